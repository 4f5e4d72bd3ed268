/-! INFO, LIST -/
def cT (m : Nat → Int32) (t : Nat) : Nat → Nat → Nat
  | _, 0 => 0
  | s, n + 1 => (if fr m t s then 1 else 0) + cT m t (s + 1) n
theorem cT_le (m : Nat → Int32) (t : Nat) : ∀ n s, cT m t s n ≤ n
  | 0, _ => Nat.le_refl 0
  | n + 1, s => by
    have := cT_le m t n (s + 1)
    show (if fr m t s then 1 else 0) + cT m t (s + 1) n ≤ n + 1
    split <;> omega
theorem cT_congr {m m' : Nat → Int32} {t : Nat} (h : ∀ j, j < 64 → m j = m' j) (ht : t ≤ 16) : ∀ n s, s + n ≤ 9 → cT m t s n = cT m' t s n
  | 0, _, _ => rfl
  | n + 1, s, hs => by
    show (if fr m t s then 1 else 0) + cT m t (s + 1) n = (if fr m' t s then 1 else 0) + cT m' t (s + 1) n
    rw [cT_congr h ht n (s + 1) (by omega)]
    unfold fr
    rw [h _ (by omega)]
def fl (j : Nat) : Nat := [8, 7, 6, 5, 4, 3, 2, 1, 10, 11, 12, 13, 14, 15, 16].getD j 0
theorem fl_eq : ∀ j, j < 15 → tFILES j = nI (fl j) ∧ 1 ≤ fl j ∧ fl j ≤ 16 := by decide +kernel
def sumC (m : Nat → Int32) : Nat → Nat → Nat
  | _, 0 => 0
  | j, n + 1 => cT m (fl j) 0 (secN (fl j)) + sumC m (j + 1) n
def sumM (m : Nat → Int32) : Nat → Nat → Nat
  | _, 0 => 0
  | t, n + 1 => (if t = 9 then 0 else cT m t 0 (secN t)) + sumM m (t + 1) n
theorem sum_eq (m : Nat → Int32) : sumC m 0 15 = sumM m 1 16 := by
  show cT m 8 0 (secN 8) + (cT m 7 0 (secN 7) + (cT m 6 0 (secN 6) + (cT m 5 0 (secN 5) + (cT m 4 0 (secN 4) + (cT m 3 0 (secN 3) + (cT m 2 0 (secN 2) + (cT m 1 0 (secN 1) + (cT m 10 0 (secN 10) + (cT m 11 0 (secN 11) + (cT m 12 0 (secN 12) + (cT m 13 0 (secN 13) + (cT m 14 0 (secN 14) + (cT m 15 0 (secN 15) + (cT m 16 0 (secN 16) + 0)))))))))))))) = cT m 1 0 (secN 1) + (cT m 2 0 (secN 2) + (cT m 3 0 (secN 3) + (cT m 4 0 (secN 4) + (cT m 5 0 (secN 5) + (cT m 6 0 (secN 6) + (cT m 7 0 (secN 7) + (cT m 8 0 (secN 8) + (0 + (cT m 10 0 (secN 10) + (cT m 11 0 (secN 11) + (cT m 12 0 (secN 12) + (cT m 13 0 (secN 13) + (cT m 14 0 (secN 14) + (cT m 15 0 (secN 15) + (cT m 16 0 (secN 16) + 0)))))))))))))))
  omega
theorem sumM_le (m : Nat → Int32) : ∀ n t, sumM m t n ≤ 9 * n
  | 0, _ => Nat.le_refl 0
  | n + 1, t => by
    have h1 := sumM_le m n (t + 1)
    have h2 := cT_le m t (secN t) 0
    have h3 := secN_le t
    show (if t = 9 then 0 else cT m t 0 (secN t)) + sumM m (t + 1) n ≤ 9 * (n + 1)
    split <;> omega
theorem sumM_congr {m m' : Nat → Int32} (h : ∀ j, j < 64 → m j = m' j) : ∀ n t, t + n ≤ 17 → sumM m t n = sumM m' t n
  | 0, _, _ => rfl
  | n + 1, t, ht => by
    have h3 := secN_le t
    show (if t = 9 then 0 else cT m t 0 (secN t)) + sumM m (t + 1) n = (if t = 9 then 0 else cT m' t 0 (secN t)) + sumM m' (t + 1) n
    rw [sumM_congr h n (t + 1) (by omega), cT_congr h (by omega) _ _ (by omega)]
theorem fb34_go {F t : Nat} {x3 x4 : Int32} {k12 : Int32 → Int32 → Int32 → Mm → Rs} {D : Mm} (h1 : 1 ≤ t) (ht : t ≤ 16) : ∀ (m fu s acc : Nat), s + m = secN t → m < fu → P_X4_freeBlocks_34 (gN XG) F k12 fu (nI acc) x3 x4 (nI t) (nI (secN t)) (nI s) D = k12 (nI (acc + cT (D 57) t s m)) x3 (x4 + 1) D := by
  have hn := secN_le t
  intro m
  induction m with
  | zero =>
    intro fu s acc hs hfu
    obtain ⟨fu, rfl⟩ : ∃ z, fu = z + 1 := ⟨fu - 1, by omega⟩
    show (if nI (secN t) ≤ nI s then _ else _) = _
    rw [if_pos (nI_le (by omega) (by omega))]
    rfl
  | succ m ih =>
    intro fu s acc hs hfu
    obtain ⟨fu, rfl⟩ : ∃ z, fu = z + 1 := ⟨fu - 1, by omega⟩
    show (if nI (secN t) ≤ nI s then _ else (bi (P_X4_isFree (gN XG) F (nI t) (nI s) D) (fun r2 D2 => if r2 = 0 then (P_X4_freeBlocks_34 (gN XG) F k12 fu (nI acc + 0) x3 x4 (nI t) (nI (secN t)) (nI s + 1) D2) else (P_X4_freeBlocks_34 (gN XG) F k12 fu (nI acc + 1) x3 x4 (nI t) (nI (secN t)) (nI s + 1) D2)))) = k12 (nI (acc + ((if fr (D 57) t s then 1 else 0) + cT (D 57) t (s + 1) m))) x3 (x4 + 1) D
    rw [if_neg (nI_ge (by omega) (by omega)), xfree_eq D ⟨h1, ht, by omega⟩, bi_s, add0, nI_1, nI_1]
    by_cases c : fr (D 57) t s = true
    · rw [if_pos c, if_pos c, if_neg (by decide), ih fu (s + 1) (acc + 1) (by omega) (by omega), show acc + 1 + cT (D 57) t (s + 1) m = acc + (1 + cT (D 57) t (s + 1) m) by omega]
    · rw [if_neg c, if_neg c, if_pos rfl, ih fu (s + 1) acc (by omega) (by omega), Nat.zero_add]
theorem fb12_go {F : Nat} {D : Mm} (hF : 9000 ≤ F) : ∀ (m fu j acc : Nat), j + m = 15 → m < fu → P_X4_freeBlocks_12 (gN XG) F fu (nI acc) 15 (nI j) D = some (nI (acc + sumC (D 57) j m), D) := by
  intro m
  induction m with
  | zero =>
    intro fu j acc hj hfu
    obtain ⟨fu, rfl⟩ : ∃ z, fu = z + 1 := ⟨fu - 1, by omega⟩
    show (if (15 : Int32) ≤ nI j then _ else _) = _
    rw [if_pos (show (15 : Int32) ≤ nI j from nI_le (a := 15) (by omega) (by omega))]
    rfl
  | succ m ih =>
    intro fu j acc hj hfu
    obtain ⟨fu, rfl⟩ : ∃ z, fu = z + 1 := ⟨fu - 1, by omega⟩
    obtain ⟨f1, f2, f3⟩ := fl_eq j (by omega)
    have hn := secN_le (fl j)
    show (if (15 : Int32) ≤ nI j then _ else (if inB (nI j) 15 = true then (P_X4_freeBlocks_24 (gN XG) F (fun x1 x3 x4 D => P_X4_freeBlocks_12 (gN XG) F fu x1 x3 x4 D) (nI acc) 15 (nI j) (tFILES (Int32.toNatClampNeg (nI j))) D) else none)) = some (nI (acc + (cT (D 57) (fl j) 0 (secN (fl j)) + sumC (D 57) (j + 1) m)), D)
    rw [if_neg (show ¬ (15 : Int32) ≤ nI j from nI_ge (b := 15) (by omega) (by omega)), if_pos (in_nI (by omega) (by omega)), nI_clamp (by omega), f1]
    unfold P_X4_freeBlocks_24
    rw [xsectorsOf_eq D f2 f3, bi_s]
    have g := fb34_go (F := F) (x3 := 15) (x4 := nI j) (k12 := fun x1 x3 x4 D => P_X4_freeBlocks_12 (gN XG) F fu x1 x3 x4 D) (D := D) f2 f3 (secN (fl j)) F 0 acc (by omega) (by omega)
    refine Eq.trans g ?_
    show P_X4_freeBlocks_12 (gN XG) F fu (nI (acc + cT (D 57) (fl j) 0 (secN (fl j)))) 15 (nI j + 1) D = _
    rw [nI_1, ih fu (j + 1) _ (by omega) (by omega), Nat.add_assoc]
theorem if53_go {F t : Nat} {k45 : Int32 → Int32 → Mm → Rs} {D : Mm} (h1 : 1 ≤ t) (ht : t ≤ 16) : ∀ (m fu s acc : Nat), s + m = secN t → m < fu → P_X8_info_53 (gN MG) F k45 fu (nI acc) (nI t) (nI s) D = k45 (nI (acc + (if t = 9 then 0 else cT (D 9) t s m))) (nI t + 1) D := by
  have hn := secN_le t
  intro m
  induction m with
  | zero =>
    intro fu s acc hs hfu
    obtain ⟨fu, rfl⟩ : ∃ z, fu = z + 1 := ⟨fu - 1, by omega⟩
    show bi (P_X8_sectorsOf (gN MG) F (nI t) D) _ = _
    rw [msectorsOf_eq D ht, bi_s, if_pos (nI_le (by omega) (by omega)), show cT (D 9) t s 0 = 0 from rfl, ite_self]
    rfl
  | succ m ih =>
    intro fu s acc hs hfu
    obtain ⟨fu, rfl⟩ : ∃ z, fu = z + 1 := ⟨fu - 1, by omega⟩
    show bi (P_X8_sectorsOf (gN MG) F (nI t) D) (fun r1 D1 => if r1 ≤ nI s then (k45 (nI acc) (nI t + 1) D1) else (if nI t = 9 then (P_X8_info_53 (gN MG) F k45 fu (nI acc + 0) (nI t) (nI s + 1) D1) else (bi (P_X8_isFree (gN MG) F (nI t) (nI s) D1) (fun r4 D4 => if r4 = 0 then (P_X8_info_53 (gN MG) F k45 fu (nI acc + 0) (nI t) (nI s + 1) D4) else (P_X8_info_53 (gN MG) F k45 fu (nI acc + 1) (nI t) (nI s + 1) D4))))) = k45 (nI (acc + (if t = 9 then 0 else ((if fr (D 9) t s then 1 else 0) + cT (D 9) t (s + 1) m)))) (nI t + 1) D
    rw [msectorsOf_eq D ht, bi_s, if_neg (nI_ge (by omega) (by omega)), add0, nI_1, nI_1]
    by_cases c9 : t = 9
    · subst c9
      have i9 := ih fu (s + 1) acc (by omega) (by omega)
      rw [if_pos rfl] at i9
      rw [if_pos (show nI 9 = 9 from rfl), if_pos rfl, i9]
    · have n9 : ¬ nI t = 9 := fun q => by
        have a := (nI_leI (a := 9) (b := t) (by omega) (by omega)).mp (by rw [q]; decide)
        have b := (nI_leI (a := t) (b := 9) (by omega) (by omega)).mp (by rw [q]; decide)
        omega
      rw [if_neg n9, if_neg c9, mfree_eq D ⟨h1, ht, by omega⟩, bi_s]
      by_cases c : fr (D 9) t s = true
      · rw [if_pos c, if_pos c, if_neg (by decide), ih fu (s + 1) (acc + 1) (by omega) (by omega), if_neg c9, show acc + 1 + cT (D 9) t (s + 1) m = acc + (1 + cT (D 9) t (s + 1) m) by omega]
      · rw [if_neg c, if_neg c, if_pos rfl, ih fu (s + 1) acc (by omega) (by omega), if_neg c9, Nat.zero_add]
theorem if45_go {F : Nat} {D : Mm} (hF : 9000 ≤ F) : ∀ (m fu t acc : Nat), t + m = 17 → 1 ≤ t → m < fu → P_X8_info_45 (gN MG) F fu (nI acc) (nI t) D = bi (P_X8_tell (gN MG) F (nI (acc + sumM (D 9) t m)) D) (fun r7 D7 => some (D7 0 8, D7)) := by
  intro m
  induction m with
  | zero =>
    intro fu t acc ht h1 hfu
    obtain ⟨fu, rfl⟩ : ∃ z, fu = z + 1 := ⟨fu - 1, by omega⟩
    show (if (16 : Int32) < nI t then _ else _) = _
    rw [if_pos (show (16 : Int32) < nI t from nI_lt (a := 16) (by omega) (by omega))]
    rfl
  | succ m ih =>
    intro fu t acc ht h1 hfu
    obtain ⟨fu, rfl⟩ : ∃ z, fu = z + 1 := ⟨fu - 1, by omega⟩
    have hn := secN_le t
    show (if (16 : Int32) < nI t then _ else (P_X8_info_53 (gN MG) F (fun x1 x2 D => P_X8_info_45 (gN MG) F fu x1 x2 D) F (nI acc) (nI t) 0 D)) = bi (P_X8_tell (gN MG) F (nI (acc + ((if t = 9 then 0 else cT (D 9) t 0 (secN t)) + sumM (D 9) (t + 1) m))) D) (fun r7 D7 => some (D7 0 8, D7))
    rw [if_neg (show ¬ (16 : Int32) < nI t from nI_nlt (a := 16) (by omega) (by omega))]
    have g := if53_go (F := F) (k45 := fun x1 x2 D => P_X8_info_45 (gN MG) F fu x1 x2 D) (D := D) h1 (by omega) (secN t) F 0 acc (by omega) (by omega)
    refine Eq.trans g ?_
    show P_X8_info_45 (gN MG) F fu _ (nI t + 1) D = _
    rw [nI_1, ih fu (t + 1) _ (by omega) (by omega) (by omega), Nat.add_assoc]
theorem if16_go {F : Nat} : ∀ (m fu i : Nat) (l : List Int32) (D : Mm), i + m = 10 → m < fu → OM l D → l.length + m ≤ 2480 → ∃ D1, P_X8_info_16 (gN MG) F fu (nI i) D = P_X8_info_45 (gN MG) F F 0 1 D1 ∧ OM (l ++ seg (D 9) (40 + i) m) D1 ∧ FQ D D1 := by
  have n9 : gN MG 9 = 64 := rfl
  intro m
  induction m with
  | zero =>
    intro fu i l D hi hfu ho hl
    obtain ⟨fu, rfl⟩ : ∃ z, fu = z + 1 := ⟨fu - 1, by omega⟩
    refine ⟨D, ?_, by rw [show seg (D 9) (40 + i) 0 = [] from rfl, List.append_nil]; exact ho, FQ.refl D⟩
    show (if (10 : Int32) ≤ nI i then _ else _) = _
    rw [if_pos (show (10 : Int32) ≤ nI i from nI_le (a := 10) (by omega) (by omega))]
  | succ m ih =>
    intro fu i l D hi hfu ho hl
    obtain ⟨fu, rfl⟩ : ∃ z, fu = z + 1 := ⟨fu - 1, by omega⟩
    obtain ⟨D1, p1, p2, p3⟩ := tell_om (F := F) (v := D 9 (40 + i)) ho (by omega)
    have e9 : D1 9 = D 9 := p3.1 9 (by decide) (by decide)
    obtain ⟨D2, q1, q2, q3⟩ := ih fu (i + 1) _ D1 (by omega) (by omega) p2 (by rw [List.length_append]; simp; omega)
    refine ⟨D2, ?_, ?_, p3.trans q3⟩
    · show (if (10 : Int32) ≤ nI i then _ else (if inB (40 + nI i) (gN MG 9) = true then (bi (P_X8_tell (gN MG) F (D 9 (Int32.toNatClampNeg (40 + nI i))) D) (fun r10 D10 => P_X8_info_16 (gN MG) F fu (nI i + 1) D10)) else none)) = _
      rw [if_neg (show ¬ (10 : Int32) ≤ nI i from nI_ge (b := 10) (by omega) (by omega)), show (40 : Int32) + nI i = nI (40 + i) from nI_add 40 i, n9, if_pos (in_nI (by omega) (by omega)), nI_clamp (by omega), p1, bi_s, nI_1, q1]
    · rw [e9, List.append_assoc] at q2
      rw [show seg (D 9) (40 + i) (m + 1) = D 9 (40 + i) :: seg (D 9) (40 + i + 1) m from rfl, show 40 + i + 1 = 40 + (i + 1) by omega]
      exact q2
theorem seg_app (f : Nat → Int32) : ∀ m n a, seg f a (m + n) = seg f a m ++ seg f (a + m) n
  | 0, n, a => by rw [Nat.zero_add]; rfl
  | m + 1, n, a => by
    rw [show m + 1 + n = (m + n) + 1 by omega]
    show f a :: seg f (a + 1) (m + n) = f a :: (seg f (a + 1) m ++ seg f (a + (m + 1)) n)
    rw [seg_app f m n (a + 1), show a + 1 + m = a + (m + 1) by omega]
theorem sim_info {F : Nat} (hF : 9000 ≤ F) : Sim_info Rel F := by
  intro Dx Dm h
  obtain ⟨hc, hid, hst, htp, hou, h69, hsm⟩ := id h
  obtain ⟨X, hX⟩ : ∃ z, z = up2 Dx 67 1 0 := ⟨_, rfl⟩
  obtain ⟨M, hM⟩ : ∃ z, z = up2 Dm 0 8 0 := ⟨_, rfl⟩
  have gx : ∀ c, c ≠ 67 → X c = Dx c := fun c q => by rw [hX, up2_o q]
  have gm : ∀ c, c ≠ 0 → M c = Dm c := fun c q => by rw [hM, up2_o q]
  have gm0 : ∀ k, k ≠ 8 → M 0 k = Dm 0 k := fun k q => by rw [hM, up2_app, if_neg (by omega)]
  have hc0 : Core X M := hc.ups (fun c a b => gx c (by omega)) (fun c a b => gm c (by omega)) (fun k hk => gm0 k (by omega))
  have ox : OX [] X := by rw [hX]; exact OX.zero Dx
  have om : OM [] M := by rw [hM]; exact OM.zero Dm
  obtain ⟨e, b0, D1, E1, p1, p2, p3, p4, p5, p6, p7, p8⟩ := open_sim (F := F) hF hc0 (by rw [gx 2 (by decide)]; exact hid)
  unfold P_X7_info P_X8_info
  rw [← hX, ← hM, p1, bi_s, p2, bi_s]
  have ox1 := ox.keep (p6.2 67 (by decide) (by decide)) (p6.2 68 (by decide) (by decide))
  have om1 := om.keep (p7.2 8 (by decide) (by decide)) (p7.1 6 (by decide) (by decide) (by decide) (by decide))
  have fin : ∀ (D E : Mm) (l : List Int32), FO D1 D → FQ E1 E → OX l D → OM l E → Rel D E := by
    intro D E l fo fq o1 o2
    refine h.asm (p3.ups (fun c a b => fo c (by omega) (by omega)) (fun c a b => fq.1 c (by omega) (by omega)) (fun k hk => fq.2 k (by omega))) (by rw [fo 2 (by decide) (by decide), p6.1, gx 2 (by decide)]) (fun c hc => by rw [fo c (by omega) (by omega), p6.2 c (by omega) (by rcases hc with q | q | q <;> rw [q] <;> decide), gx c (by omega)]) ?_ (htp.keep (by rw [fo 65 (by decide) (by decide), p6.2 65 (by decide) (by decide), gx 65 (by decide)]) (by rw [fo 66 (by decide) (by decide), p6.2 66 (by decide) (by decide), gx 66 (by decide)]) (by rw [fq.2 6 (by decide), p7.2 6 (by decide) (by decide), gm0 6 (by decide)]) (by rw [fq.1 5 (by decide) (by decide), p7.1 5 (by decide) (by decide) (by decide) (by decide), gm 5 (by decide)])) (o1.ou o2)
    unfold Stt at p4 ⊢
    rw [fo 1 (by decide) (by decide), fq.2 9 (by decide), fq.2 10 (by decide), fq.2 11 (by decide)]
    exact p4
  rcases p8 with ⟨rfl, rfl, i1, i2⟩ | ⟨z1, rfl⟩
  · rw [if_pos rfl, if_neg (by decide)]
    obtain ⟨D2, q1, q2, q3⟩ := addRow_ox (F := F) (u := 57) (a := 40) (m := 8) (by omega) rfl (by decide) (by decide) ox1 (by decide) (fun j _ hj => (i2 j (by omega)).2)
    have r57 : D2 57 = D1 57 := q3 57 (by decide) (by decide)
    obtain ⟨D3, s1, s2, s3⟩ := addRow_ox (F := F) (u := 57) (a := 48) (m := 2) (by omega) rfl (by decide) (by decide) q2 (by rw [List.length_append, seg_len]; decide) (fun j _ hj => by rw [r57]; exact (i2 j (by omega)).2)
    have r57b : D3 57 = D1 57 := (s3 57 (by decide) (by decide)).trans r57
    rw [r57, List.append_assoc, ← seg_app (D1 57) 8 2 40] at s2
    have q1' : P_X1_addRow (gN XG) F 67 57 40 8 D1 = some (0, D2) := q1
    have s1' : P_X1_addRow (gN XG) F 67 57 48 2 D2 = some (0, D3) := s1
    have fb : P_X4_freeBlocks (gN XG) F D3 = some (nI (sumC (D3 57) 0 15), D3) := by
      have := fb12_go (F := F) (D := D3) hF 15 F 0 0 (by decide) (by omega)
      rw [Nat.zero_add] at this
      exact this
    have hle := sumM_le (D1 57) 16 1
    have hcg : sumM (D1 57) 1 16 = sumM (E1 9) 1 16 := sumM_congr (fun j hj => (i2 j hj).1) 16 1 (by decide)
    rw [sum_eq, r57b] at fb
    obtain ⟨D4, u1, u2, u3⟩ := add_ox (F := F) (v := nI (sumM (D1 57) 1 16)) s2 (by rw [List.length_append, seg_len]; decide) (By_nI (by omega))
    obtain ⟨E2, v1, v2, v3⟩ := if16_go (F := F) 10 F 0 [] E1 (by decide) (by omega) om1 (by decide)
    have v1' : P_X8_info_16 (gN MG) F F 0 E1 = _ := v1
    have w1 := if45_go (F := F) (D := E2) hF 16 F 1 0 (by decide) (by decide) (by omega)
    have w1' : P_X8_info_45 (gN MG) F F 0 1 E2 = _ := w1
    rw [Nat.zero_add, v3.1 9 (by decide) (by decide), ← hcg] at w1'
    rw [seg_congr (f := E1 9) (g := D1 57) 10 (40 + 0) 40 (fun j hj => (i2 (40 + j) (by omega)).1.symm)] at v2
    obtain ⟨E3, x1, x2, x3⟩ := tell_om (F := F) (v := nI (sumM (D1 57) 1 16)) v2 (by rw [List.length_append, seg_len]; decide)
    rw [q1', bi_s, s1', bi_s, fb, bi_s, u1, bi_s, v1', w1', x1, bi_s]
    unfold P_X7_outputOr
    rw [if_pos rfl, bi_s, u2.2.1, x2.2.1]
    exact ⟨_, D4, E3, rfl, rfl, fin D4 E3 _ ((q3.trans s3).trans u3) (v3.trans x3) u2 x2⟩
  · rw [if_neg z1, if_pos rfl]
    unfold P_X7_outputOr
    rw [if_neg z1, bi_s]
    refine ⟨-1, _, E1, rfl, rfl, fin _ E1 [] (fun c a b => up2_o a) (FQ.refl E1) (OX.zero D1) om1⟩
