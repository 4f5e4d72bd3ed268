/-! LIST -/
def ent1 (f : Nat → Int32) (i : Nat) : List Int32 := if f (2 + 12 * i) = 0 then [] else f (2 + 12 * i) :: f (2 + 12 * i + 3) :: seg f (2 + 12 * i + 4) 8
def ents (f : Nat → Int32) : Nat → Nat → List Int32
  | _, 0 => []
  | i, n + 1 => ent1 f i ++ ents f (i + 1) n
theorem ent1_len (f : Nat → Int32) (i : Nat) : (ent1 f i).length ≤ 10 := by
  unfold ent1
  split
  · exact Nat.zero_le _
  · show (seg f (2 + 12 * i + 4) 8).length + 1 + 1 ≤ 10
    rw [seg_len]
    decide
theorem ents_len (f : Nat → Int32) : ∀ n i, (ents f i n).length ≤ 10 * n
  | 0, _ => Nat.le_refl 0
  | n + 1, i => by
    have h1 := ents_len f n (i + 1)
    have h2 := ent1_len f i
    show (ent1 f i ++ ents f (i + 1) n).length ≤ 10 * (n + 1)
    rw [List.length_append]
    omega
theorem ent1_congr {f g : Nat → Int32} {i : Nat} (h : ∀ j, j < 64 → f j = g j) (hi : i < 5) : ent1 f i = ent1 g i := by
  unfold ent1
  rw [h _ (by omega), h (2 + 12 * i + 3) (by omega), seg_congr (f := f) (g := g) 8 _ _ (fun j hj => h _ (by omega))]
theorem ents_congr {f g : Nat → Int32} (h : ∀ j, j < 64 → f j = g j) : ∀ n i, i + n ≤ 5 → ents f i n = ents g i n
  | 0, _, _ => rfl
  | n + 1, i, hi => by
    show ent1 f i ++ ents f (i + 1) n = ent1 g i ++ ents g (i + 1) n
    rw [ent1_congr h (by omega), ents_congr h n (i + 1) (by omega)]
def eall (dir : Nat → Int32) : Nat → List Int32
  | 0 => []
  | k + 1 => eall dir k ++ ents (fun j => dir (64 * k + j)) 0 5
theorem eall_len (dir : Nat → Int32) : ∀ k, (eall dir k).length ≤ 50 * k
  | 0 => Nat.le_refl 0
  | k + 1 => by
    have h1 := eall_len dir k
    have h2 := ents_len (fun j => dir (64 * k + j)) 5 0
    show (eall dir k ++ ents (fun j => dir (64 * k + j)) 0 5).length ≤ 50 * (k + 1)
    rw [List.length_append]
    omega
theorem eall_congr {dir dir' : Nat → Int32} : ∀ k, (∀ i, i < 64 * k → dir i = dir' i) → eall dir k = eall dir' k
  | 0, _ => rfl
  | k + 1, h => by
    show eall dir k ++ ents (fun j => dir (64 * k + j)) 0 5 = eall dir' k ++ ents (fun j => dir' (64 * k + j)) 0 5
    rw [eall_congr k (fun i hi => h i (by omega)), ents_congr (f := fun j => dir (64 * k + j)) (g := fun j => dir' (64 * k + j)) (fun j hj => h _ (by omega)) 5 0 (by decide)]
theorem addE_go {F : Nat} (hF : 9000 ≤ F) : ∀ (m fu i : Nat) (l : List Int32) (D : Mm), i + m = 5 → m < fu → OX l D → l.length + 10 * m ≤ 2480 → (∀ j, j < 64 → By (D 59 j)) → ∃ D1, P_X3_addEntries_2 (gN XG) F fu (nI (2 + 12 * i)) D = some (0, D1) ∧ OX (l ++ ents (D 59) i m) D1 ∧ FO D D1 := by
  have n59 : gN XG 59 = 64 := rfl
  intro m
  induction m with
  | zero =>
    intro fu i l D hi hfu ho hl hb
    obtain ⟨fu, rfl⟩ : ∃ z, fu = z + 1 := ⟨fu - 1, by omega⟩
    refine ⟨D, ?_, by rw [show ents (D 59) i 0 = [] from rfl, List.append_nil]; exact ho, FO.refl D⟩
    show (if (62 : Int32) ≤ nI (2 + 12 * i) then _ else _) = _
    rw [if_pos (show (62 : Int32) ≤ nI (2 + 12 * i) from nI_le (a := 62) (by omega) (by omega))]
  | succ m ih =>
    intro fu i l D hi hfu ho hl hb
    obtain ⟨fu, rfl⟩ : ∃ z, fu = z + 1 := ⟨fu - 1, by omega⟩
    have ex : P_X3_addEntries_2 (gN XG) F (fu + 1) (nI (2 + 12 * i)) D = (if D 59 (2 + 12 * i) = 0 then P_X3_addEntries_2 (gN XG) F fu (nI (2 + 12 * (i + 1))) D else (bi (P_X1_add (gN XG) F 67 (D 59 (2 + 12 * i)) D) (fun r5 D5 => (bi (P_X1_add (gN XG) F 67 (D5 59 (2 + 12 * i + 3)) D5) (fun r7 D7 => bi (P_X1_addRow (gN XG) F 67 59 (nI (2 + 12 * i + 4)) (nI 8) D7) (fun r8 D8 => P_X3_addEntries_2 (gN XG) F fu (nI (2 + 12 * (i + 1))) D8)))))) := by
      show (if (62 : Int32) ≤ nI (2 + 12 * i) then (some (0, D)) else (if inB (nI (2 + 12 * i)) (gN XG 59) = true then (if (D 59 (Int32.toNatClampNeg (nI (2 + 12 * i)))) = 0 then (P_X3_addEntries_2 (gN XG) F fu (nI (2 + 12 * i) + 12) D) else (if inB (nI (2 + 12 * i)) (gN XG 59) = true then (bi (P_X1_add (gN XG) F 67 (D 59 (Int32.toNatClampNeg (nI (2 + 12 * i)))) D) (fun r5 D5 => if inB (nI (2 + 12 * i) + 3) (gN XG 59) = true then (bi (P_X1_add (gN XG) F 67 (D5 59 (Int32.toNatClampNeg (nI (2 + 12 * i) + 3))) D5) (fun r7 D7 => bi (P_X1_addRow (gN XG) F 67 59 (nI (2 + 12 * i) + 4) 8 D7) (fun r8 D8 => P_X3_addEntries_2 (gN XG) F fu (nI (2 + 12 * i) + 12) D8))) else none)) else none)) else none)) = _
      have j3 : inB (nI (2 + 12 * i + 3)) 64 = true := in_nI (by omega) (by omega)
      have j0 : inB (nI (2 + 12 * i)) 64 = true := in_nI (by omega) (by omega)
      rw [if_neg (show ¬ (62 : Int32) ≤ nI (2 + 12 * i) from nI_ge (b := 62) (by omega) (by omega)), n59, show nI (2 + 12 * i) + (3 : Int32) = nI (2 + 12 * i + 3) from nI_add _ 3, show nI (2 + 12 * i) + (4 : Int32) = nI (2 + 12 * i + 4) from nI_add _ 4, show nI (2 + 12 * i) + (12 : Int32) = nI (2 + 12 * (i + 1)) from nI_add _ 12, nI_clamp (by omega), nI_clamp (by omega)]
      simp only [j0, j3, if_true]
      rfl
    rw [ex]
    by_cases c : D 59 (2 + 12 * i) = 0
    · rw [if_pos c]
      obtain ⟨D1, q1, q2, q3⟩ := ih fu (i + 1) l D (by omega) (by omega) ho (by omega) hb
      refine ⟨D1, q1, ?_, q3⟩
      rw [show ents (D 59) i (m + 1) = ent1 (D 59) i ++ ents (D 59) (i + 1) m from rfl, show ent1 (D 59) i = [] from if_pos c, List.nil_append]
      exact q2
    · rw [if_neg c]
      obtain ⟨D1, p1, p2, p3⟩ := add_ox (F := F) ho (by omega) (hb (2 + 12 * i) (by omega))
      have a1 : D1 59 = D 59 := p3 59 (by decide) (by decide)
      obtain ⟨D2, q1, q2, q3⟩ := add_ox (F := F) p2 (by rw [List.length_append]; simp; omega) (hb (2 + 12 * i + 3) (by omega))
      have a2 : D2 59 = D 59 := (q3 59 (by decide) (by decide)).trans a1
      obtain ⟨D3, r1, r2, r3⟩ := addRow_ox (F := F) (u := 59) (a := 2 + 12 * i + 4) (m := 8) (by omega) rfl (by decide) (by omega) q2 (by rw [List.length_append, List.length_append]; simp; omega) (fun j _ hj => by rw [a2]; exact hb j (by omega))
      have a3 : D3 59 = D 59 := (r3 59 (by decide) (by decide)).trans a2
      obtain ⟨D4, s1, s2, s3⟩ := ih fu (i + 1) _ D3 (by omega) (by omega) r2 (by rw [List.length_append, List.length_append, List.length_append, seg_len]; simp; omega) (by rw [a3]; exact hb)
      rw [p1, bi_s, a1, q1, bi_s, r1, bi_s, s1]
      refine ⟨D4, rfl, ?_, ((p3.trans q3).trans r3).trans s3⟩
      rw [a3, a2] at s2
      rw [show ents (D 59) i (m + 1) = ent1 (D 59) i ++ ents (D 59) (i + 1) m from rfl, show ent1 (D 59) i = D 59 (2 + 12 * i) :: D 59 (2 + 12 * i + 3) :: seg (D 59) (2 + 12 * i + 4) 8 from if_neg c]
      simpa [List.append_assoc] using s2
theorem l88_go {F q : Nat} {x1 : Int32} {k26 : Int32 → Mm → Rs} {k41 : Int32 → Int32 → Mm → Rs} (hq : q + 12 ≤ 448) : ∀ (m fu j : Nat) (l : List Int32) (D : Mm), j + m = 8 → m < fu → OM l D → l.length + m ≤ 2480 → ∃ D1, P_X8_list_88 (gN MG) F k26 k41 fu x1 (nI q) (nI j) D = k41 x1 (nI q + 12) D1 ∧ OM (l ++ seg (D 10) (q + 4 + j) m) D1 ∧ FQ D D1 := by
  have n10 : gN MG 10 = 448 := rfl
  intro m
  induction m with
  | zero =>
    intro fu j l D hj hfu ho hl
    obtain ⟨fu, rfl⟩ : ∃ z, fu = z + 1 := ⟨fu - 1, by omega⟩
    refine ⟨D, ?_, by rw [show seg (D 10) (q + 4 + j) 0 = [] from rfl, List.append_nil]; exact ho, FQ.refl D⟩
    show (if (8 : Int32) ≤ nI j then _ else _) = _
    rw [if_pos (show (8 : Int32) ≤ nI j from nI_le (a := 8) (by omega) (by omega))]
  | succ m ih =>
    intro fu j l D hj hfu ho hl
    obtain ⟨fu, rfl⟩ : ∃ z, fu = z + 1 := ⟨fu - 1, by omega⟩
    obtain ⟨D1, p1, p2, p3⟩ := tell_om (F := F) (v := D 10 (q + 4 + j)) ho (by omega)
    have e : D1 10 = D 10 := p3.1 10 (by decide) (by decide)
    obtain ⟨D2, q1, q2, q3⟩ := ih fu (j + 1) _ D1 (by omega) (by omega) p2 (by rw [List.length_append]; simp; omega)
    refine ⟨D2, ?_, ?_, p3.trans q3⟩
    · show (if (8 : Int32) ≤ nI j then _ else (if inB ((nI q + 4) + nI j) (gN MG 10) = true then (bi (P_X8_tell (gN MG) F (D 10 (Int32.toNatClampNeg ((nI q + 4) + nI j))) D) (fun r3 D3 => P_X8_list_88 (gN MG) F k26 k41 fu x1 (nI q) (nI j + 1) D3)) else none)) = _
      rw [if_neg (show ¬ (8 : Int32) ≤ nI j from nI_ge (b := 8) (by omega) (by omega)), show nI q + (4 : Int32) = nI (q + 4) from nI_add q 4, nI_add, n10, if_pos (in_nI (by omega) (by omega)), nI_clamp (by omega), p1, bi_s, nI_1, q1]
    · rw [e, List.append_assoc] at q2
      rw [show seg (D 10) (q + 4 + j) (m + 1) = D 10 (q + 4 + j) :: seg (D 10) (q + 4 + j + 1) m from rfl, show q + 4 + j + 1 = q + 4 + (j + 1) by omega]
      exact q2
theorem l41_go {F k : Nat} {k26 : Int32 → Mm → Rs} (hF : 9000 ≤ F) (hk : k < 7) : ∀ (m fu i : Nat) (l : List Int32) (D : Mm), i + m = 5 → m < fu → OM l D → l.length + 10 * m ≤ 2480 → ∃ D1, P_X8_list_41 (gN MG) F k26 fu (nI k) (nI (64 * k + (2 + 12 * i))) D = k26 (nI (k + 1)) D1 ∧ OM (l ++ ents (fun j => D 10 (64 * k + j)) i m) D1 ∧ FQ D D1 := by
  have n10 : gN MG 10 = 448 := rfl
  intro m
  induction m with
  | zero =>
    intro fu i l D hi hfu ho hl
    obtain ⟨fu, rfl⟩ : ∃ z, fu = z + 1 := ⟨fu - 1, by omega⟩
    refine ⟨D, ?_, by rw [show ents (fun j => D 10 (64 * k + j)) i 0 = [] from rfl, List.append_nil]; exact ho, FQ.refl D⟩
    show (if ((64 * nI k) + 62) ≤ nI (64 * k + (2 + 12 * i)) then k26 (nI k + 1) D else _) = _
    rw [show (64 : Int32) * nI k = nI (64 * k) from pk_mul 64 k, show nI (64 * k) + (62 : Int32) = nI (64 * k + 62) from nI_add _ 62, if_pos (nI_le (by omega) (by omega)), nI_1]
  | succ m ih =>
    intro fu i l D hi hfu ho hl
    obtain ⟨fu, rfl⟩ : ∃ z, fu = z + 1 := ⟨fu - 1, by omega⟩
    have em : P_X8_list_41 (gN MG) F k26 (fu + 1) (nI k) (nI (64 * k + (2 + 12 * i))) D = (if D 10 (64 * k + (2 + 12 * i)) = 0 then P_X8_list_41 (gN MG) F k26 fu (nI k) (nI (64 * k + (2 + 12 * (i + 1)))) D else (bi (P_X8_tell (gN MG) F (D 10 (64 * k + (2 + 12 * i))) D) (fun r8 D8 => (bi (P_X8_tell (gN MG) F (D8 10 (64 * k + (2 + 12 * i) + 3)) D8) (fun r10 D10 => P_X8_list_88 (gN MG) F k26 (fun x1 x2 D => P_X8_list_41 (gN MG) F k26 fu x1 x2 D) F (nI k) (nI (64 * k + (2 + 12 * i))) 0 D10))))) := by
      show (if ((64 * nI k) + 62) ≤ nI (64 * k + (2 + 12 * i)) then _ else (if inB (nI (64 * k + (2 + 12 * i))) (gN MG 10) = true then (if (D 10 (Int32.toNatClampNeg (nI (64 * k + (2 + 12 * i))))) = 0 then (P_X8_list_41 (gN MG) F k26 fu (nI k) (nI (64 * k + (2 + 12 * i)) + 12) D) else (if inB (nI (64 * k + (2 + 12 * i))) (gN MG 10) = true then (bi (P_X8_tell (gN MG) F (D 10 (Int32.toNatClampNeg (nI (64 * k + (2 + 12 * i))))) D) (fun r8 D8 => if inB (nI (64 * k + (2 + 12 * i)) + 3) (gN MG 10) = true then (bi (P_X8_tell (gN MG) F (D8 10 (Int32.toNatClampNeg (nI (64 * k + (2 + 12 * i)) + 3))) D8) (fun r10 D10 => P_X8_list_88 (gN MG) F k26 (fun x1 x2 D => P_X8_list_41 (gN MG) F k26 fu x1 x2 D) F (nI k) (nI (64 * k + (2 + 12 * i))) 0 D10)) else none)) else none)) else none)) = _
      have j3 : inB (nI (64 * k + (2 + 12 * i) + 3)) 448 = true := in_nI (by omega) (by omega)
      have j0 : inB (nI (64 * k + (2 + 12 * i))) 448 = true := in_nI (by omega) (by omega)
      rw [show (64 : Int32) * nI k = nI (64 * k) from pk_mul 64 k, show nI (64 * k) + (62 : Int32) = nI (64 * k + 62) from nI_add _ 62, if_neg (nI_ge (by omega) (by omega)), n10, show nI (64 * k + (2 + 12 * i)) + (3 : Int32) = nI (64 * k + (2 + 12 * i) + 3) from nI_add _ 3, show nI (64 * k + (2 + 12 * i)) + (12 : Int32) = nI (64 * k + (2 + 12 * (i + 1))) from nI_add _ 12, nI_clamp (by omega), nI_clamp (by omega)]
      simp only [j0, j3, if_true]
    rw [em]
    by_cases c : D 10 (64 * k + (2 + 12 * i)) = 0
    · rw [if_pos c]
      obtain ⟨D1, q1, q2, q3⟩ := ih fu (i + 1) l D (by omega) (by omega) ho (by omega)
      refine ⟨D1, q1, ?_, q3⟩
      rw [show ents (fun j => D 10 (64 * k + j)) i (m + 1) = ent1 (fun j => D 10 (64 * k + j)) i ++ ents (fun j => D 10 (64 * k + j)) (i + 1) m from rfl, show ent1 (fun j => D 10 (64 * k + j)) i = [] from if_pos c, List.nil_append]
      exact q2
    · rw [if_neg c]
      obtain ⟨D1, p1, p2, p3⟩ := tell_om (F := F) (v := D 10 (64 * k + (2 + 12 * i))) ho (by omega)
      have a1 : D1 10 = D 10 := p3.1 10 (by decide) (by decide)
      obtain ⟨D2, q1, q2, q3⟩ := tell_om (F := F) (v := D 10 (64 * k + (2 + 12 * i) + 3)) p2 (by rw [List.length_append]; simp; omega)
      have a2 : D2 10 = D 10 := (q3.1 10 (by decide) (by decide)).trans a1
      obtain ⟨D3, r1, r2, r3⟩ := l88_go (F := F) (q := 64 * k + (2 + 12 * i)) (x1 := nI k) (k26 := k26) (k41 := fun x1 x2 D => P_X8_list_41 (gN MG) F k26 fu x1 x2 D) (by omega) 8 F 0 _ D2 (by decide) (by omega) q2 (by rw [List.length_append, List.length_append]; simp; omega)
      have r1' : P_X8_list_88 (gN MG) F k26 (fun x1 x2 D => P_X8_list_41 (gN MG) F k26 fu x1 x2 D) F (nI k) (nI (64 * k + (2 + 12 * i))) 0 D2 = P_X8_list_41 (gN MG) F k26 fu (nI k) (nI (64 * k + (2 + 12 * i)) + 12) D3 := r1
      have a3 : D3 10 = D 10 := (r3.1 10 (by decide) (by decide)).trans a2
      obtain ⟨D4, s1, s2, s3⟩ := ih fu (i + 1) _ D3 (by omega) (by omega) r2 (by rw [List.length_append, List.length_append, List.length_append, seg_len]; simp; omega)
      rw [p1, bi_s, a1, q1, bi_s, r1', show nI (64 * k + (2 + 12 * i)) + (12 : Int32) = nI (64 * k + (2 + 12 * (i + 1))) from nI_add _ 12, s1]
      refine ⟨D4, rfl, ?_, ((p3.trans q3).trans r3).trans s3⟩
      rw [a3, a2, seg_congr (f := D 10) (g := fun j => D 10 (64 * k + j)) 8 (64 * k + (2 + 12 * i) + 4 + 0) (2 + 12 * i + 4) (fun j hj => by show D 10 _ = D 10 _; congr 1; omega)] at s2
      rw [show ents (fun j => D 10 (64 * k + j)) i (m + 1) = ent1 (fun j => D 10 (64 * k + j)) i ++ ents (fun j => D 10 (64 * k + j)) (i + 1) m from rfl, show ent1 (fun j => D 10 (64 * k + j)) i = D 10 (64 * k + (2 + 12 * i)) :: D 10 (64 * k + (2 + 12 * i + 3)) :: seg (fun j => D 10 (64 * k + j)) (2 + 12 * i + 4) 8 from if_neg c]
      rw [show 64 * k + (2 + 12 * i) + 3 = 64 * k + (2 + 12 * i + 3) by omega] at s2
      simpa [List.append_assoc] using s2
theorem l26_go {F d : Nat} (hF : 9000 ≤ F) (hd : d ≤ 7) : ∀ (m fu k : Nat) (D : Mm), k + m = d → m < fu → OM (eall (D 10) k) D → D 0 23 = nI d → ∃ D1, P_X8_list_26 (gN MG) F fu (nI k) D = some (nI (eall (D 10) d).length, D1) ∧ OM (eall (D 10) d) D1 ∧ FQ D D1 := by
  intro m
  induction m with
  | zero =>
    intro fu k D hk hfu ho h23
    obtain ⟨fu, rfl⟩ : ∃ z, fu = z + 1 := ⟨fu - 1, by omega⟩
    have e : k = d := by omega
    subst e
    refine ⟨D, ?_, ho, FQ.refl D⟩
    show (if (D 0 23) ≤ nI k then some (D 0 8, D) else _) = _
    rw [h23, if_pos (nI_le (by omega) (by omega)), ho.2.1]
  | succ m ih =>
    intro fu k D hk hfu ho h23
    obtain ⟨fu, rfl⟩ : ∃ z, fu = z + 1 := ⟨fu - 1, by omega⟩
    have hlen := eall_len (D 10) k
    obtain ⟨D1, p1, p2, p3⟩ := l41_go (F := F) (k := k) (k26 := fun x1 D => P_X8_list_26 (gN MG) F fu x1 D) hF (by omega) 5 F 0 _ D (by decide) (by omega) ho (by omega)
    have e : D1 10 = D 10 := p3.1 10 (by decide) (by decide)
    obtain ⟨D2, q1, q2, q3⟩ := ih fu (k + 1) D1 (by omega) (by omega) (by rw [e]; exact p2) (by rw [p3.2 23 (by decide)]; exact h23)
    rw [e] at q1 q2
    refine ⟨D2, ?_, q2, p3.trans q3⟩
    show (if (D 0 23) ≤ nI k then _ else (P_X8_list_41 (gN MG) F (fun x1 D => P_X8_list_26 (gN MG) F fu x1 D) F (nI k) ((64 * nI k) + 2) D)) = _
    rw [h23, if_neg (nI_ge (by omega) (by omega)), show (64 : Int32) * nI k = nI (64 * k) from pk_mul 64 k, show nI (64 * k) + (2 : Int32) = nI (64 * k + (2 + 12 * 0)) from nI_add _ 2, p1]
    exact q1
