/-! WRITEB: writing a block, whole -/
theorem pdata_go {F t a u : Nat} (hF : 100 ≤ F) (h1 : 1 ≤ t) (ht : t ≤ 16) (ha : a + 2000 < 2 ^ 30) (hu : 55 ≤ u) (hNu : gN XG u = 64) : ∀ (m fx fm i : Nat) (S : Int32) (Dx Dm : Mm), i + m = 64 → m < fx → m < fm → WS t (a + 10 + 10 * i) Dx Dm → (∀ j, j < 64 → Dx u j = Dm 8 j) → ∃ (Dx1 Dm0 Dm1 : Mm), P_X5_putData_26 (gN XG) F (3 * t + 1) u fx (nI (a + 10 * i)) S (nI i) Dx = some (0, Dx1) ∧ P_X8_putData_14 (gN MG) F fm S (nI i) Dm = some (0, Dm0) ∧ P_X8_putBits (gN MG) F 85 8 Dm0 = some (0, Dm1) ∧ WS t (a + 668) Dx1 Dm1 ∧ WX t Dx Dx1 ∧ WM Dm Dm1 := by
  have hb := byN_le t
  intro m
  induction m with
  | zero =>
    intro fx fm i S Dx Dm hi hfx hfm hW hdat
    have hi : i = 64 := by omega
    subst hi
    obtain ⟨fx, rfl⟩ : ∃ z, fx = z + 1 := ⟨fx - 1, by omega⟩
    obtain ⟨fm, rfl⟩ : ∃ z, fm = z + 1 := ⟨fm - 1, by omega⟩
    have hRx := fun (D : Mm) (h : TrX D) => (h t h1 ht).1
    obtain ⟨D1, E1, p1, q1, w1, x1, m1⟩ := wstep h1 ht hW (putCoded_op (F := F) (a := a + 10 + 10 * 64) (v := S) (hRx _ hW.1) (by omega)) (mputCoded_op (F := F) (v := S) hF h1 ht hW.2.2.2.1 (by omega) hW.2.2.2.2.1 hW.2.2.2.2.2)
    obtain ⟨D2, E2, p2, q2, w2, x2, m2⟩ := wstep h1 ht w1 (putBits_eq (F := F) (w := 8) (v := 85) (hRx _ w1.1) (show a + 10 + 10 * 64 + 10 < 2 ^ 30 by omega) (by omega) (by omega) mask8) (mputBits_eq (N := gN MG) (F := F) (w := 8) (v := 85) hF h1 ht w1.2.2.2.1.1 (by omega) (by omega) (by omega) w1.2.2.2.2.1 w1.2.2.2.2.2)
    refine ⟨D2, E1, E2, ?_, ?_, q2, w2, x1.trans x2, m1.trans m2⟩
    · show (if (64 : Int32) ≤ nI 64 then (P_X5_putData_67 (gN XG) F (3 * t + 1) u (nI (a + 10 * 64)) S Dx) else _) = _
      rw [if_pos (by decide)]
      unfold P_X5_putData_67
      have e1 : nI (a + 10 * 64) + (10 : Int32) = nI (a + 10 + 10 * 64) := by rw [show (10 : Int32) = nI 10 from rfl, nI_add]
      have e2 : nI (a + 10 * 64) + (20 : Int32) = nI (a + 10 + 10 * 64 + 10) := by rw [show (20 : Int32) = nI 20 from rfl, nI_add]
      rw [e1, e2, p1, bi_s]
      show bi (P_X5_putBits (gN XG) F (3 * t + 1) (nI (a + 10 + 10 * 64 + 10)) (nI 8) 85 D1) _ = _
      rw [p2, bi_s]
    · show (if (64 : Int32) ≤ nI 64 then (bi (P_X8_putCoded (gN MG) F S Dm) (fun r2 D2 => some (0, D2))) else _) = _
      rw [if_pos (by decide), q1, bi_s]
  | succ m ih =>
    intro fx fm i S Dx Dm hi hfx hfm hW hdat
    obtain ⟨fx, rfl⟩ : ∃ z, fx = z + 1 := ⟨fx - 1, by omega⟩
    obtain ⟨fm, rfl⟩ : ∃ z, fm = z + 1 := ⟨fm - 1, by omega⟩
    have hRx := fun (D : Mm) (h : TrX D) => (h t h1 ht).1
    obtain ⟨D1, E1, p1, q1, w1, x1, m1⟩ := wstep h1 ht hW (putCoded_op (F := F) (a := a + 10 + 10 * i) (v := Dm 8 i) (hRx _ hW.1) (by omega)) (mputCoded_op (F := F) (v := Dm 8 i) hF h1 ht hW.2.2.2.1 (by omega) hW.2.2.2.2.1 hW.2.2.2.2.2)
    have ux : D1 u = Dx u := x1 u (by omega) (by omega)
    have um : E1 8 = Dm 8 := m1.1 8 (by decide) (by decide)
    obtain ⟨D2, E2, E3, g1, g2, g3, g4, g5, g6⟩ := ih fx fm (i + 1) (S ^^^ Dm 8 i) D1 E1 (by omega) (by omega) (by omega) (by rw [show a + 10 + 10 * (i + 1) = a + 10 + 10 * i + 10 by omega]; exact w1) (by rw [ux, um]; exact hdat)
    refine ⟨D2, E2, E3, ?_, ?_, g3, g4, x1.trans g5, m1.trans g6⟩
    · show (if (64 : Int32) ≤ nI i then _ else (if nI (gN XG u) ≤ nI i then _ else (if inB (nI i) (gN XG u) = true then (bi (P_X5_putCoded (gN XG) F (3 * t + 1) (nI (a + 10 * i) + 10) (Dx u (Int32.toNatClampNeg (nI i))) Dx) (fun r6 D6 => if inB (nI i) (gN XG u) = true then (P_X5_putData_61 (gN XG) F (3 * t + 1) u (fun x3 x4 x5 D => P_X5_putData_26 (gN XG) F (3 * t + 1) u fx x3 x4 x5 D) (nI (a + 10 * i) + 10) (S ^^^ (D6 u (Int32.toNatClampNeg (nI i)))) (nI i) D6) else none)) else none))) = _
      have e1 : nI (a + 10 * i) + (10 : Int32) = nI (a + 10 + 10 * i) := by rw [show (10 : Int32) = nI 10 from rfl, nI_add]; congr 1; omega
      rw [if_neg (show ¬ (64 : Int32) ≤ nI i from nI_ge (b := 64) (by omega) (by omega)), hNu, if_neg (nI_ge (by omega) (by omega)), if_pos (in_nI (by omega) (by omega)), nI_clamp (by omega), e1, hdat i (by omega), p1, bi_s, if_pos (in_nI (by omega) (by omega)), ux, hdat i (by omega)]
      unfold P_X5_putData_61
      rw [nI_1, show a + 10 + 10 * i = a + 10 * (i + 1) by omega]
      exact g1
    · show (if (64 : Int32) ≤ nI i then _ else (if inB (nI i) (gN MG 8) = true then (bi (P_X8_putCoded (gN MG) F (Dm 8 (Int32.toNatClampNeg (nI i))) Dm) (fun r4 D4 => if inB (nI i) (gN MG 8) = true then (P_X8_putData_39 (gN MG) F (fun x1 x2 D => P_X8_putData_14 (gN MG) F fm x1 x2 D) (S ^^^ (D4 8 (Int32.toNatClampNeg (nI i)))) (nI i) D4) else none)) else none)) = _
      have hN8 : gN MG 8 = 64 := hW.2.2.2.1.2.2.2.2.1
      rw [if_neg (show ¬ (64 : Int32) ≤ nI i from nI_ge (b := 64) (by omega) (by omega)), hN8, if_pos (in_nI (by omega) (by omega)), nI_clamp (by omega), q1, bi_s, if_pos (in_nI (by omega) (by omega)), um]
      unfold P_X8_putData_39
      rw [nI_1]
      exact g2
theorem pdata_sim {F t a u : Nat} {Dx Dm : Mm} (hF : 100 ≤ F) (h1 : 1 ≤ t) (ht : t ≤ 16) (ha : a + 3000 < 2 ^ 30) (hu : 55 ≤ u) (hNu : gN XG u = 64) (hW : WS t (a + 108) Dx Dm) (hdat : ∀ j, j < 64 → Dx u j = Dm 8 j) : ∃ (Dx1 Dm0 Dm1 : Mm), P_X5_putData (gN XG) F (3 * t + 1) u (nI a) Dx = some (0, Dx1) ∧ P_X8_putData (gN MG) F Dm = some (0, Dm0) ∧ P_X8_putBits (gN MG) F 85 8 Dm0 = some (0, Dm1) ∧ WS t (a + 816) Dx1 Dm1 ∧ WX t Dx Dx1 ∧ WM Dm Dm1 := by
  have hb := byN_le t
  have hRx := fun (D : Mm) (h : TrX D) => (h t h1 ht).1
  obtain ⟨D1, E1, p1, q1, w1, x1, m1⟩ := wstep h1 ht hW (putSync_op (F := F) hF (by omega) (by omega) (hRx _ hW.1)) (mputSync_op (F := F) hF h1 ht hW.2.2.2.1 (by omega) hW.2.2.2.2.1 hW.2.2.2.2.2)
  obtain ⟨D2, E2, p2, q2, w2, x2, m2⟩ := wstep h1 ht w1 (putCoded_op (F := F) (v := 7) (hRx _ w1.1) (by omega)) (mputCoded_op (F := F) (v := 7) hF h1 ht w1.2.2.2.1 (by omega) w1.2.2.2.2.1 w1.2.2.2.2.2)
  have ux : D2 u = Dx u := (x1.trans x2) u (by omega) (by omega)
  have um : E2 8 = Dm 8 := (m1.trans m2).1 8 (by decide) (by decide)
  obtain ⟨D3, E3, E4, g1, g2, g3, g4, g5, g6⟩ := pdata_go (a := a + 148) hF h1 ht (by omega) hu hNu 64 F F 0 0 D2 E2 (by omega) (by omega) (by omega) w2 (by rw [ux, um]; exact hdat)
  refine ⟨D3, E3, E4, ?_, ?_, g3, g4, (x1.trans x2).trans g5, (m1.trans m2).trans g6⟩
  · unfold P_X5_putData
    have e1 : nI a + (108 : Int32) = nI (a + 108) := nI_add a 108
    have e2 : nI (a + 108) + (40 : Int32) = nI (a + 108 + 40) := nI_add _ 40
    rw [e1, p1, bi_s, e2, p2, bi_s]
    exact g1
  · unfold P_X8_putData
    rw [q1, bi_s, q2, bi_s]
    exact g2
def WbX (Dx D1 : Mm) : Prop := (∀ c, (c ≤ 1 ∨ 52 ≤ c) → D1 c = Dx c) ∧ D1 2 3 = Dx 2 3
def WbM (Dm D1 : Mm) : Prop := (∀ c, c ≠ 0 → c ≠ 1 → c ≠ 7 → D1 c = Dm c) ∧ ∀ k, k ≠ 13 → k ≠ 14 → k ≠ 16 → k ≠ 17 → k ≠ 29 → k ≠ 30 → D1 0 k = Dm 0 k
theorem write_sim {Dx Dm : Mm} {F t s u : Nat} (hF : 9000 ≤ F) (h1 : 1 ≤ t) (ht : t ≤ 16) (hs : s < secN t) (hu : 55 ≤ u) (hNu : gN XG u = 64) (hid : ¬ Dx 2 3 = -1) (hc : Core Dx Dm) (hdat : ∀ j, j < 64 → Dx u j = Dm 8 j) : ∃ (e : Int32) (Dx1 Dm1 : Mm), P_X0_writeBlock (gN XG) F u (nI t) (nI s) Dx = some (e, Dx1) ∧ P_X8_writeBlock (gN MG) F (nI t) (nI s) Dm = some (e, Dm1) ∧ Core Dx1 Dm1 ∧ WbX Dx Dx1 ∧ WbM Dm Dm1 ∧ (e = 0 ∨ isErr e) := by
  have hsec := secN_le t
  obtain ⟨l, r, e, D1, E1, hl, s1, s2, sx, sm, hcase⟩ := seek_sim (s := s) hF h1 ht (by omega) hc
  have hc1 : Core D1 E1 := hc.sk h1 ht hl sx sm
  have hb := byN_le t
  have hlen := SY_len (f := mbit (Dm 1) (stN t)) (L := 8 * byN t)
  rw [← hl] at hlen
  obtain ⟨c1, c2, c3, c4⟩ := hc1.2.2.2.2
  unfold P_X0_writeBlock P_X8_writeBlock
  rw [ringOf_eq t h1 ht]
  show ∃ (e : Int32) (Dx1 Dm1 : Mm), (if Dx 2 3 = -1 then _ else (bi (P_X0_isBlock (gN XG) F (nI t) (nI s) Dx) (fun r4 D4 => if r4 = 0 then (some (66, D4)) else (bi (P_X0_seek (gN XG) F (3 * t + 1) (nI t) (nI s) D4) (fun r6 D6 => if 0 ≤ r6 then (bi (P_X5_startOf (gN XG) F (3 * t + 1) r6 D6) (fun r8 D8 => bi (P_X5_putData (gN XG) F (3 * t + 1) u r8 D8) (fun r9 D9 => some (0, up2 D9 2 5 ((D9 2 5) + 1))))) else (some (-r6, up2 D6 2 6 ((D6 2 6) + 1)))))))) = some (e, Dx1) ∧ _
  rw [if_neg hid, xisBlock_eq Dx h1 ht hs, bi_s, if_neg (by decide), s1, bi_s, s2, bi_s]
  rcases hcase with ⟨he, i, hi, hr, hm17⟩ | ⟨he, hr⟩
  · subst he
    subst hr
    have hlt : l[i] < 8 * byN t := by
      have h := SY_lt (f := mbit (Dm 1) (stN t)) (L := 8 * byN t) (j := i) (by rw [← hl]; exact hi)
      simp only [← hl] at h
      exact h
    have est : P_X5_startOf (gN XG) F (3 * t + 1) (nI i) D1 = some (nI l[i], D1) := by
      unfold P_X5_startOf
      have := xn2 t h1 ht
      rw [if_neg (nI_pos (by omega)), sx.2.2.1, if_neg (nI_ge (by omega) (by omega)), show 3 * t + 1 + 2 = 3 * t + 3 by omega, this, if_pos (in_nI (by omega) (by omega)), nI_clamp (by omega), sx.2.2.2.2 i hi]
    rw [if_pos (nI_pos' (by omega)), est, bi_s, if_pos rfl]
    unfold P_X8_writeBlock_21
    rw [if_pos (by decide), add0, up2_id rfl]
    have e17 : up2 E1 0 29 (nI t) 0 17 = nI i := by rw [up2_app, if_neg (by omega)]; exact hm17
    have e7 : up2 E1 0 29 (nI t) 7 i = nI l[i] := by rw [up2_o (by decide)]; exact sm.2.2.2 i hi
    have e108 : nI l[i] + (108 : Int32) = nI (l[i] + 108) := nI_add _ 108
    rw [e17, hc1.2.2.2.1.2.2.2.1, if_pos (in_nI (by omega) (by omega)), nI_clamp (by omega), e7, e108]
    have hW : WS t (l[i] + 108) D1 (up2 (up2 E1 0 29 (nI t)) 0 30 (nI (l[i] + 108))) := by
      refine ⟨hc1.1, fun v a b q hq => ?_, fun j => ?_, (hc1.2.2.2.1.up (by decide) (by decide)).up (by decide) (by decide), ?_, ?_⟩
      · rw [up2_o (by decide), up2_o (by decide)]; exact hc1.2.1 v a b q hq
      · rw [up2_o (by decide), up2_o (by decide)]; exact hc1.2.2.1 j
      · rw [up2_app, if_neg (by omega), up2_app, if_pos ⟨rfl, rfl⟩]
      · rw [up2_app, if_pos ⟨rfl, rfl⟩]
    have hdat1 : ∀ j, j < 64 → D1 u j = up2 (up2 E1 0 29 (nI t)) 0 30 (nI (l[i] + 108)) 8 j := by
      intro j hj
      rw [sx.1 u (by omega) (by omega), up2_o (by decide), up2_o (by decide), sm.1 8 (by decide) (by decide)]
      exact hdat j hj
    obtain ⟨D2, E2, E3, g1, g2, g3, g4, g5, g6⟩ := pdata_sim (F := F) (a := l[i]) (by omega) h1 ht (by omega) hu hNu hW hdat1
    unfold P_X8_writeBlock_52
    rw [g1, bi_s, g2, bi_s, g3, bi_s]
    have d2 : ∀ k, D2 2 k = D1 2 k := fun k => by rw [g5 2 (by omega) (by omega)]
    have m0 : ∀ k, k ≠ 29 → k ≠ 30 → E3 0 k = E1 0 k := fun k a b => by rw [g6.2 k b, up2_app, if_neg (by omega), up2_app, if_neg (by omega)]
    rw [d2, m0 13 (by decide) (by decide)]
    refine ⟨0, _, _, rfl, rfl, ⟨?_, ?_, ?_, ?_, ?_⟩, ⟨fun c hcc => ?_, ?_⟩, ⟨fun c a b d => ?_, fun k a b c d f g => ?_⟩, Or.inl rfl⟩
    · intro v a b
      obtain ⟨hR, hK⟩ := g4.1 v a b
      have o : ∀ c, c ≠ 2 → up2 D2 2 5 (D1 2 5 + 1) c = D2 c := fun c hc => up2_o hc
      refine ⟨⟨hR.1, hR.2.1, hR.2.2.1, by rw [o _ (by omega)]; exact hR.2.2.2.1, fun i hi => by rw [o _ (by omega)]; exact hR.2.2.2.2 i hi⟩, ?_⟩
      unfold KnownOk at hK ⊢
      simp only [o (3 * v + 1) (by omega), o (3 * v + 1 + 1) (by omega), o (3 * v + 1 + 2) (by omega)]
      exact hK
    · intro v a b q hq
      rw [up2_o (by omega), up2_o (by decide)]
      exact g4.2.1 v a b q hq
    · intro j
      rw [up2_o (by decide)]
      exact g4.2.2.1 j
    · exact g4.2.2.2.1.up (by decide) (by decide)
    · unfold Cnt
      simp only [up2_app, d2]
      simp [m0, c1, c2, c3, c4]
    · rw [up2_o (by omega), g5 c (by omega) (by omega), sx.1 c (by omega) (by omega)]
    · rw [up2_app, if_neg (by omega), d2, sx.1 2 (by omega) (by omega)]
    · rw [up2_o a, g6.1 c a b, up2_o a, up2_o a, sm.1 c a d]
    · rw [up2_app, if_neg (by omega), m0 k f g, sm.2.1 k c d]
  · have e0 : ¬ e = 0 := by rcases he with q | q | q | q <;> rw [q] <;> decide
    have epos : ¬ e ≤ 0 := by rcases he with q | q | q | q <;> rw [q] <;> decide
    have r0 : ¬ 0 ≤ r := by rw [hr]; rcases he with q | q | q | q <;> rw [q] <;> decide
    have rr : -r = e := by rw [hr]; rcases he with q | q | q | q <;> rw [q] <;> decide
    rw [if_neg e0, if_neg r0, rr]
    unfold P_X8_writeBlock_21
    rw [if_neg epos]
    refine ⟨e, _, _, rfl, rfl, ?_, ⟨fun c hcc => ?_, ?_⟩, ⟨fun c a b d => ?_, fun k a b c d f g => ?_⟩, Or.inr he⟩
    · refine hc1.up (fun c a b => by rw [up2_o (by omega)]) (fun c a b => by rw [up2_o (by omega)]) ?_
      unfold Cnt
      simp only [up2_app]
      simp [c1, c2, c3, c4]
    · rw [up2_o (by omega), sx.1 c (by omega) (by omega)]
    · rw [up2_app, if_neg (by omega), sx.1 2 (by omega) (by omega)]
    · rw [up2_o a, sm.1 c a d]
    · rw [up2_app, if_neg (by omega), sm.2.1 k c d]
