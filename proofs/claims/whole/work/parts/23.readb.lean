/-! READB: reading a block, whole -/
theorem add0 (x : Int32) : x + 0 = x := by
  apply Int32.toBitVec_inj.mp
  rw [Int32.toBitVec_add]
  show x.toBitVec + 0#32 = _
  exact BitVec.add_zero _
theorem rd20_0 {N : Nat → Nat} {F : Nat} {D : Mm} : P_X8_readBlock_20 N F 0 D = some (0, up2 D 0 12 (D 0 12 + 1)) := by
  unfold P_X8_readBlock_20 P_X8_readBlock_57
  rw [if_pos rfl, if_pos rfl, add0, up2_id rfl]
theorem rd20_e {N : Nat → Nat} {F : Nat} {e : Int32} {D : Mm} (h : ¬ e = 0) : P_X8_readBlock_20 N F e D = some (e, up2 D 0 14 (D 0 14 + 1)) := by
  unfold P_X8_readBlock_20 P_X8_readBlock_57
  rw [if_neg h, if_neg h, add0, up2_id rfl]
theorem Core.up {Dx Dm D1 E1 : Mm} (h : Core Dx Dm) (hx : ∀ c, 3 ≤ c → c ≤ 51 → D1 c = Dx c) (hm : ∀ c, 1 ≤ c → c ≤ 4 → E1 c = Dm c) (hc : Cnt D1 E1) : Core D1 E1 := by
  obtain ⟨hX, hB, h01, hM, _⟩ := h
  refine ⟨?_, ?_, ?_, ?_, hc⟩
  · intro v hv1 hv2
    obtain ⟨hR, hK⟩ := hX v hv1 hv2
    have o1 : D1 (3 * v + 1) = Dx (3 * v + 1) := hx _ (by omega) (by omega)
    have o2 : D1 (3 * v + 2) = Dx (3 * v + 2) := hx _ (by omega) (by omega)
    have o3 : D1 (3 * v + 3) = Dx (3 * v + 3) := hx _ (by omega) (by omega)
    refine ⟨⟨hR.1, hR.2.1, hR.2.2.1, by rw [o1]; exact hR.2.2.2.1, fun i hi => by show By (D1 (3 * v + 2) i); rw [o2]; exact hR.2.2.2.2 i hi⟩, ?_⟩
    unfold KnownOk at hK ⊢
    rw [o1]
    show _ ∧ (_ → Dx (3 * v + 1) 3 = nI (SY (rbit (D1 (3 * v + 2))) (8 * byN v)).length ∧ ∀ j (hj : j < (SY (rbit (D1 (3 * v + 2))) (8 * byN v)).length), D1 (3 * v + 3) j = nI ((SY (rbit (D1 (3 * v + 2))) (8 * byN v))[j]))
    simp only [o2, o3]
    exact hK
  · intro v hv1 hv2 q hq
    rw [hx (3 * v + 2) (by omega) (by omega), hm 1 (by decide) (by decide)]
    exact hB v hv1 hv2 q hq
  · intro i
    rw [hm 1 (by decide) (by decide)]
    exact h01 i
  · obtain ⟨a, b, c, d, e, f, g⟩ := hM
    exact ⟨a, b, c, d, e, fun j hj => by rw [hm 4 (by decide) (by decide)]; exact f j hj, fun j hj => by rw [hm 3 (by decide) (by decide)]; exact g j hj⟩
theorem read_sim {Dx Dm : Mm} {F t s u : Nat} (hF : 9000 ≤ F) (h1 : 1 ≤ t) (ht : t ≤ 16) (hs : s < secN t) (hu : 55 ≤ u) (hNu : gN XG u = 64) (hid : ¬ Dx 2 3 = -1) (hc : Core Dx Dm) : ∃ (e : Int32) (Dx1 Dm1 : Mm), P_X0_readBlock (gN XG) F u (nI t) (nI s) Dx = some (e, Dx1) ∧ P_X8_readBlock (gN MG) F (nI t) (nI s) Dm = some (e, Dm1) ∧ Core Dx1 Dm1 ∧ RdX u Dx Dx1 ∧ RdM Dm Dm1 ∧ ((e = 0 ∧ ∀ j, j < 64 → Dx1 u j = Dm1 8 j ∧ By (Dx1 u j)) ∨ rdErr e) := by
  have hsec := secN_le t
  obtain ⟨l, r, e, D1, E1, hl, s1, s2, sx, sm, hcase⟩ := seek_sim (s := s) hF h1 ht (by omega) hc
  have hc1 : Core D1 E1 := hc.sk h1 ht hl sx sm
  have hb := byN_le t
  have hlen := SY_len (f := mbit (Dm 1) (stN t)) (L := 8 * byN t)
  rw [← hl] at hlen
  have rdx : ∀ D2 : Mm, (∀ c, c ≠ 2 → c ≠ u → D2 c = D1 c) → D2 2 3 = D1 2 3 → RdX u Dx D2 := by
    intro D2 h2 h3
    refine ⟨fun c hc hcc => ?_, ?_⟩
    · rw [h2 c (by omega) hc, sx.1 c (by omega) (by omega)]
    · rw [h3, sx.1 2 (by omega) (by omega)]
  have rdm : ∀ E2 : Mm, (∀ c, c ≠ 0 → c ≠ 8 → E2 c = E1 c) → (∀ k, k ≠ 12 → k ≠ 14 → E2 0 k = E1 0 k) → RdM Dm E2 := by
    intro E2 h2 h3
    refine ⟨fun c a b d => ?_, fun k a b c d => ?_⟩
    · rw [h2 c a d, sm.1 c a b]
    · rw [h3 k a b, sm.2.1 k c d]
  obtain ⟨c1, c2, c3, c4⟩ := hc1.2.2.2.2
  unfold P_X0_readBlock P_X8_readBlock
  rw [ringOf_eq t h1 ht]
  show ∃ (e : Int32) (Dx1 Dm1 : Mm), (if Dx 2 3 = -1 then _ else (bi (P_X0_isBlock (gN XG) F (nI t) (nI s) Dx) (fun r9 D9 => if r9 = 0 then (some (66, D9)) else (bi (P_X0_seek (gN XG) F (3 * t + 1) (nI t) (nI s) D9) (fun r11 D11 => if (D11 (3 * t + 1) 3) ≤ (r11 + 1) then (P_X0_readBlock_64 (gN XG) F u (3 * t + 1) r11 0 D11) else (P_X0_readBlock_64 (gN XG) F u (3 * t + 1) r11 (r11 + 1) D11)))))) = some (e, Dx1) ∧ _
  rw [if_neg hid, xisBlock_eq Dx h1 ht hs, bi_s, if_neg (by decide), s1, bi_s, s2, bi_s]
  rcases hcase with ⟨he, i, hi, hr, hm17⟩ | ⟨he, hr⟩
  · subst he
    subst hr
    rw [if_pos rfl, sx.2.2.1]
    have hll : l.length ≤ 800 := by omega
    -- the next sync
    have hnx : (i + 1) % l.length < l.length := Nat.mod_lt _ (by omega)
    have hlt : l[(i + 1) % l.length] < 8 * byN t := by
      have h := SY_lt (f := mbit (Dm 1) (stN t)) (L := 8 * byN t) (j := (i + 1) % l.length) (by rw [← hl]; exact hnx)
      simp only [← hl] at h
      exact h
    have est : ∀ x : Nat, x < l.length → P_X5_startOf (gN XG) F (3 * t + 1) (nI x) D1 = some (D1 (3 * t + 3) x, D1) := by
      intro x hx
      unfold P_X5_startOf
      have := xn2 t h1 ht
      rw [if_neg (nI_pos (by omega)), sx.2.2.1, if_neg (nI_ge (by omega) (by omega)), show 3 * t + 1 + 2 = 3 * t + 3 by omega, this, if_pos (in_nI (by omega) (by omega)), nI_clamp (by omega)]
    have eif : (if nI l.length ≤ nI i + 1 then (P_X0_readBlock_64 (gN XG) F u (3 * t + 1) (nI i) 0 D1) else (P_X0_readBlock_64 (gN XG) F u (3 * t + 1) (nI i) (nI i + 1) D1)) = P_X0_readBlock_64 (gN XG) F u (3 * t + 1) (nI i) (nI ((i + 1) % l.length)) D1 := by
      rw [nI_1]
      by_cases c : i + 1 = l.length
      · rw [if_pos (nI_le (by omega) (by omega)), c, Nat.mod_self]
        rfl
      · rw [if_neg (nI_ge (by omega) (by omega)), Nat.mod_eq_of_lt (show i + 1 < l.length by omega)]
    rw [eif]
    unfold P_X0_readBlock_64
    rw [if_pos (nI_pos' (by omega)), est _ hnx, bi_s, sx.2.2.2.2 _ hnx]
    unfold P_X8_dataOf
    rw [sm.2.2.1, if_neg (nI_z (by omega) (by omega)), hm17, nI_1, jrem_nI (by omega) (by omega) (by omega), hc1.2.2.2.1.2.2.2.1, if_pos (in_nI (by omega) (by omega)), nI_clamp (by omega), sm.2.2.2 _ hnx]
    unfold P_X5_takeData P_X8_dataOf_17
    have hR1 := (hc1.1 t h1 ht).1
    have hbit1 := hc1.2.1 t h1 ht
    have hM1 := hc1.2.2.2.1
    have hL0 : 0 < 8 * byN t := by omega
    generalize l[(i + 1) % l.length] = p at *
    have ec : P_X5_codedAt (gN XG) F (3 * t + 1) (nI p) D1 = some (cf (mbit (E1 1) (stN t)) (8 * byN t) p, D1) := by
      rw [← cf_congr hL0 hbit1]
      exact codedAt_eq hR1 (by omega)
    rw [ec, bi_s, mdec (by omega) h1 ht hM1 (by omega), bi_s]
    by_cases c7 : cf (mbit (E1 1) (stN t)) (8 * byN t) p = 7
    · rw [if_pos c7, if_pos c7]
      obtain ⟨e, r, b, g1, g2, g3, g4, g5⟩ := data_go (F := F) (p := p) (u := u) (by omega) h1 ht (by omega) hu hNu 64 F F 0 0 D1 E1 (by omega) (by omega) (by omega) hR1 hM1 hbit1
      have g1 : P_X5_takeData_21 (gN XG) F (3 * t + 1) u F (nI p) 0 0 D1 = some (e, upA D1 u r) := g1
      have g2 : P_X8_dataOf_36 (gN MG) F F (nI t) (nI p) 0 0 E1 = some (e, upA E1 8 b) := g2
      rw [g1, bi_s, g2, bi_s]
      have x2 : ∀ k, upA D1 u r 2 k = D1 2 k := fun k => by rw [upA_ne (by omega)]
      have m0 : ∀ k, upA E1 8 b 0 k = E1 0 k := fun k => by rw [upA_ne (by decide)]
      by_cases c0 : e = 0
      · subst c0
        rw [if_pos rfl, rd20_0, x2, m0]
        refine ⟨0, _, _, rfl, rfl, ?_, rdx _ (fun c a b => by rw [up2_o a, upA_ne b]) (by rw [up2_app, if_neg (by omega), x2]), rdm _ (fun c a b => by rw [up2_o a, upA_ne b]) (fun k a b => by rw [up2_app, if_neg (by omega), m0]), Or.inl ⟨rfl, fun j hj => ?_⟩⟩
        · refine hc1.up (fun c a b => by rw [up2_o (by omega), upA_ne (by omega)]) (fun c a b => by rw [up2_o (by omega), upA_ne (by omega)]) ?_
          unfold Cnt
          simp only [up2_app, x2, m0]
          simp [c1, c2, c3, c4]
        · rw [up2_o (by omega), up2_o (by decide), upA_row, upA_row]
          exact g5 rfl j (by omega) hj
      · rw [if_neg c0, rd20_e c0, x2, m0]
        refine ⟨e, _, _, rfl, rfl, ?_, rdx _ (fun c a b => by rw [up2_o a, upA_ne b]) (by rw [up2_app, if_neg (by omega), x2]), rdm _ (fun c a b => by rw [up2_o a, upA_ne b]) (fun k a b => by rw [up2_app, if_neg (by omega), m0]), Or.inr ?_⟩
        · refine hc1.up (fun c a b => by rw [up2_o (by omega), upA_ne (by omega)]) (fun c a b => by rw [up2_o (by omega), upA_ne (by omega)]) ?_
          unfold Cnt
          simp only [up2_app, x2, m0]
          simp [c1, c2, c3, c4]
        · rcases g3 with q | q | q
          · exact absurd q c0
          · exact Or.inr (Or.inr (Or.inr (Or.inl q)))
          · exact Or.inr (Or.inr (Or.inr (Or.inr (Or.inl q))))
    · rw [if_neg c7, if_neg c7, bi_s, bi_s, if_neg (by decide), rd20_e (by decide)]
      refine ⟨22, _, _, rfl, rfl, ?_, rdx _ (fun c a b => by rw [up2_o a]) (by rw [up2_app, if_neg (by omega)]), rdm _ (fun c a b => by rw [up2_o a]) (fun k a b => by rw [up2_app, if_neg (by omega)]), Or.inr (Or.inr (Or.inr (Or.inl rfl)))⟩
      refine hc1.up (fun c a b => by rw [up2_o (by omega)]) (fun c a b => by rw [up2_o (by omega)]) ?_
      unfold Cnt
      simp only [up2_app]
      simp [c1, c2, c3, c4]
  · have e0 : ¬ e = 0 := by rcases he with q | q | q | q <;> rw [q] <;> decide
    have r0 : ¬ 0 ≤ r := by rw [hr]; rcases he with q | q | q | q <;> rw [q] <;> decide
    have rr : -r = e := by rw [hr]; rcases he with q | q | q | q <;> rw [q] <;> decide
    rw [if_neg e0, rd20_e e0]
    have e64 : ∀ x : Int32, P_X0_readBlock_64 (gN XG) F u (3 * t + 1) r x D1 = some (e, up2 D1 2 6 (D1 2 6 + 1)) := by
      intro x
      unfold P_X0_readBlock_64
      rw [if_neg r0, rr, if_neg e0]
    rw [e64, e64]
    have : (if D1 (3 * t + 1) 3 ≤ r + 1 then some (e, up2 D1 2 6 (D1 2 6 + 1)) else some (e, up2 D1 2 6 (D1 2 6 + 1))) = some (e, up2 D1 2 6 (D1 2 6 + 1)) := by split <;> rfl
    rw [this]
    refine ⟨e, _, _, rfl, rfl, ?_, rdx _ (fun c a b => by rw [up2_o a]) (by rw [up2_app, if_neg (by omega)]), rdm _ (fun c a b => by rw [up2_o a]) (fun k a b => by rw [up2_app, if_neg (by omega)]), Or.inr ?_⟩
    · refine hc1.up (fun c a b => by rw [up2_o (by omega)]) (fun c a b => by rw [up2_o (by omega)]) ?_
      unfold Cnt
      simp only [up2_app]
      simp [c1, c2, c3, c4]
    · rcases he with q | q | q | q
      · exact Or.inl q
      · exact Or.inr (Or.inl q)
      · exact Or.inr (Or.inr (Or.inr (Or.inr (Or.inr (Or.inl q)))))
      · exact Or.inr (Or.inr (Or.inr (Or.inr (Or.inr (Or.inr q)))))
