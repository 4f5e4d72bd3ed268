/-! REL: the relation of the two memories between calls; the small calls -/
def smpB (i : Nat) : Bool := if i < 40 then true else if i < 148 then decide (i % 2 = 1) else if i < 188 then true else if i < 848 then cb (if i < 198 then 7 else 0) ((i - 188) % 10) else decide (i % 2 = 1)
def Smp (Dx : Mm) : Prop := RingOk (gN XG) 52 114 Dx ∧ ∀ i, i < 912 → (i < 40 ∨ 100 ≤ i) → rbit (Dx 53) i = smpB i
def IdOk (x : Int32) : Prop := x = -1 ∨ ∃ k, k < 65536 ∧ x = nI k
def Stt (Dx Dm : Mm) : Prop := Dx 1 0 = Dm 0 9 ∧ Dx 1 1 = Dm 0 10 ∧ Dx 1 2 = Dm 0 11
def Tp (Dx Dm : Mm) : Prop := ∃ k, k ≤ 2480 ∧ Dx 65 1 = nI k ∧ Dm 0 6 = nI k ∧ ∀ i, i < k → Dx 66 i = Dm 5 i ∧ By (Dx 66 i)
def Ou (Dx Dm : Mm) : Prop := ∃ k, k ≤ 2480 ∧ Dx 67 1 = nI k ∧ Dm 0 8 = nI k ∧ ∀ i, i < k → Dx 68 i = Dm 6 i
def Rel (Dx Dm : Mm) : Prop := Core Dx Dm ∧ IdOk (Dx 2 3) ∧ Stt Dx Dm ∧ Tp Dx Dm ∧ Ou Dx Dm ∧ Dx 69 1 = 0 ∧ Smp Dx
theorem Smp.keep {Dx D1 : Mm} (h : Smp Dx) (h2 : D1 52 = Dx 52) (h3 : D1 53 = Dx 53) : Smp D1 := by
  obtain ⟨⟨a, b, c, d, e⟩, f⟩ := h
  exact ⟨⟨a, b, c, by rw [h2]; exact d, fun i hi => by show By (D1 53 i); rw [h3]; exact e i hi⟩, by rw [h3]; exact f⟩
theorem Tp.keep {Dx Dm D1 E1 : Mm} (h : Tp Dx Dm) (a : D1 65 = Dx 65) (b : D1 66 = Dx 66) (c : E1 0 6 = Dm 0 6) (d : E1 5 = Dm 5) : Tp D1 E1 := by
  obtain ⟨k, h1, h2, h3, h4⟩ := h
  exact ⟨k, h1, by rw [a]; exact h2, by rw [c]; exact h3, by rw [b, d]; exact h4⟩
theorem Ou.keep {Dx Dm D1 E1 : Mm} (h : Ou Dx Dm) (a : D1 67 = Dx 67) (b : D1 68 = Dx 68) (c : E1 0 8 = Dm 0 8) (d : E1 6 = Dm 6) : Ou D1 E1 := by
  obtain ⟨k, h1, h2, h3, h4⟩ := h
  exact ⟨k, h1, by rw [a]; exact h2, by rw [c]; exact h3, by rw [b, d]; exact h4⟩
theorem le_nlt {a b : Int32} : a ≤ b ↔ ¬ b < a := by
  rw [Int32.le_iff_toInt_le, Int32.lt_iff_toInt_lt]
  omega
theorem of_nonneg {a : Int32} {k : Nat} (h0 : ¬ a < 0) (hk : k < 2 ^ 31) (h : a ≤ nI k) : ∃ j, j ≤ k ∧ a = nI j := by
  obtain ⟨j, hj, e⟩ := nI_of h0
  refine ⟨j, ?_, e⟩
  rw [e, nI_leI hj hk] at h
  exact h
theorem sim_status {F : Nat} : Sim_status Rel F := by
  intro Dx Dm a1 h
  obtain ⟨s0, s1, s2⟩ := h.2.2.1
  unfold P_X7_status P_X8_status
  rw [s0, s1, s2]
  by_cases c0 : a1 = 0
  · rw [if_pos c0, if_pos c0]; exact ⟨_, _, _, rfl, rfl, h⟩
  · rw [if_neg c0, if_neg c0]
    by_cases c1 : a1 = 1
    · rw [if_pos c1, if_pos c1]; exact ⟨_, _, _, rfl, rfl, h⟩
    · rw [if_neg c1, if_neg c1]
      by_cases c2 : a1 = 2
      · rw [if_pos c2, if_pos c2]; exact ⟨_, _, _, rfl, rfl, h⟩
      · rw [if_neg c2, if_neg c2]; exact ⟨_, _, _, rfl, rfl, h⟩
theorem sim_count {F : Nat} : Sim_count Rel F := by
  intro Dx Dm a1 h
  obtain ⟨_, s0, s1, s2⟩ := h.1.2.2.2.2
  obtain ⟨k, hk, t1, t2, _⟩ := h.2.2.2.1
  unfold P_X7_count P_X8_count
  rw [s0, s1, s2, t1, t2]
  by_cases c0 : a1 = 0
  · rw [if_pos c0, if_pos c0]; exact ⟨_, _, _, rfl, rfl, h⟩
  · rw [if_neg c0, if_neg c0]
    by_cases c1 : a1 = 1
    · rw [if_pos c1, if_pos c1]; exact ⟨_, _, _, rfl, rfl, h⟩
    · rw [if_neg c1, if_neg c1]
      by_cases c2 : a1 = 2
      · rw [if_pos c2, if_pos c2]; exact ⟨_, _, _, rfl, rfl, h⟩
      · rw [if_neg c2, if_neg c2]
        by_cases c3 : a1 = 3
        · rw [if_pos c3, if_pos c3]; exact ⟨_, _, _, rfl, rfl, h⟩
        · rw [if_neg c3, if_neg c3]; exact ⟨_, _, _, rfl, rfl, h⟩
theorem and65535 (x : Int32) : ∃ k, k < 65536 ∧ x &&& 65535 = nI k := pk_andE x 16 (by decide)
theorem sim_mount {F : Nat} : Sim_mount Rel F := by
  intro Dx Dm a1 h
  obtain ⟨hc, hid, hst, htp, hou, h69, hsm⟩ := h
  unfold P_X7_mount P_X8_mount P_X6_tell P_X8_ends
  rw [bi_s, bi_s]
  refine ⟨_, _, _, rfl, rfl, ?_, ?_, ?_, ?_, ?_, ?_, ?_⟩
  · refine hc.up (fun c a b => ?_) (fun c a b => ?_) ?_
    · rw [up2_o (by omega), up2_o (by omega), up2_o (by omega), up2_o (by omega)]
    · rw [up2_o (by omega), up2_o (by omega), up2_o (by omega), up2_o (by omega)]
    · obtain ⟨_, s0, s1, s2⟩ := hc.2.2.2.2
      unfold Cnt
      simp only [up2_app]
      simp [s0, s1, s2]
  · rw [up2_o (by decide), up2_o (by decide), up2_o (by decide), up2_app, if_pos ⟨rfl, rfl⟩]
    exact Or.inr (and65535 a1)
  · unfold Stt
    simp only [up2_app]
    simp
  · exact htp.keep (by rw [up2_o (by decide), up2_o (by decide), up2_o (by decide), up2_o (by decide)]) (by rw [up2_o (by decide), up2_o (by decide), up2_o (by decide), up2_o (by decide)]) (by simp [up2_app]) (by rw [up2_o (by decide), up2_o (by decide), up2_o (by decide), up2_o (by decide)])
  · exact hou.keep (by rw [up2_o (by decide), up2_o (by decide), up2_o (by decide), up2_o (by decide)]) (by rw [up2_o (by decide), up2_o (by decide), up2_o (by decide), up2_o (by decide)]) (by simp [up2_app]) (by rw [up2_o (by decide), up2_o (by decide), up2_o (by decide), up2_o (by decide)])
  · simp [up2_app]; exact h69
  · exact hsm.keep (by rw [up2_o (by decide), up2_o (by decide), up2_o (by decide), up2_o (by decide)]) (by rw [up2_o (by decide), up2_o (by decide), up2_o (by decide), up2_o (by decide)])
theorem sim_end {F : Nat} : Sim_end Rel F := by
  intro Dx Dm a1 h
  obtain ⟨hc, hid, hst, ⟨k, hk, t1, t2, t3⟩, hou, h69, hsm⟩ := id h
  unfold P_X7_end P_X8_end P_X8_isIn
  rw [t1, t2]
  by_cases c0 : a1 < 0
  · rw [if_pos c0, if_pos c0, bi_s, if_pos rfl]; exact ⟨_, _, _, rfl, rfl, h⟩
  · rw [if_neg c0, if_neg c0]
    by_cases c1 : a1 ≤ nI k
    · rw [if_pos c1, if_neg (le_nlt.mp c1), bi_s, if_neg (by decide)]
      obtain ⟨j, hj, rfl⟩ := of_nonneg c0 (by omega) c1
      refine ⟨_, _, _, rfl, rfl, ?_, ?_, ?_, ⟨j, by omega, ?_, ?_, ?_⟩, ?_, ?_, ?_⟩
      · refine hc.up (fun c a b => by rw [up2_o (by omega)]) (fun c a b => by rw [up2_o (by omega)]) ?_
        have := hc.2.2.2.2
        unfold Cnt at this ⊢
        simp only [up2_app]
        simpa using this
      · rw [up2_o (by decide)]; exact hid
      · unfold Stt at hst ⊢
        simp only [up2_app]
        simpa using hst
      · rw [up2_app, if_pos ⟨rfl, rfl⟩]
      · rw [up2_app, if_pos ⟨rfl, rfl⟩]
      · intro i hi
        rw [up2_o (by decide), up2_o (by decide)]
        exact t3 i (by omega)
      · exact hou.keep (by rw [up2_o (by decide)]) (by rw [up2_o (by decide)]) (by rw [up2_app, if_neg (by omega)]) (by rw [up2_o (by decide)])
      · rw [up2_o (by decide)]; exact h69
      · exact hsm.keep (up2_o (by decide)) (up2_o (by decide))
    · rw [if_neg c1, if_pos (by rw [Int32.lt_iff_toInt_lt]; rw [Int32.le_iff_toInt_le] at c1; omega), bi_s, if_pos rfl]
      exact ⟨_, _, _, rfl, rfl, h⟩
theorem sim_out {F : Nat} : Sim_out Rel F := by
  intro Dx Dm a1 h
  obtain ⟨k, hk, t1, t2, t3⟩ := h.2.2.2.2.1
  unfold P_X7_out P_X8_out P_X1_byteAt P_X8_isIn
  rw [t1, t2]
  have e67 : gN XG (67 + 1) = 2480 := rfl
  have e6 : gN MG 6 = 2480 := rfl
  by_cases c0 : a1 < 0
  · rw [if_pos c0, if_pos c0, bi_s, bi_s, if_pos rfl]; exact ⟨_, _, _, rfl, rfl, h⟩
  · rw [if_neg c0, if_neg c0]
    have em1 : (nI k - 1).toInt = (k : Int) - 1 := pk_sub_toInt (a := k) (b := 1) (by omega) (by omega)
    by_cases c1 : nI k ≤ a1
    · rw [if_pos c1, if_pos (by rw [Int32.lt_iff_toInt_lt, em1]; rw [Int32.le_iff_toInt_le, nI_toInt (by omega)] at c1; omega), bi_s, bi_s, if_pos rfl]
      exact ⟨_, _, _, rfl, rfl, h⟩
    · obtain ⟨j, hj, rfl⟩ := of_nonneg (k := k) c0 (by omega) (by rw [Int32.le_iff_toInt_le]; rw [Int32.le_iff_toInt_le] at c1; omega)
      have hjk : j < k := by
        rcases Nat.lt_or_ge j k with q | q
        · exact q
        · exact absurd (nI_le q (by omega)) c1
      have c3 : ¬ (nI k - 1 < nI j) := by rw [Int32.lt_iff_toInt_lt, em1, nI_toInt (by omega)]; omega
      rw [if_neg c1, if_neg c3, bi_s, if_neg (show ¬ ((1 : Int32) = 0) by decide), e67, if_pos (in_nI (by omega) (by omega)), bi_s, e6, if_pos (in_nI (by omega) (by omega)), nI_clamp (by omega), t3 j hjk]
      exact ⟨_, _, _, rfl, rfl, h⟩
/-- a track, or none -/
theorem track_cases (a : Int32) : (∃ t, 1 ≤ t ∧ t ≤ 16 ∧ a = nI t) ∨ (P_X0_ringOf a = none ∧ ∀ (N : Nat → Nat) (F : Nat) (D : Mm), P_X8_isTrack N F a D = some (0, D)) := by
  by_cases c1 : a < 1
  · right
    constructor
    · unfold P_X0_ringOf; rw [if_pos c1]
    · intro N F D; unfold P_X8_isTrack P_X8_isIn; rw [if_pos c1, bi_s]
  · by_cases c2 : 16 < a
    · right
      constructor
      · unfold P_X0_ringOf; rw [if_neg c1, if_pos c2]
      · intro N F D; unfold P_X8_isTrack P_X8_isIn; rw [if_neg c1, if_pos c2, bi_s]
    · left
      have e1 : ¬ a.toInt < 1 := fun q => c1 (Int32.lt_iff_toInt_lt.mpr q)
      have e2 : ¬ 16 < a.toInt := fun q => c2 (Int32.lt_iff_toInt_lt.mpr q)
      obtain ⟨j, hj, e⟩ := nI_of (x := a) (fun q => by rw [Int32.lt_iff_toInt_lt] at q; have e : (0 : Int32).toInt = 0 := rfl; omega)
      rw [e, nI_toInt hj] at e1 e2
      exact ⟨j, by omega, by omega, e⟩
theorem isTrack_t {N : Nat → Nat} {F t : Nat} (D : Mm) (h1 : 1 ≤ t) (ht : t ≤ 16) : P_X8_isTrack N F (nI t) D = some (1, D) := by
  unfold P_X8_isTrack P_X8_isIn
  rw [if_neg (show ¬ nI t < 1 from nI_nlt (b := 1) (by omega) (by omega)), if_neg (show ¬ (16 : Int32) < nI t from nI_nlt (a := 16) (by omega) (by omega)), bi_s]
theorem sim_syncs {F : Nat} (hF : 9000 ≤ F) : Sim_syncs Rel F := by
  intro Dx Dm a1 h
  unfold P_X7_syncs P_X8_syncs
  rcases track_cases a1 with ⟨t, h1, ht, rfl⟩ | ⟨e1, e2⟩
  · obtain ⟨hc, hid, hst, htp, hou, h69, hsm⟩ := h
    rw [ringOf_eq t h1 ht, isTrack_t Dm h1 ht, bi_s, if_neg (by decide)]
    obtain ⟨hX, hB, h01, hM, hC⟩ := id hc
    obtain ⟨hR, hK⟩ := hX t h1 ht
    have eSY : SY (rbit (Dx (3 * t + 1 + 1))) (8 * byN t) = SY (mbit (Dm 1) (stN t)) (8 * byN t) := SY_congr (hB t h1 ht)
    obtain ⟨p, p1, p2⟩ := findSyncs_eq (F := F) hF hR (xn2 t h1 ht) hK
    obtain ⟨q, q1, q2⟩ := mfindSyncs_eq (N := gN MG) (D := Dm) hF h1 ht hM.1 hM.2.2.2.1
    simp only [eSY] at p1 p2
    generalize hl : SY (mbit (Dm 1) (stN t)) (8 * byN t) = l at *
    have x1 : SkX t l Dx (up2 (up2 (upA Dx (3 * t + 1 + 2) p) (3 * t + 1) 3 (nI l.length)) (3 * t + 1) 4 1) := by
      refine ⟨fun c ha hb => ?_, fun k ha hb => ?_, ?_, ?_, fun j hj => ?_⟩
      · rw [up2_o ha, up2_o ha, upA_ne (by omega)]
      · rw [up2_app, if_neg (by omega), up2_app, if_neg (by omega), upA_ne (by omega)]
      · rw [up2_app, if_neg (by omega), up2_app, if_pos ⟨rfl, rfl⟩]
      · rw [up2_app, if_pos ⟨rfl, rfl⟩]
      · rw [up2_o (by omega), up2_o (by omega), show 3 * t + 3 = 3 * t + 1 + 2 by omega, upA_row, p2 j hj]
    have m1 : SkM l Dm (up2 (upA Dm 7 q) 0 16 (nI l.length)) := by
      refine ⟨fun c ha hb => ?_, fun k ha hb => ?_, ?_, fun j hj => ?_⟩
      · rw [up2_o ha, upA_ne hb]
      · rw [up2_app, if_neg (by omega), upA_ne (by omega)]
      · rw [up2_app, if_pos ⟨rfl, rfl⟩]
      · rw [up2_o (by omega), upA_row, q2 j hj]
    show ∃ (r : Int32) (Dx1 Dm1 : Mm), bi (P_X5_findSyncs (gN XG) F (3 * t + 1) Dx) (fun r2 D2 => some (r2, D2)) = some (r, Dx1) ∧ _
    rw [p1, bi_s, q1, bi_s, m1.2.2.1]
    refine ⟨_, _, _, rfl, rfl, hc.sk h1 ht hl.symm x1 m1, ?_, ?_, ?_, ?_, ?_, ?_⟩
    · rw [x1.1 2 (by omega) (by omega)]; exact hid
    · unfold Stt at hst ⊢
      rw [x1.1 1 (by omega) (by omega), m1.2.1 9 (by decide) (by decide), m1.2.1 10 (by decide) (by decide), m1.2.1 11 (by decide) (by decide)]
      exact hst
    · exact htp.keep (x1.1 _ (by omega) (by omega)) (x1.1 _ (by omega) (by omega)) (m1.2.1 _ (by decide) (by decide)) (m1.1 _ (by decide) (by decide))
    · exact hou.keep (x1.1 _ (by omega) (by omega)) (x1.1 _ (by omega) (by omega)) (m1.2.1 _ (by decide) (by decide)) (m1.1 _ (by decide) (by decide))
    · rw [x1.1 69 (by omega) (by omega)]; exact h69
    · exact hsm.keep (x1.1 _ (by omega) (by omega)) (x1.1 _ (by omega) (by omega))
  · rw [e1, e2, bi_s, if_pos rfl]
    exact ⟨_, _, _, rfl, rfl, h⟩
