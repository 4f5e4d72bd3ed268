/-! CORE: the relation of the two memories; seeking in lockstep -/
def TrX (Dx : Mm) : Prop := ∀ t, 1 ≤ t → t ≤ 16 → RingOk (gN XG) (3 * t + 1) (byN t) Dx ∧ KnownOk (3 * t + 1) (byN t) Dx
def TrB (Dx Dm : Mm) : Prop := ∀ t, 1 ≤ t → t ≤ 16 → ∀ q, q < 8 * byN t → rbit (Dx (3 * t + 2)) q = mbit (Dm 1) (stN t) q
def B01 (Dm : Mm) : Prop := ∀ i, Dm 1 i = 0 ∨ Dm 1 i = 1
def Cnt (Dx Dm : Mm) : Prop := Dx 2 3 = Dm 0 4 ∧ Dx 2 4 = Dm 0 12 ∧ Dx 2 5 = Dm 0 13 ∧ Dx 2 6 = Dm 0 14
def Core (Dx Dm : Mm) : Prop := TrX Dx ∧ TrB Dx Dm ∧ B01 Dm ∧ MOk (gN MG) Dm ∧ Cnt Dx Dm
theorem xn2 : ∀ t, 1 ≤ t → t ≤ 16 → gN XG (3 * t + 3) = 8 * byN t / 11 := by
  have : ∀ t, t < 17 → 1 ≤ t → gN XG (3 * t + 3) = 8 * byN t / 11 := by decide +kernel
  intro t h1 h2
  exact this t (by omega) h1
theorem SY_congr {f g : Nat → Bool} {L : Nat} (h : ∀ q, q < L → f q = g q) : SY f L = SY g L := by
  unfold SY
  rw [sy_congr L 0 _ (fun q _ hq => h q (by omega)), cnt_congr L 0 (h := fun u => g (L - 1 - u)) (fun u _ hu => h _ (by omega))]
theorem SY_lt {f : Nat → Bool} {L : Nat} {j : Nat} (hj : j < (SY f L).length) : (SY f L)[j] < L := by
  have := sy_lt (f := f) L 0 (cnt (fun u => f (L - 1 - u)) L 0) _ (List.getElem_mem (l := SY f L) hj)
  omega
theorem hOk_congr {f g : Nat → Bool} {L : Nat} (h0 : 0 < L) (h : ∀ q, q < L → f q = g q) (t s : Int32) (p : Nat) : hOk f L t s p ↔ hOk g L t s p := by
  unfold hOk
  rw [cf_congr h0 h, cf_congr h0 h, cf_congr h0 h, cf_congr h0 h, cf_congr h0 h, cf_congr h0 h]
theorem eOf_congr {f g : Nat → Bool} {L : Nat} (h0 : 0 < L) (h : ∀ q, q < L → f q = g q) (id t s : Int32) (p : Nat) : eOf f L id t s p = eOf g L id t s p := by
  unfold eOf
  rw [cf_congr h0 h, cf_congr h0 h, cf_congr h0 h]
/-- what seeking leaves in the class's memory -/
def SkX (t : Nat) (l : List Nat) (Dx D1 : Mm) : Prop := (∀ c, c ≠ 3 * t + 1 → c ≠ 3 * t + 3 → D1 c = Dx c) ∧ (∀ k, k ≠ 3 → k ≠ 4 → D1 (3 * t + 1) k = Dx (3 * t + 1) k) ∧ D1 (3 * t + 1) 3 = nI l.length ∧ D1 (3 * t + 1) 4 = 1 ∧ ∀ j (hj : j < l.length), D1 (3 * t + 3) j = nI l[j]
def SkM (l : List Nat) (Dm D1 : Mm) : Prop := (∀ c, c ≠ 0 → c ≠ 7 → D1 c = Dm c) ∧ (∀ k, k ≠ 16 → k ≠ 17 → D1 0 k = Dm 0 k) ∧ D1 0 16 = nI l.length ∧ ∀ j (hj : j < l.length), D1 7 j = nI l[j]
theorem nI_nm1 {x : Nat} (hx : x < 2 ^ 31) : ¬ nI x = -1 := by
  intro q
  have : (nI x).toInt = (-1 : Int32).toInt := by rw [q]
  rw [nI_toInt hx] at this
  have e : (-1 : Int32).toInt = -1 := by decide
  omega
def isErr (e : Int32) : Prop := e = 20 ∨ e = 21 ∨ e = 27 ∨ e = 29
theorem seek_sim {Dx Dm : Mm} {F t s : Nat} (hF : 9000 ≤ F) (h1 : 1 ≤ t) (ht : t ≤ 16) (hs : s < 1000) (hc : Core Dx Dm) : ∃ (l : List Nat) (r e : Int32) (Dx1 Dm1 : Mm), l = SY (mbit (Dm 1) (stN t)) (8 * byN t) ∧ P_X0_seek (gN XG) F (3 * t + 1) (nI t) (nI s) Dx = some (r, Dx1) ∧ P_X8_seek (gN MG) F (nI t) (nI s) Dm = some (e, Dm1) ∧ SkX t l Dx Dx1 ∧ SkM l Dm Dm1 ∧ ((e = 0 ∧ ∃ i, i < l.length ∧ r = nI i ∧ Dm1 0 17 = nI i) ∨ (isErr e ∧ r = -e)) := by
  obtain ⟨hX, hB, h01, hM, hC⟩ := hc
  obtain ⟨hR, hK⟩ := hX t h1 ht
  have hb := byN_le t
  have hbit := hB t h1 ht
  have hL0 : 0 < 8 * byN t := by omega
  have eSY : SY (rbit (Dx (3 * t + 1 + 1))) (8 * byN t) = SY (mbit (Dm 1) (stN t)) (8 * byN t) := SY_congr hbit
  obtain ⟨p, p1, p2⟩ := findSyncs_eq (F := F) hF hR (xn2 t h1 ht) hK
  obtain ⟨q, q1, q2⟩ := mfindSyncs_eq (N := gN MG) (D := Dm) hF h1 ht hM.1 hM.2.2.2.1
  have hlt : ∀ j (hj : j < (SY (mbit (Dm 1) (stN t)) (8 * byN t)).length), (SY (mbit (Dm 1) (stN t)) (8 * byN t))[j] < 8 * byN t := fun j hj => SY_lt hj
  have hlen := SY_len (f := mbit (Dm 1) (stN t)) (L := 8 * byN t)
  simp only [eSY] at p1 p2
  generalize hl : SY (mbit (Dm 1) (stN t)) (8 * byN t) = l at *
  -- the two memories behind finding the syncs
  obtain ⟨D1, hD1⟩ : ∃ z, z = up2 (up2 (upA Dx (3 * t + 1 + 2) p) (3 * t + 1) 3 (nI l.length)) (3 * t + 1) 4 1 := ⟨_, rfl⟩
  obtain ⟨E1, hE1⟩ : ∃ z, z = up2 (upA Dm 7 q) 0 16 (nI l.length) := ⟨_, rfl⟩
  rw [← hD1] at p1
  rw [← hE1] at q1
  have x1 : SkX t l Dx D1 := by
    refine ⟨fun c ha hb => ?_, fun k ha hb => ?_, ?_, ?_, fun j hj => ?_⟩
    · rw [hD1, up2_o ha, up2_o ha, upA_ne (by omega)]
    · rw [hD1, up2_app, if_neg (by omega), up2_app, if_neg (by omega), upA_ne (by omega)]
    · rw [hD1, up2_app, if_neg (by omega), up2_app, if_pos ⟨rfl, rfl⟩]
    · rw [hD1, up2_app, if_pos ⟨rfl, rfl⟩]
    · rw [hD1, up2_o (by omega), up2_o (by omega), show 3 * t + 3 = 3 * t + 1 + 2 by omega, upA_row, p2 j hj]
  have m1 : SkM l Dm E1 := by
    refine ⟨fun c ha hb => ?_, fun k ha hb => ?_, ?_, fun j hj => ?_⟩
    · rw [hE1, up2_o ha, upA_ne hb]
    · rw [hE1, up2_app, if_neg (by omega), upA_ne (by omega)]
    · rw [hE1, up2_app, if_pos ⟨rfl, rfl⟩]
    · rw [hE1, up2_o (by omega), upA_row, q2 j hj]
  have MOk1 : MOk (gN MG) E1 := by rw [hE1]; exact (hM.upA (by decide) (by decide)).up (by decide) (by decide)
  have r1 : D1 (3 * t + 2) = Dx (3 * t + 2) := x1.1 _ (by omega) (by omega)
  have rb1 : E1 1 = Dm 1 := m1.1 1 (by decide) (by decide)
  have R1 : RingOk (gN XG) (3 * t + 1) (byN t) D1 := ⟨hR.1, hR.2.1, hR.2.2.1, by rw [x1.2.1 1 (by decide) (by decide)]; exact hR.2.2.2.1, fun i hi => by show By (D1 (3 * t + 2) i); rw [r1]; exact hR.2.2.2.2 i hi⟩
  have id1 : D1 2 3 = E1 0 4 := by
    rw [x1.1 2 (by omega) (by omega), m1.2.1 4 (by decide) (by decide)]
    exact hC.1
  unfold P_X0_seek P_X8_seek
  rw [p1, bi_s, q1, bi_s, m1.2.2.1]
  by_cases c0 : l.length = 0
  · rw [c0]
    rw [if_pos (show nI 0 = 0 from rfl), if_pos (show nI 0 = 0 from rfl)]
    exact ⟨l, -21, 21, D1, E1, rfl, rfl, rfl, x1, m1, Or.inr ⟨Or.inr (Or.inl rfl), rfl⟩⟩
  · rw [if_neg (nI_z (by omega) (by omega)), if_neg (nI_z (by omega) (by omega))]
    have E2 : up2 E1 0 17 (-1) 1 = Dm 1 := by rw [up2_o (by decide), rb1]
    obtain ⟨gx1, gx2⟩ := xseek_go (F := F) R1 (xn2 t h1 ht) (nI_nm1 (x := t) (by omega)) (nI_nm1 (x := s) (by omega)) (l := l) (by omega) (by omega) (fun j hj => ⟨x1.2.2.2.2 j hj, by have := hlt j hj; omega⟩) x1.2.2.1 l.length F 0 (by omega) (by omega)
    obtain ⟨gm1, gm2⟩ := mseek_go (N := gN MG) (F := F) (s := s) (by omega) h1 ht (by omega) (l := l) (by omega) l.length F 0 (up2 E1 0 17 (-1)) (by omega) (by omega) (MOk1.up (by decide) (by decide)) (fun j hj => ⟨by rw [up2_o (by decide)]; exact m1.2.2.2 j hj, by have := hlt j hj; omega⟩) (by rw [up2_app, if_neg (by omega)]; exact m1.2.2.1) (by rw [up2_app, if_pos ⟨rfl, rfl⟩])
    have bitr : ∀ q, q < 8 * byN t → rbit (D1 (3 * t + 1 + 1)) q = mbit (Dm 1) (stN t) q := fun q hq => by show rbit (D1 (3 * t + 2)) q = _; rw [r1]; exact hbit q hq
    rw [E2] at gm1 gm2
    have ez : (0 : Int32) = nI 0 := rfl
    rcases first_or (mbit (Dm 1) (stN t)) (8 * byN t) (nI t) (nI s) l l.length 0 (by omega) with ⟨j, hj⟩ | hn
    · have hjx : FirstAt (rbit (D1 (3 * t + 1 + 1))) (8 * byN t) (nI t) (nI s) l 0 j := by
        obtain ⟨a, b, c, d⟩ := hj
        exact ⟨a, b, (hOk_congr hL0 bitr _ _ _).mpr c, fun k hk e f g => d k hk e f ((hOk_congr hL0 bitr _ _ _).mp g)⟩
      obtain ⟨hjl, gx⟩ := gx1 j hjx
      have gm := gm1 j hj
      have hl17 : up2 (up2 E1 0 17 (-1)) 0 17 (nI j) = up2 E1 0 17 (nI j) := by
        funext c' k'
        rw [up2_app, up2_app, up2_app]
        split <;> rfl
      rw [hl17] at gm
      have hlj := hlt j hjl
      have M3 : MOk (gN MG) (up2 E1 0 17 (nI j)) := MOk1.up (by decide) (by decide)
      have s67 : P_X8_seek_67 (gN MG) F (nI t) (nI s) (up2 E1 0 17 (nI j)) = some (eOf (mbit (Dm 1) (stN t)) (8 * byN t) (E1 0 4) (nI t) (nI s) l[j], up2 E1 0 17 (nI j)) := by
        unfold P_X8_seek_67
        have e17 : up2 E1 0 17 (nI j) 0 17 = nI j := by rw [up2_app, if_pos ⟨rfl, rfl⟩]
        have e7 : up2 E1 0 17 (nI j) 7 j = nI l[j] := by rw [up2_o (by decide)]; exact m1.2.2.2 j hjl
        rw [e17, if_pos (nI_pos' (by omega)), hM.2.2.2.1, if_pos (in_nI (by omega) (by omega)), nI_clamp (by omega), e7, seek87_eq (by omega) h1 ht M3 (by omega)]
        rw [up2_o (by decide), rb1, up2_app, if_neg (by omega)]
      rw [ez, gx, gm, s67]
      have eeq : eOf (rbit (D1 (3 * t + 1 + 1))) (8 * byN t) (D1 2 3) (nI t) (nI s) l[j] = eOf (mbit (Dm 1) (stN t)) (8 * byN t) (E1 0 4) (nI t) (nI s) l[j] := by
        rw [eOf_congr hL0 bitr, id1]
      rw [eeq]
      have ecase := eOf_ne (f := mbit (Dm 1) (stN t)) (L := 8 * byN t) (id := E1 0 4) (t := nI t) (s := nI s) (p := l[j])
      generalize eOf (mbit (Dm 1) (stN t)) (8 * byN t) (E1 0 4) (nI t) (nI s) l[j] = e at *
      have m2 : SkM l Dm (up2 E1 0 17 (nI j)) := by
        refine ⟨fun c ha hb => by rw [up2_o ha]; exact m1.1 c ha hb, fun k ha hb => by rw [up2_app, if_neg (by omega)]; exact m1.2.1 k ha hb, by rw [up2_app, if_neg (by omega)]; exact m1.2.2.1, fun j hj => by rw [up2_o (by decide)]; exact m1.2.2.2 j hj⟩
      refine ⟨l, _, e, D1, _, rfl, rfl, rfl, x1, m2, ?_⟩
      rcases ecase with q | q | q
      · left
        rw [if_pos q]
        exact ⟨q, j, hjl, rfl, by rw [up2_app, if_pos ⟨rfl, rfl⟩]⟩
      · right
        rw [if_neg (by rw [q]; decide)]
        exact ⟨Or.inr (Or.inr (Or.inr q)), rfl⟩
      · right
        rw [if_neg (by rw [q]; decide)]
        exact ⟨Or.inr (Or.inr (Or.inl q)), rfl⟩
    · have hnx : NoneAt (rbit (D1 (3 * t + 1 + 1))) (8 * byN t) (nI t) (nI s) l 0 := fun k hk a g => hn k hk a ((hOk_congr hL0 bitr _ _ _).mp g)
      rw [ez, gx2 hnx, gm2 hn]
      have m2 : SkM l Dm (up2 E1 0 17 (-1)) := by
        refine ⟨fun c ha hb => by rw [up2_o ha]; exact m1.1 c ha hb, fun k ha hb => by rw [up2_app, if_neg (by omega)]; exact m1.2.1 k ha hb, by rw [up2_app, if_neg (by omega)]; exact m1.2.2.1, fun j hj => by rw [up2_o (by decide)]; exact m1.2.2.2 j hj⟩
      exact ⟨l, -20, 20, D1, _, rfl, rfl, rfl, x1, m2, Or.inr ⟨Or.inl rfl, rfl⟩⟩
