/-! READ: a block is read by both sides in lockstep -/
theorem By_nI {b : Nat} (hb : b < 256) : By (nI b) := by
  intro j hj
  rw [bt_nI (by omega)]
  exact Nat.testBit_lt_two_pow (Nat.lt_of_lt_of_le hb (Nat.pow_le_pow_right (n := 2) (by omega) (show 8 ≤ j from hj)))
theorem xor_0 (a b : Int32) : a ^^^ b = 0 ↔ b = a := by
  constructor
  · intro h
    apply b_ext
    intro i _
    have := congrArg (fun x => bt x i) h
    simp only [b_xor, b_0] at this
    cases ha : bt a i <;> cases hb : bt b i <;> simp_all
  · intro h
    subst h
    apply b_ext
    intro i _
    rw [b_xor, b_0]
    cases bt b i <;> rfl
theorem upA_at (D : Mm) (c : Nat) (f : Nat → Int32) (c' k : Nat) : upA D c f c' k = if c' = c then f k else D c' k := by
  unfold upA
  split <;> rfl
theorem RingOk.upA {N : Nat → Nat} {th n u : Nat} {D : Mm} {r : Nat → Int32} (h : RingOk N th n D) (h1 : u ≠ th) (h2 : u ≠ th + 1) : RingOk N th n (upA D u r) := by
  obtain ⟨a, b, c, d, e⟩ := h
  exact ⟨a, b, c, by rw [upA_ne (fun q => h1 q.symm)]; exact d, fun i hi => by rw [upA_ne (fun q => h2 q.symm)]; exact e i hi⟩
theorem data_go {F t p u : Nat} (hF : 100 ≤ F) (h1 : 1 ≤ t) (ht : t ≤ 16) (hp : p < 2 ^ 29) (hu : 55 ≤ u) (hNu : gN XG u = 64) : ∀ (m fx fm i : Nat) (S : Int32) (Dx Dm : Mm), i + m = 64 → m < fx → m + 1 < fm → RingOk (gN XG) (3 * t + 1) (byN t) Dx → MOk (gN MG) Dm → (∀ q, q < 8 * byN t → rbit (Dx (3 * t + 2)) q = mbit (Dm 1) (stN t) q) → ∃ (e : Int32) (r b : Nat → Int32), P_X5_takeData_21 (gN XG) F (3 * t + 1) u fx (nI (p + 10 * i)) S (nI i) Dx = some (e, upA Dx u r) ∧ P_X8_dataOf_36 (gN MG) F fm (nI t) (nI p) S (nI i) Dm = some (e, upA Dm 8 b) ∧ (e = 0 ∨ e = 23 ∨ e = 24) ∧ (∀ j, j < i → r j = Dx u j ∧ b j = Dm 8 j) ∧ (e = 0 → ∀ j, i ≤ j → j < 64 → r j = b j ∧ By (r j)) := by
  have hb := byN_le t
  have hL0 : 0 < 8 * byN t := by omega
  intro m
  induction m with
  | zero =>
    intro fx fm i S Dx Dm hi hfx hfm hR hM hbit
    have hi : i = 64 := by omega
    subst hi
    obtain ⟨fx, rfl⟩ : ∃ z, fx = z + 1 := ⟨fx - 1, by omega⟩
    obtain ⟨fm, rfl⟩ : ∃ z, fm = z + 2 := ⟨fm - 2, by omega⟩
    have ex : P_X5_takeData_21 (gN XG) F (3 * t + 1) u (fx + 1) (nI (p + 10 * 64)) S (nI 64) Dx = some (if cf (mbit (Dm 1) (stN t)) (8 * byN t) (p + 650) = -1 then 24 else if cf (mbit (Dm 1) (stN t)) (8 * byN t) (p + 650) = S then 0 else 23, Dx) := by
      show (if (64 : Int32) ≤ nI 64 then (P_X5_takeData_73 (gN XG) F (3 * t + 1) u (nI (p + 10 * 64)) S Dx) else _) = _
      rw [if_pos (by decide)]
      unfold P_X5_takeData_73
      have e1 : nI (p + 10 * 64) + (10 : Int32) = nI (p + 650) := by rw [show (10 : Int32) = nI 10 from rfl, nI_add]
      have ec : P_X5_codedAt (gN XG) F (3 * t + 1) (nI (p + 650)) Dx = some (cf (mbit (Dm 1) (stN t)) (8 * byN t) (p + 650), Dx) := by
        rw [← cf_congr hL0 hbit]
        exact codedAt_eq hR (by omega)
      rw [e1, ec, bi_s]
      split
      · rfl
      · split <;> rfl
    have em : P_X8_dataOf_36 (gN MG) F (fm + 2) (nI t) (nI p) S (nI 64) Dm = some (if cf (mbit (Dm 1) (stN t)) (8 * byN t) (p + 650) = -1 then 24 else if cf (mbit (Dm 1) (stN t)) (8 * byN t) (p + 650) = S then 0 else 23, Dm) := by
      show (if (65 : Int32) ≤ nI 64 then _ else (bi (P_X8_decoded (gN MG) F (nI t) (nI p + (10 * (nI 64 + 1))) Dm) (fun r3 D3 => if 0 ≤ r3 then (if (64 : Int32) ≤ nI 64 then (P_X8_dataOf_36 (gN MG) F (fm + 1) (nI t) (nI p) (S ^^^ r3) (nI 64 + 1) D3) else _) else (some (24, D3))))) = _
      have e1 : nI p + (10 * (nI 64 + 1)) = nI (p + 650) := nI_add p 650
      rw [if_neg (by decide), e1, mdec hF h1 ht hM (by omega), bi_s]
      by_cases c : cf (mbit (Dm 1) (stN t)) (8 * byN t) (p + 650) = -1
      · rw [if_neg (fun q => cf_nneg.mp q c), if_pos c]
      · rw [if_pos (cf_nneg.mpr c), if_neg c, if_pos (by decide)]
        show (if (65 : Int32) ≤ nI 65 then (if S ^^^ cf (mbit (Dm 1) (stN t)) (8 * byN t) (p + 650) = 0 then (some (0, Dm)) else (some (23, Dm))) else _) = _
        rw [if_pos (by decide)]
        by_cases d : cf (mbit (Dm 1) (stN t)) (8 * byN t) (p + 650) = S
        · rw [if_pos ((xor_0 _ _).mpr d), if_pos d]
        · rw [if_neg (fun q => d ((xor_0 _ _).mp q)), if_neg d]
    refine ⟨_, Dx u, Dm 8, by rw [ex, upA_id], by rw [em, upA_id], ?_, fun j _ => ⟨rfl, rfl⟩, fun _ j h1 h2 => by omega⟩
    split
    · exact Or.inr (Or.inr rfl)
    · split
      · exact Or.inl rfl
      · exact Or.inr (Or.inl rfl)
  | succ m ih =>
    intro fx fm i S Dx Dm hi hfx hfm hR hM hbit
    obtain ⟨fx, rfl⟩ : ∃ z, fx = z + 1 := ⟨fx - 1, by omega⟩
    obtain ⟨fm, rfl⟩ : ∃ z, fm = z + 1 := ⟨fm - 1, by omega⟩
    have e1 : nI (p + 10 * i) + (10 : Int32) = nI (p + 10 * (i + 1)) := by
      rw [show (10 : Int32) = nI 10 from rfl, nI_add]
      congr 1
    have e2 : nI p + (10 * (nI i + 1)) = nI (p + 10 * (i + 1)) := by
      rw [nI_1]
      have : (10 : Int32) * nI (i + 1) = nI (10 * (i + 1)) := pk_mul 10 _
      rw [this, nI_add]
    have ec : P_X5_codedAt (gN XG) F (3 * t + 1) (nI (p + 10 * (i + 1))) Dx = some (cf (mbit (Dm 1) (stN t)) (8 * byN t) (p + 10 * (i + 1)), Dx) := by
      rw [← cf_congr hL0 hbit]
      exact codedAt_eq hR (by omega)
    show ∃ (e : Int32) (r b : Nat → Int32), (if (64 : Int32) ≤ nI i then _ else (if nI (gN XG u) ≤ nI i then _ else (bi (P_X5_codedAt (gN XG) F (3 * t + 1) (nI (p + 10 * i) + 10) Dx) (fun r6 D6 => if r6 = (-1) then (some (24, D6)) else (if inB (nI i) (gN XG u) = true then (P_X5_takeData_21 (gN XG) F (3 * t + 1) u fx (nI (p + 10 * i) + 10) (S ^^^ r6) (nI i + 1) (up2 D6 u (Int32.toNatClampNeg (nI i)) r6)) else none))))) = some (e, upA Dx u r) ∧ (if (65 : Int32) ≤ nI i then _ else (bi (P_X8_decoded (gN MG) F (nI t) (nI p + (10 * (nI i + 1))) Dm) (fun r3 D3 => if 0 ≤ r3 then (if (64 : Int32) ≤ nI i then (P_X8_dataOf_36 (gN MG) F fm (nI t) (nI p) (S ^^^ r3) (nI i + 1) D3) else (if inB (nI i) (gN MG 8) = true then (P_X8_dataOf_36 (gN MG) F fm (nI t) (nI p) (S ^^^ r3) (nI i + 1) (up2 D3 8 (Int32.toNatClampNeg (nI i)) r3)) else none)) else (some (24, D3))))) = some (e, upA Dm 8 b) ∧ _
    rw [if_neg (show ¬ (64 : Int32) ≤ nI i from nI_ge (b := 64) (by omega) (by omega)), hNu, if_neg (nI_ge (by omega) (by omega)), e1, ec, bi_s, if_neg (show ¬ (65 : Int32) ≤ nI i from nI_ge (b := 65) (by omega) (by omega)), e2, mdec hF h1 ht hM (by omega), bi_s]
    have hcr := cf_range (mbit (Dm 1) (stN t)) (8 * byN t) (p + 10 * (i + 1))
    by_cases c : cf (mbit (Dm 1) (stN t)) (8 * byN t) (p + 10 * (i + 1)) = -1
    · rw [if_pos c, if_neg (fun q => cf_nneg.mp q c)]
      exact ⟨24, Dx u, Dm 8, by rw [upA_id], by rw [upA_id], Or.inr (Or.inr rfl), fun j _ => ⟨rfl, rfl⟩, fun q => absurd q (by decide)⟩
    · rw [if_neg c, if_pos (cf_nneg.mpr c), if_pos (in_nI (by omega) (by omega)), if_neg (show ¬ (64 : Int32) ≤ nI i from nI_ge (b := 64) (by omega) (by omega)), hM.2.2.2.2.1, if_pos (in_nI (by omega) (by omega)), nI_clamp (by omega), nI_1]
      obtain ⟨bv, hbv, ebv⟩ := hcr.resolve_left c
      rw [ebv]
      have rr : up2 Dx u i (nI bv) (3 * t + 2) = Dx (3 * t + 2) := up2_o (by omega)
      have mm : up2 Dm 8 i (nI bv) 1 = Dm 1 := up2_o (by decide)
      have R2 : RingOk (gN XG) (3 * t + 1) (byN t) (up2 Dx u i (nI bv)) := hR.upA (by omega) (by omega)
      obtain ⟨e, r, b, g1, g2, g3, g4, g5⟩ := ih fx fm (i + 1) (S ^^^ nI bv) (up2 Dx u i (nI bv)) (up2 Dm 8 i (nI bv)) (by omega) (by omega) (by omega) R2 (hM.up (by decide) (by decide)) (by rw [rr, mm]; exact hbit)
      have ux : upA (up2 Dx u i (nI bv)) u r = upA Dx u r := by rw [up2_A, upA_upA]
      have um : upA (up2 Dm 8 i (nI bv)) 8 b = upA Dm 8 b := by rw [up2_A, upA_upA]
      rw [ux] at g1
      rw [um] at g2
      refine ⟨e, r, b, g1, g2, g3, fun j hj => ?_, fun he j ha hb2 => ?_⟩
      · obtain ⟨a1, a2⟩ := g4 j (by omega)
        rw [a1, a2, up2_app, up2_app, if_neg (by omega), if_neg (by omega)]
        exact ⟨rfl, rfl⟩
      · by_cases ej : j = i
        · subst ej
          obtain ⟨a1, a2⟩ := g4 j (by omega)
          rw [a1, a2, up2_app, up2_app, if_pos ⟨rfl, rfl⟩, if_pos ⟨rfl, rfl⟩]
          exact ⟨rfl, By_nI hbv⟩
        · exact g5 he j (by omega) hb2
def secN (t : Nat) : Nat := if t < 9 then 9 else if t < 13 then 8 else 7
theorem secN_le (t : Nat) : 7 ≤ secN t ∧ secN t ≤ 9 := by
  unfold secN
  split
  · omega
  · split <;> omega
theorem ringOf_eq : ∀ t, 1 ≤ t → t ≤ 16 → P_X0_ringOf (nI t) = some (3 * t + 1) := by
  have : ∀ t, t < 17 → 1 ≤ t → P_X0_ringOf (nI t) = some (3 * t + 1) := by decide +kernel
  intro t h1 h2
  exact this t (by omega) h1
theorem xsectorsOf_eq {N : Nat → Nat} {F t : Nat} (D : Mm) (h1 : 1 ≤ t) (ht : t ≤ 16) : P_X0_sectorsOf N F (nI t) D = some (nI (secN t), D) := by
  have e : ∀ t, t < 17 → 1 ≤ t → (if nI t < 1 then (0 : Int32) else (if nI t ≤ 16 then (if 8 < nI t then (if 12 < nI t then 7 else 8) else 9) else 0)) = nI (secN t) := by decide +kernel
  unfold P_X0_sectorsOf
  rw [ite_some, ite_some, ite_some, ite_some, e t (by omega) h1]
theorem xisBlock_eq {N : Nat → Nat} {F t s : Nat} (D : Mm) (h1 : 1 ≤ t) (ht : t ≤ 16) (hs : s < secN t) : P_X0_isBlock N F (nI t) (nI s) D = some (1, D) := by
  have := secN_le t
  unfold P_X0_isBlock
  rw [if_neg (nI_pos (by omega)), xsectorsOf_eq D h1 ht, bi_s, if_neg (nI_ge (by omega) (by omega))]
/-- what reading leaves: all but the rings, the counts and the row that it is read into -/
def RdX (u : Nat) (Dx D1 : Mm) : Prop := (∀ c, c ≠ u → (c ≤ 1 ∨ 52 ≤ c) → D1 c = Dx c) ∧ D1 2 3 = Dx 2 3
def RdM (Dm D1 : Mm) : Prop := (∀ c, c ≠ 0 → c ≠ 7 → c ≠ 8 → D1 c = Dm c) ∧ ∀ k, k ≠ 12 → k ≠ 14 → k ≠ 16 → k ≠ 17 → D1 0 k = Dm 0 k
def rdErr (e : Int32) : Prop := e = 20 ∨ e = 21 ∨ e = 22 ∨ e = 23 ∨ e = 24 ∨ e = 27 ∨ e = 29
/-- tracks stay over what leaves the rings' rows and makes the syncs known rightly -/
theorem TrX.sk {Dx D1 : Mm} {t : Nat} {l : List Nat} (h1 : 1 ≤ t) (ht : t ≤ 16) (h : TrX Dx) (hl : l = SY (rbit (Dx (3 * t + 2))) (8 * byN t)) (hs : SkX t l Dx D1) : TrX D1 := by
  intro v hv1 hv2
  obtain ⟨hR, hK⟩ := h v hv1 hv2
  have rv : D1 (3 * v + 2) = Dx (3 * v + 2) := hs.1 _ (by omega) (by omega)
  by_cases e : v = t
  · subst e
    refine ⟨⟨hR.1, hR.2.1, hR.2.2.1, by rw [hs.2.1 1 (by decide) (by decide)]; exact hR.2.2.2.1, fun i hi => by show By (D1 (3 * v + 2) i); rw [rv]; exact hR.2.2.2.2 i hi⟩, Or.inr hs.2.2.2.1, fun _ => ?_⟩
    show D1 (3 * v + 1) 3 = nI (SY (rbit (D1 (3 * v + 2))) (8 * byN v)).length ∧ ∀ j (hj : j < (SY (rbit (D1 (3 * v + 2))) (8 * byN v)).length), D1 (3 * v + 3) j = nI ((SY (rbit (D1 (3 * v + 2))) (8 * byN v))[j])
    simp only [rv, ← hl]
    exact ⟨hs.2.2.1, hs.2.2.2.2⟩
  · have o1 : D1 (3 * v + 1) = Dx (3 * v + 1) := hs.1 _ (by omega) (by omega)
    have o3 : D1 (3 * v + 3) = Dx (3 * v + 3) := hs.1 _ (by omega) (by omega)
    refine ⟨⟨hR.1, hR.2.1, hR.2.2.1, by rw [o1]; exact hR.2.2.2.1, fun i hi => by show By (D1 (3 * v + 2) i); rw [rv]; exact hR.2.2.2.2 i hi⟩, ?_⟩
    unfold KnownOk at hK ⊢
    rw [o1]
    show _ ∧ (_ → Dx (3 * v + 1) 3 = nI (SY (rbit (D1 (3 * v + 2))) (8 * byN v)).length ∧ ∀ j (hj : j < (SY (rbit (D1 (3 * v + 2))) (8 * byN v)).length), D1 (3 * v + 3) j = nI ((SY (rbit (D1 (3 * v + 2))) (8 * byN v))[j]))
    simp only [rv, o3]
    exact hK
theorem Core.sk {Dx Dm D1 E1 : Mm} {t : Nat} {l : List Nat} (h1 : 1 ≤ t) (ht : t ≤ 16) (h : Core Dx Dm) (hl : l = SY (mbit (Dm 1) (stN t)) (8 * byN t)) (hx : SkX t l Dx D1) (hm : SkM l Dm E1) : Core D1 E1 := by
  obtain ⟨hX, hB, h01, hM, hC⟩ := h
  have eSY : SY (rbit (Dx (3 * t + 2))) (8 * byN t) = SY (mbit (Dm 1) (stN t)) (8 * byN t) := SY_congr (hB t h1 ht)
  have m1 : E1 1 = Dm 1 := hm.1 1 (by decide) (by decide)
  have x2 : D1 2 = Dx 2 := hx.1 2 (by omega) (by omega)
  refine ⟨hX.sk h1 ht (by rw [eSY]; exact hl) hx, ?_, ?_, ?_, ?_⟩
  · intro v hv1 hv2 q hq
    rw [hx.1 (3 * v + 2) (by omega) (by omega), m1]
    exact hB v hv1 hv2 q hq
  · intro i
    rw [m1]
    exact h01 i
  · obtain ⟨a, b, c, d, e, f, g⟩ := hM
    exact ⟨a, b, c, d, e, fun j hj => by rw [hm.1 4 (by decide) (by decide)]; exact f j hj, fun j hj => by rw [hm.1 3 (by decide) (by decide)]; exact g j hj⟩
  · unfold Cnt at hC ⊢
    rw [x2, hm.2.1 4 (by decide) (by decide), hm.2.1 12 (by decide) (by decide), hm.2.1 13 (by decide) (by decide), hm.2.1 14 (by decide) (by decide)]
    exact hC
