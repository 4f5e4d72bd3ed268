/-! BYTES: peek, poke, stamp, turn -/
theorem Core.trk {Dx Dm Dx1 Dm1 : Mm} {t : Nat} (h1 : 1 ≤ t) (ht : t ≤ 16) (h : Core Dx Dm) (hx : ∀ c, 3 ≤ c → c ≤ 51 → c ≠ 3 * t + 1 → c ≠ 3 * t + 2 → Dx1 c = Dx c) (hb : Dx1 (3 * t + 1) 1 = Dx (3 * t + 1) 1) (hk : Dx1 (3 * t + 1) 4 = 0) (hr : ∀ i, i < byN t → By (Dx1 (3 * t + 2) i)) (hm3 : Dm1 3 = Dm 3) (hm4 : Dm1 4 = Dm 4) (ho : ∀ i, (i < stN t ∨ stN t + 8 * byN t ≤ i) → Dm1 1 i = Dm 1 i) (h01 : ∀ i, Dm1 1 i = Dm 1 i ∨ Dm1 1 i = 0 ∨ Dm1 1 i = 1) (heq : ∀ q, q < 8 * byN t → rbit (Dx1 (3 * t + 2)) q = mbit (Dm1 1) (stN t) q) (hc : Cnt Dx1 Dm1) : Core Dx1 Dm1 := by
  obtain ⟨hX, hB, hb01, hM, _⟩ := h
  refine ⟨?_, ?_, ?_, ?_, hc⟩
  · intro v hv1 hv2
    obtain ⟨hR, hK⟩ := hX v hv1 hv2
    by_cases e : v = t
    · subst e
      refine ⟨⟨hR.1, hR.2.1, hR.2.2.1, by rw [hb]; exact hR.2.2.2.1, hr⟩, Or.inl hk, fun q => ?_⟩
      rw [hk] at q
      exact absurd q (by decide)
    · have o1 := hx (3 * v + 1) (by omega) (by omega) (by omega) (by omega)
      have o2 := hx (3 * v + 2) (by omega) (by omega) (by omega) (by omega)
      have o3 := hx (3 * v + 3) (by omega) (by omega) (by omega) (by omega)
      refine ⟨⟨hR.1, hR.2.1, hR.2.2.1, by rw [o1]; exact hR.2.2.2.1, fun i hi => by show By (Dx1 (3 * v + 2) i); rw [o2]; exact hR.2.2.2.2 i hi⟩, ?_⟩
      unfold KnownOk at hK ⊢
      rw [o1]
      show _ ∧ (_ → Dx (3 * v + 1) 3 = nI (SY (rbit (Dx1 (3 * v + 2))) (8 * byN v)).length ∧ ∀ j (hj : j < (SY (rbit (Dx1 (3 * v + 2))) (8 * byN v)).length), Dx1 (3 * v + 3) j = nI ((SY (rbit (Dx1 (3 * v + 2))) (8 * byN v))[j]))
      simp only [o2, o3]
      exact hK
  · intro v hv1 hv2 q hq
    by_cases e : v = t
    · subst e
      exact heq q hq
    · rw [hx (3 * v + 2) (by omega) (by omega) (by omega) (by omega), hB v hv1 hv2 q hq]
      unfold mbit
      rw [ho (stN v + q) (by have := stN_step t v h1 ht hv1 hv2 (fun q => e q.symm); omega)]
  · intro i
    rcases h01 i with c | c
    · rw [c]; exact hb01 i
    · exact c
  · obtain ⟨m1, m2, m3, m4, m5, m6, m7⟩ := hM
    exact ⟨m1, m2, m3, m4, m5, by rw [hm4]; exact m6, by rw [hm3]; exact m7⟩
theorem Rel.trk {Dx Dm Dx1 Dm1 : Mm} (h : Rel Dx Dm) (hc : Core Dx1 Dm1) (hx : ∀ c, (c ≤ 2 ∨ (52 ≤ c ∧ c ≠ 72)) → Dx1 c = Dx c) (hm : ∀ c, c ≠ 1 → c ≠ 2 → Dm1 c = Dm c) : Rel Dx1 Dm1 := by
  obtain ⟨_, hid, hst, htp, hou, h69, hsm⟩ := h
  have m0 := hm 0 (by decide) (by decide)
  refine ⟨hc, by rw [hx 2 (by omega)]; exact hid, ?_, htp.keep (hx _ (by omega)) (hx _ (by omega)) (by rw [m0]) (hm _ (by decide) (by decide)), hou.keep (hx _ (by omega)) (hx _ (by omega)) (by rw [m0]) (hm _ (by decide) (by decide)), by rw [hx 69 (by omega)]; exact h69, hsm.keep (hx _ (by omega)) (hx _ (by omega))⟩
  unfold Stt at hst ⊢
  rw [hx 1 (by omega), m0]
  exact hst
/-- a byte of the track, or none -/
theorem byte_cases {t : Nat} (a : Int32) (h1 : 1 ≤ t) (ht : t ≤ 16) : (∃ j, j < byN t ∧ a = nI j ∧ (∀ (F : Nat) (D : Mm), P_X5_hasByte (gN XG) F (3 * t + 1) a D = some (1, D)) ∧ ∀ (F : Nat) (D : Mm), P_X8_isByte (gN MG) F (nI t) a D = some (1, D)) ∨ ((∀ (F : Nat) (D : Mm), P_X5_hasByte (gN XG) F (3 * t + 1) a D = some (0, D)) ∧ ∀ (F : Nat) (D : Mm), P_X8_isByte (gN MG) F (nI t) a D = some (0, D)) := by
  have hb := byN_le t
  have hN : gN XG (3 * t + 1 + 1) = byN t := by
    have key : ∀ t, t < 17 → 1 ≤ t → gN XG (3 * t + 1 + 1) = byN t := by decide +kernel
    exact key t (by omega) h1
  have em1 : (nI (byN t) - 1).toInt = (byN t : Int) - 1 := pk_sub_toInt (a := byN t) (b := 1) (by omega) (by omega)
  rcases pk_ix a (n := byN t) (by omega) with c | c | ⟨j, hj, rfl⟩
  · right
    constructor
    · intro F D
      unfold P_X5_hasByte
      rw [if_pos c]
    · intro F D
      unfold P_X8_isByte P_X8_isIn
      rw [isTrack_t D h1 ht, bi_s, if_neg (by decide), bytesOf_eq D ht, bi_s, if_pos c, bi_s, if_pos rfl]
  · right
    have c0 : ¬ a < 0 := by
      rw [Int32.lt_iff_toInt_lt]
      rw [Int32.le_iff_toInt_le, nI_toInt (by omega)] at c
      have e : (0 : Int32).toInt = 0 := rfl
      omega
    constructor
    · intro F D
      unfold P_X5_hasByte
      rw [if_neg c0, hN, if_pos c]
    · intro F D
      unfold P_X8_isByte P_X8_isIn
      rw [isTrack_t D h1 ht, bi_s, if_neg (by decide), bytesOf_eq D ht, bi_s, if_neg c0, if_pos (show nI (byN t) - 1 < a by rw [Int32.lt_iff_toInt_lt, em1]; rw [Int32.le_iff_toInt_le, nI_toInt (by omega)] at c; omega), bi_s, if_pos rfl]
  · left
    refine ⟨j, hj, rfl, fun F D => ?_, fun F D => ?_⟩
    · unfold P_X5_hasByte
      rw [if_neg (show ¬ nI j < 0 from nI_nlt (b := 0) (by omega) (by omega)), hN, if_neg (show ¬ nI (byN t) ≤ nI j from nI_ge hj (by omega))]
    · unfold P_X8_isByte P_X8_isIn
      rw [isTrack_t D h1 ht, bi_s, if_neg (by decide), bytesOf_eq D ht, bi_s, if_neg (show ¬ nI j < 0 from nI_nlt (b := 0) (by omega) (by omega)), if_neg (show ¬ nI (byN t) - 1 < nI j by rw [Int32.lt_iff_toInt_lt, em1, nI_toInt (by omega)]; omega), bi_s, if_neg (by decide)]
theorem mbyte_go {N : Nat → Nat} {F t i : Nat} {D : Mm} (h1 : 1 ≤ t) (ht : t ≤ 16) (hi : i < byN t) (hN1 : N 1 = 124480) : ∀ (m n k : Nat), k + m = 8 → m < n → P_X8_byteAt_16 N F n (nI (tn (fun k => mbit (D 1) (stN t) (8 * i + k)) k)) (nI (stN t + 8 * i)) (nI k) D = some (nI (tn (fun k => mbit (D 1) (stN t) (8 * i + k)) 8), D) := by
  have hb := byN_le t
  have hst := st_le t ⟨h1, ht⟩
  intro m
  induction m with
  | zero =>
    intro n k hk hn
    have hk : k = 8 := by omega
    subst hk
    obtain ⟨n, rfl⟩ : ∃ z, n = z + 1 := ⟨n - 1, by omega⟩
    show (if (8 : Int32) ≤ nI 8 then _ else _) = _
    rw [if_pos (by decide)]
  | succ m ih =>
    intro n k hk hn
    obtain ⟨n, rfl⟩ : ∃ z, n = z + 1 := ⟨n - 1, by omega⟩
    have hv := tn_lt (fun k => mbit (D 1) (stN t) (8 * i + k)) k
    have hp : 2 ^ k ≤ 256 := Nat.pow_le_pow_right (n := 2) (by omega) (show k ≤ 8 by omega)
    have nx := ih n (k + 1) (by omega) (by omega)
    rw [show tn (fun k => mbit (D 1) (stN t) (8 * i + k)) (k + 1) = 2 * tn (fun k => mbit (D 1) (stN t) (8 * i + k)) k + (if mbit (D 1) (stN t) (8 * i + k) then 1 else 0) from rfl] at nx
    generalize tn (fun k => mbit (D 1) (stN t) (8 * i + k)) k = v at hv nx ⊢
    have e1 : (2 : Int32) * nI v = nI (2 * v) := pk_mul 2 v
    have e2 : nI (2 * v) + (0 : Int32) = nI (2 * v + 0) := nI_add _ 0
    have e3 : nI (2 * v) + (1 : Int32) = nI (2 * v + 1) := nI_add _ 1
    show (if (8 : Int32) ≤ nI k then _ else (if inB (nI (stN t + 8 * i) + nI k) (N 1) = true then (if D 1 (Int32.toNatClampNeg (nI (stN t + 8 * i) + nI k)) = 0 then P_X8_byteAt_16 N F n (2 * nI v + 0) (nI (stN t + 8 * i)) (nI k + 1) D else P_X8_byteAt_16 N F n (2 * nI v + 1) (nI (stN t + 8 * i)) (nI k + 1) D) else none)) = _
    rw [if_neg (show ¬ (8 : Int32) ≤ nI k from nI_ge (b := 8) (by omega) (by omega)), nI_add, hN1, if_pos (in_nI (by omega) (by omega)), nI_clamp (by omega), nI_1, e1, e2, e3]
    by_cases c : D 1 (stN t + 8 * i + k) = 0
    · rw [if_pos c]
      rw [if_neg (by rw [mbit_f (by rw [← Nat.add_assoc]; exact c)]; decide)] at nx
      exact nx
    · rw [if_neg c]
      rw [if_pos (by rw [mbit_t (by rw [← Nat.add_assoc]; exact c)])] at nx
      exact nx
theorem mbyteAt_eq {N : Nat → Nat} {F t i : Nat} (D : Mm) (hF : 100 ≤ F) (h1 : 1 ≤ t) (ht : t ≤ 16) (hi : i < byN t) (hN1 : N 1 = 124480) : P_X8_byteAt N F (nI t) (nI i) D = some (nI (tn (fun k => mbit (D 1) (stN t) (8 * i + k)) 8), D) := by
  unfold P_X8_byteAt
  rw [startOf_eq D hF h1 ht, bi_s, show (8 : Int32) * nI i = nI (8 * i) from pk_mul 8 i, nI_add]
  exact mbyte_go h1 ht hi hN1 8 F 0 (by omega) (by omega)
theorem byte_bits {x : Int32} {f : Nat → Bool} (hx : By x) (h : ∀ k, k < 8 → f k = bt x (7 - k)) : x = nI (tn f 8) := by
  apply b_ext
  intro i hi
  have := tn_lt f 8
  rw [bt_nI (by omega), tn_bit]
  by_cases c : i < 8
  · rw [decide_eq_true c, Bool.true_and, h _ (by omega)]
    congr 1
    omega
  · rw [decide_eq_false c, Bool.false_and, hx i (by omega)]
theorem mset_go {N : Nat → Nat} {F t i : Nat} {v : Int32} (h1 : 1 ≤ t) (ht : t ≤ 16) (hi : i < byN t) (hN1 : N 1 = 124480) : ∀ (m n k : Nat) (D : Mm), k + m = 8 → m < n → ∃ b : Nat → Int32, P_X8_setByte_14 N F n v (nI (stN t + 8 * i)) (nI k) D = some (0, upA D 1 b) ∧ Wr (mbit (D 1) (stN t)) (mbit b (stN t)) (8 * byN t) (8 * i + k) m (fun x => bt v (m - 1 - x)) ∧ (∀ i, (i < stN t ∨ stN t + 8 * byN t ≤ i) → b i = D 1 i) ∧ (∀ i, b i = D 1 i ∨ b i = 0 ∨ b i = 1) := by
  have hb := byN_le t
  have hst := st_le t ⟨h1, ht⟩
  intro m
  induction m with
  | zero =>
    intro n k D hk hn
    obtain ⟨n, rfl⟩ : ∃ z, n = z + 1 := ⟨n - 1, by omega⟩
    refine ⟨D 1, ?_, ⟨fun x hx => by omega, fun q hq _ => rfl⟩, fun _ _ => rfl, fun _ => Or.inl rfl⟩
    show (if (8 : Int32) ≤ nI k then _ else _) = _
    rw [if_pos (show (8 : Int32) ≤ nI k from nI_le (a := 8) (by omega) (by omega)), upA_id]
  | succ m ih =>
    intro n k D hk hn
    obtain ⟨n, rfl⟩ : ∃ z, n = z + 1 := ⟨n - 1, by omega⟩
    have e7 : (7 : Int32) - nI k = nI m := by rw [show (7 : Int32) - nI k = nI (7 - k) from pk_sub (a := 7) (by omega)]; congr 1; omega
    show ∃ b : Nat → Int32, (if (8 : Int32) ≤ nI k then some (0, D) else (if ((v >>> ((7 - nI k) &&& 31)) &&& 1) = 1 then (if inB (nI (stN t + 8 * i) + nI k) (N 1) = true then (P_X8_setByte_14 N F n v (nI (stN t + 8 * i)) (nI k + 1) (up2 D 1 (Int32.toNatClampNeg (nI (stN t + 8 * i) + nI k)) 1)) else none) else (if inB (nI (stN t + 8 * i) + nI k) (N 1) = true then (P_X8_setByte_14 N F n v (nI (stN t + 8 * i)) (nI k + 1) (up2 D 1 (Int32.toNatClampNeg (nI (stN t + 8 * i) + nI k)) 0)) else none))) = some (0, upA D 1 b) ∧ _
    rw [if_neg (show ¬ (8 : Int32) ≤ nI k from nI_ge (b := 8) (by omega) (by omega)), nI_add, hN1, if_pos (in_nI (by omega) (by omega)), if_pos (in_nI (by omega) (by omega)), nI_clamp (by omega), nI_1, e7]
    have hm : (8 * i + k) % (8 * byN t) = 8 * i + k := Nat.mod_eq_of_lt (by omega)
    have step : ∀ x : Int32, (x = 0 ∨ x = 1) → (x = 0 ↔ bt v m = false) → ∃ b : Nat → Int32, P_X8_setByte_14 N F n v (nI (stN t + 8 * i)) (nI (k + 1)) (up2 D 1 (stN t + 8 * i + k) x) = some (0, upA D 1 b) ∧ Wr (mbit (D 1) (stN t)) (mbit b (stN t)) (8 * byN t) (8 * i + k) (m + 1) (fun x => bt v (m + 1 - 1 - x)) ∧ (∀ i, (i < stN t ∨ stN t + 8 * byN t ≤ i) → b i = D 1 i) ∧ (∀ i, b i = D 1 i ∨ b i = 0 ∨ b i = 1) := by
      intro x hx hxb
      obtain ⟨b, p1, p2, p3, p4⟩ := ih n (k + 1) (up2 D 1 (stN t + 8 * i + k) x) (by omega) (by omega)
      rw [up2_row] at p2 p3 p4
      refine ⟨b, ?_, ?_, ?_, ?_⟩
      · rw [p1, up2_A, upA_upA]
      · refine Wr.cons (f1 := mbit (upd (D 1) (stN t + 8 * i + k) x) (stN t)) (by omega) ?_ ?_ p2 (fun x hx => by congr 1; omega)
        · show mbit _ _ _ = bt v (m + 1 - 1 - 0)
          rw [show m + 1 - 1 - 0 = m by omega, hm]
          have eu : upd (D 1) (stN t + 8 * i + k) x (stN t + (8 * i + k)) = x := by unfold upd; rw [if_pos (by omega)]
          by_cases c : x = 0
          · rw [mbit_f (by rw [eu]; exact c), hxb.mp c]
          · rw [mbit_t (by rw [eu]; exact c)]
            cases hv : bt v m with
            | true => rfl
            | false => exact absurd (hxb.mpr hv) c
        · intro q hq hne
          unfold mbit upd
          rw [if_neg (by omega)]
      · intro j hj
        rw [p3 j hj]
        unfold upd
        rw [if_neg (by omega)]
      · intro j
        rcases p4 j with c | c
        · rw [c]
          unfold upd
          split
          · exact Or.inr hx
          · exact Or.inl rfl
        · exact Or.inr c
    by_cases c : bt v m = true
    · rw [if_pos ((bit1 v (by omega)).mpr c)]
      exact step 1 (Or.inr rfl) ⟨fun q => absurd q (by decide), fun q => absurd c (by rw [q]; decide)⟩
    · rw [if_neg (fun q => c ((bit1 v (by omega)).mp q))]
      exact step 0 (Or.inl rfl) ⟨fun _ => bt_false c, fun _ => rfl⟩
theorem msetByte_eq {N : Nat → Nat} {F t i : Nat} {v : Int32} (D : Mm) (hF : 100 ≤ F) (h1 : 1 ≤ t) (ht : t ≤ 16) (hi : i < byN t) (hN1 : N 1 = 124480) : ∃ b : Nat → Int32, P_X8_setByte N F (nI t) (nI i) v D = some (0, upA D 1 b) ∧ Wr (mbit (D 1) (stN t)) (mbit b (stN t)) (8 * byN t) (8 * i) 8 (fun x => bt v (7 - x)) ∧ (∀ i, (i < stN t ∨ stN t + 8 * byN t ≤ i) → b i = D 1 i) ∧ (∀ i, b i = D 1 i ∨ b i = 0 ∨ b i = 1) := by
  unfold P_X8_setByte
  rw [startOf_eq D hF h1 ht, bi_s, show (8 : Int32) * nI i = nI (8 * i) from pk_mul 8 i, nI_add]
  exact mset_go h1 ht hi hN1 8 F 0 D (by omega) (by omega)
/-- what one ring's new bits mean for the relation -/
theorem Rel.put {Dx Dm : Mm} {t a w : Nat} {g : Nat → Bool} {r b : Nat → Int32} (h1 : 1 ≤ t) (ht : t ≤ 16) (h : Rel Dx Dm) (p2 : ∀ i, i < byN t → By (r i)) (p3 : Wr (rbit (Dx (3 * t + 1 + 1))) (rbit r) (8 * byN t) a w g) (q2 : Wr (mbit (Dm 1) (stN t)) (mbit b (stN t)) (8 * byN t) a w g) (q3 : ∀ i, (i < stN t ∨ stN t + 8 * byN t ≤ i) → b i = Dm 1 i) (q4 : ∀ i, b i = Dm 1 i ∨ b i = 0 ∨ b i = 1) : Rel (up2 (upA Dx (3 * t + 1 + 1) r) (3 * t + 1) 4 0) (upA Dm 1 b) := by
  have er : up2 (upA Dx (3 * t + 1 + 1) r) (3 * t + 1) 4 0 (3 * t + 2) = r := by rw [up2_o (by omega), show 3 * t + 2 = 3 * t + 1 + 1 by omega, upA_row]
  have ex : ∀ c, c ≠ 3 * t + 1 → c ≠ 3 * t + 2 → up2 (upA Dx (3 * t + 1 + 1) r) (3 * t + 1) 4 0 c = Dx c := fun c ha hb => by rw [up2_o ha, upA_ne (by omega)]
  refine h.trk (h.1.trk h1 ht (fun c _ _ => ex c) ?_ ?_ ?_ ?_ ?_ ?_ ?_ ?_ ?_) (fun c hc => ex c (by omega) (by omega)) (fun c ha _ => upA_ne ha)
  · rw [up2_app, if_neg (by omega), upA_ne (by omega)]
  · rw [up2_app, if_pos ⟨rfl, rfl⟩]
  · rw [er]; exact p2
  · exact upA_ne (by decide)
  · exact upA_ne (by decide)
  · rw [upA_row]; exact q3
  · rw [upA_row]; exact q4
  · rw [er, upA_row]
    exact p3.same q2 (h.1.2.1 t h1 ht)
  · have := h.1.2.2.2.2
    unfold Cnt at this ⊢
    rw [ex 2 (by omega) (by omega), upA_ne (by decide)]
    exact this
theorem xbyteAt_eq {t j F : Nat} {D : Mm} (hN : gN XG (3 * t + 1 + 1) = byN t) (hj : j < byN t) (hh : ∀ (F : Nat) (D : Mm), P_X5_hasByte (gN XG) F (3 * t + 1) (nI j) D = some (1, D)) : P_X5_byteAt (gN XG) F (3 * t + 1) (nI j) D = some (D (3 * t + 1 + 1) j, D) := by
  have hb := byN_le t
  unfold P_X5_byteAt
  rw [hh, bi_s, if_neg (by decide), hN, if_pos (in_nI (by omega) (by omega)), nI_clamp (by omega)]
theorem same_byte {Dx Dm : Mm} {t j : Nat} (h1 : 1 ≤ t) (ht : t ≤ 16) (h : Core Dx Dm) (hj : j < byN t) : Dx (3 * t + 1 + 1) j = nI (tn (fun k => mbit (Dm 1) (stN t) (8 * j + k)) 8) := by
  obtain ⟨hR, _⟩ := h.1 t h1 ht
  refine byte_bits (hR.2.2.2.2 j hj) (fun k hk => ?_)
  rw [← h.2.1 t h1 ht (8 * j + k) (by omega), rbit_at _ hk]
theorem bqS (q : Nat) (a : Rs) (b : Nat → Rs) : bq (some q) a b = b q := rfl
theorem bqN (a : Rs) (b : Nat → Rs) : bq none a b = a := rfl
theorem sim_peek {F : Nat} (hF : 9000 ≤ F) : Sim_peek Rel F := by
  intro Dx Dm a1 a2 h
  unfold P_X7_peek P_X8_peek
  rcases track_cases a1 with ⟨t, h1, ht, rfl⟩ | ⟨e1, e2⟩
  · rw [ringOf_eq t h1 ht]
    rcases byte_cases a2 h1 ht with ⟨j, hj, rfl, x1, m1⟩ | ⟨x1, m1⟩
    · rw [bqS, x1, m1, bi_s, bi_s, if_neg (by decide), if_neg (by decide), xbyteAt_eq (h.1.1 t h1 ht).1.2.2.1 hj x1, mbyteAt_eq Dm (by omega) h1 ht hj h.1.2.2.2.1.1, bi_s, bi_s, same_byte h1 ht h.1 hj]
      exact ⟨_, _, _, rfl, rfl, h⟩
    · rw [bqS, x1, m1, bi_s, bi_s, if_pos rfl, if_pos rfl]
      exact ⟨_, _, _, rfl, rfl, h⟩
  · unfold P_X8_isByte
    rw [e1, bqN, e2, bi_s, if_pos rfl, bi_s, if_pos rfl]
    exact ⟨_, _, _, rfl, rfl, h⟩
theorem sim_poke {F : Nat} (hF : 9000 ≤ F) : Sim_poke Rel F := by
  intro Dx Dm a1 a2 a3 h
  unfold P_X7_poke P_X8_poke
  rcases track_cases a1 with ⟨t, h1, ht, rfl⟩ | ⟨e1, e2⟩
  · rw [ringOf_eq t h1 ht]
    have hb := byN_le t
    rcases byte_cases a2 h1 ht with ⟨j, hj, rfl, x1, m1⟩ | ⟨x1, m1⟩
    · obtain ⟨r, p1, p2, p3⟩ := putBits_eq (N := gN XG) (F := F) (v := a3) (a := 8 * j) (w := 8) (h.1.1 t h1 ht).1 (by omega) (by decide) (by decide) mask8
      obtain ⟨b, q1, q2, q3, q4⟩ := msetByte_eq (N := gN MG) (F := F) (v := a3) Dm (by omega) h1 ht hj h.1.2.2.2.1.1
      rw [bqS, x1, m1, bi_s, bi_s, if_neg (by decide), if_neg (by decide), xbyteAt_eq (h.1.1 t h1 ht).1.2.2.1 hj x1, mbyteAt_eq Dm (by omega) h1 ht hj h.1.2.2.2.1.1, bi_s, bi_s, same_byte h1 ht h.1 hj, show (8 : Int32) * nI j = nI (8 * j) from pk_mul 8 j, show (8 : Int32) = nI 8 from rfl, p1, q1, bi_s, bi_s]
      exact ⟨_, _, _, rfl, rfl, h.put h1 ht p2 p3 q2 q3 q4⟩
    · rw [bqS, x1, m1, bi_s, bi_s, if_pos rfl, if_pos rfl]
      exact ⟨_, _, _, rfl, rfl, h⟩
  · unfold P_X8_isByte
    rw [e1, bqN, e2, bi_s, if_pos rfl, bi_s, if_pos rfl]
    exact ⟨_, _, _, rfl, rfl, h⟩
theorem jush16 (v : Int32) (x : Nat) : bt (jush v 16) x = bt v (16 + x) := b_ushr 16 (by decide) v x
theorem Wr.shift {f f1 g : Nat → Bool} {n i k : Nat} (hn : 0 < n) (h : Wr f f1 (8 * n) (8 * ((i + k) % n)) 8 g) : Wr f f1 (8 * n) (8 * i + 8 * k) 8 g := by
  have e : ∀ x, x < 8 → (8 * i + 8 * k + x) % (8 * n) = (8 * ((i + k) % n) + x) % (8 * n) := by
    intro x hx
    rw [show 8 * i + 8 * k + x = 8 * (i + k) + x by omega, mod8 _ _ _ hx hn, mod8 _ _ _ hx hn, Nat.mod_mod]
  refine ⟨fun x hx => by rw [e x hx]; exact h.1 x hx, fun q hq hne => h.2 q hq (fun x hx => by rw [← e x hx]; exact hne x hx)⟩
theorem stamp_go {F t i : Nat} {v : Int32} (hF : 100 ≤ F) (h1 : 1 ≤ t) (ht : t ≤ 16) (hi : i < byN t) : ∀ (m n k : Nat) (D : Mm), k + m = 4 → m < n → ∃ b : Nat → Int32, P_X8_stamp_13 (gN MG) F n (nI t) (nI i) v (nI k) D = some (1, upA D 1 b) ∧ Wr (mbit (D 1) (stN t)) (mbit b (stN t)) (8 * byN t) (8 * i + 8 * k) (8 * m) (fun x => bt v (8 * m - 1 - x)) ∧ (∀ i, (i < stN t ∨ stN t + 8 * byN t ≤ i) → b i = D 1 i) ∧ (∀ i, b i = D 1 i ∨ b i = 0 ∨ b i = 1) := by
  have hb := byN_le t
  intro m
  induction m with
  | zero =>
    intro n k D hk hn
    obtain ⟨n, rfl⟩ : ∃ z, n = z + 1 := ⟨n - 1, by omega⟩
    refine ⟨D 1, ?_, ⟨fun x hx => by omega, fun q hq _ => rfl⟩, fun _ _ => rfl, fun _ => Or.inl rfl⟩
    show (if (4 : Int32) ≤ nI k then _ else _) = _
    rw [if_pos (show (4 : Int32) ≤ nI k from nI_le (a := 4) (by omega) (by omega)), upA_id]
  | succ m ih =>
    intro n k D hk hn
    obtain ⟨n, rfl⟩ : ∃ z, n = z + 1 := ⟨n - 1, by omega⟩
    have hlt : (i + k) % byN t < byN t := Nat.mod_lt _ (by omega)
    obtain ⟨b1, p1, p2, p3, p4⟩ := msetByte_eq (N := gN MG) (F := F) (v := v >>> (nI (8 * m) &&& 31)) D hF h1 ht hlt rfl
    obtain ⟨b, q1, q2, q3, q4⟩ := ih n (k + 1) (upA D 1 b1) (by omega) (by omega)
    rw [upA_row] at q2 q3 q4
    refine ⟨b, ?_, ?_, ?_, ?_⟩
    · show (if (4 : Int32) ≤ nI k then some (1, D) else (bi (P_X8_bytesOf (gN MG) F (nI t) D) (fun r2 D2 => if r2 = 0 then none else (bi (P_X8_setByte (gN MG) F (nI t) (jrem (nI i + nI k) r2) (v >>> ((24 - (8 * nI k)) &&& 31)) D2) (fun r4 D4 => P_X8_stamp_13 (gN MG) F n (nI t) (nI i) v (nI k + 1) D4))))) = _
      rw [if_neg (show ¬ (4 : Int32) ≤ nI k from nI_ge (b := 4) (by omega) (by omega)), bytesOf_eq D ht, bi_s, if_neg (nI_z (by omega) (by omega)), nI_add, jrem_nI (by omega) (by omega) (by omega), show (8 : Int32) * nI k = nI (8 * k) from pk_mul 8 k, show (24 : Int32) - nI (8 * k) = nI (8 * m) by rw [show (24 : Int32) - nI (8 * k) = nI (24 - 8 * k) from pk_sub (a := 24) (by omega)]; congr 1; omega, p1, bi_s, nI_1, q1, upA_upA]
    · rw [show 8 * (m + 1) = 8 + 8 * m by omega]
      refine Wr.append (by omega) (Wr.shift (by omega) p2) (by rw [show 8 * i + 8 * k + 8 = 8 * i + 8 * (k + 1) by omega]; exact q2) (fun x hx => ?_) (fun x hx => ?_)
      · show bt v (8 + 8 * m - 1 - x) = bt (v >>> (nI (8 * m) &&& 31)) (7 - x)
        rw [b_sshr (8 * m) (by omega) v (by omega), if_pos (by omega)]
        congr 1
        omega
      · show bt v (8 + 8 * m - 1 - (8 + x)) = bt v (8 * m - 1 - x)
        congr 1
        omega
    · intro j hj
      rw [q3 j hj, p3 j hj]
    · intro j
      rcases q4 j with c | c
      · rw [c]; exact p4 j
      · exact Or.inr c
theorem sim_stamp {F : Nat} (hF : 9000 ≤ F) : Sim_stamp Rel F := by
  intro Dx Dm a1 a2 a3 h
  unfold P_X7_stamp P_X8_stamp
  rcases track_cases a1 with ⟨t, h1, ht, rfl⟩ | ⟨e1, e2⟩
  · rw [ringOf_eq t h1 ht]
    have hb := byN_le t
    rcases byte_cases a2 h1 ht with ⟨j, hj, rfl, x1, m1⟩ | ⟨x1, m1⟩
    · have hR := (h.1.1 t h1 ht).1
      have o1 : OpX (3 * t + 1) (byN t) (8 * j) 16 (fun x => bt (jush a3 16) (16 - 1 - x)) Dx (P_X5_putBits (gN XG) F (3 * t + 1) (nI (8 * j)) (nI 16) (jush a3 16) Dx) := putBits_eq (v := jush a3 16) (a := 8 * j) (w := 16) hR (by omega) (by decide) (by decide) mask16
      have o2 : OpX (3 * t + 1) (byN t) (8 * j) (16 + 16) (fun x => bt a3 (31 - x)) Dx (bi (P_X5_putBits (gN XG) F (3 * t + 1) (nI (8 * j)) (nI 16) (jush a3 16) Dx) (fun _ D1 => P_X5_putBits (gN XG) F (3 * t + 1) (nI (8 * j + 16)) (nI 16) a3 D1)) := by
        refine opx_seq (g2 := fun x => bt a3 (16 - 1 - x)) (by omega) hR o1 (fun D1 hD1 => putBits_eq (v := a3) (a := 8 * j + 16) (w := 16) hD1 (by omega) (by decide) (by decide) mask16) (fun x hx => ?_) (fun x hx => ?_)
        · rw [jush16]; congr 1; omega
        · show bt a3 (31 - (16 + x)) = _; congr 1; omega
      obtain ⟨r, p1, p2, p3⟩ := o2
      obtain ⟨b, q1, q2, q3, q4⟩ := stamp_go (F := F) (v := a3) (by omega) h1 ht hj 4 F 0 Dm (by omega) (by omega)
      have ec : ∀ D, bi (P_X5_putBits (gN XG) F (3 * t + 1) (nI (8 * j)) (nI 16) (jush a3 16) D) (fun _ D4 => bi (P_X5_putBits (gN XG) F (3 * t + 1) (nI (8 * j + 16)) (nI 16) a3 D4) (fun _ D5 => some (1, D5))) = bi (bi (P_X5_putBits (gN XG) F (3 * t + 1) (nI (8 * j)) (nI 16) (jush a3 16) D) (fun _ D1 => P_X5_putBits (gN XG) F (3 * t + 1) (nI (8 * j + 16)) (nI 16) a3 D1)) (fun _ D5 => some (1, D5)) := by
        intro D
        cases P_X5_putBits (gN XG) F (3 * t + 1) (nI (8 * j)) (nI 16) (jush a3 16) D with
        | none => rfl
        | some z => rfl
      rw [bqS, x1, m1, bi_s, bi_s, if_neg (by decide), if_neg (by decide), show (8 : Int32) * nI j = nI (8 * j) from pk_mul 8 j, show nI (8 * j) + (16 : Int32) = nI (8 * j + 16) from nI_add _ 16]
      have ec2 := ec Dx
      rw [p1, bi_s] at ec2
      refine ⟨_, _, _, ec2, q1, h.put h1 ht p2 p3 (by rw [Nat.mul_zero, Nat.add_zero] at q2; exact q2) q3 q4⟩
    · rw [bqS, x1, m1, bi_s, bi_s, if_pos rfl, if_pos rfl]
      exact ⟨_, _, _, rfl, rfl, h⟩
  · unfold P_X8_isByte
    rw [e1, bqN, e2, bi_s, if_pos rfl, bi_s, if_pos rfl]
    exact ⟨_, _, _, rfl, rfl, h⟩
