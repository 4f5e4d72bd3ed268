/-! BASE: numbers, memory, bits of a row; the values of groups of bits -/
theorem up2_app (D : Mm) (c k : Nat) (v : Int32) (c' k' : Nat) : up2 D c k v c' k' = if c' = c ∧ k' = k then v else D c' k' := by
  unfold up2 upA upd
  by_cases h : c' = c
  · subst h
    rw [if_pos rfl]
    by_cases h2 : k' = k
    · rw [if_pos h2, if_pos ⟨rfl, h2⟩]
    · rw [if_neg h2, if_neg (fun q => h2 q.2)]
  · rw [if_neg h, if_neg (fun q => h q.1)]
theorem up2_row (D : Mm) (c k : Nat) (v : Int32) : up2 D c k v c = upd (D c) k v := by unfold up2 upA; rw [if_pos rfl]
theorem upA_row (D : Mm) (c : Nat) (f : Nat → Int32) : upA D c f c = f := by unfold upA; rw [if_pos rfl]
theorem upA_ne {D : Mm} {c c' : Nat} {f : Nat → Int32} (h : c' ≠ c) : upA D c f c' = D c' := by unfold upA; rw [if_neg h]
theorem bi_s (r : Int32) (D : Mm) (k : Int32 → Mm → Rs) : bi (some (r, D)) k = k r D := rfl
theorem ite_some {c : Prop} {_ : Decidable c} {a b : Int32} {D : Mm} : (if c then some (a, D) else some (b, D)) = some (if c then a else b, D) := by split <;> rfl
theorem mod8 (c u n : Nat) (hu : u < 8) (hn : 0 < n) : (8 * c + u) % (8 * n) = 8 * (c % n) + u := by
  have h1 : c = n * (c / n) + c % n := (Nat.div_add_mod c n).symm
  have h2 : c % n < n := Nat.mod_lt c hn
  have h3 : 8 * c + u = 8 * (c % n) + u + 8 * n * (c / n) := by
    have : 8 * c = 8 * (n * (c / n)) + 8 * (c % n) := by omega
    rw [this, Nat.mul_assoc]
    omega
  rw [h3, Nat.add_mul_mod_self_left, Nat.mod_eq_of_lt (by omega)]
/-- bit i of a row of bytes, the highest of each byte first -/
def rbit (r : Nat → Int32) (i : Nat) : Bool := bt (r (i / 8)) (7 - i % 8)
theorem rbit_at (r : Nat → Int32) {c u : Nat} (hu : u < 8) : rbit r (8 * c + u) = bt (r c) (7 - u) := by
  unfold rbit
  rw [show (8 * c + u) / 8 = c by omega, show (8 * c + u) % 8 = u by omega]
theorem rbit_mod (r : Nat → Int32) {c u n : Nat} (hu : u < 8) (hn : 0 < n) : rbit r ((8 * c + u) % (8 * n)) = bt (r (c % n)) (7 - u) := by
  rw [mod8 c u n hu hn, rbit_at r hu]
/-- a byte: no bit from the eighth on -/
def By (x : Int32) : Prop := ∀ j, 8 ≤ j → bt x j = false
theorem bt_nI {n : Nat} (h : n < 2 ^ 32) (i : Nat) : bt (nI n) i = n.testBit i := by
  unfold bt
  rw [show (nI n).toBitVec = BitVec.ofNat 32 n from rfl, BitVec.getLsbD_ofNat]
  by_cases hi : i < 32
  · simp [hi]
  · have : n.testBit i = false := Nat.testBit_lt_two_pow (Nat.lt_of_lt_of_le h (Nat.pow_le_pow_right (by omega) (by omega)))
    simp [hi, this]
/-- the number that k bits make, the first one the highest -/
def tn (f : Nat → Bool) : Nat → Nat
  | 0 => 0
  | k + 1 => 2 * tn f k + (if f k then 1 else 0)
theorem tn_lt (f : Nat → Bool) : ∀ k, tn f k < 2 ^ k
  | 0 => by show 0 < 1; decide
  | k + 1 => by
    have := tn_lt f k
    show 2 * tn f k + _ < 2 ^ (k + 1)
    rw [Nat.pow_succ]
    split <;> omega
theorem tn_bit (f : Nat → Bool) : ∀ k m, (tn f k).testBit m = (decide (m < k) && f (k - 1 - m))
  | 0, m => by simp [tn]
  | k + 1, 0 => by
    show (2 * tn f k + _).testBit 0 = _
    rw [Nat.testBit_zero]
    by_cases h : f k <;> simp [h]
  | k + 1, m + 1 => by
    show (2 * tn f k + _).testBit (m + 1) = _
    rw [Nat.testBit_succ]
    have e : (2 * tn f k + (if f k then 1 else 0)) / 2 = tn f k := by split <;> omega
    rw [e, tn_bit f k m]
    have e2 : k + 1 - 1 - (m + 1) = k - 1 - m := by omega
    rw [e2]
    congr 1
    simp
theorem tn_congr {f g : Nat → Bool} : ∀ k, (∀ j, j < k → f j = g j) → tn f k = tn g k
  | 0, _ => rfl
  | k + 1, h => by
    show 2 * tn f k + _ = 2 * tn g k + _
    rw [tn_congr k (fun j hj => h j (by omega)), h k (by omega)]
/-- what ten bits are in the code: the byte, or -1 -/
def cV (v : Nat) : Int32 := if tHALVES (v / 32) < 0 then -1 else if 0 ≤ tHALVES (v % 32) then 16 * tHALVES (v / 32) + tHALVES (v % 32) else -1
def RingOk (N : Nat → Nat) (th n : Nat) (D : Mm) : Prop := 3 ≤ n ∧ n ≤ 1060 ∧ N (th + 1) = n ∧ D th 1 = nI (8 * n) ∧ ∀ i, i < n → By (D (th + 1) i)
theorem jrem_nI {a d : Nat} (ha : a < 2 ^ 31) (h0 : 0 < d) (hd : d < 2 ^ 31) : jrem (nI a) (nI d) = nI (a % d) := pk_rem ha h0 hd
theorem nI_z {n : Nat} (h0 : 0 < n) (h : n < 2 ^ 31) : ¬ nI n = 0 := nI_ne0 h0 h
/-- three bytes as one number -/
theorem three_bit {x y z : Int32} (hx : By x) (hy : By y) (hz : By z) {q : Nat} (hq : q < 32) : bt (((x <<< ((16 : Int32) &&& 31)) ||| (y <<< ((8 : Int32) &&& 31))) ||| z) q = if q < 8 then bt z q else if q < 16 then bt y (q - 8) else if q < 24 then bt x (q - 16) else false := by
  rw [b_or, b_or, b_shl16 x hq, b_shl8 y hq]
  by_cases h1 : q < 8
  · rw [if_pos h1]
    simp [show ¬ 16 ≤ q by omega, show ¬ 8 ≤ q by omega]
  · rw [if_neg h1, hz q (by omega)]
    by_cases h2 : q < 16
    · rw [if_pos h2]
      simp [show ¬ 16 ≤ q by omega, show 8 ≤ q by omega]
    · rw [if_neg h2, hy (q - 8) (by omega)]
      by_cases h3 : q < 24
      · rw [if_pos h3]
        simp [show 16 ≤ q by omega]
      · rw [if_neg h3, hx (q - 16) (by omega)]
        simp
theorem bt_1023 (i : Nat) : bt 1023 i = decide (i < 10) := by
  rcases Nat.lt_or_ge i 32 with h | h
  · exact (by decide +kernel : ∀ i, i < 32 → bt 1023 i = decide (i < 10)) i h
  · rw [b_big h, decide_eq_false (by omega)]
/-- the ten bits from p on, out of three bytes -/
theorem ten_eq {r : Nat → Int32} {n p : Nat} (hn : 3 ≤ n) (hp : p < 8 * n) (hb : ∀ i, i < n → By (r i)) : ((((((r (p / 8)) <<< ((16 : Int32) &&& 31)) ||| ((r ((p / 8 + 1) % n)) <<< ((8 : Int32) &&& 31))) ||| (r ((p / 8 + 2) % n))) >>> ((nI (14 - p % 8)) &&& 31)) &&& 1023) = nI (tn (fun k => rbit r ((p + k) % (8 * n))) 10) := by
  have hn0 : 0 < n := by omega
  have hi : p / 8 < n := by omega
  apply b_ext
  intro m hm
  rw [b_and, bt_1023, bt_nI (Nat.lt_of_lt_of_le (tn_lt _ 10) (by decide)), tn_bit]
  by_cases h10 : m < 10
  · rw [b_sshr (14 - p % 8) (by omega) _ hm, if_pos (by omega), three_bit (hb _ hi) (hb _ (Nat.mod_lt _ hn0)) (hb _ (Nat.mod_lt _ hn0)) (by omega)]
    simp only [h10, decide_true, Bool.and_true, Bool.true_and]
    have hp8 : p = 8 * (p / 8) + p % 8 := by omega
    have ho : p % 8 < 8 := by omega
    generalize p / 8 = i at *
    generalize p % 8 = o at *
    subst hp8
    by_cases h1 : 14 - o + m < 8
    · rw [if_pos h1]
      have e : 8 * i + o + (10 - 1 - m) = 8 * (i + 2) + (o + 9 - m - 16) := by omega
      rw [e, rbit_mod r (by omega) hn0]
      congr 1
      omega
    · rw [if_neg h1]
      by_cases h2 : 14 - o + m < 16
      · rw [if_pos h2]
        have e : 8 * i + o + (10 - 1 - m) = 8 * (i + 1) + (o + 9 - m - 8) := by omega
        rw [e, rbit_mod r (by omega) hn0]
        congr 1
        omega
      · rw [if_neg h2, if_pos (by omega)]
        have e : 8 * i + o + (10 - 1 - m) = 8 * i + (o + 9 - m) := by omega
        rw [e, rbit_mod r (by omega) hn0, Nat.mod_eq_of_lt hi]
        congr 1
        omega
  · simp [h10]
theorem coded_tab : ∀ v, v < 1024 → (if tHALVES (v / 32) = -1 then (-1 : Int32) else if tHALVES (v % 32) = -1 then -1 else (tHALVES (v / 32) <<< ((4 : Int32) &&& 31)) ||| tHALVES (v % 32)) = cV v := by decide +kernel
theorem and31_nI {v : Nat} (h : v < 2 ^ 32) : nI v &&& 31 = nI (v % 32) := pk_andN h 5 (by decide)
theorem shr5_nI {v : Nat} (h : v < 2 ^ 31) : nI v >>> ((5 : Int32) &&& 31) = nI (v / 32) := pk_shrN h _ 5 (by decide)
theorem sub_nI {a b : Nat} (h : b ≤ a) : nI a - nI b = nI (a - b) := pk_sub h
theorem codedAt_eq {N : Nat → Nat} {F th n a : Nat} {D : Mm} (h : RingOk N th n D) (ha : a < 2 ^ 30) : P_X5_codedAt N F th (nI a) D = some (cV (tn (fun k => rbit (D (th + 1)) ((a + k) % (8 * n))) 10), D) := by
  obtain ⟨h3, hm, hN, hbits, hby⟩ := h
  have hp : a % (8 * n) < 8 * n := Nat.mod_lt _ (by omega)
  unfold P_X5_codedAt
  rw [hbits, if_neg (nI_z (by omega) (by omega)), hN, if_neg (nI_z (by omega) (by omega)), jrem_nI (by omega) (by omega) (by omega)]
  have ecg : ∀ k, (a + k) % (8 * n) = (a % (8 * n) + k) % (8 * n) := fun k => by rw [Nat.mod_add_mod]
  have etn : tn (fun k => rbit (D (th + 1)) ((a + k) % (8 * n))) 10 = tn (fun k => rbit (D (th + 1)) ((a % (8 * n) + k) % (8 * n))) 10 := tn_congr 10 (fun j _ => by rw [ecg])
  rw [etn]
  generalize a % (8 * n) = p at *
  have d8 : nI p / (8 : Int32) = nI (p / 8) := pk_div (d := 8) (by omega) (by omega) (by omega)
  have s1 : nI (p / 8) + (1 : Int32) = nI (p / 8 + 1) := nI_add _ 1
  have s2 : nI (p / 8) + (2 : Int32) = nI (p / 8 + 2) := nI_add _ 2
  rw [d8, s1, jrem_nI (by omega) (by omega) (by omega)]
  unfold P_X5_codedAt_23
  rw [hN, if_neg (nI_z (by omega) (by omega)), s2, jrem_nI (by omega) (by omega) (by omega)]
  unfold P_X5_codedAt_34
  have m1 : (p / 8 + 1) % n < n := Nat.mod_lt _ (by omega)
  have m2 : (p / 8 + 2) % n < n := Nat.mod_lt _ (by omega)
  rw [hN, if_pos (in_nI (by omega) (by omega)), if_pos (in_nI m1 (by omega)), if_pos (in_nI m2 (by omega)), nI_clamp (by omega), nI_clamp (by omega), nI_clamp (by omega)]
  unfold P_X5_codedAt_64
  have r8 : jrem (nI p) (8 : Int32) = nI (p % 8) := jrem_nI (d := 8) (by omega) (by omega) (by omega)
  have s14 : (14 : Int32) - nI (p % 8) = nI (14 - p % 8) := sub_nI (a := 14) (by omega)
  rw [r8, s14, ten_eq h3 hp hby]
  generalize hv : tn (fun k => rbit (D (th + 1)) ((p + k) % (8 * n))) 10 = v
  have hv : v < 1024 := by rw [← hv]; exact tn_lt _ 10
  unfold P_X5_codedAt_80
  rw [shr5_nI (by omega), if_pos (in_nI (by omega) (by omega)), nI_clamp (by omega)]
  unfold P_X5_codedAt_90
  rw [and31_nI (by omega), if_pos (in_nI (by omega) (by omega)), nI_clamp (by omega)]
  unfold P_X5_codedAt_101
  rw [ite_some, ite_some, coded_tab v hv]
