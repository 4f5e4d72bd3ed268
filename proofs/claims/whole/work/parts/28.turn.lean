/-! TURN: the ring goes round -/
theorem sgn31 (x : Int32) : x < 0 ↔ bt x 31 = true := by
  rw [Int32.lt_iff_toInt_lt]
  unfold bt
  have e : (0 : Int32).toInt = 0 := rfl
  have m : x.toBitVec.msb = x.toBitVec.getLsbD 31 := BitVec.msb_eq_getLsbD_last _
  rw [e, ← m, BitVec.msb_eq_toInt, decide_eq_true_iff]
  exact Iff.rfl
theorem jrem_neg {x : Int32} {Y L : Nat} (hx : x.toInt = -(Y : Int)) (hY : Y ≤ 2 ^ 31) (h0 : 0 < L) (hL : L < 2 ^ 20) : (jrem x (nI L)).toInt = -((Y % L : Nat) : Int) := by
  have eL : (nI L).toInt = (L : Int) := nI_toInt (by omega)
  have e1 : (x / nI L).toInt = -((Y / L : Nat) : Int) := by
    rw [Int32.toInt_div, hx, eL, Int.neg_tdiv, ← Int.ofNat_tdiv]
    have hq : Y / L ≤ Y := Nat.div_le_self _ _
    generalize Y / L = z at hq ⊢
    rw [Int.bmod_eq_of_le] <;> omega
  have hm : L * (Y / L) + Y % L = Y := Nat.div_add_mod Y L
  have e2 : (x / nI L * nI L).toInt = -((L * (Y / L) : Nat) : Int) := by
    rw [Int32.toInt_mul, e1, eL, show -((Y / L : Nat) : Int) * (L : Int) = -((L * (Y / L) : Nat) : Int) by rw [Int.neg_mul, Nat.mul_comm, Int.natCast_mul]]
    generalize L * (Y / L) = z at hm ⊢
    rw [Int.bmod_eq_of_le] <;> omega
  show (x - x / nI L * nI L).toInt = _
  rw [Int32.toInt_sub, hx, e2]
  have hml : Y % L < L := Nat.mod_lt _ h0
  generalize L * (Y / L) = z at hm ⊢
  generalize Y % L = m at hm hml ⊢
  rw [show -(Y : Int) - -((z : Nat) : Int) = -(m : Int) by omega, Int.bmod_eq_of_le] <;> omega
/-- by how many places the ring is turned, on both sides -/
theorem turn_by (x : Int32) {L : Nat} (h0 : 0 < L) (hL : L < 2 ^ 20) : ∃ p, p < L ∧ (∀ (N : Nat → Nat) (F : Nat) (D : Mm), P_J9_floorMod_7cf53 N F x (nI L) D = some (nI p, D)) ∧ ((0 ≤ jrem x (nI L) ∧ jrem x (nI L) = nI p) ∨ (¬ 0 ≤ jrem x (nI L) ∧ jrem x (nI L) + nI L = nI p)) := by
  have z0 : (0 : Int32).toInt = 0 := rfl
  have bL : bt (nI L) 31 = false := by rw [bt_nI (by omega)]; exact Nat.testBit_lt_two_pow (by omega)
  have hz := nI_z h0 (show L < 2 ^ 31 by omega)
  by_cases c : x < 0
  · obtain ⟨Y, hY, hYx⟩ : ∃ Y : Nat, Y ≤ 2 ^ 31 ∧ x.toInt = -(Y : Int) := by
      have l := Int32.le_toInt x
      rw [Int32.lt_iff_toInt_lt, z0] at c
      exact ⟨x.toInt.natAbs, by omega, by omega⟩
    have hj := jrem_neg hYx hY h0 hL
    have hml : Y % L < L := Nat.mod_lt _ h0
    have hxor : ¬ 0 ≤ (x ^^^ nI L) := by
      rw [le_nlt]
      exact fun q => q ((sgn31 _).mpr (by rw [b_xor, (sgn31 x).mp c, bL]; rfl))
    generalize hjx : jrem x (nI L) = j at hj
    generalize Y % L = m at hj hml
    by_cases cm : m = 0
    · have j0 : j = 0 := by
        apply Int32.toInt_inj.mp
        rw [hj, z0, cm]
        rfl
      refine ⟨0, h0, fun N F D => ?_, Or.inl ⟨by rw [j0]; decide, j0⟩⟩
      unfold P_J9_floorMod_7cf53
      rw [if_neg hz, if_neg hxor, hjx, if_pos j0, j0]
      rfl
    · have jn : j + nI L = nI (L - m) := by
        apply Int32.toInt_inj.mp
        rw [Int32.toInt_add, hj, nI_toInt (by omega), nI_toInt (by omega), Int.bmod_eq_of_le] <;> omega
      have jz : ¬ j = 0 := fun q => by rw [q, z0] at hj; omega
      have jl : ¬ 0 ≤ j := fun q => by rw [Int32.le_iff_toInt_le, z0, hj] at q; omega
      refine ⟨L - m, by omega, fun N F D => ?_, Or.inr ⟨jl, jn⟩⟩
      unfold P_J9_floorMod_7cf53
      rw [if_neg hz, if_neg hxor, hjx, if_neg jz, jn]
  · obtain ⟨a, ha, rfl⟩ := nI_of c
    have hxor : 0 ≤ (nI a ^^^ nI L) := by
      rw [le_nlt]
      intro q
      have := (sgn31 _).mp q
      rw [b_xor, bL, bt_nI (by omega), Nat.testBit_lt_two_pow (by omega)] at this
      exact absurd this (by decide)
    have hj := jrem_nI ha h0 (show L < 2 ^ 31 by omega)
    have hml : a % L < L := Nat.mod_lt _ h0
    refine ⟨a % L, hml, fun N F D => ?_, Or.inl ⟨by rw [hj]; exact nI_le (a := 0) (by omega) (by omega), hj⟩⟩
    unfold P_J9_floorMod_7cf53
    rw [if_neg hz, if_pos hxor, hj]
def rotV (o : Nat → Int32) (n from' s k : Nat) : Int32 := ((((o ((from' + k - 1) % n)) <<< ((8 : Int32) &&& 31)) ||| (o ((from' + k) % n))) >>> (nI s &&& 31)) &&& 255
theorem rot_go {N : Nat → Nat} {F th u n f s : Nat} (hn : 3 ≤ n) (hn2 : n ≤ 1060) (hu1 : u ≠ th) (hu2 : u ≠ th + 1) (hN : N (th + 1) = n) (hNu : N u = 1060) (hf : 1 ≤ f) (hf2 : f ≤ n) : ∀ (m fu i : Nat) (D : Mm), i + m = n → m < fu → ∃ r : Nat → Int32, P_X5_rotate_53 N F th u fu (nI n) (nI f) (nI s) (nI i) D = some (0, up2 (upA D (th + 1) r) th 4 0) ∧ (∀ k, k < i → r k = D (th + 1) k) ∧ ∀ k, i ≤ k → k < n → r k = rotV (D u) n f s k := by
  intro m
  induction m with
  | zero =>
    intro fu i D hi hfu
    obtain ⟨fu, rfl⟩ : ∃ z, fu = z + 1 := ⟨fu - 1, by omega⟩
    refine ⟨D (th + 1), ?_, fun _ _ => rfl, fun k h1 h2 => by omega⟩
    show (if nI n ≤ nI i then _ else _) = _
    rw [if_pos (nI_le (by omega) (by omega)), upA_id]
  | succ m ih =>
    intro fu i D hi hfu
    obtain ⟨fu, rfl⟩ : ∃ z, fu = z + 1 := ⟨fu - 1, by omega⟩
    have l1 : (f + i - 1) % n < n := Nat.mod_lt _ (by omega)
    have l2 : (f + i) % n < n := Nat.mod_lt _ (by omega)
    obtain ⟨r, p1, p2, p3⟩ := ih fu (i + 1) (up2 D (th + 1) i (rotV (D u) n f s i)) (by omega) (by omega)
    refine ⟨r, ?_, ?_, ?_⟩
    · show (if nI n ≤ nI i then some (0, up2 D th 4 0) else (if nI n = 0 then none else (if inB (jrem ((nI f + nI i) - 1) (nI n)) (N u) = true then (P_X5_rotate_72 N F th u (fun x3 x5 x6 x7 D => P_X5_rotate_53 N F th u fu x3 x5 x6 x7 D) (nI n) (nI f) (nI s) (nI i) (D u (Int32.toNatClampNeg (jrem ((nI f + nI i) - 1) (nI n)))) D) else none))) = _
      rw [if_neg (nI_ge (by omega) (by omega)), if_neg (nI_z (by omega) (by omega)), nI_add, show nI (f + i) - (1 : Int32) = nI (f + i - 1) from pk_sub (b := 1) (by omega), jrem_nI (by omega) (by omega) (by omega), hNu, if_pos (in_nI (by omega) (by omega)), nI_clamp (by omega)]
      unfold P_X5_rotate_72
      rw [if_neg (nI_z (by omega) (by omega)), nI_add, jrem_nI (by omega) (by omega) (by omega), hNu, if_pos (in_nI (by omega) (by omega)), nI_clamp (by omega)]
      unfold P_X5_rotate_83 P_X5_rotate_105
      rw [hN, if_pos (in_nI (by omega) (by omega)), nI_clamp (by omega)]
      show P_X5_rotate_53 N F th u fu (nI n) (nI f) (nI s) (nI i + 1) (up2 D (th + 1) i (rotV (D u) n f s i)) = _
      rw [nI_1, p1, show upA (up2 D (th + 1) i (rotV (D u) n f s i)) (th + 1) r = upA D (th + 1) r from upA_upA D _ _ r]
    · intro k hk
      rw [p2 k (by omega), up2_app, if_neg (by omega)]
    · intro k hk1 hk2
      by_cases e : k = i
      · subst e
        rw [p2 k (by omega), up2_app, if_pos ⟨rfl, rfl⟩]
      · rw [p3 k (by omega) hk2, up2_o hu2]
theorem rotV_bit {o : Nat → Int32} {n p k u : Nat} (hn : 3 ≤ n) (hp : p < 8 * n) (hu : u < 8) (hb : ∀ i, i < n → By (o i)) : bt (rotV o n (n - p / 8) (p % 8) k) (7 - u) = rbit o ((8 * k + u + (8 * n - p)) % (8 * n)) := by
  have l1 : (n - p / 8 + k - 1) % n < n := Nat.mod_lt _ (by omega)
  have l2 : (n - p / 8 + k) % n < n := Nat.mod_lt _ (by omega)
  unfold rotV
  rw [and255_bit _ (by omega), b_sshr _ (by omega) _ (by omega), if_pos (by omega), two_bit (hb _ l1) (hb _ l2) (by omega)]
  by_cases c : p % 8 ≤ u
  · rw [if_pos (by omega), show 8 * k + u + (8 * n - p) = 8 * (n - p / 8 + k) + (u - p % 8) by omega, rbit_mod o (by omega) (by omega)]
    congr 1
    omega
  · rw [if_neg (by omega), if_pos (by omega), show 8 * k + u + (8 * n - p) = 8 * (n - p / 8 + k - 1) + (8 + u - p % 8) by omega, rbit_mod o (by omega) (by omega)]
    congr 1
    omega
theorem rotate_eq {t p F : Nat} {x : Int32} {D : Mm} (hF : 9000 ≤ F) (h1 : 1 ≤ t) (ht : t ≤ 16) (hR : RingOk (gN XG) (3 * t + 1) (byN t) D) (hp : p < 8 * byN t) (hfl : ∀ (N : Nat → Nat) (F : Nat) (D : Mm), P_J9_floorMod_7cf53 N F x (nI (8 * byN t)) D = some (nI p, D)) : ∃ r o : Nat → Int32, P_X5_rotate (gN XG) F (3 * t + 1) 72 x D = some (0, up2 (upA (upA D 72 o) (3 * t + 1 + 1) r) (3 * t + 1) 4 0) ∧ (∀ i, i < byN t → By (r i)) ∧ ∀ q, q < 8 * byN t → rbit r q = rbit (D (3 * t + 1 + 1)) ((q + (8 * byN t - p)) % (8 * byN t)) := by
  have hb := byN_le t
  obtain ⟨a, b, hN, hL, hB⟩ := hR
  have h72 : gN XG 72 = 1060 := rfl
  obtain ⟨o, ho⟩ : ∃ o : Nat → Int32, o = va_cpy (D (3 * t + 1 + 1)) (D 72) (Int32.toNatClampNeg 0) (Int32.toNatClampNeg 0) (Int32.toNatClampNeg (nI (byN t))) := ⟨_, rfl⟩
  have ho2 : ∀ i, i < byN t → o i = D (3 * t + 1 + 1) i := by
    intro i hi
    rw [ho, nI_clamp (by omega), show Int32.toNatClampNeg 0 = 0 from rfl, pk_cpy_in (by omega) (by omega)]
    congr 1
    omega
  obtain ⟨r, p1, p2, p3⟩ := rot_go (F := F) (th := 3 * t + 1) (u := 72) (n := byN t) (f := byN t - p / 8) (s := p % 8) (by omega) b (by omega) (by omega) hN h72 (by omega) (by omega) (byN t) F 0 (upA D 72 o) (by omega) (by omega)
  have hBo : ∀ i, i < byN t → By (o i) := fun i hi => by rw [ho2 i hi]; exact hB i hi
  rw [upA_row] at p3
  refine ⟨r, o, ?_, ?_, ?_⟩
  · unfold P_X5_rotate
    rw [hN, h72, if_pos (nI_le (by omega) (by omega)), hL, hfl, bi_s]
    unfold P_X5_rotate_32
    rw [hN, h72, if_pos (by
      rw [decide_eq_true_iff, nI_clamp (by omega)]
      have z : Int32.toNatClampNeg 0 = 0 := rfl
      refine ⟨by decide, by decide, nI_nlt (b := 0) (by omega) (by omega), by omega, by omega⟩), show nI p / (8 : Int32) = nI (p / 8) from pk_div (d := 8) (by omega) (by omega) (by omega), pk_sub (by omega), show jrem (nI p) 8 = nI (p % 8) from jrem_nI (d := 8) (by omega) (by omega) (by omega), ← ho]
    exact p1
  · intro i hi
    rw [p3 i (by omega) hi]
    exact By_255 _
  · intro q hq
    have e : q = 8 * (q / 8) + q % 8 := by omega
    have hlt : (8 * (q / 8) + q % 8 + (8 * byN t - p)) % (8 * byN t) < 8 * byN t := Nat.mod_lt _ (by omega)
    rw [e, rbit_at _ (by omega), p3 (q / 8) (by omega) (by omega), rotV_bit (by omega) hp (by omega) hBo]
    generalize (8 * (q / 8) + q % 8 + (8 * byN t - p)) % (8 * byN t) = z at hlt
    unfold rbit
    rw [ho2 _ (by omega)]
theorem kept_go {F t p : Nat} (h1 : 1 ≤ t) (ht : t ≤ 16) : ∀ (m fu k : Nat) (D : Mm), k + m = 8 * byN t → m < fu → B01 D → ∃ r : Nat → Int32, P_X8_turn_46 (gN MG) F fu (nI (stN t)) (nI (8 * byN t)) (nI p) (nI k) D = P_X8_turn_78 (gN MG) F F (nI (stN t)) (nI (8 * byN t)) (nI p) 0 (upA D 2 r) ∧ (∀ j, j < k → r j = D 2 j) ∧ ∀ j, k ≤ j → j < 8 * byN t → r j = D 1 (stN t + j) := by
  have hb := byN_le t
  have hst := st_le t ⟨h1, ht⟩
  have n1 : gN MG 1 = 124480 := rfl
  have n2 : gN MG 2 = 8480 := rfl
  intro m
  induction m with
  | zero =>
    intro fu k D hk hfu _
    obtain ⟨fu, rfl⟩ : ∃ z, fu = z + 1 := ⟨fu - 1, by omega⟩
    refine ⟨D 2, ?_, fun _ _ => rfl, fun j _ _ => by omega⟩
    show (if nI (8 * byN t) ≤ nI k then _ else _) = _
    rw [if_pos (nI_le (by omega) (by omega)), upA_id]
  | succ m ih =>
    intro fu k D hk hfu h01
    obtain ⟨fu, rfl⟩ : ∃ z, fu = z + 1 := ⟨fu - 1, by omega⟩
    have hv : vp_nar .boolean (D 1 (stN t + k)) = D 1 (stN t + k) := by rcases h01 (stN t + k) with e | e <;> rw [e] <;> rfl
    obtain ⟨r, q1, q2, q3⟩ := ih fu (k + 1) (up2 D 2 k (D 1 (stN t + k))) (by omega) (by omega) (fun i => by rw [up2_o (by decide)]; exact h01 i)
    refine ⟨r, ?_, ?_, ?_⟩
    · show (if nI (8 * byN t) ≤ nI k then (P_X8_turn_78 (gN MG) F F (nI (stN t)) (nI (8 * byN t)) (nI p) 0 D) else (if inB (nI (stN t) + nI k) (gN MG 1) = true then (if inB (nI k) (gN MG 2) = true then (P_X8_turn_69 (gN MG) F (fun x3 x4 x5 x6 D => P_X8_turn_46 (gN MG) F fu x3 x4 x5 x6 D) (nI (stN t)) (nI (8 * byN t)) (nI p) (nI k) (up2 D 2 (Int32.toNatClampNeg (nI k)) (vp_nar .boolean (D 1 (Int32.toNatClampNeg (nI (stN t) + nI k)))))) else none) else none)) = _
      rw [if_neg (nI_ge (by omega) (by omega)), nI_add, n1, n2, if_pos (in_nI (by omega) (by omega)), if_pos (in_nI (by omega) (by omega)), nI_clamp (by omega), nI_clamp (by omega), hv]
      unfold P_X8_turn_69
      rw [nI_1]
      show P_X8_turn_46 (gN MG) F fu (nI (stN t)) (nI (8 * byN t)) (nI p) (nI (k + 1)) _ = _
      rw [q1, up2_A, upA_upA]
    · intro j hj
      rw [q2 j (by omega), up2_app, if_neg (by omega)]
    · intro j hj1 hj2
      by_cases e : j = k
      · subst e
        rw [q2 j (by omega), up2_app, if_pos ⟨rfl, rfl⟩]
      · rw [q3 j (by omega) hj2, up2_o (by decide)]
theorem addmod {j p L : Nat} (hj : j < L) (hp : p < L) : (j + p) % L = if j + p < L then j + p else j + p - L := by
  split
  · exact Nat.mod_eq_of_lt (by omega)
  · rw [Nat.mod_eq_sub_mod (by omega), Nat.mod_eq_of_lt (by omega)]
theorem move_go {F t p : Nat} (h1 : 1 ≤ t) (ht : t ≤ 16) (hp : p < 8 * byN t) : ∀ (m fu k : Nat) (D : Mm), k + m = 8 * byN t → m < fu → (∀ j, j < 8 * byN t → D 2 j = 0 ∨ D 2 j = 1) → ∃ b : Nat → Int32, P_X8_turn_78 (gN MG) F fu (nI (stN t)) (nI (8 * byN t)) (nI p) (nI k) D = some (1, upA D 1 b) ∧ (∀ j, k ≤ j → j < 8 * byN t → b (stN t + (j + p) % (8 * byN t)) = D 2 j) ∧ (∀ i, (∀ j, k ≤ j → j < 8 * byN t → i ≠ stN t + (j + p) % (8 * byN t)) → b i = D 1 i) ∧ ∀ i, b i = D 1 i ∨ b i = 0 ∨ b i = 1 := by
  have hb := byN_le t
  have hst := st_le t ⟨h1, ht⟩
  have n1 : gN MG 1 = 124480 := rfl
  have n2 : gN MG 2 = 8480 := rfl
  intro m
  induction m with
  | zero =>
    intro fu k D hk hfu _
    obtain ⟨fu, rfl⟩ : ∃ z, fu = z + 1 := ⟨fu - 1, by omega⟩
    refine ⟨D 1, ?_, fun j _ _ => by omega, fun _ _ => rfl, fun _ => Or.inl rfl⟩
    show (if nI (8 * byN t) ≤ nI k then _ else _) = _
    rw [if_pos (nI_le (by omega) (by omega)), upA_id]
  | succ m ih =>
    intro fu k D hk hfu h2
    obtain ⟨fu, rfl⟩ : ∃ z, fu = z + 1 := ⟨fu - 1, by omega⟩
    have hv : vp_nar .boolean (D 2 k) = D 2 k := by rcases h2 k (by omega) with e | e <;> rw [e] <;> rfl
    have hlt : (k + p) % (8 * byN t) < 8 * byN t := Nat.mod_lt _ (by omega)
    obtain ⟨b, q1, q2, q3, q4⟩ := ih fu (k + 1) (up2 D 1 (stN t + (k + p) % (8 * byN t)) (D 2 k)) (by omega) (by omega) (fun j hj => by rw [up2_o (by decide)]; exact h2 j hj)
    refine ⟨b, ?_, ?_, ?_, ?_⟩
    · show (if nI (8 * byN t) ≤ nI k then some (1, D) else (if nI (8 * byN t) = 0 then none else (if inB (nI k) (gN MG 2) = true then (if inB (nI (stN t) + (jrem (nI k + nI p) (nI (8 * byN t)))) (gN MG 1) = true then (P_X8_turn_107 (gN MG) F (fun x3 x4 x5 x6 D => P_X8_turn_78 (gN MG) F fu x3 x4 x5 x6 D) (nI (stN t)) (nI (8 * byN t)) (nI p) (nI k) (up2 D 1 (Int32.toNatClampNeg (nI (stN t) + (jrem (nI k + nI p) (nI (8 * byN t))))) (vp_nar .boolean (D 2 (Int32.toNatClampNeg (nI k)))))) else none) else none))) = _
      rw [if_neg (nI_ge (by omega) (by omega)), if_neg (nI_z (by omega) (by omega)), nI_add, jrem_nI (by omega) (by omega) (by omega), nI_add, n1, n2, if_pos (in_nI (by omega) (by omega)), if_pos (in_nI (by omega) (by omega)), nI_clamp (by omega), nI_clamp (by omega), hv]
      unfold P_X8_turn_107
      rw [nI_1]
      show P_X8_turn_78 (gN MG) F fu (nI (stN t)) (nI (8 * byN t)) (nI p) (nI (k + 1)) _ = _
      rw [q1, up2_A, upA_upA]
    · intro j hj1 hj2
      by_cases e : j = k
      · subst e
        rw [q3, up2_app, if_pos ⟨rfl, rfl⟩]
        intro i hi1 hi2 he
        rw [addmod hj2 hp, addmod hi2 hp] at he
        split at he <;> split at he <;> omega
      · rw [q2 j (by omega) hj2, up2_o (by decide)]
    · intro i hi
      rw [q3 i (fun j hj1 hj2 => hi j (by omega) hj2), up2_app, if_neg]
      intro q
      exact hi k (by omega) (by omega) q.2
    · intro i
      rcases q4 i with c | c
      · rw [c, up2_app]
        split
        · exact Or.inr (h2 k (by omega))
        · exact Or.inl rfl
      · exact Or.inr c
theorem sim_turn {F : Nat} (hF : 9000 ≤ F) : Sim_turn Rel F := by
  intro Dx Dm a1 a2 h
  unfold P_X7_turn P_X8_turn
  rcases track_cases a1 with ⟨t, h1, ht, rfl⟩ | ⟨e1, e2⟩
  · have hb := byN_le t
    have hst := st_le t ⟨h1, ht⟩
    obtain ⟨p, hp, hfl, hby⟩ := turn_by a2 (L := 8 * byN t) (by omega) (by omega)
    obtain ⟨r, o, x1, x2, x3⟩ := rotate_eq (F := F) hF h1 ht (h.1.1 t h1 ht).1 hp hfl
    obtain ⟨kp, k1, _, k2⟩ := kept_go (F := F) (p := p) h1 ht (8 * byN t) F 0 Dm (by omega) (by omega) h.1.2.2.1
    obtain ⟨b, m1, m2, m3, m4⟩ := move_go (F := F) (p := p) h1 ht hp (8 * byN t) F 0 (upA Dm 2 kp) (by omega) (by omega) (fun j hj => by rw [upA_row, k2 j (by omega) hj]; exact h.1.2.2.1 _)
    rw [upA_row] at m2
    rw [show upA Dm 2 kp 1 = Dm 1 from upA_ne (by decide)] at m3 m4
    have em : P_X8_turn_46 (gN MG) F F (nI (stN t)) (nI (8 * byN t)) (nI p) 0 Dm = some (1, upA (upA Dm 2 kp) 1 b) := k1.trans m1
    rw [ringOf_eq t h1 ht, bqS, x1, bi_s, isTrack_t Dm h1 ht, bi_s, if_neg (show ¬ ((1 : Int32) = 0) by decide), startOf_eq Dm (by omega) h1 ht, bi_s, lengthOf_eq Dm ht, bi_s, if_neg (nI_z (by omega) (by omega))]
    have em2 : (if 0 ≤ jrem a2 (nI (8 * byN t)) then P_X8_turn_46 (gN MG) F F (nI (stN t)) (nI (8 * byN t)) (jrem a2 (nI (8 * byN t))) 0 Dm else P_X8_turn_46 (gN MG) F F (nI (stN t)) (nI (8 * byN t)) (jrem a2 (nI (8 * byN t)) + nI (8 * byN t)) 0 Dm) = some (1, upA (upA Dm 2 kp) 1 b) := by
      rcases hby with ⟨c1, c2⟩ | ⟨c1, c2⟩
      · rw [if_pos c1, c2]; exact em
      · rw [if_neg c1, c2]; exact em
    refine ⟨_, _, _, rfl, em2, ?_⟩
    have er : up2 (upA (upA Dx 72 o) (3 * t + 1 + 1) r) (3 * t + 1) 4 0 (3 * t + 2) = r := by rw [up2_o (by omega), show 3 * t + 2 = 3 * t + 1 + 1 by omega, upA_row]
    have ex : ∀ c, c ≠ 3 * t + 1 → c ≠ 3 * t + 2 → c ≠ 72 → up2 (upA (upA Dx 72 o) (3 * t + 1 + 1) r) (3 * t + 1) 4 0 c = Dx c := fun c ha hb hc => by rw [up2_o ha, upA_ne (by omega), upA_ne hc]
    refine h.trk (h.1.trk h1 ht (fun c _ _ u v => ex c u v (by omega)) ?_ ?_ ?_ ?_ ?_ ?_ ?_ ?_ ?_) (fun c hc => ex c (by omega) (by omega) (by omega)) (fun c ha hb => by rw [upA_ne ha, upA_ne hb])
    · rw [up2_app, if_neg (by omega), upA_ne (by omega), upA_ne (by omega)]
    · rw [up2_app, if_pos ⟨rfl, rfl⟩]
    · rw [er]; exact x2
    · rw [upA_ne (by decide), upA_ne (by decide)]
    · rw [upA_ne (by decide), upA_ne (by decide)]
    · rw [upA_row]
      intro i hi
      refine m3 i (fun j _ hj => ?_)
      have hlt : (j + p) % (8 * byN t) < 8 * byN t := Nat.mod_lt _ (by omega)
      omega
    · rw [upA_row]; exact m4
    · intro q hq
      rw [er, upA_row, x3 q hq]
      have hlt : (q + (8 * byN t - p)) % (8 * byN t) < 8 * byN t := Nat.mod_lt _ (by omega)
      have back : ((q + (8 * byN t - p)) % (8 * byN t) + p) % (8 * byN t) = q := by
        rw [Nat.mod_add_mod, show q + (8 * byN t - p) + p = q + 8 * byN t by omega, Nat.add_mod_right, Nat.mod_eq_of_lt hq]
      have hh := m2 ((q + (8 * byN t - p)) % (8 * byN t)) (by omega) hlt
      rw [back, k2 _ (by omega) hlt] at hh
      have hq2 := h.1.2.1 t h1 ht ((q + (8 * byN t - p)) % (8 * byN t)) hlt
      show rbit (Dx (3 * t + 2)) _ = _
      rw [hq2]
      unfold mbit
      rw [hh]
    · have := h.1.2.2.2.2
      unfold Cnt at this ⊢
      rw [ex 2 (by omega) (by omega) (by omega), upA_ne (by decide), upA_ne (by decide)]
      exact this
  · rw [e1, bqN, e2, bi_s, if_pos rfl]
    exact ⟨_, _, _, rfl, rfl, h⟩
