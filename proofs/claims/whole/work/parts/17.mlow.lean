/-! MLOW: the reference's bits: its tracks, decoding, writing -/
def byN (t : Nat) : Nat := if t < 9 then 1060 else if t < 13 then 940 else 830
def stN : Nat → Nat
  | 0 => 0
  | 1 => 0
  | t + 2 => stN (t + 1) + 8 * byN (t + 1)
theorem byN_le (t : Nat) : 830 ≤ byN t ∧ byN t ≤ 1060 := by
  unfold byN
  split
  · omega
  · split <;> omega
theorem st_le : ∀ t, 1 ≤ t ∧ t ≤ 16 → stN t + 8 * byN t ≤ 124480 := by
  have : ∀ t, t < 17 → 1 ≤ t → stN t + 8 * byN t ≤ 124480 := by decide +kernel
  intro t ht
  exact this t (by omega) ht.1
theorem bytesOf_eq {N : Nat → Nat} {F t : Nat} (D : Mm) (ht : t ≤ 16) : P_X8_bytesOf N F (nI t) D = some (nI (byN t), D) := by
  have e : ∀ t, t < 17 → (if (9 : Int32) ≤ nI t then (if (13 : Int32) ≤ nI t then (830 : Int32) else 940) else 1060) = nI (byN t) := by decide +kernel
  unfold P_X8_bytesOf
  rw [ite_some, ite_some, e t (by omega)]
theorem lengthOf_eq {N : Nat → Nat} {F t : Nat} (D : Mm) (ht : t ≤ 16) : P_X8_lengthOf N F (nI t) D = some (nI (8 * byN t), D) := by
  unfold P_X8_lengthOf
  rw [bytesOf_eq D ht, bi_s]
  have : (8 : Int32) * nI (byN t) = nI (8 * byN t) := pk_mul 8 _
  rw [this]
theorem startOf_go {N : Nat → Nat} {F t : Nat} (D : Mm) (ht : t ≤ 16) : ∀ (n u : Nat), 1 ≤ u → u ≤ t → t - u < n → P_X8_startOf_4 N F n (nI t) (nI (stN u)) (nI u) D = some (nI (stN t), D) := by
  intro n
  induction n with
  | zero => intro u _ _ h; omega
  | succ n ih =>
    intro u h1 h2 h3
    show (if nI t ≤ nI u then some (nI (stN u), D) else bi (P_X8_lengthOf N F (nI u) D) (fun r2 D2 => P_X8_startOf_4 N F n (nI t) (nI (stN u) + r2) (nI u + 1) D2)) = _
    by_cases c : t = u
    · subst c
      rw [if_pos (nI_le (Nat.le_refl _) (by omega))]
    · rw [if_neg (nI_ge (by omega) (by omega)), lengthOf_eq D (by omega), bi_s, nI_add, nI_1]
      have e : stN u + 8 * byN u = stN (u + 1) := by
        obtain ⟨v, rfl⟩ : ∃ v, u = v + 1 := ⟨u - 1, by omega⟩
        rfl
      rw [e]
      exact ih (u + 1) (by omega) (by omega) (by omega)
theorem startOf_eq {N : Nat → Nat} {F t : Nat} (D : Mm) (hF : 100 ≤ F) (h1 : 1 ≤ t) (ht : t ≤ 16) : P_X8_startOf N F (nI t) D = some (nI (stN t), D) := by
  unfold P_X8_startOf
  exact startOf_go D ht F 1 (by omega) h1 (by omega)
/-- bit q of the track that begins at s -/
def mbit (b : Nat → Int32) (s q : Nat) : Bool := !(decide (b (s + q) = 0))
theorem mbit_f {b : Nat → Int32} {s q : Nat} (h : b (s + q) = 0) : mbit b s q = false := by unfold mbit; simp [h]
theorem mbit_t {b : Nat → Int32} {s q : Nat} (h : ¬ b (s + q) = 0) : mbit b s q = true := by unfold mbit; simp [h]
theorem decoded_go {N : Nat → Nat} {F t a : Nat} {D : Mm} (h1 : 1 ≤ t) (ht : t ≤ 16) (ha : a < 2 ^ 30) (hN1 : N 1 = 124480) (hN4 : N 4 = 32) (hH : ∀ j, j < 32 → D 4 j = tHALVES j) : ∀ (m n k : Nat), k + m = 10 → m < n → P_X8_decoded_17 N F n (nI a) (nI (stN t)) (nI (8 * byN t)) (nI (tn (fun k => mbit (D 1) (stN t) ((a + k) % (8 * byN t))) k)) (nI k) D = some (cV (tn (fun k => mbit (D 1) (stN t) ((a + k) % (8 * byN t))) 10), D) := by
  have hb := byN_le t
  have hst := st_le t ⟨h1, ht⟩
  intro m
  induction m with
  | zero =>
    intro n k hk hn
    have hk : k = 10 := by omega
    subst hk
    obtain ⟨n, rfl⟩ : ∃ z, n = z + 1 := ⟨n - 1, by omega⟩
    have hv := tn_lt (fun k => mbit (D 1) (stN t) ((a + k) % (8 * byN t))) 10
    generalize tn (fun k => mbit (D 1) (stN t) ((a + k) % (8 * byN t))) 10 = v at hv ⊢
    show (if (10 : Int32) ≤ nI 10 then (if inB (nI v >>> (5 &&& 31)) (N 4) = true then (P_X8_decoded_70 N F (nI v) (D 4 (Int32.toNatClampNeg (nI v >>> (5 &&& 31)))) D) else none) else _) = _
    rw [if_pos (by decide), shr5_nI (by omega), hN4, if_pos (in_nI (by omega) (by omega)), nI_clamp (by omega)]
    unfold P_X8_decoded_70
    rw [and31_nI (by omega), hN4, if_pos (in_nI (by omega) (by omega)), nI_clamp (by omega), hH _ (by omega), hH _ (by omega)]
    unfold P_X8_decoded_82 cV
    rw [ite_some, ite_some]
  | succ m ih =>
    intro n k hk hn
    obtain ⟨n, rfl⟩ : ∃ z, n = z + 1 := ⟨n - 1, by omega⟩
    have hq : (a + k) % (8 * byN t) < 8 * byN t := Nat.mod_lt _ (by omega)
    have hv := tn_lt (fun k => mbit (D 1) (stN t) ((a + k) % (8 * byN t))) k
    have hp : 2 ^ k ≤ 1024 := Nat.pow_le_pow_right (n := 2) (by omega) (show k ≤ 10 by omega)
    have nx := ih n (k + 1) (by omega) (by omega)
    rw [show tn (fun k => mbit (D 1) (stN t) ((a + k) % (8 * byN t))) (k + 1) = 2 * tn (fun k => mbit (D 1) (stN t) ((a + k) % (8 * byN t))) k + (if mbit (D 1) (stN t) ((a + k) % (8 * byN t)) then 1 else 0) from rfl] at nx
    generalize tn (fun k => mbit (D 1) (stN t) ((a + k) % (8 * byN t))) k = v at hv nx ⊢
    have e1 : (2 : Int32) * nI v = nI (2 * v) := pk_mul 2 v
    have e2 : nI (2 * v) + (0 : Int32) = nI (2 * v + 0) := nI_add _ 0
    have e3 : nI (2 * v) + (1 : Int32) = nI (2 * v + 1) := nI_add _ 1
    show (if (10 : Int32) ≤ nI k then _ else (if nI (8 * byN t) = 0 then none else (if inB (nI (stN t) + jrem (nI a + nI k) (nI (8 * byN t))) (N 1) = true then (if D 1 (Int32.toNatClampNeg (nI (stN t) + jrem (nI a + nI k) (nI (8 * byN t)))) = 0 then P_X8_decoded_17 N F n (nI a) (nI (stN t)) (nI (8 * byN t)) (2 * nI v + 0) (nI k + 1) D else P_X8_decoded_17 N F n (nI a) (nI (stN t)) (nI (8 * byN t)) (2 * nI v + 1) (nI k + 1) D) else none))) = _
    rw [if_neg (show ¬ (10 : Int32) ≤ nI k from nI_ge (b := 10) (by omega) (by omega)), if_neg (nI_z (by omega) (by omega)), nI_add, jrem_nI (by omega) (by omega) (by omega), nI_add, hN1, if_pos (in_nI (by omega) (by omega)), nI_clamp (by omega), e1, e2, e3, nI_1]
    by_cases c : D 1 (stN t + (a + k) % (8 * byN t)) = 0
    · rw [if_pos c]
      rw [mbit_f c] at nx
      exact nx
    · rw [if_neg c]
      rw [mbit_t c] at nx
      exact nx
theorem decoded_eq {N : Nat → Nat} {F t a : Nat} {D : Mm} (hF : 100 ≤ F) (h1 : 1 ≤ t) (ht : t ≤ 16) (ha : a < 2 ^ 30) (hN1 : N 1 = 124480) (hN4 : N 4 = 32) (hH : ∀ j, j < 32 → D 4 j = tHALVES j) : P_X8_decoded N F (nI t) (nI a) D = some (cV (tn (fun k => mbit (D 1) (stN t) ((a + k) % (8 * byN t))) 10), D) := by
  unfold P_X8_decoded
  rw [startOf_eq D hF h1 ht, bi_s, lengthOf_eq D ht, bi_s]
  exact decoded_go h1 ht ha hN1 hN4 hH 10 F 0 rfl (by omega)
theorem bit1 (v : Int32) {k : Nat} (hk : k < 32) : ((v >>> (nI k &&& 31)) &&& 1) = 1 ↔ bt v k = true := by
  have h0 : ∀ i, bt 1 i = decide (i = 0) := by
    intro i
    rcases Nat.lt_or_ge i 32 with h | h
    · exact (by decide +kernel : ∀ i, i < 32 → bt 1 i = decide (i = 0)) i h
    · rw [b_big h, decide_eq_false (by omega)]
  have e0 : bt (v >>> (nI k &&& 31)) 0 = bt v k := by rw [b_sshr k hk v (by omega), if_pos (by omega)]; rfl
  constructor
  · intro h
    have := congrArg (fun x => bt x 0) h
    simp only [b_and, h0, e0] at this
    simpa using this
  · intro h
    apply b_ext
    intro i hi
    rw [b_and, h0]
    by_cases c : i = 0
    · subst c; rw [e0, h]; rfl
    · simp [c]
theorem Wr.cons {f f1 f2 g g1 : Nat → Bool} {L a m : Nat} (hL : m + 1 ≤ L) (h1 : f1 (a % L) = g 0) (h2 : ∀ q, q < L → q ≠ a % L → f1 q = f q) (h3 : Wr f1 f2 L (a + 1) m g1) (hg : ∀ x, x < m → g (x + 1) = g1 x) : Wr f f2 L a (m + 1) g := by
  have hL0 : 0 < L := by omega
  have dj : ∀ x, x < m → a % L ≠ (a + 1 + x) % L := by
    intro x hx e
    have h : (a + 1 + x) % L = (a % L + (1 + x)) % L := by rw [Nat.mod_add_mod, Nat.add_assoc]
    rw [h] at e
    have ha := Nat.mod_lt a hL0
    generalize a % L = y at *
    rcases Nat.lt_or_ge (y + (1 + x)) L with c | c
    · rw [Nat.mod_eq_of_lt c] at e; omega
    · rw [Nat.mod_eq_sub_mod c, Nat.mod_eq_of_lt (by omega)] at e; omega
  refine ⟨fun x hx => ?_, fun q hq hne => ?_⟩
  · cases x with
    | zero => rw [Nat.add_zero, h3.2 _ (Nat.mod_lt _ hL0) dj, h1]
    | succ x =>
      rw [show a + (x + 1) = a + 1 + x by omega, h3.1 x (by omega), hg x (by omega)]
  · rw [h3.2 q hq (fun x hx => by rw [show a + 1 + x = a + (x + 1) by omega]; exact hne (x + 1) (by omega)), h2 q hq (by have := hne 0 (by omega); rw [Nat.add_zero] at this; exact this)]
theorem mput_go {N : Nat → Nat} {F t : Nat} {v : Int32} (h1 : 1 ≤ t) (ht : t ≤ 16) (hN1 : N 1 = 124480) : ∀ (m n a : Nat) (D : Mm), m ≤ 32 → m < n → a + m < 2 ^ 30 → D 0 30 = nI a → ∃ b : Nat → Int32, P_X8_putBits_22 N F n v (nI (stN t)) (nI (8 * byN t)) (nI m + (-1)) D = some (0, up2 (upA D 1 b) 0 30 (nI (a + m))) ∧ Wr (mbit (D 1) (stN t)) (mbit b (stN t)) (8 * byN t) a m (fun x => bt v (m - 1 - x)) ∧ (∀ i, (i < stN t ∨ stN t + 8 * byN t ≤ i) → b i = D 1 i) ∧ (∀ i, b i = D 1 i ∨ b i = 0 ∨ b i = 1) := by
  have hb := byN_le t
  have hst := st_le t ⟨h1, ht⟩
  have up2_id : ∀ (D : Mm) (c k : Nat) (x : Int32), D c k = x → up2 D c k x = D := by
    intro D c k x h
    funext c' k'
    rw [up2_app]
    split
    · rename_i q; rw [q.1, q.2, h]
    · rfl
  have upA_id : ∀ (D : Mm) (c : Nat), upA D c (D c) = D := by
    intro D c
    funext c'
    unfold upA
    split
    · rename_i q; rw [q]
    · rfl
  intro m
  induction m with
  | zero =>
    intro n a D _ hn ha h30
    obtain ⟨n, rfl⟩ : ∃ z, n = z + 1 := ⟨n - 1, by omega⟩
    refine ⟨D 1, ?_, ⟨fun x hx => by omega, fun q hq _ => rfl⟩, fun _ _ => rfl, fun _ => Or.inl rfl⟩
    show (if nI 0 + (-1) < 0 then some (0, D) else _) = _
    rw [if_pos (by decide), upA_id, Nat.add_zero, up2_id _ _ _ _ h30]
  | succ m ih =>
    intro n a D hm hn ha h30
    obtain ⟨n, rfl⟩ : ∃ z, n = z + 1 := ⟨n - 1, by omega⟩
    have hq : a % (8 * byN t) < 8 * byN t := Nat.mod_lt _ (by omega)
    have e0 : nI (m + 1) + (-1) = nI m := pk_m1 m
    rw [e0]
    -- one bit is written
    have step : ∀ x : Int32, (x = 0 ∨ x = 1) → (x = 0 ↔ bt v m = false) → ∃ b : Nat → Int32, P_X8_putBits_56 N F (fun x1 x3 x4 x5 D => P_X8_putBits_22 N F n x1 x3 x4 x5 D) v (nI (stN t)) (nI (8 * byN t)) (nI m) (up2 D 1 (stN t + a % (8 * byN t)) x) = some (0, up2 (upA D 1 b) 0 30 (nI (a + (m + 1)))) ∧ Wr (mbit (D 1) (stN t)) (mbit b (stN t)) (8 * byN t) a (m + 1) (fun x => bt v (m + 1 - 1 - x)) ∧ (∀ i, (i < stN t ∨ stN t + 8 * byN t ≤ i) → b i = D 1 i) ∧ (∀ i, b i = D 1 i ∨ b i = 0 ∨ b i = 1) := by
      intro x hx hxb
      unfold P_X8_putBits_56
      have e30 : up2 D 1 (stN t + a % (8 * byN t)) x 0 30 = nI a := by rw [up2_app, if_neg (by omega), h30]
      rw [e30, nI_1]
      obtain ⟨b, p1, p2, p3, p4⟩ := ih n (a + 1) (up2 (up2 D 1 (stN t + a % (8 * byN t)) x) 0 30 (nI (a + 1))) (by omega) (by omega) (by omega) (by rw [up2_app, if_pos ⟨rfl, rfl⟩])
      have row1 : up2 (up2 D 1 (stN t + a % (8 * byN t)) x) 0 30 (nI (a + 1)) 1 = upd (D 1) (stN t + a % (8 * byN t)) x := by
        rw [up2_o (by decide), up2_row]
      rw [row1] at p2 p3 p4
      refine ⟨b, ?_, ?_, ?_, ?_⟩
      · show P_X8_putBits_22 N F n v (nI (stN t)) (nI (8 * byN t)) (nI m + (-1)) _ = _
        rw [p1]
        congr 2
        rw [show a + 1 + m = a + (m + 1) by omega]
        funext c' k'
        rw [up2_app, up2_app]
        by_cases c : c' = 0 ∧ k' = 30
        · rw [if_pos c, if_pos c]
        · rw [if_neg c, if_neg c]
          by_cases c1 : c' = 1
          · subst c1; rw [upA_row, upA_row]
          · rw [upA_ne c1, upA_ne c1, up2_app, if_neg c, up2_o c1]
      · refine Wr.cons (f1 := mbit (upd (D 1) (stN t + a % (8 * byN t)) x) (stN t)) (by omega) ?_ ?_ p2 (fun x hx => by congr 1; omega)
        · show mbit _ _ _ = bt v (m + 1 - 1 - 0)
          rw [show m + 1 - 1 - 0 = m by omega]
          have eu : upd (D 1) (stN t + a % (8 * byN t)) x (stN t + a % (8 * byN t)) = x := by unfold upd; rw [if_pos rfl]
          by_cases c : x = 0
          · rw [mbit_f (by rw [eu]; exact c), hxb.mp c]
          · rw [mbit_t (by rw [eu]; exact c)]
            cases hbv : bt v m with
            | false => exact absurd (hxb.mpr hbv) c
            | true => rfl
        · intro q hq2 hne
          unfold mbit upd
          rw [if_neg (by omega)]
      · intro i hi
        rw [p3 i hi]
        unfold upd
        rw [if_neg (by omega)]
      · intro i
        rcases p4 i with c | c
        · rw [c]
          unfold upd
          split
          · exact Or.inr hx
          · exact Or.inl rfl
        · exact Or.inr c
    have n1 : vp_nar .boolean 1 = 1 := rfl
    have n0 : vp_nar .boolean 0 = 0 := rfl
    show ∃ b : Nat → Int32, (if nI m < 0 then some (0, D) else (if nI (8 * byN t) = 0 then none else (if ((v >>> (nI m &&& 31)) &&& 1) = 1 then (if inB (nI (stN t) + (jrem (D 0 30) (nI (8 * byN t)))) (N 1) = true then (P_X8_putBits_56 N F (fun x1 x3 x4 x5 D => P_X8_putBits_22 N F n x1 x3 x4 x5 D) v (nI (stN t)) (nI (8 * byN t)) (nI m) (up2 D 1 (Int32.toNatClampNeg (nI (stN t) + (jrem (D 0 30) (nI (8 * byN t))))) (vp_nar .boolean 1))) else none) else (if inB (nI (stN t) + (jrem (D 0 30) (nI (8 * byN t)))) (N 1) = true then (P_X8_putBits_56 N F (fun x1 x3 x4 x5 D => P_X8_putBits_22 N F n x1 x3 x4 x5 D) v (nI (stN t)) (nI (8 * byN t)) (nI m) (up2 D 1 (Int32.toNatClampNeg (nI (stN t) + (jrem (D 0 30) (nI (8 * byN t))))) (vp_nar .boolean 0))) else none)))) = _ ∧ _
    rw [if_neg (nI_pos (by omega)), if_neg (nI_z (by omega) (by omega)), h30, jrem_nI (by omega) (by omega) (by omega), nI_add, hN1, if_pos (in_nI (by omega) (by omega)), nI_clamp (by omega), n1, n0]
    by_cases c : bt v m = true
    · rw [if_pos ((bit1 v (by omega)).mpr c)]
      exact step 1 (Or.inr rfl) ⟨fun h => absurd h (by decide), fun h => by rw [c] at h; cases h⟩
    · rw [if_neg (fun q => c ((bit1 v (by omega)).mp q)), if_pos (in_nI (by omega) (by omega))]
      exact step 0 (Or.inl rfl) ⟨fun _ => by cases hb2 : bt v m with | false => rfl | true => exact absurd hb2 c, fun _ => rfl⟩
theorem mputBits_eq {N : Nat → Nat} {F t w a : Nat} {v : Int32} {D : Mm} (hF : 100 ≤ F) (h1 : 1 ≤ t) (ht : t ≤ 16) (hN1 : N 1 = 124480) (hw0 : 0 < w) (hw : w ≤ 32) (ha : a + 32 < 2 ^ 30) (h29 : D 0 29 = nI t) (h30 : D 0 30 = nI a) : ∃ b : Nat → Int32, P_X8_putBits N F v (nI w) D = some (0, up2 (upA D 1 b) 0 30 (nI (a + w))) ∧ Wr (mbit (D 1) (stN t)) (mbit b (stN t)) (8 * byN t) a w (fun x => bt v (w - 1 - x)) ∧ (∀ i, (i < stN t ∨ stN t + 8 * byN t ≤ i) → b i = D 1 i) ∧ (∀ i, b i = D 1 i ∨ b i = 0 ∨ b i = 1) := by
  unfold P_X8_putBits
  rw [h29, startOf_eq D hF h1 ht, bi_s, h29, lengthOf_eq D ht, bi_s]
  have e : nI w - 1 = nI w + (-1) := by
    obtain ⟨k, rfl⟩ : ∃ k, w = k + 1 := ⟨w - 1, by omega⟩
    rw [nI_pred, pk_m1]
  rw [e]
  exact mput_go h1 ht hN1 w F a D hw (by omega) (by omega) h30
