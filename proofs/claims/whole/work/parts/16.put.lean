/-! PUT: the class writes bits into a ring -/
/-- f1 is f with w bits g written from a on, round a ring of L -/
def Wr (f f1 : Nat → Bool) (L a w : Nat) (g : Nat → Bool) : Prop := (∀ x, x < w → f1 ((a + x) % L) = g x) ∧ ∀ q, q < L → (∀ x, x < w → q ≠ (a + x) % L) → f1 q = f q
theorem Wr.same {f f1 h h1 g : Nat → Bool} {L a w : Nat} (h1w : Wr f f1 L a w g) (h2w : Wr h h1 L a w g) (e : ∀ q, q < L → f q = h q) : ∀ q, q < L → f1 q = h1 q := by
  intro q hq
  by_cases c : ∃ x, x < w ∧ q = (a + x) % L
  · obtain ⟨x, hx, rfl⟩ := c
    rw [h1w.1 x hx, h2w.1 x hx]
  · have c : ∀ x, x < w → q ≠ (a + x) % L := fun x hx e => c ⟨x, hx, e⟩
    rw [h1w.2 q hq c, h2w.2 q hq c, e q hq]
theorem up2_A (D : Mm) (c k : Nat) (v : Int32) : up2 D c k v = upA D c (upd (D c) k v) := rfl
theorem upA_up2 (D : Mm) (c k : Nat) (f : Nat → Int32) (v : Int32) : up2 (upA D c f) c k v = upA D c (upd f k v) := by
  funext c'
  unfold up2 upA
  by_cases h : c' = c
  · subst h; simp
  · simp [h]
theorem upA_upA (D : Mm) (c : Nat) (f g : Nat → Int32) : upA (upA D c f) c g = upA D c g := by
  funext c'
  unfold upA
  by_cases h : c' = c <;> simp [h]
theorem b_sshr16 (x : Int32) {i : Nat} (hi : i < 32) : bt (x >>> ((16 : Int32) &&& 31)) i = if 16 + i < 32 then bt x (16 + i) else bt x 31 := b_sshr 16 (by omega) x hi
theorem By_255 (x : Int32) : By (x &&& 255) := by
  intro j hj
  rw [b_and, b_255, decide_eq_false (by omega), Bool.and_false]
theorem bt_not (x : Int32) {i : Nat} (hi : i < 32) : bt (x ^^^ (-1)) i = !bt x i := by
  rw [b_xor, b_m1 i hi]
  cases bt x i <;> rfl
/-- the three bytes with w bits of v written over them from bit o on -/
theorem three_put {x y z v M : Int32} {o w : Nat} (ho : o < 8) (hw : w ≤ 16) (hx : By x) (hy : By y) (hz : By z) (hM : ∀ q, q < 32 → bt M q = decide (q < w)) {q : Nat} (hq : q < 24) : bt ((((((x <<< ((16 : Int32) &&& 31)) ||| (y <<< ((8 : Int32) &&& 31))) ||| z) &&& ((M <<< (nI (24 - o - w) &&& 31)) ^^^ (-1))) ||| ((v <<< (nI (24 - o - w) &&& 31)) &&& (M <<< (nI (24 - o - w) &&& 31))))) q = if 24 - o - w ≤ q ∧ q < 24 - o then bt v (q - (24 - o - w)) else (if q < 8 then bt z q else if q < 16 then bt y (q - 8) else bt x (q - 16)) := by
  have hs : 24 - o - w < 32 := by omega
  rw [b_or, b_and, b_and, bt_not _ (by omega), b_shl _ hs M (by omega), b_shl _ hs v (by omega), three_bit hx hy hz (by omega)]
  by_cases h1 : 24 - o - w ≤ q
  · rw [hM _ (by omega)]
    by_cases h2 : q < 24 - o
    · rw [if_pos (show 24 - o - w ≤ q ∧ q < 24 - o from ⟨h1, h2⟩)]
      simp [h1, show q - (24 - o - w) < w by omega]
    · rw [if_neg (show ¬ (24 - o - w ≤ q ∧ q < 24 - o) from fun c => h2 c.2)]
      have h3 : ¬ q - (24 - o - w) < w := by omega
      simp [h1, h3, hq]
  · rw [if_neg (show ¬ (24 - o - w ≤ q ∧ q < 24 - o) from fun c => h1 c.1)]
    simp [h1, hq]
theorem and255_bit (x : Int32) {u : Nat} (hu : u < 8) : bt (x &&& 255) u = bt x u := by
  rw [b_and, b_255, decide_eq_true hu, Bool.and_true]
theorem putBits_eq {N : Nat → Nat} {F th n a w : Nat} {v : Int32} {D : Mm} (h : RingOk N th n D) (ha : a < 2 ^ 30) (hw0 : 0 < w) (hw : w ≤ 16) (hM : ∀ q, q < 32 → bt (((1 : Int32) <<< (nI w &&& 31)) - 1) q = decide (q < w)) : ∃ r : Nat → Int32, P_X5_putBits N F th (nI a) (nI w) v D = some (0, up2 (upA D (th + 1) r) th 4 0) ∧ (∀ i, i < n → By (r i)) ∧ Wr (rbit (D (th + 1))) (rbit r) (8 * n) a w (fun x => bt v (w - 1 - x)) := by
  obtain ⟨h3, hm, hN, hbits, hby⟩ := h
  have hp : a % (8 * n) < 8 * n := Nat.mod_lt _ (by omega)
  unfold P_X5_putBits
  rw [hbits, if_neg (nI_z (by omega) (by omega)), hN, if_neg (nI_z (by omega) (by omega)), jrem_nI (by omega) (by omega) (by omega)]
  have ewr : ∀ r, Wr (rbit (D (th + 1))) (rbit r) (8 * n) (a % (8 * n)) w (fun x => bt v (w - 1 - x)) → Wr (rbit (D (th + 1))) (rbit r) (8 * n) a w (fun x => bt v (w - 1 - x)) := by
    intro r hr
    refine ⟨fun x hx => ?_, fun q hq hne => hr.2 q hq (fun x hx => ?_)⟩
    · rw [← hr.1 x hx, Nat.mod_add_mod]
    · rw [Nat.mod_add_mod]; exact hne x hx
  generalize a % (8 * n) = p at *
  have d8 : nI p / (8 : Int32) = nI (p / 8) := pk_div (d := 8) (by omega) (by omega) (by omega)
  have s1 : nI (p / 8) + (1 : Int32) = nI (p / 8 + 1) := nI_add _ 1
  have s2 : nI (p / 8) + (2 : Int32) = nI (p / 8 + 2) := nI_add _ 2
  rw [d8, s1, jrem_nI (by omega) (by omega) (by omega)]
  unfold P_X5_putBits_27
  rw [hN, if_neg (nI_z (by omega) (by omega)), s2, jrem_nI (by omega) (by omega) (by omega)]
  unfold P_X5_putBits_39 P_X5_putBits_51
  have r8 : jrem (nI p) (8 : Int32) = nI (p % 8) := jrem_nI (d := 8) (by omega) (by omega) (by omega)
  have s24 : (24 : Int32) - nI (p % 8) = nI (24 - p % 8) := sub_nI (a := 24) (by omega)
  rw [r8, s24, sub_nI (by omega)]
  unfold P_X5_putBits_61
  have hi : p / 8 < n := by omega
  have m1 : (p / 8 + 1) % n < n := Nat.mod_lt _ (by omega)
  have m2 : (p / 8 + 2) % n < n := Nat.mod_lt _ (by omega)
  rw [hN, if_pos (in_nI hi (by omega)), if_pos (in_nI m1 (by omega)), if_pos (in_nI m2 (by omega)), nI_clamp (by omega), nI_clamp (by omega), nI_clamp (by omega)]
  have key := fun (q : Nat) (hq : q < 24) => three_put (v := v) (o := p % 8) (w := w) (M := ((1 : Int32) <<< (nI w &&& 31)) - 1) (by omega) hw (hby _ hi) (hby _ m1) (hby _ m2) hM hq
  generalize (((((D (th + 1) (p / 8)) <<< ((16 : Int32) &&& 31)) ||| ((D (th + 1) ((p / 8 + 1) % n)) <<< ((8 : Int32) &&& 31))) ||| (D (th + 1) ((p / 8 + 2) % n))) &&& (((((1 : Int32) <<< (nI w &&& 31)) - 1) <<< (nI (24 - p % 8 - w) &&& 31)) ^^^ (-1))) ||| ((v <<< (nI (24 - p % 8 - w) &&& 31)) &&& ((((1 : Int32) <<< (nI w &&& 31)) - 1) <<< (nI (24 - p % 8 - w) &&& 31))) = T at key ⊢
  unfold P_X5_putBits_105
  rw [hN, if_pos (in_nI hi (by omega)), nI_clamp (by omega)]
  unfold P_X5_putBits_121
  rw [hN, if_pos (in_nI m1 (by omega)), if_pos (in_nI m2 (by omega)), nI_clamp (by omega), nI_clamp (by omega)]
  unfold P_X5_putBits_150
  rw [up2_A D, upA_up2, upA_up2]
  refine ⟨_, rfl, ?_, ewr _ ?_⟩
  · intro c hc
    unfold upd
    split
    · exact By_255 _
    · split
      · exact By_255 _
      · split
        · exact By_255 _
        · exact hby c hc
  · have hn0 : 0 < n := by omega
    have hp8 : p = 8 * (p / 8) + p % 8 := by omega
    have ho : p % 8 < 8 := by omega
    generalize p / 8 = i at *
    generalize p % 8 = o at *
    -- the bits of the three bytes
    have e0 : ∀ u, u < 8 → bt ((T >>> ((16 : Int32) &&& 31)) &&& 255) u = bt T (16 + u) := fun u hu => by
      rw [and255_bit _ hu, b_sshr16 T (by omega), if_pos (by omega)]
    have e1 : ∀ u, u < 8 → bt ((T >>> ((8 : Int32) &&& 31)) &&& 255) u = bt T (8 + u) := fun u hu => by
      rw [and255_bit _ hu, b_sshr8 T (by omega), if_pos (by omega)]
    have e2 : ∀ u, u < 8 → bt (T &&& 255) u = bt T u := fun u hu => and255_bit _ hu
    have i1 : (i + 1) % n = if i + 1 = n then 0 else i + 1 := by
      split
      · rename_i c; rw [c, Nat.mod_self]
      · exact Nat.mod_eq_of_lt (by omega)
    have i2 : (i + 2) % n = if i + 2 = n then 0 else if i + 1 = n then 1 else i + 2 := by
      split
      · rename_i c; rw [c, Nat.mod_self]
      · split
        · rename_i c; rw [show i + 2 = n + 1 by omega, Nat.add_mod_left, Nat.mod_eq_of_lt (by omega)]
        · exact Nat.mod_eq_of_lt (by omega)
    have ne1 : (i + 1) % n ≠ i := by rw [i1]; split <;> omega
    have ne2 : (i + 2) % n ≠ i := by
      rw [i2]
      split
      · omega
      · split <;> omega
    have ne3 : (i + 2) % n ≠ (i + 1) % n := by
      rw [i1, i2]
      split
      · split <;> omega
      · split <;> omega
    have ei : (i + 0) % n = i := Nat.mod_eq_of_lt hi
    -- the bit at 8 i + x of the new row
    have at24 : ∀ x, x < 24 → rbit (upd (upd (upd (D (th + 1)) i ((T >>> ((16 : Int32) &&& 31)) &&& 255)) ((i + 1) % n) ((T >>> ((8 : Int32) &&& 31)) &&& 255)) ((i + 2) % n) (T &&& 255)) ((8 * i + x) % (8 * n)) = bt T (23 - x) := by
      intro x hx
      by_cases h1 : x < 8
      · rw [rbit_mod _ h1 hn0, Nat.mod_eq_of_lt hi]
        unfold upd
        rw [if_neg (fun q => ne2 q.symm), if_neg (fun q => ne1 q.symm), if_pos rfl, e0 _ (by omega)]
        congr 1
        omega
      · by_cases h2 : x < 16
        · rw [show 8 * i + x = 8 * (i + 1) + (x - 8) by omega, rbit_mod _ (by omega) hn0]
          unfold upd
          rw [if_neg (fun q => ne3 q.symm), if_pos rfl, e1 _ (by omega)]
          congr 1
          omega
        · rw [show 8 * i + x = 8 * (i + 2) + (x - 16) by omega, rbit_mod _ (by omega) hn0]
          unfold upd
          rw [if_pos rfl, e2 _ (by omega)]
          congr 1
          omega
    have old24 : ∀ x, x < 24 → rbit (D (th + 1)) ((8 * i + x) % (8 * n)) = if x < 8 then bt (D (th + 1) i) (7 - x) else if x < 16 then bt (D (th + 1) ((i + 1) % n)) (15 - x) else bt (D (th + 1) ((i + 2) % n)) (23 - x) := by
      intro x hx
      by_cases h1 : x < 8
      · rw [if_pos h1, rbit_mod _ h1 hn0, Nat.mod_eq_of_lt hi]
      · rw [if_neg h1]
        by_cases h2 : x < 16
        · rw [if_pos h2, show 8 * i + x = 8 * (i + 1) + (x - 8) by omega, rbit_mod _ (by omega) hn0]
          congr 1
          omega
        · rw [if_neg h2, show 8 * i + x = 8 * (i + 2) + (x - 16) by omega, rbit_mod _ (by omega) hn0]
          congr 1
          omega
    refine ⟨fun x hx => ?_, fun q hq hne => ?_⟩
    · subst hp8
      rw [show 8 * i + o + x = 8 * i + (o + x) by omega, at24 _ (by omega), key _ (by omega), if_pos (by omega)]
      congr 1
      omega
    · -- a bit outside of the window
      by_cases c24 : ∃ x, x < 24 ∧ q = (8 * i + x) % (8 * n)
      · obtain ⟨x, hx, rfl⟩ := c24
        have hout : ¬ (24 - o - w ≤ 23 - x ∧ 23 - x < 24 - o) := by
          intro c
          refine hne (x - o) (by omega) ?_
          rw [hp8]
          congr 1
          omega
        rw [at24 x hx, key _ (by omega), if_neg hout, old24 x hx]
        by_cases h1 : x < 8
        · rw [if_pos h1, if_neg (by omega), if_neg (by omega)]
          congr 1
          omega
        · rw [if_neg h1]
          by_cases h2 : x < 16
          · rw [if_pos h2, if_neg (by omega), if_pos (by omega)]
            congr 1
            omega
          · rw [if_neg h2, if_pos (by omega)]
      · have hc : q / 8 ≠ i ∧ q / 8 ≠ (i + 1) % n ∧ q / 8 ≠ (i + 2) % n := by
          have go : ∀ d, d < 3 → q / 8 ≠ (i + d) % n := by
            intro d hd e
            refine c24 ⟨8 * d + q % 8, by omega, ?_⟩
            rw [show 8 * i + (8 * d + q % 8) = 8 * (i + d) + q % 8 by omega, mod8 _ _ _ (by omega) hn0, ← e]
            omega
          exact ⟨by have := go 0 (by omega); rw [ei] at this; exact this, go 1 (by omega), go 2 (by omega)⟩
        unfold rbit upd
        rw [if_neg hc.2.2, if_neg hc.2.1, if_neg hc.1]
