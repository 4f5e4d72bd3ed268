/-! SEEK: a block's header, sought by both sides -/
/-- the byte coded from a on in a ring of bits, or -1 -/
def cf (f : Nat → Bool) (L a : Nat) : Int32 := cV (tn (fun k => f ((a + k) % L)) 10)
theorem cf_congr {f g : Nat → Bool} {L : Nat} (h0 : 0 < L) (h : ∀ q, q < L → f q = g q) (a : Nat) : cf f L a = cf g L a := by
  unfold cf
  rw [tn_congr 10 (fun j _ => h _ (Nat.mod_lt _ h0))]
theorem cV_range : ∀ v, v < 1024 → cV v = -1 ∨ (0 ≤ cV v ∧ cV v < 256) := by decide +kernel
theorem cf_range (f : Nat → Bool) (L a : Nat) : cf f L a = -1 ∨ ∃ b, b < 256 ∧ cf f L a = nI b := by
  rcases cV_range _ (tn_lt (fun k => f ((a + k) % L)) 10) with h | ⟨h1, h2⟩
  · exact Or.inl h
  · right
    obtain ⟨j, hj, e⟩ := nI_of (show ¬ cf f L a < 0 from fun q => by
      have h1 : (0 : Int32) ≤ cf f L a := h1
      rw [Int32.le_iff_toInt_le] at h1
      rw [Int32.lt_iff_toInt_lt] at q
      omega)
    refine ⟨j, ?_, e⟩
    have h2 : cf f L a < nI 256 := h2
    rw [e, nI_ltI hj (by omega)] at h2
    exact h2
theorem cf_neg {f : Nat → Bool} {L a : Nat} : cf f L a < 0 ↔ cf f L a = -1 := by
  rcases cf_range f L a with h | ⟨b, hb, h⟩
  · rw [h]; decide
  · rw [h]
    constructor
    · intro q; exact absurd q (nI_pos (by omega))
    · intro q
      have : (nI b).toInt = (-1 : Int32).toInt := by rw [q]
      rw [nI_toInt (by omega)] at this
      have e : (-1 : Int32).toInt = -1 := by decide
      omega
theorem cf_nneg {f : Nat → Bool} {L a : Nat} : 0 ≤ cf f L a ↔ ¬ cf f L a = -1 := by
  rw [← cf_neg, Int32.le_iff_toInt_le, Int32.lt_iff_toInt_lt]
  omega
/-- is there a header of the block behind p -/
def hOk (f : Nat → Bool) (L : Nat) (t s : Int32) (p : Nat) : Prop := cf f L p = 8 ∧ cf f L (p + 20) = s ∧ cf f L (p + 30) = t ∧ ¬ cf f L (p + 10) = -1 ∧ ¬ cf f L (p + 40) = -1 ∧ ¬ cf f L (p + 50) = -1
theorem hOk_dec (f : Nat → Bool) (L : Nat) (t s : Int32) (p : Nat) : hOk f L t s p ∨ ¬ hOk f L t s p := Classical.em _
/-- its error -/
def eOf (f : Nat → Bool) (L : Nat) (id t s : Int32) (p : Nat) : Int32 := if cf f L (p + 10) = (((s ^^^ t) ^^^ cf f L (p + 40)) ^^^ cf f L (p + 50)) then (if ((256 * cf f L (p + 40)) + cf f L (p + 50)) = id then 0 else 29) else 27
theorem eOf_ne {f : Nat → Bool} {L : Nat} {id t s : Int32} {p : Nat} : eOf f L id t s p = 0 ∨ eOf f L id t s p = 29 ∨ eOf f L id t s p = 27 := by
  unfold eOf
  split
  · split
    · exact Or.inl rfl
    · exact Or.inr (Or.inl rfl)
  · exact Or.inr (Or.inr rfl)
theorem shl8_or : ∀ a b : Nat, a < 256 → b < 256 → (nI a <<< ((8 : Int32) &&& 31)) ||| nI b = 256 * nI a + nI b := by
  intro a b ha hb
  have e1 : (256 : Int32) * nI a + nI b = nI (256 * a + b) := by
    have : (256 : Int32) * nI a = nI (256 * a) := pk_mul 256 a
    rw [this, nI_add]
  rw [e1]
  apply b_ext
  intro i hi
  rw [b_or, b_shl8 _ hi, bt_nI (by omega), bt_nI (by omega), bt_nI (by omega)]
  have e2 : 256 * a + b = a <<< 8 ||| b := by
    rw [← Nat.shiftLeft_add_eq_or_of_lt (show b < 2 ^ 8 by omega), Nat.shiftLeft_eq]
    omega
  rw [e2, Nat.testBit_or, Nat.testBit_shiftLeft]
theorem headerError_eq {N : Nat → Nat} {F th n p : Nat} {t s : Int32} {D : Mm} (h : RingOk N th n D) (hp : p < 2 ^ 29) (ht : ¬ t = -1) (hs : ¬ s = -1) : (hOk (rbit (D (th + 1))) (8 * n) t s p → P_X0_headerError N F th (nI p) t s D = some (eOf (rbit (D (th + 1))) (8 * n) (D 2 3) t s p, D)) ∧ (¬ hOk (rbit (D (th + 1))) (8 * n) t s p → P_X0_headerError N F th (nI p) t s D = some (20, D)) := by
  have e0 := codedAt_eq (F := F) (a := p) h (by omega)
  have e1 : P_X5_codedAt N F th (nI p + 10) D = some (cf (rbit (D (th + 1))) (8 * n) (p + 10), D) := by rw [show nI p + (10 : Int32) = nI (p + 10) from nI_add p 10]; exact codedAt_eq h (by omega)
  have e2 : P_X5_codedAt N F th (nI p + 20) D = some (cf (rbit (D (th + 1))) (8 * n) (p + 20), D) := by rw [show nI p + (20 : Int32) = nI (p + 20) from nI_add p 20]; exact codedAt_eq h (by omega)
  have e3 : P_X5_codedAt N F th (nI p + 30) D = some (cf (rbit (D (th + 1))) (8 * n) (p + 30), D) := by rw [show nI p + (30 : Int32) = nI (p + 30) from nI_add p 30]; exact codedAt_eq h (by omega)
  have e4 : P_X5_codedAt N F th (nI p + 40) D = some (cf (rbit (D (th + 1))) (8 * n) (p + 40), D) := by rw [show nI p + (40 : Int32) = nI (p + 40) from nI_add p 40]; exact codedAt_eq h (by omega)
  have e5 : P_X5_codedAt N F th (nI p + 50) D = some (cf (rbit (D (th + 1))) (8 * n) (p + 50), D) := by rw [show nI p + (50 : Int32) = nI (p + 50) from nI_add p 50]; exact codedAt_eq h (by omega)
  have e0 : P_X5_codedAt N F th (nI p) D = some (cf (rbit (D (th + 1))) (8 * n) p, D) := e0
  unfold P_X0_headerError
  rw [e0, bi_s, e2, bi_s, e3, bi_s, e1, bi_s, e4, bi_s, e5, bi_s]
  have r4 := cf_range (rbit (D (th + 1))) (8 * n) (p + 40)
  have r5 := cf_range (rbit (D (th + 1))) (8 * n) (p + 50)
  unfold hOk eOf
  generalize cf (rbit (D (th + 1))) (8 * n) p = c0
  generalize cf (rbit (D (th + 1))) (8 * n) (p + 10) = c1
  generalize cf (rbit (D (th + 1))) (8 * n) (p + 20) = c2
  generalize cf (rbit (D (th + 1))) (8 * n) (p + 30) = c3
  generalize cf (rbit (D (th + 1))) (8 * n) (p + 40) = c4 at *
  generalize cf (rbit (D (th + 1))) (8 * n) (p + 50) = c5 at *
  constructor
  · rintro ⟨a0, a2, a3, a1, a4, a5⟩
    rw [if_pos a0, if_pos a2, if_pos a3, if_neg a1, if_neg a4, if_neg a5]
    obtain ⟨b4, hb4, rfl⟩ := r4.resolve_left a4
    obtain ⟨b5, hb5, rfl⟩ := r5.resolve_left a5
    rw [shl8_or b4 b5 hb4 hb5]
    split
    · split <;> rfl
    · rfl
  · intro hno
    by_cases a0 : c0 = 8
    · rw [if_pos a0]
      by_cases a2 : c2 = s
      · rw [if_pos a2]
        by_cases a3 : c3 = t
        · rw [if_pos a3]
          by_cases a1 : c1 = -1
          · rw [if_pos a1]
          · rw [if_neg a1]
            by_cases a4 : c4 = -1
            · rw [if_pos a4]
            · rw [if_neg a4]
              by_cases a5 : c5 = -1
              · rw [if_pos a5]
              · exact absurd ⟨a0, a2, a3, a1, a4, a5⟩ hno
        · rw [if_neg a3]
      · rw [if_neg a2]
    · rw [if_neg a0]
/-- the first of the syncs from i on behind which there is a header of the block -/
def FirstAt (f : Nat → Bool) (L : Nat) (t s : Int32) (l : List Nat) (i j : Nat) : Prop := i ≤ j ∧ ∃ hj : j < l.length, hOk f L t s l[j] ∧ ∀ k (hk : k < l.length), i ≤ k → k < j → ¬ hOk f L t s l[k]
def NoneAt (f : Nat → Bool) (L : Nat) (t s : Int32) (l : List Nat) (i : Nat) : Prop := ∀ k (hk : k < l.length), i ≤ k → ¬ hOk f L t s l[k]
theorem first_or (f : Nat → Bool) (L : Nat) (t s : Int32) (l : List Nat) : ∀ m i, i + m = l.length → (∃ j, FirstAt f L t s l i j) ∨ NoneAt f L t s l i := by
  intro m
  induction m with
  | zero => intro i hi; right; intro k hk h; omega
  | succ m ih =>
    intro i hi
    have hil : i < l.length := by omega
    rcases hOk_dec f L t s l[i] with h | h
    · left; exact ⟨i, Nat.le_refl _, hil, h, fun k hk h1 h2 => by omega⟩
    · rcases ih (i + 1) (by omega) with ⟨j, h1, h2, h3, h4⟩ | h1
      · left
        refine ⟨j, by omega, h2, h3, fun k hk a b => ?_⟩
        by_cases e : k = i
        · subst e; exact h
        · exact h4 k hk (by omega) b
      · right
        intro k hk a
        by_cases e : k = i
        · subst e; exact h
        · exact h1 k hk (by omega)
theorem xseek_go {N : Nat → Nat} {F th n : Nat} {t s : Int32} {D : Mm} (h : RingOk N th n D) (hN2 : N (th + 2) = 8 * n / 11) (ht : ¬ t = -1) (hs : ¬ s = -1) {l : List Nat} (hl : l.length < 1000) (hll : l.length ≤ 8 * n / 11) (hl2 : ∀ j (hj : j < l.length), D (th + 2) j = nI (l[j]) ∧ l[j] < 2 ^ 29) (h3 : D th 3 = nI l.length) : ∀ (m fu i : Nat), i + m = l.length → m < fu → (∀ j, FirstAt (rbit (D (th + 1))) (8 * n) t s l i j → ∃ hj : j < l.length, P_X0_seek_17 N F th fu t s (nI l.length) (nI i) D = some (if eOf (rbit (D (th + 1))) (8 * n) (D 2 3) t s l[j] = 0 then nI j else -(eOf (rbit (D (th + 1))) (8 * n) (D 2 3) t s l[j]), D)) ∧ (NoneAt (rbit (D (th + 1))) (8 * n) t s l i → P_X0_seek_17 N F th fu t s (nI l.length) (nI i) D = some (-20, D)) := by
  have hnb : n ≤ 1060 := h.2.1
  intro m
  induction m with
  | zero =>
    intro fu i hi hfu
    obtain ⟨fu, rfl⟩ : ∃ z, fu = z + 1 := ⟨fu - 1, by omega⟩
    refine ⟨fun j hj => ?_, fun _ => ?_⟩
    · obtain ⟨a, b, _⟩ := hj; omega
    · show (if nI l.length ≤ nI i then some (-20, D) else _) = _
      rw [if_pos (nI_le (by omega) (by omega))]
  | succ m ih =>
    intro fu i hi hfu
    obtain ⟨fu, rfl⟩ : ∃ z, fu = z + 1 := ⟨fu - 1, by omega⟩
    have hil : i < l.length := by omega
    obtain ⟨q1, q2⟩ := hl2 i hil
    have est : P_X5_startOf N F th (nI i) D = some (nI (l[i]), D) := by
      unfold P_X5_startOf
      rw [if_neg (nI_pos (by omega)), h3, if_neg (nI_ge (by omega) (by omega)), hN2, if_pos (in_nI (by omega) (by omega)), nI_clamp (by omega), q1]
    obtain ⟨he1, he2⟩ := headerError_eq (F := F) h q2 ht hs
    have unf : P_X0_seek_17 N F th (fu + 1) t s (nI l.length) (nI i) D = bi (P_X0_headerError N F th (nI (l[i])) t s D) (fun r3 D3 => if r3 = 20 then (P_X0_seek_17 N F th fu t s (nI l.length) (nI i + 1) D3) else (if r3 = 0 then (some (nI i, D3)) else (some (-r3, D3)))) := by
      show (if nI l.length ≤ nI i then some (-20, D) else (bi (P_X5_startOf N F th (nI i) D) (fun r2 D2 => bi (P_X0_headerError N F th r2 t s D2) (fun r3 D3 => if r3 = 20 then (P_X0_seek_17 N F th fu t s (nI l.length) (nI i + 1) D3) else (if r3 = 0 then (some (nI i, D3)) else (some (-r3, D3))))))) = _
      rw [if_neg (nI_ge (by omega) (by omega)), est, bi_s]
    rw [unf]
    rcases hOk_dec (rbit (D (th + 1))) (8 * n) t s l[i] with ho | ho
    · rw [he1 ho, bi_s]
      have n20 : ¬ eOf (rbit (D (th + 1))) (8 * n) (D 2 3) t s l[i] = 20 := by
        rcases eOf_ne (f := rbit (D (th + 1))) (L := 8 * n) (id := D 2 3) (t := t) (s := s) (p := l[i]) with q | q | q <;> rw [q] <;> decide
      rw [if_neg n20]
      refine ⟨fun j hj => ?_, fun hn => absurd ho (hn i hil (Nat.le_refl _))⟩
      obtain ⟨a, b, c, d⟩ := hj
      have : j = i := by
        rcases Nat.lt_or_ge i j with q | q
        · exact absurd ho (d i hil (Nat.le_refl _) q)
        · omega
      subst this
      refine ⟨hil, ?_⟩
      split <;> rfl
    · rw [he2 ho, bi_s, if_pos rfl, nI_1]
      obtain ⟨i1, i2⟩ := ih fu (i + 1) (by omega) (by omega)
      refine ⟨fun j hj => ?_, fun hn => i2 (fun k hk a => hn k hk (by omega))⟩
      obtain ⟨a, b, c, d⟩ := hj
      have hne : j ≠ i := fun q => by subst q; exact ho c
      exact i1 j ⟨by omega, b, c, fun k hk e f => d k hk (by omega) f⟩

/-- what the reference has of old: its tables -/
def MOk (N : Nat → Nat) (D : Mm) : Prop := N 1 = 124480 ∧ N 3 = 16 ∧ N 4 = 32 ∧ N 7 = 800 ∧ N 8 = 64 ∧ (∀ j, j < 32 → D 4 j = tHALVES j) ∧ (∀ j, j < 16 → D 3 j = tFIVES j)
theorem mdec {N : Nat → Nat} {F t a : Nat} {D : Mm} (hF : 100 ≤ F) (h1 : 1 ≤ t) (ht : t ≤ 16) (hm : MOk N D) (ha : a < 2 ^ 30) : P_X8_decoded N F (nI t) (nI a) D = some (cf (mbit (D 1) (stN t)) (8 * byN t) a, D) := decoded_eq hF h1 ht ha hm.1 hm.2.2.1 hm.2.2.2.2.2.1
theorem mh0 {N : Nat → Nat} {F n : Nat} {t s x x5 : Int32} {D : Mm} : P_X8_isHeaderOf_21 N F (n + 1) t s x 0 x5 D = some (0, D) := by
  show (if 6 ≤ x5 then (P_X8_isHeaderOf_61 N F t s x 0 D) else (if (0 : Int32) = 0 then (P_X8_isHeaderOf_61 N F t s x 0 D) else _)) = _
  have e : P_X8_isHeaderOf_61 N F t s x 0 D = some (0, D) := by
    unfold P_X8_isHeaderOf_61
    rw [if_pos rfl]
  split
  · exact e
  · rw [if_pos rfl, e]
theorem isHeaderOf_eq {N : Nat → Nat} {F t s p : Nat} {D : Mm} (hF : 100 ≤ F) (h1 : 1 ≤ t) (ht : t ≤ 16) (hm : MOk N D) (hp : p < 2 ^ 29) (hs : s < 2 ^ 31) : (hOk (mbit (D 1) (stN t)) (8 * byN t) (nI t) (nI s) p → P_X8_isHeaderOf N F (nI t) (nI s) (nI p) D = some (1, D)) ∧ (¬ hOk (mbit (D 1) (stN t)) (8 * byN t) (nI t) (nI s) p → P_X8_isHeaderOf N F (nI t) (nI s) (nI p) D = some (0, D)) := by
  obtain ⟨fu, rfl⟩ : ∃ fu, F = fu + 10 := ⟨F - 10, by omega⟩
  have st1 : ∀ (k n : Nat), k < 6 → 1 ≤ k → P_X8_isHeaderOf_21 N (fu + 10) (n + 1) (nI t) (nI s) (nI p) 1 (nI k) D = if cf (mbit (D 1) (stN t)) (8 * byN t) (p + 10 * k) = -1 then P_X8_isHeaderOf_21 N (fu + 10) n (nI t) (nI s) (nI p) 0 (nI (k + 1)) D else P_X8_isHeaderOf_21 N (fu + 10) n (nI t) (nI s) (nI p) 1 (nI (k + 1)) D := by
    intro k n hk hk1
    show (if (6 : Int32) ≤ nI k then _ else (if (1 : Int32) = 0 then _ else (bi (P_X8_decoded N (fu + 10) (nI t) (nI p + (10 * nI k)) D) (fun r8 D8 => if r8 < 0 then (P_X8_isHeaderOf_21 N (fu + 10) n (nI t) (nI s) (nI p) 0 (nI k + 1) D8) else (P_X8_isHeaderOf_21 N (fu + 10) n (nI t) (nI s) (nI p) 1 (nI k + 1) D8))))) = _
    have e1 : nI p + (10 * nI k) = nI (p + 10 * k) := by
      have : (10 : Int32) * nI k = nI (10 * k) := pk_mul 10 k
      rw [this, nI_add]
    rw [if_neg (show ¬ (6 : Int32) ≤ nI k from nI_ge (b := 6) (by omega) (by omega)), if_neg (by decide), e1, mdec hF h1 ht hm (by omega), bi_s, nI_1]
    by_cases c : cf (mbit (D 1) (stN t)) (8 * byN t) (p + 10 * k) = -1
    · rw [if_pos c, if_pos (cf_neg.mpr c)]
    · rw [if_neg c, if_neg (fun q => c (cf_neg.mp q))]
  have ends : ∀ n, P_X8_isHeaderOf_21 N (fu + 10) (n + 1) (nI t) (nI s) (nI p) 1 (nI 6) D = if cf (mbit (D 1) (stN t)) (8 * byN t) (p + 20) = nI s then (if cf (mbit (D 1) (stN t)) (8 * byN t) (p + 30) = nI t then some (1, D) else some (0, D)) else some (0, D) := by
    intro n
    show (if (6 : Int32) ≤ nI 6 then (P_X8_isHeaderOf_61 N (fu + 10) (nI t) (nI s) (nI p) 1 D) else _) = _
    rw [if_pos (by decide)]
    unfold P_X8_isHeaderOf_61
    have e2 : nI p + (20 : Int32) = nI (p + 20) := nI_add p 20
    have e3 : nI p + (30 : Int32) = nI (p + 30) := nI_add p 30
    rw [if_neg (by decide), e2, e3, mdec hF h1 ht hm (by omega), bi_s, mdec hF h1 ht hm (by omega), bi_s]
  have pos : ∀ x : Nat, x < 2 ^ 31 → ¬ nI x = -1 := by
    intro x hx q
    have : (nI x).toInt = (-1 : Int32).toInt := by rw [q]
    rw [nI_toInt hx] at this
    have e : (-1 : Int32).toInt = -1 := by decide
    omega
  unfold P_X8_isHeaderOf
  rw [mdec hF h1 ht hm (by omega), bi_s]
  have a1 := st1 1 (fu + 9) (by omega) (by omega)
  have a2 := st1 2 (fu + 8) (by omega) (by omega)
  have a3 := st1 3 (fu + 7) (by omega) (by omega)
  have a4 := st1 4 (fu + 6) (by omega) (by omega)
  have a5 := st1 5 (fu + 5) (by omega) (by omega)
  have a6 := ends (fu + 4)
  rw [mh0] at a1 a2 a3 a4 a5
  have a1 : P_X8_isHeaderOf_21 N (fu + 10) (fu + 10) (nI t) (nI s) (nI p) 1 1 D = _ := a1
  constructor
  · rintro ⟨b0, b2, b3, b1, b4, b5⟩
    rw [if_pos b0, a1, if_neg b1, a2, if_neg (by rw [b2]; exact pos s hs), a3, if_neg (by rw [b3]; exact pos t (by omega)), a4, if_neg b4, a5, if_neg b5, a6, if_pos b2, if_pos b3]
  · intro hno
    by_cases b0 : cf (mbit (D 1) (stN t)) (8 * byN t) p = 8
    · rw [if_pos b0, a1]
      split
      · rfl
      · rename_i b1
        rw [a2]
        split
        · rfl
        · rw [a3]
          split
          · rfl
          · rw [a4]
            split
            · rfl
            · rename_i b4
              rw [a5]
              split
              · rfl
              · rename_i b5
                rw [a6]
                split
                · rename_i b2
                  split
                  · rename_i b3
                    exact absurd ⟨b0, b2, b3, b1, b4, b5⟩ hno
                  · rfl
                · rfl
    · rw [if_neg b0]
      exact mh0
theorem MOk.up {N : Nat → Nat} {D : Mm} {c k : Nat} {v : Int32} (h : MOk N D) (h3 : c ≠ 3) (h4 : c ≠ 4) : MOk N (up2 D c k v) := by
  obtain ⟨a, b, c, d, e, f, g⟩ := h
  exact ⟨a, b, c, d, e, fun j hj => by rw [up2_o (fun q => h4 q.symm)]; exact f j hj, fun j hj => by rw [up2_o (fun q => h3 q.symm)]; exact g j hj⟩
theorem MOk.upA {N : Nat → Nat} {D : Mm} {c : Nat} {r : Nat → Int32} (h : MOk N D) (h3 : c ≠ 3) (h4 : c ≠ 4) : MOk N (upA D c r) := by
  obtain ⟨a, b, c, d, e, f, g⟩ := h
  exact ⟨a, b, c, d, e, fun j hj => by rw [upA_ne (fun q => h4 q.symm)]; exact f j hj, fun j hj => by rw [upA_ne (fun q => h3 q.symm)]; exact g j hj⟩
theorem mseek_go {N : Nat → Nat} {F t s : Nat} (hF : 100 ≤ F) (h1 : 1 ≤ t) (ht : t ≤ 16) (hs : s < 2 ^ 31) {l : List Nat} (hl : l.length < 800) : ∀ (m fu i : Nat) (D : Mm), i + m = l.length → m < fu → MOk N D → (∀ j (hj : j < l.length), D 7 j = nI (l[j]) ∧ l[j] < 2 ^ 29) → D 0 16 = nI l.length → D 0 17 = -1 → (∀ j, FirstAt (mbit (D 1) (stN t)) (8 * byN t) (nI t) (nI s) l i j → P_X8_seek_22 N F fu (nI t) (nI s) (nI i) D = P_X8_seek_67 N F (nI t) (nI s) (up2 D 0 17 (nI j))) ∧ (NoneAt (mbit (D 1) (stN t)) (8 * byN t) (nI t) (nI s) l i → P_X8_seek_22 N F fu (nI t) (nI s) (nI i) D = some (20, D)) := by
  intro m
  induction m with
  | zero =>
    intro fu i D hi hfu hm h7 h16 h17
    obtain ⟨fu, rfl⟩ : ∃ z, fu = z + 1 := ⟨fu - 1, by omega⟩
    refine ⟨fun j hj => ?_, fun _ => ?_⟩
    · obtain ⟨a, b, _⟩ := hj; omega
    · show (if D 0 16 ≤ nI i then (P_X8_seek_67 N F (nI t) (nI s) D) else _) = _
      rw [h16, if_pos (nI_le (by omega) (by omega))]
      unfold P_X8_seek_67
      rw [h17, if_neg (by decide)]
  | succ m ih =>
    intro fu i D hi hfu hm h7 h16 h17
    obtain ⟨fu, rfl⟩ : ∃ z, fu = z + 1 := ⟨fu - 1, by omega⟩
    have hil : i < l.length := by omega
    obtain ⟨q1, q2⟩ := h7 i hil
    have hN7 : N 7 = 800 := hm.2.2.2.1
    have unf : P_X8_seek_22 N F (fu + 1) (nI t) (nI s) (nI i) D = bi (P_X8_isHeaderOf N F (nI t) (nI s) (nI (l[i])) D) (fun r11 D11 => if r11 = 0 then (P_X8_seek_22 N F fu (nI t) (nI s) (nI i + 1) (up2 D11 0 17 (-1))) else (P_X8_seek_22 N F fu (nI t) (nI s) (nI i + 1) (up2 D11 0 17 (nI i)))) := by
      show (if D 0 16 ≤ nI i then (P_X8_seek_67 N F (nI t) (nI s) D) else (if 0 ≤ D 0 17 then (P_X8_seek_67 N F (nI t) (nI s) D) else (if inB (nI i) (N 7) = true then (bi (P_X8_isHeaderOf N F (nI t) (nI s) (D 7 (Int32.toNatClampNeg (nI i))) D) (fun r11 D11 => if r11 = 0 then (P_X8_seek_22 N F fu (nI t) (nI s) (nI i + 1) (up2 D11 0 17 (-1))) else (P_X8_seek_22 N F fu (nI t) (nI s) (nI i + 1) (up2 D11 0 17 (nI i))))) else none))) = _
      rw [h16, if_neg (nI_ge (by omega) (by omega)), h17, if_neg (by decide), hN7, if_pos (in_nI (by omega) (by omega)), nI_clamp (by omega), q1]
    rw [unf]
    obtain ⟨ho1, ho2⟩ := isHeaderOf_eq (F := F) (N := N) (D := D) hF h1 ht hm q2 hs
    rcases hOk_dec (mbit (D 1) (stN t)) (8 * byN t) (nI t) (nI s) l[i] with ho | ho
    · rw [ho1 ho, bi_s, if_neg (by decide), nI_1]
      refine ⟨fun j hj => ?_, fun hn => absurd ho (hn i hil (Nat.le_refl _))⟩
      obtain ⟨a, b, c, d⟩ := hj
      have : j = i := by
        rcases Nat.lt_or_ge i j with q | q
        · exact absurd ho (d i hil (Nat.le_refl _) q)
        · omega
      subst this
      obtain ⟨fu, rfl⟩ : ∃ z, fu = z + 1 := ⟨fu - 1, by omega⟩
      show (if (up2 D 0 17 (nI j)) 0 16 ≤ nI (j + 1) then (P_X8_seek_67 N F (nI t) (nI s) (up2 D 0 17 (nI j))) else (if 0 ≤ (up2 D 0 17 (nI j)) 0 17 then (P_X8_seek_67 N F (nI t) (nI s) (up2 D 0 17 (nI j))) else _)) = _
      split
      · rfl
      · rw [if_pos (by rw [up2_app, if_pos ⟨rfl, rfl⟩]; exact nI_pos' (by omega))]
    · rw [ho2 ho, bi_s, if_pos rfl, nI_1, up2_id h17]
      obtain ⟨i1, i2⟩ := ih fu (i + 1) D (by omega) (by omega) hm h7 h16 h17
      refine ⟨fun j hj => ?_, fun hn => i2 (fun k hk a => hn k hk (by omega))⟩
      obtain ⟨a, b, c, d⟩ := hj
      have hne : j ≠ i := fun q => by subst q; exact ho c
      exact i1 j ⟨by omega, b, c, fun k hk e f => d k hk (by omega) f⟩
theorem seek87_eq {N : Nat → Nat} {F t s p : Nat} {D : Mm} (hF : 100 ≤ F) (h1 : 1 ≤ t) (ht : t ≤ 16) (hm : MOk N D) (hp : p < 2 ^ 29) : P_X8_seek_87 N F (nI t) (nI s) (nI p) D = some (eOf (mbit (D 1) (stN t)) (8 * byN t) (D 0 4) (nI t) (nI s) p, D) := by
  unfold P_X8_seek_87
  have e1 : nI p + (10 : Int32) = nI (p + 10) := nI_add p 10
  have e4 : nI p + (40 : Int32) = nI (p + 40) := nI_add p 40
  have e5 : nI p + (50 : Int32) = nI (p + 50) := nI_add p 50
  rw [e1, e4, e5, mdec hF h1 ht hm (by omega), bi_s, mdec hF h1 ht hm (by omega), bi_s, mdec hF h1 ht hm (by omega), bi_s]
  unfold eOf
  split
  · split <;> rfl
  · rfl
