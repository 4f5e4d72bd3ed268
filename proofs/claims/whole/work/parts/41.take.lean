/-! TAKE: blocks taken for a file -/
theorem bit_one : ∀ i, i < 32 → bt 1 i = decide (i = 0) := by decide +kernel
theorem fr_sf {t s t' s' : Nat} {m : Nat → Int32} (hv : Vd t s) (hv' : Vd t' s') (hne : t ≠ t' ∨ s ≠ s') : fr (sf 0 t s m) t' s' = fr m t' s' := by
  obtain ⟨h1, ht, hs⟩ := hv
  obtain ⟨h1', ht', hs'⟩ := hv'
  have hn := secN_le t
  have hn' := secN_le t'
  unfold fr sf upd
  by_cases c : 2 * t' + s' / 8 = 2 * t + s / 8
  · rw [if_pos c, if_pos rfl, b_and, bt_not _ (by omega), b_shl (s % 8) (by omega) 1 (by omega), bit_one _ (by omega), c]
    have hd : ¬ (s % 8 ≤ s' % 8 ∧ s' % 8 - s % 8 = 0) := by omega
    by_cases d1 : s % 8 ≤ s' % 8
    · rw [decide_eq_true d1, decide_eq_false (fun q => hd ⟨d1, q⟩)]
      simp
    · rw [decide_eq_false d1]
      simp
  · rw [if_neg c]
def sfI (a b : Int32) (m : Nat → Int32) : Nat → Int32 := sf 0 a.toNatClampNeg b.toNatClampNeg m
theorem sfI_eq {t s : Nat} (m : Nat → Int32) (ht : t < 1000) (hs : s < 1000) : sfI (nI t) (nI s) m = sf 0 t s m := by unfold sfI; rw [nI_clamp (by omega), nI_clamp (by omega)]
/-- the map without the first n blocks of a chain -/
def clr (T S : Nat → Int32) : Nat → (Nat → Int32) → Nat → Int32
  | 0, m => m
  | n + 1, m => sfI (T n) (S n) (clr T S n m)
theorem clr_congr {T S T' S' : Nat → Int32} {m : Nat → Int32} : ∀ n, (∀ i, i < n → T i = T' i ∧ S i = S' i) → clr T S n m = clr T' S' n m
  | 0, _ => rfl
  | n + 1, h => by
    show sfI (T n) (S n) (clr T S n m) = sfI (T' n) (S' n) (clr T' S' n m)
    rw [clr_congr n (fun i hi => h i (by omega)), (h n (by omega)).1, (h n (by omega)).2]
def TkX (D D1 : Mm) : Prop := ∀ c, c ≠ 57 → c ≠ 61 → c ≠ 62 → c ≠ 63 → D1 c = D c
def TkM (E E1 : Mm) : Prop := (∀ c, c ≠ 0 → c ≠ 13 → c ≠ 14 → E1 c = E c) ∧ ∀ j, j ≠ 28 → E1 0 j = E 0 j
theorem TkX.refl (D : Mm) : TkX D D := fun _ _ _ _ _ => rfl
theorem TkM.refl (E : Mm) : TkM E E := ⟨fun _ _ _ _ => rfl, fun _ _ => rfl⟩
theorem TkX.trans {A B C : Mm} (h1 : TkX A B) (h2 : TkX B C) : TkX A C := fun c a b d e => (h2 c a b d e).trans (h1 c a b d e)
theorem TkM.trans {A B C : Mm} (h1 : TkM A B) (h2 : TkM B C) : TkM A C := ⟨fun c a b d => (h2.1 c a b d).trans (h1.1 c a b d), fun j a => (h2.2 j a).trans (h1.2 j a)⟩
def TkInv (need n : Nat) (B : Nat → Int32) (Q : Nat → Nat → Prop) (D E : Mm) : Prop := ChOk n D E ∧ n ≤ need ∧ (∀ j, j < 64 → D 57 j = clr (E 13) (E 14) n B j) ∧ ∀ t s, Vd t s → Q t s → fr (D 57) t s = fr (E 9) t s
theorem take_in {F t need : Nat} {B : Nat → Int32} {x5 xk : Int32} {Q : Nat → Prop} {k16 : Int32 → Int32 → Int32 → Mm → Rs} {k7 : Int32 → Int32 → Mm → Rs} (hneed : need ≤ 40) (h1 : 1 ≤ t) (ht : t ≤ 16) (h9 : t ≠ 9) (hQ : ¬ Q t) : ∀ (m s fx fm n : Nat) (D E : Mm), s + m = secN t → m < fx → m < fm → TkInv need n B (fun t' s' => (t' = t ∧ s ≤ s') ∨ Q t') D E → ∃ (n1 : Nat) (D1 E1 : Mm), P_X2_take_39 (gN XG) F k16 fx (nI need) 15 x5 (nI t) (nI (secN t)) (nI s) D = k16 (nI need) 15 (x5 + 1) D1 ∧ P_X8_takes_33 (gN MG) F k7 fm (nI need) xk (nI t) (nI s) E = k7 (nI need) (xk + 1) E1 ∧ TkInv need n1 B (fun t' _ => Q t') D1 E1 ∧ TkX D D1 ∧ TkM E E1 := by
  have hn := secN_le t
  have n13 : gN MG 13 = 40 := rfl
  have n14 : gN MG 14 = 40 := rfl
  have n62 : gN XG 62 = 40 := rfl
  have n63 : gN XG 63 = 40 := rfl
  have ne9 : ¬ nI t = 9 := fun q => by
    have a := (nI_leI (a := 9) (b := t) (by omega) (by omega)).mp (by rw [q]; decide)
    have b := (nI_leI (a := t) (b := 9) (by omega) (by omega)).mp (by rw [q]; decide)
    omega
  intro m
  induction m with
  | zero =>
    intro s fx fm n D E hs hfx hfm hI
    obtain ⟨fx, rfl⟩ : ∃ z, fx = z + 1 := ⟨fx - 1, by omega⟩
    obtain ⟨fm, rfl⟩ : ∃ z, fm = z + 1 := ⟨fm - 1, by omega⟩
    refine ⟨n, D, E, ?_, ?_, ⟨hI.1, hI.2.1, hI.2.2.1, fun t' s' v q => hI.2.2.2 t' s' v (Or.inr q)⟩, TkX.refl D, TkM.refl E⟩
    · show (if nI (secN t) ≤ nI s then _ else _) = _
      rw [if_pos (nI_le (by omega) (by omega))]
    · show bi (P_X8_sectorsOf (gN MG) F (nI t) E) _ = _
      rw [msectorsOf_eq E ht, bi_s, if_pos (nI_le (by omega) (by omega))]
  | succ m ih =>
    intro s fx fm n D E hs hfx hfm hI
    obtain ⟨fx, rfl⟩ : ∃ z, fx = z + 1 := ⟨fx - 1, by omega⟩
    obtain ⟨fm, rfl⟩ : ∃ z, fm = z + 1 := ⟨fm - 1, by omega⟩
    obtain ⟨hch, hle, hmap, hfu⟩ := id hI
    have hv : Vd t s := ⟨h1, ht, by omega⟩
    have ex : P_X2_take_39 (gN XG) F k16 (fx + 1) (nI need) 15 x5 (nI t) (nI (secN t)) (nI s) D = (if nI need ≤ nI n then (k16 (nI need) 15 (x5 + 1) D) else (if fr (D 57) t s then (bi (P_X2_addBlock (gN XG) F (nI t) (nI s) (upA D 57 (sf 0 t s (D 57)))) (fun r6 D6 => P_X2_take_39 (gN XG) F k16 fx (nI need) 15 x5 (nI t) (nI (secN t)) (nI (s + 1)) D6)) else P_X2_take_39 (gN XG) F k16 fx (nI need) 15 x5 (nI t) (nI (secN t)) (nI (s + 1)) D)) := by
      show (if nI (secN t) ≤ nI s then _ else (if nI need ≤ (D 61 4) then (k16 (nI need) 15 (x5 + 1) D) else (bi (P_X4_isFree (gN XG) F (nI t) (nI s) D) (fun r3 D3 => if r3 = 0 then (P_X2_take_39 (gN XG) F k16 fx (nI need) 15 x5 (nI t) (nI (secN t)) (nI s + 1) D3) else (bi (P_X4_setFree (gN XG) F (nI t) (nI s) 0 D3) (fun r5 D5 => bi (P_X2_addBlock (gN XG) F (nI t) (nI s) D5) (fun r6 D6 => P_X2_take_39 (gN XG) F k16 fx (nI need) 15 x5 (nI t) (nI (secN t)) (nI s + 1) D6))))))) = _
      rw [if_neg (nI_ge (by omega) (by omega)), hch.2.1, xfree_eq D hv, bi_s, nI_1]
      by_cases c : fr (D 57) t s = true
      · rw [if_pos c, if_pos c, if_neg (show ¬ ((1 : Int32) = 0) by decide), xset_eq D hv, bi_s]
      · rw [if_neg c, if_neg c, if_pos rfl]
    have em : P_X8_takes_33 (gN MG) F k7 (fm + 1) (nI need) xk (nI t) (nI s) E = (if nI need ≤ nI n then (k7 (nI need) (xk + 1) E) else (if fr (E 9) t s then (if inB (E 0 28) (gN MG 13) = true then (if inB ((up2 E 13 (Int32.toNatClampNeg (E 0 28)) (nI t)) 0 28) (gN MG 14) = true then (P_X8_takes_90 (gN MG) F k7 (fun x1 x2 x3 x4 D => P_X8_takes_33 (gN MG) F k7 fm x1 x2 x3 x4 D) (nI need) xk (nI t) (nI s) (up2 (up2 E 13 (Int32.toNatClampNeg (E 0 28)) (nI t)) 14 (Int32.toNatClampNeg ((up2 E 13 (Int32.toNatClampNeg (E 0 28)) (nI t)) 0 28)) (nI s))) else none) else none) else P_X8_takes_33 (gN MG) F k7 fm (nI need) xk (nI t) (nI (s + 1)) E)) := by
      show bi (P_X8_sectorsOf (gN MG) F (nI t) E) _ = _
      rw [msectorsOf_eq E ht, bi_s, if_neg (nI_ge (by omega) (by omega)), if_neg ne9, hch.2.2.1, mfree_eq E hv, bi_s, nI_1]
      by_cases c : fr (E 9) t s = true
      · rw [if_pos c, if_pos c, if_neg (show ¬ ((1 : Int32) = 0) by decide), hch.2.2.1]
      · rw [if_neg c, if_neg c, if_pos rfl]
    rw [ex, em]
    by_cases cn : need ≤ n
    · rw [if_pos (nI_le cn (by omega)), if_pos (nI_le cn (by omega))]
      exact ⟨n, D, E, rfl, rfl, ⟨hch, hle, hmap, fun t' s' v q => hfu t' s' v (Or.inr q)⟩, TkX.refl D, TkM.refl E⟩
    · rw [if_neg (nI_ge (by omega) (by omega)), if_neg (nI_ge (by omega) (by omega)), ← hfu t s hv (Or.inl ⟨rfl, Nat.le_refl s⟩)]
      by_cases c : fr (D 57) t s = true
      · rw [if_pos c, if_pos c]
        obtain ⟨D0, hD0⟩ : ∃ z, z = upA D 57 (sf 0 t s (D 57)) := ⟨_, rfl⟩
        rw [← hD0]
        have c61 : D0 61 4 = nI n := by rw [hD0, upA_ne (by decide)]; exact hch.2.1
        obtain ⟨D2, hD2⟩ : ∃ z, z = up2 (up2 (up2 D0 62 n (nI t)) 63 n (nI s)) 61 4 (nI (n + 1)) := ⟨_, rfl⟩
        obtain ⟨E2, hE2⟩ : ∃ z, z = up2 (up2 (up2 E 13 n (nI t)) 14 n (nI s)) 0 28 (nI (n + 1)) := ⟨_, rfl⟩
        have ea : P_X2_addBlock (gN XG) F (nI t) (nI s) D0 = some (0, D2) := by
          unfold P_X2_addBlock P_X2_addBlock_29
          have g1 : up2 D0 62 n (nI t) 61 4 = nI n := by rw [up2_o (by decide), c61]
          have g2 : up2 (up2 D0 62 n (nI t)) 63 n (nI s) 61 4 = nI n := by rw [up2_o (by decide), g1]
          rw [c61, if_neg (show ¬ (40 : Int32) ≤ nI n from nI_ge (b := 40) (by omega) (by omega)), n62, n63, nI_clamp (by omega), g1, if_pos (in_nI (by omega) (by omega)), if_pos (in_nI (by omega) (by omega)), nI_clamp (by omega), g2, nI_1, hD2]
        have g28 : up2 E 13 n (nI t) 0 28 = nI n := by rw [up2_o (by decide), hch.2.2.1]
        have g28b : up2 (up2 E 13 n (nI t)) 14 n (nI s) 0 28 = nI n := by rw [up2_o (by decide), g28]
        rw [ea, bi_s, hch.2.2.1, nI_clamp (by omega), g28, n13, n14, if_pos (in_nI (by omega) (by omega)), if_pos (in_nI (by omega) (by omega)), nI_clamp (by omega)]
        unfold P_X8_takes_90
        rw [g28b, nI_1, nI_1, ← hE2]
        have x2 : ∀ c, c ≠ 57 → c ≠ 61 → c ≠ 62 → c ≠ 63 → D2 c = D c := fun c a u v w => by rw [hD2, up2_o u, up2_o w, up2_o v, hD0, upA_ne a]
        have y2 : ∀ c, c ≠ 0 → c ≠ 13 → c ≠ 14 → E2 c = E c := fun c u v w => by rw [hE2, up2_o u, up2_o w, up2_o v]
        have y20 : ∀ j, j ≠ 28 → E2 0 j = E 0 j := fun j hj => by rw [hE2, up2_app, if_neg (by omega), up2_o (by decide), up2_o (by decide)]
        have d57 : D2 57 = sf 0 t s (D 57) := by rw [hD2, up2_o (by decide), up2_o (by decide), up2_o (by decide), hD0, upA_row]
        have a1 : ∀ j, D2 62 j = if j = n then nI t else D 62 j := fun j => by
          rw [hD2, up2_o (by decide), up2_o (by decide), up2_app, hD0, upA_ne (by decide)]
          by_cases c : j = n
          · rw [if_pos ⟨rfl, c⟩, if_pos c]
          · rw [if_neg (fun q => c q.2), if_neg c]
        have a2 : ∀ j, D2 63 j = if j = n then nI s else D 63 j := fun j => by
          rw [hD2, up2_o (by decide), up2_app, up2_o (by decide), hD0, upA_ne (by decide)]
          by_cases c : j = n
          · rw [if_pos ⟨rfl, c⟩, if_pos c]
          · rw [if_neg (fun q => c q.2), if_neg c]
        have a3 : ∀ j, E2 13 j = if j = n then nI t else E 13 j := fun j => by
          rw [hE2, up2_o (by decide), up2_o (by decide), up2_app]
          by_cases c : j = n
          · rw [if_pos ⟨rfl, c⟩, if_pos c]
          · rw [if_neg (fun q => c q.2), if_neg c]
        have a4 : ∀ j, E2 14 j = if j = n then nI s else E 14 j := fun j => by
          rw [hE2, up2_o (by decide), up2_app, up2_o (by decide)]
          by_cases c : j = n
          · rw [if_pos ⟨rfl, c⟩, if_pos c]
          · rw [if_neg (fun q => c q.2), if_neg c]
        have ch2 : ChOk (n + 1) D2 E2 := by
          refine ⟨by omega, by rw [hD2, up2_app, if_pos ⟨rfl, rfl⟩], by rw [hE2, up2_app, if_pos ⟨rfl, rfl⟩], fun j hj => ?_⟩
          rw [a1, a2, a3, a4]
          by_cases c : j = n
          · rw [if_pos c, if_pos c, if_pos c, if_pos c]
            exact ⟨t, s, hv, rfl, rfl, rfl, rfl⟩
          · rw [if_neg c, if_neg c, if_neg c, if_neg c]
            exact hch.2.2.2 j (by omega)
        have hI2 : TkInv need (n + 1) B (fun t' s' => (t' = t ∧ s + 1 ≤ s') ∨ Q t') D2 E2 := by
          refine ⟨ch2, by omega, fun j hj => ?_, fun t' s' v q => ?_⟩
          · show D2 57 j = sfI (E2 13 n) (E2 14 n) (clr (E2 13) (E2 14) n B) j
            rw [a3, a4, if_pos rfl, if_pos rfl, sfI_eq _ (by omega) (by omega), d57, clr_congr (T := E2 13) (S := E2 14) (T' := E 13) (S' := E 14) n (fun i hi => ⟨by rw [a3, if_neg (by omega)], by rw [a4, if_neg (by omega)]⟩)]
            exact sf_eq hv hmap j hj
          · rw [d57, y2 9 (by decide) (by decide) (by decide), fr_sf hv v (by
              rcases q with ⟨q1, q2⟩ | q
              · right; omega
              · left; intro z; rw [← z] at q; exact hQ q)]
            exact hfu t' s' v (by rcases q with ⟨q1, q2⟩ | q; exact Or.inl ⟨q1, by omega⟩; exact Or.inr q)
        obtain ⟨n1, D3, E3, w1, w2, w3, w4, w5⟩ := ih (s + 1) fx fm (n + 1) D2 E2 (by omega) (by omega) (by omega) hI2
        exact ⟨n1, D3, E3, w1, w2, w3, TkX.trans x2 w4, TkM.trans ⟨y2, y20⟩ w5⟩
      · rw [if_neg c, if_neg c]
        exact ih (s + 1) fx fm n D E (by omega) (by omega) (by omega) ⟨hch, hle, hmap, fun t' s' v q => hfu t' s' v (by rcases q with ⟨q1, q2⟩ | q; exact Or.inl ⟨q1, by omega⟩; exact Or.inr q)⟩
theorem fl_inj : ∀ j, j < 15 → ∀ i, i < 15 → j < i → ¬ fl i = fl j := by decide +kernel
theorem fl_n9 : ∀ j, j < 15 → fl j ≠ 9 := by decide +kernel
theorem fl_lo : ∀ k, k < 8 → fl k = 8 - k := by decide +kernel
theorem fl_hi : ∀ k, k < 15 → 8 ≤ k → fl k = k + 2 := by decide +kernel
def kOf (j : Nat) : Nat := if j ≤ 8 then j else j + 1
theorem take_out {F need : Nat} {B : Nat → Int32} (hF : 9000 ≤ F) (hneed : need ≤ 40) : ∀ (m j fx fm n : Nat) (D E : Mm), j + m = 15 → m < fx → 2 * m + 2 < fm → TkInv need n B (fun t' _ => ∃ i, j ≤ i ∧ i < 15 ∧ fl i = t') D E → ∃ (n1 : Nat) (r : Int32) (D1 E1 : Mm), P_X2_take_16 (gN XG) F fx (nI need) 15 (nI j) D = some (r, D1) ∧ P_X8_takes_7 (gN MG) F fm (nI need) (nI (kOf j)) E = some (r, E1) ∧ TkInv need n1 B (fun _ _ => False) D1 E1 ∧ TkX D D1 ∧ TkM E E1 ∧ ((r = 1 ∧ n1 = need) ∨ r = 0) := by
  intro m
  induction m with
  | zero =>
    intro j fx fm n D E hj hfx hfm hI
    obtain ⟨fx, rfl⟩ : ∃ z, fx = z + 1 := ⟨fx - 1, by omega⟩
    obtain ⟨fm, rfl⟩ : ∃ z, fm = z + 1 := ⟨fm - 1, by omega⟩
    have hj15 : j = 15 := by omega
    subst hj15
    obtain ⟨hch, hle, hmap, _⟩ := id hI
    have ex : P_X2_take_16 (gN XG) F (fx + 1) (nI need) 15 (nI 15) D = (if nI n = nI need then some (1, D) else some (0, D)) := by
      show (if (15 : Int32) ≤ nI 15 then (if (D 61 4) = nI need then (some (1, D)) else (some (0, D))) else _) = _
      rw [if_pos (by decide), hch.2.1]
    have em : P_X8_takes_7 (gN MG) F (fm + 1) (nI need) (nI (kOf 15)) E = (if nI n = nI need then some (1, E) else some (0, E)) := by
      show (if (16 : Int32) ≤ nI 16 then (if (E 0 28) = nI need then (some (1, E)) else (some (0, E))) else _) = _
      rw [if_pos (by decide), hch.2.2.1]
    rw [ex, em]
    by_cases c : n = need
    · rw [c, if_pos rfl, if_pos rfl]
      rw [c] at hch hmap
      exact ⟨need, 1, D, E, rfl, rfl, ⟨hch, Nat.le_refl _, hmap, fun _ _ _ q => q.elim⟩, TkX.refl D, TkM.refl E, Or.inl ⟨rfl, rfl⟩⟩
    · have hne : ¬ nI n = nI need := fun q => by
        have a := (nI_leI (a := n) (b := need) (by omega) (by omega)).mp (by rw [q]; exact nI_le (Nat.le_refl _) (by omega))
        have b := (nI_leI (a := need) (b := n) (by omega) (by omega)).mp (by rw [q]; exact nI_le (Nat.le_refl _) (by omega))
        omega
      rw [if_neg hne, if_neg hne]
      exact ⟨n, 0, D, E, rfl, rfl, ⟨hch, hle, hmap, fun _ _ _ q => q.elim⟩, TkX.refl D, TkM.refl E, Or.inr rfl⟩
  | succ m ih =>
    intro j fx fm n D E hj hfx hfm hI
    obtain ⟨fx, rfl⟩ : ∃ z, fx = z + 1 := ⟨fx - 1, by omega⟩
    obtain ⟨f1, f2, f3⟩ := fl_eq j (by omega)
    have hn := secN_le (fl j)
    have ex : P_X2_take_16 (gN XG) F (fx + 1) (nI need) 15 (nI j) D = P_X2_take_39 (gN XG) F (fun x2 x4 x5 D => P_X2_take_16 (gN XG) F fx x2 x4 x5 D) F (nI need) 15 (nI j) (nI (fl j)) (nI (secN (fl j))) (nI 0) D := by
      show (if (15 : Int32) ≤ nI j then _ else (if inB (nI j) 15 = true then (P_X2_take_29 (gN XG) F (fun x2 x4 x5 D => P_X2_take_16 (gN XG) F fx x2 x4 x5 D) (nI need) 15 (nI j) (tFILES (Int32.toNatClampNeg (nI j))) D) else none)) = _
      rw [if_neg (show ¬ (15 : Int32) ≤ nI j from nI_ge (b := 15) (by omega) (by omega)), if_pos (in_nI (by omega) (by omega)), nI_clamp (by omega), f1]
      unfold P_X2_take_29
      rw [xsectorsOf_eq D f2 f3, bi_s]
      rfl
    -- the reference's step, the directory's track passed over
    have em : ∃ fm', 2 * m + 2 < fm' ∧ fm' < fm ∧ ∃ k, kOf (j + 1) = k + 1 ∧ P_X8_takes_7 (gN MG) F fm (nI need) (nI (kOf j)) E = P_X8_takes_33 (gN MG) F (fun x1 x2 D => P_X8_takes_7 (gN MG) F fm' x1 x2 D) F (nI need) (nI k) (nI (fl j)) (nI 0) E := by
      obtain ⟨fm, rfl⟩ : ∃ z, fm = z + 1 := ⟨fm - 1, by omega⟩
      have s7 : ∀ f k, k < 16 → P_X8_takes_7 (gN MG) F (f + 1) (nI need) (nI k) E = (if 8 ≤ k then (P_X8_takes_33 (gN MG) F (fun x1 x2 D => P_X8_takes_7 (gN MG) F f x1 x2 D) F (nI need) (nI k) (nI (k + 1)) 0 E) else (P_X8_takes_33 (gN MG) F (fun x1 x2 D => P_X8_takes_7 (gN MG) F f x1 x2 D) F (nI need) (nI k) (8 - nI k) 0 E)) := by
        intro f k hk
        show (if (16 : Int32) ≤ nI k then _ else (if nI 8 ≤ nI k then (P_X8_takes_33 (gN MG) F (fun x1 x2 D => P_X8_takes_7 (gN MG) F f x1 x2 D) F (nI need) (nI k) (nI k + 1) 0 E) else (P_X8_takes_33 (gN MG) F (fun x1 x2 D => P_X8_takes_7 (gN MG) F f x1 x2 D) F (nI need) (nI k) (8 - nI k) 0 E))) = _
        rw [if_neg (show ¬ (16 : Int32) ≤ nI k from nI_ge (b := 16) (by omega) (by omega)), le_if (by omega) (by omega), nI_1]
      by_cases c : j < 8
      · refine ⟨fm, by omega, by omega, j, by unfold kOf; rw [if_pos (by omega)], ?_⟩
        rw [show kOf j = j by unfold kOf; rw [if_pos (by omega)], s7 fm j (by omega), if_neg (by omega), show (8 : Int32) - nI j = nI (8 - j) from pk_sub (a := 8) (by omega), fl_lo j c]
        rfl
      · obtain ⟨f, hf, e⟩ : ∃ f, (2 * m + 2 < f ∧ f < fm + 1) ∧ P_X8_takes_7 (gN MG) F (fm + 1) (nI need) (nI (kOf j)) E = P_X8_takes_7 (gN MG) F (f + 1) (nI need) (nI (j + 1)) E := by
          by_cases c8 : j = 8
          · subst c8
            obtain ⟨fm, rfl⟩ : ∃ z, fm = z + 1 := ⟨fm - 1, by omega⟩
            refine ⟨fm, by omega, ?_⟩
            rw [show kOf 8 = 8 from rfl, s7 (fm + 1) 8 (by omega), if_pos (by omega)]
            obtain ⟨g, hg⟩ : ∃ z, F = z + 1 := ⟨F - 1, by omega⟩
            have key : ∀ G, P_X8_takes_33 (gN MG) G (fun x1 x2 D => P_X8_takes_7 (gN MG) F (fm + 1) x1 x2 D) (g + 1) (nI need) (nI 8) (nI (8 + 1)) 0 E = P_X8_takes_7 (gN MG) F (fm + 1) (nI need) (nI (8 + 1)) E := by
              intro G
              show bi (P_X8_sectorsOf (gN MG) G (nI 9) E) _ = _
              rw [msectorsOf_eq E (by decide), bi_s, if_neg (by decide), if_pos (by decide), nI_1]
            have := key F
            rw [← hg] at this
            exact this
          · exact ⟨fm, by omega, by rw [show kOf j = j + 1 by unfold kOf; rw [if_neg (by omega)]]⟩
        refine ⟨f, hf.1, hf.2, j + 1, by unfold kOf; rw [if_neg (by omega)], ?_⟩
        rw [e, s7 f (j + 1) (by omega), if_pos (by omega), fl_hi j (by omega) (by omega)]
        rfl
    obtain ⟨fm', hf1, hf2, k, hk, em⟩ := em
    rw [ex, em]
    obtain ⟨n1, D1, E1, w1, w2, w3, w4, w5⟩ := take_in (F := F) (t := fl j) (need := need) (B := B) (x5 := nI j) (xk := nI k) (Q := fun t' => ∃ i, j + 1 ≤ i ∧ i < 15 ∧ fl i = t') (k16 := fun x2 x4 x5 D => P_X2_take_16 (gN XG) F fx x2 x4 x5 D) (k7 := fun x1 x2 D => P_X8_takes_7 (gN MG) F fm' x1 x2 D) hneed f2 f3 (fl_n9 j (by omega)) (fun ⟨i, a, b, c⟩ => fl_inj j (by omega) i b (by omega) c) (secN (fl j)) 0 F F n D E (by omega) (by omega) (by omega) ⟨hI.1, hI.2.1, hI.2.2.1, fun t' s' v q => hI.2.2.2 t' s' v (by
      rcases q with ⟨q1, q2⟩ | ⟨i, a, b, c⟩
      · exact ⟨j, Nat.le_refl j, by omega, q1.symm⟩
      · exact ⟨i, by omega, b, c⟩)⟩
    rw [w1, w2]
    obtain ⟨n2, r, D2, E2, v1, v2, v3, v4, v5, v6⟩ := ih (j + 1) fx fm' n1 D1 E1 (by omega) (by omega) (by omega) w3
    refine ⟨n2, r, D2, E2, ?_, ?_, v3, w4.trans v4, w5.trans v5, v6⟩
    · show P_X2_take_16 (gN XG) F fx (nI need) 15 (nI j + 1) D1 = _
      rw [nI_1]
      exact v1
    · show P_X8_takes_7 (gN MG) F fm' (nI need) (nI k + 1) E1 = _
      rw [nI_1, ← hk]
      exact v2
