/-! WRITE: bits written by both sides in lockstep -/
theorem Wr.append {f f1 f2 g1 g2 g : Nat → Bool} {L a m n : Nat} (hL : m + n ≤ L) (h1 : Wr f f1 L a m g1) (h2 : Wr f1 f2 L (a + m) n g2) (e1 : ∀ x, x < m → g x = g1 x) (e2 : ∀ x, x < n → g (m + x) = g2 x) : Wr f f2 L a (m + n) g := by
  by_cases hL0 : L = 0
  · have : m = 0 := by omega
    have : n = 0 := by omega
    subst_vars
    exact ⟨fun x hx => by omega, fun q hq _ => by omega⟩
  have hL0 : 0 < L := by omega
  have dj : ∀ x y, x < m → y < n → (a + x) % L ≠ (a + m + y) % L := by
    intro x y hx hy e
    have h : (a + m + y) % L = ((a + x) % L + (m + y - x)) % L := by rw [Nat.mod_add_mod]; congr 1; omega
    rw [h] at e
    have ha := Nat.mod_lt (a + x) hL0
    generalize (a + x) % L = z at *
    rcases Nat.lt_or_ge (z + (m + y - x)) L with c | c
    · rw [Nat.mod_eq_of_lt c] at e; omega
    · rw [Nat.mod_eq_sub_mod c, Nat.mod_eq_of_lt (by omega)] at e; omega
  refine ⟨fun x hx => ?_, fun q hq hne => ?_⟩
  · by_cases c : x < m
    · rw [h2.2 _ (Nat.mod_lt _ hL0) (fun y hy => dj x y c hy), h1.1 x c, e1 x c]
    · obtain ⟨y, rfl⟩ : ∃ y, x = m + y := ⟨x - m, by omega⟩
      rw [show a + (m + y) = a + m + y by omega, h2.1 y (by omega), e2 y (by omega)]
  · rw [h2.2 q hq (fun y hy => by rw [show a + m + y = a + (m + y) by omega]; exact hne (m + y) (by omega)), h1.2 q hq (fun x hx => hne x (by omega))]
theorem Wr.congr {f f1 g g2 : Nat → Bool} {L a w : Nat} (h : Wr f f1 L a w g) (e : ∀ x, x < w → g2 x = g x) : Wr f f1 L a w g2 := ⟨fun x hx => by rw [h.1 x hx, e x hx], h.2⟩
/-- ten bits of a byte in the code -/
def cdN (v : Int32) : Int32 := (tFIVES (Int32.toNatClampNeg ((v >>> (4 &&& 31)) &&& 15)) <<< (5 &&& 31)) ||| (tFIVES (Int32.toNatClampNeg (v &&& 15)))
def cb (v : Int32) (x : Nat) : Bool := bt (cdN v) (9 - x)
theorem and15 (v : Int32) : ∃ h, h < 16 ∧ v &&& 15 = nI h := pk_andE v 4 (by decide)
theorem cd_bits : ∀ h, h < 16 → ∀ l, l < 16 → ∀ x, x < 10 → bt ((tFIVES h <<< ((5 : Int32) &&& 31)) ||| tFIVES l) (9 - x) = if x < 5 then bt (tFIVES h) (4 - x) else bt (tFIVES l) (9 - x) := by decide +kernel
theorem mask8 : ∀ q, q < 32 → bt (((1 : Int32) <<< (nI 8 &&& 31)) - 1) q = decide (q < 8) := by decide +kernel
theorem mask10 : ∀ q, q < 32 → bt (((1 : Int32) <<< (nI 10 &&& 31)) - 1) q = decide (q < 10) := by decide +kernel
theorem mask16 : ∀ q, q < 32 → bt (((1 : Int32) <<< (nI 16 &&& 31)) - 1) q = decide (q < 16) := by decide +kernel
/-- an op of the class on a ring: w bits g from a on -/
def OpX (th n a w : Nat) (g : Nat → Bool) (D : Mm) (P : Rs) : Prop := ∃ r : Nat → Int32, P = some (0, up2 (upA D (th + 1) r) th 4 0) ∧ (∀ i, i < n → By (r i)) ∧ Wr (rbit (D (th + 1))) (rbit r) (8 * n) a w g
/-- an op of the reference on a track -/
def OpM (t a w : Nat) (g : Nat → Bool) (D : Mm) (P : Rs) : Prop := ∃ b : Nat → Int32, P = some (0, up2 (upA D 1 b) 0 30 (nI (a + w))) ∧ Wr (mbit (D 1) (stN t)) (mbit b (stN t)) (8 * byN t) a w g ∧ (∀ i, (i < stN t ∨ stN t + 8 * byN t ≤ i) → b i = D 1 i) ∧ (∀ i, b i = D 1 i ∨ b i = 0 ∨ b i = 1)
theorem ring_op {N : Nat → Nat} {th n : Nat} {D : Mm} {r : Nat → Int32} (h : RingOk N th n D) (hr : ∀ i, i < n → By (r i)) : RingOk N th n (up2 (upA D (th + 1) r) th 4 0) := by
  obtain ⟨a, b, c, d, e⟩ := h
  refine ⟨a, b, c, ?_, fun i hi => ?_⟩
  · rw [up2_app, if_neg (by omega), upA_ne (by omega)]; exact d
  · rw [up2_o (by omega), upA_row]; exact hr i hi
theorem opx_seq {N : Nat → Nat} {th n a w1 w2 : Nat} {g1 g2 g : Nat → Bool} {D : Mm} {P : Rs} {K : Mm → Rs} (hL : w1 + w2 ≤ 8 * n) (h : RingOk N th n D) (h1 : OpX th n a w1 g1 D P) (h2 : ∀ D1, RingOk N th n D1 → OpX th n (a + w1) w2 g2 D1 (K D1)) (e1 : ∀ x, x < w1 → g x = g1 x) (e2 : ∀ x, x < w2 → g (w1 + x) = g2 x) : OpX th n a (w1 + w2) g D (bi P (fun _ D1 => K D1)) := by
  obtain ⟨r, p1, p2, p3⟩ := h1
  obtain ⟨r2, q1, q2, q3⟩ := h2 _ (ring_op h p2)
  rw [p1, bi_s]
  have er : up2 (upA D (th + 1) r) th 4 0 (th + 1) = r := by rw [up2_o (by omega), upA_row]
  rw [er] at q3
  refine ⟨r2, ?_, q2, p3.append hL q3 e1 e2⟩
  rw [q1]
  congr 2
  funext c' k'
  rw [up2_app, up2_app]
  by_cases q : c' = th ∧ k' = 4
  · rw [if_pos q, if_pos q]
  · rw [if_neg q, if_neg q]
    by_cases q1 : c' = th + 1
    · subst q1; rw [upA_row, upA_row]
    · rw [upA_ne q1, upA_ne q1, up2_app, if_neg q, upA_ne q1]
theorem opm_seq {N : Nat → Nat} {t a w1 w2 : Nat} {g1 g2 g : Nat → Bool} {D : Mm} {P : Rs} {K : Mm → Rs} (hL : w1 + w2 ≤ 8 * byN t) (h : MOk N D) (h29 : D 0 29 = nI t) (h1 : OpM t a w1 g1 D P) (h2 : ∀ D1, MOk N D1 → D1 0 29 = nI t → D1 0 30 = nI (a + w1) → OpM t (a + w1) w2 g2 D1 (K D1)) (e1 : ∀ x, x < w1 → g x = g1 x) (e2 : ∀ x, x < w2 → g (w1 + x) = g2 x) : OpM t a (w1 + w2) g D (bi P (fun _ D1 => K D1)) := by
  obtain ⟨b, p1, p2, p3, p4⟩ := h1
  obtain ⟨b2, q1, q2, q3, q4⟩ := h2 (up2 (upA D 1 b) 0 30 (nI (a + w1))) ((h.upA (by decide) (by decide)).up (by decide) (by decide)) (by rw [up2_app, if_neg (by omega), upA_ne (by decide)]; exact h29) (by rw [up2_app, if_pos ⟨rfl, rfl⟩])
  rw [p1, bi_s]
  have er : up2 (upA D 1 b) 0 30 (nI (a + w1)) 1 = b := by rw [up2_o (by decide), upA_row]
  rw [er] at q2 q3 q4
  refine ⟨b2, ?_, p2.append hL q2 e1 e2, fun i hi => by rw [q3 i hi, p3 i hi], fun i => ?_⟩
  · rw [q1]
    congr 2
    rw [show a + w1 + w2 = a + (w1 + w2) by omega]
    funext c' k'
    rw [up2_app, up2_app]
    by_cases q : c' = 0 ∧ k' = 30
    · rw [if_pos q, if_pos q]
    · rw [if_neg q, if_neg q]
      by_cases q1 : c' = 1
      · subst q1; rw [upA_row, upA_row]
      · rw [upA_ne q1, upA_ne q1, up2_app, if_neg q, upA_ne q1]
  · rcases q4 i with c | c
    · rw [c]; exact p4 i
    · exact Or.inr c
theorem bi_end {P : Rs} : bi P (fun _ D1 => some (0, D1)) = P ∨ True := Or.inr trivial
theorem opx_end {th n a w : Nat} {g : Nat → Bool} {D : Mm} {P : Rs} (h : OpX th n a w g D P) : OpX th n a w g D (bi P (fun _ D1 => some (0, D1))) := by
  obtain ⟨r, p1, p2⟩ := h
  exact ⟨r, by rw [p1, bi_s], p2⟩
theorem opm_end {t a w : Nat} {g : Nat → Bool} {D : Mm} {P : Rs} (h : OpM t a w g D P) : OpM t a w g D (bi P (fun _ D1 => some (0, D1))) := by
  obtain ⟨r, p1, p2⟩ := h
  exact ⟨r, by rw [p1, bi_s], p2⟩
theorem putCoded_op {N : Nat → Nat} {F th n a : Nat} {v : Int32} {D : Mm} (h : RingOk N th n D) (ha : a < 2 ^ 30) : OpX th n a 10 (cb v) D (P_X5_putCoded N F th (nI a) v D) := by
  unfold P_X5_putCoded
  obtain ⟨hh, h16, eh⟩ := and15 (v >>> (4 &&& 31))
  obtain ⟨hl, l16, el⟩ := and15 v
  rw [show inB ((v >>> (4 &&& 31)) &&& 15) 16 = true by rw [eh]; exact in_nI h16 (by omega), if_pos rfl, show inB (v &&& 15) 16 = true by rw [el]; exact in_nI l16 (by omega), if_pos rfl]
  exact opx_end (putBits_eq (w := 10) h ha (by omega) (by omega) mask10)
theorem mputCoded_op {N : Nat → Nat} {F t a : Nat} {v : Int32} {D : Mm} (hF : 100 ≤ F) (h1 : 1 ≤ t) (ht : t ≤ 16) (h : MOk N D) (ha : a + 100 < 2 ^ 30) (h29 : D 0 29 = nI t) (h30 : D 0 30 = nI a) : OpM t a 10 (cb v) D (P_X8_putCoded N F v D) := by
  have hb := byN_le t
  unfold P_X8_putCoded
  obtain ⟨hh, h16, eh⟩ := and15 (v >>> (4 &&& 31))
  obtain ⟨hl, l16, el⟩ := and15 v
  have hN3 : N 3 = 16 := h.2.1
  rw [hN3, show inB ((v >>> (4 &&& 31)) &&& 15) 16 = true by rw [eh]; exact in_nI h16 (by omega), if_pos rfl, show inB (v &&& 15) 16 = true by rw [el]; exact in_nI l16 (by omega)]
  simp only [if_true]
  have key := cd_bits hh h16 hl l16
  have ecd : cdN v = (tFIVES hh <<< ((5 : Int32) &&& 31)) ||| tFIVES hl := by
    unfold cdN
    rw [eh, el, nI_clamp (by omega), nI_clamp (by omega)]
  rw [eh, el, nI_clamp (by omega), nI_clamp (by omega)]
  have hF3 : ∀ D1 : Mm, MOk N D1 → ∀ j, j < 16 → D1 3 j = tFIVES j := fun D1 q => q.2.2.2.2.2.2
  rw [hF3 D h hh h16]
  refine opm_seq (N := N) (w1 := 5) (w2 := 5) (g1 := fun x => bt (tFIVES hh) (5 - 1 - x)) (g2 := fun x => bt (tFIVES hl) (5 - 1 - x)) (K := fun D2 => bi (P_X8_putBits N F (D2 3 hl) 5 D2) (fun r4 D4 => some (0, D4))) (by omega) h h29 ?_ ?_ ?_ ?_
  · exact mputBits_eq (w := 5) hF h1 ht h.1 (by omega) (by omega) (by omega) h29 h30
  · intro D1 hM1 e29 e30
    show OpM t (a + 5) 5 _ D1 (bi (P_X8_putBits N F (D1 3 hl) 5 D1) (fun _ D4 => some (0, D4)))
    rw [hF3 D1 hM1 hl l16]
    exact opm_end (mputBits_eq (w := 5) hF h1 ht hM1.1 (by omega) (by omega) (by omega) e29 e30)
  · intro x hx
    unfold cb
    rw [ecd, key x (by omega), if_pos hx]
  · intro x hx
    unfold cb
    rw [ecd, key (5 + x) (by omega), if_neg (by omega)]
    congr 1
    omega
theorem ones8 : ∀ x, x < 8 → bt 255 (8 - 1 - x) = true := by decide +kernel
theorem putSync_go {N : Nat → Nat} {F th n a : Nat} (h3 : 3 ≤ n) (ha : a + 40 < 2 ^ 30) (hn : 5 ≤ n) : ∀ (m fu i : Nat) (D : Mm), i + (m + 1) = 5 → m + 1 < fu → RingOk N th n D → OpX th n (a + 8 * i) (8 * (m + 1)) (fun _ => true) D (P_X5_putSync_2 N F th fu (nI a) (nI i) D) := by
  have unf : ∀ (fu i : Nat) (D : Mm), i < 5 → P_X5_putSync_2 N F th (fu + 1) (nI a) (nI i) D = bi (P_X5_putBits N F th (nI (a + 8 * i)) 8 255 D) (fun _ D2 => P_X5_putSync_2 N F th fu (nI a) (nI (i + 1)) D2) := by
    intro fu i D hi
    show (if (5 : Int32) ≤ nI i then _ else (bi (P_X5_putBits N F th (nI a + (8 * nI i)) 8 255 D) (fun r2 D2 => P_X5_putSync_2 N F th fu (nI a) (nI i + 1) D2))) = _
    have e : nI a + (8 * nI i) = nI (a + 8 * i) := by
      have : (8 : Int32) * nI i = nI (8 * i) := pk_mul 8 i
      rw [this, nI_add]
    rw [if_neg (show ¬ (5 : Int32) ≤ nI i from nI_ge (b := 5) (by omega) (by omega)), e]
    simp only [nI_1]
  intro m
  induction m with
  | zero =>
    intro fu i D hi hfu hR
    have hi : i = 4 := by omega
    subst hi
    obtain ⟨fu, rfl⟩ : ∃ z, fu = z + 2 := ⟨fu - 2, by omega⟩
    rw [unf (fu + 1) 4 D (by omega)]
    have e5 : ∀ D2 : Mm, P_X5_putSync_2 N F th (fu + 1) (nI a) (nI (4 + 1)) D2 = some (0, D2) := by
      intro D2
      show (if (5 : Int32) ≤ nI 5 then some (0, D2) else _) = _
      rw [if_pos (by decide)]
    simp only [e5]
    obtain ⟨r, p1, p2, p3⟩ := putBits_eq (F := F) (w := 8) (v := 255) (a := a + 8 * 4) hR (by omega) (by omega) (by omega) mask8
    exact opx_end ⟨r, p1, p2, p3.congr (fun x hx => (ones8 x hx).symm)⟩
  | succ m ih =>
    intro fu i D hi hfu hR
    obtain ⟨fu, rfl⟩ : ∃ z, fu = z + 1 := ⟨fu - 1, by omega⟩
    rw [unf fu i D (by omega), show 8 * (m + 1 + 1) = 8 + 8 * (m + 1) by omega]
    obtain ⟨r, p1, p2, p3⟩ := putBits_eq (F := F) (w := 8) (v := 255) (a := a + 8 * i) hR (by omega) (by omega) (by omega) mask8
    refine opx_seq (N := N) (g1 := fun _ => true) (g2 := fun _ => true) (K := fun D2 => P_X5_putSync_2 N F th fu (nI a) (nI (i + 1)) D2) (by omega) hR ⟨r, p1, p2, p3.congr (fun x hx => (ones8 x hx).symm)⟩ (fun D1 hR1 => ?_) (fun _ _ => rfl) (fun _ _ => rfl)
    rw [show a + 8 * i + 8 = a + 8 * (i + 1) by omega]
    exact ih fu (i + 1) D1 (by omega) (by omega) hR1
theorem putSync_op {N : Nat → Nat} {F th n a : Nat} {D : Mm} (hF : 100 ≤ F) (hn : 5 ≤ n) (ha : a + 40 < 2 ^ 30) (h : RingOk N th n D) : OpX th n a 40 (fun _ => true) D (P_X5_putSync N F th (nI a) D) := by
  have := putSync_go (F := F) (a := a) h.1 ha hn 4 F 0 D rfl (by omega) h
  exact this
theorem ones32 : ∀ x, x < 32 → bt (-1) (32 - 1 - x) = true := by decide +kernel
theorem mputSync_op {N : Nat → Nat} {F t a : Nat} {D : Mm} (hF : 100 ≤ F) (h1 : 1 ≤ t) (ht : t ≤ 16) (h : MOk N D) (ha : a + 100 < 2 ^ 30) (h29 : D 0 29 = nI t) (h30 : D 0 30 = nI a) : OpM t a 40 (fun _ => true) D (P_X8_putSync N F D) := by
  have hb := byN_le t
  unfold P_X8_putSync
  refine opm_seq (N := N) (w1 := 8) (w2 := 32) (g1 := fun _ => true) (g2 := fun _ => true) (K := fun D1 => bi (P_X8_putBits N F (-1) 32 D1) (fun r2 D2 => some (0, D2))) (by omega) h h29 ?_ ?_ (fun _ _ => rfl) (fun _ _ => rfl)
  · obtain ⟨b, p1, p2, p3⟩ := mputBits_eq (F := F) (N := N) (w := 8) (v := 255) hF h1 ht h.1 (by omega) (by omega) (by omega) h29 h30
    exact ⟨b, p1, p2.congr (fun x hx => (ones8 x hx).symm), p3⟩
  · intro D1 hM1 e29 e30
    obtain ⟨b, p1, p2, p3⟩ := mputBits_eq (F := F) (N := N) (w := 32) (v := -1) hF h1 ht hM1.1 (by omega) (by omega) (by omega) e29 e30
    exact opm_end ⟨b, p1, p2.congr (fun x hx => (ones32 x hx).symm), p3⟩
/-- the two sides at the writing of track t, at bit a -/
def WS (t a : Nat) (Dx Dm : Mm) : Prop := TrX Dx ∧ TrB Dx Dm ∧ B01 Dm ∧ MOk (gN MG) Dm ∧ Dm 0 29 = nI t ∧ Dm 0 30 = nI a
/-- what writing leaves -/
def WX (t : Nat) (Dx D1 : Mm) : Prop := ∀ c, c ≠ 3 * t + 1 → c ≠ 3 * t + 2 → D1 c = Dx c
def WM (Dm D1 : Mm) : Prop := (∀ c, c ≠ 0 → c ≠ 1 → D1 c = Dm c) ∧ ∀ k, k ≠ 30 → D1 0 k = Dm 0 k
theorem WX.trans {t : Nat} {A B C : Mm} (h1 : WX t A B) (h2 : WX t B C) : WX t A C := fun c a b => (h2 c a b).trans (h1 c a b)
theorem WM.trans {A B C : Mm} (h1 : WM A B) (h2 : WM B C) : WM A C := ⟨fun c a b => (h2.1 c a b).trans (h1.1 c a b), fun k a => (h2.2 k a).trans (h1.2 k a)⟩
theorem stN_step : ∀ t u, 1 ≤ t → t ≤ 16 → 1 ≤ u → u ≤ 16 → t ≠ u → stN t + 8 * byN t ≤ stN u ∨ stN u + 8 * byN u ≤ stN t := by
  have : ∀ t, t < 17 → ∀ u, u < 17 → t = 0 ∨ u = 0 ∨ t = u ∨ stN t + 8 * byN t ≤ stN u ∨ stN u + 8 * byN u ≤ stN t := by decide +kernel
  intro t u a b c d e
  have := this t (by omega) u (by omega)
  omega
theorem wstep {t a w : Nat} {g : Nat → Bool} {Dx Dm : Mm} {P Q : Rs} (h1 : 1 ≤ t) (ht : t ≤ 16) (h : WS t a Dx Dm) (hx : OpX (3 * t + 1) (byN t) a w g Dx P) (hm : OpM t a w g Dm Q) : ∃ Dx1 Dm1 : Mm, P = some (0, Dx1) ∧ Q = some (0, Dm1) ∧ WS t (a + w) Dx1 Dm1 ∧ WX t Dx Dx1 ∧ WM Dm Dm1 := by
  obtain ⟨r, p1, p2, p3⟩ := hx
  obtain ⟨b, q1, q2, q3, q4⟩ := hm
  obtain ⟨hX, hB, h01, hM, h29, h30⟩ := h
  have wx : WX t Dx (up2 (upA Dx (3 * t + 1 + 1) r) (3 * t + 1) 4 0) := fun c ha hb => by rw [up2_o ha, upA_ne (by omega)]
  have wm : WM Dm (up2 (upA Dm 1 b) 0 30 (nI (a + w))) := ⟨fun c ha hb => by rw [up2_o ha, upA_ne hb], fun k ha => by rw [up2_app, if_neg (by omega), upA_ne (by decide)]⟩
  refine ⟨_, _, p1, q1, ⟨?_, ?_, ?_, (hM.upA (by decide) (by decide)).up (by decide) (by decide), (wm.2 29 (by decide)).trans h29, by rw [up2_app, if_pos ⟨rfl, rfl⟩]⟩, wx, wm⟩
  · intro v hv1 hv2
    obtain ⟨hR, hK⟩ := hX v hv1 hv2
    by_cases e : v = t
    · subst e
      refine ⟨ring_op hR p2, Or.inl (by rw [up2_app, if_pos ⟨rfl, rfl⟩]), fun q => ?_⟩
      rw [up2_app, if_pos ⟨rfl, rfl⟩] at q
      exact absurd q (by decide)
    · have o1 := wx (3 * v + 1) (by omega) (by omega)
      have o2 := wx (3 * v + 2) (by omega) (by omega)
      have o3 := wx (3 * v + 3) (by omega) (by omega)
      generalize up2 (upA Dx (3 * t + 1 + 1) r) (3 * t + 1) 4 0 = D1 at *
      refine ⟨⟨hR.1, hR.2.1, hR.2.2.1, by rw [o1]; exact hR.2.2.2.1, fun i hi => by show By (D1 (3 * v + 2) i); rw [o2]; exact hR.2.2.2.2 i hi⟩, ?_⟩
      unfold KnownOk at hK ⊢
      rw [o1]
      show _ ∧ (_ → Dx (3 * v + 1) 3 = nI (SY (rbit (D1 (3 * v + 2))) (8 * byN v)).length ∧ ∀ j (hj : j < (SY (rbit (D1 (3 * v + 2))) (8 * byN v)).length), D1 (3 * v + 3) j = nI ((SY (rbit (D1 (3 * v + 2))) (8 * byN v))[j]))
      simp only [o2, o3]
      exact hK
  · intro v hv1 hv2 q hq
    have em : up2 (upA Dm 1 b) 0 30 (nI (a + w)) 1 = b := by rw [up2_o (by decide), upA_row]
    rw [em]
    by_cases e : v = t
    · subst e
      have ex : up2 (upA Dx (3 * v + 1 + 1) r) (3 * v + 1) 4 0 (3 * v + 2) = r := by rw [up2_o (by omega), show 3 * v + 2 = 3 * v + 1 + 1 by omega, upA_row]
      rw [ex]
      exact p3.same q2 (hB v hv1 hv2) q hq
    · rw [wx (3 * v + 2) (by omega) (by omega), hB v hv1 hv2 q hq]
      unfold mbit
      rw [q3 (stN v + q) (by have := stN_step t v h1 ht hv1 hv2 (fun q => e q.symm); omega)]
  · intro i
    have em : up2 (upA Dm 1 b) 0 30 (nI (a + w)) 1 = b := by rw [up2_o (by decide), upA_row]
    rw [em]
    rcases q4 i with c | c
    · rw [c]; exact h01 i
    · exact c
