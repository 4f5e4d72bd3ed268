/-! FMT: what a format lays, bit by bit -/
def xo (r : Nat → Int32) : Nat → Int32
  | 0 => 0
  | n + 1 => xo r n ^^^ r n
theorem xo_congr {r r' : Nat → Int32} : ∀ n, (∀ j, j < n → r j = r' j) → xo r n = xo r' n
  | 0, _ => rfl
  | n + 1, h => by
    show xo r n ^^^ r n = xo r' n ^^^ r' n
    rw [xo_congr n (fun j hj => h j (by omega)), h n (by omega)]
def pdB (r : Nat → Int32) (x : Nat) : Bool := if x < 40 then true else if x < 50 then cb 7 (x - 40) else if x < 690 then cb (r ((x - 50) / 10)) ((x - 50) % 10) else if x < 700 then cb (xo r 64) (x - 690) else decide (x % 2 = 1)
theorem pdB_congr {r r' : Nat → Int32} (h : ∀ j, j < 64 → r j = r' j) (x : Nat) : pdB r x = pdB r' x := by
  unfold pdB
  rw [xo_congr 64 h]
  by_cases c1 : x < 40
  · rw [if_pos c1, if_pos c1]
  rw [if_neg c1, if_neg c1]
  by_cases c2 : x < 50
  · rw [if_pos c2, if_pos c2]
  rw [if_neg c2, if_neg c2]
  by_cases c3 : x < 690
  · rw [if_pos c3, if_pos c3, h _ (by omega)]
  · rw [if_neg c3, if_neg c3]
theorem pd_s {r : Nat → Int32} {x : Nat} (hx : x < 40) : pdB r x = true := by unfold pdB; rw [if_pos hx]
theorem pd_7 {r : Nat → Int32} {x : Nat} (hx : x < 10) : pdB r (40 + x) = cb 7 x := by
  unfold pdB
  rw [if_neg (by omega), if_pos (by omega), show 40 + x - 40 = x by omega]
theorem pd_a {r : Nat → Int32} {j x : Nat} (hj : j < 64) (hx : x < 10) : pdB r (50 + 10 * j + x) = cb (r j) x := by
  unfold pdB
  rw [if_neg (by omega), if_neg (by omega), if_pos (by omega), show (50 + 10 * j + x - 50) / 10 = j by omega, show (50 + 10 * j + x - 50) % 10 = x by omega]
theorem pd_b {r : Nat → Int32} {x : Nat} (hx : x < 10) : pdB r (690 + x) = cb (xo r 64) x := by
  unfold pdB
  rw [if_neg (by omega), if_neg (by omega), if_neg (by omega), if_pos (by omega), show 690 + x - 690 = x by omega]
theorem b85 : ∀ x, x < 8 → bt 85 (8 - 1 - x) = decide (x % 2 = 1) := by decide +kernel
theorem pd_c {r : Nat → Int32} {x : Nat} (hx : x < 8) : pdB r (700 + x) = bt 85 (8 - 1 - x) := by
  unfold pdB
  rw [if_neg (by omega), if_neg (by omega), if_neg (by omega), if_neg (by omega), b85 x hx, show (700 + x) % 2 = x % 2 by omega]
/-- a ring's bits written -/
def FX (th n a w : Nat) (g : Nat → Bool) (D D1 : Mm) : Prop := Wr (rbit (D (th + 1))) (rbit (D1 (th + 1))) (8 * n) a w g ∧ (∀ i, i < n → By (D1 (th + 1) i)) ∧ D1 th 4 = 0 ∧ (∀ k, k ≠ 4 → D1 th k = D th k) ∧ ∀ c, c ≠ th → c ≠ th + 1 → D1 c = D c
theorem OpX.fx {th n a w : Nat} {g : Nat → Bool} {D : Mm} {P : Rs} (h : OpX th n a w g D P) : ∃ D1, P = some (0, D1) ∧ FX th n a w g D D1 := by
  obtain ⟨r, p1, p2, p3⟩ := h
  have e : up2 (upA D (th + 1) r) th 4 0 (th + 1) = r := by rw [up2_o (by omega), upA_row]
  refine ⟨_, p1, by rw [e]; exact p3, by rw [e]; exact p2, by rw [up2_app, if_pos ⟨rfl, rfl⟩], fun k hk => by rw [up2_app, if_neg (fun q => hk q.2), upA_ne (by omega)], fun c a b => by rw [up2_o a, upA_ne b]⟩
theorem FX.ring {N : Nat → Nat} {th n a w : Nat} {g : Nat → Bool} {D D1 : Mm} (h : FX th n a w g D D1) (hr : RingOk N th n D) : RingOk N th n D1 := ⟨hr.1, hr.2.1, hr.2.2.1, by rw [h.2.2.2.1 1 (by decide)]; exact hr.2.2.2.1, h.2.1⟩
theorem FX.seq {th n a w1 w2 : Nat} {g g2 : Nat → Bool} {D D1 D2 : Mm} (hL : w1 + w2 ≤ 8 * n) (h1 : FX th n a w1 g D D1) (h2 : FX th n (a + w1) w2 g2 D1 D2) (e2 : ∀ x, x < w2 → g (w1 + x) = g2 x) : FX th n a (w1 + w2) g D D2 :=
  ⟨h1.1.append hL h2.1 (fun _ _ => rfl) e2, h2.2.1, h2.2.2.1, fun k hk => by rw [h2.2.2.2.1 k hk, h1.2.2.2.1 k hk], fun c a b => by rw [h2.2.2.2.2 c a b, h1.2.2.2.2 c a b]⟩
theorem FX.gc {th n a w : Nat} {g g2 : Nat → Bool} {D D1 : Mm} (h : FX th n a w g D D1) (e : ∀ x, x < w → g2 x = g x) : FX th n a w g2 D D1 := ⟨h.1.congr e, h.2⟩
theorem pd26_go {N : Nat → Nat} {F th n u b : Nat} {row : Nat → Int32} (hn : 89 ≤ n) (hb : b + 2000 < 2 ^ 30) (hu1 : u ≠ th) (hu2 : u ≠ th + 1) (hN : N u = 64) : ∀ (m fu i : Nat) (D : Mm), i + m = 64 → m < fu → RingOk N th n D → D u = row → ∃ D1, P_X5_putData_26 N F th u fu (nI (b + 40 + 10 * i)) (xo row i) (nI i) D = some (0, D1) ∧ FX th n (b + 50 + 10 * i) (10 * m + 18) (fun x => pdB row (50 + 10 * i + x)) D D1 := by
  intro m
  induction m with
  | zero =>
    intro fu i D hi hfu hr hd
    obtain ⟨fu, rfl⟩ : ∃ z, fu = z + 1 := ⟨fu - 1, by omega⟩
    have e : i = 64 := by omega
    subst e
    obtain ⟨D1, p1, p2⟩ := (putCoded_op (N := N) (F := F) (th := th) (n := n) (a := b + 690) (v := xo row 64) (D := D) hr (by omega)).fx
    have o85 : OpX th n (b + 700) 8 (fun x => bt 85 (8 - 1 - x)) D1 (P_X5_putBits N F th (nI (b + 700)) (nI 8) 85 D1) := putBits_eq (w := 8) (p2.ring hr) (by omega) (by omega) (by omega) mask8
    obtain ⟨D2, q1, q2⟩ := o85.fx
    refine ⟨D2, ?_, ?_⟩
    · show (if (64 : Int32) ≤ nI 64 then P_X5_putData_67 N F th u (nI (b + 40 + 10 * 64)) (xo row 64) D else _) = _
      rw [if_pos (by decide)]
      unfold P_X5_putData_67
      rw [show nI (b + 40 + 10 * 64) + (10 : Int32) = nI (b + 690) from nI_add _ 10, show nI (b + 40 + 10 * 64) + (20 : Int32) = nI (b + 700) from nI_add _ 20, p1, bi_s, show P_X5_putBits N F th (nI (b + 700)) 8 85 D1 = _ from q1, bi_s]
    · have p2' : FX th n (b + 690) 10 (fun x => pdB row (690 + x)) D D1 := p2.gc (fun x hx => pd_b hx)
      exact p2'.seq (w2 := 8) (by omega) q2 (fun x hx => by
        show pdB row (690 + (10 + x)) = _
        rw [show 690 + (10 + x) = 700 + x by omega]
        exact pd_c hx)
  | succ m ih =>
    intro fu i D hi hfu hr hd
    obtain ⟨fu, rfl⟩ : ∃ z, fu = z + 1 := ⟨fu - 1, by omega⟩
    obtain ⟨D1, p1, p2⟩ := (putCoded_op (N := N) (F := F) (th := th) (n := n) (a := b + 50 + 10 * i) (v := row i) (D := D) hr (by omega)).fx
    have du : D1 u = row := by rw [p2.2.2.2.2 u hu1 hu2]; exact hd
    obtain ⟨D2, q1, q2⟩ := ih fu (i + 1) D1 (by omega) (by omega) (p2.ring hr) du
    refine ⟨D2, ?_, ?_⟩
    · show (if (64 : Int32) ≤ nI i then _ else (if (nI (N u)) ≤ nI i then _ else (if inB (nI i) (N u) = true then (bi (P_X5_putCoded N F th (nI (b + 40 + 10 * i) + 10) (D u (Int32.toNatClampNeg (nI i))) D) (fun r6 D6 => if inB (nI i) (N u) = true then (P_X5_putData_61 N F th u (fun x3 x4 x5 D => P_X5_putData_26 N F th u fu x3 x4 x5 D) (nI (b + 40 + 10 * i) + 10) (xo row i ^^^ (D6 u (Int32.toNatClampNeg (nI i)))) (nI i) D6) else none)) else none))) = _
      rw [if_neg (show ¬ (64 : Int32) ≤ nI i from nI_ge (b := 64) (by omega) (by omega)), hN, if_neg (nI_ge (by omega) (by omega)), if_pos (in_nI (by omega) (by omega)), nI_clamp (by omega), show nI (b + 40 + 10 * i) + (10 : Int32) = nI (b + 50 + 10 * i) from by rw [show b + 50 + 10 * i = b + 40 + 10 * i + 10 by omega]; exact nI_add _ 10, hd, p1, bi_s, if_pos (in_nI (by omega) (by omega)), du]
      show P_X5_putData_26 N F th u fu (nI (b + 50 + 10 * i)) (xo row (i + 1)) (nI i + 1) D1 = _
      rw [nI_1, show b + 50 + 10 * i = b + 40 + 10 * (i + 1) by omega]
      exact q1
    · have p2' : FX th n (b + 50 + 10 * i) 10 (fun x => pdB row (50 + 10 * i + x)) D D1 := p2.gc (fun x hx => pd_a (by omega) hx)
      have q2' : FX th n (b + 50 + 10 * i + 10) (10 * m + 18) (fun x => pdB row (50 + 10 * (i + 1) + x)) D1 D2 := by rw [show b + 50 + 10 * i + 10 = b + 50 + 10 * (i + 1) by omega]; exact q2
      have := p2'.seq (w2 := 10 * m + 18) (by omega) q2' (fun x hx => by
        show pdB row (50 + 10 * i + (10 + x)) = pdB row (50 + 10 * (i + 1) + x)
        congr 1
        omega)
      rw [show 10 * (m + 1) + 18 = 10 + (10 * m + 18) by omega]
      exact this
theorem putData_fx {N : Nat → Nat} {F th n u a : Nat} {D : Mm} (hF : 100 ≤ F) (hn : 89 ≤ n) (ha : a + 3000 < 2 ^ 30) (hu1 : u ≠ th) (hu2 : u ≠ th + 1) (hN : N u = 64) (hr : RingOk N th n D) : ∃ D1, P_X5_putData N F th u (nI a) D = some (0, D1) ∧ FX th n (a + 108) 708 (pdB (D u)) D D1 := by
  obtain ⟨D1, p1, p2⟩ := (putSync_op (N := N) (F := F) (th := th) (n := n) (a := a + 108) (D := D) hF (by omega) (by omega) hr).fx
  obtain ⟨D2, q1, q2⟩ := (putCoded_op (N := N) (F := F) (th := th) (n := n) (a := a + 108 + 40) (v := 7) (D := D1) (p2.ring hr) (by omega)).fx
  have du : D2 u = D u := by rw [q2.2.2.2.2 u hu1 hu2, p2.2.2.2.2 u hu1 hu2]
  obtain ⟨D3, r1, r2⟩ := pd26_go (N := N) (F := F) (th := th) (n := n) (u := u) (b := a + 108) (row := D u) hn (by omega) hu1 hu2 hN 64 F 0 D2 (by decide) (by omega) (q2.ring (p2.ring hr)) du
  refine ⟨D3, ?_, ?_⟩
  · unfold P_X5_putData
    rw [show nI a + (108 : Int32) = nI (a + 108) from nI_add a 108, p1, bi_s, show nI (a + 108) + (40 : Int32) = nI (a + 108 + 40) from nI_add _ 40, q1, bi_s]
    exact r1
  · have p2' : FX th n (a + 108) 40 (pdB (D u)) D D1 := p2.gc (fun x hx => pd_s hx)
    have s1 := p2'.seq (w2 := 10) (by omega) q2 (fun x hx => pd_7 hx)
    exact s1.seq (w2 := 658) (by omega) r2 (fun x hx => rfl)
/-- the reference's bits of a track, the first w written -/
def FA (t w : Nat) (g : Nat → Bool) (E0 E : Mm) : Prop := (∀ x, x < w → mbit (E 1) (stN t) x = g x) ∧ (∀ i, (i < stN t ∨ stN t + 8 * byN t ≤ i) → E 1 i = E0 1 i) ∧ (∀ i, E 1 i = E0 1 i ∨ E 1 i = 0 ∨ E 1 i = 1) ∧ E 0 29 = nI t ∧ E 0 30 = nI w ∧ (∀ c, c ≠ 0 → c ≠ 1 → c ≠ 8 → E c = E0 c) ∧ ∀ k, k ≠ 29 → k ≠ 30 → E 0 k = E0 0 k
theorem fa_op {t w w2 : Nat} {g g2 : Nat → Bool} {E0 E : Mm} {P : Rs} (h : FA t w g E0 E) (ho : OpM t w w2 g2 E P) (hL : w + w2 ≤ 8 * byN t) (e2 : ∀ x, x < w2 → g (w + x) = g2 x) : ∃ E1, P = some (0, E1) ∧ FA t (w + w2) g E0 E1 ∧ E1 8 = E 8 := by
  obtain ⟨b, p1, p2, p3, p4⟩ := ho
  have o1 : up2 (upA E 1 b) 0 30 (nI (w + w2)) 1 = b := by rw [up2_o (by decide), upA_row]
  have oc : ∀ c, c ≠ 0 → c ≠ 1 → up2 (upA E 1 b) 0 30 (nI (w + w2)) c = E c := fun c a d => by rw [up2_o a, upA_ne d]
  have o0 : ∀ k, k ≠ 30 → up2 (upA E 1 b) 0 30 (nI (w + w2)) 0 k = E 0 k := fun k hk => by rw [up2_app, if_neg (fun q => hk q.2), upA_ne (by decide)]
  obtain ⟨h1, h2, h3, h4, h5, h6, h7⟩ := h
  refine ⟨_, p1, ⟨?_, ?_, ?_, ?_, ?_, ?_, ?_⟩, oc 8 (by decide) (by decide)⟩
  · intro x hx
    rw [o1]
    by_cases c : x < w
    · rw [p2.2 x (by omega) (fun y hy => by rw [Nat.mod_eq_of_lt (by omega)]; omega)]
      exact h1 x c
    · have := p2.1 (x - w) (by omega)
      rw [Nat.mod_eq_of_lt (by omega), show w + (x - w) = x by omega] at this
      rw [this, ← e2 (x - w) (by omega), show w + (x - w) = x by omega]
  · intro i hi
    rw [o1, p3 i hi, h2 i hi]
  · intro i
    rw [o1]
    rcases p4 i with q | q
    · rw [q]; exact h3 i
    · exact Or.inr q
  · rw [o0 29 (by decide)]; exact h4
  · rw [up2_app, if_pos ⟨rfl, rfl⟩]
  · intro c a d e
    rw [oc c a d, h6 c a d e]
  · intro k a d
    rw [o0 k d, h7 k a d]
theorem FA.mok {t w : Nat} {g : Nat → Bool} {E0 E : Mm} (h : FA t w g E0 E) (hm : MOk (gN MG) E0) : MOk (gN MG) E := by
  obtain ⟨m1, m2, m3, m4, m5, m6, m7⟩ := hm
  exact ⟨m1, m2, m3, m4, m5, by rw [h.2.2.2.2.2.1 4 (by decide) (by decide) (by decide)]; exact m6, by rw [h.2.2.2.2.2.1 3 (by decide) (by decide) (by decide)]; exact m7⟩
theorem FA.blk {t w : Nat} {g : Nat → Bool} {E0 E : Mm} {r : Nat → Int32} (h : FA t w g E0 E) : FA t w g E0 (upA E 8 r) := by
  obtain ⟨h1, h2, h3, h4, h5, h6, h7⟩ := h
  have o1 : upA E 8 r 1 = E 1 := upA_ne (by decide)
  have o0 : upA E 8 r 0 = E 0 := upA_ne (by decide)
  exact ⟨by rw [o1]; exact h1, by rw [o1]; exact h2, by rw [o1]; exact h3, by rw [o0]; exact h4, by rw [o0]; exact h5, fun c a b d => by rw [upA_ne d]; exact h6 c a b d, by rw [o0]; exact h7⟩
theorem fa_85 {F t w : Nat} {g : Nat → Bool} {E0 E : Mm} (hF : 100 ≤ F) (h1 : 1 ≤ t) (ht : t ≤ 16) (h : FA t w g E0 E) (hL : w + 8 ≤ 8 * byN t) (e2 : ∀ x, x < 8 → g (w + x) = decide (x % 2 = 1)) : ∃ E1, P_X8_putBits (gN MG) F 85 8 E = some (0, E1) ∧ FA t (w + 8) g E0 E1 ∧ E1 8 = E 8 := by
  have hb := byN_le t
  have ho : OpM t w 8 (fun x => bt 85 (8 - 1 - x)) E (P_X8_putBits (gN MG) F 85 (nI 8) E) := mputBits_eq (w := 8) hF h1 ht rfl (by omega) (by omega) (by omega) h.2.2.2.1 h.2.2.2.2.1
  exact fa_op h ho hL (fun x hx => by rw [e2 x hx, b85 x hx])
theorem fa_cd {F t w : Nat} {v : Int32} {g : Nat → Bool} {E0 E : Mm} (hF : 100 ≤ F) (h1 : 1 ≤ t) (ht : t ≤ 16) (hm : MOk (gN MG) E0) (h : FA t w g E0 E) (hL : w + 10 ≤ 8 * byN t) (e2 : ∀ x, x < 10 → g (w + x) = cb v x) : ∃ E1, P_X8_putCoded (gN MG) F v E = some (0, E1) ∧ FA t (w + 10) g E0 E1 ∧ E1 8 = E 8 := by
  have hb := byN_le t
  exact fa_op h (mputCoded_op (F := F) (v := v) hF h1 ht (h.mok hm) (by omega) h.2.2.2.1 h.2.2.2.2.1) hL e2
theorem fa_sy {F t w : Nat} {g : Nat → Bool} {E0 E : Mm} (hF : 100 ≤ F) (h1 : 1 ≤ t) (ht : t ≤ 16) (hm : MOk (gN MG) E0) (h : FA t w g E0 E) (hL : w + 40 ≤ 8 * byN t) (e2 : ∀ x, x < 40 → g (w + x) = true) : ∃ E1, P_X8_putSync (gN MG) F E = some (0, E1) ∧ FA t (w + 40) g E0 E1 ∧ E1 8 = E 8 := by
  have hb := byN_le t
  exact fa_op h (mputSync_op (F := F) hF h1 ht (h.mok hm) (by omega) h.2.2.2.1 h.2.2.2.2.1) hL e2
theorem d14_go {F t b : Nat} {g : Nat → Bool} {E0 : Mm} {row : Nat → Int32} (hF : 100 ≤ F) (h1 : 1 ≤ t) (ht : t ≤ 16) (hm : MOk (gN MG) E0) (hL : b + 700 ≤ 8 * byN t) (hg : ∀ x, x < 700 → g (b + x) = pdB row x) : ∀ (m fu i : Nat) (E : Mm), i + m = 64 → m < fu → FA t (b + 50 + 10 * i) g E0 E → E 8 = row → ∃ E1, P_X8_putData_14 (gN MG) F fu (xo row i) (nI i) E = some (0, E1) ∧ FA t (b + 700) g E0 E1 := by
  have n8 : gN MG 8 = 64 := rfl
  intro m
  induction m with
  | zero =>
    intro fu i E hi hfu h hd
    obtain ⟨fu, rfl⟩ : ∃ z, fu = z + 1 := ⟨fu - 1, by omega⟩
    have e : i = 64 := by omega
    subst e
    obtain ⟨E1, p1, p2, _⟩ := fa_cd (F := F) (v := xo row 64) hF h1 ht hm h (by omega) (fun x hx => by
      rw [show b + 50 + 10 * 64 + x = b + (690 + x) by omega, hg _ (by omega), pd_b hx])
    refine ⟨E1, ?_, p2⟩
    show (if (64 : Int32) ≤ nI 64 then (bi (P_X8_putCoded (gN MG) F (xo row 64) E) (fun r2 D2 => some (0, D2))) else _) = _
    rw [if_pos (by decide), p1, bi_s]
  | succ m ih =>
    intro fu i E hi hfu h hd
    obtain ⟨fu, rfl⟩ : ∃ z, fu = z + 1 := ⟨fu - 1, by omega⟩
    obtain ⟨E1, p1, p2, p3⟩ := fa_cd (F := F) (v := row i) hF h1 ht hm h (by omega) (fun x hx => by
      rw [show b + 50 + 10 * i + x = b + (50 + 10 * i + x) by omega, hg _ (by omega), pd_a (by omega) hx])
    obtain ⟨E2, q1, q2⟩ := ih fu (i + 1) E1 (by omega) (by omega) (by rw [show b + 50 + 10 * (i + 1) = b + 50 + 10 * i + 10 by omega]; exact p2) (by rw [p3]; exact hd)
    refine ⟨E2, ?_, q2⟩
    show (if (64 : Int32) ≤ nI i then _ else (if inB (nI i) (gN MG 8) = true then (bi (P_X8_putCoded (gN MG) F (E 8 (Int32.toNatClampNeg (nI i))) E) (fun r4 D4 => if inB (nI i) (gN MG 8) = true then (P_X8_putData_39 (gN MG) F (fun x1 x2 D => P_X8_putData_14 (gN MG) F fu x1 x2 D) (xo row i ^^^ (D4 8 (Int32.toNatClampNeg (nI i)))) (nI i) D4) else none)) else none)) = _
    rw [if_neg (show ¬ (64 : Int32) ≤ nI i from nI_ge (b := 64) (by omega) (by omega)), n8, if_pos (in_nI (by omega) (by omega)), nI_clamp (by omega), hd, p1, bi_s, if_pos (in_nI (by omega) (by omega)), p3, hd]
    show P_X8_putData_14 (gN MG) F fu (xo row (i + 1)) (nI i + 1) E1 = _
    rw [nI_1]
    exact q1
theorem fa_data {F t b : Nat} {g : Nat → Bool} {E0 E : Mm} {row : Nat → Int32} (hF : 100 ≤ F) (h1 : 1 ≤ t) (ht : t ≤ 16) (hm : MOk (gN MG) E0) (h : FA t b g E0 E) (hd : E 8 = row) (hL : b + 700 ≤ 8 * byN t) (hg : ∀ x, x < 700 → g (b + x) = pdB row x) : ∃ E1, P_X8_putData (gN MG) F E = some (0, E1) ∧ FA t (b + 700) g E0 E1 := by
  obtain ⟨E1, p1, p2, p3⟩ := fa_sy (F := F) hF h1 ht hm h (by omega) (fun x hx => by rw [hg x (by omega), pd_s hx])
  obtain ⟨E2, q1, q2, q3⟩ := fa_cd (F := F) (v := 7) hF h1 ht hm p2 (by omega) (fun x hx => by rw [show b + 40 + x = b + (40 + x) by omega, hg _ (by omega), pd_7 hx])
  obtain ⟨E3, r1, r2⟩ := d14_go (F := F) (b := b) hF h1 ht hm hL hg 64 F 0 E2 (by decide) (by omega) q2 (by rw [q3, p3, hd])
  refine ⟨E3, ?_, r2⟩
  unfold P_X8_putData
  rw [p1, bi_s, q1, bi_s]
  exact r1
/-- a sector's bits, a track's bits -/
def hV (h l : Int32) (t s k : Nat) : Int32 := if k = 0 then 8 else if k = 1 then ((nI s ^^^ nI t) ^^^ h) ^^^ l else if k = 2 then nI s else if k = 3 then nI t else if k = 4 then h else l
def secB (h l : Int32) (t s : Nat) (row : Nat → Int32) (o : Nat) : Bool := if o < 40 then true else if o < 100 then cb (hV h l t s ((o - 40) / 10)) ((o - 40) % 10) else if o < 148 then decide (o % 2 = 1) else if o < 848 then pdB row (o - 148) else decide (o % 2 = 1)
def rowOf (t s : Nat) (mp : Nat → Int32) : Nat → Int32 := if t = 9 ∧ s = 0 then mp else fun _ => 0
def trB (h l : Int32) (t : Nat) (mp : Nat → Int32) (i : Nat) : Bool := if i < 912 * secN t then secB h l t (i / 912) (rowOf t (i / 912) mp) (i % 912) else decide (i % 2 = 1)
theorem trB_sec {h l : Int32} {t s o : Nat} {mp : Nat → Int32} (hs : s < secN t) (ho : o < 912) : trB h l t mp (912 * s + o) = secB h l t s (rowOf t s mp) o := by
  unfold trB
  have : 912 * (s + 1) ≤ 912 * secN t := Nat.mul_le_mul_left 912 hs
  rw [if_pos (by omega), show (912 * s + o) / 912 = s by omega, show (912 * s + o) % 912 = o by omega]
theorem trB_gap {h l : Int32} {t i : Nat} {mp : Nat → Int32} (hi : 912 * secN t ≤ i) : trB h l t mp i = decide (i % 2 = 1) := by
  unfold trB
  rw [if_neg (by omega)]
theorem sec_s {h l : Int32} {t s o : Nat} {row : Nat → Int32} (ho : o < 40) : secB h l t s row o = true := by unfold secB; rw [if_pos ho]
theorem sec_h {h l : Int32} {t s k x : Nat} {row : Nat → Int32} (hk : k < 6) (hx : x < 10) : secB h l t s row (40 + 10 * k + x) = cb (hV h l t s k) x := by
  unfold secB
  rw [if_neg (by omega), if_pos (by omega), show (40 + 10 * k + x - 40) / 10 = k by omega, show (40 + 10 * k + x - 40) % 10 = x by omega]
theorem sec_g {h l : Int32} {t s o : Nat} {row : Nat → Int32} (ho : 100 ≤ o) (ho2 : o < 148) : secB h l t s row o = decide (o % 2 = 1) := by
  unfold secB
  rw [if_neg (by omega), if_neg (by omega), if_pos ho2]
theorem sec_d {h l : Int32} {t s x : Nat} {row : Nat → Int32} (hx : x < 700) : secB h l t s row (148 + x) = pdB row x := by
  unfold secB
  rw [if_neg (by omega), if_neg (by omega), if_neg (by omega), if_pos (by omega), show 148 + x - 148 = x by omega]
theorem sec_e {h l : Int32} {t s o : Nat} {row : Nat → Int32} (ho : 848 ≤ o) : secB h l t s row o = decide (o % 2 = 1) := by
  unfold secB
  rw [if_neg (by omega), if_neg (by omega), if_neg (by omega), if_neg (by omega)]
theorem xo_0 : xo (fun _ => 0) 64 = 0 := by decide +kernel
theorem smp_sec {h l : Int32} {t s o : Nat} (ho : o < 40 ∨ 100 ≤ o) : smpB o = secB h l t s (fun _ => 0) o := by
  unfold smpB
  by_cases c1 : o < 40
  · rw [if_pos c1, sec_s c1]
  rw [if_neg c1]
  by_cases c2 : o < 148
  · rw [if_pos c2, sec_g (by omega) c2]
  rw [if_neg c2]
  by_cases c3 : o < 848
  · have := sec_d (h := h) (l := l) (t := t) (s := s) (x := o - 148) (row := fun _ => 0) (by omega)
    rw [show 148 + (o - 148) = o by omega] at this
    rw [this]
    unfold pdB
    rw [xo_0]
    by_cases d1 : o < 188
    · rw [if_pos d1, if_pos (by omega)]
    rw [if_neg d1, if_pos c3, if_neg (show ¬ o - 148 < 40 by omega)]
    by_cases d2 : o < 198
    · rw [if_pos d2, if_pos (by omega), show (o - 188) % 10 = o - 148 - 40 by omega]
    rw [if_neg d2, if_neg (show ¬ o - 148 < 50 by omega)]
    by_cases d3 : o - 148 < 690
    · rw [if_pos d3, show (o - 148 - 50) % 10 = (o - 188) % 10 by omega]
    · rw [if_neg d3, if_pos (by omega), show o - 148 - 690 = (o - 188) % 10 by omega]
  · rw [if_neg (by omega), if_neg c3, sec_e (by omega)]
