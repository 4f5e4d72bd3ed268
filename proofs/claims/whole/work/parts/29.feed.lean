/-! FEED, READ, WRITE: the tape and the output -/
theorem by_and {v : Int32} (h : By v) : v &&& 255 = v := by
  apply b_ext
  intro i hi
  rw [b_and, b_255]
  by_cases c : i < 8
  · rw [decide_eq_true c, Bool.and_true]
  · rw [decide_eq_false c, Bool.and_false, h i (by omega)]
theorem ush_byte (n : Nat) (hn : n ≤ 24) (x : Int32) : jush x (nI n) &&& 255 = (x >>> (nI n &&& 31)) &&& 255 := by
  apply b_ext
  intro i hi
  rw [b_and, b_and, b_255]
  by_cases c : i < 8
  · rw [decide_eq_true c, Bool.and_true, Bool.and_true]
    have e : bt (jush x (nI n)) i = bt x (n + i) := b_ushr n (by omega) x i
    rw [e, b_sshr n (by omega) x hi, if_pos (by omega)]
  · rw [decide_eq_false c, Bool.and_false, Bool.and_false]
theorem add_eq {N : Nat → Nat} {F th k : Nat} {v : Int32} {D : Mm} (hN : N (th + 1) = 2480) (h : D th 1 = nI k) (hk : k < 2480) : P_X1_add N F th v D = some (0, up2 (up2 D (th + 1) k (v &&& 255)) th 1 (nI (k + 1))) := by
  unfold P_X1_add
  rw [hN, h, if_neg (nI_ge hk (by omega)), if_pos (in_nI (by omega) (by omega)), nI_clamp (by omega), up2_app, if_neg (by omega), h, nI_1]
/-- the tape, k bytes long -/
def TpK (k : Nat) (Dx Dm : Mm) : Prop := Dx 65 1 = nI k ∧ Dm 0 6 = nI k ∧ ∀ i, i < k → Dx 66 i = Dm 5 i ∧ By (Dx 66 i)
theorem TpK.add {k : Nat} {Dx Dm : Mm} {v : Int32} (h : TpK k Dx Dm) (hv : By v) : TpK (k + 1) (up2 (up2 Dx 66 k v) 65 1 (nI (k + 1))) (up2 (up2 Dm 5 k v) 0 6 (nI (k + 1))) := by
  obtain ⟨h1, h2, h3⟩ := h
  refine ⟨by rw [up2_app, if_pos ⟨rfl, rfl⟩], by rw [up2_app, if_pos ⟨rfl, rfl⟩], fun i hi => ?_⟩
  rw [show up2 (up2 Dx 66 k v) 65 1 (nI (k + 1)) 66 = up2 Dx 66 k v 66 from up2_o (by decide), show up2 (up2 Dm 5 k v) 0 6 (nI (k + 1)) 5 = up2 Dm 5 k v 5 from up2_o (by decide), up2_app, up2_app]
  by_cases e : i = k
  · rw [if_pos ⟨rfl, e⟩, if_pos ⟨rfl, e⟩]
    exact ⟨rfl, hv⟩
  · rw [if_neg (fun q => e q.2), if_neg (fun q => e q.2)]
    exact h3 i (by omega)
def FdX (Dx D1 : Mm) : Prop := ∀ c, c ≠ 65 → c ≠ 66 → D1 c = Dx c
def FdM (Dm D1 : Mm) : Prop := (∀ c, c ≠ 0 → c ≠ 5 → D1 c = Dm c) ∧ ∀ k, k ≠ 6 → D1 0 k = Dm 0 k
theorem FdX.add {Dx : Mm} {k : Nat} {v w : Int32} : FdX Dx (up2 (up2 Dx 66 k v) 65 1 w) := fun c h1 h2 => by rw [up2_o h1, up2_o h2]
theorem FdM.add {Dm : Mm} {k : Nat} {v w : Int32} : FdM Dm (up2 (up2 Dm 5 k v) 0 6 w) := ⟨fun c h1 h2 => by rw [up2_o h1, up2_o h2], fun j hj => by rw [up2_app, if_neg (by omega), up2_o (by decide)]⟩
theorem FdX.trans {A B C : Mm} (h1 : FdX A B) (h2 : FdX B C) : FdX A C := fun c a b => (h2 c a b).trans (h1 c a b)
theorem FdM.trans {A B C : Mm} (h1 : FdM A B) (h2 : FdM B C) : FdM A C := ⟨fun c a b => (h2.1 c a b).trans (h1.1 c a b), fun k a => (h2.2 k a).trans (h1.2 k a)⟩
def sel (a b c d e : Int32) (j : Nat) : Int32 := if 4 ≤ j then (if 8 ≤ j then (if 12 ≤ j then (if 16 ≤ j then e else d) else c) else b) else a
theorem le_if {α : Type} {c j : Nat} {x y : α} (hc : c < 100) (hj : j < 100) : (if nI c ≤ nI j then x else y) = if c ≤ j then x else y := by
  by_cases e : c ≤ j
  · rw [if_pos e, if_pos (nI_le e (by omega))]
  · rw [if_neg e, if_neg (nI_ge (by omega) (by omega))]
theorem feed_step {F n j k : Nat} {a b c d e : Int32} {D : Mm} (hj : j < 20) (h : D 0 6 = nI k) (hk : k < 2480) : P_X8_feed_18 (gN MG) F (n + 1) a b c d e (nI j) D = P_X8_feed_18 (gN MG) F n a b c d e (nI (j + 1)) (up2 (up2 D 5 k ((sel a b c d e j >>> (nI (24 - 8 * (j % 4)) &&& 31)) &&& 255)) 0 6 (nI (k + 1))) := by
  have n5 : gN MG 5 = 2480 := rfl
  have st : ∀ s : Int32, P_X8_feed_71 (gN MG) F (fun x1 x2 x3 x4 x5 x6 D => P_X8_feed_18 (gN MG) F n x1 x2 x3 x4 x5 x6 D) a b c d e (nI j) s D = P_X8_feed_18 (gN MG) F n a b c d e (nI (j + 1)) (up2 (up2 D 5 k ((s >>> (nI (24 - 8 * (j % 4)) &&& 31)) &&& 255)) 0 6 (nI (k + 1))) := by
    intro s
    unfold P_X8_feed_71 P_X8_feed_99
    rw [h, n5, if_pos (in_nI (by omega) (by omega)), nI_clamp (by omega), up2_o (by decide), h, nI_1, nI_1, show jrem (nI j) 4 = nI (j % 4) from jrem_nI (d := 4) (by omega) (by omega) (by omega), show (8 : Int32) * nI (j % 4) = nI (8 * (j % 4)) from pk_mul 8 _, show (24 : Int32) - nI (8 * (j % 4)) = nI (24 - 8 * (j % 4)) from pk_sub (a := 24) (by omega)]
  show (if nI 20 ≤ nI j then some (D 0 6, D) else (if nI 4 ≤ nI j then (if nI 8 ≤ nI j then (if nI 12 ≤ nI j then (if nI 16 ≤ nI j then (P_X8_feed_71 (gN MG) F (fun x1 x2 x3 x4 x5 x6 D => P_X8_feed_18 (gN MG) F n x1 x2 x3 x4 x5 x6 D) a b c d e (nI j) e D) else (P_X8_feed_71 (gN MG) F (fun x1 x2 x3 x4 x5 x6 D => P_X8_feed_18 (gN MG) F n x1 x2 x3 x4 x5 x6 D) a b c d e (nI j) d D)) else (P_X8_feed_71 (gN MG) F (fun x1 x2 x3 x4 x5 x6 D => P_X8_feed_18 (gN MG) F n x1 x2 x3 x4 x5 x6 D) a b c d e (nI j) c D)) else (P_X8_feed_71 (gN MG) F (fun x1 x2 x3 x4 x5 x6 D => P_X8_feed_18 (gN MG) F n x1 x2 x3 x4 x5 x6 D) a b c d e (nI j) b D)) else (P_X8_feed_71 (gN MG) F (fun x1 x2 x3 x4 x5 x6 D => P_X8_feed_18 (gN MG) F n x1 x2 x3 x4 x5 x6 D) a b c d e (nI j) a D))) = _
  rw [le_if (by omega) (by omega), le_if (by omega) (by omega), le_if (by omega) (by omega), le_if (by omega) (by omega), le_if (by omega) (by omega), if_neg (by omega)]
  unfold sel
  split
  · split
    · split
      · split
        · exact st e
        · exact st d
      · exact st c
    · exact st b
  · exact st a
theorem feed4 {F n m k : Nat} {a b c d e v : Int32} {Dx Dm : Mm} (hm : m < 5) (hv : ∀ i, i < 4 → sel a b c d e (4 * m + i) = v) (h : TpK k Dx Dm) (hk : k + 4 ≤ 2480) : ∃ D1 E1, P_X1_addNumber (gN XG) F 65 v Dx = some (0, D1) ∧ P_X8_feed_18 (gN MG) F (n + 4) a b c d e (nI (4 * m)) Dm = P_X8_feed_18 (gN MG) F n a b c d e (nI (4 * m + 4)) E1 ∧ TpK (k + 4) D1 E1 ∧ FdX Dx D1 ∧ FdM Dm E1 := by
  have n66 : gN XG (65 + 1) = 2480 := rfl
  have b0 : (jush v 24) &&& 255 = (v >>> (nI (24 - 8 * ((4 * m + 0) % 4)) &&& 31)) &&& 255 := by rw [show 24 - 8 * ((4 * m + 0) % 4) = 24 by omega]; exact ush_byte 24 (by omega) v
  have b1 : (jush v 16) &&& 255 = (v >>> (nI (24 - 8 * ((4 * m + 1) % 4)) &&& 31)) &&& 255 := by rw [show 24 - 8 * ((4 * m + 1) % 4) = 16 by omega]; exact ush_byte 16 (by omega) v
  have b2 : (jush v 8) &&& 255 = (v >>> (nI (24 - 8 * ((4 * m + 2) % 4)) &&& 31)) &&& 255 := by rw [show 24 - 8 * ((4 * m + 2) % 4) = 8 by omega]; exact ush_byte 8 (by omega) v
  have b3 : v &&& 255 = (v >>> (nI (24 - 8 * ((4 * m + 3) % 4)) &&& 31)) &&& 255 := by
    rw [show 24 - 8 * ((4 * m + 3) % 4) = 0 by omega]
    apply b_ext
    intro i hi
    rw [b_and, b_and, b_sshr 0 (by omega) v hi, Nat.zero_add, if_pos hi]
  unfold P_X1_addNumber
  have k0 := h.add (By_255 (jush v 24))
  have k1 := k0.add (By_255 (jush v 16))
  have k2 := k1.add (By_255 (jush v 8))
  have k3 := k2.add (By_255 v)
  rw [add_eq n66 h.1 (by omega), bi_s, add_eq n66 k0.1 (by omega), bi_s, add_eq n66 k1.1 (by omega), bi_s, add_eq n66 k2.1 (by omega), bi_s]
  refine ⟨_, _, rfl, ?_, k3, ((FdX.add.trans FdX.add).trans FdX.add).trans FdX.add, ((FdM.add.trans FdM.add).trans FdM.add).trans FdM.add⟩
  rw [show n + 4 = (n + 3) + 1 by omega, show 4 * m = 4 * m + 0 by omega, feed_step (by omega) h.2.1 (by omega), hv 0 (by omega), ← b0]
  rw [show n + 3 = (n + 2) + 1 by omega, Nat.add_zero, feed_step (by omega) k0.2.1 (by omega), hv 1 (by omega), ← b1]
  rw [show n + 2 = (n + 1) + 1 by omega, show 4 * m + 1 + 1 = 4 * m + 2 by omega, feed_step (by omega) k1.2.1 (by omega), hv 2 (by omega), ← b2]
  rw [show 4 * m + 2 + 1 = 4 * m + 3 by omega, feed_step (by omega) k2.2.1 (by omega), hv 3 (by omega), ← b3]
theorem Rel.tape {Dx Dm D1 E1 : Mm} (h : Rel Dx Dm) (hx : FdX Dx D1) (hm : FdM Dm E1) (ht : Tp D1 E1) : Rel D1 E1 := by
  obtain ⟨hc, hid, hst, _, hou, h69, hsm⟩ := h
  refine ⟨hc.up (fun c a b => hx c (by omega) (by omega)) (fun c a b => hm.1 c (by omega) (by omega)) ?_, by rw [hx 2 (by decide) (by decide)]; exact hid, ?_, ht, hou.keep (hx _ (by decide) (by decide)) (hx _ (by decide) (by decide)) (hm.2 _ (by decide)) (hm.1 _ (by decide) (by decide)), by rw [hx 69 (by decide) (by decide)]; exact h69, hsm.keep (hx _ (by decide) (by decide)) (hx _ (by decide) (by decide))⟩
  · have := hc.2.2.2.2
    unfold Cnt at this ⊢
    rw [hx 2 (by decide) (by decide), hm.2 4 (by decide), hm.2 12 (by decide), hm.2 13 (by decide), hm.2 14 (by decide)]
    exact this
  · unfold Stt at hst ⊢
    rw [hx 1 (by decide) (by decide), hm.2 9 (by decide), hm.2 10 (by decide), hm.2 11 (by decide)]
    exact hst
theorem sim_feed {F : Nat} (hF : 9000 ≤ F) : Sim_feed Rel F := by
  intro Dx Dm a1 a2 a3 a4 a5 h
  obtain ⟨k, hk, t1, t2, t3⟩ := h.2.2.2.1
  unfold P_X7_feed P_X8_feed
  rw [t1, t2, show nI k + (20 : Int32) = nI (k + 20) from nI_add k 20]
  by_cases c : k + 20 ≤ 2480
  · rw [if_pos (show nI (k + 20) ≤ (2480 : Int32) from nI_le (b := 2480) c (by omega)), if_pos (show nI (k + 20) ≤ (2480 : Int32) from nI_le (b := 2480) c (by omega))]
    obtain ⟨f, rfl⟩ : ∃ z, F = z + 21 := ⟨F - 21, by omega⟩
    obtain ⟨x1, m1, p1, q1, r1, u1, v1⟩ := feed4 (F := f + 21) (n := f + 17) (m := 0) (a := a1) (b := a2) (c := a3) (d := a4) (e := a5) (v := a1) (by omega) (fun i hi => by unfold sel; rw [if_neg (by omega)]) ⟨t1, t2, t3⟩ (by omega)
    obtain ⟨x2, m2, p2, q2, r2, u2, v2⟩ := feed4 (F := f + 21) (n := f + 13) (m := 1) (a := a1) (b := a2) (c := a3) (d := a4) (e := a5) (v := a2) (by omega) (fun i hi => by unfold sel; rw [if_pos (by omega), if_neg (by omega)]) r1 (by omega)
    obtain ⟨x3, m3, p3, q3, r3, u3, v3⟩ := feed4 (F := f + 21) (n := f + 9) (m := 2) (a := a1) (b := a2) (c := a3) (d := a4) (e := a5) (v := a3) (by omega) (fun i hi => by unfold sel; rw [if_pos (by omega), if_pos (by omega), if_neg (by omega)]) r2 (by omega)
    obtain ⟨x4, m4, p4, q4, r4, u4, v4⟩ := feed4 (F := f + 21) (n := f + 5) (m := 3) (a := a1) (b := a2) (c := a3) (d := a4) (e := a5) (v := a4) (by omega) (fun i hi => by unfold sel; rw [if_pos (by omega), if_pos (by omega), if_pos (by omega), if_neg (by omega)]) r3 (by omega)
    obtain ⟨x5, m5, p5, q5, r5, u5, v5⟩ := feed4 (F := f + 21) (n := f + 1) (m := 4) (a := a1) (b := a2) (c := a3) (d := a4) (e := a5) (v := a5) (by omega) (fun i hi => by unfold sel; rw [if_pos (by omega), if_pos (by omega), if_pos (by omega), if_pos (by omega)]) r4 (by omega)
    rw [p1, bi_s, p2, bi_s, p3, bi_s, p4, bi_s, p5, bi_s]
    have em : P_X8_feed_18 (gN MG) (f + 21) (f + 21) a1 a2 a3 a4 a5 0 Dm = some (m5 0 6, m5) := by
      refine q1.trans (q2.trans (q3.trans (q4.trans (q5.trans ?_))))
      show (if (20 : Int32) ≤ nI (4 * 4 + 4) then some (m5 0 6, m5) else _) = _
      rw [if_pos (by decide)]
    rw [em, r5.1, r5.2.1]
    exact ⟨_, _, _, rfl, rfl, h.tape ((((u1.trans u2).trans u3).trans u4).trans u5) ((((v1.trans v2).trans v3).trans v4).trans v5) ⟨_, by omega, r5⟩⟩
  · rw [if_neg (show ¬ nI (k + 20) ≤ (2480 : Int32) from nI_ge (b := k + 20) (a := 2480) (by omega) (by omega)), if_neg (show ¬ nI (k + 20) ≤ (2480 : Int32) from nI_ge (b := k + 20) (a := 2480) (by omega) (by omega))]
    exact ⟨_, _, _, rfl, rfl, h⟩
