/-! TRACKS: the class's tracks formatted -/
def Z0 : Nat → Int32 := fun _ => 0
theorem rowZ (t s : Nat) : rowOf t s Z0 = Z0 := by unfold rowOf; split <;> rfl
theorem sec_room (t : Nat) : 912 * secN t ≤ 8 * byN t ∧ (8 * byN t - 912 * secN t) % 8 = 0 := by
  unfold secN byN
  by_cases c1 : t < 9
  · rw [if_pos c1, if_pos c1]; decide
  · rw [if_neg c1, if_neg c1]
    by_cases c2 : t < 13
    · rw [if_pos c2, if_pos c2]; decide
    · rw [if_neg c2, if_neg c2]; decide
theorem By_85 : By (85 : Int32) := by
  rw [show (85 : Int32) = 85 &&& 255 by decide]
  exact By_255 85
theorem r85 {r : Nat → Int32} {q : Nat} (h : r (q / 8) = 85) : rbit r q = decide (q % 2 = 1) := by
  unfold rbit
  rw [h]
  have := b85 (q % 8) (by omega)
  rw [show 7 - q % 8 = 8 - 1 - q % 8 by omega, this, show q % 8 % 2 = q % 2 by omega]
theorem gap_go {N : Nat → Nat} {F th n : Nat} (hN : N (th + 1) = n) (hn : n ≤ 1060) : ∀ (m fu i : Nat) (D : Mm), i + m = n → m < fu → ∃ r : Nat → Int32, P_X5_fillGap_2 N F th fu (nI i) D = some (0, up2 (upA D (th + 1) r) th 4 0) ∧ ∀ j, r j = if i ≤ j ∧ j < n then 85 else D (th + 1) j := by
  intro m
  induction m with
  | zero =>
    intro fu i D hi hfu
    obtain ⟨fu, rfl⟩ : ∃ z, fu = z + 1 := ⟨fu - 1, by omega⟩
    refine ⟨D (th + 1), ?_, fun j => by rw [if_neg (by omega)]⟩
    show (if (nI (N (th + 1))) ≤ nI i then _ else _) = _
    rw [hN, if_pos (nI_le (by omega) (by omega)), upA_id]
  | succ m ih =>
    intro fu i D hi hfu
    obtain ⟨fu, rfl⟩ : ∃ z, fu = z + 1 := ⟨fu - 1, by omega⟩
    obtain ⟨r, q1, q2⟩ := ih fu (i + 1) (up2 D (th + 1) i 85) (by omega) (by omega)
    refine ⟨r, ?_, fun j => ?_⟩
    · show (if (nI (N (th + 1))) ≤ nI i then _ else (if inB (nI i) (N (th + 1)) = true then (P_X5_fillGap_2 N F th fu (nI i + 1) (up2 D (th + 1) (Int32.toNatClampNeg (nI i)) 85)) else none)) = _
      rw [hN, if_neg (nI_ge (by omega) (by omega)), if_pos (in_nI (by omega) (by omega)), nI_clamp (by omega), nI_1, q1, show upA (up2 D (th + 1) i 85) (th + 1) r = upA D (th + 1) r from upA_upA D _ _ r]
    · rw [q2 j, up2_app]
      by_cases c : j = i
      · subst c
        rw [if_neg (by omega), if_pos ⟨rfl, rfl⟩, if_pos (by omega)]
      · rw [show (if th + 1 = th + 1 ∧ j = i then (85 : Int32) else D (th + 1) j) = D (th + 1) j from if_neg (fun q => c q.2)]
        by_cases c2 : i + 1 ≤ j ∧ j < n
        · rw [if_pos c2, if_pos (by omega)]
        · rw [if_neg c2, if_neg (by omega)]
theorem putHeader_fx {F t s : Nat} {id h l : Int32} {D : Mm} (hh : h = (id >>> (8 &&& 31)) &&& 255) (hl : l = id &&& 255) (hr : RingOk (gN XG) 52 114 D) : ∃ D1, P_X5_putHeader (gN XG) F 52 40 (nI t) (nI s) id D = some (0, D1) ∧ FX 52 114 40 60 (fun x => secB h l t s Z0 (40 + x)) D D1 := by
  have st : ∀ (k : Nat) (v : Int32) (A B : Mm), k < 6 → v = hV h l t s k → FX 52 114 40 (10 * k) (fun x => secB h l t s Z0 (40 + x)) D A → FX 52 114 (40 + 10 * k) 10 (cb v) A B → FX 52 114 40 (10 * k + 10) (fun x => secB h l t s Z0 (40 + x)) D B := by
    intro k v A B hk hv p q
    refine p.seq (by omega) q (fun x hx => ?_)
    show secB h l t s Z0 (40 + (10 * k + x)) = _
    rw [show 40 + (10 * k + x) = 40 + 10 * k + x by omega, sec_h hk hx, hv]
  obtain ⟨D1, p1, q1⟩ := (putCoded_op (N := gN XG) (F := F) (th := 52) (n := 114) (a := 40) (v := 8) (D := D) hr (by decide)).fx
  obtain ⟨D2, p2, q2⟩ := (putCoded_op (N := gN XG) (F := F) (th := 52) (n := 114) (a := 50) (v := ((nI s ^^^ nI t) ^^^ h) ^^^ l) (D := D1) (q1.ring hr) (by decide)).fx
  have r2 := q2.ring (q1.ring hr)
  obtain ⟨D3, p3, q3⟩ := (putCoded_op (N := gN XG) (F := F) (th := 52) (n := 114) (a := 60) (v := nI s) (D := D2) r2 (by decide)).fx
  have r3 := q3.ring r2
  obtain ⟨D4, p4, q4⟩ := (putCoded_op (N := gN XG) (F := F) (th := 52) (n := 114) (a := 70) (v := nI t) (D := D3) r3 (by decide)).fx
  have r4 := q4.ring r3
  obtain ⟨D5, p5, q5⟩ := (putCoded_op (N := gN XG) (F := F) (th := 52) (n := 114) (a := 80) (v := h) (D := D4) r4 (by decide)).fx
  have r5 := q5.ring r4
  obtain ⟨D6, p6, q6⟩ := (putCoded_op (N := gN XG) (F := F) (th := 52) (n := 114) (a := 90) (v := l) (D := D5) r5 (by decide)).fx
  refine ⟨D6, ?_, ?_⟩
  · unfold P_X5_putHeader P_X5_putHeader_11
    rw [← hh, ← hl, show P_X5_putCoded (gN XG) F 52 40 8 D = _ from p1, bi_s, show (40 : Int32) + 10 = nI 50 by decide, show (40 : Int32) + 20 = nI 60 by decide, show (40 : Int32) + 30 = nI 70 by decide, show (40 : Int32) + 40 = nI 80 by decide, show (40 : Int32) + 50 = nI 90 by decide, p2, bi_s, p3, bi_s, p4, bi_s, p5, bi_s, p6, bi_s]
  · have s1 : FX 52 114 40 10 (fun x => secB h l t s Z0 (40 + x)) D D1 := q1.gc (fun x hx => sec_h (k := 0) (by decide) hx)
    have s2 := st 1 _ _ _ (by decide) rfl s1 q2
    have s3 := st 2 _ _ _ (by decide) rfl s2 q3
    have s4 := st 3 _ _ _ (by decide) rfl s3 q4
    have s5 := st 4 _ _ _ (by decide) rfl s4 q5
    exact st 5 _ _ _ (by decide) rfl s5 q6
theorem layRing_eq {F t s : Nat} {D : Mm} (hN : gN XG (3 * t + 1 + 1) = byN t) (hb : byN t ≤ 1060) (hs : 114 * s + 114 ≤ byN t) : P_X5_layRing (gN XG) F (3 * t + 1) 52 (114 * nI s) D = some (0, up2 (upA D (3 * t + 1 + 1) (va_cpy (D 53) (D (3 * t + 1 + 1)) 0 (114 * s) 114)) (3 * t + 1) 4 0) := by
  have n53 : gN XG (52 + 1) = 114 := rfl
  unfold P_X5_layRing P_X5_layRing_37
  rw [show (114 : Int32) * nI s = nI (114 * s) from pk_mul 114 s, n53, hN, nI_add, if_neg (show ¬ nI (114 * s) < 0 from nI_nlt (b := 0) (by omega) (by omega)), if_neg (nI_nlt (by omega) (by omega)), nI_clamp (by omega), nI_clamp (by omega), show Int32.toNatClampNeg 0 = 0 from rfl, if_pos (decide_eq_true ⟨by decide, nI_nlt (b := 0) (by omega) (by omega), by decide, by omega, by omega⟩)]
theorem cpy_bits {f r : Nat → Int32} {s i : Nat} : rbit (va_cpy f r 0 (114 * s) 114) i = if 912 * s ≤ i ∧ i < 912 * s + 912 then rbit f (i - 912 * s) else rbit r i := by
  unfold rbit va_cpy
  by_cases c : 912 * s ≤ i ∧ i < 912 * s + 912
  · rw [if_pos c, if_pos (by omega), show 0 + (i / 8 - 114 * s) = (i - 912 * s) / 8 by omega, show i % 8 = (i - 912 * s) % 8 by omega]
  · rw [if_neg c, if_neg (by omega)]
def FtE (t : Nat) (h l : Int32) (D D1 : Mm) : Prop := Smp D1 ∧ RingOk (gN XG) (3 * t + 1) (byN t) D1 ∧ D1 (3 * t + 1) 4 = 0 ∧ (∀ i, i < 8 * byN t → rbit (D1 (3 * t + 2)) i = trB h l t Z0 i) ∧ ∀ c, c ≠ 52 → c ≠ 53 → c ≠ 3 * t + 1 → c ≠ 3 * t + 2 → D1 c = D c
theorem ft12_go {F t : Nat} {id h l : Int32} (h1 : 1 ≤ t) (ht : t ≤ 16) (hh : h = (id >>> (8 &&& 31)) &&& 255) (hl : l = id &&& 255) : ∀ (m fu s : Nat) (D : Mm), s + m = secN t → m < fu → D 2 3 = id → Smp D → RingOk (gN XG) (3 * t + 1) (byN t) D → D (3 * t + 1) 4 = 0 → (∀ i, i < 912 * s → rbit (D (3 * t + 2)) i = trB h l t Z0 i) → (∀ i, 912 * s ≤ i → i < 8 * byN t → rbit (D (3 * t + 2)) i = decide (i % 2 = 1)) → ∃ D1, P_X0_formatTrack_12 (gN XG) F (3 * t + 1) fu (nI t) (nI (secN t)) (nI s) D = some (0, D1) ∧ FtE t h l D D1 := by
  have hb := byN_le t
  have hsn := secN_le t
  obtain ⟨hrm, _⟩ := sec_room t
  intro m
  induction m with
  | zero =>
    intro fu s D hs hfu hid hsm hr h4 hlo hhi
    obtain ⟨fu, rfl⟩ : ∃ z, fu = z + 1 := ⟨fu - 1, by omega⟩
    have e : s = secN t := by omega
    subst e
    refine ⟨D, ?_, hsm, hr, h4, fun i hi => ?_, fun _ _ _ _ _ => rfl⟩
    · show (if nI (secN t) ≤ nI (secN t) then _ else _) = _
      rw [if_pos (nI_le (by omega) (by omega))]
    · by_cases c : i < 912 * secN t
      · exact hlo i c
      · rw [hhi i (by omega) hi, trB_gap (by omega)]
  | succ m ih =>
    intro fu s D hs hfu hid hsm hr h4 hlo hhi
    obtain ⟨fu, rfl⟩ : ∃ z, fu = z + 1 := ⟨fu - 1, by omega⟩
    obtain ⟨D1, p1, p2⟩ := putHeader_fx (F := F) (t := t) (s := s) (D := D) hh hl hsm.1
    have hsl : 912 * (s + 1) ≤ 912 * secN t := Nat.mul_le_mul_left 912 (by omega)
    have oD1 : ∀ c, c ≠ 52 → c ≠ 53 → D1 c = D c := fun c a b => p2.2.2.2.2 c a b
    have r1 := p2.ring hsm.1
    have sb : ∀ o, o < 912 → rbit (D1 53) o = secB h l t s Z0 o := by
      intro o ho
      by_cases c : 40 ≤ o ∧ o < 100
      · have := p2.1.1 (o - 40) (by omega)
        rw [Nat.mod_eq_of_lt (by omega), show 40 + (o - 40) = o by omega] at this
        rw [show rbit (D1 53) o = secB h l t s Z0 (40 + (o - 40)) from this, show 40 + (o - 40) = o by omega]
      · have := p2.1.2 o (by omega) (fun x hx => by rw [Nat.mod_eq_of_lt (by omega)]; omega)
        rw [this, hsm.2 o ho (by omega)]
        exact smp_sec (by omega)
    have sm1 : Smp D1 := ⟨r1, fun i hi hc => by rw [sb i hi]; exact (smp_sec hc).symm⟩
    have hr1 : RingOk (gN XG) (3 * t + 1) (byN t) D1 := ⟨hr.1, hr.2.1, hr.2.2.1, by rw [oD1 _ (by omega) (by omega)]; exact hr.2.2.2.1, by rw [oD1 (3 * t + 1 + 1) (by omega) (by omega)]; exact hr.2.2.2.2⟩
    obtain ⟨r, er⟩ : ∃ z, z = va_cpy (D1 53) (D1 (3 * t + 1 + 1)) 0 (114 * s) 114 := ⟨_, rfl⟩
    obtain ⟨D2, hD2⟩ : ∃ z, z = up2 (upA D1 (3 * t + 1 + 1) r) (3 * t + 1) 4 0 := ⟨_, rfl⟩
    have oD2 : ∀ c, c ≠ 3 * t + 1 → c ≠ 3 * t + 1 + 1 → D2 c = D1 c := fun c a b => by rw [hD2, up2_o a, upA_ne b]
    have rD2 : D2 (3 * t + 1 + 1) = r := by rw [hD2, up2_o (by omega), upA_row]
    have br : ∀ i, i < byN t → By (r i) := by
      intro i hi
      rw [er]
      unfold va_cpy
      by_cases c : 114 * s ≤ i ∧ i < 114 * s + 114
      · rw [if_pos c]; exact r1.2.2.2.2 _ (by omega)
      · rw [if_neg c]; exact hr1.2.2.2.2 i hi
    have hr2 : RingOk (gN XG) (3 * t + 1) (byN t) D2 := ⟨hr.1, hr.2.1, hr.2.2.1, by rw [hD2, up2_app, if_neg (by omega), upA_ne (by omega)]; exact hr1.2.2.2.1, by rw [rD2]; exact br⟩
    have bits : ∀ i, rbit (D2 (3 * t + 2)) i = if 912 * s ≤ i ∧ i < 912 * s + 912 then rbit (D1 53) (i - 912 * s) else rbit (D (3 * t + 2)) i := by
      intro i
      rw [show D2 (3 * t + 2) = r from rD2, er, cpy_bits, show D1 (3 * t + 1 + 1) = D (3 * t + 2) from oD1 _ (by omega) (by omega)]
    obtain ⟨D3, q1, q2, q3, q4, q5, q6⟩ := ih fu (s + 1) D2 (by omega) (by omega) (by rw [oD2 2 (by omega) (by omega), oD1 2 (by decide) (by decide)]; exact hid) (sm1.keep (oD2 52 (by omega) (by omega)) (oD2 53 (by omega) (by omega))) hr2 (by rw [hD2, up2_app, if_pos ⟨rfl, rfl⟩]) (fun i hi => by
        rw [bits i]
        by_cases c : 912 * s ≤ i
        · rw [if_pos (by omega), sb _ (by omega)]
          have := trB_sec (h := h) (l := l) (t := t) (s := s) (o := i - 912 * s) (mp := Z0) (by omega) (by omega)
          rw [show 912 * s + (i - 912 * s) = i by omega, rowZ] at this
          exact this.symm
        · rw [if_neg (by omega)]
          exact hlo i (by omega)) (fun i a b => by
        rw [bits i, if_neg (by omega)]
        exact hhi i (by omega) b)
    refine ⟨D3, ?_, q2, q3, q4, q5, fun c a b d e => ?_⟩
    · show (if nI (secN t) ≤ nI s then _ else (bi (P_X5_putHeader (gN XG) F 52 40 (nI t) (nI s) (D 2 3) D) (fun r2 D2 => bi (P_X5_layRing (gN XG) F (3 * t + 1) 52 (114 * nI s) D2) (fun r3 D3 => P_X0_formatTrack_12 (gN XG) F (3 * t + 1) fu (nI t) (nI (secN t)) (nI s + 1) D3)))) = _
      rw [if_neg (nI_ge (by omega) (by omega)), hid, p1, bi_s, layRing_eq hr.2.2.1 (by omega) (by omega), bi_s, nI_1, ← er, ← hD2]
      exact q1
    · rw [q6 c a b d e, oD2 c d e, oD1 c a b]
theorem ftrack_sim {F t : Nat} {id h l : Int32} {D : Mm} (hF : 9000 ≤ F) (h1 : 1 ≤ t) (ht : t ≤ 16) (hh : h = (id >>> (8 &&& 31)) &&& 255) (hl : l = id &&& 255) (hid : D 2 3 = id) (hsm : Smp D) (hr : RingOk (gN XG) (3 * t + 1) (byN t) D) : ∃ D1, P_X0_formatTrack (gN XG) F (3 * t + 1) (nI t) D = some (0, D1) ∧ FtE t h l D D1 := by
  have hb := byN_le t
  have hsn := secN_le t
  obtain ⟨r, g1, g2⟩ := gap_go (N := gN XG) (F := F) (th := 3 * t + 1) (n := byN t) hr.2.2.1 hb.2 (byN t) F 0 D (by omega) (by omega)
  have g1' : P_X5_fillGap (gN XG) F (3 * t + 1) D = _ := g1
  obtain ⟨D1, hD1⟩ : ∃ z, z = up2 (upA D (3 * t + 1 + 1) r) (3 * t + 1) 4 0 := ⟨_, rfl⟩
  have oD1 : ∀ c, c ≠ 3 * t + 1 → c ≠ 3 * t + 1 + 1 → D1 c = D c := fun c a b => by rw [hD1, up2_o a, upA_ne b]
  have rD1 : D1 (3 * t + 1 + 1) = r := by rw [hD1, up2_o (by omega), upA_row]
  have hr1 : RingOk (gN XG) (3 * t + 1) (byN t) D1 := ⟨hr.1, hr.2.1, hr.2.2.1, by rw [hD1, up2_app, if_neg (by omega), upA_ne (by omega)]; exact hr.2.2.2.1, by rw [rD1]; exact fun i hi => by rw [g2 i, if_pos ⟨by omega, hi⟩]; exact By_85⟩
  obtain ⟨D2, q1, q2⟩ := ft12_go (F := F) (t := t) h1 ht hh hl (secN t) F 0 D1 (by omega) (by omega) (by rw [oD1 2 (by omega) (by omega)]; exact hid) (hsm.keep (oD1 52 (by omega) (by omega)) (oD1 53 (by omega) (by omega))) hr1 (by rw [hD1, up2_app, if_pos ⟨rfl, rfl⟩]) (fun i hi => by omega) (fun i _ hi => by
    rw [show D1 (3 * t + 2) = r from rD1]
    exact r85 (by rw [g2, if_pos (by omega)]))
  refine ⟨D2, ?_, q2.1, q2.2.1, q2.2.2.1, q2.2.2.2.1, fun c a b d e => by rw [q2.2.2.2.2 c a b d e, oD1 c d e]⟩
  unfold P_X0_formatTrack
  rw [g1', bi_s, ← hD1, xsectorsOf_eq D1 h1 ht, bi_s]
  exact q1
def FtA (h l : Int32) (D D1 : Mm) (n : Nat) : Prop := Smp D1 ∧ (∀ v, 1 ≤ v → v ≤ 16 → RingOk (gN XG) (3 * v + 1) (byN v) D1) ∧ (∀ v, 1 ≤ v → v < n → D1 (3 * v + 1) 4 = 0 ∧ ∀ i, i < 8 * byN v → rbit (D1 (3 * v + 2)) i = trB h l v Z0 i) ∧ ∀ c, (c ≤ 3 ∨ 54 ≤ c) → D1 c = D c
theorem ftracks_go {F : Nat} {id h l : Int32} {D0 : Mm} (hF : 9000 ≤ F) (hh : h = (id >>> (8 &&& 31)) &&& 255) (hl : l = id &&& 255) (hid : D0 2 3 = id) : ∀ (m fu t : Nat) (D : Mm), t + m = 17 → 1 ≤ t → m < fu → FtA h l D0 D t → ∃ D1, P_X0_formatTracks_2 (gN XG) F fu (nI t) D = some (0, D1) ∧ FtA h l D0 D1 17 := by
  intro m
  induction m with
  | zero =>
    intro fu t D hi h1 hfu h
    obtain ⟨fu, rfl⟩ : ∃ z, fu = z + 1 := ⟨fu - 1, by omega⟩
    have e : t = 17 := by omega
    subst e
    refine ⟨D, ?_, h⟩
    show (if (16 : Int32) < nI 17 then some (0, D) else _) = _
    rw [if_pos (by decide)]
  | succ m ih =>
    intro fu t D hi h1 hfu h
    obtain ⟨fu, rfl⟩ : ∃ z, fu = z + 1 := ⟨fu - 1, by omega⟩
    obtain ⟨a1, a2, a3, a4⟩ := h
    obtain ⟨D1, p1, b1, b2, b3, b4, b5⟩ := ftrack_sim (F := F) (t := t) (D := D) hF h1 (by omega) hh hl (by rw [a4 2 (by omega)]; exact hid) a1 (a2 t h1 (by omega))
    obtain ⟨D2, q1, q2⟩ := ih fu (t + 1) D1 (by omega) (by omega) (by omega) ⟨b1, fun v v1 v2 => by
        by_cases e : v = t
        · subst e; exact b2
        · have := a2 v v1 v2
          exact ⟨this.1, this.2.1, this.2.2.1, by rw [b5 (3 * v + 1) (by omega) (by omega) (by omega) (by omega)]; exact this.2.2.2.1, by rw [b5 (3 * v + 1 + 1) (by omega) (by omega) (by omega) (by omega)]; exact this.2.2.2.2⟩, fun v v1 v2 => by
        by_cases e : v = t
        · subst e; exact ⟨b3, b4⟩
        · rw [b5 (3 * v + 1) (by omega) (by omega) (by omega) (by omega), b5 (3 * v + 2) (by omega) (by omega) (by omega) (by omega)]
          exact a3 v v1 (by omega), fun c hc => by rw [b5 c (by omega) (by omega) (by omega) (by omega)]; exact a4 c hc⟩
    refine ⟨D2, ?_, q2⟩
    show (if (16 : Int32) < nI t then _ else (bq (P_X0_ringOf (nI t)) (P_X0_formatTracks_2 (gN XG) F fu (nI t + 1) D) (fun w2 => bi (P_X0_formatTrack (gN XG) F w2 (nI t) D) (fun r3 D3 => P_X0_formatTracks_2 (gN XG) F fu (nI t + 1) D3)))) = _
    rw [if_neg (show ¬ (16 : Int32) < nI t from nI_nlt (a := 16) (by omega) (by omega)), ringOf_eq t h1 (by omega), bqS, p1, bi_s, nI_1]
    exact q1
