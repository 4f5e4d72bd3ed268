/-! DIR: the directory's blocks one after the other, in lockstep -/
def DirV (E : Mm) (k : Nat) : Prop := ∀ i, i < k → ∃ t s, Vd t s ∧ E 11 i = nI t ∧ E 12 i = nI s
def Fnd (D E : Mm) : Prop := ∃ k i t s, k < 7 ∧ i < 5 ∧ Vd t s ∧ D 58 6 = nI (2 + 12 * i) ∧ E 0 24 = nI k ∧ E 0 25 = nI (64 * k + (2 + 12 * i)) ∧ D 58 3 = nI t ∧ D 58 4 = nI s ∧ E 11 k = nI t ∧ E 12 k = nI s ∧ ∀ j, j < 64 → E 10 (64 * k + j) = D 59 j ∧ By (D 59 j)
def NFnd (D E : Mm) : Prop := ∃ d t s, d < 7 ∧ Vd t s ∧ D 58 6 = -1 ∧ E 0 24 = -1 ∧ E 0 23 = nI (d + 1) ∧ D 58 5 = nI (d + 1) ∧ D 58 3 = nI t ∧ D 58 4 = nI s ∧ E 11 d = nI t ∧ E 12 d = nI s ∧ (∀ j, j < 64 → E 10 (64 * d + j) = D 59 j) ∧ RoomOk D (E 10) (E 11) (E 12) (5 * (d + 1)) ∧ DirV E (d + 1)
theorem isLast_eq {F : Nat} {D : Mm} : (D 59 0 = 0 ∧ D 59 1 = 0 → P_X3_isLast (gN XG) F D = some (1, D)) ∧ (¬ (D 59 0 = 0 ∧ D 59 1 = 0) → P_X3_isLast (gN XG) F D = some (0, D)) := by
  have n59 : gN XG 59 = 64 := rfl
  have e : P_X3_isLast (gN XG) F D = (if D 59 0 = 0 then (if D 59 1 = 0 then some (1, D) else some (0, D)) else some (0, D)) := by
    unfold P_X3_isLast
    rw [n59, if_pos (show inB 0 64 = true by decide), if_pos (show inB 1 64 = true by decide), show Int32.toNatClampNeg 0 = 0 from rfl, show Int32.toNatClampNeg 1 = 1 from rfl]
  rw [e]
  constructor
  · intro h
    rw [if_pos h.1, if_pos h.2]
  · intro h
    by_cases c : D 59 0 = 0
    · rw [if_pos c, if_neg (fun q => h ⟨c, q⟩)]
    · rw [if_neg c]
theorem m185_eq {F : Nat} {x1 a b x4 x5 : Int32} {K : Int32 → Int32 → Int32 → Int32 → Int32 → Mm → Rs} {E : Mm} (h24 : E 0 24 = -1) : (E 8 0 = 0 ∧ E 8 1 = 0 → P_X8_readDirectory_185 (gN MG) F K x1 a b x4 x5 E = some (1, E)) ∧ (¬ (E 8 0 = 0 ∧ E 8 1 = 0) → P_X8_readDirectory_185 (gN MG) F K x1 a b x4 x5 E = P_X8_readDirectory_212 (gN MG) F K x1 a b x4 x5 E) := by
  have n8 : gN MG 8 = 64 := rfl
  have e : P_X8_readDirectory_185 (gN MG) F K x1 a b x4 x5 E = (if E 8 0 = 0 then (if E 8 1 = 0 then some (1, E) else P_X8_readDirectory_212 (gN MG) F K x1 a b x4 x5 E) else P_X8_readDirectory_212 (gN MG) F K x1 a b x4 x5 E) := by
    unfold P_X8_readDirectory_185
    rw [h24, if_neg (by decide), n8, if_pos (show inB 0 64 = true by decide), if_pos (show inB 1 64 = true by decide), show Int32.toNatClampNeg 0 = 0 from rfl, show Int32.toNatClampNeg 1 = 1 from rfl]
  rw [e]
  constructor
  · intro h
    rw [if_pos h.1, if_pos h.2]
  · intro h
    by_cases c : E 8 0 = 0
    · rw [if_pos c, if_neg (fun q => h ⟨c, q⟩)]
    · rw [if_neg c]
/-- a block of the directory read, and laid into the reference's directory -/
theorem dread_sim {F n k t s : Nat} {x1 a b : Int32} {D E : Mm} (hF : 9000 ≤ F) (hk : k < 7) (hv : Vd t s) (hid : ¬ D 2 3 = -1) (hc : Core D E) (h23 : E 0 23 = nI k) : ∃ (e : Int32) (D1 : Mm), P_X0_fetch (gN XG) F 59 (nI t) (nI s) D = some (e, D1) ∧ DX [59] D D1 ∧ ((¬ e = 0 ∧ D1 1 0 = e ∧ ∃ E1, P_X8_readDirectory_17 (gN MG) F (n + 1) x1 a b (nI t) (nI s) E = some (0, E1) ∧ Core D1 E1 ∧ Stt D1 E1 ∧ DM [10, 11, 12] [23, 24, 25] E E1) ∨ (e = 0 ∧ ∃ E1, P_X8_readDirectory_17 (gN MG) F (n + 1) x1 a b (nI t) (nI s) E = P_X8_readDirectory_128 (gN MG) F (fun x1 x2 x3 x4 x5 D => P_X8_readDirectory_17 (gN MG) F n x1 x2 x3 x4 x5 D) F x1 a b (nI t) (nI s) (nI (64 * k)) (nI 2) E1 ∧ Core D1 E1 ∧ StK D E D1 E1 ∧ DM [10, 11, 12] [23, 24, 25] E E1 ∧ E1 0 23 = nI (k + 1) ∧ E1 0 24 = E 0 24 ∧ (∀ j, j < 64 → E1 8 j = D1 59 j ∧ E1 10 (64 * k + j) = D1 59 j ∧ By (D1 59 j)) ∧ (∀ i, i < 64 * k → E1 10 i = E 10 i) ∧ (∀ i, i ≠ k → E1 11 i = E 11 i ∧ E1 12 i = E 12 i) ∧ E1 11 k = nI t ∧ E1 12 k = nI s)) := by
  obtain ⟨h1, ht, hs⟩ := hv
  have n11 : gN MG 11 = 7 := rfl
  have n12 : gN MG 12 = 7 := rfl
  obtain ⟨e, D1, E1, p1, p2, p3, p4, p5⟩ := fetch_sim (F := F) (u := 59) hF h1 ht hs (by decide) rfl hid hc
  refine ⟨e, D1, p1, p3, ?_⟩
  have er : P_X8_readDirectory_17 (gN MG) F (n + 1) x1 a b (nI t) (nI s) E = bi (P_X8_readBlock (gN MG) F (nI t) (nI s) E) (fun r23 D23 => if r23 ≤ 0 then (if inB (D23 0 23) (gN MG 11) = true then (if inB ((up2 D23 11 (Int32.toNatClampNeg (D23 0 23)) (nI t)) 0 23) (gN MG 12) = true then (P_X8_readDirectory_82 (gN MG) F (fun x1 x2 x3 x4 x5 D => P_X8_readDirectory_17 (gN MG) F n x1 x2 x3 x4 x5 D) x1 a b (nI t) (nI s) (64 * (D23 0 23)) (up2 (up2 D23 11 (Int32.toNatClampNeg (D23 0 23)) (nI t)) 12 (Int32.toNatClampNeg ((up2 D23 11 (Int32.toNatClampNeg (D23 0 23)) (nI t)) 0 23)) (nI s))) else none) else none) else (bi (P_X8_ends (gN MG) F r23 (nI t) (nI s) D23) (fun r27 D27 => if r27 = 0 then (some (1, D27)) else (some (0, D27))))) := rfl
  rcases p5 with ⟨rfl, q1, q2, q3⟩ | ⟨z1, z2, q1, q2, q3⟩
  · right
    have e23 : E1 0 23 = nI k := by rw [p4.2 23 (by decide) (by decide), h23]
    have e23b : up2 E1 11 k (nI t) 0 23 = nI k := by rw [up2_o (by decide), e23]
    rw [p2, bi_s, if_pos (by decide), e23, nI_clamp (by omega), e23b, nI_clamp (by omega), n11, n12, if_pos (in_nI (by omega) (by omega)), if_pos (in_nI (by omega) (by omega))] at er
    unfold P_X8_readDirectory_82 at er
    have e23c : up2 (up2 E1 11 k (nI t)) 12 k (nI s) 0 23 = nI k := by rw [up2_o (by decide), e23b]
    rw [e23c, nI_1, show (64 : Int32) * nI k = nI (64 * k) from pk_mul 64 k] at er
    obtain ⟨r, c1, c2, c3⟩ := dcopy_go (F := F) (x1 := x1) (a := a) (b := b) (x4 := nI t) (x5 := nI s) (K := fun x1 x2 x3 x4 x5 D => P_X8_readDirectory_17 (gN MG) F n x1 x2 x3 x4 x5 D) hk 64 F 0 (up2 (up2 (up2 E1 11 k (nI t)) 12 k (nI s)) 0 23 (nI (k + 1))) (by decide) (by omega)
    have er2 := er.trans c1
    obtain ⟨E2, hE2⟩ : ∃ z, z = upA (up2 (up2 (up2 E1 11 k (nI t)) 12 k (nI s)) 0 23 (nI (k + 1))) 10 r := ⟨_, rfl⟩
    rw [← hE2] at er2
    have o : ∀ c, c ≠ 10 → c ≠ 0 → c ≠ 11 → c ≠ 12 → E2 c = E1 c := fun c u v w x => by rw [hE2, upA_ne u, up2_o v, up2_o x, up2_o w]
    have o0 : ∀ j, j ≠ 23 → E2 0 j = E1 0 j := fun j hj => by rw [hE2, upA_ne (by decide), up2_app, if_neg (by omega), up2_o (by decide), up2_o (by decide)]
    have o23 : E2 0 23 = nI (k + 1) := by rw [hE2, upA_ne (by decide), up2_app, if_pos ⟨rfl, rfl⟩]
    have o11 : ∀ i, E2 11 i = if i = k then nI t else E1 11 i := fun i => by
      rw [hE2, upA_ne (by decide), up2_o (by decide), up2_o (by decide), up2_app]
      by_cases c : i = k
      · rw [if_pos ⟨rfl, c⟩, if_pos c]
      · rw [if_neg (fun q => c q.2), if_neg c]
    have o12 : ∀ i, E2 12 i = if i = k then nI s else E1 12 i := fun i => by
      rw [hE2, upA_ne (by decide), up2_o (by decide), up2_app]
      by_cases c : i = k
      · rw [if_pos ⟨rfl, c⟩, if_pos c]
      · rw [if_neg (fun q => c q.2), if_neg c, up2_o (by decide)]
    have o10 : E2 10 = r := by rw [hE2, upA_row]
    have s8 : up2 (up2 (up2 E1 11 k (nI t)) 12 k (nI s)) 0 23 (nI (k + 1)) 8 = E1 8 := by rw [up2_o (by decide), up2_o (by decide), up2_o (by decide)]
    have s10 : up2 (up2 (up2 E1 11 k (nI t)) 12 k (nI s)) 0 23 (nI (k + 1)) 10 = E1 10 := by rw [up2_o (by decide), up2_o (by decide), up2_o (by decide)]
    rw [s10] at c2
    rw [s8] at c3
    refine ⟨rfl, E2, er2, q1.ups (fun _ _ _ => rfl) (fun c u v => o c (by omega) (by omega) (by omega) (by omega)) (fun j hj => o0 j (by omega)), ⟨q2.1, by rw [o0 9 (by decide)]; exact q2.2.1, by rw [o0 10 (by decide)]; exact q2.2.2.1, by rw [o0 11 (by decide)]; exact q2.2.2.2⟩, ?_, o23, ?_, fun j hj => ⟨by rw [o 8 (by decide) (by decide) (by decide) (by decide), (q3 j hj).1], by rw [o10, c3 j (by omega) hj, (q3 j hj).1], (q3 j hj).2⟩, fun i hi => by rw [o10, c2 i (by omega), p4.1 10 (by decide) (by decide) (by decide) (by decide)], fun i hi => ⟨by rw [o11, if_neg hi, p4.1 11 (by decide) (by decide) (by decide) (by decide)], by rw [o12, if_neg hi, p4.1 12 (by decide) (by decide) (by decide) (by decide)]⟩, by rw [o11, if_pos rfl], by rw [o12, if_pos rfl]⟩
    · refine (p4.mono (by decide) (by decide)).trans ⟨fun c u _ _ v => o c (fun q => v (by rw [q]; decide)) (by omega) (fun q => v (by rw [q]; decide)) (fun q => v (by rw [q]; decide)), fun j _ v => o0 j (fun q => v (by rw [q]; decide))⟩
    · rw [o0 24 (by decide), p4.2 24 (by decide) (by decide)]
  · left
    rw [p2, bi_s, if_neg z2, ends_neg z1] at er
    exact ⟨z1, q3, _, er, q1, q2, (p4.mono (by decide) (by decide)).trans (tM_dm _ _)⟩
def DirEnd (D E D1 E1 : Mm) (e b' : Int32) : Prop := Core D1 E1 ∧ Stt D1 E1 ∧ D1 1 0 = e ∧ DX [58, 59, 60] D D1 ∧ DM [10, 11, 12] [23, 24, 25] E E1 ∧ ((¬ e = 0 ∧ b' = 0) ∨ (e = 0 ∧ b' = 1 ∧ D1 58 11 = 0 ∧ (Fnd D1 E1 ∨ NFnd D1 E1)))
theorem dir_go {F : Nat} {a b : Int32} (hF : 9000 ≤ F) : ∀ (m k n fm t s : Nat) (D E : Mm), k + m = 7 → 1 ≤ m → m < n → m < fm → Vd t s → ¬ D 2 3 = -1 → Core D E → Stt D E → D 1 0 = 0 → D 58 3 = nI t → D 58 4 = nI s → D 58 5 = nI (k + 1) → D 58 6 = -1 → D 58 11 = 0 → E 0 23 = nI k → E 0 24 = -1 → RoomOk D (E 10) (E 11) (E 12) (5 * k) → DirV E k → ∃ (e b' : Int32) (D1 E1 : Mm), bi (P_X0_fetch (gN XG) F 59 (nI t) (nI s) D) (fun r D' => P_X7_lookFor_20 (gN XG) F n a b r (nI k) D') = some (e, D1) ∧ P_X8_readDirectory_17 (gN MG) F fm 1 a b (nI t) (nI s) E = some (b', E1) ∧ DirEnd D E D1 E1 e b' := by
  intro m
  induction m with
  | zero => intro k n fm t s D E hm h; exact absurd h (by decide)
  | succ m ih =>
    intro k n fm t s D E hm _ hn hfm hv hid hc hst h0 h3 h4 h5 h6 h11 h23 h24 hR hV
    obtain ⟨n, rfl⟩ : ∃ z, n = z + 1 := ⟨n - 1, by omega⟩
    obtain ⟨fm, rfl⟩ : ∃ z, fm = z + 1 := ⟨fm - 1, by omega⟩
    obtain ⟨e, D1, p1, p2, p3⟩ := dread_sim (F := F) (n := fm) (x1 := 1) (a := a) (b := b) hF (show k < 7 by omega) hv hid hc h23
    rw [p1, bi_s]
    have e7 : ¬ (7 : Int32) ≤ nI k := nI_ge (b := 7) (by omega) (by omega)
    have dx1 : DX [58, 59, 60] D D1 := p2.mono (by decide)
    rcases p3 with ⟨z1, q1, E1, q2, q3, q4, q5⟩ | ⟨rfl, E1, q1, q2, q3, q4, q5, q6, q7, q8, q9, q10, q11⟩
    · refine ⟨e, 0, D1, E1, ?_, q2, q3, q4, q1, dx1, q5, Or.inl ⟨z1, rfl⟩⟩
      show (if (7 : Int32) ≤ nI k then _ else (if e = 0 then _ else some (e, D1))) = _
      rw [if_neg e7, if_neg z1]
    · have o58 : D1 58 = D 58 := p2.2 58 (by decide) (by decide)
      have o60 : D1 60 = D 60 := p2.2 60 (by decide) (by decide)
      have R1 : RoomOk D1 (E1 10) (E1 11) (E1 12) (5 * k) := hR.move q8 (fun i hi => q9 i (by omega)) ⟨by rw [o58], by rw [o58], by rw [o58]⟩ o60
      have V1 : DirV E1 (k + 1) := by
        intro i hi
        by_cases c : i = k
        · subst c; exact ⟨t, s, hv, q10, q11⟩
        · obtain ⟨t', s', v1, v2, v3⟩ := hV i (by omega)
          exact ⟨t', s', v1, by rw [(q9 i c).1]; exact v2, by rw [(q9 i c).2]; exact v3⟩
      have st1 := q3.stt hst
      have l1 : D1 1 0 = 0 := by rw [q3.1]; exact h0
      have n1 : P_X7_lookFor_20 (gN XG) F (n + 1) a b 0 (nI k) D1 = bi (P_X3_findEntry_2 (gN XG) F F a b (nI (2 + 12 * 0)) D1) (fun r3 D3 => if r3 = 0 then (bi (P_X3_isLast (gN XG) F D3) (fun r5 D5 => if r5 = 0 then (bi (P_X3_step (gN XG) F D5) (fun r7 D7 => P_X7_lookFor_20 (gN XG) F n a b r7 (nI (k + 1)) D7)) else (some (0, D5)))) else (some (0, D3))) := by
        show (if (7 : Int32) ≤ nI k then some (0, D1) else (if (0 : Int32) = 0 then (bi (P_X3_findEntry (gN XG) F a b D1) (fun r3 D3 => if r3 = 0 then (bi (P_X3_isLast (gN XG) F D3) (fun r5 D5 => if r5 = 0 then (bi (P_X3_step (gN XG) F D5) (fun r7 D7 => P_X7_lookFor_20 (gN XG) F n a b r7 (nI k + 1) D7)) else (some (0, D5)))) else (some (0, D3)))) else some (0, D1))) = _
        rw [if_neg e7, if_pos rfl, nI_1]
        rfl
      rw [n1, q1]
      rcases look_go (F := F) (k := k) (a := a) (b := b) (x4 := nI t) (x5 := nI s) (K := fun x1 x2 x3 x4 x5 D => P_X8_readDirectory_17 (gN MG) F fm x1 x2 x3 x4 x5 D) hF (by omega) 5 0 F F D1 E1 (by decide) (by omega) (by omega) (fun j hj => (q7 j hj).2.1) (by rw [o58, h3, q10]) (by rw [o58, h4, q11]) R1 (by rw [q6]; exact h24) q5 (by rw [o58]; exact h6) with ⟨D2, i', r0, r1, r2, r3, r4⟩ | ⟨D2, r1, r2, r3, r4, r5⟩
      · rw [r1, bi_s, if_neg (by decide)]
        have r2' : P_X8_readDirectory_128 (gN MG) F (fun x1 x2 x3 x4 x5 D => P_X8_readDirectory_17 (gN MG) F fm x1 x2 x3 x4 x5 D) F 1 a b (nI t) (nI s) (nI (64 * k)) (nI 2) E1 = _ := r2
        rw [r2']
        obtain ⟨E2, hE2⟩ : ∃ z, z = up2 (up2 E1 0 24 (nI k)) 0 25 (nI (64 * k + (2 + 12 * i'))) := ⟨_, rfl⟩
        rw [← hE2]
        have y : ∀ c, c ≠ 0 → E2 c = E1 c := fun c hc => by rw [hE2, up2_o hc, up2_o hc]
        have y0 : ∀ j, j ≠ 24 → j ≠ 25 → E2 0 j = E1 0 j := fun j u v => by rw [hE2, up2_app, if_neg (by omega), up2_app, if_neg (by omega)]
        have y24 : E2 0 24 = nI k := by rw [hE2, up2_app, if_neg (by omega), up2_app, if_pos ⟨rfl, rfl⟩]
        have y25 : E2 0 25 = nI (64 * k + (2 + 12 * i')) := by rw [hE2, up2_app, if_pos ⟨rfl, rfl⟩]
        have em : P_X8_readDirectory_185 (gN MG) F (fun x1 x2 x3 x4 x5 D => P_X8_readDirectory_17 (gN MG) F fm x1 x2 x3 x4 x5 D) 1 a b (nI t) (nI s) E2 = some (1, E2) := by
          unfold P_X8_readDirectory_185
          rw [y24, if_pos (show (0 : Int32) ≤ nI k from nI_le (a := 0) (by omega) (by omega))]
        have w59 : D2 59 = D1 59 := r4.1 59 (by decide) (by decide)
        refine ⟨0, 1, D2, E2, rfl, em, q2.ups (fun c u v => r4.1 c (by omega) (by omega)) (fun c u v => y c (by omega)) (fun j hj => y0 j (by omega) (by omega)), ?_, by rw [r4.1 1 (by decide) (by decide)]; exact l1, dx1.trans ⟨by rw [r4.1 2 (by decide) (by decide)], fun c u v => r4.1 c (fun q => v (by rw [q]; decide)) (fun q => v (by rw [q]; decide))⟩, q4.trans ⟨fun c u _ _ _ => y c (by omega), fun j _ v => y0 j (fun q => v (by rw [q]; decide)) (fun q => v (by rw [q]; decide))⟩, Or.inr ⟨rfl, rfl, by rw [r4.2 11 (by decide) (by decide) (by decide) (by decide), o58]; exact h11, Or.inl ⟨k, i', t, s, by omega, r0, hv, r3, y24, y25, by rw [r4.2 3 (by decide) (by decide) (by decide) (by decide), o58]; exact h3, by rw [r4.2 4 (by decide) (by decide) (by decide) (by decide), o58]; exact h4, by rw [y 11 (by decide)]; exact q10, by rw [y 12 (by decide)]; exact q11, fun j hj => by rw [y 10 (by decide), w59]; exact (q7 j hj).2⟩⟩⟩
        unfold Stt at st1 ⊢
        rw [r4.1 1 (by decide) (by decide), y0 9 (by decide) (by decide), y0 10 (by decide) (by decide), y0 11 (by decide) (by decide)]
        exact st1
      · have r2' : P_X8_readDirectory_128 (gN MG) F (fun x1 x2 x3 x4 x5 D => P_X8_readDirectory_17 (gN MG) F fm x1 x2 x3 x4 x5 D) F 1 a b (nI t) (nI s) (nI (64 * k)) (nI 2) E1 = _ := r2
        rw [r1, bi_s, if_pos rfl, r2']
        have w59 : D2 59 = D1 59 := r5.1 59 (by decide) (by decide)
        have w1 : D2 1 = D1 1 := r5.1 1 (by decide) (by decide)
        have dx2 : DX [58, 59, 60] D D2 := dx1.trans ⟨by rw [r5.1 2 (by decide) (by decide)], fun c u v => r5.1 c (fun q => v (by rw [q]; decide)) (fun q => v (by rw [q]; decide))⟩
        have c2 : Core D2 E1 := q2.ups (fun c u v => r5.1 c (by omega) (by omega)) (fun _ _ _ => rfl) (fun _ _ => rfl)
        have st2 : Stt D2 E1 := by
          unfold Stt at st1 ⊢
          rw [w1]
          exact st1
        have h58 : ∀ j, j ≠ 6 → j ≠ 7 → j ≠ 9 → j ≠ 10 → D2 58 j = D 58 j := fun j u v w x => by rw [r5.2 j u v w x, o58]
        have g3 := (h58 3 (by decide) (by decide) (by decide) (by decide)).trans h3
        have g4 := (h58 4 (by decide) (by decide) (by decide) (by decide)).trans h4
        have g5 := (h58 5 (by decide) (by decide) (by decide) (by decide)).trans h5
        have g11 := (h58 11 (by decide) (by decide) (by decide) (by decide)).trans h11
        obtain ⟨ml, mm⟩ := m185_eq (F := F) (x1 := 1) (a := a) (b := b) (x4 := nI t) (x5 := nI s) (K := fun x1 x2 x3 x4 x5 D => P_X8_readDirectory_17 (gN MG) F fm x1 x2 x3 x4 x5 D) (E := E1) (by rw [q6]; exact h24)
        obtain ⟨xl, xm⟩ := isLast_eq (F := F) (D := D2)
        have row8 : ∀ j, j < 64 → E1 8 j = D2 59 j := fun j hj => by rw [w59]; exact (q7 j hj).1
        by_cases cl : D2 59 0 = 0 ∧ D2 59 1 = 0
        · rw [xl cl, bi_s, if_neg (by decide), ml (by rw [row8 0 (by omega), row8 1 (by omega)]; exact cl)]
          refine ⟨0, 1, D2, E1, rfl, rfl, c2, st2, by rw [w1]; exact l1, dx2, q4, Or.inr ⟨rfl, rfl, g11, Or.inr ⟨k, t, s, by omega, hv, r3, by rw [q6]; exact h24, q5, g5, g3, g4, q10, q11, fun j hj => by rw [w59]; exact (q7 j hj).2.1, r4, V1⟩⟩⟩
        · rw [xm cl, bi_s, if_pos rfl, mm (by rw [row8 0 (by omega), row8 1 (by omega)]; exact cl)]
          rcases step_sim (F := F) (x1 := 1) (a := a) (b := b) (K := fun x1 x2 x3 x4 x5 D => P_X8_readDirectory_17 (gN MG) F fm x1 x2 x3 x4 x5 D) (show k < 7 by omega) row8 g3 g4 g5 q5 with ⟨s1, s2⟩ | ⟨hk6, t', s', v', s1, s2⟩
          · rw [s1, s2, bi_s]
            obtain ⟨n, rfl⟩ : ∃ z, n = z + 1 := ⟨n - 1, by omega⟩
            refine ⟨66, 0, tX 66 (nI t) (nI s) D2, tM 66 (nI t) (nI s) E1, ?_, rfl, t_core c2, t_stt, tX_0, dx2.trans (tX_dx _), q4.trans (tM_dm _ _), Or.inl ⟨by decide, rfl⟩⟩
            show (if (7 : Int32) ≤ nI (k + 1) then some (66, _) else (if (66 : Int32) = 0 then _ else some (66, _))) = _
            rw [if_neg (show ¬ ((66 : Int32) = 0) by decide), ite_self]
          · rw [s1, s2]
            obtain ⟨D3, hD3⟩ : ∃ z, z = up2 (up2 (up2 D2 58 5 (nI (k + 2))) 58 3 (nI t')) 58 4 (nI s') := ⟨_, rfl⟩
            rw [← hD3]
            have x : ∀ c, c ≠ 58 → D3 c = D2 c := fun c hc => by rw [hD3, up2_o hc, up2_o hc, up2_o hc]
            have x8 : ∀ j, j ≠ 3 → j ≠ 4 → j ≠ 5 → D3 58 j = D2 58 j := fun j u v w => by rw [hD3, up2_app, if_neg (by omega), up2_app, if_neg (by omega), up2_app, if_neg (by omega)]
            have dx3 : DX [58, 59, 60] D D3 := dx2.trans ⟨by rw [x 2 (by decide)], fun c u v => x c (fun q => v (by rw [q]; decide))⟩
            have bb : ∀ z : Rs, bi (bi z (fun r2 D2 => some (r2, D2))) (fun r7 D7 => P_X7_lookFor_20 (gN XG) F n a b r7 (nI (k + 1)) D7) = bi z (fun r7 D7 => P_X7_lookFor_20 (gN XG) F n a b r7 (nI (k + 1)) D7) := by
              intro z
              cases z with
              | none => rfl
              | some w => rfl
            rw [bb]
            obtain ⟨e, b', D4, E4, w1', w2', w3, w4, w5, w6, w7, w8⟩ := ih (k + 1) n fm t' s' D3 E1 (by omega) (by omega) (by omega) (by omega) v' (by rw [dx3.1]; exact hid) (c2.ups (fun c u v => x c (by omega)) (fun _ _ _ => rfl) (fun _ _ => rfl)) (by unfold Stt at st2 ⊢; rw [x 1 (by decide)]; exact st2) (by rw [x 1 (by decide), w1]; exact l1) (by rw [hD3, up2_app, if_neg (by omega), up2_app, if_pos ⟨rfl, rfl⟩]) (by rw [hD3, up2_app, if_pos ⟨rfl, rfl⟩]) (by rw [hD3, up2_app, if_neg (by omega), up2_app, if_neg (by omega), up2_app, if_pos ⟨rfl, rfl⟩]) (by rw [x8 6 (by decide) (by decide) (by decide)]; exact r3) (by rw [x8 11 (by decide) (by decide) (by decide)]; exact g11) q5 (by rw [q6]; exact h24) (by
                rw [show 5 * (k + 1) = 5 * k + 5 by omega]
                have := r4.move (D1 := D3) (k := k + 1) (dir1 := E1 10) (T1 := E1 11) (S1 := E1 12) (dir := E1 10) (T := E1 11) (S := E1 12) (fun _ _ => rfl) (fun _ _ => ⟨rfl, rfl⟩) ⟨x8 7 (by decide) (by decide) (by decide), x8 9 (by decide) (by decide) (by decide), x8 10 (by decide) (by decide) (by decide)⟩ (x 60 (by decide))
                exact this) V1
            exact ⟨e, b', D4, E4, w1', w2', w3, w4, w5, dx3.trans w6, q4.trans w7, w8⟩
theorem look_sim {Dx Dm : Mm} {F : Nat} {a b : Int32} (hF : 9000 ≤ F) (hc : Core Dx Dm) (hid : IdOk (Dx 2 3)) : ∃ (e : Int32) (D1 E1 : Mm), P_X7_lookFor (gN XG) F a b Dx = some (e, D1) ∧ Core D1 E1 ∧ Stt D1 E1 ∧ D1 1 0 = e ∧ DX [57, 58, 59, 60] Dx D1 ∧ DM [9, 10, 11, 12] [23, 24, 25] Dm E1 ∧ ((¬ e = 0 ∧ ∀ K : Mm → Rs, bi (P_X8_begins (gN MG) F Dm) (fun r D => if r = 0 then some (0, D) else bi (P_X8_readDirectory (gN MG) F 1 a b D) (fun r2 D2 => if r2 = 0 then some (0, D2) else K D2)) = some (0, E1)) ∨ (e = 0 ∧ (∀ K : Mm → Rs, bi (P_X8_begins (gN MG) F Dm) (fun r D => if r = 0 then some (0, D) else bi (P_X8_readDirectory (gN MG) F 1 a b D) (fun r2 D2 => if r2 = 0 then some (0, D2) else K D2)) = K E1) ∧ ¬ D1 2 3 = -1 ∧ D1 58 11 = 0 ∧ (∀ j, j < 64 → D1 57 j = E1 9 j ∧ By (D1 57 j)) ∧ (Fnd D1 E1 ∨ NFnd D1 E1))) := by
  obtain ⟨e, b0, D1, E1, p1, p2, p3, p4, p5, p6, p7, p8⟩ := open_sim (F := F) hF hc hid
  unfold P_X7_lookFor
  rw [p1, bi_s]
  rcases p8 with ⟨rfl, rfl, i1, i2⟩ | ⟨z1, rfl⟩
  · rw [if_pos rfl]
    obtain ⟨D2, hD2⟩ : ∃ z, z = up2 (up2 (up2 (up2 (up2 (up2 D1 58 6 (-1)) 58 7 (-1)) 58 11 0) 58 5 1) 58 3 9) 58 4 1 := ⟨_, rfl⟩
    obtain ⟨E2, hE2⟩ : ∃ z, z = up2 (up2 E1 0 23 0) 0 24 (-1) := ⟨_, rfl⟩
    have x : ∀ c, c ≠ 58 → D2 c = D1 c := fun c q => by rw [hD2, up2_o q, up2_o q, up2_o q, up2_o q, up2_o q, up2_o q]
    have y : ∀ c, c ≠ 0 → E2 c = E1 c := fun c q => by rw [hE2, up2_o q, up2_o q]
    have y0 : ∀ j, j ≠ 23 → j ≠ 24 → E2 0 j = E1 0 j := fun j u v => by rw [hE2, up2_app, if_neg (by omega), up2_app, if_neg (by omega)]
    have x3 : D2 58 3 = nI 9 := by rw [hD2, up2_app, if_neg (by omega), up2_app, if_pos ⟨rfl, rfl⟩]; rfl
    have x4 : D2 58 4 = nI 1 := by rw [hD2, up2_app, if_pos ⟨rfl, rfl⟩]; rfl
    have x5 : D2 58 5 = nI (0 + 1) := by rw [hD2]; simp [up2_app]; rfl
    have x6 : D2 58 6 = -1 := by rw [hD2]; simp [up2_app]
    have x7 : D2 58 7 = -1 := by rw [hD2]; simp [up2_app]
    have x11 : D2 58 11 = 0 := by rw [hD2]; simp [up2_app]
    have y23 : E2 0 23 = nI 0 := by rw [hE2, up2_app, if_neg (by omega), up2_app, if_pos ⟨rfl, rfl⟩]; rfl
    have y24 : E2 0 24 = -1 := by rw [hE2, up2_app, if_pos ⟨rfl, rfl⟩]
    have ex : bi (P_X3_begin (gN XG) F D1) (fun r10 D10 => P_X7_lookFor_20 (gN XG) F F a b r10 0 D10) = bi (P_X0_fetch (gN XG) F 59 (nI 9) (nI 1) D2) (fun r D' => P_X7_lookFor_20 (gN XG) F F a b r (nI 0) D') := by
      show bi (bi (P_X0_fetch (gN XG) F 59 ((up2 (up2 (up2 (up2 (up2 (up2 D1 58 6 (-1)) 58 7 (-1)) 58 11 0) 58 5 1) 58 3 9) 58 4 1) 58 3) ((up2 (up2 (up2 (up2 (up2 (up2 D1 58 6 (-1)) 58 7 (-1)) 58 11 0) 58 5 1) 58 3 9) 58 4 1) 58 4) (up2 (up2 (up2 (up2 (up2 (up2 D1 58 6 (-1)) 58 7 (-1)) 58 11 0) 58 5 1) 58 3 9) 58 4 1)) (fun r1 D1 => some (r1, D1))) (fun r10 D10 => P_X7_lookFor_20 (gN XG) F F a b r10 0 D10) = _
      rw [← hD2, x3, x4]
      cases P_X0_fetch (gN XG) F 59 (nI 9) (nI 1) D2 with
      | none => rfl
      | some w => rfl
    have em : P_X8_readDirectory (gN MG) F 1 a b E1 = P_X8_readDirectory_17 (gN MG) F F 1 a b (nI 9) (nI 1) E2 := by rw [hE2]; rfl
    have c2 : Core D2 E2 := p3.ups (fun c u v => x c (by omega)) (fun c u v => y c (by omega)) (fun j hj => y0 j (by omega) (by omega))
    have st2 : Stt D2 E2 := by
      unfold Stt at p4 ⊢
      rw [x 1 (by decide), y0 9 (by decide) (by decide), y0 10 (by decide) (by decide), y0 11 (by decide) (by decide)]
      exact p4
    obtain ⟨e, b', D3, E3, w1, w2, w3, w4, w5, w6, w7, w8⟩ := dir_go (F := F) (a := a) (b := b) hF 7 0 F F 9 1 D2 E2 (by decide) (by decide) (by omega) (by omega) ⟨by decide, by decide, by decide⟩ (by rw [x 2 (by decide)]; exact i1) c2 st2 (by rw [x 1 (by decide)]; exact p5) x3 x4 x5 x6 x11 y23 y24 (Or.inl ⟨x7, fun g hg => by omega⟩) (fun i hi => by omega)
    have dx : DX [57, 58, 59, 60] Dx D3 := ((p6.mono (by decide)).trans ⟨by rw [x 2 (by decide)], fun c u v => x c (fun q => v (by rw [q]; decide))⟩).trans (w6.mono (by decide))
    have dm : DM [9, 10, 11, 12] [23, 24, 25] Dm E3 := ((p7.mono (by decide) (by decide)).trans ⟨fun c u _ _ _ => y c (by omega), fun j _ v => y0 j (fun q => v (by rw [q]; decide)) (fun q => v (by rw [q]; decide))⟩).trans (w7.mono (by decide) (by decide))
    rw [ex, w1]
    refine ⟨e, D3, E3, rfl, w3, w4, w5, dx, dm, ?_⟩
    rcases w8 with ⟨z1, rfl⟩ | ⟨rfl, rfl, g1, g2⟩
    · left
      refine ⟨z1, fun K => ?_⟩
      rw [p2, bi_s, if_neg (by decide), em, w2, bi_s, if_pos rfl]
    · right
      refine ⟨rfl, fun K => ?_, by rw [w6.1, x 2 (by decide)]; exact i1, g1, fun j hj => ?_, g2⟩
      · rw [p2, bi_s, if_neg (by decide), em, w2, bi_s, if_neg (by decide)]
      · rw [w6.2 57 (by decide) (by decide), x 57 (by decide), w7.1 9 (by decide) (by decide) (by decide) (by decide), y 9 (by decide)]
        exact i2 j hj
  · rw [if_neg z1]
    have ex : P_X7_lookFor_20 (gN XG) F F a b e 0 D1 = some (e, D1) := by
      obtain ⟨f, hf⟩ : ∃ z, F = z + 1 := ⟨F - 1, by omega⟩
      rw [hf]
      show (if (7 : Int32) ≤ 0 then _ else (if e = 0 then _ else some (e, D1))) = _
      rw [if_neg (by decide), if_neg z1]
    rw [ex]
    refine ⟨e, D1, E1, rfl, p3, p4, p5, p6.mono (by decide), p7.mono (by decide) (by decide), Or.inl ⟨z1, fun K => ?_⟩⟩
    rw [p2, bi_s, if_pos rfl]
