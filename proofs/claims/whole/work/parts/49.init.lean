/-! INIT: what the constructors lay -/
def rs (j : Nat) : Nat := if j < 16 then rsz j else 114
def InvD (n : Nat) (D : Mm) : Prop := D 2 3 = -1 ∧ (∀ j, j < n → D (4 + 3 * j) 1 = nI (8 * rs j)) ∧ ∀ c k, ¬ (c = 2 ∧ k = 3) → (∀ j, j < n → ¬ (c = 4 + 3 * j ∧ k = 1)) → D c k = 0
theorem inv_step {n : Nat} {G : Gr} {D : Mm} (h : InvD n D) (hg : gn G = 4 + 3 * n) : InvD (n + 1) (m_X5_init (gPush G 5 0) (upA D (gn G) (fun _ => 0)) (gn G) (rs n)) := by
  have e : m_X5_init (gPush G 5 0) (upA D (gn G) (fun _ => 0)) (gn G) (rs n) = upA (up2 (upA (upA D (4 + 3 * n) (fun _ => 0)) (4 + 3 * n + 1) (fun _ => 0)) (4 + 3 * n) 1 (nI (8 * rs n))) (4 + 3 * n + 2) (fun _ => 0) := by
    rw [← hg]
    rfl
  rw [e]
  obtain ⟨h1, h2, h3⟩ := h
  have lo : ∀ c, c < 4 + 3 * n → upA (up2 (upA (upA D (4 + 3 * n) (fun _ => 0)) (4 + 3 * n + 1) (fun _ => 0)) (4 + 3 * n) 1 (nI (8 * rs n))) (4 + 3 * n + 2) (fun _ => 0) c = D c := fun c hc => by rw [upA_ne (by omega), up2_o (by omega), upA_ne (by omega), upA_ne (by omega)]
  refine ⟨by rw [lo 2 (by omega)]; exact h1, ?_, ?_⟩
  · intro j hj
    by_cases c : j = n
    · subst c
      rw [upA_ne (by omega), up2_app, if_pos ⟨rfl, rfl⟩]
    · rw [lo _ (by omega)]
      exact h2 j (by omega)
  · intro c k ne1 ne2
    by_cases c2 : c = 4 + 3 * n + 2
    · subst c2
      rw [upA_row]
    rw [upA_ne c2, up2_app, if_neg (ne2 n (by omega))]
    by_cases c1 : c = 4 + 3 * n + 1
    · subst c1
      rw [upA_row]
    rw [upA_ne c1]
    by_cases c0 : c = 4 + 3 * n
    · subst c0
      rw [upA_row]
    rw [upA_ne c0]
    exact h3 c k ne1 (fun j hj => ne2 j (by omega))
theorem gn_rG {G : Gr} {ra : Nat} : ∀ i, gn (rG G ra i) = gn G + 3 * i
  | 0 => rfl
  | i + 1 => by
    show gn (rG G ra i) + 1 + 1 + 1 = _
    rw [gn_rG i]
    omega
theorem inv_rD {G : Gr} {D : Mm} {ra : Nat} (hg : gn G = 4) (h : InvD 0 D) : ∀ i, i ≤ 16 → InvD i (rD G D ra i)
  | 0, _ => h
  | i + 1, hi => by
    have := inv_step (n := i) (G := rG G ra i) (inv_rD (ra := ra) hg h i (by omega)) (by rw [gn_rG, hg])
    rw [show rs i = rsz i from if_pos (by omega)] at this
    exact this
theorem inv_b2 (E3 : Mm) : InvD 17 (bD2 gXb (x7_D8 gX0 dX0 E3 0) cXb cXs) := by
  have z : ∀ c k, x7_D8 gX0 dX0 E3 0 c k = 0 := by
    intro c k
    show upA (upA (upA dZ 0 (fun _ => 0)) 1 (fun _ => 0)) 2 (fun _ => 0) c k = 0
    by_cases c2 : c = 2
    · subst c2; rw [upA_row]
    rw [upA_ne c2]
    by_cases c1 : c = 1
    · subst c1; rw [upA_row]
    rw [upA_ne c1]
    by_cases c0 : c = 0
    · subst c0; rw [upA_row]
    rw [upA_ne c0]
    rfl
  have h0 : InvD 0 (bD0 gXb (x7_D8 gX0 dX0 E3 0) cXb) := by
    have e : bD0 gXb (x7_D8 gX0 dX0 E3 0) cXb = upA (up2 (x7_D8 gX0 dX0 E3 0) 2 3 (-1)) 3 (fun _ => 0) := rfl
    rw [e]
    refine ⟨by rw [upA_ne (by decide), up2_app, if_pos ⟨rfl, rfl⟩], fun j hj => by omega, fun c k ne1 _ => ?_⟩
    by_cases c3 : c = 3
    · subst c3; rw [upA_row]
    rw [upA_ne c3, up2_app, if_neg ne1]
    exact z c k
  have h1 := inv_rD (G := bG0 gXb cXb cXs) (ra := gn gXb) (by decide +kernel) h0 16 (by decide)
  exact inv_step (n := 16) (G := bG1 gXb cXb cXs) h1 (by decide +kernel)
theorem dfin_nf (E3 : Mm) : m_X7_init gX0 dX0 E3 0 = upA (upA (upA (upA (upA (upA (upA (upA (upA (upA (upA (upA (up2 (up2 (upA (upA (upA (upA (upA E3 56 (fun _ => 0)) 57 (fun _ => 0)) 58 (fun _ => 0)) 59 (fun _ => 0)) 60 (fun _ => 0)) 58 6 (-1)) 58 7 (-1)) 61 (fun _ => 0)) 62 (fun _ => 0)) 63 (fun _ => 0)) 64 (fun _ => 0)) 65 (fun _ => 0)) 66 (fun _ => 0)) 67 (fun _ => 0)) 68 (fun _ => 0)) 69 (fun _ => 0)) 70 (fun _ => 0)) 71 (fun _ => 0)) 72 (fun _ => 0) := by
  have g11 : gn (x7_G11 gX0 0) = 56 := by decide +kernel
  have g12 : gn (x7_G12 gX0 0) = 57 := by decide +kernel
  have g17 : gn (x7_G17 gX0 0) = 58 := by decide +kernel
  have g18 : gn (x7_G18 gX0 0) = 59 := by decide +kernel
  have g23 : gn (x7_G23 gX0 0) = 61 := by decide +kernel
  have g24 : gn (x7_G24 gX0 0) = 62 := by decide +kernel
  have g29 : gn (x7_G29 gX0 0) = 65 := by decide +kernel
  have g30 : gn (x7_G30 gX0 0) = 66 := by decide +kernel
  have g35 : gn (x7_G35 gX0 0) = 67 := by decide +kernel
  have g36 : gn (x7_G36 gX0 0) = 68 := by decide +kernel
  have g41 : gn (x7_G41 gX0 0) = 69 := by decide +kernel
  have g42 : gn (x7_G42 gX0 0) = 70 := by decide +kernel
  have g47 : gn (x7_G47 gX0 0) = 71 := by decide +kernel
  have g51 : gn (x7_G51 gX0 0) = 72 := by decide +kernel
  unfold m_X7_init x7_D53 x7_D49 x7_D46 x7_D43 x7_D40 x7_D37 x7_D34 x7_D31 x7_D28 x7_D25 x7_D22 x7_D19 x7_D16 x7_D13 m_X1_init m_X2_init m_X3_init m_X4_init
  have s1 : ∀ (G : Gr) (k N c i v : Nat), gn (gSet (gPush G k N) c i v) = gn G + 1 := fun _ _ _ _ _ _ => rfl
  simp only [s1, g11, g12, g17, g18, g23, g24, g29, g30, g35, g36, g41, g42, g47, g51]
theorem dfin_lo (E3 : Mm) {c : Nat} (h : c ≤ 55) : m_X7_init gX0 dX0 E3 0 c = E3 c := by
  rw [dfin_nf, upA_ne (by omega), upA_ne (by omega), upA_ne (by omega), upA_ne (by omega), upA_ne (by omega), upA_ne (by omega), upA_ne (by omega), upA_ne (by omega), upA_ne (by omega), upA_ne (by omega), upA_ne (by omega), upA_ne (by omega), up2_o (by omega), up2_o (by omega), upA_ne (by omega), upA_ne (by omega), upA_ne (by omega), upA_ne (by omega), upA_ne (by omega)]
theorem dfin_hi (E3 : Mm) : m_X7_init gX0 dX0 E3 0 65 1 = 0 ∧ m_X7_init gX0 dX0 E3 0 67 1 = 0 ∧ m_X7_init gX0 dX0 E3 0 69 1 = 0 := by
  rw [dfin_nf]
  refine ⟨?_, ?_, ?_⟩
  · rw [upA_ne (by decide), upA_ne (by decide), upA_ne (by decide), upA_ne (by decide), upA_ne (by decide), upA_ne (by decide), upA_ne (by decide), upA_row]
  · rw [upA_ne (by decide), upA_ne (by decide), upA_ne (by decide), upA_ne (by decide), upA_ne (by decide), upA_row]
  · rw [upA_ne (by decide), upA_ne (by decide), upA_ne (by decide), upA_row]
theorem setCodes_eq {F i : Nat} {a b c d : Int32} {E : Mm} (hi : i + 3 < 16) : P_X8_setCodes (gN MG) F (nI i) a b c d E = some (0, up2 (up2 (up2 (up2 E 3 i a) 3 (i + 1) b) 3 (i + 2) c) 3 (i + 3) d) := by
  have n3 : gN MG 3 = 16 := rfl
  unfold P_X8_setCodes P_X8_setCodes_16
  rw [show nI i + (1 : Int32) = nI (i + 1) from nI_add i 1, show nI i + (2 : Int32) = nI (i + 2) from nI_add i 2, show nI i + (3 : Int32) = nI (i + 3) from nI_add i 3, n3, if_pos (in_nI (by omega) (by omega)), if_pos (in_nI (by omega) (by omega)), if_pos (in_nI (by omega) (by omega)), if_pos (in_nI (by omega) (by omega)), nI_clamp (by omega), nI_clamp (by omega), nI_clamp (by omega), nI_clamp (by omega)]
def c4 (i : Nat) (a b c d : Int32) (E : Mm) : Mm := up2 (up2 (up2 (up2 E 3 i a) 3 (i + 1) b) 3 (i + 2) c) 3 (i + 3) d
def eI : Mm := c4 12 13 29 30 21 (c4 8 9 25 26 27 (c4 4 14 15 22 23 (c4 0 10 11 18 19 x8_D55)))
def dI : Mm := m8b 16 0 (m8a 32 0 eI)
theorem eI_in : ∀ i, i < 16 → inB (eI 3 i) 32 = true := by decide +kernel
theorem dI_4 : ∀ j, j < 32 → dI 4 j = tHALVES j := by decide +kernel
theorem dI_3 : ∀ j, j < 16 → dI 3 j = tFIVES j := by decide +kernel
theorem m8a_o {c : Nat} (h : c ≠ 4) : ∀ (n i : Nat) (D : Mm), m8a n i D c = D c
  | 0, _, _ => rfl
  | n + 1, i, D => by
    show m8a n (i + 1) (up2 D 4 i (-1)) c = _
    rw [m8a_o h n (i + 1), up2_o h]
theorem m8b_o {c : Nat} (h : c ≠ 4) : ∀ (n i : Nat) (D : Mm), m8b n i D c = D c
  | 0, _, _ => rfl
  | n + 1, i, D => by
    show m8b n (i + 1) (up2 D 4 (D 3 i).toNatClampNeg (nI i)) c = _
    rw [m8b_o h n (i + 1), up2_o h]
theorem c4_o {c i : Nat} {a b d e : Int32} {E : Mm} (h : c ≠ 3) : c4 i a b d e E c = E c := by
  unfold c4
  rw [up2_o h, up2_o h, up2_o h, up2_o h]
theorem dI_o {c : Nat} (h3 : c ≠ 3) (h4 : c ≠ 4) : dI c = x8_D55 c := by
  unfold dI eI
  rw [m8b_o h4, m8a_o h4, c4_o h3, c4_o h3, c4_o h3, c4_o h3]
def AZ (D : Mm) : Prop := ∀ c k, ¬ (c = 0 ∧ k = 4) → D c k = 0
theorem AZ.z {D : Mm} {c0 : Nat} (h : AZ D) : AZ (upA D c0 (fun _ => 0)) := by
  intro c k ne
  by_cases q : c = c0
  · subst q; rw [upA_row]
  · rw [upA_ne q]; exact h c k ne
theorem AZ.m {D : Mm} {v : Int32} (h : AZ D) : AZ (up2 D 0 4 v) := by
  intro c k ne
  rw [up2_app, if_neg ne]
  exact h c k ne
theorem az55 : AZ x8_D55 := by
  have h0 : AZ dZ := fun _ _ _ => rfl
  have h1 : AZ x8_D17 := h0.z.z.z.z.m
  exact h1.z.z.z.z.z.z.z.z.z.z
theorem d55_4 : x8_D55 0 4 = -1 := by decide +kernel
theorem rsz_by {t : Nat} (h1 : 1 ≤ t) (ht : t ≤ 16) : rs (t - 1) = byN t := by
  have : ∀ t, t < 17 → 1 ≤ t → rs (t - 1) = byN t := by decide +kernel
  exact this t (by omega) h1
theorem init_rel {F : Nat} (hF : 9000 ≤ F) : Init Rel F := by
  have g1 : gn (bG1 gXb cXb cXs) = 52 := by decide +kernel
  have g2 : gn (bG2 gXb cXb cXs) = 55 := by decide +kernel
  have n2 : gN (bG2 gXb cXb cXs) (52 + 1) = 114 := by decide +kernel
  have n3 : gN (bG3 gXb cXb cXs) (52 + 1) = 114 := by decide +kernel
  have n55 : gN (bG3 gXb cXb cXs) 55 = 64 := by decide +kernel
  obtain ⟨B, hB⟩ : ∃ z, z = bD2 gXb (x7_D8 gX0 dX0 dZ 0) cXb cXs := ⟨_, rfl⟩
  have hI : InvD 17 B := by rw [hB]; exact inv_b2 dZ
  obtain ⟨i1, i2, i3⟩ := hI
  obtain ⟨r, p1, p2⟩ := gap_go (N := gN (bG2 gXb cXb cXs)) (F := F) (th := 52) (n := 114) n2 (by decide) 114 F 0 B (by decide) (by omega)
  obtain ⟨E1, hE1⟩ : ∃ z, z = up2 (upA B (52 + 1) r) 52 4 0 := ⟨_, rfl⟩
  have o1 : ∀ c, c ≠ 52 → c ≠ 53 → E1 c = B c := fun c a b => by rw [hE1, up2_o a, upA_ne b]
  have r1 : E1 53 = r := by rw [hE1, up2_o (by decide), upA_row]
  have ring1 : RingOk (gN (bG2 gXb cXb cXs)) 52 114 E1 := by
    refine ⟨by decide, by decide, n2, ?_, fun i hi => ?_⟩
    · rw [hE1, up2_app, if_neg (by decide), upA_ne (by decide)]
      exact i2 16 (by decide)
    · show By (E1 53 i)
      rw [r1, p2 i, if_pos ⟨by omega, hi⟩]
      exact By_85
  obtain ⟨E2, q1, q2⟩ := (putSync_op (N := gN (bG2 gXb cXb cXs)) (F := F) (th := 52) (n := 114) (a := 0) (D := E1) (by omega) (by decide) (by decide) ring1).fx
  have ring2 := q2.ring ring1
  obtain ⟨A, hA⟩ : ∃ z, z = upA E2 55 (fun _ => 0) := ⟨_, rfl⟩
  have oA : ∀ c, c ≠ 55 → A c = E2 c := fun c h => by rw [hA, upA_ne h]
  have ring3 : RingOk (gN (bG3 gXb cXb cXs)) 52 114 A := ⟨ring2.1, ring2.2.1, n3, by rw [oA 52 (by decide)]; exact ring2.2.2.2.1, by rw [oA (52 + 1) (by decide)]; exact ring2.2.2.2.2⟩
  obtain ⟨E3, s1, s2⟩ := putData_fx (N := gN (bG3 gXb cXb cXs)) (F := F) (th := 52) (n := 114) (u := 55) (a := 40) (D := A) (by omega) (by decide) (by decide) (by decide) (by decide) n55 ring3
  have a55 : A 55 = Z0 := by rw [hA, upA_row]; rfl
  rw [a55] at s2
  have o3 : ∀ c, c ≠ 52 → c ≠ 53 → c ≠ 55 → E3 c = B c := fun c a b d => by rw [s2.2.2.2.2 c a b, oA c d, q2.2.2.2.2 c a b, o1 c a b]
  have ring4 := s2.ring ring3
  have bits : ∀ i, i < 912 → (i < 40 ∨ 100 ≤ i) → rbit (E3 53) i = smpB i := by
    intro i hi hc
    by_cases c : 148 ≤ i ∧ i < 856
    · have e := s2.1.1 (i - 148) (by omega)
      rw [Nat.mod_eq_of_lt (by omega), show 40 + 108 + (i - 148) = i by omega] at e
      rw [show rbit (E3 53) i = _ from e, smp_sec (h := 0) (l := 0) (t := 0) (s := 0) (by omega)]
      by_cases d : i < 848
      · have f := sec_d (h := 0) (l := 0) (t := 0) (s := 0) (row := Z0) (x := i - 148) (by omega)
        rw [show 148 + (i - 148) = i by omega] at f
        exact f.symm
      · rw [sec_e (by omega)]
        unfold pdB
        rw [if_neg (by omega), if_neg (by omega), if_neg (by omega), if_neg (by omega), show (i - 148) % 2 = i % 2 by omega]
    · have e : rbit (E3 53) i = rbit (A 53) i := s2.1.2 i (by omega) (fun x hx => by rw [Nat.mod_eq_of_lt (by omega)]; omega)
      rw [e, oA 53 (by decide)]
      by_cases d : i < 40
      · have f := q2.1.1 i d
        rw [Nat.mod_eq_of_lt (by omega), show 0 + i = i by omega] at f
        rw [show rbit (E2 53) i = true from f]
        unfold smpB
        rw [if_pos d]
      · have f : rbit (E2 53) i = rbit (E1 53) i := q2.1.2 i (by omega) (fun x hx => by rw [Nat.mod_eq_of_lt (by omega)]; omega)
        rw [f, r1, r85 (by rw [p2, if_pos (by omega)])]
        unfold smpB
        rw [if_neg d]
        by_cases g : i < 148
        · rw [if_pos g]
        · rw [if_neg g, if_neg (by omega), if_neg (by omega)]
  have z0 : ∀ c, c ≠ 0 → dI c = x8_D55 c ∨ c = 3 ∨ c = 4 := fun c _ => by
    by_cases a : c = 3
    · exact Or.inr (Or.inl a)
    by_cases b : c = 4
    · exact Or.inr (Or.inr b)
    exact Or.inl (dI_o a b)
  have d0 : ∀ k, k ≠ 4 → dI 0 k = 0 := fun k hk => by rw [dI_o (by decide) (by decide)]; exact az55 0 k (fun q => hk q.2)
  have d1 : ∀ k, dI 1 k = 0 := fun k => by rw [dI_o (by decide) (by decide)]; exact az55 1 k (fun q => absurd q.1 (by decide))
  have x0 : ∀ (c k : Nat), ¬ (c = 2 ∧ k = 3) → (∀ j, j < 17 → ¬ (c = 4 + 3 * j ∧ k = 1)) → c ≤ 51 → m_X7_init gX0 dX0 E3 0 c k = 0 := fun c k a b d => by
    rw [dfin_lo E3 (by omega), o3 c (by omega) (by omega) (by omega)]
    exact i3 c k a b
  have core : Core (m_X7_init gX0 dX0 E3 0) dI := by
    refine ⟨?_, ?_, ?_, ?_, ?_⟩
    · intro t h1 ht
      have hb := byN_le t
      have h4 : m_X7_init gX0 dX0 E3 0 (3 * t + 1) 4 = 0 := x0 _ _ (by omega) (fun j _ => by omega) (by omega)
      refine ⟨⟨by omega, by omega, ?_, ?_, fun i hi => ?_⟩, Or.inl h4, fun q => ?_⟩
      · have key : ∀ t, t < 17 → 1 ≤ t → gN XG (3 * t + 1 + 1) = byN t := by decide +kernel
        exact key t (by omega) h1
      · rw [dfin_lo E3 (by omega), o3 _ (by omega) (by omega) (by omega)]
        have := i2 (t - 1) (by omega)
        rw [show 4 + 3 * (t - 1) = 3 * t + 1 by omega, rsz_by h1 ht] at this
        exact this
      · rw [x0 (3 * t + 1 + 1) i (by omega) (fun j _ => by omega) (by omega)]
        exact fun j _ => b_0 j
      · rw [h4] at q
        exact absurd q (by decide)
    · intro t h1 ht q hq
      unfold rbit mbit
      rw [x0 (3 * t + 2) _ (by omega) (fun j _ => by omega) (by omega), b_0, d1]
      rfl
    · intro i
      exact Or.inl (d1 i)
    · exact ⟨rfl, rfl, rfl, rfl, rfl, dI_4, dI_3⟩
    · refine ⟨?_, ?_, ?_, ?_⟩
      · rw [dfin_lo E3 (by decide), o3 2 (by decide) (by decide) (by decide), i1, dI_o (by decide) (by decide), d55_4]
      · rw [x0 2 4 (by decide) (fun j _ => by omega) (by decide), d0 12 (by decide)]
      · rw [x0 2 5 (by decide) (fun j _ => by omega) (by decide), d0 13 (by decide)]
      · rw [x0 2 6 (by decide) (fun j _ => by omega) (by decide), d0 14 (by decide)]
  obtain ⟨t65, t67, t69⟩ := dfin_hi E3
  have rel : Rel (m_X7_init gX0 dX0 E3 0) dI := by
    refine ⟨core, Or.inl ?_, ⟨?_, ?_, ?_⟩, ⟨0, by omega, t65, d0 6 (by decide), fun i hi => by omega⟩, ⟨0, by omega, t67, d0 8 (by decide), fun i hi => by omega⟩, t69, ?_, ?_⟩
    · rw [dfin_lo E3 (by decide), o3 2 (by decide) (by decide) (by decide), i1]
    · rw [x0 1 0 (by decide) (fun j _ => by omega) (by decide), d0 9 (by decide)]
    · rw [x0 1 1 (by decide) (fun j _ => by omega) (by decide), d0 10 (by decide)]
    · rw [x0 1 2 (by decide) (fun j _ => by omega) (by decide), d0 11 (by decide)]
    · exact ⟨by decide, by decide, rfl, by rw [dfin_lo E3 (by decide)]; exact ring4.2.2.2.1, by rw [dfin_lo E3 (by decide)]; exact ring4.2.2.2.2⟩
    · rw [dfin_lo E3 (by decide)]
      exact bits
  refine ⟨E1, E2, E3, c4 0 10 11 18 19 x8_D55, c4 4 14 15 22 23 (c4 0 10 11 18 19 x8_D55), c4 8 9 25 26 27 (c4 4 14 15 22 23 (c4 0 10 11 18 19 x8_D55)), eI, dI, ?_, ?_, ?_, setCodes_eq (i := 0) (by decide), setCodes_eq (i := 4) (by decide), setCodes_eq (i := 8) (by decide), setCodes_eq (i := 12) (by decide), eI_in, rfl, rel⟩
  · have e : bD2 gXb (x7_D8 gX0 dX0 E3 0) cXb cXs = B := by rw [hB]; rfl
    rw [e, g1]
    refine Eq.trans p1 ?_
    rw [← hE1]
  · rw [g1]
    exact q1
  · rw [g1, g2, ← hA]
    exact s1
