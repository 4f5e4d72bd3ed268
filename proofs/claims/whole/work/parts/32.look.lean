/-! LOOK: the directory read in lockstep, up to the entry of a name -/
def Ag (g : Nat) : Nat := 64 * (g / 5) + 2 + 12 * (g % 5)
/-- the first empty entry among the first G, as the class keeps it -/
def RoomOk (D : Mm) (dir T S : Nat → Int32) (G : Nat) : Prop := (D 58 7 = -1 ∧ ∀ g, g < G → ¬ dir (Ag g) = 0) ∨ ∃ g, g < G ∧ dir (Ag g) = 0 ∧ (∀ h, h < g → ¬ dir (Ag h) = 0) ∧ D 58 7 = nI (2 + 12 * (g % 5)) ∧ D 58 9 = T (g / 5) ∧ D 58 10 = S (g / 5) ∧ ∀ j, j < 64 → D 60 j = dir (64 * (g / 5) + j)
theorem RoomOk.move {D D1 : Mm} {dir dir1 T T1 S S1 : Nat → Int32} {k : Nat} (h : RoomOk D dir T S (5 * k)) (h1 : ∀ i, i < 64 * k → dir1 i = dir i) (h2 : ∀ i, i < k → T1 i = T i ∧ S1 i = S i) (h3 : D1 58 7 = D 58 7 ∧ D1 58 9 = D 58 9 ∧ D1 58 10 = D 58 10) (h4 : D1 60 = D 60) : RoomOk D1 dir1 T1 S1 (5 * k) := by
  have ea : ∀ g, g < 5 * k → dir1 (Ag g) = dir (Ag g) := fun g hg => h1 _ (by unfold Ag; omega)
  rcases h with ⟨a, b⟩ | ⟨g, hg, a, b, c, d, e, f⟩
  · left
    exact ⟨by rw [h3.1]; exact a, fun g hg => by rw [ea g hg]; exact b g hg⟩
  · right
    refine ⟨g, hg, by rw [ea g hg]; exact a, fun q hq => by rw [ea q (by omega)]; exact b q hq, by rw [h3.1]; exact c, by rw [h3.2.1, (h2 _ (by omega)).1]; exact d, by rw [h3.2.2, (h2 _ (by omega)).2]; exact e, fun j hj => by rw [h4, h1 _ (by omega)]; exact f j hj⟩
theorem RoomOk.full {D : Mm} {dir T S : Nat → Int32} {G : Nat} (h : RoomOk D dir T S G) (hn : ¬ dir (Ag G) = 0) : RoomOk D dir T S (G + 1) := by
  rcases h with ⟨a, b⟩ | ⟨g, hg, r⟩
  · left
    refine ⟨a, fun g hg => ?_⟩
    by_cases e : g = G
    · rw [e]; exact hn
    · exact b g (by omega)
  · right
    exact ⟨g, by omega, r⟩
def LkX (D D1 : Mm) : Prop := (∀ c, c ≠ 58 → c ≠ 60 → D1 c = D c) ∧ ∀ j, j ≠ 6 → j ≠ 7 → j ≠ 9 → j ≠ 10 → D1 58 j = D 58 j
theorem LkX.refl (D : Mm) : LkX D D := ⟨fun _ _ _ => rfl, fun _ _ _ _ _ => rfl⟩
theorem LkX.trans {A B C : Mm} (h1 : LkX A B) (h2 : LkX B C) : LkX A C := ⟨fun c a b => (h2.1 c a b).trans (h1.1 c a b), fun j a b c d => (h2.2 j a b c d).trans (h1.2 j a b c d)⟩
theorem keepRoom_sim {F G : Nat} {D : Mm} {dir T S : Nat → Int32} (h : RoomOk D dir T S G) (hz : dir (Ag G) = 0) (hT : D 58 3 = T (G / 5)) (hS : D 58 4 = S (G / 5)) (hr : ∀ j, j < 64 → dir (64 * (G / 5) + j) = D 59 j) : ∃ D1, P_X3_keepRoom (gN XG) F (nI (2 + 12 * (G % 5))) D = some (0, D1) ∧ RoomOk D1 dir T S (G + 1) ∧ LkX D D1 ∧ D1 58 6 = D 58 6 := by
  rcases h with ⟨a, b⟩ | ⟨g, hg, r⟩
  · obtain ⟨o, ho⟩ : ∃ o : Nat → Int32, o = va_cpy (D 59) (D 60) (Int32.toNatClampNeg 0) (Int32.toNatClampNeg 0) (Int32.toNatClampNeg 64) := ⟨_, rfl⟩
    refine ⟨upA (up2 (up2 (up2 D 58 7 (nI (2 + 12 * (G % 5)))) 58 9 (D 58 3)) 58 10 (D 58 4)) 60 o, ?_, ?_, ⟨fun c q1 q2 => by rw [upA_ne q2, up2_o q1, up2_o q1, up2_o q1], fun j q1 q2 q3 q4 => by rw [upA_ne (by decide), up2_app, if_neg (by omega), up2_app, if_neg (by omega), up2_app, if_neg (by omega)]⟩, by rw [upA_ne (by decide), up2_app, if_neg (by omega), up2_app, if_neg (by omega), up2_app, if_neg (by omega)]⟩
    · unfold P_X3_keepRoom P_X3_keepRoom_29
      rw [if_pos a, if_pos (by decide)]
      have e1 : up2 D 58 7 (nI (2 + 12 * (G % 5))) 58 3 = D 58 3 := by rw [up2_app, if_neg (by omega)]
      have e2 : up2 (up2 D 58 7 (nI (2 + 12 * (G % 5)))) 58 9 (D 58 3) 58 4 = D 58 4 := by rw [up2_app, if_neg (by omega), up2_app, if_neg (by omega)]
      rw [e1, e2, up2_o (show 59 ≠ 58 by decide), up2_o (show 59 ≠ 58 by decide), up2_o (show 59 ≠ 58 by decide), up2_o (show 60 ≠ 58 by decide), up2_o (show 60 ≠ 58 by decide), up2_o (show 60 ≠ 58 by decide), ← ho]
    · right
      refine ⟨G, by omega, hz, b, ?_, ?_, ?_, fun j hj => ?_⟩
      · rw [upA_ne (by decide), up2_app, if_neg (by omega), up2_app, if_neg (by omega), up2_app, if_pos ⟨rfl, rfl⟩]
      · rw [upA_ne (by decide), up2_app, if_neg (by omega), up2_app, if_pos ⟨rfl, rfl⟩, hT]
      · rw [upA_ne (by decide), up2_app, if_pos ⟨rfl, rfl⟩, hS]
      · rw [upA_row, hr j hj, ho, show Int32.toNatClampNeg 0 = 0 from rfl, show Int32.toNatClampNeg 64 = 64 from rfl, pk_cpy_in (by omega) (by omega)]
        congr 1
        omega
  · refine ⟨D, ?_, Or.inr ⟨g, by omega, r⟩, LkX.refl D, rfl⟩
    unfold P_X3_keepRoom
    rw [if_neg (by rw [r.2.2.1]; exact nI_nm1 (by omega))]
theorem NameAt.move {f g : Nat → Int32} {p q : Nat} {a b : Int32} (h : ∀ k, k < 8 → f (p + k) = g (q + k)) : NameAt f p a b 0 ↔ NameAt g q a b 0 :=
  ⟨fun z k h1 h2 => by rw [← h k h2]; exact z k h1 h2, fun z k h1 h2 => by rw [h k h2]; exact z k h1 h2⟩
theorem look_go {F k : Nat} {a b x4 x5 : Int32} {K : Int32 → Int32 → Int32 → Int32 → Int32 → Mm → Rs} (hF : 9000 ≤ F) (hk : k < 7) : ∀ (m i fx fm : Nat) (D E : Mm), i + m = 5 → m < fx → m + 1 < fm → (∀ j, j < 64 → E 10 (64 * k + j) = D 59 j) → D 58 3 = E 11 k → D 58 4 = E 12 k → RoomOk D (E 10) (E 11) (E 12) (5 * k + i) → E 0 24 = -1 → E 0 23 = nI (k + 1) → D 58 6 = -1 → (∃ D1 i', i' < 5 ∧ P_X3_findEntry_2 (gN XG) F fx a b (nI (2 + 12 * i)) D = some (1, D1) ∧ P_X8_readDirectory_128 (gN MG) F K fm 1 a b x4 x5 (nI (64 * k)) (nI (2 + 12 * i)) E = P_X8_readDirectory_185 (gN MG) F K 1 a b x4 x5 (up2 (up2 E 0 24 (nI k)) 0 25 (nI (64 * k + (2 + 12 * i')))) ∧ D1 58 6 = nI (2 + 12 * i') ∧ LkX D D1) ∨ (∃ D1, P_X3_findEntry_2 (gN XG) F fx a b (nI (2 + 12 * i)) D = some (0, D1) ∧ P_X8_readDirectory_128 (gN MG) F K fm 1 a b x4 x5 (nI (64 * k)) (nI (2 + 12 * i)) E = P_X8_readDirectory_185 (gN MG) F K 1 a b x4 x5 E ∧ D1 58 6 = -1 ∧ RoomOk D1 (E 10) (E 11) (E 12) (5 * k + 5) ∧ LkX D D1) := by
  have n59 : gN XG 59 = 64 := rfl
  intro m
  induction m with
  | zero =>
    intro i fx fm D E hi hfx hfm hrow hT hS hR h24 h23 h6
    obtain ⟨fx, rfl⟩ : ∃ z, fx = z + 1 := ⟨fx - 1, by omega⟩
    obtain ⟨fm, rfl⟩ : ∃ z, fm = z + 1 := ⟨fm - 1, by omega⟩
    have hi5 : i = 5 := by omega
    subst hi5
    right
    refine ⟨D, ?_, ?_, h6, hR, LkX.refl D⟩
    · show (if (62 : Int32) ≤ nI (2 + 12 * 5) then _ else _) = _
      rw [if_pos (by decide)]
    · show (if (62 : Int32) ≤ nI (2 + 12 * 5) then _ else _) = _
      rw [if_pos (by decide)]
  | succ m ih =>
    intro i fx fm D E hi hfx hfm hrow hT hS hR h24 h23 h6
    obtain ⟨fx, rfl⟩ : ∃ z, fx = z + 1 := ⟨fx - 1, by omega⟩
    obtain ⟨fm, rfl⟩ : ∃ z, fm = z + 1 := ⟨fm - 1, by omega⟩
    have hag : Ag (5 * k + i) = 64 * k + (2 + 12 * i) := by unfold Ag; rw [show (5 * k + i) / 5 = k by omega, show (5 * k + i) % 5 = i by omega]; omega
    have hd : E 10 (Ag (5 * k + i)) = D 59 (2 + 12 * i) := by rw [hag]; exact hrow _ (by omega)
    have ex : P_X3_findEntry_2 (gN XG) F (fx + 1) a b (nI (2 + 12 * i)) D = (if D 59 (2 + 12 * i) = 0 then (bi (P_X3_keepRoom (gN XG) F (nI (2 + 12 * i)) D) (fun r6 D6 => P_X3_findEntry_2 (gN XG) F fx a b (nI (2 + 12 * (i + 1))) D6)) else (bi (P_X7_hasName (gN XG) F 59 (nI (2 + 12 * i + 4)) a b D) (fun r4 D4 => if r4 = 0 then (P_X3_findEntry_2 (gN XG) F fx a b (nI (2 + 12 * (i + 1))) D4) else (some (1, up2 D4 58 6 (nI (2 + 12 * i))))))) := by
      show (if (62 : Int32) ≤ nI (2 + 12 * i) then some (0, D) else (if inB (nI (2 + 12 * i)) (gN XG 59) = true then (if (D 59 (Int32.toNatClampNeg (nI (2 + 12 * i)))) = 0 then (bi (P_X3_keepRoom (gN XG) F (nI (2 + 12 * i)) D) (fun r6 D6 => P_X3_findEntry_2 (gN XG) F fx a b (nI (2 + 12 * i) + 12) D6)) else (bi (P_X7_hasName (gN XG) F 59 (nI (2 + 12 * i) + 4) a b D) (fun r4 D4 => if r4 = 0 then (P_X3_findEntry_2 (gN XG) F fx a b (nI (2 + 12 * i) + 12) D4) else (some (1, up2 D4 58 6 (nI (2 + 12 * i))))))) else none)) = _
      rw [if_neg (show ¬ (62 : Int32) ≤ nI (2 + 12 * i) from nI_ge (b := 62) (by omega) (by omega)), n59, if_pos (in_nI (by omega) (by omega)), nI_clamp (by omega), show nI (2 + 12 * i) + (12 : Int32) = nI (2 + 12 * (i + 1)) from nI_add _ 12, show nI (2 + 12 * i) + (4 : Int32) = nI (2 + 12 * i + 4) from nI_add _ 4]
    have em : P_X8_readDirectory_128 (gN MG) F K (fm + 1) 1 a b x4 x5 (nI (64 * k)) (nI (2 + 12 * i)) E = (bi (P_X8_hasName (gN MG) F (nI (64 * k + (2 + 12 * i))) a b E) (fun r18 D18 => if r18 = 0 then (P_X8_readDirectory_128 (gN MG) F K fm 1 a b x4 x5 (nI (64 * k)) (nI (2 + 12 * (i + 1))) D18) else (P_X8_readDirectory_128 (gN MG) F K fm 1 a b x4 x5 (nI (64 * k)) (nI (2 + 12 * (i + 1))) (up2 (up2 D18 0 24 ((D18 0 23) - 1)) 0 25 (nI (64 * k + (2 + 12 * i))))))) := by
      show (if (62 : Int32) ≤ nI (2 + 12 * i) then _ else (if (1 : Int32) = 0 then _ else (if 0 ≤ (E 0 24) then _ else (bi (P_X8_hasName (gN MG) F (nI (64 * k) + nI (2 + 12 * i)) a b E) (fun r18 D18 => if r18 = 0 then (P_X8_readDirectory_128 (gN MG) F K fm 1 a b x4 x5 (nI (64 * k)) (nI (2 + 12 * i) + 12) D18) else (P_X8_readDirectory_128 (gN MG) F K fm 1 a b x4 x5 (nI (64 * k)) (nI (2 + 12 * i) + 12) (up2 (up2 D18 0 24 ((D18 0 23) - 1)) 0 25 (nI (64 * k) + nI (2 + 12 * i))))))))) = _
      rw [if_neg (show ¬ (62 : Int32) ≤ nI (2 + 12 * i) from nI_ge (b := 62) (by omega) (by omega)), if_neg (by decide), h24, if_neg (by decide), nI_add, show nI (2 + 12 * i) + (12 : Int32) = nI (2 + 12 * (i + 1)) from nI_add _ 12]
    have hnm := NameAt.move (f := E 10) (g := D 59) (p := 64 * k + (2 + 12 * i) + 4) (q := 2 + 12 * i + 4) (a := a) (b := b) (fun j hj => by rw [show 64 * k + (2 + 12 * i) + 4 + j = 64 * k + (2 + 12 * i + 4 + j) by omega]; exact hrow _ (by omega))
    obtain ⟨m1, m2⟩ := mhas_eq (F := F) (q := 64 * k + (2 + 12 * i)) (a := a) (b := b) (D := E) (by omega) (by omega)
    have xh : ∀ c d, P_X7_hasName (gN XG) F 59 c a b d = P_X7_hasName_3 (gN XG) F 59 F c a b (nI 0) d := fun _ _ => rfl
    obtain ⟨u1, u2⟩ := xhas_go (F := F) (p := 2 + 12 * i + 4) (a := a) (b := b) (D := D) (by omega) 8 F 0 (by decide) (by omega)
    have hdz : E 10 (64 * k + (2 + 12 * i)) = D 59 (2 + 12 * i) := hrow _ (by omega)
    rw [ex, em]
    by_cases c : D 59 (2 + 12 * i) = 0
    · rw [if_pos c, m2 (fun q => q.1 (by rw [hdz]; exact c)), bi_s, if_pos rfl]
      obtain ⟨D1, k1, k2, k3, k4⟩ := keepRoom_sim (F := F) hR (by rw [hd]; exact c) (by rw [show (5 * k + i) / 5 = k by omega]; exact hT) (by rw [show (5 * k + i) / 5 = k by omega]; exact hS) (by rw [show (5 * k + i) / 5 = k by omega]; exact hrow)
      rw [show (5 * k + i) % 5 = i by omega] at k1
      rw [k1, bi_s]
      have r59 : D1 59 = D 59 := k3.1 59 (by decide) (by decide)
      rcases ih (i + 1) fx fm D1 E (by omega) (by omega) (by omega) (by rw [r59]; exact hrow) (by rw [k3.2 3 (by decide) (by decide) (by decide) (by decide)]; exact hT) (by rw [k3.2 4 (by decide) (by decide) (by decide) (by decide)]; exact hS) k2 h24 h23 (by rw [k4]; exact h6) with ⟨D2, i', q0, q1, q2, q3, q4⟩ | ⟨D2, q1, q2, q3, q4, q5⟩
      · left
        exact ⟨D2, i', q0, q1, q2, q3, k3.trans q4⟩
      · right
        exact ⟨D2, q1, q2, q3, q4, k3.trans q5⟩
    · rw [if_neg c, xh]
      rcases NameAt.dec (D 59) (2 + 12 * i + 4) a b 0 with hn | hn
      · left
        rw [u1 hn, bi_s, if_neg (by decide), m1 ⟨fun q => c (by rw [← hdz]; exact q), hnm.mpr hn⟩, bi_s, if_neg (by decide), h23, show nI (k + 1) - (1 : Int32) = nI k from pk_sub (a := k + 1) (b := 1) (by omega)]
        refine ⟨_, i, by omega, rfl, ?_, by rw [up2_app, if_pos ⟨rfl, rfl⟩], ⟨fun c q1 q2 => up2_o q1, fun j q1 q2 q3 q4 => by rw [up2_app, if_neg (by omega)]⟩⟩
        have e24 : up2 (up2 E 0 24 (nI k)) 0 25 (nI (64 * k + (2 + 12 * i))) 0 24 = nI k := by rw [up2_app, if_neg (by omega), up2_app, if_pos ⟨rfl, rfl⟩]
        generalize up2 (up2 E 0 24 (nI k)) 0 25 (nI (64 * k + (2 + 12 * i))) = E1 at e24 ⊢
        obtain ⟨fm, rfl⟩ : ∃ z, fm = z + 1 := ⟨fm - 1, by omega⟩
        show (if (62 : Int32) ≤ nI (2 + 12 * (i + 1)) then (P_X8_readDirectory_185 (gN MG) F K 1 a b x4 x5 E1) else (if (1 : Int32) = 0 then (P_X8_readDirectory_185 (gN MG) F K 1 a b x4 x5 E1) else (if 0 ≤ (E1 0 24) then (P_X8_readDirectory_185 (gN MG) F K 1 a b x4 x5 E1) else _))) = _
        rw [if_neg (show ¬ ((1 : Int32) = 0) by decide), e24, if_pos (show (0 : Int32) ≤ nI k from nI_le (a := 0) (by omega) (by omega)), ite_self]
      · rw [u2 hn, bi_s, if_pos rfl, m2 (fun q => hn (hnm.mp q.2)), bi_s, if_pos rfl]
        exact ih (i + 1) fx fm D E (by omega) (by omega) (by omega) hrow hT hS (hR.full (by rw [hd]; exact c)) h24 h23 h6
theorem dcopy_go {F k : Nat} {x1 a b x4 x5 : Int32} {K : Int32 → Int32 → Int32 → Int32 → Int32 → Mm → Rs} (hk : k < 7) : ∀ (m fu i : Nat) (D : Mm), i + m = 64 → m < fu → ∃ r : Nat → Int32, P_X8_readDirectory_95 (gN MG) F K fu x1 a b x4 x5 (nI (64 * k)) (nI i) D = P_X8_readDirectory_128 (gN MG) F K F x1 a b x4 x5 (nI (64 * k)) 2 (upA D 10 r) ∧ (∀ j, j < 64 * k + i → r j = D 10 j) ∧ ∀ j, i ≤ j → j < 64 → r (64 * k + j) = D 8 j := by
  have n8 : gN MG 8 = 64 := rfl
  have n10 : gN MG 10 = 448 := rfl
  intro m
  induction m with
  | zero =>
    intro fu i D hi hfu
    obtain ⟨fu, rfl⟩ : ∃ z, fu = z + 1 := ⟨fu - 1, by omega⟩
    refine ⟨D 10, ?_, fun _ _ => rfl, fun j _ _ => by omega⟩
    show (if (64 : Int32) ≤ nI i then _ else _) = _
    rw [if_pos (show (64 : Int32) ≤ nI i from nI_le (a := 64) (by omega) (by omega)), upA_id]
  | succ m ih =>
    intro fu i D hi hfu
    obtain ⟨fu, rfl⟩ : ∃ z, fu = z + 1 := ⟨fu - 1, by omega⟩
    obtain ⟨r, q1, q2, q3⟩ := ih fu (i + 1) (up2 D 10 (64 * k + i) (D 8 i)) (by omega) (by omega)
    refine ⟨r, ?_, ?_, ?_⟩
    · show (if (64 : Int32) ≤ nI i then _ else (if inB (nI i) (gN MG 8) = true then (if inB (nI (64 * k) + nI i) (gN MG 10) = true then (P_X8_readDirectory_119 (gN MG) F K (fun x1 x2 x3 x4 x5 x7 x8 D => P_X8_readDirectory_95 (gN MG) F K fu x1 x2 x3 x4 x5 x7 x8 D) x1 a b x4 x5 (nI (64 * k)) (nI i) (up2 D 10 (Int32.toNatClampNeg (nI (64 * k) + nI i)) (D 8 (Int32.toNatClampNeg (nI i))))) else none) else none)) = _
      rw [if_neg (show ¬ (64 : Int32) ≤ nI i from nI_ge (b := 64) (by omega) (by omega)), n8, n10, nI_add, if_pos (in_nI (by omega) (by omega)), if_pos (in_nI (by omega) (by omega)), nI_clamp (by omega), nI_clamp (by omega)]
      unfold P_X8_readDirectory_119
      rw [nI_1]
      show P_X8_readDirectory_95 (gN MG) F K fu x1 a b x4 x5 (nI (64 * k)) (nI (i + 1)) _ = _
      rw [q1, show upA (up2 D 10 (64 * k + i) (D 8 i)) 10 r = upA D 10 r from upA_upA D _ _ r]
    · intro j hj
      rw [q2 j (by omega), up2_app, if_neg (by omega)]
    · intro j hj1 hj2
      by_cases e : j = i
      · subst e
        rw [q2 _ (by omega), up2_app, if_pos ⟨rfl, rfl⟩]
      · rw [q3 j (by omega) hj2, up2_o (by decide)]
def Vd (t s : Nat) : Prop := 1 ≤ t ∧ t ≤ 16 ∧ s < secN t
/-- what a directory's block leads to, on both sides -/
theorem step_sim {F k t s : Nat} {x1 a b : Int32} {K : Int32 → Int32 → Int32 → Int32 → Int32 → Mm → Rs} {D E : Mm} (hk : k < 7) (hrow : ∀ j, j < 64 → E 8 j = D 59 j) (h3 : D 58 3 = nI t) (h4 : D 58 4 = nI s) (h5 : D 58 5 = nI (k + 1)) (h23 : E 0 23 = nI (k + 1)) : (P_X3_step (gN XG) F D = some (66, tX 66 (nI t) (nI s) D) ∧ P_X8_readDirectory_212 (gN MG) F K x1 a b (nI t) (nI s) E = some (0, tM 66 (nI t) (nI s) E)) ∨ (k < 6 ∧ ∃ t' s', Vd t' s' ∧ P_X3_step (gN XG) F D = bi (P_X0_fetch (gN XG) F 59 (nI t') (nI s') (up2 (up2 (up2 D 58 5 (nI (k + 2))) 58 3 (nI t')) 58 4 (nI s'))) (fun r2 D2 => some (r2, D2)) ∧ P_X8_readDirectory_212 (gN MG) F K x1 a b (nI t) (nI s) E = K x1 a b (nI t') (nI s') E) := by
  have n59 : gN XG 59 = 64 := rfl
  have n8 : gN MG 8 = 64 := rfl
  have i0 : inB 0 64 = true := by decide
  have i1 : inB 1 64 = true := by decide
  have z0 : Int32.toNatClampNeg 0 = 0 := rfl
  have z1 : Int32.toNatClampNeg 1 = 1 := rfl
  have m239 : P_X8_readDirectory_239 (gN MG) F (nI t) (nI s) E = some (0, tM 66 (nI t) (nI s) E) := ends_neg (by decide)
  unfold P_X3_step P_X8_readDirectory_212
  rw [n59, n8, if_pos i0, if_pos i1, if_pos i0, if_pos i1, z0, z1, hrow 0 (by omega), hrow 1 (by omega), h5, h3, h4]
  rcases block_cases (D 59 0) (D 59 1) with ⟨t', s', h1', ht', hs', e0, e1⟩ | nb
  · by_cases c : k = 6
    · left
      subst c
      rw [if_pos (by decide), e0, e1, misBlock_eq E h1' ht' hs', bi_s, if_neg (by decide), h23, if_pos (by decide), m239]
      exact ⟨rfl, rfl⟩
    · right
      refine ⟨by omega, t', s', ⟨h1', ht', hs'⟩, ?_, ?_⟩
      · rw [if_neg (show ¬ (7 : Int32) ≤ nI (k + 1) from nI_ge (b := 7) (by omega) (by omega)), e0, e1, xisBlock_eq D h1' ht' hs', bi_s, if_neg (by decide), if_pos i0, h5, nI_1, up2_o (show 59 ≠ 58 by decide), e0]
        unfold P_X3_step_65
        rw [n59, if_pos i1, z1, up2_o (show 59 ≠ 58 by decide), up2_o (show 59 ≠ 58 by decide), e1]
        have g1 : up2 (up2 (up2 D 58 5 (nI (k + 2))) 58 3 (nI t')) 58 4 (nI s') 58 3 = nI t' := by rw [up2_app, if_neg (by omega), up2_app, if_pos ⟨rfl, rfl⟩]
        have g2 : up2 (up2 (up2 D 58 5 (nI (k + 2))) 58 3 (nI t')) 58 4 (nI s') 58 4 = nI s' := by rw [up2_app, if_pos ⟨rfl, rfl⟩]
        rw [g1, g2]
      · rw [e0, e1, misBlock_eq E h1' ht' hs', bi_s, if_neg (by decide), h23, if_neg (fun q => by
          have := nI_leI (a := 7) (b := k + 1) (by omega) (by omega)
          have l : nI 7 ≤ nI (k + 1) := by rw [q]; decide
          have := this.mp l
          omega), if_pos i0]
        unfold P_X8_readDirectory_266 P_X8_readDirectory_274
        rw [n8, if_pos i1, z1, hrow 0 (by omega), hrow 1 (by omega), e0, e1]
  · left
    rw [nb.2, bi_s, if_pos rfl, m239, nb.1, bi_s, if_pos rfl, h3, h4]
    refine ⟨?_, rfl⟩
    show (if (7 : Int32) ≤ nI (k + 1) then some (66, tX 66 (nI t) (nI s) D) else some (66, tX 66 (nI t) (nI s) D)) = _
    rw [ite_self]
