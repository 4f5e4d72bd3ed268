/-! OUT: the output as a list; read and write -/
theorem by_ex {v : Int32} (h : By v) : ∃ b, b < 256 ∧ v = nI b := by
  obtain ⟨b, hb, e⟩ := pk_andE v (m := 255) 8 (by decide)
  rw [by_and h] at e
  exact ⟨b, hb, e⟩
theorem by_pos {v : Int32} (h : By v) : (if 0 < v then v else 0) = v := by
  obtain ⟨b, hb, rfl⟩ := by_ex h
  by_cases c : b = 0
  · subst c; rfl
  · rw [if_pos (show (0 : Int32) < nI b from nI_lt (a := 0) (by omega) (by omega))]
def seg (f : Nat → Int32) : Nat → Nat → List Int32
  | _, 0 => []
  | a, m + 1 => f a :: seg f (a + 1) m
theorem seg_len (f : Nat → Int32) : ∀ m a, (seg f a m).length = m
  | 0, _ => rfl
  | m + 1, a => by show (seg f (a + 1) m).length + 1 = m + 1; rw [seg_len f m]
theorem seg_congr {f g : Nat → Int32} : ∀ m a b, (∀ j, j < m → f (a + j) = g (b + j)) → seg f a m = seg g b m
  | 0, _, _, _ => rfl
  | m + 1, a, b, h => by
    show f a :: seg f (a + 1) m = g b :: seg g (b + 1) m
    rw [seg_congr m (a + 1) (b + 1) (fun j hj => by rw [show a + 1 + j = a + (j + 1) by omega, show b + 1 + j = b + (j + 1) by omega]; exact h (j + 1) (by omega))]
    have := h 0 (by omega)
    rw [Nat.add_zero, Nat.add_zero] at this
    rw [this]
theorem app_at {l : List Int32} {v : Int32} {f : Nat → Int32} (h : ∀ i (hi : i < l.length), f i = l[i]) (hv : f l.length = v) : ∀ i (hi : i < (l ++ [v]).length), f i = (l ++ [v])[i] := by
  intro i hi
  by_cases c : i < l.length
  · rw [List.getElem_append_left c, h i c]
  · have e : i = l.length := by rw [List.length_append] at hi; simp at hi; omega
    subst e
    rw [hv]
    simp
def OX (l : List Int32) (D : Mm) : Prop := l.length ≤ 2480 ∧ D 67 1 = nI l.length ∧ ∀ i (hi : i < l.length), D 68 i = l[i]
def OM (l : List Int32) (D : Mm) : Prop := l.length ≤ 2480 ∧ D 0 8 = nI l.length ∧ ∀ i (hi : i < l.length), D 6 i = l[i]
def FO (Dx D1 : Mm) : Prop := ∀ c, c ≠ 67 → c ≠ 68 → D1 c = Dx c
def FQ (Dm D1 : Mm) : Prop := (∀ c, c ≠ 0 → c ≠ 6 → D1 c = Dm c) ∧ ∀ k, k ≠ 8 → D1 0 k = Dm 0 k
theorem FO.trans {A B C : Mm} (h1 : FO A B) (h2 : FO B C) : FO A C := fun c a b => (h2 c a b).trans (h1 c a b)
theorem FQ.trans {A B C : Mm} (h1 : FQ A B) (h2 : FQ B C) : FQ A C := ⟨fun c a b => (h2.1 c a b).trans (h1.1 c a b), fun k a => (h2.2 k a).trans (h1.2 k a)⟩
theorem FO.refl (A : Mm) : FO A A := fun _ _ _ => rfl
theorem FQ.refl (A : Mm) : FQ A A := ⟨fun _ _ _ => rfl, fun _ _ => rfl⟩
theorem OX.ou {l : List Int32} {Dx Dm : Mm} (h1 : OX l Dx) (h2 : OM l Dm) : Ou Dx Dm := ⟨l.length, h1.1, h1.2.1, h2.2.1, fun i hi => by rw [h1.2.2 i hi, h2.2.2 i hi]⟩
theorem OX.keep {l : List Int32} {Dx D1 : Mm} (h : OX l Dx) (a : D1 67 = Dx 67) (b : D1 68 = Dx 68) : OX l D1 := ⟨h.1, by rw [a]; exact h.2.1, by rw [b]; exact h.2.2⟩
theorem OM.keep {l : List Int32} {Dm D1 : Mm} (h : OM l Dm) (a : D1 0 8 = Dm 0 8) (b : D1 6 = Dm 6) : OM l D1 := ⟨h.1, by rw [a]; exact h.2.1, by rw [b]; exact h.2.2⟩
theorem OX.zero (D : Mm) : OX [] (up2 D 67 1 0) := ⟨Nat.zero_le _, by rw [up2_app, if_pos ⟨rfl, rfl⟩]; rfl, fun i hi => absurd hi (Nat.not_lt_zero _)⟩
theorem OM.zero (D : Mm) : OM [] (up2 D 0 8 0) := ⟨Nat.zero_le _, by rw [up2_app, if_pos ⟨rfl, rfl⟩]; rfl, fun i hi => absurd hi (Nat.not_lt_zero _)⟩
theorem add_ox {F : Nat} {l : List Int32} {D : Mm} {v : Int32} (h : OX l D) (hl : l.length < 2480) (hv : By v) : ∃ D1, P_X1_add (gN XG) F 67 v D = some (0, D1) ∧ OX (l ++ [v]) D1 ∧ FO D D1 := by
  refine ⟨_, add_eq (show gN XG (67 + 1) = 2480 from rfl) h.2.1 hl, ⟨by rw [List.length_append]; simp; omega, ?_, ?_⟩, fun c a b => by rw [up2_o a, up2_o b]⟩
  · rw [up2_app, if_pos ⟨rfl, rfl⟩, List.length_append]; rfl
  · rw [by_and hv, up2_o (show 68 ≠ 67 by decide)]
    refine app_at (fun i hi => ?_) ?_
    · rw [up2_app, if_neg (by omega)]; exact h.2.2 i hi
    · rw [up2_app, if_pos ⟨rfl, rfl⟩]
theorem tell_om {F : Nat} {l : List Int32} {D : Mm} {v : Int32} (h : OM l D) (hl : l.length < 2480) : ∃ D1, P_X8_tell (gN MG) F v D = some (0, D1) ∧ OM (l ++ [v]) D1 ∧ FQ D D1 := by
  have n6 : gN MG 6 = 2480 := rfl
  refine ⟨up2 (up2 D 6 l.length v) 0 8 (nI (l.length + 1)), ?_, ⟨by rw [List.length_append]; simp; omega, ?_, ?_⟩, fun c a b => by rw [up2_o a, up2_o b], fun k hk => by rw [up2_app, if_neg (by omega), up2_o (by decide)]⟩
  · unfold P_X8_tell
    rw [h.2.1, n6, if_pos (in_nI (by omega) (by omega)), nI_clamp (by omega), up2_o (by decide), h.2.1, nI_1]
  · rw [up2_app, if_pos ⟨rfl, rfl⟩, List.length_append]; rfl
  · rw [up2_o (show 6 ≠ 0 by decide)]
    refine app_at (fun i hi => ?_) ?_
    · rw [up2_app, if_neg (by omega)]; exact h.2.2 i hi
    · rw [up2_app, if_pos ⟨rfl, rfl⟩]
theorem addRow_go {F u s w : Nat} (hN : gN XG u = 64) (hu : u ≠ 67 ∧ u ≠ 68) : ∀ (m fu a : Nat) (l : List Int32) (D : Mm), a + m = s + w → a + m ≤ 64 → m < fu → OX l D → l.length + m ≤ 2480 → (∀ j, a ≤ j → j < a + m → By (D u j)) → ∃ D1, P_X1_addRow_3 (gN XG) F 67 u fu (nI s) (nI w) (nI a) D = some (0, D1) ∧ OX (l ++ seg (D u) a m) D1 ∧ FO D D1 := by
  intro m
  induction m with
  | zero =>
    intro fu a l D he ha hfu h hl hb
    obtain ⟨fu, rfl⟩ : ∃ z, fu = z + 1 := ⟨fu - 1, by omega⟩
    refine ⟨D, ?_, by rw [show seg (D u) a 0 = [] from rfl, List.append_nil]; exact h, FO.refl D⟩
    show (if nI s + nI w ≤ nI a then _ else _) = _
    rw [nI_add, if_pos (nI_le (by omega) (by omega))]
  | succ m ih =>
    intro fu a l D he ha hfu h hl hb
    obtain ⟨fu, rfl⟩ : ∃ z, fu = z + 1 := ⟨fu - 1, by omega⟩
    obtain ⟨D1, p1, p2, p3⟩ := add_ox (F := F) h (by omega) (hb a (by omega) (by omega))
    have eu : D1 u = D u := p3 u hu.1 hu.2
    obtain ⟨D2, q1, q2, q3⟩ := ih fu (a + 1) _ D1 (by omega) (by omega) (by omega) p2 (by rw [List.length_append]; simp; omega) (fun j h1 h2 => by rw [eu]; exact hb j (by omega) (by omega))
    refine ⟨D2, ?_, ?_, p3.trans q3⟩
    · show (if nI s + nI w ≤ nI a then some (0, D) else (if nI (gN XG u) ≤ nI a then some (0, D) else (if inB (nI a) (gN XG u) = true then (bi (P_X1_add (gN XG) F 67 (D u (Int32.toNatClampNeg (nI a))) D) (fun r4 D4 => P_X1_addRow_3 (gN XG) F 67 u fu (nI s) (nI w) (nI a + 1) D4)) else none))) = _
      rw [nI_add, if_neg (nI_ge (by omega) (by omega)), hN, if_neg (nI_ge (by omega) (by omega)), if_pos (in_nI (by omega) (by omega)), nI_clamp (by omega), p1, bi_s, nI_1, q1]
    · rw [eu] at q2
      rw [show seg (D u) a (m + 1) = D u a :: seg (D u) (a + 1) m from rfl]
      rw [List.append_assoc] at q2
      exact q2
theorem addRow_ox {F u a m : Nat} {l : List Int32} {D : Mm} (hF : 100 ≤ F) (hN : gN XG u = 64) (hu : u ≠ 67 ∧ u ≠ 68) (ha : a + m ≤ 64) (h : OX l D) (hl : l.length + m ≤ 2480) (hb : ∀ j, a ≤ j → j < a + m → By (D u j)) : ∃ D1, P_X1_addRow (gN XG) F 67 u (nI a) (nI m) D = some (0, D1) ∧ OX (l ++ seg (D u) a m) D1 ∧ FO D D1 :=
  addRow_go hN hu m F a l D rfl ha (by omega) h hl hb
theorem read36_go {F : Nat} : ∀ (m fu a : Nat) (l : List Int32) (D : Mm), a + m = 64 → m < fu → OM l D → l.length + m ≤ 2480 → ∃ D1, P_X8_read_36 (gN MG) F fu 0 (nI a) D = some (0, D1) ∧ OM (l ++ seg (D 8) a m) D1 ∧ FQ D D1 := by
  have n8 : gN MG 8 = 64 := rfl
  intro m
  induction m with
  | zero =>
    intro fu a l D he hfu h hl
    obtain ⟨fu, rfl⟩ : ∃ z, fu = z + 1 := ⟨fu - 1, by omega⟩
    refine ⟨D, ?_, by rw [show seg (D 8) a 0 = [] from rfl, List.append_nil]; exact h, FQ.refl D⟩
    show (if (64 : Int32) ≤ nI a then _ else _) = _
    rw [if_pos (show (64 : Int32) ≤ nI a from nI_le (a := 64) (by omega) (by omega))]
  | succ m ih =>
    intro fu a l D he hfu h hl
    obtain ⟨fu, rfl⟩ : ∃ z, fu = z + 1 := ⟨fu - 1, by omega⟩
    obtain ⟨D1, p1, p2, p3⟩ := tell_om (F := F) (v := D 8 a) h (by omega)
    have eu : D1 8 = D 8 := p3.1 8 (by omega) (by omega)
    obtain ⟨D2, q1, q2, q3⟩ := ih fu (a + 1) _ D1 (by omega) (by omega) p2 (by rw [List.length_append]; simp; omega)
    refine ⟨D2, ?_, ?_, p3.trans q3⟩
    · show (if (64 : Int32) ≤ nI a then some (0, D) else (if (0 : Int32) = 0 then (if inB (nI a) (gN MG 8) = true then (bi (P_X8_tell (gN MG) F (D 8 (Int32.toNatClampNeg (nI a))) D) (fun r4 D4 => P_X8_read_36 (gN MG) F fu 0 (nI a + 1) D4)) else none) else some (0, D))) = _
      rw [if_neg (show ¬ (64 : Int32) ≤ nI a from nI_ge (b := 64) (by omega) (by omega)), if_pos rfl, n8, if_pos (in_nI (by omega) (by omega)), nI_clamp (by omega), p1, bi_s, nI_1, q1]
    · rw [eu] at q2
      rw [show seg (D 8) a (m + 1) = D 8 a :: seg (D 8) (a + 1) m from rfl]
      rw [List.append_assoc] at q2
      exact q2
theorem msectorsOf_eq {N : Nat → Nat} {F t : Nat} (D : Mm) (ht : t ≤ 16) : P_X8_sectorsOf N F (nI t) D = some (nI (secN t), D) := by
  have key : ∀ t, t < 17 → (if (9 : Int32) ≤ nI t then (if (13 : Int32) ≤ nI t then (7 : Int32) else 8) else 9) = nI (secN t) := by decide +kernel
  unfold P_X8_sectorsOf
  rw [ite_some, ite_some, key t (by omega)]
theorem misBlock_eq {N : Nat → Nat} {F t s : Nat} (D : Mm) (h1 : 1 ≤ t) (ht : t ≤ 16) (hs : s < secN t) : P_X8_isBlock N F (nI t) (nI s) D = some (1, D) := by
  have hn := secN_le t
  have em1 : (nI (secN t) - 1).toInt = (secN t : Int) - 1 := pk_sub_toInt (a := secN t) (b := 1) (by omega) (by omega)
  unfold P_X8_isBlock P_X8_isIn
  rw [isTrack_t D h1 ht, bi_s, if_neg (by decide), msectorsOf_eq D ht, bi_s, if_neg (show ¬ nI s < 0 from nI_nlt (b := 0) (by omega) (by omega)), if_neg (show ¬ nI (secN t) - 1 < nI s by rw [Int32.lt_iff_toInt_lt, em1, nI_toInt (by omega)]; omega), bi_s, if_neg (by decide)]
def NoBlock (a b : Int32) : Prop := (∀ (N : Nat → Nat) (F : Nat) (D : Mm), P_X0_isBlock N F a b D = some (0, D)) ∧ ∀ (N : Nat → Nat) (F : Nat) (D : Mm), P_X8_isBlock N F a b D = some (0, D)
theorem block_cases (a b : Int32) : (∃ t s, 1 ≤ t ∧ t ≤ 16 ∧ s < secN t ∧ a = nI t ∧ b = nI s) ∨ NoBlock a b := by
  rcases track_cases a with ⟨t, h1, ht, rfl⟩ | ⟨e1, e2⟩
  · have hn := secN_le t
    have em1 : (nI (secN t) - 1).toInt = (secN t : Int) - 1 := pk_sub_toInt (a := secN t) (b := 1) (by omega) (by omega)
    rcases pk_ix b (n := secN t) (by omega) with c | c | ⟨s, hs, rfl⟩
    · right
      constructor
      · intro N F D
        unfold P_X0_isBlock
        rw [if_pos c]
      · intro N F D
        unfold P_X8_isBlock P_X8_isIn
        rw [isTrack_t D h1 ht, bi_s, if_neg (by decide), msectorsOf_eq D ht, bi_s, if_pos c, bi_s, if_pos rfl]
    · right
      have c0 : ¬ b < 0 := by
        rw [Int32.lt_iff_toInt_lt]
        rw [Int32.le_iff_toInt_le, nI_toInt (by omega)] at c
        have e : (0 : Int32).toInt = 0 := rfl
        omega
      constructor
      · intro N F D
        unfold P_X0_isBlock
        rw [if_neg c0, xsectorsOf_eq D h1 ht, bi_s, if_pos c]
      · intro N F D
        unfold P_X8_isBlock P_X8_isIn
        rw [isTrack_t D h1 ht, bi_s, if_neg (by decide), msectorsOf_eq D ht, bi_s, if_neg c0, if_pos (show nI (secN t) - 1 < b by rw [Int32.lt_iff_toInt_lt, em1]; rw [Int32.le_iff_toInt_le, nI_toInt (by omega)] at c; omega), bi_s, if_pos rfl]
    · left
      exact ⟨t, s, h1, ht, hs, rfl, rfl⟩
  · right
    constructor
    · intro N F D
      have e3 : P_X0_sectorsOf N F a D = some (0, D) := by
        unfold P_X0_ringOf at e1
        unfold P_X0_sectorsOf
        by_cases c1 : a < 1
        · rw [if_pos c1]
        · by_cases c2 : 16 < a
          · rw [if_neg c1, if_neg (fun q => (le_nlt.mp q) c2)]
          · exfalso
            have a1 : ¬ a.toInt < 1 := fun q => c1 (Int32.lt_iff_toInt_lt.mpr q)
            have a2 : ¬ 16 < a.toInt := fun q => c2 (Int32.lt_iff_toInt_lt.mpr q)
            obtain ⟨j, hj, e⟩ := nI_of (x := a) (fun q => by rw [Int32.lt_iff_toInt_lt] at q; have e : (0 : Int32).toInt = 0 := rfl; omega)
            rw [e, nI_toInt hj] at a1 a2
            have := isTrack_t (N := N) (F := F) (t := j) D (by omega) (by omega)
            rw [← e, e2] at this
            exact absurd (congrArg Prod.fst (Option.some.inj this)) (show ¬ ((0 : Int32) = 1) by decide)
      unfold P_X0_isBlock
      by_cases c : b < 0
      · rw [if_pos c]
      · rw [if_neg c, e3, bi_s, if_pos (le_nlt.mpr c)]
    · intro N F D
      unfold P_X8_isBlock
      rw [e2, bi_s, if_pos rfl]
theorem xread_bad {N : Nat → Nat} {F u : Nat} {a b : Int32} {D : Mm} (h : NoBlock a b) (hid : ¬ D 2 3 = -1) : P_X0_readBlock N F u a b D = some (66, D) := by
  unfold P_X0_readBlock
  cases P_X0_ringOf a with
  | none => rw [bqN, if_neg hid]
  | some w => rw [bqS, if_neg hid, h.1, bi_s, if_pos rfl]
theorem xread_noid {N : Nat → Nat} {F u : Nat} {a b : Int32} {D : Mm} (hid : D 2 3 = -1) : P_X0_readBlock N F u a b D = some (74, D) := by
  unfold P_X0_readBlock
  cases P_X0_ringOf a with
  | none => rw [bqN, if_pos hid]
  | some w => rw [bqS, if_pos hid]
theorem xwrite_bad {N : Nat → Nat} {F u : Nat} {a b : Int32} {D : Mm} (h : NoBlock a b) (hid : ¬ D 2 3 = -1) : P_X0_writeBlock N F u a b D = some (66, D) := by
  unfold P_X0_writeBlock
  cases P_X0_ringOf a with
  | none => rw [bqN, if_neg hid]
  | some w => rw [bqS, if_neg hid, h.1, bi_s, if_pos rfl]
theorem xwrite_noid {N : Nat → Nat} {F u : Nat} {a b : Int32} {D : Mm} (hid : D 2 3 = -1) : P_X0_writeBlock N F u a b D = some (74, D) := by
  unfold P_X0_writeBlock
  cases P_X0_ringOf a with
  | none => rw [bqN, if_pos hid]
  | some w => rw [bqS, if_pos hid]
theorem id_cases {x : Int32} (h : IdOk x) : (x = -1 ∧ ¬ 0 ≤ x) ∨ (¬ x = -1 ∧ 0 ≤ x) := by
  rcases h with rfl | ⟨k, hk, rfl⟩
  · left; exact ⟨rfl, by decide⟩
  · right; exact ⟨nI_nm1 (by omega), nI_le (a := 0) (by omega) (by omega)⟩
theorem Rel.asm {Dx Dm D1 E1 : Mm} (h : Rel Dx Dm) (hc : Core D1 E1) (h2 : D1 2 3 = Dx 2 3) (hx : ∀ c, c = 52 ∨ c = 53 ∨ c = 69 → D1 c = Dx c) (hs : Stt D1 E1) (ht : Tp D1 E1) (ho : Ou D1 E1) : Rel D1 E1 :=
  ⟨hc, by rw [h2]; exact h.2.1, hs, ht, ho, by rw [hx 69 (by omega)]; exact h.2.2.2.2.2.1, h.2.2.2.2.2.2.keep (hx _ (by omega)) (hx _ (by omega))⟩
theorem Core.ups {Dx Dm D1 E1 : Mm} (h : Core Dx Dm) (hx : ∀ c, 2 ≤ c → c ≤ 51 → D1 c = Dx c) (hm : ∀ c, 1 ≤ c → c ≤ 4 → E1 c = Dm c) (h0 : ∀ k, k = 4 ∨ k = 12 ∨ k = 13 ∨ k = 14 → E1 0 k = Dm 0 k) : Core D1 E1 := by
  refine h.up (fun c a b => hx c (by omega) b) hm ?_
  have := h.2.2.2.2
  unfold Cnt at this ⊢
  rw [hx 2 (by omega) (by omega), h0 4 (by omega), h0 12 (by omega), h0 13 (by omega), h0 14 (by omega)]
  exact this
theorem sim_read {F : Nat} (hF : 9000 ≤ F) : Sim_read Rel F := by
  intro Dx Dm a1 a2 h
  obtain ⟨hc, hid, hst, htp, hou, h69, hsm⟩ := id h
  have eid : Dx 2 3 = Dm 0 4 := hc.2.2.2.2.1
  unfold P_X7_read P_X8_read
  have gx : ∀ c, c ≠ 67 → up2 Dx 67 1 0 c = Dx c := fun c q => up2_o q
  have gm : ∀ c, c ≠ 0 → up2 Dm 0 8 0 c = Dm c := fun c q => up2_o q
  have gm0 : ∀ k, k ≠ 8 → up2 Dm 0 8 0 0 k = Dm 0 k := fun k q => by rw [up2_app, if_neg (by omega)]
  have hc0 : Core (up2 Dx 67 1 0) (up2 Dm 0 8 0) := hc.ups (fun c a b => gx c (by omega)) (fun c a b => gm c (by omega)) (fun k hk => gm0 k (by omega))
  have ox := OX.zero Dx
  have om := OM.zero Dm
  have base : Rel (up2 Dx 67 1 0) (up2 Dm 0 8 0) := by
    refine h.asm hc0 (by rw [gx 2 (by decide)]) (fun c hc => gx c (by omega)) ?_ (htp.keep (gx _ (by decide)) (gx _ (by decide)) (gm0 _ (by decide)) (gm _ (by decide))) (ox.ou om)
    unfold Stt at hst ⊢
    rw [gx 1 (by decide), gm0 9 (by decide), gm0 10 (by decide), gm0 11 (by decide)]
    exact hst
  have i1 : up2 Dx 67 1 0 2 3 = Dx 2 3 := by rw [gx 2 (by decide)]
  have i2 : up2 Dm 0 8 0 0 4 = Dx 2 3 := by rw [gm0 4 (by decide), eid]
  generalize up2 Dx 67 1 0 = X at *
  generalize up2 Dm 0 8 0 = M at *
  rcases id_cases hid with ⟨c1, c2⟩ | ⟨c1, c2⟩
  · rw [xread_noid (by rw [i1]; exact c1), bi_s, if_neg (by decide), i2, if_neg c2]
    exact ⟨_, _, _, rfl, rfl, base⟩
  · rw [i2, if_pos c2]
    rcases block_cases a1 a2 with ⟨t, s, h1, ht, hs, rfl, rfl⟩ | nb
    · obtain ⟨e, D1, E1, p1, p2, p3, p4, p5, p6⟩ := read_sim (F := F) (u := 71) hF h1 ht hs (by decide) rfl (by rw [i1]; exact c1) hc0
      rw [p1, bi_s, misBlock_eq M h1 ht hs, bi_s, if_neg (show ¬ ((1 : Int32) = 0) by decide), p2, bi_s]
      have st1 : Stt D1 E1 := by
        have := base.2.2.1
        unfold Stt at this ⊢
        rw [p4.1 1 (by decide) (by decide), p5.2 9 (by decide) (by decide) (by decide) (by decide), p5.2 10 (by decide) (by decide) (by decide) (by decide), p5.2 11 (by decide) (by decide) (by decide) (by decide)]
        exact this
      have tp1 : Tp D1 E1 := base.2.2.2.1.keep (p4.1 _ (by decide) (by decide)) (p4.1 _ (by decide) (by decide)) (p5.2 _ (by decide) (by decide) (by decide) (by decide)) (p5.1 _ (by decide) (by decide) (by decide))
      have ox1 := ox.keep (p4.1 67 (by decide) (by decide)) (p4.1 68 (by decide) (by decide))
      have om1 := om.keep (p5.2 8 (by decide) (by decide) (by decide) (by decide)) (p5.1 6 (by decide) (by decide) (by decide))
      rcases p6 with ⟨rfl, p7⟩ | p7
      · obtain ⟨D2, q1, q2, q3⟩ := addRow_ox (F := F) (u := 71) (a := 0) (m := 64) (by omega) rfl (by decide) (by decide) ox1 (by decide) (fun j _ hj => (p7 j (by omega)).2)
        obtain ⟨E2, r1, r2, r3⟩ := read36_go (F := F) 64 F 0 [] E1 (by decide) (by omega) om1 (by decide)
        have r1' : P_X8_read_36 (gN MG) F F 0 0 E1 = some (0, E2) := r1
        have q1' : P_X1_addRow (gN XG) F 67 71 0 64 D1 = some (0, D2) := q1
        rw [if_pos rfl, q1', bi_s, r1']
        rw [seg_congr (f := E1 8) (g := D1 71) 64 0 0 (fun j hj => by rw [Nat.zero_add]; exact (p7 j hj).1.symm)] at r2
        refine ⟨_, _, _, rfl, rfl, base.asm (p3.ups (fun c a b => q3 c (by omega) (by omega)) (fun c a b => r3.1 c (by omega) (by omega)) (fun k hk => r3.2 k (by omega))) (by rw [q3 2 (by decide) (by decide), p4.2]) (fun c hc => by rw [q3 c (by omega) (by omega), p4.1 c (by omega) (by omega)]) ?_ (tp1.keep (q3 _ (by decide) (by decide)) (q3 _ (by decide) (by decide)) (r3.2 _ (by decide)) (r3.1 _ (by decide) (by decide))) (q2.ou r2)⟩
        unfold Stt at st1 ⊢
        rw [q3 1 (by decide) (by decide), r3.2 9 (by decide), r3.2 10 (by decide), r3.2 11 (by decide)]
        exact st1
      · have e0 : ¬ e = 0 := by rcases p7 with q | q | q | q | q | q | q <;> rw [q] <;> decide
        have er : P_X8_read_36 (gN MG) F F e 0 E1 = some (e, E1) := by
          obtain ⟨z, hz⟩ : ∃ z, F = z + 1 := ⟨F - 1, by omega⟩
          rw [hz]
          show (if (64 : Int32) ≤ 0 then some (e, E1) else (if e = 0 then _ else some (e, E1))) = _
          rw [if_neg (by decide), if_neg e0]
        rw [if_neg e0, er]
        exact ⟨_, _, _, rfl, rfl, base.asm p3 p4.2 (fun c hc => p4.1 c (by omega) (by omega)) st1 tp1 (ox1.ou om1)⟩
    · rw [xread_bad nb (by rw [i1]; exact c1), bi_s, if_neg (by decide), nb.2, bi_s, if_pos rfl]
      exact ⟨_, _, _, rfl, rfl, base⟩
theorem xfill_go {F k : Nat} {a b : Int32} (hk : k ≤ 2480) : ∀ (m fu i : Nat) (D : Mm), i + m = 64 → m < fu → D 65 1 = nI k → (∀ j, j < k → By (D 66 j)) → ∃ r : Nat → Int32, P_X7_write_2 (gN XG) F fu a b (nI i) D = bi (P_X0_writeBlock (gN XG) F 71 a b (up2 (upA D 71 r) 65 1 0)) (fun r2 D2 => some (r2, D2)) ∧ (∀ j, j < i → r j = D 71 j) ∧ ∀ j, i ≤ j → j < 64 → r j = if j < k then D 66 j else 0 := by
  have n71 : gN XG 71 = 64 := rfl
  have n66 : gN XG (65 + 1) = 2480 := rfl
  intro m
  induction m with
  | zero =>
    intro fu i D hi hfu hD hB
    obtain ⟨fu, rfl⟩ : ∃ z, fu = z + 1 := ⟨fu - 1, by omega⟩
    refine ⟨D 71, ?_, fun _ _ => rfl, fun j _ _ => by omega⟩
    show (if (64 : Int32) ≤ nI i then _ else _) = _
    rw [if_pos (show (64 : Int32) ≤ nI i from nI_le (a := 64) (by omega) (by omega)), upA_id]
  | succ m ih =>
    intro fu i D hi hfu hD hB
    obtain ⟨fu, rfl⟩ : ∃ z, fu = z + 1 := ⟨fu - 1, by omega⟩
    obtain ⟨x, hx, hx2⟩ : ∃ x, P_X1_byteAt (gN XG) F 65 (nI i) D = some (x, D) ∧ (if 0 < x then x else 0) = if i < k then D 66 i else 0 := by
      unfold P_X1_byteAt
      rw [if_neg (show ¬ nI i < 0 from nI_nlt (b := 0) (by omega) (by omega)), hD]
      by_cases c : i < k
      · rw [if_neg (nI_ge c (by omega)), n66, if_pos (in_nI (by omega) (by omega)), nI_clamp (by omega), if_pos c]
        exact ⟨_, rfl, by_pos (hB i c)⟩
      · rw [if_pos (nI_le (by omega) (by omega)), if_neg c]
        exact ⟨_, rfl, by decide⟩
    obtain ⟨r, q1, q2, q3⟩ := ih fu (i + 1) (up2 D 71 i (if i < k then D 66 i else 0)) (by omega) (by omega) (by rw [up2_o (by decide)]; exact hD) (fun j hj => by rw [up2_o (by decide)]; exact hB j hj)
    refine ⟨r, ?_, ?_, ?_⟩
    · show (if (64 : Int32) ≤ nI i then _ else (bi (P_X1_byteAt (gN XG) F 65 (nI i) D) (fun r3 D3 => if inB (nI i) (gN XG 71) = true then (P_X7_write_2 (gN XG) F fu a b (nI i + 1) (up2 D3 71 (Int32.toNatClampNeg (nI i)) (if 0 < r3 then r3 else 0))) else none))) = _
      rw [if_neg (show ¬ (64 : Int32) ≤ nI i from nI_ge (b := 64) (by omega) (by omega)), hx, bi_s, n71, if_pos (in_nI (by omega) (by omega)), nI_clamp (by omega), hx2, nI_1, q1, show upA (up2 D 71 i (if i < k then D 66 i else 0)) 71 r = upA D 71 r from upA_upA D _ _ r]
    · intro j hj
      rw [q2 j (by omega), up2_app, if_neg (by omega)]
    · intro j hj1 hj2
      by_cases e : j = i
      · subst e
        rw [q2 j (by omega), up2_app, if_pos ⟨rfl, rfl⟩]
      · rw [q3 j (by omega) hj2, up2_o (by decide)]
theorem mfill_go {F k : Nat} {a b : Int32} (hk : k ≤ 2480) : ∀ (m fu i : Nat) (D : Mm), i + m = 64 → m < fu → ∃ r : Nat → Int32, P_X8_write_34 (gN MG) F fu a b (nI k) (nI i) D = bi (P_X8_writeBlock (gN MG) F a b (upA D 8 r)) (fun r2 D2 => some (r2, D2)) ∧ (∀ j, j < i → r j = D 8 j) ∧ ∀ j, i ≤ j → j < 64 → r j = if j < k then D 5 j else 0 := by
  have n8 : gN MG 8 = 64 := rfl
  have n5 : gN MG 5 = 2480 := rfl
  intro m
  induction m with
  | zero =>
    intro fu i D hi hfu
    obtain ⟨fu, rfl⟩ : ∃ z, fu = z + 1 := ⟨fu - 1, by omega⟩
    refine ⟨D 8, ?_, fun _ _ => rfl, fun j _ _ => by omega⟩
    show (if (64 : Int32) ≤ nI i then _ else _) = _
    rw [if_pos (show (64 : Int32) ≤ nI i from nI_le (a := 64) (by omega) (by omega)), upA_id]
  | succ m ih =>
    intro fu i D hi hfu
    obtain ⟨fu, rfl⟩ : ∃ z, fu = z + 1 := ⟨fu - 1, by omega⟩
    obtain ⟨r, q1, q2, q3⟩ := ih fu (i + 1) (up2 D 8 i (if i < k then D 5 i else 0)) (by omega) (by omega)
    refine ⟨r, ?_, ?_, ?_⟩
    · show (if (64 : Int32) ≤ nI i then _ else (if nI k ≤ nI i then (if inB (nI i) (gN MG 8) = true then (P_X8_write_34 (gN MG) F fu a b (nI k) (nI i + 1) (up2 D 8 (Int32.toNatClampNeg (nI i)) 0)) else none) else (if inB (nI i) (gN MG 5) = true then (if inB (nI i) (gN MG 8) = true then (P_X8_write_34 (gN MG) F fu a b (nI k) (nI i + 1) (up2 D 8 (Int32.toNatClampNeg (nI i)) (D 5 (Int32.toNatClampNeg (nI i))))) else none) else none))) = _
      rw [if_neg (show ¬ (64 : Int32) ≤ nI i from nI_ge (b := 64) (by omega) (by omega)), n8, n5, if_pos (in_nI (by omega) (by omega)), if_pos (in_nI (by omega) (by omega)), nI_clamp (by omega), nI_1]
      by_cases c : i < k
      · rw [if_neg (nI_ge c (by omega))]
        rw [if_pos c] at q1
        rw [if_pos (in_nI (by omega) (by omega)), q1, show upA (up2 D 8 i (D 5 i)) 8 r = upA D 8 r from upA_upA D _ _ r]
      · rw [if_pos (nI_le (by omega) (by omega))]
        rw [if_neg c] at q1
        rw [q1, show upA (up2 D 8 i 0) 8 r = upA D 8 r from upA_upA D _ _ r]
    · intro j hj
      rw [q2 j (by omega), up2_app, if_neg (by omega)]
    · intro j hj1 hj2
      by_cases e : j = i
      · subst e
        rw [q2 j (by omega), up2_app, if_pos ⟨rfl, rfl⟩]
      · rw [q3 j (by omega) hj2, up2_o (by decide)]
theorem sim_write {F : Nat} (hF : 9000 ≤ F) : Sim_write Rel F := by
  intro Dx Dm a1 a2 h
  obtain ⟨hc, hid, hst, ⟨k, hk, t1, t2, t3⟩, hou, h69, hsm⟩ := id h
  have eid : Dx 2 3 = Dm 0 4 := hc.2.2.2.2.1
  unfold P_X7_write P_X8_write
  obtain ⟨r, x1, _, x2⟩ := xfill_go (F := F) (a := a1) (b := a2) hk 64 F 0 Dx (by decide) (by omega) t1 (fun j hj => (t3 j hj).2)
  have x1' : P_X7_write_2 (gN XG) F F a1 a2 0 Dx = _ := x1
  rw [x1', t2]
  have gm : ∀ c, c ≠ 0 → up2 Dm 0 6 0 c = Dm c := fun c q => up2_o q
  have gm0 : ∀ k, k ≠ 6 → up2 Dm 0 6 0 0 k = Dm 0 k := fun k q => by rw [up2_app, if_neg (by omega)]
  have gx : ∀ c, c ≠ 65 → c ≠ 71 → up2 (upA Dx 71 r) 65 1 0 c = Dx c := fun c a b => by rw [up2_o a, upA_ne b]
  have g71 : up2 (upA Dx 71 r) 65 1 0 71 = r := by rw [up2_o (by decide), upA_row]
  have g65 : up2 (upA Dx 71 r) 65 1 0 65 1 = nI 0 := by rw [up2_app, if_pos ⟨rfl, rfl⟩]; rfl
  have g06 : up2 Dm 0 6 0 0 6 = nI 0 := by rw [up2_app, if_pos ⟨rfl, rfl⟩]; rfl
  have tp0 : ∀ (A B : Mm), A 65 1 = nI 0 → B 0 6 = nI 0 → Tp A B := fun A B a b => ⟨0, by omega, a, b, fun i hi => by omega⟩
  have hc0 : Core (up2 (upA Dx 71 r) 65 1 0) (up2 Dm 0 6 0) := hc.ups (fun c a b => gx c (by omega) (by omega)) (fun c a b => gm c (by omega)) (fun k hk => gm0 k (by omega))
  have base : Rel (up2 (upA Dx 71 r) 65 1 0) (up2 Dm 0 6 0) := by
    refine h.asm hc0 (by rw [gx 2 (by decide) (by decide)]) (fun c hc => gx c (by omega) (by omega)) ?_ (tp0 _ _ g65 g06) (hou.keep (gx _ (by decide) (by decide)) (gx _ (by decide) (by decide)) (gm0 _ (by decide)) (gm _ (by decide)))
    unfold Stt at hst ⊢
    rw [gx 1 (by decide) (by decide), gm0 9 (by decide), gm0 10 (by decide), gm0 11 (by decide)]
    exact hst
  have i1 : up2 (upA Dx 71 r) 65 1 0 2 3 = Dx 2 3 := by rw [gx 2 (by decide) (by decide)]
  have i2 : up2 Dm 0 6 0 0 4 = Dx 2 3 := by rw [gm0 4 (by decide), eid]
  have e5 : up2 Dm 0 6 0 5 = Dm 5 := gm 5 (by decide)
  generalize up2 (upA Dx 71 r) 65 1 0 = X at *
  generalize up2 Dm 0 6 0 = M at *
  rcases id_cases hid with ⟨c1, c2⟩ | ⟨c1, c2⟩
  · rw [xwrite_noid (by rw [i1]; exact c1), bi_s, i2, if_neg c2]
    exact ⟨_, _, _, rfl, rfl, base⟩
  · rw [i2, if_pos c2]
    rcases block_cases a1 a2 with ⟨t, s, h1, ht, hs, rfl, rfl⟩ | nb
    · obtain ⟨b, y1, _, y2⟩ := mfill_go (F := F) (a := nI t) (b := nI s) hk 64 F 0 M (by decide) (by omega)
      have y1' : P_X8_write_34 (gN MG) F F (nI t) (nI s) (nI k) 0 M = _ := y1
      rw [misBlock_eq M h1 ht hs, bi_s, if_neg (show ¬ ((1 : Int32) = 0) by decide), y1']
      have hc1 : Core X (upA M 8 b) := hc0.ups (fun _ _ _ => rfl) (fun c a b => upA_ne (by omega)) (fun k hk => by rw [upA_ne (by decide)])
      obtain ⟨e, D1, E1, p1, p2, p3, p4, p5, p6⟩ := write_sim (F := F) (u := 71) hF h1 ht hs (by decide) rfl (by rw [i1]; exact c1) hc1 (fun j hj => by
        rw [g71, upA_row, x2 j (by omega) hj, y2 j (by omega) hj, e5]
        by_cases c : j < k
        · rw [if_pos c, if_pos c, (t3 j c).1]
        · rw [if_neg c, if_neg c])
      rw [p1, p2, bi_s, bi_s]
      refine ⟨_, _, _, rfl, rfl, base.asm p3 p4.2 (fun c hc => p4.1 c (by omega)) ?_ (tp0 _ _ (by rw [p4.1 65 (by omega)]; exact g65) (by rw [p5.2 6 (by decide) (by decide) (by decide) (by decide) (by decide) (by decide), upA_ne (by decide)]; exact g06)) (base.2.2.2.2.1.keep (p4.1 _ (by omega)) (p4.1 _ (by omega)) (by rw [p5.2 8 (by decide) (by decide) (by decide) (by decide) (by decide) (by decide), upA_ne (by decide)]) (by rw [p5.1 6 (by decide) (by decide) (by decide), upA_ne (by decide)]))⟩
      have := base.2.2.1
      unfold Stt at this ⊢
      rw [p4.1 1 (by omega), p5.2 9 (by decide) (by decide) (by decide) (by decide) (by decide) (by decide), p5.2 10 (by decide) (by decide) (by decide) (by decide) (by decide) (by decide), p5.2 11 (by decide) (by decide) (by decide) (by decide) (by decide) (by decide), upA_ne (by decide)]
      exact this
    · rw [xwrite_bad nb (by rw [i1]; exact c1), bi_s, nb.2, bi_s, if_pos rfl]
      exact ⟨_, _, _, rfl, rfl, base⟩
