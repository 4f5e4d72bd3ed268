/-! ENTRY: the empty entry, a further block, an entry filled -/
theorem em12_none {F k : Nat} {k2 : Int32 → Mm → Rs} {E : Mm} (hk : k < 7) : ∀ (m fu i : Nat), i + m = 5 → m < fu → (∀ i', i ≤ i' → i' < 5 → ¬ E 10 (64 * k + (2 + 12 * i')) = 0) → P_X8_emptyEntry_12 (gN MG) F k2 fu (nI k) (nI (2 + 12 * i)) E = k2 (nI (k + 1)) E := by
  have n10 : gN MG 10 = 448 := rfl
  intro m
  induction m with
  | zero =>
    intro fu i hi hfu h
    obtain ⟨fu, rfl⟩ : ∃ z, fu = z + 1 := ⟨fu - 1, by omega⟩
    show (if (62 : Int32) ≤ nI (2 + 12 * i) then k2 (nI k + 1) E else _) = _
    rw [if_pos (show (62 : Int32) ≤ nI (2 + 12 * i) from nI_le (a := 62) (by omega) (by omega)), nI_1]
  | succ m ih =>
    intro fu i hi hfu h
    obtain ⟨fu, rfl⟩ : ∃ z, fu = z + 1 := ⟨fu - 1, by omega⟩
    show (if (62 : Int32) ≤ nI (2 + 12 * i) then _ else (if inB ((64 * nI k) + nI (2 + 12 * i)) (gN MG 10) = true then (if (E 10 (Int32.toNatClampNeg ((64 * nI k) + nI (2 + 12 * i)))) = 0 then _ else (P_X8_emptyEntry_12 (gN MG) F k2 fu (nI k) (nI (2 + 12 * i) + 12) E)) else none)) = _
    rw [if_neg (show ¬ (62 : Int32) ≤ nI (2 + 12 * i) from nI_ge (b := 62) (by omega) (by omega)), show (64 : Int32) * nI k = nI (64 * k) from pk_mul 64 k, nI_add, n10, if_pos (in_nI (by omega) (by omega)), nI_clamp (by omega), if_neg (h i (by omega) (by omega)), show nI (2 + 12 * i) + (12 : Int32) = nI (2 + 12 * (i + 1)) from nI_add _ 12]
    exact ih fu (i + 1) (by omega) (by omega) (fun i' a b => h i' (by omega) b)
theorem em12_some {F k i0 : Nat} {k2 : Int32 → Mm → Rs} {E : Mm} (hk : k < 7) (hi0 : i0 < 5) (hz : E 10 (64 * k + (2 + 12 * i0)) = 0) : ∀ (m fu i : Nat), i + m = i0 → m < fu → (∀ i', i ≤ i' → i' < i0 → ¬ E 10 (64 * k + (2 + 12 * i')) = 0) → P_X8_emptyEntry_12 (gN MG) F k2 fu (nI k) (nI (2 + 12 * i)) E = some (nI (64 * k + (2 + 12 * i0)), E) := by
  have n10 : gN MG 10 = 448 := rfl
  intro m
  induction m with
  | zero =>
    intro fu i hi hfu h
    obtain ⟨fu, rfl⟩ : ∃ z, fu = z + 1 := ⟨fu - 1, by omega⟩
    have e : i = i0 := by omega
    subst e
    show (if (62 : Int32) ≤ nI (2 + 12 * i) then _ else (if inB ((64 * nI k) + nI (2 + 12 * i)) (gN MG 10) = true then (if (E 10 (Int32.toNatClampNeg ((64 * nI k) + nI (2 + 12 * i)))) = 0 then some ((64 * nI k) + nI (2 + 12 * i), E) else _) else none)) = _
    rw [if_neg (show ¬ (62 : Int32) ≤ nI (2 + 12 * i) from nI_ge (b := 62) (by omega) (by omega)), show (64 : Int32) * nI k = nI (64 * k) from pk_mul 64 k, nI_add, n10, if_pos (in_nI (by omega) (by omega)), nI_clamp (by omega), if_pos hz]
  | succ m ih =>
    intro fu i hi hfu h
    obtain ⟨fu, rfl⟩ : ∃ z, fu = z + 1 := ⟨fu - 1, by omega⟩
    show (if (62 : Int32) ≤ nI (2 + 12 * i) then _ else (if inB ((64 * nI k) + nI (2 + 12 * i)) (gN MG 10) = true then (if (E 10 (Int32.toNatClampNeg ((64 * nI k) + nI (2 + 12 * i)))) = 0 then _ else (P_X8_emptyEntry_12 (gN MG) F k2 fu (nI k) (nI (2 + 12 * i) + 12) E)) else none)) = _
    rw [if_neg (show ¬ (62 : Int32) ≤ nI (2 + 12 * i) from nI_ge (b := 62) (by omega) (by omega)), show (64 : Int32) * nI k = nI (64 * k) from pk_mul 64 k, nI_add, n10, if_pos (in_nI (by omega) (by omega)), nI_clamp (by omega), if_neg (h i (by omega) (by omega)), show nI (2 + 12 * i) + (12 : Int32) = nI (2 + 12 * (i + 1)) from nI_add _ 12]
    exact ih fu (i + 1) (by omega) (by omega) (fun i' a b => h i' (by omega) b)
theorem Ag_at {k i : Nat} (hi : i < 5) : Ag (5 * k + i) = 64 * k + (2 + 12 * i) := by unfold Ag; rw [show (5 * k + i) / 5 = k by omega, show (5 * k + i) % 5 = i by omega]; omega
theorem em2_none {F d : Nat} {E : Mm} (hF : 9000 ≤ F) (hd : d ≤ 7) (h23 : E 0 23 = nI d) : ∀ (m fu k : Nat), k + m = d → m < fu → (∀ g, 5 * k ≤ g → g < 5 * d → ¬ E 10 (Ag g) = 0) → P_X8_emptyEntry_2 (gN MG) F fu (nI k) E = some (-1, E) := by
  intro m
  induction m with
  | zero =>
    intro fu k hk hfu h
    obtain ⟨fu, rfl⟩ : ∃ z, fu = z + 1 := ⟨fu - 1, by omega⟩
    show (if (E 0 23) ≤ nI k then _ else _) = _
    rw [h23, if_pos (nI_le (by omega) (by omega))]
  | succ m ih =>
    intro fu k hk hfu h
    obtain ⟨fu, rfl⟩ : ∃ z, fu = z + 1 := ⟨fu - 1, by omega⟩
    show (if (E 0 23) ≤ nI k then _ else (P_X8_emptyEntry_12 (gN MG) F (fun x1 D => P_X8_emptyEntry_2 (gN MG) F fu x1 D) F (nI k) 2 E)) = _
    rw [h23, if_neg (nI_ge (by omega) (by omega))]
    have := em12_none (F := F) (k := k) (k2 := fun x1 D => P_X8_emptyEntry_2 (gN MG) F fu x1 D) (E := E) (by omega) 5 F 0 (by decide) (by omega) (fun i' _ b => by rw [← Ag_at b]; exact h _ (by omega) (by omega))
    refine Eq.trans this ?_
    exact ih fu (k + 1) (by omega) (by omega) (fun g a b => h g (by omega) b)
theorem em2_some {F d g : Nat} {E : Mm} (hF : 9000 ≤ F) (hd : d ≤ 7) (hg : g < 5 * d) (hz : E 10 (Ag g) = 0) (h23 : E 0 23 = nI d) : ∀ (m fu k : Nat), k + m = g / 5 → m < fu → (∀ h, 5 * k ≤ h → h < g → ¬ E 10 (Ag h) = 0) → P_X8_emptyEntry_2 (gN MG) F fu (nI k) E = some (nI (Ag g), E) := by
  intro m
  induction m with
  | zero =>
    intro fu k hk hfu h
    obtain ⟨fu, rfl⟩ : ∃ z, fu = z + 1 := ⟨fu - 1, by omega⟩
    show (if (E 0 23) ≤ nI k then _ else (P_X8_emptyEntry_12 (gN MG) F (fun x1 D => P_X8_emptyEntry_2 (gN MG) F fu x1 D) F (nI k) 2 E)) = _
    rw [h23, if_neg (nI_ge (by omega) (by omega))]
    have eg : Ag g = 64 * k + (2 + 12 * (g % 5)) := by rw [← Ag_at (k := k) (i := g % 5) (by omega)]; congr 1; omega
    rw [eg]
    exact em12_some (F := F) (k := k) (i0 := g % 5) (k2 := fun x1 D => P_X8_emptyEntry_2 (gN MG) F fu x1 D) (E := E) (by omega) (by omega) (by rw [← eg]; exact hz) (g % 5) F 0 (by omega) (by omega) (fun i' _ b => by rw [← Ag_at (show i' < 5 by omega)]; exact h _ (by omega) (by omega))
  | succ m ih =>
    intro fu k hk hfu h
    obtain ⟨fu, rfl⟩ : ∃ z, fu = z + 1 := ⟨fu - 1, by omega⟩
    show (if (E 0 23) ≤ nI k then _ else (P_X8_emptyEntry_12 (gN MG) F (fun x1 D => P_X8_emptyEntry_2 (gN MG) F fu x1 D) F (nI k) 2 E)) = _
    rw [h23, if_neg (nI_ge (by omega) (by omega))]
    have := em12_none (F := F) (k := k) (k2 := fun x1 D => P_X8_emptyEntry_2 (gN MG) F fu x1 D) (E := E) (by omega) 5 F 0 (by decide) (by omega) (fun i' _ b => by rw [← Ag_at b]; exact h _ (by omega) (by omega))
    refine Eq.trans this ?_
    exact ih fu (k + 1) (by omega) (by omega) (fun g a b => h g (by omega) b)
def LfP (m : Nat → Int32) (x : Int32) (n : Nat) : Prop := (x = -1 ∧ ∀ s, n ≤ s → s < 8 → ¬ fr m 9 s = true) ∨ ∃ s0, n ≤ s0 ∧ s0 < 8 ∧ x = nI s0 ∧ fr m 9 s0 = true ∧ ∀ s, n ≤ s → s < s0 → ¬ fr m 9 s = true
theorem v9 {s : Nat} (hs : s < 8) : Vd 9 s := ⟨by decide, by decide, hs⟩
theorem lf_go {F : Nat} {D : Mm} : ∀ (m fu s : Nat), s + m = 8 → m < fu → ∃ x, P_X4_leastFree_7 (gN XG) F fu 9 (nI 8) (nI s) D = some (x, D) ∧ LfP (D 57) x s := by
  intro m
  induction m with
  | zero =>
    intro fu s hs hfu
    obtain ⟨fu, rfl⟩ : ∃ z, fu = z + 1 := ⟨fu - 1, by omega⟩
    refine ⟨-1, ?_, Or.inl ⟨rfl, fun s' a b => by omega⟩⟩
    show (if nI 8 ≤ nI s then _ else _) = _
    rw [if_pos (nI_le (by omega) (by omega))]
  | succ m ih =>
    intro fu s hs hfu
    obtain ⟨fu, rfl⟩ : ∃ z, fu = z + 1 := ⟨fu - 1, by omega⟩
    have ex : P_X4_leastFree_7 (gN XG) F (fu + 1) 9 (nI 8) (nI s) D = (if fr (D 57) 9 s then some (nI s, D) else P_X4_leastFree_7 (gN XG) F fu 9 (nI 8) (nI (s + 1)) D) := by
      show (if nI 8 ≤ nI s then _ else (bi (P_X4_isFree (gN XG) F (nI 9) (nI s) D) (fun r2 D2 => if r2 = 0 then (P_X4_leastFree_7 (gN XG) F fu 9 (nI 8) (nI s + 1) D2) else (some (nI s, D2))))) = _
      rw [if_neg (nI_ge (by omega) (by omega)), xfree_eq D (v9 (by omega)), bi_s, nI_1]
      by_cases c : fr (D 57) 9 s = true
      · rw [if_pos c, if_pos c, if_neg (by decide)]
      · rw [if_neg c, if_neg c, if_pos rfl]
    rw [ex]
    by_cases c : fr (D 57) 9 s = true
    · rw [if_pos c]
      exact ⟨_, rfl, Or.inr ⟨s, Nat.le_refl s, by omega, rfl, c, fun s' a b => by omega⟩⟩
    · rw [if_neg c]
      obtain ⟨x, h1, h2⟩ := ih fu (s + 1) (by omega) (by omega)
      refine ⟨x, h1, ?_⟩
      rcases h2 with ⟨a, b⟩ | ⟨s0, a, b, d, e, f⟩
      · left
        refine ⟨a, fun s' u v => ?_⟩
        by_cases q : s' = s
        · rw [q]; exact c
        · exact b s' (by omega) v
      · right
        refine ⟨s0, by omega, b, d, e, fun s' u v => ?_⟩
        by_cases q : s' = s
        · rw [q]; exact c
        · exact f s' (by omega) v
theorem fd_go {F : Nat} {E : Mm} : ∀ (n fu : Nat) (x : Int32), n ≤ 8 → n < fu → LfP (E 9) x n → ∃ x', P_X8_freeOfDirectory_10 (gN MG) F fu x (nI n + (-1)) E = some (x', E) ∧ LfP (E 9) x' 0 := by
  intro n
  induction n with
  | zero =>
    intro fu x hn hfu h
    obtain ⟨fu, rfl⟩ : ∃ z, fu = z + 1 := ⟨fu - 1, by omega⟩
    refine ⟨x, ?_, h⟩
    show (if nI 0 + (-1) < 0 then _ else _) = _
    rw [if_pos (by decide)]
  | succ n ih =>
    intro fu x hn hfu h
    obtain ⟨fu, rfl⟩ : ∃ z, fu = z + 1 := ⟨fu - 1, by omega⟩
    rw [pk_m1]
    have em : P_X8_freeOfDirectory_10 (gN MG) F (fu + 1) x (nI n) E = (if fr (E 9) 9 n then P_X8_freeOfDirectory_10 (gN MG) F fu (nI n) (nI n + (-1)) E else P_X8_freeOfDirectory_10 (gN MG) F fu x (nI n + (-1)) E) := by
      show (if nI n < 0 then _ else (bi (P_X8_isFree (gN MG) F (nI 9) (nI n) E) (fun r2 D2 => if r2 = 0 then (P_X8_freeOfDirectory_10 (gN MG) F fu x (nI n + (-1)) D2) else (P_X8_freeOfDirectory_10 (gN MG) F fu (nI n) (nI n + (-1)) D2)))) = _
      rw [if_neg (show ¬ nI n < 0 from nI_nlt (b := 0) (by omega) (by omega)), mfree_eq E (v9 (by omega)), bi_s]
      by_cases c : fr (E 9) 9 n = true
      · rw [if_pos c, if_pos c, if_neg (by decide)]
      · rw [if_neg c, if_neg c, if_pos rfl]
    rw [em]
    by_cases c : fr (E 9) 9 n = true
    · rw [if_pos c]
      exact ih fu (nI n) (by omega) (by omega) (Or.inr ⟨n, Nat.le_refl n, by omega, rfl, c, fun s' a b => by omega⟩)
    · rw [if_neg c]
      refine ih fu x (by omega) (by omega) ?_
      rcases h with ⟨a, b⟩ | ⟨s0, a, b, d, e, f⟩
      · left
        refine ⟨a, fun s' u v => ?_⟩
        by_cases q : s' = n
        · rw [q]; exact c
        · exact b s' (by omega) v
      · right
        refine ⟨s0, by omega, b, d, e, fun s' u v => ?_⟩
        by_cases q : s' = n
        · rw [q]; exact c
        · exact f s' (by omega) v
theorem lf_sim {F : Nat} {D E : Mm} (hF : 9000 ≤ F) (hm : MapEq D E) : (P_X4_leastFree (gN XG) F 9 D = some (-1, D) ∧ P_X8_freeOfDirectory (gN MG) F E = some (-1, E)) ∨ ∃ s, s < 8 ∧ P_X4_leastFree (gN XG) F 9 D = some (nI s, D) ∧ P_X8_freeOfDirectory (gN MG) F E = some (nI s, E) := by
  obtain ⟨x, x1, x2⟩ := lf_go (F := F) (D := D) 8 F 0 (by decide) (by omega)
  obtain ⟨y, y1, y2⟩ := fd_go (F := F) (E := E) 8 F (-1) (by decide) (by omega) (Or.inl ⟨rfl, fun s a b => by omega⟩)
  have x1' : P_X4_leastFree (gN XG) F 9 D = some (x, D) := by
    unfold P_X4_leastFree
    rw [show P_X0_sectorsOf (gN XG) F 9 D = some (nI 8, D) from xsectorsOf_eq (t := 9) D (by decide) (by decide), bi_s]
    exact x1
  have y1' : P_X8_freeOfDirectory (gN MG) F E = some (y, E) := by
    unfold P_X8_freeOfDirectory
    rw [show P_X8_sectorsOf (gN MG) F 9 E = some (nI 8, E) from msectorsOf_eq (t := 9) E (by decide), bi_s, show nI 8 - (1 : Int32) = nI 8 + (-1) by decide]
    exact y1
  have hf : ∀ s, s < 8 → fr (D 57) 9 s = fr (E 9) 9 s := fun s hs => by unfold fr; rw [hm _ (by omega)]
  rw [x1', y1']
  rcases x2 with ⟨rfl, a⟩ | ⟨s0, _, b, rfl, c, d⟩
  · left
    rcases y2 with ⟨rfl, _⟩ | ⟨s1, _, b', rfl, c', _⟩
    · exact ⟨rfl, rfl⟩
    · exact absurd (by rw [hf s1 b']; exact c') (a s1 (by omega) b')
  · right
    rcases y2 with ⟨rfl, a'⟩ | ⟨s1, _, b', rfl, c', d'⟩
    · exact absurd (by rw [← hf s0 b]; exact c) (a' s0 (by omega) b)
    · have e : s0 = s1 := by
        rcases Nat.lt_trichotomy s0 s1 with q | q | q
        · exact absurd (by rw [← hf s0 b]; exact c) (d' s0 (by omega) q)
        · exact q
        · exact absurd (by rw [hf s1 b']; exact c') (d s1 (by omega) q)
      subst e
      exact ⟨s0, b, rfl, rfl⟩
theorem fname_go {F u p : Nat} {a b : Int32} (hN : gN XG u = 64) (hp : p + 8 ≤ 64) : ∀ (m fu i : Nat) (D : Mm), i + m = 8 → m < fu → ∃ r : Nat → Int32, P_X7_fillName_3 (gN XG) F u fu (nI p) a b (nI i) D = some (0, upA D u r) ∧ ∀ j, r j = if p + i ≤ j ∧ j < p + 8 then nB a b (j - p) else D u j := by
  intro m
  induction m with
  | zero =>
    intro fu i D hi hfu
    obtain ⟨fu, rfl⟩ : ∃ z, fu = z + 1 := ⟨fu - 1, by omega⟩
    refine ⟨D u, ?_, fun j => by rw [if_neg (by omega)]⟩
    show (if (8 : Int32) ≤ nI i then _ else _) = _
    rw [if_pos (show (8 : Int32) ≤ nI i from nI_le (a := 8) (by omega) (by omega)), upA_id]
  | succ m ih =>
    intro fu i D hi hfu
    obtain ⟨fu, rfl⟩ : ∃ z, fu = z + 1 := ⟨fu - 1, by omega⟩
    obtain ⟨r, q1, q2⟩ := ih fu (i + 1) (up2 D u (p + i) (nB a b i)) (by omega) (by omega)
    refine ⟨r, ?_, fun j => ?_⟩
    · show (if (8 : Int32) ≤ nI i then _ else (bi (P_X7_nameByte (gN XG) F a b (nI i) D) (fun r2 D2 => if inB (nI p + nI i) (gN XG u) = true then (P_X7_fillName_3 (gN XG) F u fu (nI p) a b (nI i + 1) (up2 D2 u (Int32.toNatClampNeg (nI p + nI i)) r2)) else none))) = _
      rw [if_neg (show ¬ (8 : Int32) ≤ nI i from nI_ge (b := 8) (by omega) (by omega)), xname_eq D (by omega), bi_s, nI_add, hN, if_pos (in_nI (by omega) (by omega)), nI_clamp (by omega), nI_1, q1, show upA (up2 D u (p + i) (nB a b i)) u r = upA D u r from upA_upA D _ _ r]
    · rw [q2 j, up2_app]
      by_cases c : j = p + i
      · subst c
        rw [if_neg (by omega), if_pos ⟨rfl, rfl⟩, if_pos (by omega)]
        congr 1
        omega
      · rw [show (if u = u ∧ j = p + i then nB a b i else D u j) = D u j from if_neg (fun q => c q.2)]
        by_cases c2 : p + (i + 1) ≤ j ∧ j < p + 8
        · rw [if_pos c2, if_pos (by omega)]
        · rw [if_neg c2, if_neg (by omega)]
/-- the tail of the reference's save, from the entry's block on -/
def sTail (F : Nat) (x6 : Int32) (P : Rs) : Rs := bi P (fun r7 D7 => if r7 = 0 then (some (0, D7)) else (if x6 = 0 then (P_X8_saves_409 (gN MG) F F 0 D7) else (bi (P_X8_writeDirectory (gN MG) F ((D7 0 23) - 2) D7) (fun r10 D10 => if r10 = 0 then (some (0, D10)) else (P_X8_saves_409 (gN MG) F F 0 D10)))))
theorem s342_go {F q : Nat} {a b x6 : Int32} (hq : q + 12 ≤ 448) : ∀ (m fu i : Nat) (D : Mm), i + m = 8 → m < fu → ∃ r : Nat → Int32, P_X8_saves_342 (gN MG) F fu a b (nI q) x6 (nI i) D = sTail F x6 (P_X8_writeDirectory (gN MG) F (nI (q / 64)) (upA D 10 r)) ∧ ∀ j, r j = if q + 4 + i ≤ j ∧ j < q + 12 then nB a b (j - (q + 4)) else D 10 j := by
  have n10 : gN MG 10 = 448 := rfl
  intro m
  induction m with
  | zero =>
    intro fu i D hi hfu
    obtain ⟨fu, rfl⟩ : ∃ z, fu = z + 1 := ⟨fu - 1, by omega⟩
    refine ⟨D 10, ?_, fun j => by rw [if_neg (by omega)]⟩
    show (if (8 : Int32) ≤ nI i then sTail F x6 (P_X8_writeDirectory (gN MG) F (nI q / 64) D) else _) = _
    rw [if_pos (show (8 : Int32) ≤ nI i from nI_le (a := 8) (by omega) (by omega)), upA_id, show nI q / (64 : Int32) = nI (q / 64) from pk_div (d := 64) (by omega) (by omega) (by omega)]
  | succ m ih =>
    intro fu i D hi hfu
    obtain ⟨fu, rfl⟩ : ∃ z, fu = z + 1 := ⟨fu - 1, by omega⟩
    obtain ⟨r, q1, q2⟩ := ih fu (i + 1) (up2 D 10 (q + 4 + i) (nB a b i)) (by omega) (by omega)
    refine ⟨r, ?_, fun j => ?_⟩
    · show (if (8 : Int32) ≤ nI i then _ else (bi (P_X8_nameByte (gN MG) F a b (nI i) D) (fun r12 D12 => if inB ((nI q + 4) + nI i) (gN MG 10) = true then (P_X8_saves_342 (gN MG) F fu a b (nI q) x6 (nI i + 1) (up2 D12 10 (Int32.toNatClampNeg ((nI q + 4) + nI i)) r12)) else none))) = _
      rw [if_neg (show ¬ (8 : Int32) ≤ nI i from nI_ge (b := 8) (by omega) (by omega)), mname_eq D (by omega), bi_s, show nI q + (4 : Int32) = nI (q + 4) from nI_add q 4, nI_add, n10, if_pos (in_nI (by omega) (by omega)), nI_clamp (by omega), nI_1, q1, show upA (up2 D 10 (q + 4 + i) (nB a b i)) 10 r = upA D 10 r from upA_upA D _ _ r]
    · rw [q2 j, up2_app]
      by_cases c : j = q + 4 + i
      · subst c
        rw [if_neg (by omega), if_pos ⟨rfl, rfl⟩, if_pos (by omega)]
        congr 1
        omega
      · rw [show (if 10 = 10 ∧ j = q + 4 + i then nB a b i else D 10 j) = D 10 j from if_neg (fun q => c q.2)]
        by_cases c2 : q + 4 + (i + 1) ≤ j ∧ j < q + 12
        · rw [if_pos c2, if_pos (by omega)]
        · rw [if_neg c2, if_neg (by omega)]
/-- a row with an entry at p -/
def enF (f : Nat → Int32) (p : Nat) (ty t0 s0 n a b : Int32) (j : Nat) : Int32 := if j = p then ty else if j = p + 1 then t0 else if j = p + 2 then s0 else if j = p + 3 then n else if p + 4 ≤ j ∧ j < p + 12 then nB a b (j - (p + 4)) else f j
theorem enF_shift {f g : Nat → Int32} {p k : Nat} {ty t0 s0 n a b : Int32} (h : ∀ j, j < 64 → f j = g (64 * k + j)) : ∀ j, j < 64 → enF f p ty t0 s0 n a b j = enF g (64 * k + p) ty t0 s0 n a b (64 * k + j) := by
  intro j hj
  unfold enF
  by_cases c0 : j = p
  · rw [if_pos c0, if_pos (by omega)]
  rw [if_neg c0, if_neg (show ¬ 64 * k + j = 64 * k + p by omega)]
  by_cases c1 : j = p + 1
  · rw [if_pos c1, if_pos (by omega)]
  rw [if_neg c1, if_neg (show ¬ 64 * k + j = 64 * k + p + 1 by omega)]
  by_cases c2 : j = p + 2
  · rw [if_pos c2, if_pos (by omega)]
  rw [if_neg c2, if_neg (show ¬ 64 * k + j = 64 * k + p + 2 by omega)]
  by_cases c3 : j = p + 3
  · rw [if_pos c3, if_pos (by omega)]
  rw [if_neg c3, if_neg (show ¬ 64 * k + j = 64 * k + p + 3 by omega)]
  by_cases c4 : p + 4 ≤ j ∧ j < p + 12
  · rw [if_pos c4, if_pos (by omega)]
    congr 1
    omega
  · rw [if_neg c4, if_neg (by omega)]
    exact h j hj
theorem fillE_eq {F p : Nat} {ty a b : Int32} {D : Mm} (hF : 9000 ≤ F) (hp : 2 ≤ p) (hp2 : p + 12 ≤ 64) : P_X7_fillEntry (gN XG) F 60 (nI p) ty a b D = some (0, upA D 60 (enF (D 60) p ty (D 62 0) (D 63 0) (D 61 4) a b)) := by
  have n60 : gN XG 60 = 64 := rfl
  have n62 : gN XG 62 = 40 := rfl
  have n63 : gN XG 63 = 40 := rfl
  have z0 : Int32.toNatClampNeg 0 = 0 := rfl
  unfold P_X7_fillEntry P_X7_fillEntry_33 P_X7_fillEntry_59
  rw [if_neg (show ¬ nI p < 2 from nI_nlt (b := 2) (by omega) (by omega)), show nI p + (12 : Int32) = nI (p + 12) from nI_add p 12, show nI p + (1 : Int32) = nI (p + 1) from nI_add p 1, show nI p + (2 : Int32) = nI (p + 2) from nI_add p 2, show nI p + (3 : Int32) = nI (p + 3) from nI_add p 3, show nI p + (4 : Int32) = nI (p + 4) from nI_add p 4, n60, n62, n63, if_pos (nI_le (by omega) (by omega)), if_pos (in_nI (by omega) (by omega)), if_pos (show inB 0 40 = true by decide), if_pos (in_nI (by omega) (by omega)), if_pos (show inB 0 40 = true by decide), if_pos (in_nI (by omega) (by omega)), if_pos (in_nI (by omega) (by omega)), z0, nI_clamp (by omega), nI_clamp (by omega), nI_clamp (by omega), nI_clamp (by omega)]
  rw [up2_o (show 62 ≠ 60 by decide), up2_o (show 63 ≠ 60 by decide), up2_o (show 63 ≠ 60 by decide), up2_o (show 61 ≠ 60 by decide), up2_o (show 61 ≠ 60 by decide), up2_o (show 61 ≠ 60 by decide)]
  obtain ⟨r, q1, q2⟩ := fname_go (F := F) (u := 60) (p := p + 4) (a := a) (b := b) rfl (by omega) 8 F 0 (up2 (up2 (up2 (up2 D 60 p ty) 60 (p + 1) (D 62 0)) 60 (p + 2) (D 63 0)) 60 (p + 3) (D 61 4)) (by decide) (by omega)
  have q1' : P_X7_fillName (gN XG) F 60 (nI (p + 4)) a b (up2 (up2 (up2 (up2 D 60 p ty) 60 (p + 1) (D 62 0)) 60 (p + 2) (D 63 0)) 60 (p + 3) (D 61 4)) = _ := q1
  rw [q1', bi_s, up2_A, upA_upA, up2_A, upA_upA, up2_A, upA_upA, up2_A, upA_upA]
  congr 3
  funext j
  rw [q2 j]
  unfold enF
  rw [up2_app, up2_app, up2_app, up2_app]
  by_cases c0 : j = p
  · subst c0
    simp
    intro h
    omega
  by_cases c1 : j = p + 1
  · subst c1
    simp
  by_cases c2 : j = p + 2
  · subst c2
    simp
  by_cases c3 : j = p + 3
  · subst c3
    simp
  rw [if_neg c0, if_neg c1, if_neg c2, if_neg c3]
  simp only [c0, c1, c2, c3, and_false, if_false]
theorem s288_eq {F q : Nat} {ty a b x6 : Int32} {D : Mm} (hF : 9000 ≤ F) (hq : q + 12 ≤ 448) : P_X8_saves_288 (gN MG) F ty a b (nI q) x6 D = sTail F x6 (P_X8_writeDirectory (gN MG) F (nI (q / 64)) (upA D 10 (enF (D 10) q ty (D 13 0) (D 14 0) (D 0 28) a b))) := by
  have n10 : gN MG 10 = 448 := rfl
  have n13 : gN MG 13 = 40 := rfl
  have n14 : gN MG 14 = 40 := rfl
  have z0 : Int32.toNatClampNeg 0 = 0 := rfl
  unfold P_X8_saves_288 P_X8_saves_311 P_X8_saves_339
  rw [show nI q + (1 : Int32) = nI (q + 1) from nI_add q 1, show nI q + (2 : Int32) = nI (q + 2) from nI_add q 2, show nI q + (3 : Int32) = nI (q + 3) from nI_add q 3, n10, n13, n14, if_pos (in_nI (by omega) (by omega)), if_pos (show inB 0 40 = true by decide), if_pos (in_nI (by omega) (by omega)), if_pos (show inB 0 40 = true by decide), if_pos (in_nI (by omega) (by omega)), if_pos (in_nI (by omega) (by omega)), z0, nI_clamp (by omega), nI_clamp (by omega), nI_clamp (by omega), nI_clamp (by omega)]
  rw [up2_o (show 13 ≠ 10 by decide), up2_o (show 14 ≠ 10 by decide), up2_o (show 14 ≠ 10 by decide), up2_o (show 0 ≠ 10 by decide), up2_o (show 0 ≠ 10 by decide), up2_o (show 0 ≠ 10 by decide)]
  obtain ⟨r, q1, q2⟩ := s342_go (F := F) (q := q) (a := a) (b := b) (x6 := x6) hq 8 F 0 (up2 (up2 (up2 (up2 D 10 q ty) 10 (q + 1) (D 13 0)) 10 (q + 2) (D 14 0)) 10 (q + 3) (D 0 28)) (by decide) (by omega)
  refine Eq.trans q1 ?_
  rw [up2_A, upA_upA, up2_A, upA_upA, up2_A, upA_upA, up2_A, upA_upA]
  congr 3
  funext j
  rw [q2 j]
  unfold enF
  rw [up2_app, up2_app, up2_app, up2_app]
  by_cases c0 : j = q
  · subst c0
    simp
    intro h
    omega
  by_cases c1 : j = q + 1
  · subst c1
    simp
  by_cases c2 : j = q + 2
  · subst c2
    simp
  by_cases c3 : j = q + 3
  · subst c3
    simp
  rw [if_neg c0, if_neg c1, if_neg c2, if_neg c3]
  simp only [c0, c1, c2, c3, and_false, if_false]
theorem s409_go {F n : Nat} {B : Nat → Int32} (hn : n ≤ 40) : ∀ (m fu i : Nat) (E : Mm), i + m = n → m < fu → E 0 28 = nI n → (∀ i, i < n → ∃ t s, Vd t s ∧ E 13 i = nI t ∧ E 14 i = nI s) → E 9 = clr (E 13) (E 14) i B → P_X8_saves_409 (gN MG) F fu (nI i) E = bi (P_X8_writeMap (gN MG) F (upA E 9 (clr (E 13) (E 14) n B))) (fun r2 D2 => some (r2, D2)) := by
  have n13 : gN MG 13 = 40 := rfl
  have n14 : gN MG 14 = 40 := rfl
  intro m
  induction m with
  | zero =>
    intro fu i E hi hfu h28 hv h9
    obtain ⟨fu, rfl⟩ : ∃ z, fu = z + 1 := ⟨fu - 1, by omega⟩
    have e : i = n := by omega
    subst e
    show (if (E 0 28) ≤ nI i then _ else _) = _
    rw [h28, if_pos (nI_le (by omega) (by omega)), ← h9, upA_id]
  | succ m ih =>
    intro fu i E hi hfu h28 hv h9
    obtain ⟨fu, rfl⟩ : ∃ z, fu = z + 1 := ⟨fu - 1, by omega⟩
    obtain ⟨t, s, v, e1, e2⟩ := hv i (by omega)
    have hb : t < 1000 ∧ s < 1000 := by have := secN_le t; obtain ⟨_, a, b⟩ := v; omega
    show (if (E 0 28) ≤ nI i then _ else (if inB (nI i) (gN MG 13) = true then (if inB (nI i) (gN MG 14) = true then (bi (P_X8_setFree (gN MG) F (E 13 (Int32.toNatClampNeg (nI i))) (E 14 (Int32.toNatClampNeg (nI i))) 0 E) (fun r5 D5 => P_X8_saves_409 (gN MG) F fu (nI i + 1) D5)) else none) else none)) = _
    rw [h28, if_neg (nI_ge (by omega) (by omega)), n13, n14, if_pos (in_nI (by omega) (by omega)), if_pos (in_nI (by omega) (by omega)), nI_clamp (by omega), e1, e2, mset_eq E v, bi_s, nI_1]
    have o13 : upA E 9 (sf 0 t s (E 9)) 13 = E 13 := upA_ne (by decide)
    have o14 : upA E 9 (sf 0 t s (E 9)) 14 = E 14 := upA_ne (by decide)
    have := ih fu (i + 1) (upA E 9 (sf 0 t s (E 9))) (by omega) (by omega) (by rw [upA_ne (by decide)]; exact h28) (by rw [o13, o14]; exact hv) (by
      rw [upA_row, o13, o14]
      show _ = sfI (E 13 i) (E 14 i) (clr (E 13) (E 14) i B)
      rw [e1, e2, sfI_eq _ hb.1 hb.2, ← h9])
    rw [o13, o14, upA_upA] at this
    exact this
theorem s207_go {F d : Nat} {ty a b x6 x7 : Int32} (hd : d + 1 < 7) : ∀ (m fu i : Nat) (E : Mm), i + m = 64 → m < fu → E 0 23 = nI (d + 1) → ∃ r : Nat → Int32, P_X8_saves_207 (gN MG) F fu ty a b x6 x7 (nI i) E = P_X8_saves_258 (gN MG) F ty a b x6 x7 (up2 (up2 (upA E 10 r) 11 (d + 1) 9) 12 (d + 1) x7) ∧ ∀ j, r j = if 64 * (d + 1) + i ≤ j ∧ j < 64 * (d + 1) + 64 then 0 else E 10 j := by
  have n10 : gN MG 10 = 448 := rfl
  have n11 : gN MG 11 = 7 := rfl
  have n12 : gN MG 12 = 7 := rfl
  intro m
  induction m with
  | zero =>
    intro fu i E hi hfu h23
    obtain ⟨fu, rfl⟩ : ∃ z, fu = z + 1 := ⟨fu - 1, by omega⟩
    refine ⟨E 10, ?_, fun j => by rw [if_neg (by omega)]⟩
    show (if (64 : Int32) ≤ nI i then (if inB (E 0 23) (gN MG 11) = true then (if inB ((up2 E 11 (Int32.toNatClampNeg (E 0 23)) 9) 0 23) (gN MG 12) = true then (P_X8_saves_258 (gN MG) F ty a b x6 x7 (up2 (up2 E 11 (Int32.toNatClampNeg (E 0 23)) 9) 12 (Int32.toNatClampNeg ((up2 E 11 (Int32.toNatClampNeg (E 0 23)) 9) 0 23)) x7)) else none) else none) else _) = _
    rw [if_pos (show (64 : Int32) ≤ nI i from nI_le (a := 64) (by omega) (by omega)), up2_o (show 0 ≠ 11 by decide), h23, n11, n12, if_pos (in_nI (by omega) (by omega)), if_pos (in_nI (by omega) (by omega)), nI_clamp (by omega), upA_id]
  | succ m ih =>
    intro fu i E hi hfu h23
    obtain ⟨fu, rfl⟩ : ∃ z, fu = z + 1 := ⟨fu - 1, by omega⟩
    obtain ⟨r, q1, q2⟩ := ih fu (i + 1) (up2 E 10 (64 * (d + 1) + i) 0) (by omega) (by omega) (by rw [up2_o (by decide)]; exact h23)
    refine ⟨r, ?_, fun j => ?_⟩
    · show (if (64 : Int32) ≤ nI i then _ else (if inB ((64 * (E 0 23)) + nI i) (gN MG 10) = true then (P_X8_saves_207 (gN MG) F fu ty a b x6 x7 (nI i + 1) (up2 E 10 (Int32.toNatClampNeg ((64 * (E 0 23)) + nI i)) 0)) else none)) = _
      rw [if_neg (show ¬ (64 : Int32) ≤ nI i from nI_ge (b := 64) (by omega) (by omega)), h23, show (64 : Int32) * nI (d + 1) = nI (64 * (d + 1)) from pk_mul 64 _, nI_add, n10, if_pos (in_nI (by omega) (by omega)), nI_clamp (by omega), nI_1, q1, show upA (up2 E 10 (64 * (d + 1) + i) 0) 10 r = upA E 10 r from upA_upA E _ _ r]
    · rw [q2 j, up2_app]
      by_cases c : j = 64 * (d + 1) + i
      · subst c
        rw [if_neg (by omega), if_pos ⟨rfl, rfl⟩, if_pos (by omega)]
      · rw [show (if 10 = 10 ∧ j = 64 * (d + 1) + i then (0 : Int32) else E 10 j) = E 10 j from if_neg (fun q => c q.2)]
        by_cases c2 : 64 * (d + 1) + (i + 1) ≤ j ∧ j < 64 * (d + 1) + 64
        · rw [if_pos c2, if_pos (by omega)]
        · rw [if_neg c2, if_neg (by omega)]
