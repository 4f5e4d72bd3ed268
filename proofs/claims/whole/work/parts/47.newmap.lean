/-! NEWMAP: the map of a new disk -/
def fs (v : Nat → Nat → Int32) (t : Nat) : Nat → (Nat → Int32) → Nat → Int32
  | 0, m => m
  | s + 1, m => sf (v t s) t s (fs v t s m)
def ft (v : Nat → Nat → Int32) : Nat → (Nat → Int32) → Nat → Int32
  | 0, m => m
  | t + 1, m => fs v (t + 1) (secN (t + 1)) (ft v t m)
def m0 : Nat → Int32 := fun j => if j = 0 then 9 else if j = 1 then 1 else 0
def v1 : Nat → Nat → Int32 := fun _ _ => 1
def v2 : Nat → Nat → Int32 := fun t s => if t = 9 ∧ s ≤ 1 then 0 else 1
theorem maps_eq : ∀ j, j < 64 → sf 0 9 1 (sf 0 9 0 (ft v1 16 m0)) j = ft v2 16 m0 j := by decide +kernel
def mpF (M : Nat → Int32) (a b h l : Int32) (j : Nat) : Int32 := if j = 49 then l else if j = 48 then h else if 40 ≤ j ∧ j < 48 then nB a b (j - 40) else M j
theorem fn45_go {F t : Nat} {M : Nat → Int32} {x1 x2 x3 : Int32} {k28 : Int32 → Int32 → Int32 → Int32 → Mm → Rs} (h1 : 1 ≤ t) (ht : t ≤ 16) : ∀ (m fu s : Nat) (D : Mm), s + m = secN t → m < fu → (∀ j, j < 64 → D 57 j = fs v1 t s M j) → ∃ r : Nat → Int32, P_X4_fillNew_45 (gN XG) F k28 fu x1 x2 x3 (nI t) (nI (secN t)) (nI s) D = k28 x1 x2 x3 (nI (t + 1)) (upA D 57 r) ∧ ∀ j, j < 64 → r j = fs v1 t (secN t) M j := by
  have hsn := secN_le t
  intro m
  induction m with
  | zero =>
    intro fu s D hi hfu hd
    obtain ⟨fu, rfl⟩ : ∃ z, fu = z + 1 := ⟨fu - 1, by omega⟩
    have e : s = secN t := by omega
    subst e
    refine ⟨D 57, ?_, hd⟩
    show (if nI (secN t) ≤ nI (secN t) then k28 x1 x2 x3 (nI t + 1) D else _) = _
    rw [if_pos (nI_le (by omega) (by omega)), nI_1, upA_id]
  | succ m ih =>
    intro fu s D hi hfu hd
    obtain ⟨fu, rfl⟩ : ∃ z, fu = z + 1 := ⟨fu - 1, by omega⟩
    have hv : Vd t s := ⟨h1, ht, by omega⟩
    obtain ⟨r, q1, q2⟩ := ih fu (s + 1) (upA D 57 (sf 1 t s (D 57))) (by omega) (by omega) (by rw [upA_row]; exact sf_eq hv hd)
    refine ⟨r, ?_, q2⟩
    show (if nI (secN t) ≤ nI s then _ else (bi (P_X4_setFree (gN XG) F (nI t) (nI s) 1 D) (fun r2 D2 => P_X4_fillNew_45 (gN XG) F k28 fu x1 x2 x3 (nI t) (nI (secN t)) (nI s + 1) D2))) = _
    rw [if_neg (nI_ge (by omega) (by omega)), xset_eq D hv, bi_s, nI_1, q1, upA_upA]
theorem fn28_go {F : Nat} {M : Nat → Int32} {x1 a b : Int32} (hF : 9000 ≤ F) : ∀ (m fu t : Nat) (D : Mm), t + m = 16 → m < fu → (∀ j, j < 64 → D 57 j = ft v1 t M j) → ∃ r : Nat → Int32, P_X4_fillNew_28 (gN XG) F fu x1 a b (nI (t + 1)) D = some (0, upA D 57 r) ∧ ∀ j, j < 64 → r j = mpF (sf 0 9 1 (sf 0 9 0 (ft v1 16 M))) a b ((x1 >>> (8 &&& 31)) &&& 255) (x1 &&& 255) j := by
  have n57 : gN XG 57 = 64 := rfl
  intro m
  induction m with
  | zero =>
    intro fu t D hi hfu hd
    obtain ⟨fu, rfl⟩ : ∃ z, fu = z + 1 := ⟨fu - 1, by omega⟩
    have e : t = 16 := by omega
    subst e
    obtain ⟨A, hA⟩ : ∃ z, z = upA D 57 (sf 0 9 1 (sf 0 9 0 (D 57))) := ⟨_, rfl⟩
    obtain ⟨r, q1, q2⟩ := fname_go (F := F) (u := 57) (p := 40) (a := a) (b := b) rfl (by decide) 8 F 0 A (by decide) (by omega)
    have q1' : P_X7_fillName (gN XG) F 57 40 a b A = some (0, upA A 57 r) := q1
    refine ⟨upd (upd r 48 ((x1 >>> (8 &&& 31)) &&& 255)) 49 (x1 &&& 255), ?_, fun j hj => ?_⟩
    · show (if (16 : Int32) < nI 17 then (bi (P_X4_setFree (gN XG) F (nI 9) (nI 0) 0 D) (fun r4 D4 => bi (P_X4_setFree (gN XG) F (nI 9) (nI 1) 0 D4) (fun r5 D5 => bi (P_X7_fillName (gN XG) F 57 40 a b D5) (fun r6 D6 => if inB 48 (gN XG 57) = true then (if inB 49 (gN XG 57) = true then (some (0, up2 (up2 D6 57 (Int32.toNatClampNeg 48) ((x1 >>> (8 &&& 31)) &&& 255)) 57 (Int32.toNatClampNeg 49) (x1 &&& 255))) else none) else none)))) else _) = _
      rw [if_pos (by decide), xset_eq D (v9 (by decide)), bi_s, xset_eq _ (v9 (by decide)), bi_s, upA_row, upA_upA, ← hA, q1', bi_s, n57, if_pos (show inB 48 64 = true by decide), if_pos (show inB 49 64 = true by decide), show Int32.toNatClampNeg 48 = 48 from rfl, show Int32.toNatClampNeg 49 = 49 from rfl, hA, upA_upA, upA_up2, upA_up2]
    · have ha : A 57 j = sf 0 9 1 (sf 0 9 0 (ft v1 16 M)) j := by
        rw [hA, upA_row]
        exact sf_eq (v9 (by decide)) (sf_eq (v9 (by decide)) hd) j hj
      unfold upd mpF
      by_cases c1 : j = 49
      · rw [if_pos c1, if_pos c1]
      rw [if_neg c1, if_neg c1]
      by_cases c2 : j = 48
      · rw [if_pos c2, if_pos c2]
      rw [if_neg c2, if_neg c2, q2 j]
      by_cases c3 : 40 ≤ j ∧ j < 48
      · rw [if_pos c3, if_pos (by omega)]
      · rw [if_neg c3, if_neg (by omega), ha]
  | succ m ih =>
    intro fu t D hi hfu hd
    obtain ⟨fu, rfl⟩ : ∃ z, fu = z + 1 := ⟨fu - 1, by omega⟩
    have hsn := secN_le (t + 1)
    obtain ⟨r, p1, p2⟩ := fn45_go (F := F) (t := t + 1) (M := ft v1 t M) (x1 := x1) (x2 := a) (x3 := b) (k28 := fun x1 x2 x3 x4 D => P_X4_fillNew_28 (gN XG) F fu x1 x2 x3 x4 D) (by omega) (by omega) (secN (t + 1)) F 0 D (by omega) (by omega) hd
    obtain ⟨r', q1, q2⟩ := ih fu (t + 1) (upA D 57 r) (by omega) (by omega) (by rw [upA_row]; exact p2)
    refine ⟨r', ?_, q2⟩
    show (if (16 : Int32) < nI (t + 1) then _ else (bi (P_X0_sectorsOf (gN XG) F (nI (t + 1)) D) (fun r9 D9 => P_X4_fillNew_45 (gN XG) F (fun x1 x2 x3 x4 D => P_X4_fillNew_28 (gN XG) F fu x1 x2 x3 x4 D) F x1 a b (nI (t + 1)) r9 (nI 0) D9))) = _
    rw [if_neg (show ¬ (16 : Int32) < nI (t + 1) from nI_nlt (a := 16) (by omega) (by omega)), xsectorsOf_eq D (by omega) (by omega), bi_s, p1]
    show P_X4_fillNew_28 (gN XG) F fu x1 a b (nI (t + 1 + 1)) (upA D 57 r) = _
    rw [q1, upA_upA]
theorem fillNew_eq {F : Nat} {x1 a b : Int32} {D : Mm} (hF : 9000 ≤ F) : ∃ r : Nat → Int32, P_X4_fillNew (gN XG) F x1 a b D = some (0, upA D 57 r) ∧ ∀ j, j < 64 → r j = mpF (ft v2 16 m0) a b ((x1 >>> (8 &&& 31)) &&& 255) (x1 &&& 255) j := by
  have n57 : gN XG 57 = 64 := rfl
  obtain ⟨r, c1, c2⟩ := clearRow_eq (F := F) (u := 57) (p := 0) (w := 64) (D := D) hF rfl (by decide)
  have c1' : P_X7_clearRow (gN XG) F 57 0 64 D = some (0, upA D 57 r) := c1
  obtain ⟨A, hA⟩ : ∃ z, z = upA D 57 (upd (upd r 0 9) 1 1) := ⟨_, rfl⟩
  obtain ⟨r', q1, q2⟩ := fn28_go (F := F) (M := m0) (x1 := x1) (a := a) (b := b) hF 16 F 0 A (by decide) (by omega) (fun j hj => by
    rw [hA, upA_row]
    show upd (upd r 0 9) 1 1 j = m0 j
    unfold upd m0
    by_cases d1 : j = 1
    · rw [if_pos d1, if_neg (by omega), if_pos d1]
    rw [if_neg d1]
    by_cases d0 : j = 0
    · rw [if_pos d0, if_pos d0]
    · rw [if_neg d0, if_neg d0, if_neg d1, c2 j, if_pos (by omega)])
  refine ⟨r', ?_, fun j hj => ?_⟩
  · unfold P_X4_fillNew P_X4_fillNew_25
    rw [c1', bi_s, n57, if_pos (show inB 0 64 = true by decide), if_pos (show inB 1 64 = true by decide), show Int32.toNatClampNeg 0 = 0 from rfl, show Int32.toNatClampNeg 1 = 1 from rfl, upA_up2, upA_up2, ← hA]
    refine Eq.trans q1 ?_
    rw [hA, upA_upA]
  · rw [q2 j hj]
    unfold mpF
    rw [maps_eq j hj]
theorem f60_go {F t : Nat} {M : Nat → Int32} {a b : Int32} {k50 : Int32 → Int32 → Int32 → Mm → Rs} (h1 : 1 ≤ t) (ht : t ≤ 16) : ∀ (m fu s : Nat) (E : Mm), s + m = secN t → m < fu → (∀ j, j < 64 → E 9 j = fs v2 t s M j) → ∃ r : Nat → Int32, P_X8_format_60 (gN MG) F k50 fu a b (nI t) (nI s) E = k50 a b (nI (t + 1)) (upA E 9 r) ∧ ∀ j, j < 64 → r j = fs v2 t (secN t) M j := by
  have hsn := secN_le t
  intro m
  induction m with
  | zero =>
    intro fu s E hi hfu hd
    obtain ⟨fu, rfl⟩ : ∃ z, fu = z + 1 := ⟨fu - 1, by omega⟩
    have e : s = secN t := by omega
    subst e
    refine ⟨E 9, ?_, hd⟩
    show bi (P_X8_sectorsOf (gN MG) F (nI t) E) (fun r32 D32 => if r32 ≤ nI (secN t) then (k50 a b (nI t + 1) D32) else _) = _
    rw [msectorsOf_eq E ht, bi_s, if_pos (nI_le (by omega) (by omega)), nI_1, upA_id]
  | succ m ih =>
    intro fu s E hi hfu hd
    obtain ⟨fu, rfl⟩ : ∃ z, fu = z + 1 := ⟨fu - 1, by omega⟩
    have hv : Vd t s := ⟨h1, ht, by omega⟩
    obtain ⟨r, q1, q2⟩ := ih fu (s + 1) (upA E 9 (sf (v2 t s) t s (E 9))) (by omega) (by omega) (by rw [upA_row]; exact sf_eq hv hd)
    refine ⟨r, ?_, q2⟩
    have key : P_X8_format_60 (gN MG) F k50 (fu + 1) a b (nI t) (nI s) E = bi (P_X8_setFree (gN MG) F (nI t) (nI s) (v2 t s) E) (fun r35 D35 => P_X8_format_60 (gN MG) F k50 fu a b (nI t) (nI s + 1) D35) := by
      show bi (P_X8_sectorsOf (gN MG) F (nI t) E) (fun r32 D32 => if r32 ≤ nI s then _ else (if nI t = 9 then (if nI s ≤ 1 then (bi (P_X8_setFree (gN MG) F (nI t) (nI s) 0 D32) (fun r37 D37 => P_X8_format_60 (gN MG) F k50 fu a b (nI t) (nI s + 1) D37)) else (bi (P_X8_setFree (gN MG) F (nI t) (nI s) 1 D32) (fun r38 D38 => P_X8_format_60 (gN MG) F k50 fu a b (nI t) (nI s + 1) D38))) else (bi (P_X8_setFree (gN MG) F (nI t) (nI s) 1 D32) (fun r35 D35 => P_X8_format_60 (gN MG) F k50 fu a b (nI t) (nI s + 1) D35)))) = _
      rw [msectorsOf_eq E ht, bi_s, if_neg (nI_ge (by omega) (by omega))]
      by_cases c : t = 9
      · rw [if_pos (show nI t = 9 by rw [c]; rfl)]
        by_cases d : s ≤ 1
        · rw [if_pos (show nI s ≤ (1 : Int32) from nI_le (b := 1) d (by omega)), show v2 t s = 0 from if_pos ⟨c, d⟩]
        · rw [if_neg (show ¬ nI s ≤ (1 : Int32) from nI_ge (a := 1) (by omega) (by omega)), show v2 t s = 1 from if_neg (fun q => d q.2)]
      · rw [if_neg (show ¬ nI t = 9 from fun q => c ((nI_eq (a := t) (b := 9) (by omega) (by omega)).mp q)), show v2 t s = 1 from if_neg (fun q => c q.1)]
    rw [key, mset_eq E hv, bi_s, nI_1, q1, upA_upA]
theorem f111_go {F : Nat} {a b : Int32} : ∀ (m fu i : Nat) (E : Mm), i + m = 8 → m < fu → ∃ r : Nat → Int32, P_X8_format_111 (gN MG) F fu a b (nI i) E = P_X8_format_170 (gN MG) F (upA E 9 r) ∧ ∀ j, r j = if j = 49 then E 0 4 &&& 255 else if j = 48 then E 0 4 >>> (8 &&& 31) else if 40 + i ≤ j ∧ j < 48 then nB a b (j - 40) else E 9 j := by
  have n9 : gN MG 9 = 64 := rfl
  intro m
  induction m with
  | zero =>
    intro fu i E hi hfu
    obtain ⟨fu, rfl⟩ : ∃ z, fu = z + 1 := ⟨fu - 1, by omega⟩
    refine ⟨upd (upd (E 9) 48 (E 0 4 >>> (8 &&& 31))) 49 (E 0 4 &&& 255), ?_, fun j => ?_⟩
    · show (if (8 : Int32) ≤ nI i then (if inB 48 (gN MG 9) = true then (if inB 49 (gN MG 9) = true then (P_X8_format_170 (gN MG) F (up2 (up2 E 9 (Int32.toNatClampNeg 48) ((E 0 4) >>> (8 &&& 31))) 9 (Int32.toNatClampNeg 49) (((up2 E 9 (Int32.toNatClampNeg 48) ((E 0 4) >>> (8 &&& 31))) 0 4) &&& 255))) else none) else none) else _) = _
      rw [if_pos (show (8 : Int32) ≤ nI i from nI_le (a := 8) (by omega) (by omega)), n9, if_pos (show inB 48 64 = true by decide), if_pos (show inB 49 64 = true by decide), show Int32.toNatClampNeg 48 = 48 from rfl, show Int32.toNatClampNeg 49 = 49 from rfl, up2_o (show 0 ≠ 9 by decide), up2_A E 9 48, upA_up2]
    · unfold upd
      rw [if_neg (show ¬ (40 + i ≤ j ∧ j < 48) by omega)]
  | succ m ih =>
    intro fu i E hi hfu
    obtain ⟨fu, rfl⟩ : ∃ z, fu = z + 1 := ⟨fu - 1, by omega⟩
    obtain ⟨r, q1, q2⟩ := ih fu (i + 1) (up2 E 9 (40 + i) (nB a b i)) (by omega) (by omega)
    refine ⟨r, ?_, fun j => ?_⟩
    · show (if (8 : Int32) ≤ nI i then _ else (bi (P_X8_nameByte (gN MG) F a b (nI i) E) (fun r30 D30 => if inB (40 + nI i) (gN MG 9) = true then (P_X8_format_111 (gN MG) F fu a b (nI i + 1) (up2 D30 9 (Int32.toNatClampNeg (40 + nI i)) r30)) else none))) = _
      rw [if_neg (show ¬ (8 : Int32) ≤ nI i from nI_ge (b := 8) (by omega) (by omega)), mname_eq E (by omega), bi_s, show (40 : Int32) + nI i = nI (40 + i) from nI_add 40 i, n9, if_pos (in_nI (by omega) (by omega)), nI_clamp (by omega), nI_1, q1, show upA (up2 E 9 (40 + i) (nB a b i)) 9 r = upA E 9 r from upA_upA E _ _ r]
    · rw [q2 j, up2_o (show 0 ≠ 9 by decide), up2_app]
      by_cases c1 : j = 49
      · rw [if_pos c1, if_pos c1]
      rw [if_neg c1, if_neg c1]
      by_cases c2 : j = 48
      · rw [if_pos c2, if_pos c2]
      rw [if_neg c2, if_neg c2]
      by_cases c : j = 40 + i
      · subst c
        rw [if_neg (by omega), if_pos ⟨rfl, rfl⟩, if_pos (by omega), show 40 + i - 40 = i by omega]
      · rw [show (if 9 = 9 ∧ j = 40 + i then nB a b i else E 9 j) = E 9 j from if_neg (fun q => c q.2)]
        by_cases c3 : 40 + (i + 1) ≤ j ∧ j < 48
        · rw [if_pos c3, if_pos (by omega)]
        · rw [if_neg c3, if_neg (by omega)]
theorem f50_go {F : Nat} {M : Nat → Int32} {a b : Int32} (hF : 9000 ≤ F) : ∀ (m fu t : Nat) (E : Mm), t + m = 16 → m < fu → (∀ j, j < 64 → E 9 j = ft v2 t M j) → ∃ r : Nat → Int32, P_X8_format_50 (gN MG) F fu a b (nI (t + 1)) E = P_X8_format_170 (gN MG) F (upA E 9 r) ∧ ∀ j, j < 64 → r j = mpF (ft v2 16 M) a b (E 0 4 >>> (8 &&& 31)) (E 0 4 &&& 255) j := by
  intro m
  induction m with
  | zero =>
    intro fu t E hi hfu hd
    obtain ⟨fu, rfl⟩ : ∃ z, fu = z + 1 := ⟨fu - 1, by omega⟩
    have e : t = 16 := by omega
    subst e
    obtain ⟨r, q1, q2⟩ := f111_go (F := F) (a := a) (b := b) 8 F 0 E (by decide) (by omega)
    refine ⟨r, ?_, fun j hj => ?_⟩
    · show (if (16 : Int32) < nI 17 then (P_X8_format_111 (gN MG) F F a b (nI 0) E) else _) = _
      rw [if_pos (by decide), q1]
    · rw [q2 j]
      unfold mpF
      rw [hd j hj]
  | succ m ih =>
    intro fu t E hi hfu hd
    obtain ⟨fu, rfl⟩ : ∃ z, fu = z + 1 := ⟨fu - 1, by omega⟩
    have hsn := secN_le (t + 1)
    obtain ⟨r, p1, p2⟩ := f60_go (F := F) (t := t + 1) (M := ft v2 t M) (a := a) (b := b) (k50 := fun x2 x3 x4 D => P_X8_format_50 (gN MG) F fu x2 x3 x4 D) (by omega) (by omega) (secN (t + 1)) F 0 E (by omega) (by omega) hd
    obtain ⟨r', q1, q2⟩ := ih fu (t + 1) (upA E 9 r) (by omega) (by omega) (by rw [upA_row]; exact p2)
    refine ⟨r', ?_, ?_⟩
    · show (if (16 : Int32) < nI (t + 1) then _ else (P_X8_format_60 (gN MG) F (fun x2 x3 x4 D => P_X8_format_50 (gN MG) F fu x2 x3 x4 D) F a b (nI (t + 1)) (nI 0) E)) = _
      rw [if_neg (show ¬ (16 : Int32) < nI (t + 1) from nI_nlt (a := 16) (by omega) (by omega)), p1]
      show P_X8_format_50 (gN MG) F fu a b (nI (t + 1 + 1)) (upA E 9 r) = _
      rw [q1, upA_upA]
    · rw [upA_ne (show 0 ≠ 9 by decide)] at q2
      exact q2
theorem f11_go {F : Nat} {a b : Int32} (hF : 9000 ≤ F) : ∀ (m fu i : Nat) (E : Mm), i + m = 64 → m < fu → (∀ j, j < i → E 9 j = 0) → ∃ r : Nat → Int32, P_X8_format_11 (gN MG) F fu a b (nI i) E = P_X8_format_170 (gN MG) F (upA E 9 r) ∧ ∀ j, j < 64 → r j = mpF (ft v2 16 m0) a b (E 0 4 >>> (8 &&& 31)) (E 0 4 &&& 255) j := by
  have n9 : gN MG 9 = 64 := rfl
  intro m
  induction m with
  | zero =>
    intro fu i E hi hfu hz
    obtain ⟨fu, rfl⟩ : ∃ z, fu = z + 1 := ⟨fu - 1, by omega⟩
    obtain ⟨A, hA⟩ : ∃ z, z = upA E 9 (upd (upd (E 9) 0 9) 1 1) := ⟨_, rfl⟩
    obtain ⟨r, q1, q2⟩ := f50_go (F := F) (M := m0) (a := a) (b := b) hF 16 F 0 A (by decide) (by omega) (fun j hj => by
      rw [hA, upA_row]
      show upd (upd (E 9) 0 9) 1 1 j = m0 j
      unfold upd m0
      by_cases d1 : j = 1
      · rw [if_pos d1, if_neg (by omega), if_pos d1]
      rw [if_neg d1]
      by_cases d0 : j = 0
      · rw [if_pos d0, if_pos d0]
      · rw [if_neg d0, if_neg d0, if_neg d1, hz j (by omega)])
    refine ⟨r, ?_, ?_⟩
    · show (if (64 : Int32) ≤ nI i then (if inB 0 (gN MG 9) = true then (if inB 1 (gN MG 9) = true then (P_X8_format_50 (gN MG) F F a b (nI (0 + 1)) (up2 (up2 E 9 (Int32.toNatClampNeg 0) 9) 9 (Int32.toNatClampNeg 1) 1)) else none) else none) else _) = _
      rw [if_pos (show (64 : Int32) ≤ nI i from nI_le (a := 64) (by omega) (by omega)), n9, if_pos (show inB 0 64 = true by decide), if_pos (show inB 1 64 = true by decide), show Int32.toNatClampNeg 0 = 0 from rfl, show Int32.toNatClampNeg 1 = 1 from rfl, up2_A E 9 0, upA_up2, ← hA, q1, hA, upA_upA]
    · rw [hA, upA_ne (show 0 ≠ 9 by decide)] at q2
      exact q2
  | succ m ih =>
    intro fu i E hi hfu hz
    obtain ⟨fu, rfl⟩ : ∃ z, fu = z + 1 := ⟨fu - 1, by omega⟩
    obtain ⟨r, q1, q2⟩ := ih fu (i + 1) (up2 E 9 i 0) (by omega) (by omega) (fun j hj => by
      rw [up2_app]
      by_cases c : j = i
      · rw [if_pos ⟨rfl, c⟩]
      · rw [if_neg (fun q => c q.2)]; exact hz j (by omega))
    refine ⟨r, ?_, ?_⟩
    · show (if (64 : Int32) ≤ nI i then _ else (if inB (nI i) (gN MG 9) = true then (P_X8_format_11 (gN MG) F fu a b (nI i + 1) (up2 E 9 (Int32.toNatClampNeg (nI i)) 0)) else none)) = _
      rw [if_neg (show ¬ (64 : Int32) ≤ nI i from nI_ge (b := 64) (by omega) (by omega)), n9, if_pos (in_nI (by omega) (by omega)), nI_clamp (by omega), nI_1, q1, show upA (up2 E 9 i 0) 9 r = upA E 9 r from upA_upA E _ _ r]
    · rw [up2_o (show 0 ≠ 9 by decide)] at q2
      exact q2
