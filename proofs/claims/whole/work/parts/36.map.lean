/-! MAP: free blocks; the map and the directory written; scratch -/
def fr (m : Nat → Int32) (t s : Nat) : Bool := bt (m (2 * t + s / 8)) (s % 8)
theorem jr8 {s : Nat} (hs : s < 100) : jrem (nI s) 8 = nI (s % 8) := jrem_nI (d := 8) (by omega) (by omega) (by omega)
theorem ix8 {t s : Nat} (hs : s < 100) : (2 : Int32) * nI t + nI s / 8 = nI (2 * t + s / 8) := by
  rw [show (2 : Int32) * nI t = nI (2 * t) from pk_mul 2 t, show nI s / (8 : Int32) = nI (s / 8) from pk_div (d := 8) (by omega) (by omega) (by omega), nI_add]
theorem xfree_eq {F t s : Nat} (D : Mm) (hv : Vd t s) : P_X4_isFree (gN XG) F (nI t) (nI s) D = some (if fr (D 57) t s then 1 else 0, D) := by
  obtain ⟨h1, ht, hs⟩ := hv
  have hn := secN_le t
  have n57 : gN XG 57 = 64 := rfl
  unfold P_X4_isFree fr
  rw [xisBlock_eq D h1 ht hs, bi_s, if_neg (by decide), ix8 (by omega), n57, if_pos (in_nI (by omega) (by omega)), nI_clamp (by omega), jr8 (by omega)]
  by_cases c : bt (D 57 (2 * t + s / 8)) (s % 8) = true
  · rw [if_pos ((bit1 _ (by omega)).mpr c), if_pos c]
  · rw [if_neg (fun q => c ((bit1 _ (by omega)).mp q)), if_neg c]
theorem mfree_eq {F t s : Nat} (D : Mm) (hv : Vd t s) : P_X8_isFree (gN MG) F (nI t) (nI s) D = some (if fr (D 9) t s then 1 else 0, D) := by
  obtain ⟨h1, ht, hs⟩ := hv
  have hn := secN_le t
  have n9 : gN MG 9 = 64 := rfl
  unfold P_X8_isFree fr
  rw [ix8 (by omega), n9, if_pos (in_nI (by omega) (by omega)), nI_clamp (by omega), jr8 (by omega)]
  by_cases c : bt (D 9 (2 * t + s / 8)) (s % 8) = true
  · rw [if_pos ((bit1 _ (by omega)).mpr c), if_pos c]
  · rw [if_neg (fun q => c ((bit1 _ (by omega)).mp q)), if_neg c]
/-- the map with a block set free or taken -/
def sf (v : Int32) (t s : Nat) (m : Nat → Int32) : Nat → Int32 := upd m (2 * t + s / 8) (if v = 0 then m (2 * t + s / 8) &&& (((1 : Int32) <<< (nI (s % 8) &&& 31)) ^^^ (-1)) else m (2 * t + s / 8) ||| ((1 : Int32) <<< (nI (s % 8) &&& 31)))
theorem xset_eq {F t s : Nat} {v : Int32} (D : Mm) (hv : Vd t s) : P_X4_setFree (gN XG) F (nI t) (nI s) v D = some (0, upA D 57 (sf v t s (D 57))) := by
  obtain ⟨h1, ht, hs⟩ := hv
  have hn := secN_le t
  have n57 : gN XG 57 = 64 := rfl
  unfold P_X4_setFree P_X4_setFree_26 sf
  rw [xisBlock_eq D h1 ht hs, bi_s, if_neg (by decide), ix8 (by omega), n57, jr8 (by omega), if_pos (in_nI (by omega) (by omega)), if_pos (in_nI (by omega) (by omega)), if_pos (in_nI (by omega) (by omega)), if_pos (in_nI (by omega) (by omega)), nI_clamp (by omega)]
  by_cases c : v = 0
  · rw [if_pos c, if_pos c]; rfl
  · rw [if_neg c, if_neg c]; rfl
theorem mset_eq {F t s : Nat} {v : Int32} (D : Mm) (hv : Vd t s) : P_X8_setFree (gN MG) F (nI t) (nI s) v D = some (0, upA D 9 (sf v t s (D 9))) := by
  obtain ⟨h1, ht, hs⟩ := hv
  have hn := secN_le t
  have n9 : gN MG 9 = 64 := rfl
  unfold P_X8_setFree P_X8_setFree_18 sf
  rw [ix8 (by omega), n9, jr8 (by omega), if_pos (in_nI (by omega) (by omega)), if_pos (in_nI (by omega) (by omega)), if_pos (in_nI (by omega) (by omega)), if_pos (in_nI (by omega) (by omega)), nI_clamp (by omega)]
  by_cases c : v = 0
  · rw [if_pos c, if_pos c]; rfl
  · rw [if_neg c, if_neg c]; rfl
def MapEq (D E : Mm) : Prop := ∀ j, j < 64 → D 57 j = E 9 j
theorem sf_eq {v : Int32} {t s : Nat} {m n : Nat → Int32} (hv : Vd t s) (h : ∀ j, j < 64 → m j = n j) : ∀ j, j < 64 → sf v t s m j = sf v t s n j := by
  obtain ⟨h1, ht, hs⟩ := hv
  have hn := secN_le t
  intro j hj
  unfold sf upd
  rw [h j hj, h (2 * t + s / 8) (by omega)]
theorem mcopy_go {F : Nat} : ∀ (m fu i : Nat) (D : Mm), i + m = 64 → m < fu → ∃ r : Nat → Int32, P_X8_writeMap_2 (gN MG) F fu (nI i) D = bi (P_X8_writeBlock (gN MG) F 9 0 (upA D 8 r)) (fun r2 D2 => if r2 = 0 then (some (1, D2)) else (bi (P_X8_ends (gN MG) F r2 9 0 D2) (fun r4 D4 => if r4 = 0 then (some (1, D4)) else (some (0, D4))))) ∧ (∀ j, j < i → r j = D 8 j) ∧ ∀ j, i ≤ j → j < 64 → r j = D 9 j := by
  have n8 : gN MG 8 = 64 := rfl
  have n9 : gN MG 9 = 64 := rfl
  intro m
  induction m with
  | zero =>
    intro fu i D hi hfu
    obtain ⟨fu, rfl⟩ : ∃ z, fu = z + 1 := ⟨fu - 1, by omega⟩
    refine ⟨D 8, ?_, fun _ _ => rfl, fun j _ _ => by omega⟩
    show (if (64 : Int32) ≤ nI i then _ else _) = _
    rw [if_pos (show (64 : Int32) ≤ nI i from nI_le (a := 64) (by omega) (by omega)), upA_id]
  | succ m ih =>
    intro fu i D hi hfu
    obtain ⟨fu, rfl⟩ : ∃ z, fu = z + 1 := ⟨fu - 1, by omega⟩
    obtain ⟨r, q1, q2, q3⟩ := ih fu (i + 1) (up2 D 8 i (D 9 i)) (by omega) (by omega)
    refine ⟨r, ?_, ?_, ?_⟩
    · show (if (64 : Int32) ≤ nI i then _ else (if inB (nI i) (gN MG 9) = true then (if inB (nI i) (gN MG 8) = true then (P_X8_writeMap_2 (gN MG) F fu (nI i + 1) (up2 D 8 (Int32.toNatClampNeg (nI i)) (D 9 (Int32.toNatClampNeg (nI i))))) else none) else none)) = _
      rw [if_neg (show ¬ (64 : Int32) ≤ nI i from nI_ge (b := 64) (by omega) (by omega)), n8, n9, if_pos (in_nI (by omega) (by omega)), if_pos (in_nI (by omega) (by omega)), nI_clamp (by omega), nI_1, q1, show upA (up2 D 8 i (D 9 i)) 8 r = upA D 8 r from upA_upA D _ _ r]
    · intro j hj
      rw [q2 j (by omega), up2_app, if_neg (by omega)]
    · intro j hj1 hj2
      by_cases e : j = i
      · subst e
        rw [q2 j (by omega), up2_app, if_pos ⟨rfl, rfl⟩]
      · rw [q3 j (by omega) hj2, up2_o (by decide)]
theorem wcopy_go {F k : Nat} (hk : k < 7) : ∀ (m fu i : Nat) (D : Mm), i + m = 64 → m < fu → ∃ r : Nat → Int32, P_X8_writeDirectory_2 (gN MG) F fu (nI k) (nI i) D = bi (P_X8_writeBlock (gN MG) F (D 11 k) (D 12 k) (upA D 8 r)) (fun r4 D4 => if r4 = 0 then (some (1, D4)) else (bi (P_X8_ends (gN MG) F r4 (D4 11 k) (D4 12 k) D4) (fun r8 D8 => if r8 = 0 then (some (1, D8)) else (some (0, D8))))) ∧ (∀ j, j < i → r j = D 8 j) ∧ ∀ j, i ≤ j → j < 64 → r j = D 10 (64 * k + j) := by
  have n8 : gN MG 8 = 64 := rfl
  have n10 : gN MG 10 = 448 := rfl
  have n11 : gN MG 11 = 7 := rfl
  have n12 : gN MG 12 = 7 := rfl
  have i7 : inB (nI k) 7 = true := in_nI (by omega) (by omega)
  intro m
  induction m with
  | zero =>
    intro fu i D hi hfu
    obtain ⟨fu, rfl⟩ : ∃ z, fu = z + 1 := ⟨fu - 1, by omega⟩
    refine ⟨D 8, ?_, fun _ _ => rfl, fun j _ _ => by omega⟩
    show (if (64 : Int32) ≤ nI i then (if inB (nI k) (gN MG 11) = true then (if inB (nI k) (gN MG 12) = true then (bi (P_X8_writeBlock (gN MG) F (D 11 (Int32.toNatClampNeg (nI k))) (D 12 (Int32.toNatClampNeg (nI k))) D) (fun r4 D4 => if r4 = 0 then (some (1, D4)) else (if inB (nI k) (gN MG 11) = true then (if inB (nI k) (gN MG 12) = true then (bi (P_X8_ends (gN MG) F r4 (D4 11 (Int32.toNatClampNeg (nI k))) (D4 12 (Int32.toNatClampNeg (nI k))) D4) (fun r8 D8 => if r8 = 0 then (some (1, D8)) else (some (0, D8)))) else none) else none))) else none) else none) else _) = _
    rw [if_pos (show (64 : Int32) ≤ nI i from nI_le (a := 64) (by omega) (by omega)), upA_id, n11, n12]
    simp only [i7, if_true, nI_clamp (show k < 2 ^ 31 by omega)]
  | succ m ih =>
    intro fu i D hi hfu
    obtain ⟨fu, rfl⟩ : ∃ z, fu = z + 1 := ⟨fu - 1, by omega⟩
    obtain ⟨r, q1, q2, q3⟩ := ih fu (i + 1) (up2 D 8 i (D 10 (64 * k + i))) (by omega) (by omega)
    refine ⟨r, ?_, ?_, ?_⟩
    · show (if (64 : Int32) ≤ nI i then _ else (if inB ((64 * nI k) + nI i) (gN MG 10) = true then (if inB (nI i) (gN MG 8) = true then (P_X8_writeDirectory_2 (gN MG) F fu (nI k) (nI i + 1) (up2 D 8 (Int32.toNatClampNeg (nI i)) (D 10 (Int32.toNatClampNeg ((64 * nI k) + nI i))))) else none) else none)) = _
      rw [if_neg (show ¬ (64 : Int32) ≤ nI i from nI_ge (b := 64) (by omega) (by omega)), show (64 : Int32) * nI k = nI (64 * k) from pk_mul 64 k, nI_add, n8, n10, if_pos (in_nI (by omega) (by omega)), if_pos (in_nI (by omega) (by omega)), nI_clamp (by omega), nI_clamp (by omega), nI_1, q1, show upA (up2 D 8 i (D 10 (64 * k + i))) 8 r = upA D 8 r from upA_upA D _ _ r, up2_o (show 11 ≠ 8 by decide), up2_o (show 12 ≠ 8 by decide)]
    · intro j hj
      rw [q2 j (by omega), up2_app, if_neg (by omega)]
    · intro j hj1 hj2
      by_cases e : j = i
      · subst e
        rw [q2 j (by omega), up2_app, if_pos ⟨rfl, rfl⟩]
      · rw [q3 j (by omega) hj2, up2_o (by decide)]
def StEnd (D E D1 E1 : Mm) (e b' : Int32) : Prop := Core D1 E1 ∧ DX [] D D1 ∧ DM [] [] E E1 ∧ ((e = 0 ∧ b' = 1 ∧ StK D E D1 E1) ∨ (¬ e = 0 ∧ b' = 0 ∧ Stt D1 E1 ∧ D1 1 0 = e))
theorem wmap_sim {F : Nat} {D E : Mm} (hF : 9000 ≤ F) (hid : ¬ D 2 3 = -1) (hc : Core D E) (hm : MapEq D E) : ∃ (e b' : Int32) (D1 E1 : Mm), P_X0_store (gN XG) F 57 9 0 D = some (e, D1) ∧ P_X8_writeMap (gN MG) F E = some (b', E1) ∧ StEnd D E D1 E1 e b' := by
  obtain ⟨r, c1, _, c2⟩ := mcopy_go (F := F) 64 F 0 E (by decide) (by omega)
  have c1' : P_X8_writeMap (gN MG) F E = _ := c1
  rw [c1']
  obtain ⟨e, D1, E1, p1, p2, p3, p4, p5⟩ := store_sim (F := F) (t := 9) (s := 0) (u := 57) (Dm := upA E 8 r) hF (by decide) (by decide) (by decide) (by decide) rfl hid (hc.ups (fun _ _ _ => rfl) (fun c a b => upA_ne (by omega)) (fun k hk => by rw [upA_ne (by decide)])) (fun j hj => by rw [upA_row, c2 j (by omega) hj]; exact hm j hj)
  have p1' : P_X0_store (gN XG) F 57 9 0 D = some (e, D1) := p1
  have p2' : P_X8_writeBlock (gN MG) F 9 0 (upA E 8 r) = some (e, E1) := p2
  rw [p1', p2', bi_s]
  have dm : DM [] [] E E1 := DM.trans ⟨fun c _ _ d _ => upA_ne d, fun j _ _ => by rw [upA_ne (by decide)]⟩ p4
  rcases p5 with ⟨rfl, q1, q2⟩ | ⟨z1, _, q1, q2, q3⟩
  · rw [if_pos rfl]
    refine ⟨0, 1, D1, E1, rfl, rfl, q1, p3, dm, Or.inl ⟨rfl, rfl, ?_⟩⟩
    have := q2
    unfold StK at this
    rw [upA_ne (by decide)] at this
    exact this
  · rw [if_neg z1, ends_neg z1]
    exact ⟨e, 0, D1, _, rfl, rfl, q1, p3, dm.trans (tM_dm _ _), Or.inr ⟨z1, rfl, q2, q3⟩⟩
theorem wdir_sim {F u k t s : Nat} {D E : Mm} (hF : 9000 ≤ F) (hk : k < 7) (hv : Vd t s) (hu : 55 ≤ u) (hNu : gN XG u = 64) (hid : ¬ D 2 3 = -1) (hc : Core D E) (h11 : E 11 k = nI t) (h12 : E 12 k = nI s) (hm : ∀ j, j < 64 → D u j = E 10 (64 * k + j)) : ∃ (e b' : Int32) (D1 E1 : Mm), P_X0_store (gN XG) F u (nI t) (nI s) D = some (e, D1) ∧ P_X8_writeDirectory (gN MG) F (nI k) E = some (b', E1) ∧ StEnd D E D1 E1 e b' := by
  obtain ⟨h1, ht, hs⟩ := hv
  obtain ⟨r, c1, _, c2⟩ := wcopy_go (F := F) hk 64 F 0 E (by decide) (by omega)
  have c1' : P_X8_writeDirectory (gN MG) F (nI k) E = _ := c1
  rw [c1', h11, h12]
  obtain ⟨e, D1, E1, p1, p2, p3, p4, p5⟩ := store_sim (F := F) (t := t) (s := s) (u := u) (Dm := upA E 8 r) hF h1 ht hs hu hNu hid (hc.ups (fun _ _ _ => rfl) (fun c a b => upA_ne (by omega)) (fun k hk => by rw [upA_ne (by decide)])) (fun j hj => by rw [upA_row, c2 j (by omega) hj]; exact hm j hj)
  rw [p1, p2, bi_s]
  have dm : DM [] [] E E1 := DM.trans ⟨fun c _ _ d _ => upA_ne d, fun j _ _ => by rw [upA_ne (by decide)]⟩ p4
  rcases p5 with ⟨rfl, q1, q2⟩ | ⟨z1, _, q1, q2, q3⟩
  · rw [if_pos rfl]
    refine ⟨0, 1, D1, E1, rfl, rfl, q1, p3, dm, Or.inl ⟨rfl, rfl, ?_⟩⟩
    have := q2
    unfold StK at this
    rw [upA_ne (by decide)] at this
    exact this
  · rw [if_neg z1, dm.1 11 (by decide) (by decide) (by decide) (by decide), dm.1 12 (by decide) (by decide) (by decide) (by decide), h11, h12, ends_neg z1]
    exact ⟨e, 0, D1, _, rfl, rfl, q1, p3, dm.trans (tM_dm _ _), Or.inr ⟨z1, rfl, q2, q3⟩⟩
theorem clear_go {F u p w : Nat} (hN : gN XG u = 64) : ∀ (m fu i : Nat) (D : Mm), i + m = p + w → i + m ≤ 64 → m < fu → ∃ r : Nat → Int32, P_X7_clearRow_2 (gN XG) F u fu (nI p) (nI w) (nI i) D = some (0, upA D u r) ∧ ∀ j, r j = if i ≤ j ∧ j < i + m then 0 else D u j := by
  intro m
  induction m with
  | zero =>
    intro fu i D hi hi2 hfu
    obtain ⟨fu, rfl⟩ : ∃ z, fu = z + 1 := ⟨fu - 1, by omega⟩
    refine ⟨D u, ?_, fun j => by rw [if_neg (by omega)]⟩
    show (if nI p + nI w ≤ nI i then _ else _) = _
    rw [nI_add, if_pos (nI_le (by omega) (by omega)), upA_id]
  | succ m ih =>
    intro fu i D hi hi2 hfu
    obtain ⟨fu, rfl⟩ : ∃ z, fu = z + 1 := ⟨fu - 1, by omega⟩
    obtain ⟨r, q1, q2⟩ := ih fu (i + 1) (up2 D u i 0) (by omega) (by omega) (by omega)
    refine ⟨r, ?_, fun j => ?_⟩
    · show (if nI p + nI w ≤ nI i then some (0, D) else (if (nI (gN XG u)) ≤ nI i then (some (0, D)) else (if inB (nI i) (gN XG u) = true then (P_X7_clearRow_2 (gN XG) F u fu (nI p) (nI w) (nI i + 1) (up2 D u (Int32.toNatClampNeg (nI i)) 0)) else none))) = _
      rw [nI_add, if_neg (nI_ge (by omega) (by omega)), hN, if_neg (nI_ge (by omega) (by omega)), if_pos (in_nI (by omega) (by omega)), nI_clamp (by omega), nI_1, q1, show upA (up2 D u i 0) u r = upA D u r from upA_upA D _ _ r]
    · rw [q2 j, up2_app]
      by_cases c : j = i
      · subst c
        rw [if_neg (by omega), if_pos ⟨rfl, rfl⟩, if_pos (by omega)]
      · rw [show (if u = u ∧ j = i then (0 : Int32) else D u j) = D u j from if_neg (fun q => c q.2)]
        by_cases c2 : i + 1 ≤ j ∧ j < i + 1 + m
        · rw [if_pos c2, if_pos (by omega)]
        · rw [if_neg c2, if_neg (by omega)]
theorem clearRow_eq {F u p w : Nat} {D : Mm} (hF : 9000 ≤ F) (hN : gN XG u = 64) (h : p + w ≤ 64) : ∃ r : Nat → Int32, P_X7_clearRow (gN XG) F u (nI p) (nI w) D = some (0, upA D u r) ∧ ∀ j, r j = if p ≤ j ∧ j < p + w then 0 else D u j :=
  clear_go hN w F p D rfl h (by omega)
theorem sclear_go {F q : Nat} (hq : q + 12 ≤ 448) : ∀ (m fu i : Nat) (D : Mm), i + m = 12 → m < fu → D 0 25 = nI q → ∃ r : Nat → Int32, P_X8_scratches_14 (gN MG) F fu (nI i) D = bi (P_X8_writeDirectory (gN MG) F (D 0 24) (upA D 10 r)) (fun r11 D11 => if r11 = 0 then (some (0, D11)) else (P_X8_scratches_53 (gN MG) F F 0 D11)) ∧ ∀ j, r j = if q + i ≤ j ∧ j < q + i + m then 0 else D 10 j := by
  have n10 : gN MG 10 = 448 := rfl
  intro m
  induction m with
  | zero =>
    intro fu i D hi hfu h25
    obtain ⟨fu, rfl⟩ : ∃ z, fu = z + 1 := ⟨fu - 1, by omega⟩
    refine ⟨D 10, ?_, fun j => by rw [if_neg (by omega)]⟩
    show (if (12 : Int32) ≤ nI i then _ else _) = _
    rw [if_pos (show (12 : Int32) ≤ nI i from nI_le (a := 12) (by omega) (by omega)), upA_id]
  | succ m ih =>
    intro fu i D hi hfu h25
    obtain ⟨fu, rfl⟩ : ∃ z, fu = z + 1 := ⟨fu - 1, by omega⟩
    obtain ⟨r, q1, q2⟩ := ih fu (i + 1) (up2 D 10 (q + i) 0) (by omega) (by omega) (by rw [up2_o (by decide)]; exact h25)
    refine ⟨r, ?_, fun j => ?_⟩
    · show (if (12 : Int32) ≤ nI i then _ else (if inB ((D 0 25) + nI i) (gN MG 10) = true then (P_X8_scratches_14 (gN MG) F fu (nI i + 1) (up2 D 10 (Int32.toNatClampNeg ((D 0 25) + nI i)) 0)) else none)) = _
      rw [if_neg (show ¬ (12 : Int32) ≤ nI i from nI_ge (b := 12) (by omega) (by omega)), h25, nI_add, n10, if_pos (in_nI (by omega) (by omega)), nI_clamp (by omega), nI_1, q1, up2_o (show 0 ≠ 10 by decide), show upA (up2 D 10 (q + i) 0) 10 r = upA D 10 r from upA_upA D _ _ r]
    · rw [q2 j, up2_app]
      by_cases c : j = q + i
      · subst c
        rw [if_neg (by omega), if_pos ⟨rfl, rfl⟩, if_pos (by omega)]
      · rw [show (if 10 = 10 ∧ j = q + i then (0 : Int32) else D 10 j) = D 10 j from if_neg (fun q => c q.2)]
        by_cases c2 : q + (i + 1) ≤ j ∧ j < q + (i + 1) + m
        · rw [if_pos c2, if_pos (by omega)]
        · rw [if_neg c2, if_neg (by omega)]
theorem release_go {F n : Nat} (hn : n ≤ 40) : ∀ (m fx fm i : Nat) (D E : Mm), i + m = n → m < fx → m < fm → ChOk n D E → MapEq D E → ∃ r b : Nat → Int32, P_X2_release_2 (gN XG) F fx (nI i) D = some (0, upA D 57 r) ∧ P_X8_scratches_53 (gN MG) F fm (nI i) E = bi (P_X8_writeMap (gN MG) F (upA E 9 b)) (fun r2 D2 => if r2 = 0 then (some (0, D2)) else (bi (P_X8_ends (gN MG) F 1 (D2 0 28) 0 D2) (fun r4 D4 => some (1, D4)))) ∧ ∀ j, j < 64 → r j = b j := by
  have n62 : gN XG 62 = 40 := rfl
  have n63 : gN XG 63 = 40 := rfl
  have n13 : gN MG 13 = 40 := rfl
  have n14 : gN MG 14 = 40 := rfl
  intro m
  induction m with
  | zero =>
    intro fx fm i D E hi hfx hfm hch hm
    obtain ⟨fx, rfl⟩ : ∃ z, fx = z + 1 := ⟨fx - 1, by omega⟩
    obtain ⟨fm, rfl⟩ : ∃ z, fm = z + 1 := ⟨fm - 1, by omega⟩
    refine ⟨D 57, E 9, ?_, ?_, hm⟩
    · show (if (D 61 4) ≤ nI i then _ else _) = _
      rw [hch.2.1, if_pos (nI_le (by omega) (by omega)), upA_id]
    · show (if (E 0 28) ≤ nI i then _ else _) = _
      rw [hch.2.2.1, if_pos (nI_le (by omega) (by omega)), upA_id]
  | succ m ih =>
    intro fx fm i D E hi hfx hfm hch hm
    obtain ⟨fx, rfl⟩ : ∃ z, fx = z + 1 := ⟨fx - 1, by omega⟩
    obtain ⟨fm, rfl⟩ : ∃ z, fm = z + 1 := ⟨fm - 1, by omega⟩
    obtain ⟨t, s, hv, e1, e2, e3, e4⟩ := hch.2.2.2 i (by omega)
    have ex : P_X2_release_2 (gN XG) F (fx + 1) (nI i) D = (if nI t = 9 then (P_X2_release_2 (gN XG) F fx (nI (i + 1)) D) else P_X2_release_2 (gN XG) F fx (nI (i + 1)) (upA D 57 (sf 1 t s (D 57)))) := by
      show (if (D 61 4) ≤ nI i then (some (0, D)) else (if inB (nI i) (gN XG 62) = true then (if (D 62 (Int32.toNatClampNeg (nI i))) = 9 then (P_X2_release_2 (gN XG) F fx (nI i + 1) D) else (if inB (nI i) (gN XG 62) = true then (if inB (nI i) (gN XG 63) = true then (bi (P_X4_setFree (gN XG) F (D 62 (Int32.toNatClampNeg (nI i))) (D 63 (Int32.toNatClampNeg (nI i))) 1 D) (fun r6 D6 => P_X2_release_2 (gN XG) F fx (nI i + 1) D6)) else none) else none)) else none)) = _
      rw [hch.2.1, if_neg (nI_ge (by omega) (by omega)), n62, n63, if_pos (in_nI (by omega) (by omega)), if_pos (in_nI (by omega) (by omega)), if_pos (in_nI (by omega) (by omega)), nI_clamp (by omega), e1, e3, xset_eq D hv, bi_s, nI_1]
    have em : P_X8_scratches_53 (gN MG) F (fm + 1) (nI i) E = (if nI t = 9 then (P_X8_scratches_53 (gN MG) F fm (nI (i + 1)) E) else P_X8_scratches_53 (gN MG) F fm (nI (i + 1)) (upA E 9 (sf 1 t s (E 9)))) := by
      show (if (E 0 28) ≤ nI i then _ else (if inB (nI i) (gN MG 13) = true then (if (E 13 (Int32.toNatClampNeg (nI i))) = 9 then (P_X8_scratches_53 (gN MG) F fm (nI i + 1) E) else (if inB (nI i) (gN MG 13) = true then (if inB (nI i) (gN MG 14) = true then (bi (P_X8_setFree (gN MG) F (E 13 (Int32.toNatClampNeg (nI i))) (E 14 (Int32.toNatClampNeg (nI i))) 1 E) (fun r9 D9 => P_X8_scratches_53 (gN MG) F fm (nI i + 1) D9)) else none) else none)) else none)) = _
      rw [hch.2.2.1, if_neg (nI_ge (by omega) (by omega)), n13, n14, if_pos (in_nI (by omega) (by omega)), if_pos (in_nI (by omega) (by omega)), if_pos (in_nI (by omega) (by omega)), nI_clamp (by omega), e2, e4, mset_eq E hv, bi_s, nI_1]
    rw [ex, em]
    by_cases c : nI t = 9
    · rw [if_pos c, if_pos c]
      exact ih fx fm (i + 1) D E (by omega) (by omega) (by omega) hch hm
    · rw [if_neg c, if_neg c]
      obtain ⟨r, b, q1, q2, q3⟩ := ih fx fm (i + 1) (upA D 57 (sf 1 t s (D 57))) (upA E 9 (sf 1 t s (E 9))) (by omega) (by omega) (by omega) ⟨hch.1, by rw [upA_ne (by decide)]; exact hch.2.1, by rw [upA_ne (by decide)]; exact hch.2.2.1, by rw [upA_ne (by decide), upA_ne (by decide), upA_ne (by decide), upA_ne (by decide)]; exact hch.2.2.2⟩ (fun j hj => by rw [upA_row, upA_row]; exact sf_eq hv hm j hj)
      rw [upA_upA] at q1 q2
      exact ⟨r, b, q1, q2, q3⟩
