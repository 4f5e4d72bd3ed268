/-! STORE: a file's blocks written in lockstep -/
theorem fill76_go {F a N : Nat} (hN : N ≤ 2480) (ha : a ≤ 2480) : ∀ (m fu j : Nat) (D : Mm), j + m = 62 → m < fu → D 65 1 = nI N → (∀ i, i < N → By (D 66 i)) → ∃ r : Nat → Int32, P_X2_fillBlock_76 (gN XG) F fu (nI a) (nI j) D = some (0, upA D 64 r) ∧ (∀ q, q < j + 2 → r q = D 64 q) ∧ ∀ q, j ≤ q → q < 62 → r (q + 2) = if a + q < N then D 66 (a + q) else 0 := by
  have n64 : gN XG 64 = 64 := rfl
  have n66 : gN XG (65 + 1) = 2480 := rfl
  intro m
  induction m with
  | zero =>
    intro fu j D hj hfu h65 hb
    obtain ⟨fu, rfl⟩ : ∃ z, fu = z + 1 := ⟨fu - 1, by omega⟩
    refine ⟨D 64, ?_, fun _ _ => rfl, fun q _ _ => by omega⟩
    show (if (62 : Int32) ≤ nI j then _ else _) = _
    rw [if_pos (show (62 : Int32) ≤ nI j from nI_le (a := 62) (by omega) (by omega)), upA_id]
  | succ m ih =>
    intro fu j D hj hfu h65 hb
    obtain ⟨fu, rfl⟩ : ∃ z, fu = z + 1 := ⟨fu - 1, by omega⟩
    obtain ⟨x, hx, hx2⟩ : ∃ x, P_X1_byteAt (gN XG) F 65 (nI (a + j)) D = some (x, D) ∧ (if 0 < x then x else 0) = if a + j < N then D 66 (a + j) else 0 := by
      unfold P_X1_byteAt
      rw [if_neg (show ¬ nI (a + j) < 0 from nI_nlt (b := 0) (by omega) (by omega)), h65]
      by_cases c : a + j < N
      · rw [if_neg (nI_ge c (by omega)), n66, if_pos (in_nI (by omega) (by omega)), nI_clamp (by omega), if_pos c]
        exact ⟨_, rfl, by_pos (hb _ c)⟩
      · rw [if_pos (nI_le (by omega) (by omega)), if_neg c]
        exact ⟨_, rfl, by decide⟩
    obtain ⟨r, q1, q2, q3⟩ := ih fu (j + 1) (up2 D 64 (j + 2) (if a + j < N then D 66 (a + j) else 0)) (by omega) (by omega) (by rw [up2_o (by decide)]; exact h65) (fun i hi => by rw [up2_o (by decide)]; exact hb i hi)
    refine ⟨r, ?_, ?_, ?_⟩
    · show (if (62 : Int32) ≤ nI j then _ else (bi (P_X1_byteAt (gN XG) F 65 (nI a + nI j) D) (fun r2 D2 => if inB (nI j + 2) (gN XG 64) = true then (P_X2_fillBlock_76 (gN XG) F fu (nI a) (nI j + 1) (up2 D2 64 (Int32.toNatClampNeg (nI j + 2)) (if 0 < r2 then r2 else 0))) else none))) = _
      rw [if_neg (show ¬ (62 : Int32) ≤ nI j from nI_ge (b := 62) (by omega) (by omega)), nI_add, hx, bi_s, show nI j + (2 : Int32) = nI (j + 2) from nI_add j 2, n64, if_pos (in_nI (by omega) (by omega)), nI_clamp (by omega), hx2, nI_1, q1, show upA (up2 D 64 (j + 2) (if a + j < N then D 66 (a + j) else 0)) 64 r = upA D 64 r from upA_upA D _ _ r]
    · intro q hq
      rw [q2 q (by omega), up2_app, if_neg (by omega)]
    · intro q hq1 hq2
      by_cases e : q = j
      · subst e
        rw [q2 _ (by omega), up2_app, if_pos ⟨rfl, rfl⟩]
      · rw [q3 q (by omega) hq2, up2_o (by decide)]
theorem fill_eq {F n i N : Nat} {D : Mm} (hF : 9000 ≤ F) (hn : n ≤ 40) (hi : i < n) (hN : N ≤ 2480) (hr : 62 * i ≤ N) (h61 : D 61 4 = nI n) (h65 : D 65 1 = nI N) (hb : ∀ i, i < N → By (D 66 i)) : ∃ r : Nat → Int32, P_X2_fillBlock (gN XG) F (nI i) D = some (0, upA D 64 r) ∧ r 0 = (if i + 1 < n then D 62 (i + 1) else 0) ∧ r 1 = (if i + 1 < n then D 63 (i + 1) else nI (N - 62 * i)) ∧ ∀ q, q < 62 → r (q + 2) = if 62 * i + q < N then D 66 (62 * i + q) else 0 := by
  have n62 : gN XG 62 = 40 := rfl
  have n63 : gN XG 63 = 40 := rfl
  have n64 : gN XG 64 = 64 := rfl
  have b0 : inB 0 64 = true := by decide
  have b1 : inB 1 64 = true := by decide
  have z0 : Int32.toNatClampNeg 0 = 0 := rfl
  have z1 : Int32.toNatClampNeg 1 = 1 := rfl
  have key : ∀ (v w : Int32), ∃ r : Nat → Int32, P_X2_fillBlock_73 (gN XG) F (nI (62 * i)) (up2 (up2 D 64 0 v) 64 1 w) = some (0, upA D 64 r) ∧ r 0 = v ∧ r 1 = w ∧ ∀ q, q < 62 → r (q + 2) = if 62 * i + q < N then D 66 (62 * i + q) else 0 := by
    intro v w
    obtain ⟨r, q1, q2, q3⟩ := fill76_go (F := F) (a := 62 * i) hN (by omega) 62 F 0 (up2 (up2 D 64 0 v) 64 1 w) (by decide) (by omega) (by rw [up2_o (by decide), up2_o (by decide)]; exact h65) (by rw [up2_o (by decide), up2_o (by decide)]; exact hb)
    rw [show up2 (up2 D 64 0 v) 64 1 w 66 = D 66 by rw [up2_o (by decide), up2_o (by decide)]] at q3
    rw [show upA (up2 (up2 D 64 0 v) 64 1 w) 64 r = upA D 64 r by rw [up2_A, upA_upA, up2_A, upA_upA]] at q1
    refine ⟨r, q1, ?_, ?_, fun q hq => q3 q (by omega) hq⟩
    · rw [q2 0 (by omega), up2_app, if_neg (by omega), up2_app, if_pos ⟨rfl, rfl⟩]
    · rw [q2 1 (by omega), up2_app, if_pos ⟨rfl, rfl⟩]
  unfold P_X2_fillBlock P_X2_fillBlock_44
  rw [h61, nI_1, show (62 : Int32) * nI i = nI (62 * i) from pk_mul 62 i, n62, n63, n64, if_pos b0, if_pos b0, if_pos b1, if_pos b1, z0, z1]
  by_cases c : i + 1 < n
  · rw [if_pos (nI_lt c (by omega)), if_pos (in_nI (by omega) (by omega)), nI_clamp (by omega), if_pos rfl, if_pos (in_nI (by omega) (by omega)), up2_o (show 63 ≠ 64 by decide), if_pos c, if_pos c]
    exact key _ _
  · rw [if_neg (nI_nlt (by omega) (by omega)), if_neg (show ¬ ((1 : Int32) = 0) by decide), up2_o (show 65 ≠ 64 by decide), h65, pk_sub hr, if_neg c, if_neg c]
    exact key _ _
theorem wf82_go {F i N : Nat} {k2 : Int32 → Int32 → Mm → Rs} (hi : i < 40) (hN : N ≤ 2480) (hr : 62 * i ≤ N) : ∀ (m fu j : Nat) (D : Mm), j + m = 62 → m < fu → ∃ r : Nat → Int32, P_X8_writeFile_82 (gN MG) F k2 fu (nI N) (nI i) (nI (N - 62 * i)) (nI j) D = bi (P_X8_writeBlock (gN MG) F (D 13 i) (D 14 i) (upA D 8 r)) (fun r4 D4 => if r4 ≤ 0 then (k2 (nI N) (nI (i + 1)) D4) else (bi (P_X8_ends (gN MG) F r4 (D4 13 i) (D4 14 i) D4) (fun r8 D8 => if r8 = 0 then (some (1, D8)) else (some (0, D8))))) ∧ (∀ q, q < j + 2 → r q = D 8 q) ∧ ∀ q, j ≤ q → q < 62 → r (q + 2) = if 62 * i + q < N then D 5 (62 * i + q) else 0 := by
  have n8 : gN MG 8 = 64 := rfl
  have n5 : gN MG 5 = 2480 := rfl
  have n13 : gN MG 13 = 40 := rfl
  have n14 : gN MG 14 = 40 := rfl
  have i40 : inB (nI i) 40 = true := in_nI (by omega) (by omega)
  intro m
  induction m with
  | zero =>
    intro fu j D hj hfu
    obtain ⟨fu, rfl⟩ : ∃ z, fu = z + 1 := ⟨fu - 1, by omega⟩
    refine ⟨D 8, ?_, fun _ _ => rfl, fun q _ _ => by omega⟩
    show (if (62 : Int32) ≤ nI j then (if inB (nI i) (gN MG 13) = true then (if inB (nI i) (gN MG 14) = true then (bi (P_X8_writeBlock (gN MG) F (D 13 (Int32.toNatClampNeg (nI i))) (D 14 (Int32.toNatClampNeg (nI i))) D) (fun r4 D4 => if r4 ≤ 0 then (k2 (nI N) (nI i + 1) D4) else (if inB (nI i) (gN MG 13) = true then (if inB (nI i) (gN MG 14) = true then (bi (P_X8_ends (gN MG) F r4 (D4 13 (Int32.toNatClampNeg (nI i))) (D4 14 (Int32.toNatClampNeg (nI i))) D4) (fun r8 D8 => if r8 = 0 then (some (1, D8)) else (some (0, D8)))) else none) else none))) else none) else none) else _) = _
    rw [if_pos (show (62 : Int32) ≤ nI j from nI_le (a := 62) (by omega) (by omega)), upA_id, n13, n14]
    simp only [i40, if_true, nI_clamp (show i < 2 ^ 31 by omega), nI_1]
  | succ m ih =>
    intro fu j D hj hfu
    obtain ⟨fu, rfl⟩ : ∃ z, fu = z + 1 := ⟨fu - 1, by omega⟩
    obtain ⟨r, q1, q2, q3⟩ := ih fu (j + 1) (up2 D 8 (j + 2) (if 62 * i + j < N then D 5 (62 * i + j) else 0)) (by omega) (by omega)
    refine ⟨r, ?_, ?_, ?_⟩
    · show (if (62 : Int32) ≤ nI j then _ else (if nI (N - 62 * i) ≤ nI j then (if inB (2 + nI j) (gN MG 8) = true then (P_X8_writeFile_82 (gN MG) F k2 fu (nI N) (nI i) (nI (N - 62 * i)) (nI j + 1) (up2 D 8 (Int32.toNatClampNeg (2 + nI j)) 0)) else none) else (if inB ((62 * nI i) + nI j) (gN MG 5) = true then (if inB (2 + nI j) (gN MG 8) = true then (P_X8_writeFile_82 (gN MG) F k2 fu (nI N) (nI i) (nI (N - 62 * i)) (nI j + 1) (up2 D 8 (Int32.toNatClampNeg (2 + nI j)) (D 5 (Int32.toNatClampNeg ((62 * nI i) + nI j))))) else none) else none))) = _
      rw [if_neg (show ¬ (62 : Int32) ≤ nI j from nI_ge (b := 62) (by omega) (by omega)), show (2 : Int32) + nI j = nI (j + 2) by rw [show (2 : Int32) + nI j = nI (2 + j) from nI_add 2 j, Nat.add_comm], show (62 : Int32) * nI i = nI (62 * i) from pk_mul 62 i, nI_add, n8, n5, if_pos (show inB (nI (j + 2)) 64 = true from in_nI (by omega) (by omega)), if_pos (show inB (nI (j + 2)) 64 = true from in_nI (by omega) (by omega)), nI_clamp (n := j + 2) (by omega), nI_1]
      by_cases c : 62 * i + j < N
      · rw [if_neg (nI_ge (by omega) (by omega)), if_pos (in_nI (by omega) (by omega)), nI_clamp (by omega)]
        rw [if_pos c] at q1
        rw [q1, show upA (up2 D 8 (j + 2) (D 5 (62 * i + j))) 8 r = upA D 8 r from upA_upA D _ _ r, up2_o (show 13 ≠ 8 by decide), up2_o (show 14 ≠ 8 by decide)]
      · rw [if_pos (nI_le (by omega) (by omega))]
        rw [if_neg c] at q1
        rw [q1, show upA (up2 D 8 (j + 2) 0) 8 r = upA D 8 r from upA_upA D _ _ r, up2_o (show 13 ≠ 8 by decide), up2_o (show 14 ≠ 8 by decide)]
    · intro q hq
      rw [q2 q (by omega), up2_app, if_neg (by omega)]
    · intro q hq1 hq2
      by_cases e : q = j
      · subst e
        rw [q2 _ (by omega), up2_app, if_pos ⟨rfl, rfl⟩]
      · rw [q3 q (by omega) hq2, up2_o (by decide)]
theorem wf_eq {F n i N fm : Nat} {E : Mm} (hF : 9000 ≤ F) (hn : n ≤ 40) (hi : i < n) (hN : N ≤ 2480) (hr : 62 * i ≤ N) (h28 : E 0 28 = nI n) : ∃ r : Nat → Int32, P_X8_writeFile_2 (gN MG) F (fm + 1) (nI N) (nI i) E = bi (P_X8_writeBlock (gN MG) F (E 13 i) (E 14 i) (upA E 8 r)) (fun r4 D4 => if r4 ≤ 0 then (P_X8_writeFile_2 (gN MG) F fm (nI N) (nI (i + 1)) D4) else (bi (P_X8_ends (gN MG) F r4 (D4 13 i) (D4 14 i) D4) (fun r8 D8 => if r8 = 0 then (some (1, D8)) else (some (0, D8))))) ∧ r 0 = (if i + 1 < n then E 13 (i + 1) else 0) ∧ r 1 = (if i + 1 < n then E 14 (i + 1) else nI (N - 62 * i)) ∧ ∀ q, q < 62 → r (q + 2) = if 62 * i + q < N then E 5 (62 * i + q) else 0 := by
  have n8 : gN MG 8 = 64 := rfl
  have n13 : gN MG 13 = 40 := rfl
  have n14 : gN MG 14 = 40 := rfl
  have b0 : inB 0 64 = true := by decide
  have b1 : inB 1 64 = true := by decide
  have z0 : Int32.toNatClampNeg 0 = 0 := rfl
  have z1 : Int32.toNatClampNeg 1 = 1 := rfl
  have key : ∀ (v w : Int32), ∃ r : Nat → Int32, P_X8_writeFile_79 (gN MG) F (fun x1 x2 D => P_X8_writeFile_2 (gN MG) F fm x1 x2 D) (nI N) (nI i) (nI (N - 62 * i)) (up2 (up2 E 8 0 v) 8 1 w) = bi (P_X8_writeBlock (gN MG) F (E 13 i) (E 14 i) (upA E 8 r)) (fun r4 D4 => if r4 ≤ 0 then (P_X8_writeFile_2 (gN MG) F fm (nI N) (nI (i + 1)) D4) else (bi (P_X8_ends (gN MG) F r4 (D4 13 i) (D4 14 i) D4) (fun r8 D8 => if r8 = 0 then (some (1, D8)) else (some (0, D8))))) ∧ r 0 = v ∧ r 1 = w ∧ ∀ q, q < 62 → r (q + 2) = if 62 * i + q < N then E 5 (62 * i + q) else 0 := by
    intro v w
    obtain ⟨r, q1, q2, q3⟩ := wf82_go (F := F) (i := i) (N := N) (k2 := fun x1 x2 D => P_X8_writeFile_2 (gN MG) F fm x1 x2 D) (by omega) hN hr 62 F 0 (up2 (up2 E 8 0 v) 8 1 w) (by decide) (by omega)
    rw [show up2 (up2 E 8 0 v) 8 1 w 5 = E 5 by rw [up2_o (by decide), up2_o (by decide)]] at q3
    rw [show upA (up2 (up2 E 8 0 v) 8 1 w) 8 r = upA E 8 r by rw [up2_A, upA_upA, up2_A, upA_upA], show up2 (up2 E 8 0 v) 8 1 w 13 = E 13 by rw [up2_o (by decide), up2_o (by decide)], show up2 (up2 E 8 0 v) 8 1 w 14 = E 14 by rw [up2_o (by decide), up2_o (by decide)]] at q1
    refine ⟨r, q1, ?_, ?_, fun q hq => q3 q (by omega) hq⟩
    · rw [q2 0 (by omega), up2_app, if_neg (by omega), up2_app, if_pos ⟨rfl, rfl⟩]
    · rw [q2 1 (by omega), up2_app, if_pos ⟨rfl, rfl⟩]
  have e0 : P_X8_writeFile_2 (gN MG) F (fm + 1) (nI N) (nI i) E = (if nI (i + 1) = nI n then (P_X8_writeFile_25 (gN MG) F (fun x1 x2 D => P_X8_writeFile_2 (gN MG) F fm x1 x2 D) (nI N) (nI i) 1 E) else (P_X8_writeFile_25 (gN MG) F (fun x1 x2 D => P_X8_writeFile_2 (gN MG) F fm x1 x2 D) (nI N) (nI i) 0 E)) := by
    show (if (E 0 28) ≤ nI i then _ else (if (nI i + 1) = (E 0 28) then (P_X8_writeFile_25 (gN MG) F (fun x1 x2 D => P_X8_writeFile_2 (gN MG) F fm x1 x2 D) (nI N) (nI i) 1 E) else (P_X8_writeFile_25 (gN MG) F (fun x1 x2 D => P_X8_writeFile_2 (gN MG) F fm x1 x2 D) (nI N) (nI i) 0 E))) = _
    rw [h28, if_neg (nI_ge hi (by omega)), nI_1]
  rw [e0]
  unfold P_X8_writeFile_25
  rw [show (62 : Int32) * nI i = nI (62 * i) from pk_mul 62 i, pk_sub hr, nI_1, n8, n13, n14, z0, z1]
  by_cases c : i + 1 < n
  · have hne : ¬ nI (i + 1) = nI n := fun q => by
      have a := (nI_leI (a := n) (b := i + 1) (by omega) (by omega)).mp (by rw [q]; exact nI_le (Nat.le_refl _) (by omega))
      omega
    rw [if_neg hne, if_pos rfl, if_pos rfl, if_pos c, if_pos c]
    have j40 : inB (nI (i + 1)) 40 = true := in_nI (by omega) (by omega)
    simp only [j40, b0, b1, if_true, nI_clamp (show i + 1 < 2 ^ 31 by omega)]
    rw [up2_o (show 14 ≠ 8 by decide)]
    exact key _ _
  · have e : i + 1 = n := by omega
    rw [if_pos (by rw [e]), if_neg (show ¬ ((1 : Int32) = 0) by decide), if_neg (show ¬ ((1 : Int32) = 0) by decide), if_neg c, if_neg c, if_pos b0, if_pos b1]
    exact key _ _
theorem nn (c : Nat) : c ∉ ([] : List Nat) := List.not_mem_nil
theorem store_go {F n N : Nat} (hF : 9000 ≤ F) (hN : N ≤ 2480) (hn : n ≤ 40) (hr : ∀ i, i < n → 62 * i ≤ N) : ∀ (m i fx fm : Nat) (D E : Mm), i + m = n → m < fx → m < fm → ¬ D 2 3 = -1 → Core D E → ChOk n D E → D 65 1 = nI N → (∀ i, i < N → D 66 i = E 5 i ∧ By (D 66 i)) → ∃ (e b' : Int32) (D1 E1 : Mm), P_X2_store_4 (gN XG) F fx 0 (nI i) D = some (e, D1) ∧ P_X8_writeFile_2 (gN MG) F fm (nI N) (nI i) E = some (b', E1) ∧ Core D1 E1 ∧ DX [64] D D1 ∧ DM [] [] E E1 ∧ ((e = 0 ∧ b' = 1 ∧ StK D E D1 E1) ∨ (¬ e = 0 ∧ b' = 0 ∧ Stt D1 E1 ∧ D1 1 0 = e)) := by
  have n62 : gN XG 62 = 40 := rfl
  have n63 : gN XG 63 = 40 := rfl
  intro m
  induction m with
  | zero =>
    intro i fx fm D E hi hfx hfm hid hc hch h65 hb
    obtain ⟨fx, rfl⟩ : ∃ z, fx = z + 1 := ⟨fx - 1, by omega⟩
    obtain ⟨fm, rfl⟩ : ∃ z, fm = z + 1 := ⟨fm - 1, by omega⟩
    refine ⟨0, 1, D, E, ?_, ?_, hc, DX.refl _ D, DM.refl _ _ E, Or.inl ⟨rfl, rfl, rfl, rfl, rfl, rfl⟩⟩
    · show (if (D 61 4) ≤ nI i then _ else _) = _
      rw [hch.2.1, if_pos (nI_le (by omega) (by omega))]
    · show (if (E 0 28) ≤ nI i then _ else _) = _
      rw [hch.2.2.1, if_pos (nI_le (by omega) (by omega))]
  | succ m ih =>
    intro i fx fm D E hi hfx hfm hid hc hch h65 hb
    obtain ⟨fx, rfl⟩ : ∃ z, fx = z + 1 := ⟨fx - 1, by omega⟩
    obtain ⟨fm, rfl⟩ : ∃ z, fm = z + 1 := ⟨fm - 1, by omega⟩
    obtain ⟨r, p1, p2, p3, p4⟩ := fill_eq (F := F) (n := n) (i := i) (N := N) (D := D) hF hn (by omega) hN (hr i (by omega)) hch.2.1 h65 (fun i hi => (hb i hi).2)
    obtain ⟨r', q1, q2, q3, q4⟩ := wf_eq (F := F) (n := n) (i := i) (N := N) (fm := fm) (E := E) hF hn (by omega) hN (hr i (by omega)) hch.2.2.1
    obtain ⟨t, s, hv, e1, e2, e3, e4⟩ := hch.2.2.2 i (by omega)
    obtain ⟨h1, ht, hs⟩ := id hv
    have rows : ∀ j, j < 64 → upA D 64 r 64 j = upA E 8 r' 8 j := by
      intro j hj
      rw [upA_row, upA_row]
      by_cases c0 : j = 0
      · subst c0
        rw [p2, q2]
        by_cases c : i + 1 < n
        · obtain ⟨t', s', _, f1, f2, f3, f4⟩ := hch.2.2.2 (i + 1) c
          rw [if_pos c, if_pos c, f1, f2]
        · rw [if_neg c, if_neg c]
      · by_cases c1 : j = 1
        · subst c1
          rw [p3, q3]
          by_cases c : i + 1 < n
          · obtain ⟨t', s', _, f1, f2, f3, f4⟩ := hch.2.2.2 (i + 1) c
            rw [if_pos c, if_pos c, f3, f4]
          · rw [if_neg c, if_neg c]
        · obtain ⟨q, rfl⟩ : ∃ q, j = q + 2 := ⟨j - 2, by omega⟩
          rw [p4 q (by omega), q4 q (by omega)]
          by_cases c : 62 * i + q < N
          · rw [if_pos c, if_pos c, (hb _ c).1]
          · rw [if_neg c, if_neg c]
    obtain ⟨e, D2, E2, w1, w2, w3, w4, w5⟩ := store_sim (F := F) (t := t) (s := s) (u := 64) (Dx := upA D 64 r) (Dm := upA E 8 r') hF h1 ht hs (by decide) rfl (by rw [upA_ne (by decide)]; exact hid) (hc.ups (fun c a b => upA_ne (by omega)) (fun c a b => upA_ne (by omega)) (fun k hk => by rw [upA_ne (by decide)])) rows
    have ex : P_X2_store_4 (gN XG) F (fx + 1) 0 (nI i) D = P_X2_store_4 (gN XG) F fx e (nI (i + 1)) D2 := by
      show (if (D 61 4) ≤ nI i then _ else (if (0 : Int32) = 0 then (bi (P_X2_fillBlock (gN XG) F (nI i) D) (fun r3 D3 => if inB (nI i) (gN XG 62) = true then (if inB (nI i) (gN XG 63) = true then (bi (P_X0_store (gN XG) F 64 (D3 62 (Int32.toNatClampNeg (nI i))) (D3 63 (Int32.toNatClampNeg (nI i))) D3) (fun r6 D6 => P_X2_store_4 (gN XG) F fx r6 (nI i + 1) D6)) else none) else none)) else _)) = _
      rw [hch.2.1, if_neg (nI_ge (by omega) (by omega)), if_pos rfl, p1, bi_s, n62, n63, if_pos (in_nI (by omega) (by omega)), if_pos (in_nI (by omega) (by omega)), nI_clamp (by omega), upA_ne (show 62 ≠ 64 by decide), upA_ne (show 63 ≠ 64 by decide), e1, e3, w1, bi_s, nI_1]
    rw [ex, q1, e2, e4, w2, bi_s]
    have dx : DX [64] D D2 := DX.trans ⟨by rw [upA_ne (by decide)], fun c _ v => upA_ne (fun q => v (by rw [q]; decide))⟩ (w3.mono (fun c q => absurd q (nn c)))
    have dm : DM [] [] E E2 := DM.trans ⟨fun c _ _ d _ => upA_ne d, fun j _ _ => by rw [upA_ne (by decide)]⟩ w4
    rcases w5 with ⟨rfl, v1, v2⟩ | ⟨z1, z2, v1, v2, v3⟩
    · rw [if_pos (by decide)]
      have ch2 : ChOk n D2 E2 := ⟨hch.1, by rw [dx.2 61 (by decide) (by decide)]; exact hch.2.1, by rw [dm.2 28 (by decide) (by decide)]; exact hch.2.2.1, by rw [dx.2 62 (by decide) (by decide), dx.2 63 (by decide) (by decide), dm.1 13 (by decide) (by decide) (by decide) (by decide), dm.1 14 (by decide) (by decide) (by decide) (by decide)]; exact hch.2.2.2⟩
      obtain ⟨e, b', D3, E3, y1, y2, y3, y4, y5, y6⟩ := ih (i + 1) fx fm D2 E2 (by omega) (by omega) (by omega) (by rw [dx.1]; exact hid) v1 ch2 (by rw [dx.2 65 (by decide) (by decide)]; exact h65) (by rw [dx.2 66 (by decide) (by decide), dm.1 5 (by decide) (by decide) (by decide) (by decide)]; exact hb)
      refine ⟨e, b', D3, E3, y1, y2, y3, dx.trans y4, dm.trans y5, ?_⟩
      have sk : StK D E D2 E2 := by
        unfold StK at v2 ⊢
        rw [upA_ne (show 1 ≠ 64 by decide), upA_ne (show 0 ≠ 8 by decide)] at v2
        exact v2
      rcases y6 with ⟨a, b, c⟩ | ⟨a, b, c, d⟩
      · exact Or.inl ⟨a, b, sk.trans c⟩
      · exact Or.inr ⟨a, b, c, d⟩
    · rw [if_neg z2, dm.1 13 (by decide) (by decide) (by decide) (by decide), dm.1 14 (by decide) (by decide) (by decide) (by decide), e2, e4, ends_neg z1]
      obtain ⟨fx, rfl⟩ : ∃ z, fx = z + 1 := ⟨fx - 1, by omega⟩
      refine ⟨e, 0, D2, _, ?_, rfl, v1, dx, dm.trans (tM_dm _ _), Or.inr ⟨z1, rfl, v2, v3⟩⟩
      show (if (D2 61 4) ≤ nI (i + 1) then some (e, D2) else (if e = 0 then _ else some (e, D2))) = _
      rw [if_neg z1, ite_self]
