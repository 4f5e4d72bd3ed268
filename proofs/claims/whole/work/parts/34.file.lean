/-! FILE: a file's chain read in lockstep -/
def ChOk (n : Nat) (D E : Mm) : Prop := n ≤ 40 ∧ D 61 4 = nI n ∧ E 0 28 = nI n ∧ ∀ i, i < n → ∃ t s, Vd t s ∧ D 62 i = nI t ∧ E 13 i = nI t ∧ D 63 i = nI s ∧ E 14 i = nI s
def Same (D0 E0 D E : Mm) : Prop := D 67 = D0 67 ∧ D 68 = D0 68 ∧ E 0 8 = E0 0 8 ∧ E 6 = E0 6
def Emit (u : Nat) (x : Int32) (D0 E0 : Mm) (l : List Int32) (D E : Mm) : Prop := (u = 67 ∧ x = 1 ∧ OX l D ∧ OM l E) ∨ (u = 69 ∧ x = 0 ∧ D 69 1 = 0 ∧ Same D0 E0 D E)
theorem Emit.keep {u : Nat} {x : Int32} {D0 E0 D E D1 E1 : Mm} {l : List Int32} (h : Emit u x D0 E0 l D E) (h1 : D1 67 = D 67) (h2 : D1 68 = D 68) (h3 : D1 69 = D 69) (h4 : E1 0 8 = E 0 8) (h5 : E1 6 = E 6) : Emit u x D0 E0 l D1 E1 := by
  rcases h with ⟨a, b, c, d⟩ | ⟨a, b, c, d⟩
  · exact Or.inl ⟨a, b, c.keep h1 h2, d.keep h4 h5⟩
  · exact Or.inr ⟨a, b, by rw [h3]; exact c, ⟨h1.trans d.1, h2.trans d.2.1, h4.trans d.2.2.1, h5.trans d.2.2.2⟩⟩
theorem nowhere_go {F s w : Nat} {D : Mm} (h : D 69 1 = 0) : ∀ (m fu a : Nat), a + m = s + w → a + m ≤ 64 → m < fu → P_X1_addRow_3 (gN XG) F 69 64 fu (nI s) (nI w) (nI a) D = some (0, D) := by
  have n64 : gN XG 64 = 64 := rfl
  have n70 : gN XG (69 + 1) = 0 := rfl
  intro m
  induction m with
  | zero =>
    intro fu a he ha hfu
    obtain ⟨fu, rfl⟩ : ∃ z, fu = z + 1 := ⟨fu - 1, by omega⟩
    show (if nI s + nI w ≤ nI a then _ else _) = _
    rw [nI_add, if_pos (nI_le (by omega) (by omega))]
  | succ m ih =>
    intro fu a he ha hfu
    obtain ⟨fu, rfl⟩ : ∃ z, fu = z + 1 := ⟨fu - 1, by omega⟩
    have ea : ∀ v, P_X1_add (gN XG) F 69 v D = some (0, D) := by
      intro v
      unfold P_X1_add
      rw [n70, h, if_pos (by decide)]
    show (if nI s + nI w ≤ nI a then some (0, D) else (if nI (gN XG 64) ≤ nI a then some (0, D) else (if inB (nI a) (gN XG 64) = true then (bi (P_X1_add (gN XG) F 69 (D 64 (Int32.toNatClampNeg (nI a))) D) (fun r4 D4 => P_X1_addRow_3 (gN XG) F 69 64 fu (nI s) (nI w) (nI a + 1) D4)) else none))) = _
    rw [nI_add, if_neg (nI_ge (by omega) (by omega)), n64, if_neg (nI_ge (by omega) (by omega)), if_pos (in_nI (by omega) (by omega)), ea, bi_s, nI_1]
    exact ih fu (a + 1) (by omega) (by omega) (by omega)
theorem rf_go {F w : Nat} {x6 x7 x9 : Int32} {K : Int32 → Int32 → Int32 → Int32 → Int32 → Mm → Rs} (hw : w ≤ 62) : ∀ (m fu j : Nat) (l : List Int32) (E : Mm), j + m = w → m < fu → OM l E → l.length + m ≤ 2480 → ((x9 = 0 ∧ w = 62) ∨ (x9 = 1 ∧ E 8 1 = nI w)) → ∃ E1, P_X8_readFile_254 (gN MG) F K fu 1 x6 x7 x9 (nI j) E = P_X8_readFile_298 (gN MG) F K 1 x6 x7 x9 E1 ∧ OM (l ++ seg (E 8) (2 + j) m) E1 ∧ FQ E E1 := by
  have n8 : gN MG 8 = 64 := rfl
  intro m
  induction m with
  | zero =>
    intro fu j l E hj hfu ho hl h9
    obtain ⟨fu, rfl⟩ : ∃ z, fu = z + 1 := ⟨fu - 1, by omega⟩
    refine ⟨E, ?_, by rw [show seg (E 8) (2 + j) 0 = [] from rfl, List.append_nil]; exact ho, FQ.refl E⟩
    rcases h9 with ⟨rfl, e⟩ | ⟨rfl, e⟩
    · show (if (0 : Int32) = 0 then (if (62 : Int32) ≤ nI j then _ else _) else _) = _
      rw [if_pos rfl, if_pos (show (62 : Int32) ≤ nI j from nI_le (a := 62) (by omega) (by omega))]
    · show (if (1 : Int32) = 0 then _ else (if inB 1 (gN MG 8) = true then (if (E 8 (Int32.toNatClampNeg 1)) ≤ nI j then _ else _) else _)) = _
      rw [if_neg (by decide), n8, if_pos (by decide), show Int32.toNatClampNeg 1 = 1 from rfl, e, if_pos (nI_le (by omega) (by omega))]
  | succ m ih =>
    intro fu j l E hj hfu ho hl h9
    obtain ⟨fu, rfl⟩ : ∃ z, fu = z + 1 := ⟨fu - 1, by omega⟩
    obtain ⟨E1, p1, p2, p3⟩ := tell_om (F := F) (v := E 8 (2 + j)) ho (by omega)
    have e8 : E1 8 = E 8 := p3.1 8 (by decide) (by decide)
    obtain ⟨E2, q1, q2, q3⟩ := ih fu (j + 1) _ E1 (by omega) (by omega) p2 (by rw [List.length_append]; simp; omega) (by rw [e8]; exact h9)
    have ad : (2 : Int32) + nI j = nI (2 + j) := nI_add 2 j
    refine ⟨E2, ?_, ?_, p3.trans q3⟩
    · rcases h9 with ⟨rfl, e⟩ | ⟨rfl, e⟩
      · show (if (0 : Int32) = 0 then (if (62 : Int32) ≤ nI j then _ else (if (1 : Int32) = 0 then _ else (if inB (2 + nI j) (gN MG 8) = true then (bi (P_X8_tell (gN MG) F (E 8 (Int32.toNatClampNeg (2 + nI j))) E) (fun r8 D8 => P_X8_readFile_254 (gN MG) F K fu 1 x6 x7 0 (nI j + 1) D8)) else none))) else _) = _
        rw [if_pos rfl, if_neg (show ¬ (62 : Int32) ≤ nI j from nI_ge (b := 62) (by omega) (by omega)), if_neg (by decide), ad, n8, if_pos (in_nI (by omega) (by omega)), nI_clamp (by omega), p1, bi_s, nI_1, q1]
      · show (if (1 : Int32) = 0 then _ else (if inB 1 (gN MG 8) = true then (if (E 8 (Int32.toNatClampNeg 1)) ≤ nI j then _ else (if (1 : Int32) = 0 then _ else (if inB (2 + nI j) (gN MG 8) = true then (bi (P_X8_tell (gN MG) F (E 8 (Int32.toNatClampNeg (2 + nI j))) E) (fun r13 D13 => P_X8_readFile_254 (gN MG) F K fu 1 x6 x7 1 (nI j + 1) D13)) else none))) else none)) = _
        rw [if_neg (by decide), n8, if_pos (show inB 1 64 = true by decide), show Int32.toNatClampNeg 1 = 1 from rfl, e, if_neg (nI_ge (by omega) (by omega)), if_neg (by decide), ad, if_pos (in_nI (by omega) (by omega)), nI_clamp (by omega), p1, bi_s, nI_1, q1]
    · rw [e8, List.append_assoc] at q2
      rw [show seg (E 8) (2 + j) (m + 1) = E 8 (2 + j) :: seg (E 8) (2 + j + 1) m from rfl, show 2 + j + 1 = 2 + (j + 1) by omega]
      exact q2
theorem emit_sim {F w u : Nat} {x x6 x7 x9 : Int32} {K : Int32 → Int32 → Int32 → Int32 → Int32 → Mm → Rs} {D0 E0 D E : Mm} {l : List Int32} (hF : 9000 ≤ F) (hw : w ≤ 62) (h : Emit u x D0 E0 l D E) (hl : l.length + w ≤ 2480) (h9 : (x9 = 0 ∧ w = 62) ∨ (x9 = 1 ∧ E 8 1 = nI w)) (hr : ∀ j, j < 64 → D 64 j = E 8 j ∧ By (D 64 j)) : ∃ l1 D1 E1, P_X1_addRow (gN XG) F u 64 2 (nI w) D = some (0, D1) ∧ P_X8_readFile_254 (gN MG) F K F x x6 x7 x9 0 E = P_X8_readFile_298 (gN MG) F K x x6 x7 x9 E1 ∧ Emit u x D0 E0 l1 D1 E1 ∧ l1.length ≤ l.length + w ∧ FO D D1 ∧ FQ E E1 := by
  rcases h with ⟨rfl, rfl, a, b⟩ | ⟨rfl, rfl, a, b⟩
  · obtain ⟨D1, p1, p2, p3⟩ := addRow_ox (F := F) (u := 64) (a := 2) (m := w) (by omega) rfl (by decide) (by omega) a hl (fun j _ hj => (hr j (by omega)).2)
    obtain ⟨E1, q1, q2, q3⟩ := rf_go (F := F) (x6 := x6) (x7 := x7) (x9 := x9) (K := K) hw w F 0 l E (by omega) (by omega) b hl h9
    rw [seg_congr (f := E 8) (g := D 64) w (2 + 0) 2 (fun j hj => (hr (2 + j) (by omega)).1.symm)] at q2
    exact ⟨_, D1, E1, p1, q1, Or.inl ⟨rfl, rfl, p2, q2⟩, by rw [List.length_append, seg_len]; exact Nat.le_refl _, p3, q3⟩
  · have n8 : gN MG 8 = 64 := rfl
    refine ⟨l, D, E, nowhere_go (F := F) a w F 2 rfl (by omega) (by omega), ?_, Or.inr ⟨rfl, rfl, a, b⟩, by omega, FO.refl D, FQ.refl E⟩
    obtain ⟨f, hf⟩ : ∃ z, F = z + 1 := ⟨F - 1, by omega⟩
    have key : ∀ G, P_X8_readFile_254 (gN MG) G K (f + 1) 0 x6 x7 x9 0 E = P_X8_readFile_298 (gN MG) G K 0 x6 x7 x9 E := by
      intro G
      rcases h9 with ⟨rfl, e⟩ | ⟨rfl, e⟩
      · show (if (0 : Int32) = 0 then (if (62 : Int32) ≤ 0 then _ else (if (0 : Int32) = 0 then _ else _)) else _) = _
        rw [if_pos rfl, if_neg (by decide), if_pos rfl]
      · show (if (1 : Int32) = 0 then _ else (if inB 1 (gN MG 8) = true then (if (E 8 (Int32.toNatClampNeg 1)) ≤ 0 then P_X8_readFile_298 (gN MG) G K 0 x6 x7 1 E else (if (0 : Int32) = 0 then P_X8_readFile_298 (gN MG) G K 0 x6 x7 1 E else _)) else none)) = _
        rw [if_neg (by decide), n8, if_pos (by decide), if_pos rfl, ite_self]
    have := key F
    rw [← hf] at this
    exact this
def FlEnd (u : Nat) (x : Int32) (D0 E0 D E D1 E1 : Mm) (e b' : Int32) : Prop := Core D1 E1 ∧ Stt D1 E1 ∧ D1 1 0 = e ∧ DX [61, 62, 63, 64, 67, 68] D D1 ∧ DM [6, 13, 14] [8, 28] E E1 ∧ ((¬ e = 0 ∧ b' = 0 ∧ (u = 69 → Same D0 E0 D1 E1)) ∨ (e = 0 ∧ b' = 1 ∧ (∃ l, Emit u x D0 E0 l D1 E1) ∧ ∃ n, ChOk n D1 E1))
theorem follow_go {F u : Nat} {x : Int32} {D0 E0 : Mm} (hF : 9000 ≤ F) : ∀ (m i n fm t s : Nat) (x4 x5 : Int32) (D E : Mm) (l : List Int32), i + m = 40 → 1 ≤ m → m < n → m + 1 < fm → Vd t s → ¬ D 2 3 = -1 → Core D E → Stt D E → D 1 0 = 0 → ChOk i D E → Emit u x D0 E0 l D E → l.length ≤ 62 * i → ∃ (e b' : Int32) (D1 E1 : Mm), P_X2_follow_80 (gN XG) F u n (nI t) (nI s) (nI i) D = some (e, D1) ∧ P_X8_readFile_96 (gN MG) F fm x x4 x5 (nI t) (nI s) E = some (b', E1) ∧ FlEnd u x D0 E0 D E D1 E1 e b' := by
  have n8 : gN MG 8 = 64 := rfl
  have n13 : gN MG 13 = 40 := rfl
  have n14 : gN MG 14 = 40 := rfl
  have n62 : gN XG 62 = 40 := rfl
  have n63 : gN XG 63 = 40 := rfl
  have n64 : gN XG 64 = 64 := rfl
  have b0 : inB 0 64 = true := by decide
  have b1 : inB 1 64 = true := by decide
  have z0 : Int32.toNatClampNeg 0 = 0 := rfl
  have z1 : Int32.toNatClampNeg 1 = 1 := rfl
  intro m
  induction m with
  | zero => intro i n fm t s x4 x5 D E l hm h; exact absurd h (by decide)
  | succ m ih =>
    intro i n fm t s x4 x5 D E l hm _ hn hfm hv hid hc hst h0 hch hem hll
    obtain ⟨n, rfl⟩ : ∃ z, n = z + 1 := ⟨n - 1, by omega⟩
    obtain ⟨fm, rfl⟩ : ∃ z, fm = z + 1 := ⟨fm - 1, by omega⟩
    obtain ⟨h1, ht, hs⟩ := id hv
    obtain ⟨hi40, ch1, ch2, ch3⟩ := id hch
    have ne40 : ∀ j, j < 40 → ¬ nI j = 40 := fun j hj q => by
      have := (nI_leI (a := 40) (b := j) (by omega) (by omega)).mp (by rw [q]; decide)
      omega
    obtain ⟨e, D1, E1, p1, p2, p3, p4, p5⟩ := fetch_sim (F := F) (u := 64) hF h1 ht hs (by decide) rfl hid hc
    have ex : P_X2_follow_80 (gN XG) F u (n + 1) (nI t) (nI s) (nI i) D = bi (P_X0_fetch (gN XG) F 64 (nI t) (nI s) D) (fun r19 D19 => if r19 = 0 then (bi (P_X2_addBlock (gN XG) F (nI t) (nI s) D19) (fun r21 D21 => if (D21 64 0) = 0 then (P_X2_follow_132 (gN XG) F u (fun x3 x4 x5 D => P_X2_follow_80 (gN XG) F u n x3 x4 x5 D) (nI t) (nI s) (nI i) 1 D21) else (P_X2_follow_132 (gN XG) F u (fun x3 x4 x5 D => P_X2_follow_80 (gN XG) F u n x3 x4 x5 D) (nI t) (nI s) (nI i) 0 D21))) else (some (r19, D19))) := by
      show (if (40 : Int32) ≤ nI i then _ else (bi (P_X0_fetch (gN XG) F 64 (nI t) (nI s) D) (fun r19 D19 => if r19 = 0 then (bi (P_X2_addBlock (gN XG) F (nI t) (nI s) D19) (fun r21 D21 => if inB 0 (gN XG 64) = true then (if (D21 64 (Int32.toNatClampNeg 0)) = 0 then (P_X2_follow_132 (gN XG) F u (fun x3 x4 x5 D => P_X2_follow_80 (gN XG) F u n x3 x4 x5 D) (nI t) (nI s) (nI i) 1 D21) else (P_X2_follow_132 (gN XG) F u (fun x3 x4 x5 D => P_X2_follow_80 (gN XG) F u n x3 x4 x5 D) (nI t) (nI s) (nI i) 0 D21)) else none)) else (some (r19, D19))))) = _
      rw [if_neg (show ¬ (40 : Int32) ≤ nI i from nI_ge (b := 40) (by omega) (by omega))]
      rfl
    have em : P_X8_readFile_96 (gN MG) F (fm + 1) x x4 x5 (nI t) (nI s) E = bi (P_X8_readBlock (gN MG) F (nI t) (nI s) E) (fun r26 D26 => if r26 ≤ 0 then (if inB (D26 0 28) (gN MG 13) = true then (if inB ((up2 D26 13 (Int32.toNatClampNeg (D26 0 28)) (nI t)) 0 28) (gN MG 14) = true then (P_X8_readFile_190 (gN MG) F (fun x3 x4 x5 x6 x7 D => P_X8_readFile_96 (gN MG) F fm x3 x4 x5 x6 x7 D) x (nI t) (nI s) (up2 (up2 D26 13 (Int32.toNatClampNeg (D26 0 28)) (nI t)) 14 (Int32.toNatClampNeg ((up2 D26 13 (Int32.toNatClampNeg (D26 0 28)) (nI t)) 0 28)) (nI s))) else none) else none) else (bi (P_X8_ends (gN MG) F r26 (nI t) (nI s) D26) (fun r30 D30 => if r30 = 0 then (some (1, D30)) else (some (0, D30))))) := by
      show bi (P_X8_isBlock (gN MG) F (nI t) (nI s) E) _ = _
      rw [misBlock_eq E h1 ht hs, bi_s, if_neg (by decide), ch2, if_neg (ne40 i (by omega))]
    rw [p1, bi_s] at ex
    rw [p2, bi_s] at em
    have dx1 : DX [61, 62, 63, 64, 67, 68] D D1 := p3.mono (by decide)
    have dm1 : DM [6, 13, 14] [8, 28] E E1 := p4.mono (by decide) (by decide)
    have em1 : Emit u x D0 E0 l D1 E1 := hem.keep (p3.2 67 (by decide) (by decide)) (p3.2 68 (by decide) (by decide)) (p3.2 69 (by decide) (by decide)) (p4.2 8 (by decide) (by decide)) (p4.1 6 (by decide) (by decide) (by decide) (by decide))
    have sameOf : ∀ {l : List Int32} {A B : Mm}, Emit u x D0 E0 l A B → u = 69 → Same D0 E0 A B := by
      intro l A B h hu
      rcases h with ⟨a, _⟩ | ⟨_, _, _, d⟩
      · rw [hu] at a; exact absurd a (by decide)
      · exact d
    rcases p5 with ⟨rfl, q1, q2, q3⟩ | ⟨z1', z2', q1, q2, q3⟩
    · rw [if_pos rfl] at ex
      have c61 : D1 61 4 = nI i := by rw [p3.2 61 (by decide) (by decide)]; exact ch1
      have c28 : E1 0 28 = nI i := by rw [p4.2 28 (by decide) (by decide)]; exact ch2
      obtain ⟨D2, hD2⟩ : ∃ z, z = up2 (up2 (up2 D1 62 i (nI t)) 63 i (nI s)) 61 4 (nI (i + 1)) := ⟨_, rfl⟩
      obtain ⟨E2, hE2⟩ : ∃ z, z = up2 (up2 (up2 E1 13 i (nI t)) 14 i (nI s)) 0 28 (nI (i + 1)) := ⟨_, rfl⟩
      have ea : P_X2_addBlock (gN XG) F (nI t) (nI s) D1 = some (0, D2) := by
        unfold P_X2_addBlock P_X2_addBlock_29
        have g1 : up2 D1 62 i (nI t) 61 4 = nI i := by rw [up2_o (by decide), c61]
        have g2 : up2 (up2 D1 62 i (nI t)) 63 i (nI s) 61 4 = nI i := by rw [up2_o (by decide), g1]
        rw [c61, if_neg (show ¬ (40 : Int32) ≤ nI i from nI_ge (b := 40) (by omega) (by omega)), n62, n63, nI_clamp (by omega), g1, if_pos (in_nI (by omega) (by omega)), if_pos (in_nI (by omega) (by omega)), nI_clamp (by omega), g2, nI_1, hD2]
      have g28 : up2 E1 13 i (nI t) 0 28 = nI i := by rw [up2_o (by decide), c28]
      have g28b : up2 (up2 E1 13 i (nI t)) 14 i (nI s) 0 28 = nI i := by rw [up2_o (by decide), g28]
      rw [if_pos (by decide), c28, nI_clamp (by omega), g28, n13, n14, if_pos (in_nI (by omega) (by omega)), if_pos (in_nI (by omega) (by omega)), nI_clamp (by omega)] at em
      unfold P_X8_readFile_190 at em
      rw [g28b, nI_1, ← hE2, n8, if_pos b0, z0] at em
      have x2 : ∀ c, c ≠ 61 → c ≠ 62 → c ≠ 63 → D2 c = D1 c := fun c u v w => by rw [hD2, up2_o u, up2_o w, up2_o v]
      have y2 : ∀ c, c ≠ 0 → c ≠ 13 → c ≠ 14 → E2 c = E1 c := fun c u v w => by rw [hE2, up2_o u, up2_o w, up2_o v]
      have y20 : ∀ j, j ≠ 28 → E2 0 j = E1 0 j := fun j hj => by rw [hE2, up2_app, if_neg (by omega), up2_o (by decide), up2_o (by decide)]
      have r8 : E2 8 = E1 8 := y2 8 (by decide) (by decide) (by decide)
      have r64 : D2 64 = D1 64 := x2 64 (by decide) (by decide) (by decide)
      have rows : ∀ j, j < 64 → D2 64 j = E2 8 j ∧ By (D2 64 j) := fun j hj => by rw [r8, r64]; exact q3 j hj
      have c2 : Core D2 E2 := q1.ups (fun c a b => x2 c (by omega) (by omega) (by omega)) (fun c a b => y2 c (by omega) (by omega) (by omega)) (fun j hj => y20 j (by omega))
      have st2 : Stt D2 E2 := by
        have := q2.stt hst
        unfold Stt at this ⊢
        rw [x2 1 (by decide) (by decide) (by decide), y20 9 (by decide), y20 10 (by decide), y20 11 (by decide)]
        exact this
      have l2 : D2 1 0 = 0 := by rw [x2 1 (by decide) (by decide) (by decide), q2.1]; exact h0
      have dx2 : DX [61, 62, 63, 64, 67, 68] D D2 := dx1.trans ⟨by rw [x2 2 (by decide) (by decide) (by decide)], fun c u v => x2 c (fun q => v (by rw [q]; decide)) (fun q => v (by rw [q]; decide)) (fun q => v (by rw [q]; decide))⟩
      have dm2 : DM [6, 13, 14] [8, 28] E E2 := dm1.trans ⟨fun c u _ _ v => y2 c (by omega) (fun q => v (by rw [q]; decide)) (fun q => v (by rw [q]; decide)), fun j _ v => y20 j (fun q => v (by rw [q]; decide))⟩
      have em2 : Emit u x D0 E0 l D2 E2 := em1.keep (x2 _ (by decide) (by decide) (by decide)) (x2 _ (by decide) (by decide) (by decide)) (x2 _ (by decide) (by decide) (by decide)) (y20 _ (by decide)) (y2 _ (by decide) (by decide) (by decide))
      have ch : ChOk (i + 1) D2 E2 := by
        refine ⟨by omega, by rw [hD2, up2_app, if_pos ⟨rfl, rfl⟩], by rw [hE2, up2_app, if_pos ⟨rfl, rfl⟩], fun j hj => ?_⟩
        have a1 : D2 62 j = if j = i then nI t else D 62 j := by
          rw [hD2, up2_o (by decide), up2_o (by decide), up2_app, p3.2 62 (by decide) (by decide)]
          by_cases c : j = i
          · rw [if_pos ⟨rfl, c⟩, if_pos c]
          · rw [if_neg (fun q => c q.2), if_neg c]
        have a2 : D2 63 j = if j = i then nI s else D 63 j := by
          rw [hD2, up2_o (by decide), up2_app, up2_o (by decide), p3.2 63 (by decide) (by decide)]
          by_cases c : j = i
          · rw [if_pos ⟨rfl, c⟩, if_pos c]
          · rw [if_neg (fun q => c q.2), if_neg c]
        have a3 : E2 13 j = if j = i then nI t else E 13 j := by
          rw [hE2, up2_o (by decide), up2_o (by decide), up2_app, p4.1 13 (by decide) (by decide) (by decide) (by decide)]
          by_cases c : j = i
          · rw [if_pos ⟨rfl, c⟩, if_pos c]
          · rw [if_neg (fun q => c q.2), if_neg c]
        have a4 : E2 14 j = if j = i then nI s else E 14 j := by
          rw [hE2, up2_o (by decide), up2_app, up2_o (by decide), p4.1 14 (by decide) (by decide) (by decide) (by decide)]
          by_cases c : j = i
          · rw [if_pos ⟨rfl, c⟩, if_pos c]
          · rw [if_neg (fun q => c q.2), if_neg c]
        rw [a1, a2, a3, a4]
        by_cases c : j = i
        · rw [if_pos c, if_pos c, if_pos c, if_pos c]
          exact ⟨t, s, hv, rfl, rfl, rfl, rfl⟩
        · rw [if_neg c, if_neg c, if_neg c, if_neg c]
          exact ch3 j (by omega)
      rw [ea, bi_s] at ex
      rw [ex, em, r8, ← (q3 0 (by omega)).1, ← r64]
      clear ex em
      by_cases cl : D2 64 0 = 0
      · rw [if_pos cl, if_pos cl]
        unfold P_X2_follow_132 P_X8_readFile_214
        obtain ⟨w, hw, ew⟩ := by_ex (rows 1 (by omega)).2
        have ew8 : E2 8 1 = nI w := by rw [← (rows 1 (by omega)).1, ew]
        rw [if_neg (show ¬ ((1 : Int32) = 0) by decide), if_neg (show ¬ ((1 : Int32) = 0) by decide), n8, n64, if_pos b1, if_pos b1, z1, ew, ew8]
        by_cases c62 : w ≤ 62
        · rw [if_pos (show nI w ≤ (62 : Int32) from nI_le (b := 62) c62 (by omega)), if_pos (show nI w ≤ (62 : Int32) from nI_le (b := 62) c62 (by omega))]
          obtain ⟨l3, D3, E3, w1, w2, w3, w4, w5, w6⟩ := emit_sim (F := F) (w := w) (x6 := nI t) (x7 := nI s) (x9 := 1) (K := fun x3 x4 x5 x6 x7 D => P_X8_readFile_96 (gN MG) F fm x3 x4 x5 x6 x7 D) hF c62 em2 (by omega) (Or.inr ⟨rfl, ew8⟩) rows
          unfold P_X2_follow_174 P_X2_follow_196
          rw [if_neg (show ¬ ((1 : Int32) = 0) by decide), n64, if_pos b1, z1, ew, w1, bi_s, if_neg (by decide), w2]
          unfold P_X8_readFile_298
          rw [if_neg (by decide)]
          refine ⟨0, 1, D3, E3, rfl, rfl, c2.ups (fun c a b => w5 c (by omega) (by omega)) (fun c a b => w6.1 c (by omega) (by omega)) (fun j hj => w6.2 j (by omega)), ?_, by rw [w5 1 (by decide) (by decide)]; exact l2, dx2.trans ⟨by rw [w5 2 (by decide) (by decide)], fun c a v => w5 c (fun q => v (by rw [q]; decide)) (fun q => v (by rw [q]; decide))⟩, dm2.trans ⟨fun c a _ _ v => w6.1 c (by omega) (fun q => v (by rw [q]; decide)), fun j _ v => w6.2 j (fun q => v (by rw [q]; decide))⟩, Or.inr ⟨rfl, rfl, ⟨l3, w3⟩, i + 1, ch.1, by rw [w5 61 (by decide) (by decide)]; exact ch.2.1, by rw [w6.2 28 (by decide)]; exact ch.2.2.1, by rw [w5 62 (by decide) (by decide), w5 63 (by decide) (by decide), w6.1 13 (by decide) (by decide), w6.1 14 (by decide) (by decide)]; exact ch.2.2.2⟩⟩
          unfold Stt at st2 ⊢
          rw [w5 1 (by decide) (by decide), w6.2 9 (by decide), w6.2 10 (by decide), w6.2 11 (by decide)]
          exact st2
        · rw [if_neg (show ¬ nI w ≤ (62 : Int32) from nI_ge (a := 62) (by omega) (by omega)), if_neg (show ¬ nI w ≤ (62 : Int32) from nI_ge (a := 62) (by omega) (by omega)), ends_neg (by decide)]
          refine ⟨66, 0, tX 66 (nI t) (nI s) D2, _, rfl, rfl, t_core c2, t_stt, tX_0, dx2.trans (tX_dx _), dm2.trans (tM_dm _ _), Or.inl ⟨by decide, rfl, fun hu => ?_⟩⟩
          exact sameOf (em2.keep (tX_o (by decide)) (tX_o (by decide)) (tX_o (by decide)) (tM_0 (by decide)) (tM_o (by decide))) hu
      · rw [if_neg cl, if_neg cl]
        unfold P_X2_follow_132 P_X8_readFile_214
        rw [if_pos rfl, if_pos rfl, n64, if_pos b0, if_pos b1, z0, z1]
        obtain ⟨l3, D3, E3, w1, w2, w3, w4, w5, w6⟩ := emit_sim (F := F) (w := 62) (x6 := nI t) (x7 := nI s) (x9 := 0) (K := fun x3 x4 x5 x6 x7 D => P_X8_readFile_96 (gN MG) F fm x3 x4 x5 x6 x7 D) hF (by decide) em2 (by omega) (Or.inl ⟨rfl, rfl⟩) rows
        rw [w2]
        unfold P_X8_readFile_298 P_X8_readFile_321 P_X8_readFile_329
        have e38 : E3 8 = E2 8 := w6.1 8 (by decide) (by decide)
        have d64 : D3 64 = D2 64 := w5 64 (by decide) (by decide)
        rw [if_pos rfl, n8, if_pos b0, if_pos b1, z0, z1, e38, ← (rows 0 (by omega)).1, ← (rows 1 (by omega)).1]
        have c3 : Core D3 E3 := c2.ups (fun c a b => w5 c (by omega) (by omega)) (fun c a b => w6.1 c (by omega) (by omega)) (fun j hj => w6.2 j (by omega))
        have c23 : Core D2 E3 := c2.ups (fun _ _ _ => rfl) (fun c a b => w6.1 c (by omega) (by omega)) (fun j hj => w6.2 j (by omega))
        have st3 : Stt D3 E3 := by
          unfold Stt at st2 ⊢
          rw [w5 1 (by decide) (by decide), w6.2 9 (by decide), w6.2 10 (by decide), w6.2 11 (by decide)]
          exact st2
        have dx3 : DX [61, 62, 63, 64, 67, 68] D D3 := dx2.trans ⟨by rw [w5 2 (by decide) (by decide)], fun c a v => w5 c (fun q => v (by rw [q]; decide)) (fun q => v (by rw [q]; decide))⟩
        have dm3 : DM [6, 13, 14] [8, 28] E E3 := dm2.trans ⟨fun c a _ _ v => w6.1 c (by omega) (fun q => v (by rw [q]; decide)), fun j _ v => w6.2 j (fun q => v (by rw [q]; decide))⟩
        have ch4 : ChOk (i + 1) D3 E3 := ⟨ch.1, by rw [w5 61 (by decide) (by decide)]; exact ch.2.1, by rw [w6.2 28 (by decide)]; exact ch.2.2.1, by rw [w5 62 (by decide) (by decide), w5 63 (by decide) (by decide), w6.1 13 (by decide) (by decide), w6.1 14 (by decide) (by decide)]; exact ch.2.2.2⟩
        have e115 : P_X8_readFile_115 (gN MG) F (nI t) (nI s) E3 = some (0, tM 66 (nI t) (nI s) E3) := ends_neg (by decide)
        obtain ⟨fm, rfl⟩ : ∃ z, fm = z + 1 := ⟨fm - 1, by omega⟩
        have ek : ∀ p q : Int32, P_X8_readFile_96 (gN MG) F (fm + 1) x (nI t) (nI s) p q E3 = bi (P_X8_isBlock (gN MG) F p q E3) (fun r23 D23 => if r23 = 0 then (P_X8_readFile_115 (gN MG) F (nI t) (nI s) D23) else (if (D23 0 28) = 40 then (P_X8_readFile_115 (gN MG) F (nI t) (nI s) D23) else (bi (P_X8_readBlock (gN MG) F p q D23) (fun r26 D26 => if r26 ≤ 0 then (if inB (D26 0 28) (gN MG 13) = true then (if inB ((up2 D26 13 (Int32.toNatClampNeg (D26 0 28)) p) 0 28) (gN MG 14) = true then (P_X8_readFile_190 (gN MG) F (fun x3 x4 x5 x6 x7 D => P_X8_readFile_96 (gN MG) F fm x3 x4 x5 x6 x7 D) x p q (up2 (up2 D26 13 (Int32.toNatClampNeg (D26 0 28)) p) 14 (Int32.toNatClampNeg ((up2 D26 13 (Int32.toNatClampNeg (D26 0 28)) p) 0 28)) q)) else none) else none) else (bi (P_X8_ends (gN MG) F r26 p q D26) (fun r30 D30 => if r30 = 0 then (some (1, D30)) else (some (0, D30)))))))) := fun _ _ => rfl
        rcases block_cases (D2 64 0) (D2 64 1) with ⟨t', s', h1', ht', hs', f0, f1⟩ | nb
        · rw [f0, f1, xisBlock_eq D2 h1' ht' hs', bi_s, if_neg (by decide)]
          unfold P_X2_follow_174 P_X2_follow_196
          have w1' : P_X1_addRow (gN XG) F u 64 2 62 D2 = some (0, D3) := w1
          rw [if_pos rfl, w1', bi_s, if_pos rfl, nI_1]
          by_cases c39 : i + 1 = 40
          · rw [if_pos (show (40 : Int32) ≤ nI (i + 1) from nI_le (a := 40) (by omega) (by omega))]
            unfold P_X2_follow_230
            rw [nI_1]
            show ∃ (e b' : Int32) (D1 E1 : Mm), P_X2_follow_80 (gN XG) F u n (nI t) (nI s) (nI (i + 1)) D3 = some (e, D1) ∧ P_X8_readFile_96 (gN MG) F (fm + 1) x (nI t) (nI s) (nI t') (nI s') E3 = _ ∧ _
            obtain ⟨n, rfl⟩ : ∃ z, n = z + 1 := ⟨n - 1, by omega⟩
            have ex4 : P_X2_follow_80 (gN XG) F u (n + 1) (nI t) (nI s) (nI (i + 1)) D3 = some (66, tX 66 (nI t) (nI s) D3) := by
              show (if (40 : Int32) ≤ nI (i + 1) then some (66, tX 66 (nI t) (nI s) D3) else _) = _
              rw [if_pos (show (40 : Int32) ≤ nI (i + 1) from nI_le (a := 40) (by omega) (by omega))]
            rw [ex4, ek, misBlock_eq E3 h1' ht' hs', bi_s, if_neg (show ¬ ((1 : Int32) = 0) by decide), ch4.2.2.1, c39, if_pos (show nI 40 = 40 from rfl), e115]
            refine ⟨66, 0, _, _, rfl, rfl, t_core c3, t_stt, tX_0, dx3.trans (tX_dx _), dm3.trans (tM_dm _ _), Or.inl ⟨by decide, rfl, fun hu => ?_⟩⟩
            exact sameOf (w3.keep (tX_o (by decide)) (tX_o (by decide)) (tX_o (by decide)) (tM_0 (by decide)) (tM_o (by decide))) hu
          · rw [if_neg (show ¬ (40 : Int32) ≤ nI (i + 1) from nI_ge (b := 40) (by omega) (by omega)), n64, if_pos b0]
            unfold P_X2_follow_222 P_X2_follow_230
            rw [n64, if_pos b1, nI_1, z0, z1, d64, f0, f1]
            show ∃ (e b' : Int32) (D1 E1 : Mm), P_X2_follow_80 (gN XG) F u n (nI t') (nI s') (nI (i + 1)) D3 = some (e, D1) ∧ P_X8_readFile_96 (gN MG) F (fm + 1) x (nI t) (nI s) (nI t') (nI s') E3 = _ ∧ _
            obtain ⟨e, b', D4, E4, v1, v2, v3, v4, v5, v6, v7, v8⟩ := ih (i + 1) n (fm + 1) t' s' (nI t) (nI s) D3 E3 l3 (by omega) (by omega) (by omega) (by omega) ⟨h1', ht', hs'⟩ (by rw [dx3.1]; exact hid) c3 st3 (by rw [w5 1 (by decide) (by decide)]; exact l2) ch4 w3 (by omega)
            exact ⟨e, b', D4, E4, v1, v2, v3, v4, v5, dx3.trans v6, dm3.trans v7, v8⟩
        · rw [nb.1, bi_s, if_pos rfl]
          show ∃ (e b' : Int32) (D1 E1 : Mm), some (66, tX 66 (nI t) (nI s) D2) = some (e, D1) ∧ P_X8_readFile_96 (gN MG) F (fm + 1) x (nI t) (nI s) (D2 64 0) (D2 64 1) E3 = some (b', E1) ∧ _
          rw [ek, nb.2, bi_s, if_pos rfl, e115]
          refine ⟨66, 0, _, _, rfl, rfl, t_core c23, t_stt, tX_0, dx2.trans (tX_dx _), dm3.trans (tM_dm _ _), Or.inl ⟨by decide, rfl, fun hu => ?_⟩⟩
          have sm := sameOf w3 hu
          have sm2 := sameOf em2 hu
          exact ⟨(tX_o (by decide)).trans sm2.1, (tX_o (by decide)).trans sm2.2.1, (tM_0 (by decide)).trans sm.2.2.1, (tM_o (by decide)).trans sm.2.2.2⟩
    · rw [if_neg z1'] at ex
      rw [if_neg z2', ends_neg z1'] at em
      refine ⟨e, 0, D1, _, ex, em, q1, q2, q3, dx1, dm1.trans (tM_dm _ _), Or.inl ⟨z1', rfl, fun hu => ?_⟩⟩
      exact sameOf (em1.keep rfl rfl rfl (tM_0 (by decide)) (tM_o (by decide))) hu
