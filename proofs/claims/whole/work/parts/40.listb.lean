/-! LIST, whole -/
def LsEnd (D E D1 E1 : Mm) (x b' : Int32) : Prop := Core D1 E1 ∧ Stt D1 E1 ∧ DX [58, 59, 67, 68] D D1 ∧ DM [10, 11, 12] [23, 24, 25] E E1 ∧ ((x = -1 ∧ b' = 0 ∧ OX [] D1) ∨ (b' = 1 ∧ ∃ d, d ≤ 7 ∧ E1 0 23 = nI d ∧ OX (eall (E1 10) d) D1 ∧ x = nI (eall (E1 10) d).length))
theorem outOr_bad {F : Nat} {e : Int32} {D : Mm} (h : ¬ e = 0) : bi (P_X7_outputOr (gN XG) F e D) (fun r D => some (r, D)) = some (-1, up2 D 67 1 0) := by
  unfold P_X7_outputOr
  rw [if_neg h]
  rfl
theorem outOr_ok {F : Nat} {D : Mm} : bi (P_X7_outputOr (gN XG) F 0 D) (fun r D => some (r, D)) = some (D 67 1, D) := by
  unfold P_X7_outputOr
  rw [if_pos rfl]
  rfl
theorem list_go {F : Nat} (hF : 9000 ≤ F) : ∀ (m k n fm t s : Nat) (D E : Mm), k + m = 7 → 1 ≤ m → m < n → m < fm → Vd t s → ¬ D 2 3 = -1 → Core D E → Stt D E → D 58 3 = nI t → D 58 4 = nI s → D 58 5 = nI (k + 1) → E 0 23 = nI k → E 0 24 = -1 → OX (eall (E 10) k) D → ∃ (x b' : Int32) (D1 E1 : Mm), bi (P_X0_fetch (gN XG) F 59 (nI t) (nI s) D) (fun r D' => P_X7_list_27 (gN XG) F n r (nI k) D') = some (x, D1) ∧ P_X8_readDirectory_17 (gN MG) F fm 0 0 0 (nI t) (nI s) E = some (b', E1) ∧ LsEnd D E D1 E1 x b' := by
  intro m
  induction m with
  | zero => intro k n fm t s D E hm h; exact absurd h (by decide)
  | succ m ih =>
    intro k n fm t s D E hm _ hn hfm hv hid hc hst h3 h4 h5 h23 h24 hox
    obtain ⟨n, rfl⟩ : ∃ z, n = z + 1 := ⟨n - 1, by omega⟩
    obtain ⟨fm, rfl⟩ : ∃ z, fm = z + 1 := ⟨fm - 1, by omega⟩
    obtain ⟨e, D1, p1, p2, p3⟩ := dread_sim (F := F) (n := fm) (x1 := 0) (a := 0) (b := 0) hF (show k < 7 by omega) hv hid hc h23
    rw [p1, bi_s]
    have e7 : ¬ (7 : Int32) ≤ nI k := nI_ge (b := 7) (by omega) (by omega)
    have dx1 : DX [58, 59, 67, 68] D D1 := p2.mono (by decide)
    have zx : ∀ D, DX [58, 59, 67, 68] D (up2 D 67 1 0) := fun D => ⟨by rw [up2_o (by decide)], fun c _ v => up2_o (fun q => v (by rw [q]; decide))⟩
    have zc : ∀ {D E : Mm}, Core D E → Core (up2 D 67 1 0) E := fun c => c.ups (fun c a b => up2_o (by omega)) (fun _ _ _ => rfl) (fun _ _ => rfl)
    have zs : ∀ {D E : Mm}, Stt D E → Stt (up2 D 67 1 0) E := fun {D E} s => by
      unfold Stt at s ⊢
      rw [up2_o (by decide)]
      exact s
    rcases p3 with ⟨z1, q1, E1, q2, q3, q4, q5⟩ | ⟨rfl, E1, q1, q2, q3, q4, q5, q6, q7, q8, q9, q10, q11⟩
    · refine ⟨-1, 0, up2 D1 67 1 0, E1, ?_, q2, zc q3, zs q4, dx1.trans (zx _), q5, Or.inl ⟨rfl, rfl, OX.zero D1⟩⟩
      show (if (7 : Int32) ≤ nI k then _ else (if e = 0 then _ else (bi (P_X7_outputOr (gN XG) F e D1) (fun r4 D4 => some (r4, D4))))) = _
      rw [if_neg e7, if_neg z1, outOr_bad z1]
    · have ox1 : OX (eall (E1 10) k) D1 := by
        rw [eall_congr k q8]
        exact hox.keep (p2.2 67 (by decide) (by decide)) (p2.2 68 (by decide) (by decide))
      have hlen := eall_len (E1 10) k
      obtain ⟨D2, a1, a2, a3⟩ := addE_go (F := F) hF 5 F 0 _ D1 (by decide) (by omega) ox1 (by omega) (fun j hj => (q7 j hj).2.2)
      have a1' : P_X3_addEntries (gN XG) F D1 = some (0, D2) := a1
      rw [ents_congr (f := D1 59) (g := fun j => E1 10 (64 * k + j)) (fun j hj => (q7 j hj).2.1.symm) 5 0 (by decide)] at a2
      have ox2 : OX (eall (E1 10) (k + 1)) D2 := a2
      have n1 : P_X7_list_27 (gN XG) F (n + 1) 0 (nI k) D1 = (bi (P_X3_isLast (gN XG) F D2) (fun r6 D6 => if r6 = 0 then (bi (P_X3_step (gN XG) F D6) (fun r8 D8 => P_X7_list_27 (gN XG) F n r8 (nI (k + 1)) D8)) else (bi (P_X7_outputOr (gN XG) F 0 D6) (fun r9 D9 => some (r9, D9))))) := by
        show (if (7 : Int32) ≤ nI k then _ else (if (0 : Int32) = 0 then (bi (P_X3_addEntries (gN XG) F D1) (fun r5 D5 => bi (P_X3_isLast (gN XG) F D5) (fun r6 D6 => if r6 = 0 then (bi (P_X3_step (gN XG) F D6) (fun r8 D8 => P_X7_list_27 (gN XG) F n r8 (nI k + 1) D8)) else (bi (P_X7_outputOr (gN XG) F 0 D6) (fun r9 D9 => some (r9, D9)))))) else _)) = _
        rw [if_neg e7, if_pos rfl, nI_1, a1', bi_s]
      have m1 : P_X8_readDirectory_128 (gN MG) F (fun x1 x2 x3 x4 x5 D => P_X8_readDirectory_17 (gN MG) F fm x1 x2 x3 x4 x5 D) F 0 0 0 (nI t) (nI s) (nI (64 * k)) (nI 2) E1 = P_X8_readDirectory_185 (gN MG) F (fun x1 x2 x3 x4 x5 D => P_X8_readDirectory_17 (gN MG) F fm x1 x2 x3 x4 x5 D) 0 0 0 (nI t) (nI s) E1 := by
        obtain ⟨f, hf⟩ : ∃ z, F = z + 1 := ⟨F - 1, by omega⟩
        have key : ∀ G, P_X8_readDirectory_128 (gN MG) G (fun x1 x2 x3 x4 x5 D => P_X8_readDirectory_17 (gN MG) F fm x1 x2 x3 x4 x5 D) (f + 1) 0 0 0 (nI t) (nI s) (nI (64 * k)) (nI 2) E1 = P_X8_readDirectory_185 (gN MG) G (fun x1 x2 x3 x4 x5 D => P_X8_readDirectory_17 (gN MG) F fm x1 x2 x3 x4 x5 D) 0 0 0 (nI t) (nI s) E1 := by
          intro G
          show (if (62 : Int32) ≤ nI 2 then _ else (if (0 : Int32) = 0 then _ else _)) = _
          rw [if_neg (by decide), if_pos rfl]
        have := key F
        rw [← hf] at this
        exact this
      rw [n1, q1, m1]
      have w59 : D2 59 = D1 59 := a3 59 (by decide) (by decide)
      have w58 : D2 58 = D 58 := (a3 58 (by decide) (by decide)).trans (p2.2 58 (by decide) (by decide))
      have c2 : Core D2 E1 := q2.ups (fun c u v => a3 c (by omega) (by omega)) (fun _ _ _ => rfl) (fun _ _ => rfl)
      have st2 : Stt D2 E1 := by
        have := q3.stt hst
        unfold Stt at this ⊢
        rw [a3 1 (by decide) (by decide)]
        exact this
      have dx2 : DX [58, 59, 67, 68] D D2 := dx1.trans ⟨by rw [a3 2 (by decide) (by decide)], fun c u v => a3 c (fun q => v (by rw [q]; decide)) (fun q => v (by rw [q]; decide))⟩
      obtain ⟨ml, mm⟩ := m185_eq (F := F) (x1 := 0) (a := 0) (b := 0) (x4 := nI t) (x5 := nI s) (K := fun x1 x2 x3 x4 x5 D => P_X8_readDirectory_17 (gN MG) F fm x1 x2 x3 x4 x5 D) (E := E1) (by rw [q6]; exact h24)
      obtain ⟨xl, xm⟩ := isLast_eq (F := F) (D := D2)
      have row8 : ∀ j, j < 64 → E1 8 j = D2 59 j := fun j hj => by rw [w59]; exact (q7 j hj).1
      by_cases cl : D2 59 0 = 0 ∧ D2 59 1 = 0
      · rw [xl cl, bi_s, if_neg (by decide), ml (by rw [row8 0 (by omega), row8 1 (by omega)]; exact cl), outOr_ok, ox2.2.1]
        exact ⟨_, 1, D2, E1, rfl, rfl, c2, st2, dx2, q4, Or.inr ⟨rfl, k + 1, by omega, q5, ox2, rfl⟩⟩
      · rw [xm cl, bi_s, if_pos rfl, mm (by rw [row8 0 (by omega), row8 1 (by omega)]; exact cl)]
        rcases step_sim (F := F) (x1 := 0) (a := 0) (b := 0) (K := fun x1 x2 x3 x4 x5 D => P_X8_readDirectory_17 (gN MG) F fm x1 x2 x3 x4 x5 D) (show k < 7 by omega) row8 (by rw [w58]; exact h3) (by rw [w58]; exact h4) (by rw [w58]; exact h5) q5 with ⟨s1, s2⟩ | ⟨hk6, t', s', v', s1, s2⟩
        · rw [s1, s2, bi_s]
          obtain ⟨n, rfl⟩ : ∃ z, n = z + 1 := ⟨n - 1, by omega⟩
          refine ⟨-1, 0, up2 (tX 66 (nI t) (nI s) D2) 67 1 0, tM 66 (nI t) (nI s) E1, ?_, rfl, zc (t_core c2), zs t_stt, (dx2.trans (tX_dx _)).trans (zx _), q4.trans (tM_dm _ _), Or.inl ⟨rfl, rfl, OX.zero _⟩⟩
          show (if (7 : Int32) ≤ nI (k + 1) then (bi (P_X7_outputOr (gN XG) F 66 (tX 66 (nI t) (nI s) D2)) (fun r2 D2 => some (r2, D2))) else (if (66 : Int32) = 0 then _ else (bi (P_X7_outputOr (gN XG) F 66 (tX 66 (nI t) (nI s) D2)) (fun r4 D4 => some (r4, D4))))) = _
          rw [if_neg (show ¬ ((66 : Int32) = 0) by decide), ite_self, outOr_bad (by decide)]
        · rw [s1, s2]
          obtain ⟨D3, hD3⟩ : ∃ z, z = up2 (up2 (up2 D2 58 5 (nI (k + 2))) 58 3 (nI t')) 58 4 (nI s') := ⟨_, rfl⟩
          rw [← hD3]
          have x : ∀ c, c ≠ 58 → D3 c = D2 c := fun c hc => by rw [hD3, up2_o hc, up2_o hc, up2_o hc]
          have dx3 : DX [58, 59, 67, 68] D D3 := dx2.trans ⟨by rw [x 2 (by decide)], fun c u v => x c (fun q => v (by rw [q]; decide))⟩
          have bb : ∀ z : Rs, bi (bi z (fun r2 D2 => some (r2, D2))) (fun r8 D8 => P_X7_list_27 (gN XG) F n r8 (nI (k + 1)) D8) = bi z (fun r8 D8 => P_X7_list_27 (gN XG) F n r8 (nI (k + 1)) D8) := by
            intro z
            cases z with
            | none => rfl
            | some w => rfl
          rw [bb]
          obtain ⟨e, b', D4, E4, w1', w2', w3, w4, w5, w6, w7⟩ := ih (k + 1) n fm t' s' D3 E1 (by omega) (by omega) (by omega) (by omega) v' (by rw [dx3.1]; exact hid) (c2.ups (fun c u v => x c (by omega)) (fun _ _ _ => rfl) (fun _ _ => rfl)) (by unfold Stt at st2 ⊢; rw [x 1 (by decide)]; exact st2) (by rw [hD3, up2_app, if_neg (by omega), up2_app, if_pos ⟨rfl, rfl⟩]) (by rw [hD3, up2_app, if_pos ⟨rfl, rfl⟩]) (by rw [hD3, up2_app, if_neg (by omega), up2_app, if_neg (by omega), up2_app, if_pos ⟨rfl, rfl⟩]) q5 (by rw [q6]; exact h24) (ox2.keep (x _ (by decide)) (x _ (by decide)))
          exact ⟨e, b', D4, E4, w1', w2', w3, w4, dx3.trans w5, q4.trans w6, w7⟩
theorem sim_list {F : Nat} (hF : 9000 ≤ F) : Sim_list Rel F := by
  intro Dx Dm h
  obtain ⟨hc, hid, hst, htp, hou, h69, hsm⟩ := id h
  obtain ⟨X, hX⟩ : ∃ z, z = up2 Dx 67 1 0 := ⟨_, rfl⟩
  obtain ⟨M, hM⟩ : ∃ z, z = up2 Dm 0 8 0 := ⟨_, rfl⟩
  have gx : ∀ c, c ≠ 67 → X c = Dx c := fun c q => by rw [hX, up2_o q]
  have gm : ∀ c, c ≠ 0 → M c = Dm c := fun c q => by rw [hM, up2_o q]
  have gm0 : ∀ k, k ≠ 8 → M 0 k = Dm 0 k := fun k q => by rw [hM, up2_app, if_neg (by omega)]
  have hc0 : Core X M := hc.ups (fun c a b => gx c (by omega)) (fun c a b => gm c (by omega)) (fun k hk => gm0 k (by omega))
  have ox : OX [] X := by rw [hX]; exact OX.zero Dx
  have om : OM [] M := by rw [hM]; exact OM.zero Dm
  obtain ⟨e, b0, D1, E1, p1, p2, p3, p4, p5, p6, p7, p8⟩ := open_sim (F := F) hF hc0 (by rw [gx 2 (by decide)]; exact hid)
  unfold P_X7_list P_X8_list
  rw [← hX, ← hM, p1, bi_s, p2, bi_s]
  have ox1 := ox.keep (p6.2 67 (by decide) (by decide)) (p6.2 68 (by decide) (by decide))
  have om1 := om.keep (p7.2 8 (by decide) (by decide)) (p7.1 6 (by decide) (by decide) (by decide) (by decide))
  have fin : ∀ (D E : Mm) (l : List Int32), Core D E → Stt D E → DX [57, 58, 59, 67, 68] X D → DM [6, 9, 10, 11, 12] [8, 23, 24, 25] M E → OX l D → OM l E → Rel D E := by
    intro D E l c s dx dm o1 o2
    exact h.asm c (by rw [dx.1, gx 2 (by decide)]) (fun c hc => by rw [dx.2 c (by omega) (by rcases hc with q | q | q <;> rw [q] <;> decide), gx c (by omega)]) s (htp.keep (by rw [dx.2 65 (by decide) (by decide), gx 65 (by decide)]) (by rw [dx.2 66 (by decide) (by decide), gx 66 (by decide)]) (by rw [dm.2 6 (by decide) (by decide), gm0 6 (by decide)]) (by rw [dm.1 5 (by decide) (by decide) (by decide) (by decide), gm 5 (by decide)])) (o1.ou o2)
  have dx1 : DX [57, 58, 59, 67, 68] X D1 := p6.mono (by decide)
  have dm1 : DM [6, 9, 10, 11, 12] [8, 23, 24, 25] M E1 := p7.mono (by decide) (by decide)
  have zx : ∀ D, DX [57, 58, 59, 67, 68] D (up2 D 67 1 0) := fun D => ⟨by rw [up2_o (by decide)], fun c _ v => up2_o (fun q => v (by rw [q]; decide))⟩
  have zc : ∀ {D E : Mm}, Core D E → Core (up2 D 67 1 0) E := fun c => c.ups (fun c a b => up2_o (by omega)) (fun _ _ _ => rfl) (fun _ _ => rfl)
  have zs : ∀ {D E : Mm}, Stt D E → Stt (up2 D 67 1 0) E := fun {D E} s => by
    unfold Stt at s ⊢
    rw [up2_o (by decide)]
    exact s
  rcases p8 with ⟨rfl, rfl, i1, i2⟩ | ⟨z1, rfl⟩
  · rw [if_pos rfl, if_neg (by decide)]
    obtain ⟨D2, hD2⟩ : ∃ z, z = up2 (up2 (up2 (up2 (up2 (up2 D1 58 6 (-1)) 58 7 (-1)) 58 11 0) 58 5 1) 58 3 9) 58 4 1 := ⟨_, rfl⟩
    obtain ⟨E2, hE2⟩ : ∃ z, z = up2 (up2 E1 0 23 0) 0 24 (-1) := ⟨_, rfl⟩
    have x : ∀ c, c ≠ 58 → D2 c = D1 c := fun c q => by rw [hD2, up2_o q, up2_o q, up2_o q, up2_o q, up2_o q, up2_o q]
    have y : ∀ c, c ≠ 0 → E2 c = E1 c := fun c q => by rw [hE2, up2_o q, up2_o q]
    have y0 : ∀ j, j ≠ 23 → j ≠ 24 → E2 0 j = E1 0 j := fun j u v => by rw [hE2, up2_app, if_neg (by omega), up2_app, if_neg (by omega)]
    have x3 : D2 58 3 = nI 9 := by rw [hD2, up2_app, if_neg (by omega), up2_app, if_pos ⟨rfl, rfl⟩]; rfl
    have x4 : D2 58 4 = nI 1 := by rw [hD2, up2_app, if_pos ⟨rfl, rfl⟩]; rfl
    have x5 : D2 58 5 = nI (0 + 1) := by rw [hD2]; simp [up2_app]; rfl
    have y23 : E2 0 23 = nI 0 := by rw [hE2, up2_app, if_neg (by omega), up2_app, if_pos ⟨rfl, rfl⟩]; rfl
    have y24 : E2 0 24 = -1 := by rw [hE2, up2_app, if_pos ⟨rfl, rfl⟩]
    have ex : bi (P_X3_begin (gN XG) F D1) (fun r10 D10 => P_X7_list_27 (gN XG) F F r10 0 D10) = bi (P_X0_fetch (gN XG) F 59 (nI 9) (nI 1) D2) (fun r D' => P_X7_list_27 (gN XG) F F r (nI 0) D') := by
      show bi (bi (P_X0_fetch (gN XG) F 59 ((up2 (up2 (up2 (up2 (up2 (up2 D1 58 6 (-1)) 58 7 (-1)) 58 11 0) 58 5 1) 58 3 9) 58 4 1) 58 3) ((up2 (up2 (up2 (up2 (up2 (up2 D1 58 6 (-1)) 58 7 (-1)) 58 11 0) 58 5 1) 58 3 9) 58 4 1) 58 4) (up2 (up2 (up2 (up2 (up2 (up2 D1 58 6 (-1)) 58 7 (-1)) 58 11 0) 58 5 1) 58 3 9) 58 4 1)) (fun r1 D1 => some (r1, D1))) (fun r10 D10 => P_X7_list_27 (gN XG) F F r10 0 D10) = _
      rw [← hD2, x3, x4]
      cases P_X0_fetch (gN XG) F 59 (nI 9) (nI 1) D2 with
      | none => rfl
      | some w => rfl
    have em : P_X8_readDirectory (gN MG) F 0 0 0 E1 = P_X8_readDirectory_17 (gN MG) F F 0 0 0 (nI 9) (nI 1) E2 := by rw [hE2]; rfl
    have c2 : Core D2 E2 := p3.ups (fun c u v => x c (by omega)) (fun c u v => y c (by omega)) (fun j hj => y0 j (by omega) (by omega))
    have st2 : Stt D2 E2 := by
      unfold Stt at p4 ⊢
      rw [x 1 (by decide), y0 9 (by decide) (by decide), y0 10 (by decide) (by decide), y0 11 (by decide) (by decide)]
      exact p4
    obtain ⟨x', b', D3, E3, w1, w2, w3, w4, w5, w6, w7⟩ := list_go (F := F) hF 7 0 F F 9 1 D2 E2 (by decide) (by decide) (by omega) (by omega) ⟨by decide, by decide, by decide⟩ (by rw [x 2 (by decide)]; exact i1) c2 st2 x3 x4 x5 y23 y24 (ox1.keep (x _ (by decide)) (x _ (by decide)))
    have dx : DX [57, 58, 59, 67, 68] X D3 := (dx1.trans ⟨by rw [x 2 (by decide)], fun c u v => x c (fun q => v (by rw [q]; decide))⟩).trans (w5.mono (by decide))
    have dm : DM [6, 9, 10, 11, 12] [8, 23, 24, 25] M E3 := (dm1.trans ⟨fun c u _ _ _ => y c (by omega), fun j _ v => y0 j (fun q => v (by rw [q]; decide)) (fun q => v (by rw [q]; decide))⟩).trans (w6.mono (by decide) (by decide))
    have om3 : OM [] E3 := om1.keep (by rw [w6.2 8 (by decide) (by decide), y0 8 (by decide) (by decide)]) (by rw [w6.1 6 (by decide) (by decide) (by decide) (by decide), y 6 (by decide)])
    rw [ex, w1, em, w2, bi_s]
    rcases w7 with ⟨rfl, rfl, o1⟩ | ⟨rfl, d, hd, h23, o1, rfl⟩
    · rw [if_pos rfl]
      exact ⟨-1, D3, E3, rfl, rfl, fin D3 E3 [] w3 w4 dx dm o1 om3⟩
    · rw [if_neg (by decide)]
      obtain ⟨E4, v1, v2, v3⟩ := l26_go (F := F) hF hd d F 0 E3 (by omega) (by omega) om3 h23
      have v1' : P_X8_list_26 (gN MG) F F 0 E3 = _ := v1
      rw [v1']
      refine ⟨_, D3, E4, rfl, rfl, fin D3 E4 _ (w3.ups (fun _ _ _ => rfl) (fun c a b => v3.1 c (by omega) (by omega)) (fun k hk => v3.2 k (by omega))) ?_ dx (dm.trans ⟨fun c u _ _ v => v3.1 c (by omega) (fun q => v (by rw [q]; decide)), fun j _ v => v3.2 j (fun q => v (by rw [q]; decide))⟩) o1 v2⟩
      unfold Stt at w4 ⊢
      rw [v3.2 9 (by decide), v3.2 10 (by decide), v3.2 11 (by decide)]
      exact w4
  · rw [if_neg z1, if_pos rfl]
    have ex : P_X7_list_27 (gN XG) F F e 0 D1 = some (-1, up2 D1 67 1 0) := by
      obtain ⟨f, hf⟩ : ∃ z, F = z + 1 := ⟨F - 1, by omega⟩
      have key : ∀ G, P_X7_list_27 (gN XG) G (f + 1) e 0 D1 = some (-1, up2 D1 67 1 0) := by
        intro G
        show (if (7 : Int32) ≤ 0 then _ else (if e = 0 then _ else (bi (P_X7_outputOr (gN XG) G e D1) (fun r4 D4 => some (r4, D4))))) = _
        rw [if_neg (by decide), if_neg z1, outOr_bad z1]
      have := key F
      rw [← hf] at this
      exact this
    rw [ex]
    exact ⟨-1, _, E1, rfl, rfl, fin _ E1 [] (zc p3) (zs p4) (dx1.trans (zx _)) dm1 (OX.zero D1) om1⟩
