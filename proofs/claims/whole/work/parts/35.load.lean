/-! LOAD: the file that was looked for -/
theorem file_sim {F u : Nat} {x : Int32} {D E : Mm} (hF : 9000 ≤ F) (hid : ¬ D 2 3 = -1) (hc : Core D E) (hst : Stt D E) (h0 : D 1 0 = 0) (hfn : Fnd D E ∨ NFnd D E) (hem : Emit u x D E [] D E) : ∃ (e b' : Int32) (D1 E1 : Mm), P_X2_follow (gN XG) F u D = some (e, D1) ∧ (if 0 ≤ (E 0 24) then (if inB (E 0 24) (gN MG 11) = true then (P_X8_readFile_54 (gN MG) F x (E 11 (Int32.toNatClampNeg (E 0 24))) E) else none) else (bi (P_X8_ends (gN MG) F 62 0 0 E) (fun r41 D41 => if r41 = 0 then (some (1, D41)) else (some (0, D41))))) = some (b', E1) ∧ FlEnd u x D E D E D1 E1 e b' ∧ (e = 0 → Fnd D E) := by
  have n59 : gN XG 59 = 64 := rfl
  have n10 : gN MG 10 = 448 := rfl
  have n11 : gN MG 11 = 7 := rfl
  have n12 : gN MG 12 = 7 := rfl
  obtain ⟨D2, hD2⟩ : ∃ z, z = up2 D 61 4 0 := ⟨_, rfl⟩
  have x2 : ∀ c, c ≠ 61 → D2 c = D c := fun c hc => by rw [hD2, up2_o hc]
  have x4 : D2 61 4 = nI 0 := by rw [hD2, up2_app, if_pos ⟨rfl, rfl⟩]; rfl
  have dx2 : DX [61, 62, 63, 64, 67, 68] D D2 := ⟨by rw [x2 2 (by decide)], fun c _ v => x2 c (fun q => v (by rw [q]; decide))⟩
  unfold P_X2_follow
  rw [← hD2, x2 58 (by decide), x2 59 (by decide)]
  rcases hfn with hf | hf
  · obtain ⟨k, i, t, s, hk, hi, hv, a1, a2, a3, a4, a5, a6, a7, a8⟩ := id hf
    rw [a1, a2, if_neg (nI_nm1 (by omega)), if_pos (show (0 : Int32) ≤ nI k from nI_le (a := 0) (by omega) (by omega)), n11, n59, if_pos (in_nI (by omega) (by omega)), nI_clamp (by omega), a6, show nI (2 + 12 * i) + (1 : Int32) = nI (2 + 12 * i + 1) from nI_add _ 1, if_pos (in_nI (by omega) (by omega)), nI_clamp (by omega)]
    unfold P_X2_follow_37 P_X2_follow_50 P_X8_readFile_54 P_X8_readFile_65 P_X8_readFile_78 P_X8_readFile_91
    obtain ⟨E2, hE2⟩ : ∃ z, z = up2 E 0 28 0 := ⟨_, rfl⟩
    rw [← hE2, x2 58 (by decide), x2 59 (by decide), a1, a2, a3, n10, n12, n59, show nI (2 + 12 * i) + (2 : Int32) = nI (2 + 12 * i + 2) from nI_add _ 2, show nI (64 * k + (2 + 12 * i)) + (2 : Int32) = nI (64 * k + (2 + 12 * i) + 2) from nI_add _ 2, show nI (64 * k + (2 + 12 * i)) + (1 : Int32) = nI (64 * k + (2 + 12 * i) + 1) from nI_add _ 1, if_pos (in_nI (by omega) (by omega)), if_pos (in_nI (by omega) (by omega)), if_pos (in_nI (by omega) (by omega)), if_pos (in_nI (by omega) (by omega)), nI_clamp (by omega), nI_clamp (by omega), nI_clamp (by omega), nI_clamp (by omega), a7, show 64 * k + (2 + 12 * i) + 1 = 64 * k + (2 + 12 * i + 1) by omega, show 64 * k + (2 + 12 * i) + 2 = 64 * k + (2 + 12 * i + 2) by omega, (a8 _ (by omega)).1, (a8 _ (by omega)).1]
    have y2 : ∀ c, c ≠ 0 → E2 c = E c := fun c hc => by rw [hE2, up2_o hc]
    have y20 : ∀ j, j ≠ 28 → E2 0 j = E 0 j := fun j hj => by rw [hE2, up2_app, if_neg (by omega)]
    have y28 : E2 0 28 = nI 0 := by rw [hE2, up2_app, if_pos ⟨rfl, rfl⟩]; rfl
    have dm2 : DM [6, 13, 14] [8, 28] E E2 := ⟨fun c u _ _ _ => y2 c (by omega), fun j _ v => y20 j (fun q => v (by rw [q]; decide))⟩
    have c2 : Core D2 E2 := hc.ups (fun c a b => x2 c (by omega)) (fun c a b => y2 c (by omega)) (fun j hj => y20 j (by omega))
    have st2 : Stt D2 E2 := by
      unfold Stt at hst ⊢
      rw [x2 1 (by decide), y20 9 (by decide), y20 10 (by decide), y20 11 (by decide)]
      exact hst
    have em2 : Emit u x D E [] D2 E2 := hem.keep (x2 _ (by decide)) (x2 _ (by decide)) (x2 _ (by decide)) (y20 _ (by decide)) (y2 _ (by decide))
    rcases block_cases (D 59 (2 + 12 * i + 1)) (D 59 (2 + 12 * i + 2)) with ⟨t', s', h1', ht', hs', f0, f1⟩ | nb
    · rw [f0, f1, xisBlock_eq D2 h1' ht' hs', bi_s, if_neg (by decide)]
      obtain ⟨e, b', D3, E3, v1, v2, v3, v4, v5, v6, v7, v8⟩ := follow_go (F := F) (u := u) (x := x) (D0 := D) (E0 := E) hF 40 0 F F t' s' (nI t) (nI s) D2 E2 [] (by decide) (by decide) (by omega) (by omega) ⟨h1', ht', hs'⟩ (by rw [x2 2 (by decide)]; exact hid) c2 st2 (by rw [x2 1 (by decide)]; exact h0) ⟨by decide, x4, y28, fun j hj => by omega⟩ em2 (by decide)
      exact ⟨e, b', D3, E3, v1, v2, ⟨v3, v4, v5, dx2.trans v6, dm2.trans v7, v8⟩, fun _ => hf⟩
    · rw [nb.1, bi_s, if_pos rfl, x2 58 (by decide), a4, a5]
      obtain ⟨f, hfe⟩ : ∃ z, F = z + 1 := ⟨F - 1, by omega⟩
      have em : P_X8_readFile_96 (gN MG) F F x (nI t) (nI s) (D 59 (2 + 12 * i + 1)) (D 59 (2 + 12 * i + 2)) E2 = some (0, tM 66 (nI t) (nI s) E2) := by
        have key : ∀ G, P_X8_readFile_96 (gN MG) G (f + 1) x (nI t) (nI s) (D 59 (2 + 12 * i + 1)) (D 59 (2 + 12 * i + 2)) E2 = some (0, tM 66 (nI t) (nI s) E2) := by
          intro G
          show bi (P_X8_isBlock (gN MG) G (D 59 (2 + 12 * i + 1)) (D 59 (2 + 12 * i + 2)) E2) _ = _
          rw [nb.2, bi_s, if_pos rfl]
          exact ends_neg (by decide)
        have := key F
        rw [← hfe] at this
        exact this
      rw [em]
      refine ⟨66, 0, tX 66 (nI t) (nI s) D2, _, rfl, rfl, ⟨t_core c2, t_stt, tX_0, dx2.trans (tX_dx _), dm2.trans (tM_dm _ _), Or.inl ⟨by decide, rfl, fun hu => ?_⟩⟩, fun q => absurd q (by decide)⟩
      exact ⟨by rw [tX_o (by decide)]; exact x2 67 (by decide), by rw [tX_o (by decide)]; exact x2 68 (by decide), by rw [tM_0 (by decide)]; exact y20 8 (by decide), by rw [tM_o (by decide)]; exact y2 6 (by decide)⟩
  · obtain ⟨d, t, s, hd, hv, a1, a2, _⟩ := id hf
    rw [a1, if_pos rfl, a2, if_neg (by decide), ends_neg (by decide)]
    have c2 : Core D2 E := hc.ups (fun c a b => x2 c (by omega)) (fun _ _ _ => rfl) (fun _ _ => rfl)
    refine ⟨62, 0, tX 62 0 0 D2, _, rfl, rfl, ⟨t_core c2, t_stt, tX_0, dx2.trans (tX_dx _), tM_dm _ _, Or.inl ⟨by decide, rfl, fun hu => ?_⟩⟩, fun q => absurd q (by decide)⟩
    exact ⟨by rw [tX_o (by decide)]; exact x2 67 (by decide), by rw [tX_o (by decide)]; exact x2 68 (by decide), tM_0 (by decide), tM_o (by decide)⟩
theorem sim_load {F : Nat} (hF : 9000 ≤ F) : Sim_load Rel F := by
  intro Dx Dm a1 a2 h
  obtain ⟨hc, hid, hst, htp, hou, h69, hsm⟩ := id h
  obtain ⟨X, hX⟩ : ∃ z, z = up2 Dx 67 1 0 := ⟨_, rfl⟩
  obtain ⟨M, hM⟩ : ∃ z, z = up2 Dm 0 8 0 := ⟨_, rfl⟩
  have gx : ∀ c, c ≠ 67 → X c = Dx c := fun c q => by rw [hX, up2_o q]
  have gm : ∀ c, c ≠ 0 → M c = Dm c := fun c q => by rw [hM, up2_o q]
  have gm0 : ∀ k, k ≠ 8 → M 0 k = Dm 0 k := fun k q => by rw [hM, up2_app, if_neg (by omega)]
  have hc0 : Core X M := hc.ups (fun c a b => gx c (by omega)) (fun c a b => gm c (by omega)) (fun k hk => gm0 k (by omega))
  have ox : OX [] X := by rw [hX]; exact OX.zero Dx
  have om : OM [] M := by rw [hM]; exact OM.zero Dm
  obtain ⟨e, D1, E1, p1, p2, p3, p4, p5, p6, p7⟩ := look_sim (F := F) (a := a1) (b := a2) hF hc0 (by rw [gx 2 (by decide)]; exact hid)
  unfold P_X7_load P_X8_load P_X8_readFile
  rw [← hX, ← hM, p1, bi_s]
  -- the end of both, when something failed
  have bad : ∀ (D E : Mm) (l k : List Nat), Core D E → Stt D E → DX [57, 58, 59, 60, 61, 62, 63, 64, 67, 68] X D → DM [6, 9, 10, 11, 12, 13, 14] [8, 23, 24, 25, 28] M E → Rel (up2 D 67 1 0) (up2 E 0 8 0) := by
    intro D E l k c s dx dm
    refine h.asm (c.ups (fun c a b => up2_o (by omega)) (fun c a b => up2_o (by omega)) (fun k hk => by rw [up2_app, if_neg (by omega)])) (by rw [up2_o (by decide), dx.1, gx 2 (by decide)]) (fun c hc => by rw [up2_o (by omega), dx.2 c (by omega) (by rcases hc with q | q | q <;> rw [q] <;> decide), gx c (by omega)]) ?_ (htp.keep (by rw [up2_o (by decide), dx.2 65 (by decide) (by decide), gx 65 (by decide)]) (by rw [up2_o (by decide), dx.2 66 (by decide) (by decide), gx 66 (by decide)]) (by rw [up2_app, if_neg (by omega), dm.2 6 (by decide) (by decide), gm0 6 (by decide)]) (by rw [up2_o (by decide), dm.1 5 (by decide) (by decide) (by decide) (by decide), gm 5 (by decide)])) ((OX.zero D).ou (OM.zero E))
    unfold Stt at s ⊢
    rw [up2_o (by decide), up2_app, if_neg (by omega), up2_app, if_neg (by omega), up2_app, if_neg (by omega)]
    exact s
  rcases p7 with ⟨z1, p8⟩ | ⟨rfl, p8, i1, _, _, hfn⟩
  · rw [if_neg z1, p8, bi_s, if_pos rfl]
    unfold P_X7_outputOr
    rw [if_neg z1]
    exact ⟨_, _, _, rfl, rfl, bad D1 E1 [] [] p2 p3 (p5.mono (by decide)) (p6.mono (by decide) (by decide))⟩
  · rw [if_pos rfl, p8]
    have ox1 := ox.keep (p5.2 67 (by decide) (by decide)) (p5.2 68 (by decide) (by decide))
    have om1 := om.keep (p6.2 8 (by decide) (by decide)) (p6.1 6 (by decide) (by decide) (by decide) (by decide))
    obtain ⟨e, b', D2, E2, q1, q2, ⟨q3, q4, q5, q6, q7, q8⟩, _⟩ := file_sim (F := F) (u := 67) (x := 1) hF i1 p2 p3 p4 hfn (Or.inl ⟨rfl, rfl, ox1, om1⟩)
    rw [q1, bi_s, q2, bi_s]
    unfold P_X7_outputOr
    have dx : DX [57, 58, 59, 60, 61, 62, 63, 64, 67, 68] X D2 := (p5.mono (by decide)).trans (q6.mono (by decide))
    have dm : DM [6, 9, 10, 11, 12, 13, 14] [8, 23, 24, 25, 28] M E2 := (p6.mono (by decide) (by decide)).trans (q7.mono (by decide) (by decide))
    rcases q8 with ⟨z1, rfl, _⟩ | ⟨rfl, rfl, ⟨l, hl⟩, _⟩
    · rw [if_neg z1, if_pos rfl]
      exact ⟨_, _, _, rfl, rfl, bad D2 E2 [] [] q3 q4 dx dm⟩
    · rw [if_pos rfl, if_neg (show ¬ ((1 : Int32) = 0) by decide)]
      rcases hl with ⟨_, _, o1, o2⟩ | ⟨q, _⟩
      · rw [o1.2.1, o2.2.1]
        refine ⟨nI l.length, D2, E2, rfl, rfl, h.asm q3 (by rw [dx.1, gx 2 (by decide)]) (fun c hc => by rw [dx.2 c (by omega) (by rcases hc with q | q | q <;> rw [q] <;> decide), gx c (by omega)]) q4 (htp.keep (by rw [dx.2 65 (by decide) (by decide), gx 65 (by decide)]) (by rw [dx.2 66 (by decide) (by decide), gx 66 (by decide)]) (by rw [dm.2 6 (by decide) (by decide), gm0 6 (by decide)]) (by rw [dm.1 5 (by decide) (by decide) (by decide) (by decide), gm 5 (by decide)])) (o1.ou o2)⟩
      · exact absurd q (by decide)
