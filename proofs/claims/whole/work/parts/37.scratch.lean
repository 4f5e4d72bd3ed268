/-! SCRATCH -/
theorem sim_scratch {F : Nat} (hF : 9000 ≤ F) : Sim_scratch Rel F := by
  intro Dx Dm a1 a2 h
  obtain ⟨hc, hid, hst, htp, hou, h69, hsm⟩ := id h
  obtain ⟨e, D1, E1, p1, p2, p3, p4, p5, p6, p7⟩ := look_sim (F := F) (a := a1) (b := a2) hF hc hid
  unfold P_X7_scratch P_X8_scratch P_X8_scratches P_X8_readFile
  rw [p1, bi_s]
  have fin : ∀ (D E : Mm), Core D E → Stt D E → DX [57, 58, 59, 60, 61, 62, 63, 64, 67, 68] Dx D → DM [6, 9, 10, 11, 12, 13, 14] [8, 23, 24, 25, 28] Dm E → Same Dx Dm D E → Rel D E := by
    intro D E c s dx dm sm
    exact h.asm c dx.1 (fun c hc => dx.2 c (by omega) (by rcases hc with q | q | q <;> rw [q] <;> decide)) s (htp.keep (dx.2 65 (by decide) (by decide)) (dx.2 66 (by decide) (by decide)) (dm.2 6 (by decide) (by decide)) (dm.1 5 (by decide) (by decide) (by decide) (by decide))) (hou.keep sm.1 sm.2.1 sm.2.2.1 sm.2.2.2)
  have f39 : ∀ (e : Int32) (D : Mm), ¬ e = 0 → P_X7_scratch_39 (gN XG) F e D = some (e, D) := by
    intro e D z
    unfold P_X7_scratch_39 P_X7_scratch_72
    rw [if_neg z, if_neg z]
  have sm1 : Same Dx Dm D1 E1 := ⟨p5.2 67 (by decide) (by decide), p5.2 68 (by decide) (by decide), p6.2 8 (by decide) (by decide), p6.1 6 (by decide) (by decide) (by decide) (by decide)⟩
  have dx1 : DX [57, 58, 59, 60, 61, 62, 63, 64, 67, 68] Dx D1 := p5.mono (by decide)
  have dm1 : DM [6, 9, 10, 11, 12, 13, 14] [8, 23, 24, 25, 28] Dm E1 := p6.mono (by decide) (by decide)
  rcases p7 with ⟨z1, p8⟩ | ⟨rfl, p8, i1, _, hmap, hfn⟩
  · rw [if_neg z1, if_neg z1, f39 e D1 z1, p8, bi_s, if_pos rfl, bi_s]
    exact ⟨e, D1, E1, rfl, by rw [← p3.1, p4], fin D1 E1 p2 p3 dx1 dm1 sm1⟩
  · rw [if_pos rfl, p8]
    have o69 : D1 69 1 = 0 := by rw [p5.2 69 (by decide) (by decide)]; exact h69
    obtain ⟨e, b', D2, E2, q1, q2, ⟨q3, q4, q5, q6, q7, q8⟩, q9⟩ := file_sim (F := F) (u := 69) (x := 0) hF i1 p2 p3 p4 hfn (Or.inr ⟨rfl, rfl, o69, rfl, rfl, rfl, rfl⟩)
    rw [q1, bi_s, q2, bi_s]
    have dx2 : DX [57, 58, 59, 60, 61, 62, 63, 64, 67, 68] Dx D2 := dx1.trans (q6.mono (by decide))
    have dm2 : DM [6, 9, 10, 11, 12, 13, 14] [8, 23, 24, 25, 28] Dm E2 := dm1.trans (q7.mono (by decide) (by decide))
    have smt : ∀ {A B : Mm}, Same D1 E1 A B → Same Dx Dm A B := fun s => ⟨s.1.trans sm1.1, s.2.1.trans sm1.2.1, s.2.2.1.trans sm1.2.2.1, s.2.2.2.trans sm1.2.2.2⟩
    rcases q8 with ⟨z1, rfl, sm2⟩ | ⟨rfl, rfl, ⟨l, hl⟩, n, hch⟩
    · rw [if_neg z1, f39 e D2 z1, if_pos rfl, bi_s]
      exact ⟨e, D2, E2, rfl, by rw [← q4.1, q5], fin D2 E2 q3 q4 dx2 dm2 (smt (sm2 rfl))⟩
    · rw [if_pos rfl, if_neg (show ¬ ((1 : Int32) = 0) by decide)]
      have sm2 : Same D1 E1 D2 E2 := by
        rcases hl with ⟨q, _⟩ | ⟨_, _, _, q⟩
        · exact absurd q (by decide)
        · exact q
      obtain ⟨k, i, t, s, hk, hi, hv, a1, a2, a3, a4, a5, a6, a7, a8⟩ := q9 rfl
      have o58 : D2 58 = D1 58 := q6.2 58 (by decide) (by decide)
      have o59 : D2 59 = D1 59 := q6.2 59 (by decide) (by decide)
      have o10 : E2 10 = E1 10 := q7.1 10 (by decide) (by decide) (by decide) (by decide)
      have o11 : E2 11 = E1 11 := q7.1 11 (by decide) (by decide) (by decide) (by decide)
      have o12 : E2 12 = E1 12 := q7.1 12 (by decide) (by decide) (by decide) (by decide)
      have b24 : E2 0 24 = nI k := by rw [q7.2 24 (by decide) (by decide)]; exact a2
      have b25 : E2 0 25 = nI (64 * k + (2 + 12 * i)) := by rw [q7.2 25 (by decide) (by decide)]; exact a3
      obtain ⟨r, c1, c2⟩ := clearRow_eq (F := F) (u := 59) (p := 2 + 12 * i) (w := 12) (D := D2) hF rfl (by omega)
      have c1' : P_X7_clearRow (gN XG) F 59 (nI (2 + 12 * i)) 12 D2 = some (0, upA D2 59 r) := c1
      obtain ⟨r', d1, d2⟩ := sclear_go (F := F) (q := 64 * k + (2 + 12 * i)) (by omega) 12 F 0 E2 (by decide) (by omega) b25
      have d1' : P_X8_scratches_14 (gN MG) F F 0 E2 = _ := d1
      have hc3 : Core (upA D2 59 r) (upA E2 10 r') := q3.ups (fun c a b => upA_ne (by omega)) (fun c a b => upA_ne (by omega)) (fun k hk => by rw [upA_ne (by decide)])
      have n58 : upA D2 59 r 58 = D1 58 := by rw [upA_ne (by decide), o58]
      obtain ⟨e, b', D4, E4, w1, w2, w3, w4, w5, w6⟩ := wdir_sim (F := F) (u := 59) (k := k) (D := upA D2 59 r) (E := upA E2 10 r') hF hk hv (by decide) rfl (by rw [upA_ne (by decide), q6.1]; exact i1) hc3 (by rw [upA_ne (by decide), o11]; exact a6) (by rw [upA_ne (by decide), o12]; exact a7) (fun j hj => by
        rw [upA_row, upA_row, c2 j, d2 (64 * k + j), o59, o10, (a8 j hj).1]
        by_cases c : 2 + 12 * i ≤ j ∧ j < 2 + 12 * i + 12
        · rw [if_pos c, if_pos (by omega)]
        · rw [if_neg c, if_neg (by omega)])
      have ex : P_X3_storeWithoutEntry (gN XG) F D2 = some (e, D4) := by
        unfold P_X3_storeWithoutEntry
        rw [o58, a1, if_neg (nI_nm1 (by omega)), c1', bi_s, n58, a4, a5, w1]
        rfl
      rw [ex, bi_s, d1', b24, w2, bi_s]
      have dx4 : DX [57, 58, 59, 60, 61, 62, 63, 64, 67, 68] Dx D4 := (dx2.trans ⟨by rw [upA_ne (by decide)], fun c _ v => upA_ne (fun q => v (by rw [q]; decide))⟩).trans (w4.mono (fun c q => absurd q (List.not_mem_nil)))
      have dm4 : DM [6, 9, 10, 11, 12, 13, 14] [8, 23, 24, 25, 28] Dm E4 := (dm2.trans ⟨fun c _ _ _ v => upA_ne (fun q => v (by rw [q]; decide)), fun j _ _ => by rw [upA_ne (by decide)]⟩).trans (w5.mono (fun c q => absurd q (List.not_mem_nil)) (fun c q => absurd q (List.not_mem_nil)))
      have nn : ∀ c : Nat, c ∉ ([] : List Nat) := fun c => List.not_mem_nil
      have sm4 : Same Dx Dm D4 E4 := by
        have := smt sm2
        exact ⟨by rw [w4.2 67 (by decide) (nn _), upA_ne (by decide)]; exact this.1, by rw [w4.2 68 (by decide) (nn _), upA_ne (by decide)]; exact this.2.1, by rw [w5.2 8 (by decide) (nn _), upA_ne (by decide)]; exact this.2.2.1, by rw [w5.1 6 (by decide) (by decide) (by decide) (nn _), upA_ne (by decide)]; exact this.2.2.2⟩
      rcases w6 with ⟨rfl, rfl, w7⟩ | ⟨z1, rfl, w7, w8⟩
      · rw [if_neg (show ¬ ((1 : Int32) = 0) by decide)]
        unfold P_X7_scratch_39
        rw [if_pos rfl]
        have ch4 : ChOk n D4 E4 := ⟨hch.1, by rw [w4.2 61 (by decide) (nn _), upA_ne (by decide)]; exact hch.2.1, by rw [w5.2 28 (by decide) (nn _), upA_ne (by decide)]; exact hch.2.2.1, by rw [w4.2 62 (by decide) (nn _), upA_ne (by decide), w4.2 63 (by decide) (nn _), upA_ne (by decide), w5.1 13 (by decide) (by decide) (by decide) (nn _), upA_ne (by decide), w5.1 14 (by decide) (by decide) (by decide) (nn _), upA_ne (by decide)]; exact hch.2.2.2⟩
        have m4 : MapEq D4 E4 := fun j hj => by
          rw [w4.2 57 (by decide) (nn _), upA_ne (by decide), q6.2 57 (by decide) (by decide), w5.1 9 (by decide) (by decide) (by decide) (nn _), upA_ne (by decide), q7.1 9 (by decide) (by decide) (by decide) (by decide)]
          exact (hmap j hj).1
        obtain ⟨m5, b5, v1, v2, v3⟩ := release_go (F := F) hch.1 n F F 0 D4 E4 (by omega) (by have := hch.1; omega) (by have := hch.1; omega) ch4 m4
        have v1' : P_X2_release (gN XG) F D4 = some (0, upA D4 57 m5) := v1
        have v2' : P_X8_scratches_53 (gN MG) F F 0 E4 = _ := v2
        rw [v1', bi_s, v2']
        have hc5 : Core (upA D4 57 m5) (upA E4 9 b5) := w3.ups (fun c a b => upA_ne (by omega)) (fun c a b => upA_ne (by omega)) (fun k hk => by rw [upA_ne (by decide)])
        obtain ⟨e, b', D6, E6, y1, y2, y3, y4, y5, y6⟩ := wmap_sim (F := F) (D := upA D4 57 m5) (E := upA E4 9 b5) hF (by rw [upA_ne (by decide), w4.1, upA_ne (by decide), q6.1]; exact i1) hc5 (fun j hj => by rw [upA_row, upA_row]; exact v3 j hj)
        rw [y1, bi_s, y2, bi_s]
        have dx6 : DX [57, 58, 59, 60, 61, 62, 63, 64, 67, 68] Dx D6 := (dx4.trans ⟨by rw [upA_ne (by decide)], fun c _ v => upA_ne (fun q => v (by rw [q]; decide))⟩).trans (y4.mono (fun c q => absurd q (List.not_mem_nil)))
        have dm6 : DM [6, 9, 10, 11, 12, 13, 14] [8, 23, 24, 25, 28] Dm E6 := (dm4.trans ⟨fun c _ _ _ v => upA_ne (fun q => v (by rw [q]; decide)), fun j _ _ => by rw [upA_ne (by decide)]⟩).trans (y5.mono (fun c q => absurd q (List.not_mem_nil)) (fun c q => absurd q (List.not_mem_nil)))
        have sm6 : Same Dx Dm D6 E6 := ⟨by rw [y4.2 67 (by decide) (nn _), upA_ne (by decide)]; exact sm4.1, by rw [y4.2 68 (by decide) (nn _), upA_ne (by decide)]; exact sm4.2.1, by rw [y5.2 8 (by decide) (nn _), upA_ne (by decide)]; exact sm4.2.2.1, by rw [y5.1 6 (by decide) (by decide) (by decide) (nn _), upA_ne (by decide)]; exact sm4.2.2.2⟩
        unfold P_X7_scratch_72
        rcases y6 with ⟨rfl, rfl, y7⟩ | ⟨z1, rfl, y7, y8⟩
        · have g61 : D6 61 4 = nI n := by rw [y4.2 61 (by decide) (nn _), upA_ne (by decide)]; exact ch4.2.1
          have g28 : E6 0 28 = nI n := by rw [y5.2 28 (by decide) (nn _), upA_ne (by decide)]; exact ch4.2.2.1
          rw [if_pos rfl, if_neg (show ¬ ((1 : Int32) = 0) by decide), g61, g28]
          refine ⟨1, tX 1 (nI n) 0 D6, tM 1 (nI n) 0 E6, rfl, ?_, fin _ _ (t_core y3) t_stt (dx6.trans (tX_dx _)) (dm6.trans (tM_dm _ _)) ⟨by rw [tX_o (by decide)]; exact sm6.1, by rw [tX_o (by decide)]; exact sm6.2.1, by rw [tM_0 (by decide)]; exact sm6.2.2.1, by rw [tM_o (by decide)]; exact sm6.2.2.2⟩⟩
          show some (tM 1 (nI n) 0 E6 0 9, tM 1 (nI n) 0 E6) = _
          have := (t_stt (e := 1) (t := nI n) (s := 0) (D := D6) (E := E6)).1
          rw [← this, tX_0]
        · rw [if_neg z1, if_pos rfl, bi_s]
          exact ⟨e, D6, E6, rfl, by rw [← y7.1, y8], fin D6 E6 y3 y7 dx6 dm6 sm6⟩
      · rw [f39 e D4 z1, if_pos rfl, bi_s]
        exact ⟨e, D4, E4, rfl, by rw [← w7.1, w8], fin D4 E4 w3 w7 dx4 dm4 sm4⟩
