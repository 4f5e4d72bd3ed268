abbrev rm_X0_readBlock : Room := { frames := 3, cells := 0, slots := 0, locals := 82 }
set_option maxHeartbeats 4000000 in
set_option maxRecDepth 100000 in
theorem c_X0_readBlock (l : Launch) (dd : Dd) (Y : Yc) (t : Ts3) (ad : Nat → Nat) (ij : Ij XG ad) (F : Nat) (u3 : Nat) (g_u3 : IArr XG u3) (a1 a2 : Int32) (D0 D' : Mm) (r0 : Int32) (h : P_X0_readBlock (gN XG) F u3 a1 a2 D0 = some (r0, D')) : Met l yX0_readBlock wzX0_readBlock rm_X0_readBlock (va_Pc [.ref (ad 2), .int a1, .int a2, .ref (ad u3)] (Wd dd Y t XG ad D0)) (Qi dd Y XG ad .int r0 D') 0 0 (pA XG ad) := by
  refine Met.ofW (cc := cX0_readBlock) (maxL := 8) (ret := (some .int)) (by decide) rfl ?_
  intro p e s m args below meth c s₁ B hml hv
  obtain ⟨rfl, hP, hK, hT⟩ := hv
  have hx := B.exec
  have hb := B.bytes
  have hr := B.returns
  have ht0 : ∀ w ∈ W0, w.before _ s = true := fun w h => atoms_spec (ws := wzX0_readBlock) B.pre w (List.mem_cons_of_mem _ h)
  have hown : s.vm.findClass RX0 = some m.cls := findClass_of_methodNamed B.named
  have hlocks := B.notSynchronized
  have hS : va_S (pA XG ad) s.heap s.heap [] := va_S.rf
  have L64 : ∀ (q4 : Nat) (g_q4 : RingAt XG q4) (x5 s0 : Int32) (D : Mm) (H : Heap) (locs : List Loc) (ls : Array Slot), P_X0_readBlock_64 (gN XG) F u3 q4 x5 s0 D = some (r0, D') → va_P dd vwCl (wW Y XG ad D) H → va_S (pA XG ad) s.heap H locs → lv_has ls 8 [(0, .ref (ad 2)), (3, .ref (ad u3)), (4, .ref (ad q4)), (5, .int x5)] → W p l e (headSpec wzX0_readBlock rm_X0_readBlock).room s m ([.ref (ad 2), .int a1, .int a2, .ref (ad u3)].toArray) below meth c H locs 0 0 (MQ below (Qi dd Y XG ad .int r0 D') ([.ref (ad 2), .int a1, .int a2, .ref (ad u3)].toArray) s 0 0 (pA XG ad)) (F0 m 64 ls [.int s0]) := by
    intro q4 g_q4 x5 s0 D H locs ls h hP hS hl
    obtain ⟨k_q4, p_q4_0, p_q4_2, k_q41, k_q42⟩ := id g_q4
    have h : ((if 0 ≤ x5 then (bi (P_X5_startOf (gN XG) F q4 s0 D) (fun r2 D2 => bi (P_X5_takeData (gN XG) F q4 u3 r2 D2) (fun r3 D3 => if r3 = 0 then (some (r3, up2 D3 2 4 ((D3 2 4) + 1))) else (some (r3, up2 D3 2 6 ((D3 2 6) + 1)))))) else (if (-x5) = 0 then (some (-x5, up2 D 2 4 ((D 2 4) + 1))) else (some (-x5, up2 D 2 6 ((D 2 6) + 1))))) : Rs) = some (r0, D') := h
    refine lv_istore (lv' := [(6, .int s0), (0, .ref (ad 2)), (3, .ref (ad u3)), (4, .ref (ad q4)), (5, .int x5)]) hx hb dX0_readBlock_64 hl (by decide) rfl (fun ls hl => ?_)
    refine lv_iload hx hb dX0_readBlock_66 (lv_at hl 4 rfl) ?_
    refine lv_if_ge (tgt := 77) hx hb dX0_readBlock_68 (by decide) (fun c1 => ?_) (fun c1 => ?_)
    · have h := x_t (show 0 ≤ x5 from c1) h
      refine lv_aload hx hb dX0_readBlock_77 (lv_at hl 3 rfl) ?_
      refine lv_aload hx hb dX0_readBlock_79 (lv_at hl 3 rfl) ?_
      refine lv_iload hx hb dX0_readBlock_81 (lv_at hl 0 rfl) ?_
      obtain ⟨r2, D2, hc2, h⟩ := bi_some h
      refine x_callVi (As := [.int s0]) ⟨hx, hb, hml, hown, ht0⟩ hK hT hP hS (c_X5_startOf l dd Y t XG ad ij F q4 g_q4 s0 _ _ _ hc2) m_ML_X0_88 sv_X5_startOf hd_X5_startOf rfl rfl ⟨Nat.le_of_ble_eq_true rfl, Nat.le_of_ble_eq_true rfl⟩ (k_q4).1 (ce5 (k_q4).2) rfl rfl hl.1 rfl (Nat.le_of_ble_eq_true rfl) dX0_readBlock_83 ⟨Nat.zero_le _, Nat.zero_le _⟩ (fun H locs hn_r2 hP hS => ?_)
      refine lv_aload_n hx hb dX0_readBlock_86 rfl (lv_at hl 2 rfl) ?_
      obtain ⟨r3, D3, hc3, h⟩ := bi_some h
      refine x_callVi (As := [.int r2, .ref (ad u3)]) ⟨hx, hb, hml, hown, ht0⟩ hK hT hP hS (c_X5_takeData l dd Y t XG ad ij F q4 u3 g_q4 g_u3 r2 _ _ _ hc3) m_ML_X0_91 sv_X5_takeData hd_X5_takeData rfl rfl ⟨Nat.le_of_ble_eq_true rfl, Nat.le_of_ble_eq_true rfl⟩ (k_q4).1 (ce5 (k_q4).2) rfl rfl hl.1 rfl (Nat.le_of_ble_eq_true rfl) dX0_readBlock_87 ⟨Nat.zero_le _, Nat.zero_le _⟩ (fun H locs hn_r3 hP hS => ?_)
      refine lv_istore (lv' := [(7, .int r3), (6, .int s0), (0, .ref (ad 2)), (3, .ref (ad u3)), (4, .ref (ad q4)), (5, .int x5)]) hx hb dX0_readBlock_90 hl (by decide) rfl (fun ls hl => ?_)
      refine lv_iload hx hb dX0_readBlock_92 (lv_at hl 0 rfl) ?_
      refine lv_if_ne (tgt := 110) hx hb dX0_readBlock_94 (by decide) (fun c4 => ?_) (fun c4 => ?_)
      · have h := x_f (show ¬ (r3 = 0) from c4) h
        refine lv_aload_n hx hb dX0_readBlock_110 rfl (lv_at hl 2 rfl) ?_
        refine lv_dup hx hb dX0_readBlock_111 rfl ?_
        refine x_get hx hb ht0 u_X0 hown hK hP (xk_2).1 (ce0 (xk_2).2) rfl 6 (by decide) (ht0 _ m_FL_X0_98) rfl rfl dX0_readBlock_112 ?_
        refine lv_iconst (v := 1) hx hb dX0_readBlock_115 (by decide) ?_
        refine lv_iadd hx hb dX0_readBlock_116 ?_
        refine x_put (ty := .int) hx hb ht0 u_X0 tyX0 tyX0_ok nmX0 hown hK ij hP hS (xk_2).1 (ce0 (xk_2).2) rfl 6 (by decide) (ht0 _ m_FL_X0_98) rfl rfl (by decide +kernel) rfl rfl (Nat.le_of_ble_eq_true rfl) (by rw [(xk_2).2]; rfl) dX0_readBlock_117 (fun H locs hP hS => ?_)
        refine lv_iload hx hb dX0_readBlock_120 (lv_at hl 0 rfl) ?_
        exact x_iret hx hb hr hlocks rfl hP hS h dX0_readBlock_122
      · have h := x_t (show r3 = 0 from c4) h
        refine lv_aload_n hx hb dX0_readBlock_97 rfl (lv_at hl 2 rfl) ?_
        refine lv_dup hx hb dX0_readBlock_98 rfl ?_
        refine x_get hx hb ht0 u_X0 hown hK hP (xk_2).1 (ce0 (xk_2).2) rfl 4 (by decide) (ht0 _ m_FL_X0_95) rfl rfl dX0_readBlock_99 ?_
        refine lv_iconst (v := 1) hx hb dX0_readBlock_102 (by decide) ?_
        refine lv_iadd hx hb dX0_readBlock_103 ?_
        refine x_put (ty := .int) hx hb ht0 u_X0 tyX0 tyX0_ok nmX0 hown hK ij hP hS (xk_2).1 (ce0 (xk_2).2) rfl 4 (by decide) (ht0 _ m_FL_X0_95) rfl rfl (by decide +kernel) rfl rfl (Nat.le_of_ble_eq_true rfl) (by rw [(xk_2).2]; rfl) dX0_readBlock_104 (fun H locs hP hS => ?_)
        refine lv_goto (tgt := 120) hx hb dX0_readBlock_107 (by decide) ?_
        refine lv_iload hx hb dX0_readBlock_120 (lv_at hl 0 rfl) ?_
        exact x_iret hx hb hr hlocks rfl hP hS h dX0_readBlock_122
    · have h := x_f (show ¬ (0 ≤ x5) from c1) h
      refine lv_iload hx hb dX0_readBlock_71 (lv_at hl 4 rfl) ?_
      refine lv_ineg hx hb dX0_readBlock_73 ?_
      refine lv_goto (tgt := 90) hx hb dX0_readBlock_74 (by decide) ?_
      refine lv_istore (lv' := [(7, .int (-x5)), (6, .int s0), (0, .ref (ad 2)), (3, .ref (ad u3)), (4, .ref (ad q4)), (5, .int x5)]) hx hb dX0_readBlock_90 hl (by decide) rfl (fun ls hl => ?_)
      refine lv_iload hx hb dX0_readBlock_92 (lv_at hl 0 rfl) ?_
      refine lv_if_ne (tgt := 110) hx hb dX0_readBlock_94 (by decide) (fun c5 => ?_) (fun c5 => ?_)
      · have h := x_f (show ¬ ((-x5) = 0) from c5) h
        refine lv_aload_n hx hb dX0_readBlock_110 rfl (lv_at hl 2 rfl) ?_
        refine lv_dup hx hb dX0_readBlock_111 rfl ?_
        refine x_get hx hb ht0 u_X0 hown hK hP (xk_2).1 (ce0 (xk_2).2) rfl 6 (by decide) (ht0 _ m_FL_X0_98) rfl rfl dX0_readBlock_112 ?_
        refine lv_iconst (v := 1) hx hb dX0_readBlock_115 (by decide) ?_
        refine lv_iadd hx hb dX0_readBlock_116 ?_
        refine x_put (ty := .int) hx hb ht0 u_X0 tyX0 tyX0_ok nmX0 hown hK ij hP hS (xk_2).1 (ce0 (xk_2).2) rfl 6 (by decide) (ht0 _ m_FL_X0_98) rfl rfl (by decide +kernel) rfl rfl (Nat.le_of_ble_eq_true rfl) (by rw [(xk_2).2]; rfl) dX0_readBlock_117 (fun H locs hP hS => ?_)
        refine lv_iload hx hb dX0_readBlock_120 (lv_at hl 0 rfl) ?_
        exact x_iret hx hb hr hlocks rfl hP hS h dX0_readBlock_122
      · have h := x_t (show (-x5) = 0 from c5) h
        refine lv_aload_n hx hb dX0_readBlock_97 rfl (lv_at hl 2 rfl) ?_
        refine lv_dup hx hb dX0_readBlock_98 rfl ?_
        refine x_get hx hb ht0 u_X0 hown hK hP (xk_2).1 (ce0 (xk_2).2) rfl 4 (by decide) (ht0 _ m_FL_X0_95) rfl rfl dX0_readBlock_99 ?_
        refine lv_iconst (v := 1) hx hb dX0_readBlock_102 (by decide) ?_
        refine lv_iadd hx hb dX0_readBlock_103 ?_
        refine x_put (ty := .int) hx hb ht0 u_X0 tyX0 tyX0_ok nmX0 hown hK ij hP hS (xk_2).1 (ce0 (xk_2).2) rfl 4 (by decide) (ht0 _ m_FL_X0_95) rfl rfl (by decide +kernel) rfl rfl (Nat.le_of_ble_eq_true rfl) (by rw [(xk_2).2]; rfl) dX0_readBlock_104 (fun H locs hP hS => ?_)
        refine lv_goto (tgt := 120) hx hb dX0_readBlock_107 (by decide) ?_
        refine lv_iload hx hb dX0_readBlock_120 (lv_at hl 0 rfl) ?_
        exact x_iret hx hb hr hlocks rfl hP hS h dX0_readBlock_122
  have hl := lv_entry ([.ref (ad 2), .int a1, .int a2, .ref (ad u3)]) (n := 8) (Nat.le_of_ble_eq_true rfl)
  rw [lg_entry_eq]
  generalize (lg_sl ([.ref (ad 2), .int a1, .int a2, .ref (ad u3)]) ++ List.replicate (8 - (lg_sl ([.ref (ad 2), .int a1, .int a2, .ref (ad u3)])).length) Slot.unset).toArray = ls at hl ⊢
  have hl : lv_has ls 8 [(0, .ref (ad 2)), (1, .int a1), (2, .int a2), (3, .ref (ad u3))] := hl
  have hP : va_P dd vwCl (wW Y XG ad D0) s.heap := hP
  generalize D0 = D at h hP
  have h : ((bq (P_X0_ringOf a1) (if (D 2 3) = (-1) then (some (74, D)) else (some (66, D))) (fun w6 => if (D 2 3) = (-1) then (some (74, D)) else (bi (P_X0_isBlock (gN XG) F a1 a2 D) (fun r9 D9 => if r9 = 0 then (some (66, D9)) else (bi (P_X0_seek (gN XG) F w6 a1 a2 D9) (fun r11 D11 => if (D11 w6 3) ≤ (r11 + 1) then (P_X0_readBlock_64 (gN XG) F u3 w6 r11 0 D11) else (P_X0_readBlock_64 (gN XG) F u3 w6 r11 (r11 + 1) D11))))))) : Rs) = some (r0, D') := h
  refine lv_aload_n hx hb dX0_readBlock_0 rfl (lv_at hl 0 rfl) ?_
  refine lv_iload_n hx hb dX0_readBlock_1 rfl (lv_at hl 1 rfl) ?_
  refine x_callVq (As := [.int a1]) ⟨hx, hb, hml, hown, ht0⟩ hK hT hP hS (c_X0_ringOf l dd Y t ad ij a1 D) m_ML_X0_49 sv_X0_ringOf hd_X0_ringOf rfl rfl ⟨Nat.le_of_ble_eq_true rfl, Nat.le_of_ble_eq_true rfl⟩ (xk_2).1 (ce0 (xk_2).2) rfl rfl hl.1 rfl (Nat.le_of_ble_eq_true rfl) dX0_readBlock_2 ⟨Nat.zero_le _, Nat.zero_le _⟩ (fun hq H locs hP hS => ?_) (fun w6 hq H locs hP hS => ?_)
  · have h := bq_n hq h
    refine lv_astoreN (lv' := [(4, .null), (0, .ref (ad 2)), (1, .int a1), (2, .int a2), (3, .ref (ad u3))]) hx hb dX0_readBlock_5 hl (by decide) rfl (fun ls hl => ?_)
    refine lv_aload_n hx hb dX0_readBlock_7 rfl (lv_at hl 1 rfl) ?_
    refine x_get hx hb ht0 u_X0 hown hK hP (xk_2).1 (ce0 (xk_2).2) rfl 3 (by decide) (ht0 _ m_FL_X0_15) rfl rfl dX0_readBlock_8 ?_
    refine lv_iconst (v := (-1)) hx hb dX0_readBlock_11 (by decide) ?_
    refine lv_icmp_ne (tgt := 18) hx hb dX0_readBlock_12 (by decide) (fun c7 => ?_) (fun c7 => ?_)
    · have h := x_f (show ¬ ((D 2 3) = (-1)) from c7) h
      refine lv_aloadN hx hb dX0_readBlock_18 (lv_at hl 0 rfl) ?_
      refine lv_ifnullN (tgt := 31) hx hb dX0_readBlock_20 (by decide) ?_
      refine lv_bipush (v := 66) hx hb dX0_readBlock_31 (by decide) ?_
      exact x_iret hx hb hr hlocks rfl hP hS h dX0_readBlock_33
    · have h := x_t (show (D 2 3) = (-1) from c7) h
      refine lv_bipush (v := 74) hx hb dX0_readBlock_15 (by decide) ?_
      exact x_iret hx hb hr hlocks rfl hP hS h dX0_readBlock_17
  · have h := bq_s hq h
    have g_w6 : RingAt XG w6 := ringOf_at hq
    obtain ⟨k_w6, p_w6_0, p_w6_2, k_w61, k_w62⟩ := id g_w6
    refine lv_astore (lv' := [(4, .ref (ad w6)), (0, .ref (ad 2)), (1, .int a1), (2, .int a2), (3, .ref (ad u3))]) hx hb dX0_readBlock_5 hl (by decide) rfl (fun ls hl => ?_)
    refine lv_aload_n hx hb dX0_readBlock_7 rfl (lv_at hl 1 rfl) ?_
    refine x_get hx hb ht0 u_X0 hown hK hP (xk_2).1 (ce0 (xk_2).2) rfl 3 (by decide) (ht0 _ m_FL_X0_15) rfl rfl dX0_readBlock_8 ?_
    refine lv_iconst (v := (-1)) hx hb dX0_readBlock_11 (by decide) ?_
    refine lv_icmp_ne (tgt := 18) hx hb dX0_readBlock_12 (by decide) (fun c8 => ?_) (fun c8 => ?_)
    · have h := x_f (show ¬ ((D 2 3) = (-1)) from c8) h
      refine lv_aload hx hb dX0_readBlock_18 (lv_at hl 0 rfl) ?_
      refine lv_ifnull hx hb dX0_readBlock_20 ?_
      refine lv_iload_n hx hb dX0_readBlock_23 rfl (lv_at hl 2 rfl) ?_
      refine lv_iload_n hx hb dX0_readBlock_24 rfl (lv_at hl 3 rfl) ?_
      obtain ⟨r9, D9, hc9, h⟩ := bi_some h
      refine x_callSi (As := [.int a1, .int a2]) ⟨hx, hb, hml, hown, ht0⟩ hK hT hP hS (c_X0_isBlock l dd Y t ad ij F a1 a2 _ _ _ hc9) m_ML_X0_77 ss_X0_isBlock hd_X0_isBlock rfl rfl ⟨Nat.le_of_ble_eq_true rfl, Nat.le_of_ble_eq_true rfl⟩ rfl hl.1 rfl (Nat.le_of_ble_eq_true rfl) dX0_readBlock_25 ⟨Nat.zero_le _, Nat.zero_le _⟩ (fun H locs hn_r9 hP hS => ?_)
      refine lv_if_ne (tgt := 34) hx hb dX0_readBlock_28 (by decide) (fun c10 => ?_) (fun c10 => ?_)
      · have h := x_f (show ¬ (r9 = 0) from c10) h
        refine lv_aload_n hx hb dX0_readBlock_34 rfl (lv_at hl 1 rfl) ?_
        refine lv_aload hx hb dX0_readBlock_35 (lv_at hl 0 rfl) ?_
        refine lv_iload_n hx hb dX0_readBlock_37 rfl (lv_at hl 2 rfl) ?_
        refine lv_iload_n hx hb dX0_readBlock_38 rfl (lv_at hl 3 rfl) ?_
        obtain ⟨r11, D11, hc11, h⟩ := bi_some h
        refine x_callVi (As := [.ref (ad w6), .int a1, .int a2]) ⟨hx, hb, hml, hown, ht0⟩ hK hT hP hS (c_X0_seek l dd Y t ad ij F w6 g_w6 a1 a2 _ _ _ hc11) m_ML_X0_81 sv_X0_seek hd_X0_seek rfl rfl ⟨Nat.le_of_ble_eq_true rfl, Nat.le_of_ble_eq_true rfl⟩ (xk_2).1 (ce0 (xk_2).2) rfl rfl hl.1 rfl (Nat.le_of_ble_eq_true rfl) dX0_readBlock_39 ⟨Nat.zero_le _, Nat.zero_le _⟩ (fun H locs hn_r11 hP hS => ?_)
        refine lv_istore (lv' := [(5, .int r11), (4, .ref (ad w6)), (0, .ref (ad 2)), (1, .int a1), (2, .int a2), (3, .ref (ad u3))]) hx hb dX0_readBlock_42 hl (by decide) rfl (fun ls hl => ?_)
        refine lv_iload hx hb dX0_readBlock_44 (lv_at hl 0 rfl) ?_
        refine lv_iconst (v := 1) hx hb dX0_readBlock_46 (by decide) ?_
        refine lv_iadd hx hb dX0_readBlock_47 ?_
        refine lv_aload hx hb dX0_readBlock_48 (lv_at hl 1 rfl) ?_
        refine x_get hx hb ht0 u_X5 hown hK hP (k_w6).1 (ce5 (k_w6).2) rfl 3 (by decide) (ht0 _ m_FL_X0_85) rfl rfl dX0_readBlock_50 ?_
        refine lv_icmp_ge (tgt := 63) hx hb dX0_readBlock_53 (by decide) (fun c12 => ?_) (fun c12 => ?_)
        · have h := x_t (show (D11 w6 3) ≤ (r11 + 1) from c12) h
          refine lv_iconst (v := 0) hx hb dX0_readBlock_63 (by decide) ?_
          exact L64 w6 g_w6 r11 0 D11 _ _ _ h hP hS (lv_sub hl [2, 5, 1, 0] rfl)
        · have h := x_f (show ¬ ((D11 w6 3) ≤ (r11 + 1)) from c12) h
          refine lv_iload hx hb dX0_readBlock_56 (lv_at hl 0 rfl) ?_
          refine lv_iconst (v := 1) hx hb dX0_readBlock_58 (by decide) ?_
          refine lv_iadd hx hb dX0_readBlock_59 ?_
          refine lv_goto (tgt := 64) hx hb dX0_readBlock_60 (by decide) ?_
          exact L64 w6 g_w6 r11 (r11 + 1) D11 _ _ _ h hP hS (lv_sub hl [2, 5, 1, 0] rfl)
      · have h := x_t (show r9 = 0 from c10) h
        refine lv_bipush (v := 66) hx hb dX0_readBlock_31 (by decide) ?_
        exact x_iret hx hb hr hlocks rfl hP hS h dX0_readBlock_33
    · have h := x_t (show (D 2 3) = (-1) from c8) h
      refine lv_bipush (v := 74) hx hb dX0_readBlock_15 (by decide) ?_
      exact x_iret hx hb hr hlocks rfl hP hS h dX0_readBlock_17
abbrev rm_X6_tell : Room := { frames := 0, cells := 0, slots := 0, locals := 0 }
set_option maxHeartbeats 4000000 in
set_option maxRecDepth 100000 in
theorem c_X6_tell (l : Launch) (dd : Dd) (Y : Yc) (t : Ts3) (ad : Nat → Nat) (ij : Ij XG ad) (F : Nat) (a1 a2 a3 : Int32) (D0 D' : Mm) (r0 : Int32) (h : P_X6_tell (gN XG) F a1 a2 a3 D0 = some (r0, D')) : Met l yX6_tell wzX6_tell rm_X6_tell (va_Pc [.ref (ad 1), .int a1, .int a2, .int a3] (Wd dd Y t XG ad D0)) (Qi dd Y XG ad .int r0 D') 0 0 (pA XG ad) := by
  refine Met.ofW (cc := cX6_tell) (maxL := 4) (ret := (some .int)) (by decide) rfl ?_
  intro p e s m args below meth c s₁ B hml hv
  obtain ⟨rfl, hP, hK, hT⟩ := hv
  have hx := B.exec
  have hb := B.bytes
  have hr := B.returns
  have ht0 : ∀ w ∈ W0, w.before _ s = true := fun w h => atoms_spec (ws := wzX6_tell) B.pre w (List.mem_cons_of_mem _ h)
  have hown : s.vm.findClass RX6 = some m.cls := findClass_of_methodNamed B.named
  have hlocks := B.notSynchronized
  have hS : va_S (pA XG ad) s.heap s.heap [] := va_S.rf
  have hl := lv_entry ([.ref (ad 1), .int a1, .int a2, .int a3]) (n := 4) (Nat.le_of_ble_eq_true rfl)
  rw [lg_entry_eq]
  generalize (lg_sl ([.ref (ad 1), .int a1, .int a2, .int a3]) ++ List.replicate (4 - (lg_sl ([.ref (ad 1), .int a1, .int a2, .int a3])).length) Slot.unset).toArray = ls at hl ⊢
  have hl : lv_has ls 4 [(0, .ref (ad 1)), (1, .int a1), (2, .int a2), (3, .int a3)] := hl
  have hP : va_P dd vwCl (wW Y XG ad D0) s.heap := hP
  generalize D0 = D at h hP
  have h : ((some (a1, up2 (up2 (up2 D 1 0 a1) 1 1 a2) 1 2 a3)) : Rs) = some (r0, D') := h
  refine lv_aload_n hx hb dX6_tell_0 rfl (lv_at hl 0 rfl) ?_
  refine lv_iload_n hx hb dX6_tell_1 rfl (lv_at hl 1 rfl) ?_
  refine x_put (ty := .int) hx hb ht0 u_X6 tyX6 tyX6_ok nmX6 hown hK ij hP hS (xk_1).1 (ce6 (xk_1).2) rfl 0 (by decide) (ht0 _ m_FL_X6_7) rfl rfl (by decide +kernel) rfl rfl (Nat.le_of_ble_eq_true rfl) (by rw [(xk_1).2]; rfl) dX6_tell_2 (fun H locs hP hS => ?_)
  refine lv_aload_n hx hb dX6_tell_5 rfl (lv_at hl 0 rfl) ?_
  refine lv_iload_n hx hb dX6_tell_6 rfl (lv_at hl 2 rfl) ?_
  refine x_put (ty := .int) hx hb ht0 u_X6 tyX6 tyX6_ok nmX6 hown hK ij hP hS (xk_1).1 (ce6 (xk_1).2) rfl 1 (by decide) (ht0 _ m_FL_X6_13) rfl rfl (by decide +kernel) rfl rfl (Nat.le_of_ble_eq_true rfl) (by rw [(xk_1).2]; rfl) dX6_tell_7 (fun H locs hP hS => ?_)
  refine lv_aload_n hx hb dX6_tell_10 rfl (lv_at hl 0 rfl) ?_
  refine lv_iload_n hx hb dX6_tell_11 rfl (lv_at hl 3 rfl) ?_
  refine x_put (ty := .int) hx hb ht0 u_X6 tyX6 tyX6_ok nmX6 hown hK ij hP hS (xk_1).1 (ce6 (xk_1).2) rfl 2 (by decide) (ht0 _ m_FL_X6_16) rfl rfl (by decide +kernel) rfl rfl (Nat.le_of_ble_eq_true rfl) (by rw [(xk_1).2]; rfl) dX6_tell_12 (fun H locs hP hS => ?_)
  refine lv_iload_n hx hb dX6_tell_15 rfl (lv_at hl 1 rfl) ?_
  exact x_iret hx hb hr hlocks rfl hP hS h dX6_tell_16
abbrev rm_X0_fetch : Room := { frames := 4, cells := 0, slots := 0, locals := 109 }
set_option maxHeartbeats 4000000 in
set_option maxRecDepth 100000 in
theorem c_X0_fetch (l : Launch) (dd : Dd) (Y : Yc) (t : Ts3) (ad : Nat → Nat) (ij : Ij XG ad) (F : Nat) (u3 : Nat) (g_u3 : IArr XG u3) (a1 a2 : Int32) (D0 D' : Mm) (r0 : Int32) (h : P_X0_fetch (gN XG) F u3 a1 a2 D0 = some (r0, D')) : Met l yX0_fetch wzX0_fetch rm_X0_fetch (va_Pc [.ref (ad 2), .int a1, .int a2, .ref (ad u3)] (Wd dd Y t XG ad D0)) (Qi dd Y XG ad .int r0 D') 0 0 (pA XG ad) := by
  refine Met.ofW (cc := cX0_fetch) (maxL := 5) (ret := (some .int)) (by decide) rfl ?_
  intro p e s m args below meth c s₁ B hml hv
  obtain ⟨rfl, hP, hK, hT⟩ := hv
  have hx := B.exec
  have hb := B.bytes
  have hr := B.returns
  have ht0 : ∀ w ∈ W0, w.before _ s = true := fun w h => atoms_spec (ws := wzX0_fetch) B.pre w (List.mem_cons_of_mem _ h)
  have hown : s.vm.findClass RX0 = some m.cls := findClass_of_methodNamed B.named
  have hlocks := B.notSynchronized
  have hS : va_S (pA XG ad) s.heap s.heap [] := va_S.rf
  have hl := lv_entry ([.ref (ad 2), .int a1, .int a2, .ref (ad u3)]) (n := 5) (Nat.le_of_ble_eq_true rfl)
  rw [lg_entry_eq]
  generalize (lg_sl ([.ref (ad 2), .int a1, .int a2, .ref (ad u3)]) ++ List.replicate (5 - (lg_sl ([.ref (ad 2), .int a1, .int a2, .ref (ad u3)])).length) Slot.unset).toArray = ls at hl ⊢
  have hl : lv_has ls 5 [(0, .ref (ad 2)), (1, .int a1), (2, .int a2), (3, .ref (ad u3))] := hl
  have hP : va_P dd vwCl (wW Y XG ad D0) s.heap := hP
  generalize D0 = D at h hP
  have h : ((bi (P_X0_readBlock (gN XG) F u3 a1 a2 D) (fun r1 D1 => if r1 = 0 then (some (0, D1)) else (bi (P_X6_tell (gN XG) F r1 a1 a2 D1) (fun r3 D3 => some (r3, D3))))) : Rs) = some (r0, D') := h
  refine lv_aload_n hx hb dX0_fetch_0 rfl (lv_at hl 0 rfl) ?_
  refine lv_iload_n hx hb dX0_fetch_1 rfl (lv_at hl 1 rfl) ?_
  refine lv_iload_n hx hb dX0_fetch_2 rfl (lv_at hl 2 rfl) ?_
  refine lv_aload_n hx hb dX0_fetch_3 rfl (lv_at hl 3 rfl) ?_
  obtain ⟨r1, D1, hc1, h⟩ := bi_some h
  refine x_callVi (As := [.int a1, .int a2, .ref (ad u3)]) ⟨hx, hb, hml, hown, ht0⟩ hK hT hP hS (c_X0_readBlock l dd Y t ad ij F u3 g_u3 a1 a2 _ _ _ hc1) m_ML_X0_64 sv_X0_readBlock hd_X0_readBlock rfl rfl ⟨Nat.le_of_ble_eq_true rfl, Nat.le_of_ble_eq_true rfl⟩ (xk_2).1 (ce0 (xk_2).2) rfl rfl hl.1 rfl (Nat.le_of_ble_eq_true rfl) dX0_fetch_4 ⟨Nat.zero_le _, Nat.zero_le _⟩ (fun H locs hn_r1 hP hS => ?_)
  refine lv_istore (lv' := [(4, .int r1), (0, .ref (ad 2)), (1, .int a1), (2, .int a2), (3, .ref (ad u3))]) hx hb dX0_fetch_7 hl (by decide) rfl (fun ls hl => ?_)
  refine lv_iload hx hb dX0_fetch_9 (lv_at hl 0 rfl) ?_
  refine lv_if_ne (tgt := 18) hx hb dX0_fetch_11 (by decide) (fun c2 => ?_) (fun c2 => ?_)
  · have h := x_f (show ¬ (r1 = 0) from c2) h
    refine lv_aload_n hx hb dX0_fetch_18 rfl (lv_at hl 1 rfl) ?_
    refine x_get hx hb ht0 u_X0 hown hK hP (xk_2).1 (ce0 (xk_2).2) rfl 0 (by decide) (ht0 _ m_FL_X0_9) rfl (rfv (G := XG) (c := 2) (k := 0) (c' := 1) rfl) dX0_fetch_19 ?_
    refine lv_iload hx hb dX0_fetch_22 (lv_at hl 0 rfl) ?_
    refine lv_iload_n hx hb dX0_fetch_24 rfl (lv_at hl 2 rfl) ?_
    refine lv_iload_n hx hb dX0_fetch_25 rfl (lv_at hl 3 rfl) ?_
    obtain ⟨r3, D3, hc3, h⟩ := bi_some h
    refine x_callVi (As := [.int r1, .int a1, .int a2]) ⟨hx, hb, hml, hown, ht0⟩ hK hT hP hS (c_X6_tell l dd Y t ad ij F r1 a1 a2 _ _ _ hc3) m_ML_X0_68 sv_X6_tell hd_X6_tell rfl rfl ⟨Nat.le_of_ble_eq_true rfl, Nat.le_of_ble_eq_true rfl⟩ (xk_1).1 (ce6 (xk_1).2) rfl rfl hl.1 rfl (Nat.le_of_ble_eq_true rfl) dX0_fetch_26 ⟨Nat.zero_le _, Nat.zero_le _⟩ (fun H locs hn_r3 hP hS => ?_)
    exact x_iret hx hb hr hlocks rfl hP hS h dX0_fetch_29
  · have h := x_t (show r1 = 0 from c2) h
    refine lv_iconst (v := 0) hx hb dX0_fetch_14 (by decide) ?_
    refine lv_goto (tgt := 29) hx hb dX0_fetch_15 (by decide) ?_
    exact x_iret hx hb hr hlocks rfl hP hS h dX0_fetch_29
abbrev rm_X0_writeBlock : Room := { frames := 3, cells := 0, slots := 0, locals := 82 }
set_option maxHeartbeats 4000000 in
set_option maxRecDepth 100000 in
theorem c_X0_writeBlock (l : Launch) (dd : Dd) (Y : Yc) (t : Ts3) (ad : Nat → Nat) (ij : Ij XG ad) (F : Nat) (u3 : Nat) (g_u3 : IArr XG u3) (a1 a2 : Int32) (D0 D' : Mm) (r0 : Int32) (h : P_X0_writeBlock (gN XG) F u3 a1 a2 D0 = some (r0, D')) : Met l yX0_writeBlock wzX0_writeBlock rm_X0_writeBlock (va_Pc [.ref (ad 2), .int a1, .int a2, .ref (ad u3)] (Wd dd Y t XG ad D0)) (Qi dd Y XG ad .int r0 D') 0 0 (pA XG ad) := by
  refine Met.ofW (cc := cX0_writeBlock) (maxL := 6) (ret := (some .int)) (by decide) rfl ?_
  intro p e s m args below meth c s₁ B hml hv
  obtain ⟨rfl, hP, hK, hT⟩ := hv
  have hx := B.exec
  have hb := B.bytes
  have hr := B.returns
  have ht0 : ∀ w ∈ W0, w.before _ s = true := fun w h => atoms_spec (ws := wzX0_writeBlock) B.pre w (List.mem_cons_of_mem _ h)
  have hown : s.vm.findClass RX0 = some m.cls := findClass_of_methodNamed B.named
  have hlocks := B.notSynchronized
  have hS : va_S (pA XG ad) s.heap s.heap [] := va_S.rf
  have hl := lv_entry ([.ref (ad 2), .int a1, .int a2, .ref (ad u3)]) (n := 6) (Nat.le_of_ble_eq_true rfl)
  rw [lg_entry_eq]
  generalize (lg_sl ([.ref (ad 2), .int a1, .int a2, .ref (ad u3)]) ++ List.replicate (6 - (lg_sl ([.ref (ad 2), .int a1, .int a2, .ref (ad u3)])).length) Slot.unset).toArray = ls at hl ⊢
  have hl : lv_has ls 6 [(0, .ref (ad 2)), (1, .int a1), (2, .int a2), (3, .ref (ad u3))] := hl
  have hP : va_P dd vwCl (wW Y XG ad D0) s.heap := hP
  generalize D0 = D at h hP
  have h : ((bq (P_X0_ringOf a1) (if (D 2 3) = (-1) then (some (74, D)) else (some (66, D))) (fun w1 => if (D 2 3) = (-1) then (some (74, D)) else (bi (P_X0_isBlock (gN XG) F a1 a2 D) (fun r4 D4 => if r4 = 0 then (some (66, D4)) else (bi (P_X0_seek (gN XG) F w1 a1 a2 D4) (fun r6 D6 => if 0 ≤ r6 then (bi (P_X5_startOf (gN XG) F w1 r6 D6) (fun r8 D8 => bi (P_X5_putData (gN XG) F w1 u3 r8 D8) (fun r9 D9 => some (0, up2 D9 2 5 ((D9 2 5) + 1))))) else (some (-r6, up2 D6 2 6 ((D6 2 6) + 1))))))))) : Rs) = some (r0, D') := h
  refine lv_aload_n hx hb dX0_writeBlock_0 rfl (lv_at hl 0 rfl) ?_
  refine lv_iload_n hx hb dX0_writeBlock_1 rfl (lv_at hl 1 rfl) ?_
  refine x_callVq (As := [.int a1]) ⟨hx, hb, hml, hown, ht0⟩ hK hT hP hS (c_X0_ringOf l dd Y t ad ij a1 D) m_ML_X0_49 sv_X0_ringOf hd_X0_ringOf rfl rfl ⟨Nat.le_of_ble_eq_true rfl, Nat.le_of_ble_eq_true rfl⟩ (xk_2).1 (ce0 (xk_2).2) rfl rfl hl.1 rfl (Nat.le_of_ble_eq_true rfl) dX0_writeBlock_2 ⟨Nat.zero_le _, Nat.zero_le _⟩ (fun hq H locs hP hS => ?_) (fun w1 hq H locs hP hS => ?_)
  · have h := bq_n hq h
    refine lv_astoreN (lv' := [(4, .null), (0, .ref (ad 2)), (1, .int a1), (2, .int a2), (3, .ref (ad u3))]) hx hb dX0_writeBlock_5 hl (by decide) rfl (fun ls hl => ?_)
    refine lv_aload_n hx hb dX0_writeBlock_7 rfl (lv_at hl 1 rfl) ?_
    refine x_get hx hb ht0 u_X0 hown hK hP (xk_2).1 (ce0 (xk_2).2) rfl 3 (by decide) (ht0 _ m_FL_X0_15) rfl rfl dX0_writeBlock_8 ?_
    refine lv_iconst (v := (-1)) hx hb dX0_writeBlock_11 (by decide) ?_
    refine lv_icmp_ne (tgt := 18) hx hb dX0_writeBlock_12 (by decide) (fun c2 => ?_) (fun c2 => ?_)
    · have h := x_f (show ¬ ((D 2 3) = (-1)) from c2) h
      refine lv_aloadN hx hb dX0_writeBlock_18 (lv_at hl 0 rfl) ?_
      refine lv_ifnullN (tgt := 31) hx hb dX0_writeBlock_20 (by decide) ?_
      refine lv_bipush (v := 66) hx hb dX0_writeBlock_31 (by decide) ?_
      exact x_iret hx hb hr hlocks rfl hP hS h dX0_writeBlock_33
    · have h := x_t (show (D 2 3) = (-1) from c2) h
      refine lv_bipush (v := 74) hx hb dX0_writeBlock_15 (by decide) ?_
      exact x_iret hx hb hr hlocks rfl hP hS h dX0_writeBlock_17
  · have h := bq_s hq h
    have g_w1 : RingAt XG w1 := ringOf_at hq
    obtain ⟨k_w1, p_w1_0, p_w1_2, k_w11, k_w12⟩ := id g_w1
    refine lv_astore (lv' := [(4, .ref (ad w1)), (0, .ref (ad 2)), (1, .int a1), (2, .int a2), (3, .ref (ad u3))]) hx hb dX0_writeBlock_5 hl (by decide) rfl (fun ls hl => ?_)
    refine lv_aload_n hx hb dX0_writeBlock_7 rfl (lv_at hl 1 rfl) ?_
    refine x_get hx hb ht0 u_X0 hown hK hP (xk_2).1 (ce0 (xk_2).2) rfl 3 (by decide) (ht0 _ m_FL_X0_15) rfl rfl dX0_writeBlock_8 ?_
    refine lv_iconst (v := (-1)) hx hb dX0_writeBlock_11 (by decide) ?_
    refine lv_icmp_ne (tgt := 18) hx hb dX0_writeBlock_12 (by decide) (fun c3 => ?_) (fun c3 => ?_)
    · have h := x_f (show ¬ ((D 2 3) = (-1)) from c3) h
      refine lv_aload hx hb dX0_writeBlock_18 (lv_at hl 0 rfl) ?_
      refine lv_ifnull hx hb dX0_writeBlock_20 ?_
      refine lv_iload_n hx hb dX0_writeBlock_23 rfl (lv_at hl 2 rfl) ?_
      refine lv_iload_n hx hb dX0_writeBlock_24 rfl (lv_at hl 3 rfl) ?_
      obtain ⟨r4, D4, hc4, h⟩ := bi_some h
      refine x_callSi (As := [.int a1, .int a2]) ⟨hx, hb, hml, hown, ht0⟩ hK hT hP hS (c_X0_isBlock l dd Y t ad ij F a1 a2 _ _ _ hc4) m_ML_X0_77 ss_X0_isBlock hd_X0_isBlock rfl rfl ⟨Nat.le_of_ble_eq_true rfl, Nat.le_of_ble_eq_true rfl⟩ rfl hl.1 rfl (Nat.le_of_ble_eq_true rfl) dX0_writeBlock_25 ⟨Nat.zero_le _, Nat.zero_le _⟩ (fun H locs hn_r4 hP hS => ?_)
      refine lv_if_ne (tgt := 34) hx hb dX0_writeBlock_28 (by decide) (fun c5 => ?_) (fun c5 => ?_)
      · have h := x_f (show ¬ (r4 = 0) from c5) h
        refine lv_aload_n hx hb dX0_writeBlock_34 rfl (lv_at hl 1 rfl) ?_
        refine lv_aload hx hb dX0_writeBlock_35 (lv_at hl 0 rfl) ?_
        refine lv_iload_n hx hb dX0_writeBlock_37 rfl (lv_at hl 2 rfl) ?_
        refine lv_iload_n hx hb dX0_writeBlock_38 rfl (lv_at hl 3 rfl) ?_
        obtain ⟨r6, D6, hc6, h⟩ := bi_some h
        refine x_callVi (As := [.ref (ad w1), .int a1, .int a2]) ⟨hx, hb, hml, hown, ht0⟩ hK hT hP hS (c_X0_seek l dd Y t ad ij F w1 g_w1 a1 a2 _ _ _ hc6) m_ML_X0_81 sv_X0_seek hd_X0_seek rfl rfl ⟨Nat.le_of_ble_eq_true rfl, Nat.le_of_ble_eq_true rfl⟩ (xk_2).1 (ce0 (xk_2).2) rfl rfl hl.1 rfl (Nat.le_of_ble_eq_true rfl) dX0_writeBlock_39 ⟨Nat.zero_le _, Nat.zero_le _⟩ (fun H locs hn_r6 hP hS => ?_)
        refine lv_istore (lv' := [(5, .int r6), (4, .ref (ad w1)), (0, .ref (ad 2)), (1, .int a1), (2, .int a2), (3, .ref (ad u3))]) hx hb dX0_writeBlock_42 hl (by decide) rfl (fun ls hl => ?_)
        refine lv_iload hx hb dX0_writeBlock_44 (lv_at hl 0 rfl) ?_
        refine lv_if_ge (tgt := 63) hx hb dX0_writeBlock_46 (by decide) (fun c7 => ?_) (fun c7 => ?_)
        · have h := x_t (show 0 ≤ r6 from c7) h
          refine lv_aload hx hb dX0_writeBlock_63 (lv_at hl 1 rfl) ?_
          refine lv_aload hx hb dX0_writeBlock_65 (lv_at hl 1 rfl) ?_
          refine lv_iload hx hb dX0_writeBlock_67 (lv_at hl 0 rfl) ?_
          obtain ⟨r8, D8, hc8, h⟩ := bi_some h
          refine x_callVi (As := [.int r6]) ⟨hx, hb, hml, hown, ht0⟩ hK hT hP hS (c_X5_startOf l dd Y t XG ad ij F w1 g_w1 r6 _ _ _ hc8) m_ML_X0_88 sv_X5_startOf hd_X5_startOf rfl rfl ⟨Nat.le_of_ble_eq_true rfl, Nat.le_of_ble_eq_true rfl⟩ (k_w1).1 (ce5 (k_w1).2) rfl rfl hl.1 rfl (Nat.le_of_ble_eq_true rfl) dX0_writeBlock_69 ⟨Nat.zero_le _, Nat.zero_le _⟩ (fun H locs hn_r8 hP hS => ?_)
          refine lv_aload_n hx hb dX0_writeBlock_72 rfl (lv_at hl 5 rfl) ?_
          obtain ⟨r9, D9, hc9, h⟩ := bi_some h
          refine x_callVv (As := [.int r8, .ref (ad u3)]) ⟨hx, hb, hml, hown, ht0⟩ hK hT hP hS (c_X5_putData l dd Y t XG ad ij F w1 u3 g_w1 g_u3 r8 _ _ _ hc9) m_ML_X0_42 sv_X5_putData hd_X5_putData rfl rfl ⟨Nat.le_of_ble_eq_true rfl, Nat.le_of_ble_eq_true rfl⟩ (k_w1).1 (ce5 (k_w1).2) rfl rfl hl.1 rfl (Nat.le_of_ble_eq_true rfl) dX0_writeBlock_73 ⟨Nat.zero_le _, Nat.zero_le _⟩ (fun H locs hP hS => ?_)
          refine lv_aload_n hx hb dX0_writeBlock_76 rfl (lv_at hl 2 rfl) ?_
          refine lv_dup hx hb dX0_writeBlock_77 rfl ?_
          refine x_get hx hb ht0 u_X0 hown hK hP (xk_2).1 (ce0 (xk_2).2) rfl 5 (by decide) (ht0 _ m_FL_X0_101) rfl rfl dX0_writeBlock_78 ?_
          refine lv_iconst (v := 1) hx hb dX0_writeBlock_81 (by decide) ?_
          refine lv_iadd hx hb dX0_writeBlock_82 ?_
          refine x_put (ty := .int) hx hb ht0 u_X0 tyX0 tyX0_ok nmX0 hown hK ij hP hS (xk_2).1 (ce0 (xk_2).2) rfl 5 (by decide) (ht0 _ m_FL_X0_101) rfl rfl (by decide +kernel) rfl rfl (Nat.le_of_ble_eq_true rfl) (by rw [(xk_2).2]; rfl) dX0_writeBlock_83 (fun H locs hP hS => ?_)
          refine lv_iconst (v := 0) hx hb dX0_writeBlock_86 (by decide) ?_
          exact x_iret hx hb hr hlocks rfl hP hS h dX0_writeBlock_87
        · have h := x_f (show ¬ (0 ≤ r6) from c7) h
          refine lv_aload_n hx hb dX0_writeBlock_49 rfl (lv_at hl 2 rfl) ?_
          refine lv_dup hx hb dX0_writeBlock_50 rfl ?_
          refine x_get hx hb ht0 u_X0 hown hK hP (xk_2).1 (ce0 (xk_2).2) rfl 6 (by decide) (ht0 _ m_FL_X0_98) rfl rfl dX0_writeBlock_51 ?_
          refine lv_iconst (v := 1) hx hb dX0_writeBlock_54 (by decide) ?_
          refine lv_iadd hx hb dX0_writeBlock_55 ?_
          refine x_put (ty := .int) hx hb ht0 u_X0 tyX0 tyX0_ok nmX0 hown hK ij hP hS (xk_2).1 (ce0 (xk_2).2) rfl 6 (by decide) (ht0 _ m_FL_X0_98) rfl rfl (by decide +kernel) rfl rfl (Nat.le_of_ble_eq_true rfl) (by rw [(xk_2).2]; rfl) dX0_writeBlock_56 (fun H locs hP hS => ?_)
          refine lv_iload hx hb dX0_writeBlock_59 (lv_at hl 0 rfl) ?_
          refine lv_ineg hx hb dX0_writeBlock_61 ?_
          exact x_iret hx hb hr hlocks rfl hP hS h dX0_writeBlock_62
      · have h := x_t (show r4 = 0 from c5) h
        refine lv_bipush (v := 66) hx hb dX0_writeBlock_31 (by decide) ?_
        exact x_iret hx hb hr hlocks rfl hP hS h dX0_writeBlock_33
    · have h := x_t (show (D 2 3) = (-1) from c3) h
      refine lv_bipush (v := 74) hx hb dX0_writeBlock_15 (by decide) ?_
      exact x_iret hx hb hr hlocks rfl hP hS h dX0_writeBlock_17
abbrev rm_X0_store : Room := { frames := 4, cells := 0, slots := 0, locals := 107 }
set_option maxHeartbeats 4000000 in
set_option maxRecDepth 100000 in
theorem c_X0_store (l : Launch) (dd : Dd) (Y : Yc) (t : Ts3) (ad : Nat → Nat) (ij : Ij XG ad) (F : Nat) (u3 : Nat) (g_u3 : IArr XG u3) (a1 a2 : Int32) (D0 D' : Mm) (r0 : Int32) (h : P_X0_store (gN XG) F u3 a1 a2 D0 = some (r0, D')) : Met l yX0_store wzX0_store rm_X0_store (va_Pc [.ref (ad 2), .int a1, .int a2, .ref (ad u3)] (Wd dd Y t XG ad D0)) (Qi dd Y XG ad .int r0 D') 0 0 (pA XG ad) := by
  refine Met.ofW (cc := cX0_store) (maxL := 5) (ret := (some .int)) (by decide) rfl ?_
  intro p e s m args below meth c s₁ B hml hv
  obtain ⟨rfl, hP, hK, hT⟩ := hv
  have hx := B.exec
  have hb := B.bytes
  have hr := B.returns
  have ht0 : ∀ w ∈ W0, w.before _ s = true := fun w h => atoms_spec (ws := wzX0_store) B.pre w (List.mem_cons_of_mem _ h)
  have hown : s.vm.findClass RX0 = some m.cls := findClass_of_methodNamed B.named
  have hlocks := B.notSynchronized
  have hS : va_S (pA XG ad) s.heap s.heap [] := va_S.rf
  have hl := lv_entry ([.ref (ad 2), .int a1, .int a2, .ref (ad u3)]) (n := 5) (Nat.le_of_ble_eq_true rfl)
  rw [lg_entry_eq]
  generalize (lg_sl ([.ref (ad 2), .int a1, .int a2, .ref (ad u3)]) ++ List.replicate (5 - (lg_sl ([.ref (ad 2), .int a1, .int a2, .ref (ad u3)])).length) Slot.unset).toArray = ls at hl ⊢
  have hl : lv_has ls 5 [(0, .ref (ad 2)), (1, .int a1), (2, .int a2), (3, .ref (ad u3))] := hl
  have hP : va_P dd vwCl (wW Y XG ad D0) s.heap := hP
  generalize D0 = D at h hP
  have h : ((bi (P_X0_writeBlock (gN XG) F u3 a1 a2 D) (fun r1 D1 => if r1 = 0 then (some (0, D1)) else (bi (P_X6_tell (gN XG) F r1 a1 a2 D1) (fun r3 D3 => some (r3, D3))))) : Rs) = some (r0, D') := h
  refine lv_aload_n hx hb dX0_store_0 rfl (lv_at hl 0 rfl) ?_
  refine lv_iload_n hx hb dX0_store_1 rfl (lv_at hl 1 rfl) ?_
  refine lv_iload_n hx hb dX0_store_2 rfl (lv_at hl 2 rfl) ?_
  refine lv_aload_n hx hb dX0_store_3 rfl (lv_at hl 3 rfl) ?_
  obtain ⟨r1, D1, hc1, h⟩ := bi_some h
  refine x_callVi (As := [.int a1, .int a2, .ref (ad u3)]) ⟨hx, hb, hml, hown, ht0⟩ hK hT hP hS (c_X0_writeBlock l dd Y t ad ij F u3 g_u3 a1 a2 _ _ _ hc1) m_ML_X0_74 sv_X0_writeBlock hd_X0_writeBlock rfl rfl ⟨Nat.le_of_ble_eq_true rfl, Nat.le_of_ble_eq_true rfl⟩ (xk_2).1 (ce0 (xk_2).2) rfl rfl hl.1 rfl (Nat.le_of_ble_eq_true rfl) dX0_store_4 ⟨Nat.zero_le _, Nat.zero_le _⟩ (fun H locs hn_r1 hP hS => ?_)
  refine lv_istore (lv' := [(4, .int r1), (0, .ref (ad 2)), (1, .int a1), (2, .int a2), (3, .ref (ad u3))]) hx hb dX0_store_7 hl (by decide) rfl (fun ls hl => ?_)
  refine lv_iload hx hb dX0_store_9 (lv_at hl 0 rfl) ?_
  refine lv_if_ne (tgt := 18) hx hb dX0_store_11 (by decide) (fun c2 => ?_) (fun c2 => ?_)
  · have h := x_f (show ¬ (r1 = 0) from c2) h
    refine lv_aload_n hx hb dX0_store_18 rfl (lv_at hl 1 rfl) ?_
    refine x_get hx hb ht0 u_X0 hown hK hP (xk_2).1 (ce0 (xk_2).2) rfl 0 (by decide) (ht0 _ m_FL_X0_9) rfl (rfv (G := XG) (c := 2) (k := 0) (c' := 1) rfl) dX0_store_19 ?_
    refine lv_iload hx hb dX0_store_22 (lv_at hl 0 rfl) ?_
    refine lv_iload_n hx hb dX0_store_24 rfl (lv_at hl 2 rfl) ?_
    refine lv_iload_n hx hb dX0_store_25 rfl (lv_at hl 3 rfl) ?_
    obtain ⟨r3, D3, hc3, h⟩ := bi_some h
    refine x_callVi (As := [.int r1, .int a1, .int a2]) ⟨hx, hb, hml, hown, ht0⟩ hK hT hP hS (c_X6_tell l dd Y t ad ij F r1 a1 a2 _ _ _ hc3) m_ML_X0_68 sv_X6_tell hd_X6_tell rfl rfl ⟨Nat.le_of_ble_eq_true rfl, Nat.le_of_ble_eq_true rfl⟩ (xk_1).1 (ce6 (xk_1).2) rfl rfl hl.1 rfl (Nat.le_of_ble_eq_true rfl) dX0_store_26 ⟨Nat.zero_le _, Nat.zero_le _⟩ (fun H locs hn_r3 hP hS => ?_)
    exact x_iret hx hb hr hlocks rfl hP hS h dX0_store_29
  · have h := x_t (show r1 = 0 from c2) h
    refine lv_iconst (v := 0) hx hb dX0_store_14 (by decide) ?_
    refine lv_goto (tgt := 29) hx hb dX0_store_15 (by decide) ?_
    exact x_iret hx hb hr hlocks rfl hP hS h dX0_store_29
abbrev rm_X1_add : Room := { frames := 0, cells := 0, slots := 0, locals := 0 }
set_option maxHeartbeats 4000000 in
set_option maxRecDepth 100000 in
theorem c_X1_add (l : Launch) (dd : Dd) (Y : Yc) (t : Ts3) (G : Gr) (ad : Nat → Nat) (ij : Ij G ad) (F : Nat) (th : Nat) (g_th : BytesAt G th) (a1 : Int32) (D0 D' : Mm) (r0 : Int32) (h : P_X1_add (gN G) F th a1 D0 = some (r0, D')) : Met l yX1_add wzX1_add rm_X1_add (va_Pc [.ref (ad th), .int a1] (Wd dd Y t G ad D0)) (Qv dd Y G ad D') 0 0 (pA G ad) := by
  refine Met.ofW (cc := cX1_add) (maxL := 2) (ret := none) (by decide) rfl ?_
  intro p e s m args below meth c s₁ B hml hv
  obtain ⟨rfl, hP, hK, hT⟩ := hv
  have hx := B.exec
  have hb := B.bytes
  have hr := B.returns
  have ht0 : ∀ w ∈ W0, w.before _ s = true := fun w h => atoms_spec (ws := wzX1_add) B.pre w (List.mem_cons_of_mem _ h)
  have hown : s.vm.findClass RX1 = some m.cls := findClass_of_methodNamed B.named
  have hlocks := B.notSynchronized
  have hS : va_S (pA G ad) s.heap s.heap [] := va_S.rf
  obtain ⟨k_th, p_th_0, k_th1⟩ := id g_th
  have hl := lv_entry ([.ref (ad th), .int a1]) (n := 2) (Nat.le_of_ble_eq_true rfl)
  rw [lg_entry_eq]
  generalize (lg_sl ([.ref (ad th), .int a1]) ++ List.replicate (2 - (lg_sl ([.ref (ad th), .int a1])).length) Slot.unset).toArray = ls at hl ⊢
  have hl : lv_has ls 2 [(0, .ref (ad th)), (1, .int a1)] := hl
  have hP : va_P dd vwCl (wW Y G ad D0) s.heap := hP
  generalize D0 = D at h hP
  have h : ((if (nI ((gN G) (th + 1))) ≤ (D th 1) then (some (0, D)) else (if inB (D th 1) ((gN G) (th + 1)) = true then (some (0, up2 (up2 D (th + 1) (Int32.toNatClampNeg (D th 1)) (a1 &&& 255)) th 1 (((up2 D (th + 1) (Int32.toNatClampNeg (D th 1)) (a1 &&& 255)) th 1) + 1))) else none)) : Rs) = some (r0, D') := h
  refine lv_aload_n hx hb dX1_add_0 rfl (lv_at hl 0 rfl) ?_
  refine x_get hx hb ht0 u_X1 hown hK hP (k_th).1 (ce1 (k_th).2) rfl 1 (by decide) (ht0 _ m_FL_X1_19) rfl rfl dX1_add_1 ?_
  refine lv_aload_n hx hb dX1_add_4 rfl (lv_at hl 0 rfl) ?_
  refine x_get hx hb ht0 u_X1 hown hK hP (k_th).1 (ce1 (k_th).2) rfl 0 (by decide) (ht0 _ m_FL_X1_13) rfl (rfv p_th_0) dX1_add_5 ?_
  refine x_len hx hb hK hP k_th1 dX1_add_8 ?_
  refine lv_icmp_ge (tgt := 36) hx hb dX1_add_9 (by decide) (fun c1 => ?_) (fun c1 => ?_)
  · have h := x_t (show (nI ((gN G) (th + 1))) ≤ (D th 1) from c1) h
    exact x_vret hx hb hr hlocks hP hS h dX1_add_36
  · have h := x_f (show ¬ ((nI ((gN G) (th + 1))) ≤ (D th 1)) from c1) h
    refine lv_aload_n hx hb dX1_add_12 rfl (lv_at hl 0 rfl) ?_
    refine x_get hx hb ht0 u_X1 hown hK hP (k_th).1 (ce1 (k_th).2) rfl 0 (by decide) (ht0 _ m_FL_X1_13) rfl (rfv p_th_0) dX1_add_13 ?_
    refine lv_aload_n hx hb dX1_add_16 rfl (lv_at hl 0 rfl) ?_
    refine x_get hx hb ht0 u_X1 hown hK hP (k_th).1 (ce1 (k_th).2) rfl 1 (by decide) (ht0 _ m_FL_X1_19) rfl rfl dX1_add_17 ?_
    refine lv_iload_n hx hb dX1_add_20 rfl (lv_at hl 1 rfl) ?_
    refine lv_sipush (v := 255) hx hb dX1_add_21 (by decide) ?_
    refine lv_iand hx hb dX1_add_24 ?_
    obtain ⟨b2, h⟩ := x_if h
    refine x_ast hx hb hK ij hP hS k_th1 b2 dX1_add_25 (fun H locs hP hS => ?_)
    refine lv_aload_n hx hb dX1_add_26 rfl (lv_at hl 0 rfl) ?_
    refine lv_dup hx hb dX1_add_27 rfl ?_
    refine x_get hx hb ht0 u_X1 hown hK hP (k_th).1 (ce1 (k_th).2) rfl 1 (by decide) (ht0 _ m_FL_X1_19) rfl rfl dX1_add_28 ?_
    refine lv_iconst (v := 1) hx hb dX1_add_31 (by decide) ?_
    refine lv_iadd hx hb dX1_add_32 ?_
    refine x_put (ty := .int) hx hb ht0 u_X1 tyX1 tyX1_ok nmX1 hown hK ij hP hS (k_th).1 (ce1 (k_th).2) rfl 1 (by decide) (ht0 _ m_FL_X1_19) rfl rfl (by decide +kernel) rfl rfl (Nat.le_of_ble_eq_true rfl) (by rw [(k_th).2]; rfl) dX1_add_33 (fun H locs hP hS => ?_)
    exact x_vret hx hb hr hlocks hP hS h dX1_add_36
abbrev rm_X1_addNumber : Room := { frames := 1, cells := 0, slots := 0, locals := 21 }
set_option maxHeartbeats 4000000 in
set_option maxRecDepth 100000 in
theorem c_X1_addNumber (l : Launch) (dd : Dd) (Y : Yc) (t : Ts3) (G : Gr) (ad : Nat → Nat) (ij : Ij G ad) (F : Nat) (th : Nat) (g_th : BytesAt G th) (a1 : Int32) (D0 D' : Mm) (r0 : Int32) (h : P_X1_addNumber (gN G) F th a1 D0 = some (r0, D')) : Met l yX1_addNumber wzX1_addNumber rm_X1_addNumber (va_Pc [.ref (ad th), .int a1] (Wd dd Y t G ad D0)) (Qv dd Y G ad D') 0 0 (pA G ad) := by
  refine Met.ofW (cc := cX1_addNumber) (maxL := 2) (ret := none) (by decide) rfl ?_
  intro p e s m args below meth c s₁ B hml hv
  obtain ⟨rfl, hP, hK, hT⟩ := hv
  have hx := B.exec
  have hb := B.bytes
  have hr := B.returns
  have ht0 : ∀ w ∈ W0, w.before _ s = true := fun w h => atoms_spec (ws := wzX1_addNumber) B.pre w (List.mem_cons_of_mem _ h)
  have hown : s.vm.findClass RX1 = some m.cls := findClass_of_methodNamed B.named
  have hlocks := B.notSynchronized
  have hS : va_S (pA G ad) s.heap s.heap [] := va_S.rf
  obtain ⟨k_th, p_th_0, k_th1⟩ := id g_th
  have hl := lv_entry ([.ref (ad th), .int a1]) (n := 2) (Nat.le_of_ble_eq_true rfl)
  rw [lg_entry_eq]
  generalize (lg_sl ([.ref (ad th), .int a1]) ++ List.replicate (2 - (lg_sl ([.ref (ad th), .int a1])).length) Slot.unset).toArray = ls at hl ⊢
  have hl : lv_has ls 2 [(0, .ref (ad th)), (1, .int a1)] := hl
  have hP : va_P dd vwCl (wW Y G ad D0) s.heap := hP
  generalize D0 = D at h hP
  have h : ((bi (P_X1_add (gN G) F th (jush a1 24) D) (fun r1 D1 => bi (P_X1_add (gN G) F th (jush a1 16) D1) (fun r2 D2 => bi (P_X1_add (gN G) F th (jush a1 8) D2) (fun r3 D3 => bi (P_X1_add (gN G) F th a1 D3) (fun r4 D4 => some (0, D4)))))) : Rs) = some (r0, D') := h
  refine lv_aload_n hx hb dX1_addNumber_0 rfl (lv_at hl 0 rfl) ?_
  refine lv_iload_n hx hb dX1_addNumber_1 rfl (lv_at hl 1 rfl) ?_
  refine lv_bipush (v := 24) hx hb dX1_addNumber_2 (by decide) ?_
  refine lv_iushr (v := jush a1 24) hx hb dX1_addNumber_4 rfl ?_
  obtain ⟨r1, D1, hc1, h⟩ := bi_some h
  refine x_callVv (As := [.int (jush a1 24)]) ⟨hx, hb, hml, hown, ht0⟩ hK hT hP hS (c_X1_add l dd Y t G ad ij F th g_th (jush a1 24) _ _ _ hc1) m_ML_X1_23 sv_X1_add hd_X1_add rfl rfl ⟨Nat.le_of_ble_eq_true rfl, Nat.le_of_ble_eq_true rfl⟩ (k_th).1 (ce1 (k_th).2) rfl rfl hl.1 rfl (Nat.le_of_ble_eq_true rfl) dX1_addNumber_5 ⟨Nat.zero_le _, Nat.zero_le _⟩ (fun H locs hP hS => ?_)
  refine lv_aload_n hx hb dX1_addNumber_8 rfl (lv_at hl 0 rfl) ?_
  refine lv_iload_n hx hb dX1_addNumber_9 rfl (lv_at hl 1 rfl) ?_
  refine lv_bipush (v := 16) hx hb dX1_addNumber_10 (by decide) ?_
  refine lv_iushr (v := jush a1 16) hx hb dX1_addNumber_12 rfl ?_
  obtain ⟨r2, D2, hc2, h⟩ := bi_some h
  refine x_callVv (As := [.int (jush a1 16)]) ⟨hx, hb, hml, hown, ht0⟩ hK hT hP hS (c_X1_add l dd Y t G ad ij F th g_th (jush a1 16) _ _ _ hc2) m_ML_X1_23 sv_X1_add hd_X1_add rfl rfl ⟨Nat.le_of_ble_eq_true rfl, Nat.le_of_ble_eq_true rfl⟩ (k_th).1 (ce1 (k_th).2) rfl rfl hl.1 rfl (Nat.le_of_ble_eq_true rfl) dX1_addNumber_13 ⟨Nat.zero_le _, Nat.zero_le _⟩ (fun H locs hP hS => ?_)
  refine lv_aload_n hx hb dX1_addNumber_16 rfl (lv_at hl 0 rfl) ?_
  refine lv_iload_n hx hb dX1_addNumber_17 rfl (lv_at hl 1 rfl) ?_
  refine lv_bipush (v := 8) hx hb dX1_addNumber_18 (by decide) ?_
  refine lv_iushr (v := jush a1 8) hx hb dX1_addNumber_20 rfl ?_
  obtain ⟨r3, D3, hc3, h⟩ := bi_some h
  refine x_callVv (As := [.int (jush a1 8)]) ⟨hx, hb, hml, hown, ht0⟩ hK hT hP hS (c_X1_add l dd Y t G ad ij F th g_th (jush a1 8) _ _ _ hc3) m_ML_X1_23 sv_X1_add hd_X1_add rfl rfl ⟨Nat.le_of_ble_eq_true rfl, Nat.le_of_ble_eq_true rfl⟩ (k_th).1 (ce1 (k_th).2) rfl rfl hl.1 rfl (Nat.le_of_ble_eq_true rfl) dX1_addNumber_21 ⟨Nat.zero_le _, Nat.zero_le _⟩ (fun H locs hP hS => ?_)
  refine lv_aload_n hx hb dX1_addNumber_24 rfl (lv_at hl 0 rfl) ?_
  refine lv_iload_n hx hb dX1_addNumber_25 rfl (lv_at hl 1 rfl) ?_
  obtain ⟨r4, D4, hc4, h⟩ := bi_some h
  refine x_callVv (As := [.int a1]) ⟨hx, hb, hml, hown, ht0⟩ hK hT hP hS (c_X1_add l dd Y t G ad ij F th g_th a1 _ _ _ hc4) m_ML_X1_23 sv_X1_add hd_X1_add rfl rfl ⟨Nat.le_of_ble_eq_true rfl, Nat.le_of_ble_eq_true rfl⟩ (k_th).1 (ce1 (k_th).2) rfl rfl hl.1 rfl (Nat.le_of_ble_eq_true rfl) dX1_addNumber_26 ⟨Nat.zero_le _, Nat.zero_le _⟩ (fun H locs hP hS => ?_)
  exact x_vret hx hb hr hlocks hP hS h dX1_addNumber_29
abbrev rm_X1_addRow : Room := { frames := 1, cells := 0, slots := 0, locals := 21 }
set_option maxHeartbeats 4000000 in
set_option maxRecDepth 100000 in
theorem c_X1_addRow (l : Launch) (dd : Dd) (Y : Yc) (t : Ts3) (G : Gr) (ad : Nat → Nat) (ij : Ij G ad) (F : Nat) (th : Nat) (u1 : Nat) (g_th : BytesAt G th) (g_u1 : IArr G u1) (a2 a3 : Int32) (D0 D' : Mm) (r0 : Int32) (h : P_X1_addRow (gN G) F th u1 a2 a3 D0 = some (r0, D')) : Met l yX1_addRow wzX1_addRow rm_X1_addRow (va_Pc [.ref (ad th), .ref (ad u1), .int a2, .int a3] (Wd dd Y t G ad D0)) (Qv dd Y G ad D') 0 0 (pA G ad) := by
  refine Met.ofW (cc := cX1_addRow) (maxL := 5) (ret := none) (by decide) rfl ?_
  intro p e s m args below meth c s₁ B hml hv
  obtain ⟨rfl, hP, hK, hT⟩ := hv
  have hx := B.exec
  have hb := B.bytes
  have hr := B.returns
  have ht0 : ∀ w ∈ W0, w.before _ s = true := fun w h => atoms_spec (ws := wzX1_addRow) B.pre w (List.mem_cons_of_mem _ h)
  have hown : s.vm.findClass RX1 = some m.cls := findClass_of_methodNamed B.named
  have hlocks := B.notSynchronized
  have hS : va_S (pA G ad) s.heap s.heap [] := va_S.rf
  obtain ⟨k_th, p_th_0, k_th1⟩ := id g_th
  have L3 : ∀ (n : Nat), ∀ (x2 x3 x4 : Int32) (D : Mm) (H : Heap) (locs : List Loc) (ls : Array Slot), P_X1_addRow_3 (gN G) F th u1 n x2 x3 x4 D = some (r0, D') → va_P dd vwCl (wW Y G ad D) H → va_S (pA G ad) s.heap H locs → lv_has ls 5 [(0, .ref (ad th)), (1, .ref (ad u1)), (2, .int x2), (3, .int x3), (4, .int x4)] → W p l e (headSpec wzX1_addRow rm_X1_addRow).room s m ([.ref (ad th), .ref (ad u1), .int a2, .int a3].toArray) below meth c H locs 0 0 (MQ below (Qv dd Y G ad D') ([.ref (ad th), .ref (ad u1), .int a2, .int a3].toArray) s 0 0 (pA G ad)) (F0 m 3 ls []) := by
    intro n
    induction n with
    | zero =>
      intro x2 x3 x4 D H locs ls h hP hS hl
      cases h
    | succ n ih =>
      intro x2 x3 x4 D H locs ls h hP hS hl
      have h : ((if (x2 + x3) ≤ x4 then (some (0, D)) else (if (nI ((gN G) u1)) ≤ x4 then (some (0, D)) else (if inB x4 ((gN G) u1) = true then (bi (P_X1_add (gN G) F th (D u1 (Int32.toNatClampNeg x4)) D) (fun r4 D4 => P_X1_addRow_3 (gN G) F th u1 n x2 x3 (x4 + 1) D4)) else none))) : Rs) = some (r0, D') := h
      refine lv_iload hx hb dX1_addRow_3 (lv_at hl 4 rfl) ?_
      refine lv_iload_n hx hb dX1_addRow_5 rfl (lv_at hl 2 rfl) ?_
      refine lv_iload_n hx hb dX1_addRow_6 rfl (lv_at hl 3 rfl) ?_
      refine lv_iadd hx hb dX1_addRow_7 ?_
      refine lv_icmp_ge (tgt := 32) hx hb dX1_addRow_8 (by decide) (fun c1 => ?_) (fun c1 => ?_)
      · have h := x_t (show (x2 + x3) ≤ x4 from c1) h
        exact x_vret hx hb hr hlocks hP hS h dX1_addRow_32
      · have h := x_f (show ¬ ((x2 + x3) ≤ x4) from c1) h
        refine lv_iload hx hb dX1_addRow_11 (lv_at hl 4 rfl) ?_
        refine lv_aload_n hx hb dX1_addRow_13 rfl (lv_at hl 1 rfl) ?_
        refine x_len hx hb hK hP g_u1 dX1_addRow_14 ?_
        refine lv_icmp_ge (tgt := 32) hx hb dX1_addRow_15 (by decide) (fun c2 => ?_) (fun c2 => ?_)
        · have h := x_t (show (nI ((gN G) u1)) ≤ x4 from c2) h
          exact x_vret hx hb hr hlocks hP hS h dX1_addRow_32
        · have h := x_f (show ¬ ((nI ((gN G) u1)) ≤ x4) from c2) h
          refine lv_aload_n hx hb dX1_addRow_18 rfl (lv_at hl 0 rfl) ?_
          refine lv_aload_n hx hb dX1_addRow_19 rfl (lv_at hl 1 rfl) ?_
          refine lv_iload hx hb dX1_addRow_20 (lv_at hl 4 rfl) ?_
          obtain ⟨b3, h⟩ := x_if h
          refine x_ald hx hb hK hP g_u1 b3 dX1_addRow_22 ?_
          obtain ⟨r4, D4, hc4, h⟩ := bi_some h
          refine x_callVv (As := [.int (D u1 (Int32.toNatClampNeg x4))]) ⟨hx, hb, hml, hown, ht0⟩ hK hT hP hS (c_X1_add l dd Y t G ad ij F th g_th (D u1 (Int32.toNatClampNeg x4)) _ _ _ hc4) m_ML_X1_23 sv_X1_add hd_X1_add rfl rfl ⟨Nat.le_of_ble_eq_true rfl, Nat.le_of_ble_eq_true rfl⟩ (k_th).1 (ce1 (k_th).2) rfl rfl hl.1 rfl (Nat.le_of_ble_eq_true rfl) dX1_addRow_23 ⟨Nat.zero_le _, Nat.zero_le _⟩ (fun H locs hP hS => ?_)
          refine lv_iinc (v := x4 + 1) (lv' := [(4, .int (x4 + 1)), (0, .ref (ad th)), (1, .ref (ad u1)), (2, .int x2), (3, .int x3)]) hx hb dX1_addRow_26 hl (k := 4) rfl rfl (by decide) rfl (fun ls hl => ?_)
          refine lv_goto (tgt := 3) hx hb dX1_addRow_29 (by decide) ?_
          exact ih x2 x3 (x4 + 1) D4 _ _ _ h hP hS (lv_sub hl [1, 2, 3, 4, 0] rfl)
  have hl := lv_entry ([.ref (ad th), .ref (ad u1), .int a2, .int a3]) (n := 5) (Nat.le_of_ble_eq_true rfl)
  rw [lg_entry_eq]
  generalize (lg_sl ([.ref (ad th), .ref (ad u1), .int a2, .int a3]) ++ List.replicate (5 - (lg_sl ([.ref (ad th), .ref (ad u1), .int a2, .int a3])).length) Slot.unset).toArray = ls at hl ⊢
  have hl : lv_has ls 5 [(0, .ref (ad th)), (1, .ref (ad u1)), (2, .int a2), (3, .int a3)] := hl
  have hP : va_P dd vwCl (wW Y G ad D0) s.heap := hP
  generalize D0 = D at h hP
  have h : ((P_X1_addRow_3 (gN G) F th u1 F a2 a3 a2 D) : Rs) = some (r0, D') := h
  refine lv_iload_n hx hb dX1_addRow_0 rfl (lv_at hl 2 rfl) ?_
  refine lv_istore (lv' := [(4, .int a2), (0, .ref (ad th)), (1, .ref (ad u1)), (2, .int a2), (3, .int a3)]) hx hb dX1_addRow_1 hl (by decide) rfl (fun ls hl => ?_)
  exact L3 F a2 a3 a2 D _ _ _ h hP hS (lv_sub hl [1, 2, 3, 4, 0] rfl)
abbrev rm_X1_byteAt : Room := { frames := 0, cells := 0, slots := 0, locals := 0 }
set_option maxHeartbeats 4000000 in
set_option maxRecDepth 100000 in
theorem c_X1_byteAt (l : Launch) (dd : Dd) (Y : Yc) (t : Ts3) (G : Gr) (ad : Nat → Nat) (ij : Ij G ad) (F : Nat) (th : Nat) (g_th : BytesAt G th) (a1 : Int32) (D0 D' : Mm) (r0 : Int32) (h : P_X1_byteAt (gN G) F th a1 D0 = some (r0, D')) : Met l yX1_byteAt wzX1_byteAt rm_X1_byteAt (va_Pc [.ref (ad th), .int a1] (Wd dd Y t G ad D0)) (Qi dd Y G ad .int r0 D') 0 0 (pA G ad) := by
  refine Met.ofW (cc := cX1_byteAt) (maxL := 2) (ret := (some .int)) (by decide) rfl ?_
  intro p e s m args below meth c s₁ B hml hv
  obtain ⟨rfl, hP, hK, hT⟩ := hv
  have hx := B.exec
  have hb := B.bytes
  have hr := B.returns
  have ht0 : ∀ w ∈ W0, w.before _ s = true := fun w h => atoms_spec (ws := wzX1_byteAt) B.pre w (List.mem_cons_of_mem _ h)
  have hown : s.vm.findClass RX1 = some m.cls := findClass_of_methodNamed B.named
  have hlocks := B.notSynchronized
  have hS : va_S (pA G ad) s.heap s.heap [] := va_S.rf
  obtain ⟨k_th, p_th_0, k_th1⟩ := id g_th
  have hl := lv_entry ([.ref (ad th), .int a1]) (n := 2) (Nat.le_of_ble_eq_true rfl)
  rw [lg_entry_eq]
  generalize (lg_sl ([.ref (ad th), .int a1]) ++ List.replicate (2 - (lg_sl ([.ref (ad th), .int a1])).length) Slot.unset).toArray = ls at hl ⊢
  have hl : lv_has ls 2 [(0, .ref (ad th)), (1, .int a1)] := hl
  have hP : va_P dd vwCl (wW Y G ad D0) s.heap := hP
  generalize D0 = D at h hP
  have h : ((if a1 < 0 then (some ((-1), D)) else (if (D th 1) ≤ a1 then (some ((-1), D)) else (if inB a1 ((gN G) (th + 1)) = true then (some (D (th + 1) (Int32.toNatClampNeg a1), D)) else none))) : Rs) = some (r0, D') := h
  refine lv_iload_n hx hb dX1_byteAt_0 rfl (lv_at hl 1 rfl) ?_
  refine lv_if_lt (tgt := 21) hx hb dX1_byteAt_1 (by decide) (fun c1 => ?_) (fun c1 => ?_)
  · have h := x_t (show a1 < 0 from c1) h
    refine lv_iconst (v := (-1)) hx hb dX1_byteAt_21 (by decide) ?_
    exact x_iret hx hb hr hlocks rfl hP hS h dX1_byteAt_22
  · have h := x_f (show ¬ (a1 < 0) from c1) h
    refine lv_iload_n hx hb dX1_byteAt_4 rfl (lv_at hl 1 rfl) ?_
    refine lv_aload_n hx hb dX1_byteAt_5 rfl (lv_at hl 0 rfl) ?_
    refine x_get hx hb ht0 u_X1 hown hK hP (k_th).1 (ce1 (k_th).2) rfl 1 (by decide) (ht0 _ m_FL_X1_19) rfl rfl dX1_byteAt_6 ?_
    refine lv_icmp_ge (tgt := 21) hx hb dX1_byteAt_9 (by decide) (fun c2 => ?_) (fun c2 => ?_)
    · have h := x_t (show (D th 1) ≤ a1 from c2) h
      refine lv_iconst (v := (-1)) hx hb dX1_byteAt_21 (by decide) ?_
      exact x_iret hx hb hr hlocks rfl hP hS h dX1_byteAt_22
    · have h := x_f (show ¬ ((D th 1) ≤ a1) from c2) h
      refine lv_aload_n hx hb dX1_byteAt_12 rfl (lv_at hl 0 rfl) ?_
      refine x_get hx hb ht0 u_X1 hown hK hP (k_th).1 (ce1 (k_th).2) rfl 0 (by decide) (ht0 _ m_FL_X1_13) rfl (rfv p_th_0) dX1_byteAt_13 ?_
      refine lv_iload_n hx hb dX1_byteAt_16 rfl (lv_at hl 1 rfl) ?_
      obtain ⟨b3, h⟩ := x_if h
      refine x_ald hx hb hK hP k_th1 b3 dX1_byteAt_17 ?_
      refine lv_goto (tgt := 22) hx hb dX1_byteAt_18 (by decide) ?_
      exact x_iret hx hb hr hlocks rfl hP hS h dX1_byteAt_22
abbrev rm_X2_addBlock : Room := { frames := 0, cells := 0, slots := 0, locals := 0 }
set_option maxHeartbeats 4000000 in
set_option maxRecDepth 100000 in
theorem c_X2_addBlock (l : Launch) (dd : Dd) (Y : Yc) (t : Ts3) (ad : Nat → Nat) (ij : Ij XG ad) (F : Nat) (a1 a2 : Int32) (D0 D' : Mm) (r0 : Int32) (h : P_X2_addBlock (gN XG) F a1 a2 D0 = some (r0, D')) : Met l yX2_addBlock wzX2_addBlock rm_X2_addBlock (va_Pc [.ref (ad 61), .int a1, .int a2] (Wd dd Y t XG ad D0)) (Qv dd Y XG ad D') 0 0 (pA XG ad) := by
  refine Met.ofW (cc := cX2_addBlock) (maxL := 3) (ret := none) (by decide) rfl ?_
  intro p e s m args below meth c s₁ B hml hv
  obtain ⟨rfl, hP, hK, hT⟩ := hv
  have hx := B.exec
  have hb := B.bytes
  have hr := B.returns
  have ht0 : ∀ w ∈ W0, w.before _ s = true := fun w h => atoms_spec (ws := wzX2_addBlock) B.pre w (List.mem_cons_of_mem _ h)
  have hown : s.vm.findClass RX2 = some m.cls := findClass_of_methodNamed B.named
  have hlocks := B.notSynchronized
  have hS : va_S (pA XG ad) s.heap s.heap [] := va_S.rf
  have L29 : ∀ (D : Mm) (H : Heap) (locs : List Loc) (ls : Array Slot), P_X2_addBlock_29 (gN XG) F D = some (r0, D') → va_P dd vwCl (wW Y XG ad D) H → va_S (pA XG ad) s.heap H locs → lv_has ls 3 [(0, .ref (ad 61))] → W p l e (headSpec wzX2_addBlock rm_X2_addBlock).room s m ([.ref (ad 61), .int a1, .int a2].toArray) below meth c H locs 0 0 (MQ below (Qv dd Y XG ad D') ([.ref (ad 61), .int a1, .int a2].toArray) s 0 0 (pA XG ad)) (F0 m 29 ls []) := by
    intro D H locs ls h hP hS hl
    have h : ((some (0, up2 D 61 4 ((D 61 4) + 1))) : Rs) = some (r0, D') := h
    refine lv_aload_n hx hb dX2_addBlock_29 rfl (lv_at hl 0 rfl) ?_
    refine lv_dup hx hb dX2_addBlock_30 rfl ?_
    refine x_get hx hb ht0 u_X2 hown hK hP (xk_61).1 (ce2 (xk_61).2) rfl 4 (by decide) (ht0 _ m_FL_X2_29) rfl rfl dX2_addBlock_31 ?_
    refine lv_iconst (v := 1) hx hb dX2_addBlock_34 (by decide) ?_
    refine lv_iadd hx hb dX2_addBlock_35 ?_
    refine x_put (ty := .int) hx hb ht0 u_X2 tyX2 tyX2_ok nmX2 hown hK ij hP hS (xk_61).1 (ce2 (xk_61).2) rfl 4 (by decide) (ht0 _ m_FL_X2_29) rfl rfl (by decide +kernel) rfl rfl (Nat.le_of_ble_eq_true rfl) (by rw [(xk_61).2]; rfl) dX2_addBlock_36 (fun H locs hP hS => ?_)
    exact x_vret hx hb hr hlocks hP hS h dX2_addBlock_39
  have hl := lv_entry ([.ref (ad 61), .int a1, .int a2]) (n := 3) (Nat.le_of_ble_eq_true rfl)
  rw [lg_entry_eq]
  generalize (lg_sl ([.ref (ad 61), .int a1, .int a2]) ++ List.replicate (3 - (lg_sl ([.ref (ad 61), .int a1, .int a2])).length) Slot.unset).toArray = ls at hl ⊢
  have hl : lv_has ls 3 [(0, .ref (ad 61)), (1, .int a1), (2, .int a2)] := hl
  have hP : va_P dd vwCl (wW Y XG ad D0) s.heap := hP
  generalize D0 = D at h hP
  have h : ((if 40 ≤ (D 61 4) then (some (0, D)) else (if inB (D 61 4) ((gN XG) 62) = true then (if inB ((up2 D 62 (Int32.toNatClampNeg (D 61 4)) a1) 61 4) ((gN XG) 63) = true then (P_X2_addBlock_29 (gN XG) F (up2 (up2 D 62 (Int32.toNatClampNeg (D 61 4)) a1) 63 (Int32.toNatClampNeg ((up2 D 62 (Int32.toNatClampNeg (D 61 4)) a1) 61 4)) a2)) else none) else none)) : Rs) = some (r0, D') := h
  refine lv_aload_n hx hb dX2_addBlock_0 rfl (lv_at hl 0 rfl) ?_
  refine x_get hx hb ht0 u_X2 hown hK hP (xk_61).1 (ce2 (xk_61).2) rfl 4 (by decide) (ht0 _ m_FL_X2_29) rfl rfl dX2_addBlock_1 ?_
  refine lv_bipush (v := 40) hx hb dX2_addBlock_4 (by decide) ?_
  refine lv_icmp_ge (tgt := 39) hx hb dX2_addBlock_6 (by decide) (fun c1 => ?_) (fun c1 => ?_)
  · have h := x_t (show 40 ≤ (D 61 4) from c1) h
    exact x_vret hx hb hr hlocks hP hS h dX2_addBlock_39
  · have h := x_f (show ¬ (40 ≤ (D 61 4)) from c1) h
    refine lv_aload_n hx hb dX2_addBlock_9 rfl (lv_at hl 0 rfl) ?_
    refine x_get hx hb ht0 u_X2 hown hK hP (xk_61).1 (ce2 (xk_61).2) rfl 2 (by decide) (ht0 _ m_FL_X2_9) rfl (rfv (G := XG) (c := 61) (k := 2) (c' := 62) rfl) dX2_addBlock_10 ?_
    refine lv_aload_n hx hb dX2_addBlock_13 rfl (lv_at hl 0 rfl) ?_
    refine x_get hx hb ht0 u_X2 hown hK hP (xk_61).1 (ce2 (xk_61).2) rfl 4 (by decide) (ht0 _ m_FL_X2_29) rfl rfl dX2_addBlock_14 ?_
    refine lv_iload_n hx hb dX2_addBlock_17 rfl (lv_at hl 1 rfl) ?_
    obtain ⟨b2, h⟩ := x_if h
    refine x_ast hx hb hK ij hP hS xk_62 b2 dX2_addBlock_18 (fun H locs hP hS => ?_)
    refine lv_aload_n hx hb dX2_addBlock_19 rfl (lv_at hl 0 rfl) ?_
    refine x_get hx hb ht0 u_X2 hown hK hP (xk_61).1 (ce2 (xk_61).2) rfl 3 (by decide) (ht0 _ m_FL_X2_15) rfl (rfv (G := XG) (c := 61) (k := 3) (c' := 63) rfl) dX2_addBlock_20 ?_
    refine lv_aload_n hx hb dX2_addBlock_23 rfl (lv_at hl 0 rfl) ?_
    refine x_get hx hb ht0 u_X2 hown hK hP (xk_61).1 (ce2 (xk_61).2) rfl 4 (by decide) (ht0 _ m_FL_X2_29) rfl rfl dX2_addBlock_24 ?_
    refine lv_iload_n hx hb dX2_addBlock_27 rfl (lv_at hl 2 rfl) ?_
    obtain ⟨b3, h⟩ := x_if h
    refine x_ast hx hb hK ij hP hS xk_63 b3 dX2_addBlock_28 (fun H locs hP hS => ?_)
    exact L29 (up2 (up2 D 62 (Int32.toNatClampNeg (D 61 4)) a1) 63 (Int32.toNatClampNeg ((up2 D 62 (Int32.toNatClampNeg (D 61 4)) a1) 61 4)) a2) _ _ _ h hP hS (lv_sub hl [0] rfl)
abbrev rm_X4_isFree : Room := { frames := 2, cells := 0, slots := 0, locals := 41 }
set_option maxHeartbeats 4000000 in
set_option maxRecDepth 100000 in
theorem c_X4_isFree (l : Launch) (dd : Dd) (Y : Yc) (t : Ts3) (ad : Nat → Nat) (ij : Ij XG ad) (F : Nat) (a1 a2 : Int32) (D0 D' : Mm) (r0 : Int32) (h : P_X4_isFree (gN XG) F a1 a2 D0 = some (r0, D')) : Met l yX4_isFree wzX4_isFree rm_X4_isFree (va_Pc [.ref (ad 56), .int a1, .int a2] (Wd dd Y t XG ad D0)) (Qi dd Y XG ad .boolean r0 D') 0 0 (pA XG ad) := by
  refine Met.ofW (cc := cX4_isFree) (maxL := 3) (ret := (some .boolean)) (by decide) rfl ?_
  intro p e s m args below meth c s₁ B hml hv
  obtain ⟨rfl, hP, hK, hT⟩ := hv
  have hx := B.exec
  have hb := B.bytes
  have hr := B.returns
  have ht0 : ∀ w ∈ W0, w.before _ s = true := fun w h => atoms_spec (ws := wzX4_isFree) B.pre w (List.mem_cons_of_mem _ h)
  have hown : s.vm.findClass RX4 = some m.cls := findClass_of_methodNamed B.named
  have hlocks := B.notSynchronized
  have hS : va_S (pA XG ad) s.heap s.heap [] := va_S.rf
  have hl := lv_entry ([.ref (ad 56), .int a1, .int a2]) (n := 3) (Nat.le_of_ble_eq_true rfl)
  rw [lg_entry_eq]
  generalize (lg_sl ([.ref (ad 56), .int a1, .int a2]) ++ List.replicate (3 - (lg_sl ([.ref (ad 56), .int a1, .int a2])).length) Slot.unset).toArray = ls at hl ⊢
  have hl : lv_has ls 3 [(0, .ref (ad 56)), (1, .int a1), (2, .int a2)] := hl
  have hP : va_P dd vwCl (wW Y XG ad D0) s.heap := hP
  generalize D0 = D at h hP
  have h : ((bi (P_X0_isBlock (gN XG) F a1 a2 D) (fun r1 D1 => if r1 = 0 then (some (0, D1)) else (if inB ((2 * a1) + (a2 / 8)) ((gN XG) 57) = true then (if (((D1 57 (Int32.toNatClampNeg ((2 * a1) + (a2 / 8)))) >>> ((jrem a2 8) &&& 31)) &&& 1) = 1 then (some (1, D1)) else (some (0, D1))) else none))) : Rs) = some (r0, D') := h
  refine lv_iload_n hx hb dX4_isFree_0 rfl (lv_at hl 1 rfl) ?_
  refine lv_iload_n hx hb dX4_isFree_1 rfl (lv_at hl 2 rfl) ?_
  obtain ⟨r1, D1, hc1, h⟩ := bi_some h
  refine x_callSi (As := [.int a1, .int a2]) ⟨hx, hb, hml, hown, ht0⟩ hK hT hP hS (c_X0_isBlock l dd Y t ad ij F a1 a2 _ _ _ hc1) m_ML_X4_33 ss_X0_isBlock hd_X0_isBlock rfl rfl ⟨Nat.le_of_ble_eq_true rfl, Nat.le_of_ble_eq_true rfl⟩ rfl hl.1 rfl (Nat.le_of_ble_eq_true rfl) dX4_isFree_2 ⟨Nat.zero_le _, Nat.zero_le _⟩ (fun H locs hn_r1 hP hS => ?_)
  refine lv_if_eq (tgt := 36) hx hb dX4_isFree_5 (by decide) (fun c2 => ?_) (fun c2 => ?_)
  · have h := x_t (show r1 = 0 from c2) h
    refine lv_iconst (v := 0) hx hb dX4_isFree_36 (by decide) ?_
    exact x_iret hx hb hr hlocks rfl hP hS h dX4_isFree_37
  · have h := x_f (show ¬ (r1 = 0) from c2) h
    refine lv_aload_n hx hb dX4_isFree_8 rfl (lv_at hl 0 rfl) ?_
    refine x_get hx hb ht0 u_X4 hown hK hP (xk_56).1 (ce4 (xk_56).2) rfl 0 (by decide) (ht0 _ m_FL_X4_9) rfl (rfv (G := XG) (c := 56) (k := 0) (c' := 57) rfl) dX4_isFree_9 ?_
    refine lv_iconst (v := 2) hx hb dX4_isFree_12 (by decide) ?_
    refine lv_iload_n hx hb dX4_isFree_13 rfl (lv_at hl 1 rfl) ?_
    refine lv_imul hx hb dX4_isFree_14 ?_
    refine lv_iload_n hx hb dX4_isFree_15 rfl (lv_at hl 2 rfl) ?_
    refine lv_bipush (v := 8) hx hb dX4_isFree_16 (by decide) ?_
    refine lv_idiv hx hb dX4_isFree_18 (by decide) ?_
    refine lv_iadd hx hb dX4_isFree_19 ?_
    obtain ⟨b3, h⟩ := x_if h
    refine x_ald hx hb hK hP xk_57 b3 dX4_isFree_20 ?_
    refine lv_iload_n hx hb dX4_isFree_21 rfl (lv_at hl 2 rfl) ?_
    refine lv_bipush (v := 8) hx hb dX4_isFree_22 (by decide) ?_
    refine lv_irem hx hb dX4_isFree_24 (by decide) ?_
    refine lv_ishr hx hb dX4_isFree_25 ?_
    refine lv_iconst (v := 1) hx hb dX4_isFree_26 (by decide) ?_
    refine lv_iand hx hb dX4_isFree_27 ?_
    refine lv_iconst (v := 1) hx hb dX4_isFree_28 (by decide) ?_
    refine lv_icmp_ne (tgt := 36) hx hb dX4_isFree_29 (by decide) (fun c4 => ?_) (fun c4 => ?_)
    · have h := x_f (show ¬ ((((D1 57 (Int32.toNatClampNeg ((2 * a1) + (a2 / 8)))) >>> ((jrem a2 8) &&& 31)) &&& 1) = 1) from c4) h
      refine lv_iconst (v := 0) hx hb dX4_isFree_36 (by decide) ?_
      exact x_iret hx hb hr hlocks rfl hP hS h dX4_isFree_37
    · have h := x_t (show (((D1 57 (Int32.toNatClampNeg ((2 * a1) + (a2 / 8)))) >>> ((jrem a2 8) &&& 31)) &&& 1) = 1 from c4) h
      refine lv_iconst (v := 1) hx hb dX4_isFree_32 (by decide) ?_
      refine lv_goto (tgt := 37) hx hb dX4_isFree_33 (by decide) ?_
      exact x_iret hx hb hr hlocks rfl hP hS h dX4_isFree_37
abbrev rm_X4_setFree : Room := { frames := 2, cells := 0, slots := 0, locals := 41 }
set_option maxHeartbeats 4000000 in
set_option maxRecDepth 100000 in
theorem c_X4_setFree (l : Launch) (dd : Dd) (Y : Yc) (t : Ts3) (ad : Nat → Nat) (ij : Ij XG ad) (F : Nat) (a1 a2 a3 : Int32) (D0 D' : Mm) (r0 : Int32) (h : P_X4_setFree (gN XG) F a1 a2 a3 D0 = some (r0, D')) : Met l yX4_setFree wzX4_setFree rm_X4_setFree (va_Pc [.ref (ad 56), .int a1, .int a2, .int a3] (Wd dd Y t XG ad D0)) (Qv dd Y XG ad D') 0 0 (pA XG ad) := by
  refine Met.ofW (cc := cX4_setFree) (maxL := 6) (ret := none) (by decide) rfl ?_
  intro p e s m args below meth c s₁ B hml hv
  obtain ⟨rfl, hP, hK, hT⟩ := hv
  have hx := B.exec
  have hb := B.bytes
  have hr := B.returns
  have ht0 : ∀ w ∈ W0, w.before _ s = true := fun w h => atoms_spec (ws := wzX4_setFree) B.pre w (List.mem_cons_of_mem _ h)
  have hown : s.vm.findClass RX4 = some m.cls := findClass_of_methodNamed B.named
  have hlocks := B.notSynchronized
  have hS : va_S (pA XG ad) s.heap s.heap [] := va_S.rf
  have L26 : ∀ (x3 x4 x5 : Int32) (D : Mm) (H : Heap) (locs : List Loc) (ls : Array Slot), P_X4_setFree_26 (gN XG) F x3 x4 x5 D = some (r0, D') → va_P dd vwCl (wW Y XG ad D) H → va_S (pA XG ad) s.heap H locs → lv_has ls 6 [(0, .ref (ad 56)), (3, .int x3), (4, .int x4), (5, .int x5)] → W p l e (headSpec wzX4_setFree rm_X4_setFree).room s m ([.ref (ad 56), .int a1, .int a2, .int a3].toArray) below meth c H locs 0 0 (MQ below (Qv dd Y XG ad D') ([.ref (ad 56), .int a1, .int a2, .int a3].toArray) s 0 0 (pA XG ad)) (F0 m 26 ls []) := by
    intro x3 x4 x5 D H locs ls h hP hS hl
    have h : ((if x3 = 0 then (if inB x4 ((gN XG) 57) = true then (if inB x4 ((gN XG) 57) = true then (some (0, up2 D 57 (Int32.toNatClampNeg x4) ((D 57 (Int32.toNatClampNeg x4)) &&& (x5 ^^^ (-1))))) else none) else none) else (if inB x4 ((gN XG) 57) = true then (if inB x4 ((gN XG) 57) = true then (some (0, up2 D 57 (Int32.toNatClampNeg x4) ((D 57 (Int32.toNatClampNeg x4)) ||| x5))) else none) else none)) : Rs) = some (r0, D') := h
    refine lv_aload_n hx hb dX4_setFree_26 rfl (lv_at hl 0 rfl) ?_
    refine x_get hx hb ht0 u_X4 hown hK hP (xk_56).1 (ce4 (xk_56).2) rfl 0 (by decide) (ht0 _ m_FL_X4_9) rfl (rfv (G := XG) (c := 56) (k := 0) (c' := 57) rfl) dX4_setFree_27 ?_
    refine lv_iload hx hb dX4_setFree_30 (lv_at hl 2 rfl) ?_
    refine lv_iload_n hx hb dX4_setFree_32 rfl (lv_at hl 1 rfl) ?_
    refine lv_if_eq (tgt := 49) hx hb dX4_setFree_33 (by decide) (fun c1 => ?_) (fun c1 => ?_)
    · have h := x_t (show x3 = 0 from c1) h
      refine lv_aload_n hx hb dX4_setFree_49 rfl (lv_at hl 0 rfl) ?_
      refine x_get hx hb ht0 u_X4 hown hK hP (xk_56).1 (ce4 (xk_56).2) rfl 0 (by decide) (ht0 _ m_FL_X4_9) rfl (rfv (G := XG) (c := 56) (k := 0) (c' := 57) rfl) dX4_setFree_50 ?_
      refine lv_iload hx hb dX4_setFree_53 (lv_at hl 2 rfl) ?_
      obtain ⟨b2, h⟩ := x_if h
      refine x_ald hx hb hK hP xk_57 b2 dX4_setFree_55 ?_
      refine lv_iload hx hb dX4_setFree_56 (lv_at hl 3 rfl) ?_
      refine lv_iconst (v := (-1)) hx hb dX4_setFree_58 (by decide) ?_
      refine lv_ixor hx hb dX4_setFree_59 ?_
      refine lv_iand hx hb dX4_setFree_60 ?_
      obtain ⟨b3, h⟩ := x_if h
      refine x_ast hx hb hK ij hP hS xk_57 b3 dX4_setFree_61 (fun H locs hP hS => ?_)
      exact x_vret hx hb hr hlocks hP hS h dX4_setFree_62
    · have h := x_f (show ¬ (x3 = 0) from c1) h
      refine lv_aload_n hx hb dX4_setFree_36 rfl (lv_at hl 0 rfl) ?_
      refine x_get hx hb ht0 u_X4 hown hK hP (xk_56).1 (ce4 (xk_56).2) rfl 0 (by decide) (ht0 _ m_FL_X4_9) rfl (rfv (G := XG) (c := 56) (k := 0) (c' := 57) rfl) dX4_setFree_37 ?_
      refine lv_iload hx hb dX4_setFree_40 (lv_at hl 2 rfl) ?_
      obtain ⟨b4, h⟩ := x_if h
      refine x_ald hx hb hK hP xk_57 b4 dX4_setFree_42 ?_
      refine lv_iload hx hb dX4_setFree_43 (lv_at hl 3 rfl) ?_
      refine lv_ior hx hb dX4_setFree_45 ?_
      refine lv_goto (tgt := 61) hx hb dX4_setFree_46 (by decide) ?_
      obtain ⟨b5, h⟩ := x_if h
      refine x_ast hx hb hK ij hP hS xk_57 b5 dX4_setFree_61 (fun H locs hP hS => ?_)
      exact x_vret hx hb hr hlocks hP hS h dX4_setFree_62
  have hl := lv_entry ([.ref (ad 56), .int a1, .int a2, .int a3]) (n := 6) (Nat.le_of_ble_eq_true rfl)
  rw [lg_entry_eq]
  generalize (lg_sl ([.ref (ad 56), .int a1, .int a2, .int a3]) ++ List.replicate (6 - (lg_sl ([.ref (ad 56), .int a1, .int a2, .int a3])).length) Slot.unset).toArray = ls at hl ⊢
  have hl : lv_has ls 6 [(0, .ref (ad 56)), (1, .int a1), (2, .int a2), (3, .int a3)] := hl
  have hP : va_P dd vwCl (wW Y XG ad D0) s.heap := hP
  generalize D0 = D at h hP
  have h : ((bi (P_X0_isBlock (gN XG) F a1 a2 D) (fun r6 D6 => if r6 = 0 then (some (0, D6)) else (P_X4_setFree_26 (gN XG) F a3 ((2 * a1) + (a2 / 8)) (1 <<< ((jrem a2 8) &&& 31)) D6))) : Rs) = some (r0, D') := h
  refine lv_iload_n hx hb dX4_setFree_0 rfl (lv_at hl 1 rfl) ?_
  refine lv_iload_n hx hb dX4_setFree_1 rfl (lv_at hl 2 rfl) ?_
  obtain ⟨r6, D6, hc6, h⟩ := bi_some h
  refine x_callSi (As := [.int a1, .int a2]) ⟨hx, hb, hml, hown, ht0⟩ hK hT hP hS (c_X0_isBlock l dd Y t ad ij F a1 a2 _ _ _ hc6) m_ML_X4_33 ss_X0_isBlock hd_X0_isBlock rfl rfl ⟨Nat.le_of_ble_eq_true rfl, Nat.le_of_ble_eq_true rfl⟩ rfl hl.1 rfl (Nat.le_of_ble_eq_true rfl) dX4_setFree_2 ⟨Nat.zero_le _, Nat.zero_le _⟩ (fun H locs hn_r6 hP hS => ?_)
  refine lv_if_eq (tgt := 62) hx hb dX4_setFree_5 (by decide) (fun c7 => ?_) (fun c7 => ?_)
  · have h := x_t (show r6 = 0 from c7) h
    exact x_vret hx hb hr hlocks hP hS h dX4_setFree_62
  · have h := x_f (show ¬ (r6 = 0) from c7) h
    refine lv_iconst (v := 2) hx hb dX4_setFree_8 (by decide) ?_
    refine lv_iload_n hx hb dX4_setFree_9 rfl (lv_at hl 1 rfl) ?_
    refine lv_imul hx hb dX4_setFree_10 ?_
    refine lv_iload_n hx hb dX4_setFree_11 rfl (lv_at hl 2 rfl) ?_
    refine lv_bipush (v := 8) hx hb dX4_setFree_12 (by decide) ?_
    refine lv_idiv hx hb dX4_setFree_14 (by decide) ?_
    refine lv_iadd hx hb dX4_setFree_15 ?_
    refine lv_istore (lv' := [(4, .int ((2 * a1) + (a2 / 8))), (0, .ref (ad 56)), (1, .int a1), (2, .int a2), (3, .int a3)]) hx hb dX4_setFree_16 hl (by decide) rfl (fun ls hl => ?_)
    refine lv_iconst (v := 1) hx hb dX4_setFree_18 (by decide) ?_
    refine lv_iload_n hx hb dX4_setFree_19 rfl (lv_at hl 3 rfl) ?_
    refine lv_bipush (v := 8) hx hb dX4_setFree_20 (by decide) ?_
    refine lv_irem hx hb dX4_setFree_22 (by decide) ?_
    refine lv_ishl hx hb dX4_setFree_23 ?_
    refine lv_istore (lv' := [(5, .int (1 <<< ((jrem a2 8) &&& 31))), (4, .int ((2 * a1) + (a2 / 8))), (0, .ref (ad 56)), (1, .int a1), (2, .int a2), (3, .int a3)]) hx hb dX4_setFree_24 hl (by decide) rfl (fun ls hl => ?_)
    exact L26 a3 ((2 * a1) + (a2 / 8)) (1 <<< ((jrem a2 8) &&& 31)) D6 _ _ _ h hP hS (lv_sub hl [2, 5, 1, 0] rfl)
abbrev rm_X2_take : Room := { frames := 3, cells := 0, slots := 0, locals := 66 }
set_option maxHeartbeats 4000000 in
set_option maxRecDepth 100000 in
theorem c_X2_take (l : Launch) (dd : Dd) (Y : Yc) (t : Ts3) (ad : Nat → Nat) (ij : Ij XG ad) (F : Nat) (a2 : Int32) (D0 D' : Mm) (r0 : Int32) (h : P_X2_take (gN XG) F a2 D0 = some (r0, D')) : Met l yX2_take wzX2_take rm_X2_take (va_Pc [.ref (ad 61), .ref (ad 56), .int a2] (Wd dd Y t XG ad D0)) (Qi dd Y XG ad .boolean r0 D') 0 0 (pA XG ad) := by
  refine Met.ofW (cc := cX2_take) (maxL := 9) (ret := (some .boolean)) (by decide) rfl ?_
  intro p e s m args below meth c s₁ B hml hv
  obtain ⟨rfl, hP, hK, hT⟩ := hv
  have hx := B.exec
  have hb := B.bytes
  have hr := B.returns
  have ht0 : ∀ w ∈ W0, w.before _ s = true := fun w h => atoms_spec (ws := wzX2_take) B.pre w (List.mem_cons_of_mem _ h)
  have hown : s.vm.findClass RX2 = some m.cls := findClass_of_methodNamed B.named
  have hlocks := B.notSynchronized
  have hS : va_S (pA XG ad) s.heap s.heap [] := va_S.rf
  have L39 : ∀ (k16 : Int32 → Int32 → Int32 → Mm → Rs) (hk16 : ∀ (x2 x4 x5 : Int32) (D : Mm) (H : Heap) (locs : List Loc) (ls : Array Slot), k16 x2 x4 x5 D = some (r0, D') → va_P dd vwCl (wW Y XG ad D) H → va_S (pA XG ad) s.heap H locs → lv_has ls 9 [(0, .ref (ad 61)), (1, .ref (ad 56)), (2, .int x2), (3, .ref t.2.2), (4, .int x4), (5, .int x5)] → W p l e (headSpec wzX2_take rm_X2_take).room s m ([.ref (ad 61), .ref (ad 56), .int a2].toArray) below meth c H locs 0 0 (MQ below (Qi dd Y XG ad .boolean r0 D') ([.ref (ad 61), .ref (ad 56), .int a2].toArray) s 0 0 (pA XG ad)) (F0 m 16 ls [])), ∀ (n : Nat), ∀ (x2 x4 x5 x6 x7 x8 : Int32) (D : Mm) (H : Heap) (locs : List Loc) (ls : Array Slot), P_X2_take_39 (gN XG) F k16 n x2 x4 x5 x6 x7 x8 D = some (r0, D') → va_P dd vwCl (wW Y XG ad D) H → va_S (pA XG ad) s.heap H locs → lv_has ls 9 [(0, .ref (ad 61)), (1, .ref (ad 56)), (2, .int x2), (3, .ref t.2.2), (4, .int x4), (5, .int x5), (6, .int x6), (7, .int x7), (8, .int x8)] → W p l e (headSpec wzX2_take rm_X2_take).room s m ([.ref (ad 61), .ref (ad 56), .int a2].toArray) below meth c H locs 0 0 (MQ below (Qi dd Y XG ad .boolean r0 D') ([.ref (ad 61), .ref (ad 56), .int a2].toArray) s 0 0 (pA XG ad)) (F0 m 39 ls []) := by
    intro k16 hk16 n
    induction n with
    | zero =>
      intro x2 x4 x5 x6 x7 x8 D H locs ls h hP hS hl
      cases h
    | succ n ih =>
      intro x2 x4 x5 x6 x7 x8 D H locs ls h hP hS hl
      have h : ((if x7 ≤ x8 then (k16 x2 x4 (x5 + 1) D) else (if x2 ≤ (D 61 4) then (k16 x2 x4 (x5 + 1) D) else (bi (P_X4_isFree (gN XG) F x6 x8 D) (fun r3 D3 => if r3 = 0 then (P_X2_take_39 (gN XG) F k16 n x2 x4 x5 x6 x7 (x8 + 1) D3) else (bi (P_X4_setFree (gN XG) F x6 x8 0 D3) (fun r5 D5 => bi (P_X2_addBlock (gN XG) F x6 x8 D5) (fun r6 D6 => P_X2_take_39 (gN XG) F k16 n x2 x4 x5 x6 x7 (x8 + 1) D6))))))) : Rs) = some (r0, D') := h
      refine lv_iload hx hb dX2_take_39 (lv_at hl 8 rfl) ?_
      refine lv_iload hx hb dX2_take_41 (lv_at hl 7 rfl) ?_
      refine lv_icmp_ge (tgt := 88) hx hb dX2_take_43 (by decide) (fun c1 => ?_) (fun c1 => ?_)
      · have h := x_t (show x7 ≤ x8 from c1) h
        refine lv_iinc (v := x5 + 1) (lv' := [(5, .int (x5 + 1)), (0, .ref (ad 61)), (1, .ref (ad 56)), (2, .int x2), (3, .ref t.2.2), (4, .int x4), (6, .int x6), (7, .int x7), (8, .int x8)]) hx hb dX2_take_88 hl (k := 5) rfl rfl (by decide) rfl (fun ls hl => ?_)
        refine lv_goto (tgt := 16) hx hb dX2_take_91 (by decide) ?_
        exact hk16 x2 x4 (x5 + 1) D _ _ _ h hP hS (lv_sub hl [1, 2, 3, 4, 5, 0] rfl)
      · have h := x_f (show ¬ (x7 ≤ x8) from c1) h
        refine lv_aload_n hx hb dX2_take_46 rfl (lv_at hl 0 rfl) ?_
        refine x_get hx hb ht0 u_X2 hown hK hP (xk_61).1 (ce2 (xk_61).2) rfl 4 (by decide) (ht0 _ m_FL_X2_29) rfl rfl dX2_take_47 ?_
        refine lv_iload_n hx hb dX2_take_50 rfl (lv_at hl 2 rfl) ?_
        refine lv_icmp_ge (tgt := 88) hx hb dX2_take_51 (by decide) (fun c2 => ?_) (fun c2 => ?_)
        · have h := x_t (show x2 ≤ (D 61 4) from c2) h
          refine lv_iinc (v := x5 + 1) (lv' := [(5, .int (x5 + 1)), (0, .ref (ad 61)), (1, .ref (ad 56)), (2, .int x2), (3, .ref t.2.2), (4, .int x4), (6, .int x6), (7, .int x7), (8, .int x8)]) hx hb dX2_take_88 hl (k := 5) rfl rfl (by decide) rfl (fun ls hl => ?_)
          refine lv_goto (tgt := 16) hx hb dX2_take_91 (by decide) ?_
          exact hk16 x2 x4 (x5 + 1) D _ _ _ h hP hS (lv_sub hl [1, 2, 3, 4, 5, 0] rfl)
        · have h := x_f (show ¬ (x2 ≤ (D 61 4)) from c2) h
          refine lv_aload_n hx hb dX2_take_54 rfl (lv_at hl 1 rfl) ?_
          refine lv_iload hx hb dX2_take_55 (lv_at hl 6 rfl) ?_
          refine lv_iload hx hb dX2_take_57 (lv_at hl 8 rfl) ?_
          obtain ⟨r3, D3, hc3, h⟩ := bi_some h
          refine x_callVi (As := [.int x6, .int x8]) ⟨hx, hb, hml, hown, ht0⟩ hK hT hP hS (c_X4_isFree l dd Y t ad ij F x6 x8 _ _ _ hc3) m_ML_X2_42 sv_X4_isFree hd_X4_isFree rfl rfl ⟨Nat.le_of_ble_eq_true rfl, Nat.le_of_ble_eq_true rfl⟩ (xk_56).1 (ce4 (xk_56).2) rfl rfl hl.1 rfl (Nat.le_of_ble_eq_true rfl) dX2_take_59 ⟨Nat.zero_le _, Nat.zero_le _⟩ (fun H locs hn_r3 hP hS => ?_)
          refine lv_if_eq (tgt := 82) hx hb dX2_take_62 (by decide) (fun c4 => ?_) (fun c4 => ?_)
          · have h := x_t (show r3 = 0 from c4) h
            refine lv_iinc (v := x8 + 1) (lv' := [(8, .int (x8 + 1)), (0, .ref (ad 61)), (1, .ref (ad 56)), (2, .int x2), (3, .ref t.2.2), (4, .int x4), (5, .int x5), (6, .int x6), (7, .int x7)]) hx hb dX2_take_82 hl (k := 8) rfl rfl (by decide) rfl (fun ls hl => ?_)
            refine lv_goto (tgt := 39) hx hb dX2_take_85 (by decide) ?_
            exact ih x2 x4 x5 x6 x7 (x8 + 1) D3 _ _ _ h hP hS (lv_sub hl [1, 2, 3, 4, 5, 6, 7, 8, 0] rfl)
          · have h := x_f (show ¬ (r3 = 0) from c4) h
            refine lv_aload_n hx hb dX2_take_65 rfl (lv_at hl 1 rfl) ?_
            refine lv_iload hx hb dX2_take_66 (lv_at hl 6 rfl) ?_
            refine lv_iload hx hb dX2_take_68 (lv_at hl 8 rfl) ?_
            refine lv_iconst (v := 0) hx hb dX2_take_70 (by decide) ?_
            obtain ⟨r5, D5, hc5, h⟩ := bi_some h
            refine x_callVv (As := [.int x6, .int x8, .int 0]) ⟨hx, hb, hml, hown, ht0⟩ hK hT hP hS (c_X4_setFree l dd Y t ad ij F x6 x8 0 _ _ _ hc5) m_ML_X2_48 sv_X4_setFree hd_X4_setFree rfl rfl ⟨Nat.le_of_ble_eq_true rfl, Nat.le_of_ble_eq_true rfl⟩ (xk_56).1 (ce4 (xk_56).2) rfl rfl hl.1 rfl (Nat.le_of_ble_eq_true rfl) dX2_take_71 ⟨Nat.zero_le _, Nat.zero_le _⟩ (fun H locs hP hS => ?_)
            refine lv_aload_n hx hb dX2_take_74 rfl (lv_at hl 0 rfl) ?_
            refine lv_iload hx hb dX2_take_75 (lv_at hl 6 rfl) ?_
            refine lv_iload hx hb dX2_take_77 (lv_at hl 8 rfl) ?_
            obtain ⟨r6, D6, hc6, h⟩ := bi_some h
            refine x_callVv (As := [.int x6, .int x8]) ⟨hx, hb, hml, hown, ht0⟩ hK hT hP hS (c_X2_addBlock l dd Y t ad ij F x6 x8 _ _ _ hc6) m_ML_X2_52 sv_X2_addBlock hd_X2_addBlock rfl rfl ⟨Nat.le_of_ble_eq_true rfl, Nat.le_of_ble_eq_true rfl⟩ (xk_61).1 (ce2 (xk_61).2) rfl rfl hl.1 rfl (Nat.le_of_ble_eq_true rfl) dX2_take_79 ⟨Nat.zero_le _, Nat.zero_le _⟩ (fun H locs hP hS => ?_)
            refine lv_iinc (v := x8 + 1) (lv' := [(8, .int (x8 + 1)), (0, .ref (ad 61)), (1, .ref (ad 56)), (2, .int x2), (3, .ref t.2.2), (4, .int x4), (5, .int x5), (6, .int x6), (7, .int x7)]) hx hb dX2_take_82 hl (k := 8) rfl rfl (by decide) rfl (fun ls hl => ?_)
            refine lv_goto (tgt := 39) hx hb dX2_take_85 (by decide) ?_
            exact ih x2 x4 x5 x6 x7 (x8 + 1) D6 _ _ _ h hP hS (lv_sub hl [1, 2, 3, 4, 5, 6, 7, 8, 0] rfl)
  have L29 : ∀ (k16 : Int32 → Int32 → Int32 → Mm → Rs) (hk16 : ∀ (x2 x4 x5 : Int32) (D : Mm) (H : Heap) (locs : List Loc) (ls : Array Slot), k16 x2 x4 x5 D = some (r0, D') → va_P dd vwCl (wW Y XG ad D) H → va_S (pA XG ad) s.heap H locs → lv_has ls 9 [(0, .ref (ad 61)), (1, .ref (ad 56)), (2, .int x2), (3, .ref t.2.2), (4, .int x4), (5, .int x5)] → W p l e (headSpec wzX2_take rm_X2_take).room s m ([.ref (ad 61), .ref (ad 56), .int a2].toArray) below meth c H locs 0 0 (MQ below (Qi dd Y XG ad .boolean r0 D') ([.ref (ad 61), .ref (ad 56), .int a2].toArray) s 0 0 (pA XG ad)) (F0 m 16 ls [])), ∀ (x2 x4 x5 x6 : Int32) (D : Mm) (H : Heap) (locs : List Loc) (ls : Array Slot), P_X2_take_29 (gN XG) F k16 x2 x4 x5 x6 D = some (r0, D') → va_P dd vwCl (wW Y XG ad D) H → va_S (pA XG ad) s.heap H locs → lv_has ls 9 [(0, .ref (ad 61)), (1, .ref (ad 56)), (2, .int x2), (3, .ref t.2.2), (4, .int x4), (5, .int x5), (6, .int x6)] → W p l e (headSpec wzX2_take rm_X2_take).room s m ([.ref (ad 61), .ref (ad 56), .int a2].toArray) below meth c H locs 0 0 (MQ below (Qi dd Y XG ad .boolean r0 D') ([.ref (ad 61), .ref (ad 56), .int a2].toArray) s 0 0 (pA XG ad)) (F0 m 29 ls []) := by
    intro k16 hk16 x2 x4 x5 x6 D H locs ls h hP hS hl
    have h : ((bi (P_X0_sectorsOf (gN XG) F x6 D) (fun r7 D7 => P_X2_take_39 (gN XG) F k16 F x2 x4 x5 x6 r7 0 D7)) : Rs) = some (r0, D') := h
    refine lv_iload hx hb dX2_take_29 (lv_at hl 6 rfl) ?_
    obtain ⟨r7, D7, hc7, h⟩ := bi_some h
    refine x_callSi (As := [.int x6]) ⟨hx, hb, hml, hown, ht0⟩ hK hT hP hS (c_X0_sectorsOf l dd Y t ad ij F x6 _ _ _ hc7) m_ML_X2_36 ss_X0_sectorsOf hd_X0_sectorsOf rfl rfl ⟨Nat.le_of_ble_eq_true rfl, Nat.le_of_ble_eq_true rfl⟩ rfl hl.1 rfl (Nat.le_of_ble_eq_true rfl) dX2_take_31 ⟨Nat.zero_le _, Nat.zero_le _⟩ (fun H locs hn_r7 hP hS => ?_)
    refine lv_istore (lv' := [(7, .int r7), (0, .ref (ad 61)), (1, .ref (ad 56)), (2, .int x2), (3, .ref t.2.2), (4, .int x4), (5, .int x5), (6, .int x6)]) hx hb dX2_take_34 hl (by decide) rfl (fun ls hl => ?_)
    refine lv_iconst (v := 0) hx hb dX2_take_36 (by decide) ?_
    refine lv_istore (lv' := [(8, .int 0), (7, .int r7), (0, .ref (ad 61)), (1, .ref (ad 56)), (2, .int x2), (3, .ref t.2.2), (4, .int x4), (5, .int x5), (6, .int x6)]) hx hb dX2_take_37 hl (by decide) rfl (fun ls hl => ?_)
    exact L39 k16 hk16 F x2 x4 x5 x6 r7 0 D7 _ _ _ h hP hS (lv_sub hl [2, 3, 4, 5, 6, 7, 8, 1, 0] rfl)
  have L16 : ∀ (n : Nat), ∀ (x2 x4 x5 : Int32) (D : Mm) (H : Heap) (locs : List Loc) (ls : Array Slot), P_X2_take_16 (gN XG) F n x2 x4 x5 D = some (r0, D') → va_P dd vwCl (wW Y XG ad D) H → va_S (pA XG ad) s.heap H locs → lv_has ls 9 [(0, .ref (ad 61)), (1, .ref (ad 56)), (2, .int x2), (3, .ref t.2.2), (4, .int x4), (5, .int x5)] → W p l e (headSpec wzX2_take rm_X2_take).room s m ([.ref (ad 61), .ref (ad 56), .int a2].toArray) below meth c H locs 0 0 (MQ below (Qi dd Y XG ad .boolean r0 D') ([.ref (ad 61), .ref (ad 56), .int a2].toArray) s 0 0 (pA XG ad)) (F0 m 16 ls []) := by
    intro n
    induction n with
    | zero =>
      intro x2 x4 x5 D H locs ls h hP hS hl
      cases h
    | succ n ih =>
      intro x2 x4 x5 D H locs ls h hP hS hl
      have h : ((if x4 ≤ x5 then (if (D 61 4) = x2 then (some (1, D)) else (some (0, D))) else (if inB x5 15 = true then (P_X2_take_29 (gN XG) F (fun x2 x4 x5 D => P_X2_take_16 (gN XG) F n x2 x4 x5 D) x2 x4 x5 (tFILES (Int32.toNatClampNeg x5)) D) else none)) : Rs) = some (r0, D') := h
      refine lv_iload hx hb dX2_take_16 (lv_at hl 5 rfl) ?_
      refine lv_iload hx hb dX2_take_18 (lv_at hl 4 rfl) ?_
      refine lv_icmp_ge (tgt := 94) hx hb dX2_take_20 (by decide) (fun c8 => ?_) (fun c8 => ?_)
      · have h := x_t (show x4 ≤ x5 from c8) h
        refine lv_aload_n hx hb dX2_take_94 rfl (lv_at hl 0 rfl) ?_
        refine x_get hx hb ht0 u_X2 hown hK hP (xk_61).1 (ce2 (xk_61).2) rfl 4 (by decide) (ht0 _ m_FL_X2_29) rfl rfl dX2_take_95 ?_
        refine lv_iload_n hx hb dX2_take_98 rfl (lv_at hl 2 rfl) ?_
        refine lv_icmp_ne (tgt := 106) hx hb dX2_take_99 (by decide) (fun c9 => ?_) (fun c9 => ?_)
        · have h := x_f (show ¬ ((D 61 4) = x2) from c9) h
          refine lv_iconst (v := 0) hx hb dX2_take_106 (by decide) ?_
          exact x_iret hx hb hr hlocks rfl hP hS h dX2_take_107
        · have h := x_t (show (D 61 4) = x2 from c9) h
          refine lv_iconst (v := 1) hx hb dX2_take_102 (by decide) ?_
          refine lv_goto (tgt := 107) hx hb dX2_take_103 (by decide) ?_
          exact x_iret hx hb hr hlocks rfl hP hS h dX2_take_107
      · have h := x_f (show ¬ (x4 ≤ x5) from c8) h
        refine lv_aload_n hx hb dX2_take_23 rfl (lv_at hl 3 rfl) ?_
        refine lv_iload hx hb dX2_take_24 (lv_at hl 5 rfl) ?_
        obtain ⟨b10, h⟩ := x_if h
        refine va_ti hx hb hT.2.2.2.2.2.1 hS (inB_in b10) rfl dX2_take_26 ?_
        refine lv_istore (lv' := [(6, .int (tFILES (Int32.toNatClampNeg x5))), (0, .ref (ad 61)), (1, .ref (ad 56)), (2, .int x2), (3, .ref t.2.2), (4, .int x4), (5, .int x5)]) hx hb dX2_take_27 hl (by decide) rfl (fun ls hl => ?_)
        exact L29 (fun x2 x4 x5 D => P_X2_take_16 (gN XG) F n x2 x4 x5 D) ih x2 x4 x5 (tFILES (Int32.toNatClampNeg x5)) D _ _ _ h hP hS (lv_sub hl [1, 2, 3, 4, 5, 6, 0] rfl)
  have hl := lv_entry ([.ref (ad 61), .ref (ad 56), .int a2]) (n := 9) (Nat.le_of_ble_eq_true rfl)
  rw [lg_entry_eq]
  generalize (lg_sl ([.ref (ad 61), .ref (ad 56), .int a2]) ++ List.replicate (9 - (lg_sl ([.ref (ad 61), .ref (ad 56), .int a2])).length) Slot.unset).toArray = ls at hl ⊢
  have hl : lv_has ls 9 [(0, .ref (ad 61)), (1, .ref (ad 56)), (2, .int a2)] := hl
  have hP : va_P dd vwCl (wW Y XG ad D0) s.heap := hP
  generalize D0 = D at h hP
  have h : ((P_X2_take_16 (gN XG) F F a2 15 0 (up2 D 61 4 0)) : Rs) = some (r0, D') := h
  refine lv_aload_n hx hb dX2_take_0 rfl (lv_at hl 0 rfl) ?_
  refine lv_iconst (v := 0) hx hb dX2_take_1 (by decide) ?_
  refine x_put (ty := .int) hx hb ht0 u_X2 tyX2 tyX2_ok nmX2 hown hK ij hP hS (xk_61).1 (ce2 (xk_61).2) rfl 4 (by decide) (ht0 _ m_FL_X2_29) rfl rfl (by decide +kernel) rfl rfl (Nat.le_of_ble_eq_true rfl) (by rw [(xk_61).2]; rfl) dX2_take_2 (fun H locs hP hS => ?_)
  refine va_getsN hx hb hT.2.2.2.2.1 hS hown (va_Nw.use rfl hT.2.2.2.2.2.2.2.2.1) (fun _ h9 => h9) dX2_take_5 ?_
  refine lv_astore_n (lv' := [(3, .ref t.2.2), (0, .ref (ad 61)), (1, .ref (ad 56)), (2, .int a2)]) hx hb dX2_take_8 rfl hl (by decide) rfl (fun ls hl => ?_)
  refine lv_aload_n hx hb dX2_take_9 rfl (lv_at hl 0 rfl) ?_
  refine va_tlen (v := 15) hx hb hT.2.2.2.2.2.1 hS rfl dX2_take_10 ?_
  refine lv_istore (lv' := [(4, .int 15), (3, .ref t.2.2), (0, .ref (ad 61)), (1, .ref (ad 56)), (2, .int a2)]) hx hb dX2_take_11 hl (by decide) rfl (fun ls hl => ?_)
  refine lv_iconst (v := 0) hx hb dX2_take_13 (by decide) ?_
  refine lv_istore (lv' := [(5, .int 0), (4, .int 15), (3, .ref t.2.2), (0, .ref (ad 61)), (1, .ref (ad 56)), (2, .int a2)]) hx hb dX2_take_14 hl (by decide) rfl (fun ls hl => ?_)
  exact L16 F a2 15 0 (up2 D 61 4 0) _ _ _ h hP hS (lv_sub hl [3, 4, 5, 2, 1, 0] rfl)
