abbrev rm_X7_info : Room := { frames := 6, cells := 0, slots := 0, locals := 153 }
set_option maxHeartbeats 4000000 in
set_option maxRecDepth 100000 in
theorem c_X7_info (l : Launch) (dd : Dd) (Y : Yc) (t : Ts3) (ad : Nat → Nat) (ij : Ij XG ad) (F : Nat) (D0 D' : Mm) (r0 : Int32) (h : P_X7_info (gN XG) F D0 = some (r0, D')) : Met l yX7_info wzX7_info rm_X7_info (va_Pc [.ref (ad 0)] (Wd dd Y t XG ad D0)) (Qi dd Y XG ad .int r0 D') 0 0 (pA XG ad) := by
  refine Met.ofW (cc := cX7_info) (maxL := 2) (ret := (some .int)) (by decide) rfl ?_
  intro p e s m args below meth c s₁ B hml hv
  obtain ⟨rfl, hP, hK, hT⟩ := hv
  have hx := B.exec
  have hb := B.bytes
  have hr := B.returns
  have ht0 : ∀ w ∈ W0, w.before _ s = true := fun w h => atoms_spec (ws := wzX7_info) B.pre w (List.mem_cons_of_mem _ h)
  have hown : s.vm.findClass RX7 = some m.cls := findClass_of_methodNamed B.named
  have hlocks := B.notSynchronized
  have hS : va_S (pA XG ad) s.heap s.heap [] := va_S.rf
  have hl := lv_entry ([.ref (ad 0)]) (n := 2) (Nat.le_of_ble_eq_true rfl)
  rw [lg_entry_eq]
  generalize (lg_sl ([.ref (ad 0)]) ++ List.replicate (2 - (lg_sl ([.ref (ad 0)])).length) Slot.unset).toArray = ls at hl ⊢
  have hl : lv_has ls 2 [(0, .ref (ad 0))] := hl
  have hP : va_P dd vwCl (wW Y XG ad D0) s.heap := hP
  generalize D0 = D at h hP
  have h : ((bi (P_X7_openDisk (gN XG) F (up2 D 67 1 0)) (fun r1 D1 => if r1 = 0 then (bi (P_X1_addRow (gN XG) F 67 57 40 8 D1) (fun r4 D4 => bi (P_X1_addRow (gN XG) F 67 57 48 2 D4) (fun r5 D5 => bi (P_X4_freeBlocks (gN XG) F D5) (fun r6 D6 => bi (P_X1_add (gN XG) F 67 r6 D6) (fun r7 D7 => bi (P_X7_outputOr (gN XG) F r1 D7) (fun r8 D8 => some (r8, D8))))))) else (bi (P_X7_outputOr (gN XG) F r1 D1) (fun r3 D3 => some (r3, D3))))) : Rs) = some (r0, D') := h
  refine lv_aload_n hx hb dX7_info_0 rfl (lv_at hl 0 rfl) ?_
  refine x_get hx hb ht0 u_X7 hown hK hP (xk_0).1 (ce7 (xk_0).2) rfl 6 (by decide) (ht0 _ m_FL_X7_57) rfl (rfv (G := XG) (c := 0) (k := 6) (c' := 67) rfl) dX7_info_1 ?_
  refine lv_iconst (v := 0) hx hb dX7_info_4 (by decide) ?_
  refine x_put (ty := .int) hx hb ht0 u_X1 tyX1 tyX1_ok nmX1 hown hK ij hP hS (xk_67).1 (ce1 (xk_67).2) rfl 1 (by decide) (ht0 _ m_FL_X7_76) rfl rfl (by decide +kernel) rfl rfl (Nat.le_of_ble_eq_true rfl) (by rw [(xk_67).2]; rfl) dX7_info_5 (fun H locs hP hS => ?_)
  refine lv_aload_n hx hb dX7_info_8 rfl (lv_at hl 0 rfl) ?_
  obtain ⟨r1, D1, hc1, h⟩ := bi_some h
  refine x_callVi (As := []) ⟨hx, hb, hml, hown, ht0⟩ hK hT hP hS (c_X7_openDisk l dd Y t ad ij F  _ _ _ hc1) m_ML_X7_148 sv_X7_openDisk hd_X7_openDisk rfl rfl ⟨Nat.le_of_ble_eq_true rfl, Nat.le_of_ble_eq_true rfl⟩ (xk_0).1 (ce7 (xk_0).2) rfl rfl hl.1 rfl (Nat.le_of_ble_eq_true rfl) dX7_info_9 ⟨Nat.zero_le _, Nat.zero_le _⟩ (fun H locs hn_r1 hP hS => ?_)
  refine lv_istore_n (lv' := [(1, .int r1), (0, .ref (ad 0))]) hx hb dX7_info_12 rfl hl (by decide) rfl (fun ls hl => ?_)
  refine lv_iload_n hx hb dX7_info_13 rfl (lv_at hl 0 rfl) ?_
  refine lv_if_ne (tgt := 66) hx hb dX7_info_14 (by decide) (fun c2 => ?_) (fun c2 => ?_)
  · have h := x_f (show ¬ (r1 = 0) from c2) h
    refine lv_aload_n hx hb dX7_info_66 rfl (lv_at hl 1 rfl) ?_
    refine lv_iload_n hx hb dX7_info_67 rfl (lv_at hl 0 rfl) ?_
    obtain ⟨r3, D3, hc3, h⟩ := bi_some h
    refine x_callVi (As := [.int r1]) ⟨hx, hb, hml, hown, ht0⟩ hK hT hP hS (c_X7_outputOr l dd Y t ad ij F r1 _ _ _ hc3) m_ML_X7_136 sv_X7_outputOr hd_X7_outputOr rfl rfl ⟨Nat.le_of_ble_eq_true rfl, Nat.le_of_ble_eq_true rfl⟩ (xk_0).1 (ce7 (xk_0).2) rfl rfl hl.1 rfl (Nat.le_of_ble_eq_true rfl) dX7_info_68 ⟨Nat.zero_le _, Nat.zero_le _⟩ (fun H locs hn_r3 hP hS => ?_)
    exact x_iret hx hb hr hlocks rfl hP hS h dX7_info_71
  · have h := x_t (show r1 = 0 from c2) h
    refine lv_aload_n hx hb dX7_info_17 rfl (lv_at hl 1 rfl) ?_
    refine x_get hx hb ht0 u_X7 hown hK hP (xk_0).1 (ce7 (xk_0).2) rfl 6 (by decide) (ht0 _ m_FL_X7_57) rfl (rfv (G := XG) (c := 0) (k := 6) (c' := 67) rfl) dX7_info_18 ?_
    refine lv_aload_n hx hb dX7_info_21 rfl (lv_at hl 1 rfl) ?_
    refine x_get hx hb ht0 u_X7 hown hK hP (xk_0).1 (ce7 (xk_0).2) rfl 2 (by decide) (ht0 _ m_FL_X7_28) rfl (rfv (G := XG) (c := 0) (k := 2) (c' := 56) rfl) dX7_info_22 ?_
    refine x_get hx hb ht0 u_X4 hown hK hP (xk_56).1 (ce4 (xk_56).2) rfl 0 (by decide) (ht0 _ m_FL_X7_94) rfl (rfv (G := XG) (c := 56) (k := 0) (c' := 57) rfl) dX7_info_25 ?_
    refine lv_bipush (v := 40) hx hb dX7_info_28 (by decide) ?_
    refine lv_bipush (v := 8) hx hb dX7_info_30 (by decide) ?_
    obtain ⟨r4, D4, hc4, h⟩ := bi_some h
    refine x_callVv (As := [.ref (ad 57), .int 40, .int 8]) ⟨hx, hb, hml, hown, ht0⟩ hK hT hP hS (c_X1_addRow l dd Y t XG ad ij F 67 57 xb_67 xk_57 40 8 _ _ _ hc4) m_ML_X7_164 sv_X1_addRow hd_X1_addRow rfl rfl ⟨Nat.le_of_ble_eq_true rfl, Nat.le_of_ble_eq_true rfl⟩ (xk_67).1 (ce1 (xk_67).2) rfl rfl hl.1 rfl (Nat.le_of_ble_eq_true rfl) dX7_info_32 ⟨Nat.zero_le _, Nat.zero_le _⟩ (fun H locs hP hS => ?_)
    refine lv_aload_n hx hb dX7_info_35 rfl (lv_at hl 1 rfl) ?_
    refine x_get hx hb ht0 u_X7 hown hK hP (xk_0).1 (ce7 (xk_0).2) rfl 6 (by decide) (ht0 _ m_FL_X7_57) rfl (rfv (G := XG) (c := 0) (k := 6) (c' := 67) rfl) dX7_info_36 ?_
    refine lv_aload_n hx hb dX7_info_39 rfl (lv_at hl 1 rfl) ?_
    refine x_get hx hb ht0 u_X7 hown hK hP (xk_0).1 (ce7 (xk_0).2) rfl 2 (by decide) (ht0 _ m_FL_X7_28) rfl (rfv (G := XG) (c := 0) (k := 2) (c' := 56) rfl) dX7_info_40 ?_
    refine x_get hx hb ht0 u_X4 hown hK hP (xk_56).1 (ce4 (xk_56).2) rfl 0 (by decide) (ht0 _ m_FL_X7_94) rfl (rfv (G := XG) (c := 56) (k := 0) (c' := 57) rfl) dX7_info_43 ?_
    refine lv_bipush (v := 48) hx hb dX7_info_46 (by decide) ?_
    refine lv_iconst (v := 2) hx hb dX7_info_48 (by decide) ?_
    obtain ⟨r5, D5, hc5, h⟩ := bi_some h
    refine x_callVv (As := [.ref (ad 57), .int 48, .int 2]) ⟨hx, hb, hml, hown, ht0⟩ hK hT hP hS (c_X1_addRow l dd Y t XG ad ij F 67 57 xb_67 xk_57 48 2 _ _ _ hc5) m_ML_X7_164 sv_X1_addRow hd_X1_addRow rfl rfl ⟨Nat.le_of_ble_eq_true rfl, Nat.le_of_ble_eq_true rfl⟩ (xk_67).1 (ce1 (xk_67).2) rfl rfl hl.1 rfl (Nat.le_of_ble_eq_true rfl) dX7_info_49 ⟨Nat.zero_le _, Nat.zero_le _⟩ (fun H locs hP hS => ?_)
    refine lv_aload_n hx hb dX7_info_52 rfl (lv_at hl 1 rfl) ?_
    refine x_get hx hb ht0 u_X7 hown hK hP (xk_0).1 (ce7 (xk_0).2) rfl 6 (by decide) (ht0 _ m_FL_X7_57) rfl (rfv (G := XG) (c := 0) (k := 6) (c' := 67) rfl) dX7_info_53 ?_
    refine lv_aload_n hx hb dX7_info_56 rfl (lv_at hl 1 rfl) ?_
    refine x_get hx hb ht0 u_X7 hown hK hP (xk_0).1 (ce7 (xk_0).2) rfl 2 (by decide) (ht0 _ m_FL_X7_28) rfl (rfv (G := XG) (c := 0) (k := 2) (c' := 56) rfl) dX7_info_57 ?_
    obtain ⟨r6, D6, hc6, h⟩ := bi_some h
    refine x_callVi (As := []) ⟨hx, hb, hml, hown, ht0⟩ hK hT hP hS (c_X4_freeBlocks l dd Y t ad ij F  _ _ _ hc6) m_ML_X7_168 sv_X4_freeBlocks hd_X4_freeBlocks rfl rfl ⟨Nat.le_of_ble_eq_true rfl, Nat.le_of_ble_eq_true rfl⟩ (xk_56).1 (ce4 (xk_56).2) rfl rfl hl.1 rfl (Nat.le_of_ble_eq_true rfl) dX7_info_60 ⟨Nat.zero_le _, Nat.zero_le _⟩ (fun H locs hn_r6 hP hS => ?_)
    obtain ⟨r7, D7, hc7, h⟩ := bi_some h
    refine x_callVv (As := [.int r6]) ⟨hx, hb, hml, hown, ht0⟩ hK hT hP hS (c_X1_add l dd Y t XG ad ij F 67 xb_67 r6 _ _ _ hc7) m_ML_X7_171 sv_X1_add hd_X1_add rfl rfl ⟨Nat.le_of_ble_eq_true rfl, Nat.le_of_ble_eq_true rfl⟩ (xk_67).1 (ce1 (xk_67).2) rfl rfl hl.1 rfl (Nat.le_of_ble_eq_true rfl) dX7_info_63 ⟨Nat.zero_le _, Nat.zero_le _⟩ (fun H locs hP hS => ?_)
    refine lv_aload_n hx hb dX7_info_66 rfl (lv_at hl 1 rfl) ?_
    refine lv_iload_n hx hb dX7_info_67 rfl (lv_at hl 0 rfl) ?_
    obtain ⟨r8, D8, hc8, h⟩ := bi_some h
    refine x_callVi (As := [.int r1]) ⟨hx, hb, hml, hown, ht0⟩ hK hT hP hS (c_X7_outputOr l dd Y t ad ij F r1 _ _ _ hc8) m_ML_X7_136 sv_X7_outputOr hd_X7_outputOr rfl rfl ⟨Nat.le_of_ble_eq_true rfl, Nat.le_of_ble_eq_true rfl⟩ (xk_0).1 (ce7 (xk_0).2) rfl rfl hl.1 rfl (Nat.le_of_ble_eq_true rfl) dX7_info_68 ⟨Nat.zero_le _, Nat.zero_le _⟩ (fun H locs hn_r8 hP hS => ?_)
    exact x_iret hx hb hr hlocks rfl hP hS h dX7_info_71
abbrev rm_X7_out : Room := { frames := 1, cells := 0, slots := 0, locals := 21 }
set_option maxHeartbeats 4000000 in
set_option maxRecDepth 100000 in
theorem c_X7_out (l : Launch) (dd : Dd) (Y : Yc) (t : Ts3) (ad : Nat → Nat) (ij : Ij XG ad) (F : Nat) (a1 : Int32) (D0 D' : Mm) (r0 : Int32) (h : P_X7_out (gN XG) F a1 D0 = some (r0, D')) : Met l yX7_out wzX7_out rm_X7_out (va_Pc [.ref (ad 0), .int a1] (Wd dd Y t XG ad D0)) (Qi dd Y XG ad .int r0 D') 0 0 (pA XG ad) := by
  refine Met.ofW (cc := cX7_out) (maxL := 2) (ret := (some .int)) (by decide) rfl ?_
  intro p e s m args below meth c s₁ B hml hv
  obtain ⟨rfl, hP, hK, hT⟩ := hv
  have hx := B.exec
  have hb := B.bytes
  have hr := B.returns
  have ht0 : ∀ w ∈ W0, w.before _ s = true := fun w h => atoms_spec (ws := wzX7_out) B.pre w (List.mem_cons_of_mem _ h)
  have hown : s.vm.findClass RX7 = some m.cls := findClass_of_methodNamed B.named
  have hlocks := B.notSynchronized
  have hS : va_S (pA XG ad) s.heap s.heap [] := va_S.rf
  have hl := lv_entry ([.ref (ad 0), .int a1]) (n := 2) (Nat.le_of_ble_eq_true rfl)
  rw [lg_entry_eq]
  generalize (lg_sl ([.ref (ad 0), .int a1]) ++ List.replicate (2 - (lg_sl ([.ref (ad 0), .int a1])).length) Slot.unset).toArray = ls at hl ⊢
  have hl : lv_has ls 2 [(0, .ref (ad 0)), (1, .int a1)] := hl
  have hP : va_P dd vwCl (wW Y XG ad D0) s.heap := hP
  generalize D0 = D at h hP
  have h : ((bi (P_X1_byteAt (gN XG) F 67 a1 D) (fun r1 D1 => some (r1, D1))) : Rs) = some (r0, D') := h
  refine lv_aload_n hx hb dX7_out_0 rfl (lv_at hl 0 rfl) ?_
  refine x_get hx hb ht0 u_X7 hown hK hP (xk_0).1 (ce7 (xk_0).2) rfl 6 (by decide) (ht0 _ m_FL_X7_57) rfl (rfv (G := XG) (c := 0) (k := 6) (c' := 67) rfl) dX7_out_1 ?_
  refine lv_iload_n hx hb dX7_out_4 rfl (lv_at hl 1 rfl) ?_
  obtain ⟨r1, D1, hc1, h⟩ := bi_some h
  refine x_callVi (As := [.int a1]) ⟨hx, hb, hml, hown, ht0⟩ hK hT hP hS (c_X1_byteAt l dd Y t XG ad ij F 67 xb_67 a1 _ _ _ hc1) m_ML_X7_174 sv_X1_byteAt hd_X1_byteAt rfl rfl ⟨Nat.le_of_ble_eq_true rfl, Nat.le_of_ble_eq_true rfl⟩ (xk_67).1 (ce1 (xk_67).2) rfl rfl hl.1 rfl (Nat.le_of_ble_eq_true rfl) dX7_out_5 ⟨Nat.zero_le _, Nat.zero_le _⟩ (fun H locs hn_r1 hP hS => ?_)
  exact x_iret hx hb hr hlocks rfl hP hS h dX7_out_8
abbrev rm_X7_status : Room := { frames := 0, cells := 0, slots := 0, locals := 0 }
set_option maxHeartbeats 4000000 in
set_option maxRecDepth 100000 in
theorem c_X7_status (l : Launch) (dd : Dd) (Y : Yc) (t : Ts3) (ad : Nat → Nat) (ij : Ij XG ad) (F : Nat) (a1 : Int32) (D0 D' : Mm) (r0 : Int32) (h : P_X7_status (gN XG) F a1 D0 = some (r0, D')) : Met l yX7_status wzX7_status rm_X7_status (va_Pc [.ref (ad 0), .int a1] (Wd dd Y t XG ad D0)) (Qi dd Y XG ad .int r0 D') 0 0 (pA XG ad) := by
  refine Met.ofW (cc := cX7_status) (maxL := 2) (ret := (some .int)) (by decide) rfl ?_
  intro p e s m args below meth c s₁ B hml hv
  obtain ⟨rfl, hP, hK, hT⟩ := hv
  have hx := B.exec
  have hb := B.bytes
  have hr := B.returns
  have ht0 : ∀ w ∈ W0, w.before _ s = true := fun w h => atoms_spec (ws := wzX7_status) B.pre w (List.mem_cons_of_mem _ h)
  have hown : s.vm.findClass RX7 = some m.cls := findClass_of_methodNamed B.named
  have hlocks := B.notSynchronized
  have hS : va_S (pA XG ad) s.heap s.heap [] := va_S.rf
  have hl := lv_entry ([.ref (ad 0), .int a1]) (n := 2) (Nat.le_of_ble_eq_true rfl)
  rw [lg_entry_eq]
  generalize (lg_sl ([.ref (ad 0), .int a1]) ++ List.replicate (2 - (lg_sl ([.ref (ad 0), .int a1])).length) Slot.unset).toArray = ls at hl ⊢
  have hl : lv_has ls 2 [(0, .ref (ad 0)), (1, .int a1)] := hl
  have hP : va_P dd vwCl (wW Y XG ad D0) s.heap := hP
  generalize D0 = D at h hP
  have h : ((if a1 = 0 then (some (D 1 0, D)) else (if a1 = 1 then (some (D 1 1, D)) else (if a1 = 2 then (some (D 1 2, D)) else (some ((-1), D))))) : Rs) = some (r0, D') := h
  refine lv_iload_n hx hb dX7_status_0 rfl (lv_at hl 1 rfl) ?_
  by_cases c1 : a1 = 0
  · have h := x_t c1 h
    refine lv_tableIn (tgt := 28) hx hb dX7_status_1 (by rw [c1]; decide) (by rw [c1]; decide) (by rw [c1]; rfl) (by decide) ?_
    refine lv_aload_n hx hb dX7_status_28 rfl (lv_at hl 0 rfl) ?_
    refine x_get hx hb ht0 u_X7 hown hK hP (xk_0).1 (ce7 (xk_0).2) rfl 0 (by decide) (ht0 _ m_FL_X7_12) rfl (rfv (G := XG) (c := 0) (k := 0) (c' := 1) rfl) dX7_status_29 ?_
    refine x_get hx hb ht0 u_X6 hown hK hP (xk_1).1 (ce6 (xk_1).2) rfl 0 (by decide) (ht0 _ m_FL_X7_177) rfl rfl dX7_status_32 ?_
    exact x_iret hx hb hr hlocks rfl hP hS h dX7_status_35
  have h := x_f c1 h
  by_cases c2 : a1 = 1
  · have h := x_t c2 h
    refine lv_tableIn (tgt := 36) hx hb dX7_status_1 (by rw [c2]; decide) (by rw [c2]; decide) (by rw [c2]; rfl) (by decide) ?_
    refine lv_aload_n hx hb dX7_status_36 rfl (lv_at hl 0 rfl) ?_
    refine x_get hx hb ht0 u_X7 hown hK hP (xk_0).1 (ce7 (xk_0).2) rfl 0 (by decide) (ht0 _ m_FL_X7_12) rfl (rfv (G := XG) (c := 0) (k := 0) (c' := 1) rfl) dX7_status_37 ?_
    refine x_get hx hb ht0 u_X6 hown hK hP (xk_1).1 (ce6 (xk_1).2) rfl 1 (by decide) (ht0 _ m_FL_X7_180) rfl rfl dX7_status_40 ?_
    exact x_iret hx hb hr hlocks rfl hP hS h dX7_status_43
  have h := x_f c2 h
  by_cases c3 : a1 = 2
  · have h := x_t c3 h
    refine lv_tableIn (tgt := 44) hx hb dX7_status_1 (by rw [c3]; decide) (by rw [c3]; decide) (by rw [c3]; rfl) (by decide) ?_
    refine lv_aload_n hx hb dX7_status_44 rfl (lv_at hl 0 rfl) ?_
    refine x_get hx hb ht0 u_X7 hown hK hP (xk_0).1 (ce7 (xk_0).2) rfl 0 (by decide) (ht0 _ m_FL_X7_12) rfl (rfv (G := XG) (c := 0) (k := 0) (c' := 1) rfl) dX7_status_45 ?_
    refine x_get hx hb ht0 u_X6 hown hK hP (xk_1).1 (ce6 (xk_1).2) rfl 2 (by decide) (ht0 _ m_FL_X7_181) rfl rfl dX7_status_48 ?_
    exact x_iret hx hb hr hlocks rfl hP hS h dX7_status_51
  have h := x_f c3 h
  have ec1 : (a1).toInt ≠ 0 := x_sw c1
  have ec2 : (a1).toInt ≠ 1 := x_sw c2
  have ec3 : (a1).toInt ≠ 2 := x_sw c3
  refine lv_tableOut (tgt := 52) hx hb dX7_status_1 (by omega) (by decide) ?_
  refine lv_iconst (v := (-1)) hx hb dX7_status_52 (by decide) ?_
  exact x_iret hx hb hr hlocks rfl hP hS h dX7_status_53
abbrev rm_X7_peek : Room := { frames := 2, cells := 0, slots := 0, locals := 42 }
set_option maxHeartbeats 4000000 in
set_option maxRecDepth 100000 in
theorem c_X7_peek (l : Launch) (dd : Dd) (Y : Yc) (t : Ts3) (ad : Nat → Nat) (ij : Ij XG ad) (F : Nat) (a1 a2 : Int32) (D0 D' : Mm) (r0 : Int32) (h : P_X7_peek (gN XG) F a1 a2 D0 = some (r0, D')) : Met l yX7_peek wzX7_peek rm_X7_peek (va_Pc [.ref (ad 0), .int a1, .int a2] (Wd dd Y t XG ad D0)) (Qi dd Y XG ad .int r0 D') 0 0 (pA XG ad) := by
  refine Met.ofW (cc := cX7_peek) (maxL := 4) (ret := (some .int)) (by decide) rfl ?_
  intro p e s m args below meth c s₁ B hml hv
  obtain ⟨rfl, hP, hK, hT⟩ := hv
  have hx := B.exec
  have hb := B.bytes
  have hr := B.returns
  have ht0 : ∀ w ∈ W0, w.before _ s = true := fun w h => atoms_spec (ws := wzX7_peek) B.pre w (List.mem_cons_of_mem _ h)
  have hown : s.vm.findClass RX7 = some m.cls := findClass_of_methodNamed B.named
  have hlocks := B.notSynchronized
  have hS : va_S (pA XG ad) s.heap s.heap [] := va_S.rf
  have hl := lv_entry ([.ref (ad 0), .int a1, .int a2]) (n := 4) (Nat.le_of_ble_eq_true rfl)
  rw [lg_entry_eq]
  generalize (lg_sl ([.ref (ad 0), .int a1, .int a2]) ++ List.replicate (4 - (lg_sl ([.ref (ad 0), .int a1, .int a2])).length) Slot.unset).toArray = ls at hl ⊢
  have hl : lv_has ls 4 [(0, .ref (ad 0)), (1, .int a1), (2, .int a2)] := hl
  have hP : va_P dd vwCl (wW Y XG ad D0) s.heap := hP
  generalize D0 = D at h hP
  have h : ((bq (P_X0_ringOf a1) (some ((-1), D)) (fun w1 => bi (P_X5_hasByte (gN XG) F w1 a2 D) (fun r2 D2 => if r2 = 0 then (some ((-1), D2)) else (bi (P_X5_byteAt (gN XG) F w1 a2 D2) (fun r4 D4 => some (r4, D4)))))) : Rs) = some (r0, D') := h
  refine lv_aload_n hx hb dX7_peek_0 rfl (lv_at hl 0 rfl) ?_
  refine x_get hx hb ht0 u_X7 hown hK hP (xk_0).1 (ce7 (xk_0).2) rfl 1 (by decide) (ht0 _ m_FL_X7_21) rfl (rfv (G := XG) (c := 0) (k := 1) (c' := 2) rfl) dX7_peek_1 ?_
  refine lv_iload_n hx hb dX7_peek_4 rfl (lv_at hl 1 rfl) ?_
  refine x_callVq (As := [.int a1]) ⟨hx, hb, hml, hown, ht0⟩ hK hT hP hS (c_X0_ringOf l dd Y t ad ij a1 D) m_ML_X7_182 sv_X0_ringOf hd_X0_ringOf rfl rfl ⟨Nat.le_of_ble_eq_true rfl, Nat.le_of_ble_eq_true rfl⟩ (xk_2).1 (ce0 (xk_2).2) rfl rfl hl.1 rfl (Nat.le_of_ble_eq_true rfl) dX7_peek_5 ⟨Nat.zero_le _, Nat.zero_le _⟩ (fun hq H locs hP hS => ?_) (fun w1 hq H locs hP hS => ?_)
  · have h := bq_n hq h
    refine lv_astore_nN (lv' := [(3, .null), (0, .ref (ad 0)), (1, .int a1), (2, .int a2)]) hx hb dX7_peek_8 rfl hl (by decide) rfl (fun ls hl => ?_)
    refine lv_aload_nN hx hb dX7_peek_9 rfl (lv_at hl 0 rfl) ?_
    refine lv_ifnullN (tgt := 21) hx hb dX7_peek_10 (by decide) ?_
    refine lv_iconst (v := (-1)) hx hb dX7_peek_21 (by decide) ?_
    refine lv_goto (tgt := 30) hx hb dX7_peek_22 (by decide) ?_
    exact x_iret hx hb hr hlocks rfl hP hS h dX7_peek_30
  · have h := bq_s hq h
    have g_w1 : RingAt XG w1 := ringOf_at hq
    obtain ⟨k_w1, p_w1_0, p_w1_2, k_w11, k_w12⟩ := id g_w1
    refine lv_astore_n (lv' := [(3, .ref (ad w1)), (0, .ref (ad 0)), (1, .int a1), (2, .int a2)]) hx hb dX7_peek_8 rfl hl (by decide) rfl (fun ls hl => ?_)
    refine lv_aload_n hx hb dX7_peek_9 rfl (lv_at hl 0 rfl) ?_
    refine lv_ifnull hx hb dX7_peek_10 ?_
    refine lv_aload_n hx hb dX7_peek_13 rfl (lv_at hl 0 rfl) ?_
    refine lv_iload_n hx hb dX7_peek_14 rfl (lv_at hl 3 rfl) ?_
    obtain ⟨r2, D2, hc2, h⟩ := bi_some h
    refine x_callVi (As := [.int a2]) ⟨hx, hb, hml, hown, ht0⟩ hK hT hP hS (c_X5_hasByte l dd Y t XG ad ij F w1 g_w1 a2 _ _ _ hc2) m_ML_X7_186 sv_X5_hasByte hd_X5_hasByte rfl rfl ⟨Nat.le_of_ble_eq_true rfl, Nat.le_of_ble_eq_true rfl⟩ (k_w1).1 (ce5 (k_w1).2) rfl rfl hl.1 rfl (Nat.le_of_ble_eq_true rfl) dX7_peek_15 ⟨Nat.zero_le _, Nat.zero_le _⟩ (fun H locs hn_r2 hP hS => ?_)
    refine lv_if_ne (tgt := 25) hx hb dX7_peek_18 (by decide) (fun c3 => ?_) (fun c3 => ?_)
    · have h := x_f (show ¬ (r2 = 0) from c3) h
      refine lv_aload_n hx hb dX7_peek_25 rfl (lv_at hl 0 rfl) ?_
      refine lv_iload_n hx hb dX7_peek_26 rfl (lv_at hl 3 rfl) ?_
      obtain ⟨r4, D4, hc4, h⟩ := bi_some h
      refine x_callVi (As := [.int a2]) ⟨hx, hb, hml, hown, ht0⟩ hK hT hP hS (c_X5_byteAt l dd Y t XG ad ij F w1 g_w1 a2 _ _ _ hc4) m_ML_X7_190 sv_X5_byteAt hd_X5_byteAt rfl rfl ⟨Nat.le_of_ble_eq_true rfl, Nat.le_of_ble_eq_true rfl⟩ (k_w1).1 (ce5 (k_w1).2) rfl rfl hl.1 rfl (Nat.le_of_ble_eq_true rfl) dX7_peek_27 ⟨Nat.zero_le _, Nat.zero_le _⟩ (fun H locs hn_r4 hP hS => ?_)
      exact x_iret hx hb hr hlocks rfl hP hS h dX7_peek_30
    · have h := x_t (show r2 = 0 from c3) h
      refine lv_iconst (v := (-1)) hx hb dX7_peek_21 (by decide) ?_
      refine lv_goto (tgt := 30) hx hb dX7_peek_22 (by decide) ?_
      exact x_iret hx hb hr hlocks rfl hP hS h dX7_peek_30
abbrev rm_X7_poke : Room := { frames := 2, cells := 0, slots := 0, locals := 42 }
set_option maxHeartbeats 4000000 in
set_option maxRecDepth 100000 in
theorem c_X7_poke (l : Launch) (dd : Dd) (Y : Yc) (t : Ts3) (ad : Nat → Nat) (ij : Ij XG ad) (F : Nat) (a1 a2 a3 : Int32) (D0 D' : Mm) (r0 : Int32) (h : P_X7_poke (gN XG) F a1 a2 a3 D0 = some (r0, D')) : Met l yX7_poke wzX7_poke rm_X7_poke (va_Pc [.ref (ad 0), .int a1, .int a2, .int a3] (Wd dd Y t XG ad D0)) (Qi dd Y XG ad .int r0 D') 0 0 (pA XG ad) := by
  refine Met.ofW (cc := cX7_poke) (maxL := 6) (ret := (some .int)) (by decide) rfl ?_
  intro p e s m args below meth c s₁ B hml hv
  obtain ⟨rfl, hP, hK, hT⟩ := hv
  have hx := B.exec
  have hb := B.bytes
  have hr := B.returns
  have ht0 : ∀ w ∈ W0, w.before _ s = true := fun w h => atoms_spec (ws := wzX7_poke) B.pre w (List.mem_cons_of_mem _ h)
  have hown : s.vm.findClass RX7 = some m.cls := findClass_of_methodNamed B.named
  have hlocks := B.notSynchronized
  have hS : va_S (pA XG ad) s.heap s.heap [] := va_S.rf
  have hl := lv_entry ([.ref (ad 0), .int a1, .int a2, .int a3]) (n := 6) (Nat.le_of_ble_eq_true rfl)
  rw [lg_entry_eq]
  generalize (lg_sl ([.ref (ad 0), .int a1, .int a2, .int a3]) ++ List.replicate (6 - (lg_sl ([.ref (ad 0), .int a1, .int a2, .int a3])).length) Slot.unset).toArray = ls at hl ⊢
  have hl : lv_has ls 6 [(0, .ref (ad 0)), (1, .int a1), (2, .int a2), (3, .int a3)] := hl
  have hP : va_P dd vwCl (wW Y XG ad D0) s.heap := hP
  generalize D0 = D at h hP
  have h : ((bq (P_X0_ringOf a1) (some ((-1), D)) (fun w1 => bi (P_X5_hasByte (gN XG) F w1 a2 D) (fun r2 D2 => if r2 = 0 then (some ((-1), D2)) else (bi (P_X5_byteAt (gN XG) F w1 a2 D2) (fun r4 D4 => bi (P_X5_putBits (gN XG) F w1 (8 * a2) 8 a3 D4) (fun r5 D5 => some (r4, D5))))))) : Rs) = some (r0, D') := h
  refine lv_aload_n hx hb dX7_poke_0 rfl (lv_at hl 0 rfl) ?_
  refine x_get hx hb ht0 u_X7 hown hK hP (xk_0).1 (ce7 (xk_0).2) rfl 1 (by decide) (ht0 _ m_FL_X7_21) rfl (rfv (G := XG) (c := 0) (k := 1) (c' := 2) rfl) dX7_poke_1 ?_
  refine lv_iload_n hx hb dX7_poke_4 rfl (lv_at hl 1 rfl) ?_
  refine x_callVq (As := [.int a1]) ⟨hx, hb, hml, hown, ht0⟩ hK hT hP hS (c_X0_ringOf l dd Y t ad ij a1 D) m_ML_X7_182 sv_X0_ringOf hd_X0_ringOf rfl rfl ⟨Nat.le_of_ble_eq_true rfl, Nat.le_of_ble_eq_true rfl⟩ (xk_2).1 (ce0 (xk_2).2) rfl rfl hl.1 rfl (Nat.le_of_ble_eq_true rfl) dX7_poke_5 ⟨Nat.zero_le _, Nat.zero_le _⟩ (fun hq H locs hP hS => ?_) (fun w1 hq H locs hP hS => ?_)
  · have h := bq_n hq h
    refine lv_astoreN (lv' := [(4, .null), (0, .ref (ad 0)), (1, .int a1), (2, .int a2), (3, .int a3)]) hx hb dX7_poke_8 hl (by decide) rfl (fun ls hl => ?_)
    refine lv_aloadN hx hb dX7_poke_10 (lv_at hl 0 rfl) ?_
    refine lv_ifnullN (tgt := 24) hx hb dX7_poke_12 (by decide) ?_
    refine lv_iconst (v := (-1)) hx hb dX7_poke_24 (by decide) ?_
    exact x_iret hx hb hr hlocks rfl hP hS h dX7_poke_25
  · have h := bq_s hq h
    have g_w1 : RingAt XG w1 := ringOf_at hq
    obtain ⟨k_w1, p_w1_0, p_w1_2, k_w11, k_w12⟩ := id g_w1
    refine lv_astore (lv' := [(4, .ref (ad w1)), (0, .ref (ad 0)), (1, .int a1), (2, .int a2), (3, .int a3)]) hx hb dX7_poke_8 hl (by decide) rfl (fun ls hl => ?_)
    refine lv_aload hx hb dX7_poke_10 (lv_at hl 0 rfl) ?_
    refine lv_ifnull hx hb dX7_poke_12 ?_
    refine lv_aload hx hb dX7_poke_15 (lv_at hl 0 rfl) ?_
    refine lv_iload_n hx hb dX7_poke_17 rfl (lv_at hl 3 rfl) ?_
    obtain ⟨r2, D2, hc2, h⟩ := bi_some h
    refine x_callVi (As := [.int a2]) ⟨hx, hb, hml, hown, ht0⟩ hK hT hP hS (c_X5_hasByte l dd Y t XG ad ij F w1 g_w1 a2 _ _ _ hc2) m_ML_X7_186 sv_X5_hasByte hd_X5_hasByte rfl rfl ⟨Nat.le_of_ble_eq_true rfl, Nat.le_of_ble_eq_true rfl⟩ (k_w1).1 (ce5 (k_w1).2) rfl rfl hl.1 rfl (Nat.le_of_ble_eq_true rfl) dX7_poke_18 ⟨Nat.zero_le _, Nat.zero_le _⟩ (fun H locs hn_r2 hP hS => ?_)
    refine lv_if_ne (tgt := 26) hx hb dX7_poke_21 (by decide) (fun c3 => ?_) (fun c3 => ?_)
    · have h := x_f (show ¬ (r2 = 0) from c3) h
      refine lv_aload hx hb dX7_poke_26 (lv_at hl 0 rfl) ?_
      refine lv_iload_n hx hb dX7_poke_28 rfl (lv_at hl 3 rfl) ?_
      obtain ⟨r4, D4, hc4, h⟩ := bi_some h
      refine x_callVi (As := [.int a2]) ⟨hx, hb, hml, hown, ht0⟩ hK hT hP hS (c_X5_byteAt l dd Y t XG ad ij F w1 g_w1 a2 _ _ _ hc4) m_ML_X7_190 sv_X5_byteAt hd_X5_byteAt rfl rfl ⟨Nat.le_of_ble_eq_true rfl, Nat.le_of_ble_eq_true rfl⟩ (k_w1).1 (ce5 (k_w1).2) rfl rfl hl.1 rfl (Nat.le_of_ble_eq_true rfl) dX7_poke_29 ⟨Nat.zero_le _, Nat.zero_le _⟩ (fun H locs hn_r4 hP hS => ?_)
      refine lv_istore (lv' := [(5, .int r4), (4, .ref (ad w1)), (0, .ref (ad 0)), (1, .int a1), (2, .int a2), (3, .int a3)]) hx hb dX7_poke_32 hl (by decide) rfl (fun ls hl => ?_)
      refine lv_aload hx hb dX7_poke_34 (lv_at hl 1 rfl) ?_
      refine lv_bipush (v := 8) hx hb dX7_poke_36 (by decide) ?_
      refine lv_iload_n hx hb dX7_poke_38 rfl (lv_at hl 4 rfl) ?_
      refine lv_imul hx hb dX7_poke_39 ?_
      refine lv_bipush (v := 8) hx hb dX7_poke_40 (by decide) ?_
      refine lv_iload_n hx hb dX7_poke_42 rfl (lv_at hl 5 rfl) ?_
      obtain ⟨r5, D5, hc5, h⟩ := bi_some h
      refine x_callVv (As := [.int (8 * a2), .int 8, .int a3]) ⟨hx, hb, hml, hown, ht0⟩ hK hT hP hS (c_X5_putBits l dd Y t XG ad ij F w1 g_w1 (8 * a2) 8 a3 _ _ _ hc5) m_ML_X7_191 sv_X5_putBits hd_X5_putBits rfl rfl ⟨Nat.le_of_ble_eq_true rfl, Nat.le_of_ble_eq_true rfl⟩ (k_w1).1 (ce5 (k_w1).2) rfl rfl hl.1 rfl (Nat.le_of_ble_eq_true rfl) dX7_poke_43 ⟨Nat.zero_le _, Nat.zero_le _⟩ (fun H locs hP hS => ?_)
      refine lv_iload hx hb dX7_poke_46 (lv_at hl 0 rfl) ?_
      exact x_iret hx hb hr hlocks rfl hP hS h dX7_poke_48
    · have h := x_t (show r2 = 0 from c3) h
      refine lv_iconst (v := (-1)) hx hb dX7_poke_24 (by decide) ?_
      exact x_iret hx hb hr hlocks rfl hP hS h dX7_poke_25
abbrev rm_X7_stamp : Room := { frames := 1, cells := 0, slots := 0, locals := 30 }
set_option maxHeartbeats 4000000 in
set_option maxRecDepth 100000 in
theorem c_X7_stamp (l : Launch) (dd : Dd) (Y : Yc) (t : Ts3) (ad : Nat → Nat) (ij : Ij XG ad) (F : Nat) (a1 a2 a3 : Int32) (D0 D' : Mm) (r0 : Int32) (h : P_X7_stamp (gN XG) F a1 a2 a3 D0 = some (r0, D')) : Met l yX7_stamp wzX7_stamp rm_X7_stamp (va_Pc [.ref (ad 0), .int a1, .int a2, .int a3] (Wd dd Y t XG ad D0)) (Qi dd Y XG ad .int r0 D') 0 0 (pA XG ad) := by
  refine Met.ofW (cc := cX7_stamp) (maxL := 5) (ret := (some .int)) (by decide) rfl ?_
  intro p e s m args below meth c s₁ B hml hv
  obtain ⟨rfl, hP, hK, hT⟩ := hv
  have hx := B.exec
  have hb := B.bytes
  have hr := B.returns
  have ht0 : ∀ w ∈ W0, w.before _ s = true := fun w h => atoms_spec (ws := wzX7_stamp) B.pre w (List.mem_cons_of_mem _ h)
  have hown : s.vm.findClass RX7 = some m.cls := findClass_of_methodNamed B.named
  have hlocks := B.notSynchronized
  have hS : va_S (pA XG ad) s.heap s.heap [] := va_S.rf
  have hl := lv_entry ([.ref (ad 0), .int a1, .int a2, .int a3]) (n := 5) (Nat.le_of_ble_eq_true rfl)
  rw [lg_entry_eq]
  generalize (lg_sl ([.ref (ad 0), .int a1, .int a2, .int a3]) ++ List.replicate (5 - (lg_sl ([.ref (ad 0), .int a1, .int a2, .int a3])).length) Slot.unset).toArray = ls at hl ⊢
  have hl : lv_has ls 5 [(0, .ref (ad 0)), (1, .int a1), (2, .int a2), (3, .int a3)] := hl
  have hP : va_P dd vwCl (wW Y XG ad D0) s.heap := hP
  generalize D0 = D at h hP
  have h : ((bq (P_X0_ringOf a1) (some ((-1), D)) (fun w1 => bi (P_X5_hasByte (gN XG) F w1 a2 D) (fun r2 D2 => if r2 = 0 then (some ((-1), D2)) else (bi (P_X5_putBits (gN XG) F w1 (8 * a2) 16 (jush a3 16) D2) (fun r4 D4 => bi (P_X5_putBits (gN XG) F w1 ((8 * a2) + 16) 16 a3 D4) (fun r5 D5 => some (1, D5))))))) : Rs) = some (r0, D') := h
  refine lv_aload_n hx hb dX7_stamp_0 rfl (lv_at hl 0 rfl) ?_
  refine x_get hx hb ht0 u_X7 hown hK hP (xk_0).1 (ce7 (xk_0).2) rfl 1 (by decide) (ht0 _ m_FL_X7_21) rfl (rfv (G := XG) (c := 0) (k := 1) (c' := 2) rfl) dX7_stamp_1 ?_
  refine lv_iload_n hx hb dX7_stamp_4 rfl (lv_at hl 1 rfl) ?_
  refine x_callVq (As := [.int a1]) ⟨hx, hb, hml, hown, ht0⟩ hK hT hP hS (c_X0_ringOf l dd Y t ad ij a1 D) m_ML_X7_182 sv_X0_ringOf hd_X0_ringOf rfl rfl ⟨Nat.le_of_ble_eq_true rfl, Nat.le_of_ble_eq_true rfl⟩ (xk_2).1 (ce0 (xk_2).2) rfl rfl hl.1 rfl (Nat.le_of_ble_eq_true rfl) dX7_stamp_5 ⟨Nat.zero_le _, Nat.zero_le _⟩ (fun hq H locs hP hS => ?_) (fun w1 hq H locs hP hS => ?_)
  · have h := bq_n hq h
    refine lv_astoreN (lv' := [(4, .null), (0, .ref (ad 0)), (1, .int a1), (2, .int a2), (3, .int a3)]) hx hb dX7_stamp_8 hl (by decide) rfl (fun ls hl => ?_)
    refine lv_aloadN hx hb dX7_stamp_10 (lv_at hl 0 rfl) ?_
    refine lv_ifnullN (tgt := 24) hx hb dX7_stamp_12 (by decide) ?_
    refine lv_iconst (v := (-1)) hx hb dX7_stamp_24 (by decide) ?_
    exact x_iret hx hb hr hlocks rfl hP hS h dX7_stamp_25
  · have h := bq_s hq h
    have g_w1 : RingAt XG w1 := ringOf_at hq
    obtain ⟨k_w1, p_w1_0, p_w1_2, k_w11, k_w12⟩ := id g_w1
    refine lv_astore (lv' := [(4, .ref (ad w1)), (0, .ref (ad 0)), (1, .int a1), (2, .int a2), (3, .int a3)]) hx hb dX7_stamp_8 hl (by decide) rfl (fun ls hl => ?_)
    refine lv_aload hx hb dX7_stamp_10 (lv_at hl 0 rfl) ?_
    refine lv_ifnull hx hb dX7_stamp_12 ?_
    refine lv_aload hx hb dX7_stamp_15 (lv_at hl 0 rfl) ?_
    refine lv_iload_n hx hb dX7_stamp_17 rfl (lv_at hl 3 rfl) ?_
    obtain ⟨r2, D2, hc2, h⟩ := bi_some h
    refine x_callVi (As := [.int a2]) ⟨hx, hb, hml, hown, ht0⟩ hK hT hP hS (c_X5_hasByte l dd Y t XG ad ij F w1 g_w1 a2 _ _ _ hc2) m_ML_X7_186 sv_X5_hasByte hd_X5_hasByte rfl rfl ⟨Nat.le_of_ble_eq_true rfl, Nat.le_of_ble_eq_true rfl⟩ (k_w1).1 (ce5 (k_w1).2) rfl rfl hl.1 rfl (Nat.le_of_ble_eq_true rfl) dX7_stamp_18 ⟨Nat.zero_le _, Nat.zero_le _⟩ (fun H locs hn_r2 hP hS => ?_)
    refine lv_if_ne (tgt := 26) hx hb dX7_stamp_21 (by decide) (fun c3 => ?_) (fun c3 => ?_)
    · have h := x_f (show ¬ (r2 = 0) from c3) h
      refine lv_aload hx hb dX7_stamp_26 (lv_at hl 0 rfl) ?_
      refine lv_bipush (v := 8) hx hb dX7_stamp_28 (by decide) ?_
      refine lv_iload_n hx hb dX7_stamp_30 rfl (lv_at hl 3 rfl) ?_
      refine lv_imul hx hb dX7_stamp_31 ?_
      refine lv_bipush (v := 16) hx hb dX7_stamp_32 (by decide) ?_
      refine lv_iload_n hx hb dX7_stamp_34 rfl (lv_at hl 4 rfl) ?_
      refine lv_bipush (v := 16) hx hb dX7_stamp_35 (by decide) ?_
      refine lv_iushr (v := jush a3 16) hx hb dX7_stamp_37 rfl ?_
      obtain ⟨r4, D4, hc4, h⟩ := bi_some h
      refine x_callVv (As := [.int (8 * a2), .int 16, .int (jush a3 16)]) ⟨hx, hb, hml, hown, ht0⟩ hK hT hP hS (c_X5_putBits l dd Y t XG ad ij F w1 g_w1 (8 * a2) 16 (jush a3 16) _ _ _ hc4) m_ML_X7_191 sv_X5_putBits hd_X5_putBits rfl rfl ⟨Nat.le_of_ble_eq_true rfl, Nat.le_of_ble_eq_true rfl⟩ (k_w1).1 (ce5 (k_w1).2) rfl rfl hl.1 rfl (Nat.le_of_ble_eq_true rfl) dX7_stamp_38 ⟨Nat.zero_le _, Nat.zero_le _⟩ (fun H locs hP hS => ?_)
      refine lv_aload hx hb dX7_stamp_41 (lv_at hl 0 rfl) ?_
      refine lv_bipush (v := 8) hx hb dX7_stamp_43 (by decide) ?_
      refine lv_iload_n hx hb dX7_stamp_45 rfl (lv_at hl 3 rfl) ?_
      refine lv_imul hx hb dX7_stamp_46 ?_
      refine lv_bipush (v := 16) hx hb dX7_stamp_47 (by decide) ?_
      refine lv_iadd hx hb dX7_stamp_49 ?_
      refine lv_bipush (v := 16) hx hb dX7_stamp_50 (by decide) ?_
      refine lv_iload_n hx hb dX7_stamp_52 rfl (lv_at hl 4 rfl) ?_
      obtain ⟨r5, D5, hc5, h⟩ := bi_some h
      refine x_callVv (As := [.int ((8 * a2) + 16), .int 16, .int a3]) ⟨hx, hb, hml, hown, ht0⟩ hK hT hP hS (c_X5_putBits l dd Y t XG ad ij F w1 g_w1 ((8 * a2) + 16) 16 a3 _ _ _ hc5) m_ML_X7_191 sv_X5_putBits hd_X5_putBits rfl rfl ⟨Nat.le_of_ble_eq_true rfl, Nat.le_of_ble_eq_true rfl⟩ (k_w1).1 (ce5 (k_w1).2) rfl rfl hl.1 rfl (Nat.le_of_ble_eq_true rfl) dX7_stamp_53 ⟨Nat.zero_le _, Nat.zero_le _⟩ (fun H locs hP hS => ?_)
      refine lv_iconst (v := 1) hx hb dX7_stamp_56 (by decide) ?_
      exact x_iret hx hb hr hlocks rfl hP hS h dX7_stamp_57
    · have h := x_t (show r2 = 0 from c3) h
      refine lv_iconst (v := (-1)) hx hb dX7_stamp_24 (by decide) ?_
      exact x_iret hx hb hr hlocks rfl hP hS h dX7_stamp_25
abbrev rm_X7_turn : Room := { frames := 2, cells := 0, slots := 0, locals := 55 }
set_option maxHeartbeats 4000000 in
set_option maxRecDepth 100000 in
theorem c_X7_turn (l : Launch) (dd : Dd) (Y : Yc) (t : Ts3) (ad : Nat → Nat) (ij : Ij XG ad) (F : Nat) (a1 a2 : Int32) (D0 D' : Mm) (r0 : Int32) (h : P_X7_turn (gN XG) F a1 a2 D0 = some (r0, D')) : Met l yX7_turn wzX7_turn rm_X7_turn (va_Pc [.ref (ad 0), .int a1, .int a2] (Wd dd Y t XG ad D0)) (Qi dd Y XG ad .int r0 D') 0 0 (pA XG ad) := by
  refine Met.ofW (cc := cX7_turn) (maxL := 4) (ret := (some .int)) (by decide) rfl ?_
  intro p e s m args below meth c s₁ B hml hv
  obtain ⟨rfl, hP, hK, hT⟩ := hv
  have hx := B.exec
  have hb := B.bytes
  have hr := B.returns
  have ht0 : ∀ w ∈ W0, w.before _ s = true := fun w h => atoms_spec (ws := wzX7_turn) B.pre w (List.mem_cons_of_mem _ h)
  have hown : s.vm.findClass RX7 = some m.cls := findClass_of_methodNamed B.named
  have hlocks := B.notSynchronized
  have hS : va_S (pA XG ad) s.heap s.heap [] := va_S.rf
  have hl := lv_entry ([.ref (ad 0), .int a1, .int a2]) (n := 4) (Nat.le_of_ble_eq_true rfl)
  rw [lg_entry_eq]
  generalize (lg_sl ([.ref (ad 0), .int a1, .int a2]) ++ List.replicate (4 - (lg_sl ([.ref (ad 0), .int a1, .int a2])).length) Slot.unset).toArray = ls at hl ⊢
  have hl : lv_has ls 4 [(0, .ref (ad 0)), (1, .int a1), (2, .int a2)] := hl
  have hP : va_P dd vwCl (wW Y XG ad D0) s.heap := hP
  generalize D0 = D at h hP
  have h : ((bq (P_X0_ringOf a1) (some ((-1), D)) (fun w1 => bi (P_X5_rotate (gN XG) F w1 72 a2 D) (fun r2 D2 => some (1, D2)))) : Rs) = some (r0, D') := h
  refine lv_aload_n hx hb dX7_turn_0 rfl (lv_at hl 0 rfl) ?_
  refine x_get hx hb ht0 u_X7 hown hK hP (xk_0).1 (ce7 (xk_0).2) rfl 1 (by decide) (ht0 _ m_FL_X7_21) rfl (rfv (G := XG) (c := 0) (k := 1) (c' := 2) rfl) dX7_turn_1 ?_
  refine lv_iload_n hx hb dX7_turn_4 rfl (lv_at hl 1 rfl) ?_
  refine x_callVq (As := [.int a1]) ⟨hx, hb, hml, hown, ht0⟩ hK hT hP hS (c_X0_ringOf l dd Y t ad ij a1 D) m_ML_X7_182 sv_X0_ringOf hd_X0_ringOf rfl rfl ⟨Nat.le_of_ble_eq_true rfl, Nat.le_of_ble_eq_true rfl⟩ (xk_2).1 (ce0 (xk_2).2) rfl rfl hl.1 rfl (Nat.le_of_ble_eq_true rfl) dX7_turn_5 ⟨Nat.zero_le _, Nat.zero_le _⟩ (fun hq H locs hP hS => ?_) (fun w1 hq H locs hP hS => ?_)
  · have h := bq_n hq h
    refine lv_astore_nN (lv' := [(3, .null), (0, .ref (ad 0)), (1, .int a1), (2, .int a2)]) hx hb dX7_turn_8 rfl hl (by decide) rfl (fun ls hl => ?_)
    refine lv_aload_nN hx hb dX7_turn_9 rfl (lv_at hl 0 rfl) ?_
    refine lv_ifnonnullN hx hb dX7_turn_10 ?_
    refine lv_iconst (v := (-1)) hx hb dX7_turn_13 (by decide) ?_
    exact x_iret hx hb hr hlocks rfl hP hS h dX7_turn_14
  · have h := bq_s hq h
    have g_w1 : RingAt XG w1 := ringOf_at hq
    obtain ⟨k_w1, p_w1_0, p_w1_2, k_w11, k_w12⟩ := id g_w1
    refine lv_astore_n (lv' := [(3, .ref (ad w1)), (0, .ref (ad 0)), (1, .int a1), (2, .int a2)]) hx hb dX7_turn_8 rfl hl (by decide) rfl (fun ls hl => ?_)
    refine lv_aload_n hx hb dX7_turn_9 rfl (lv_at hl 0 rfl) ?_
    refine lv_ifnonnull (tgt := 15) hx hb dX7_turn_10 (by decide) ?_
    refine lv_aload_n hx hb dX7_turn_15 rfl (lv_at hl 0 rfl) ?_
    refine lv_iload_n hx hb dX7_turn_16 rfl (lv_at hl 3 rfl) ?_
    refine lv_aload_n hx hb dX7_turn_17 rfl (lv_at hl 1 rfl) ?_
    refine x_get hx hb ht0 u_X7 hown hK hP (xk_0).1 (ce7 (xk_0).2) rfl 9 (by decide) (ht0 _ m_FL_X7_73) rfl (rfv (G := XG) (c := 0) (k := 9) (c' := 72) rfl) dX7_turn_18 ?_
    obtain ⟨r2, D2, hc2, h⟩ := bi_some h
    refine x_callVv (As := [.int a2, .ref (ad 72)]) ⟨hx, hb, hml, hown, ht0⟩ hK hT hP hS (c_X5_rotate l dd Y t XG ad ij F w1 72 g_w1 xk_72 a2 _ _ _ hc2) m_ML_X7_194 sv_X5_rotate hd_X5_rotate rfl rfl ⟨Nat.le_of_ble_eq_true rfl, Nat.le_of_ble_eq_true rfl⟩ (k_w1).1 (ce5 (k_w1).2) rfl rfl hl.1 rfl (Nat.le_of_ble_eq_true rfl) dX7_turn_21 ⟨Nat.zero_le _, Nat.zero_le _⟩ (fun H locs hP hS => ?_)
    refine lv_iconst (v := 1) hx hb dX7_turn_24 (by decide) ?_
    exact x_iret hx hb hr hlocks rfl hP hS h dX7_turn_25
abbrev rm_X7_syncs : Room := { frames := 1, cells := 0, slots := 0, locals := 25 }
set_option maxHeartbeats 4000000 in
set_option maxRecDepth 100000 in
theorem c_X7_syncs (l : Launch) (dd : Dd) (Y : Yc) (t : Ts3) (ad : Nat → Nat) (ij : Ij XG ad) (F : Nat) (a1 : Int32) (D0 D' : Mm) (r0 : Int32) (h : P_X7_syncs (gN XG) F a1 D0 = some (r0, D')) : Met l yX7_syncs wzX7_syncs rm_X7_syncs (va_Pc [.ref (ad 0), .int a1] (Wd dd Y t XG ad D0)) (Qi dd Y XG ad .int r0 D') 0 0 (pA XG ad) := by
  refine Met.ofW (cc := cX7_syncs) (maxL := 3) (ret := (some .int)) (by decide) rfl ?_
  intro p e s m args below meth c s₁ B hml hv
  obtain ⟨rfl, hP, hK, hT⟩ := hv
  have hx := B.exec
  have hb := B.bytes
  have hr := B.returns
  have ht0 : ∀ w ∈ W0, w.before _ s = true := fun w h => atoms_spec (ws := wzX7_syncs) B.pre w (List.mem_cons_of_mem _ h)
  have hown : s.vm.findClass RX7 = some m.cls := findClass_of_methodNamed B.named
  have hlocks := B.notSynchronized
  have hS : va_S (pA XG ad) s.heap s.heap [] := va_S.rf
  have hl := lv_entry ([.ref (ad 0), .int a1]) (n := 3) (Nat.le_of_ble_eq_true rfl)
  rw [lg_entry_eq]
  generalize (lg_sl ([.ref (ad 0), .int a1]) ++ List.replicate (3 - (lg_sl ([.ref (ad 0), .int a1])).length) Slot.unset).toArray = ls at hl ⊢
  have hl : lv_has ls 3 [(0, .ref (ad 0)), (1, .int a1)] := hl
  have hP : va_P dd vwCl (wW Y XG ad D0) s.heap := hP
  generalize D0 = D at h hP
  have h : ((bq (P_X0_ringOf a1) (some ((-1), D)) (fun w1 => bi (P_X5_findSyncs (gN XG) F w1 D) (fun r2 D2 => some (r2, D2)))) : Rs) = some (r0, D') := h
  refine lv_aload_n hx hb dX7_syncs_0 rfl (lv_at hl 0 rfl) ?_
  refine x_get hx hb ht0 u_X7 hown hK hP (xk_0).1 (ce7 (xk_0).2) rfl 1 (by decide) (ht0 _ m_FL_X7_21) rfl (rfv (G := XG) (c := 0) (k := 1) (c' := 2) rfl) dX7_syncs_1 ?_
  refine lv_iload_n hx hb dX7_syncs_4 rfl (lv_at hl 1 rfl) ?_
  refine x_callVq (As := [.int a1]) ⟨hx, hb, hml, hown, ht0⟩ hK hT hP hS (c_X0_ringOf l dd Y t ad ij a1 D) m_ML_X7_182 sv_X0_ringOf hd_X0_ringOf rfl rfl ⟨Nat.le_of_ble_eq_true rfl, Nat.le_of_ble_eq_true rfl⟩ (xk_2).1 (ce0 (xk_2).2) rfl rfl hl.1 rfl (Nat.le_of_ble_eq_true rfl) dX7_syncs_5 ⟨Nat.zero_le _, Nat.zero_le _⟩ (fun hq H locs hP hS => ?_) (fun w1 hq H locs hP hS => ?_)
  · have h := bq_n hq h
    refine lv_astore_nN (lv' := [(2, .null), (0, .ref (ad 0)), (1, .int a1)]) hx hb dX7_syncs_8 rfl hl (by decide) rfl (fun ls hl => ?_)
    refine lv_aload_nN hx hb dX7_syncs_9 rfl (lv_at hl 0 rfl) ?_
    refine lv_ifnonnullN hx hb dX7_syncs_10 ?_
    refine lv_iconst (v := (-1)) hx hb dX7_syncs_13 (by decide) ?_
    refine lv_goto (tgt := 21) hx hb dX7_syncs_14 (by decide) ?_
    exact x_iret hx hb hr hlocks rfl hP hS h dX7_syncs_21
  · have h := bq_s hq h
    have g_w1 : RingAt XG w1 := ringOf_at hq
    obtain ⟨k_w1, p_w1_0, p_w1_2, k_w11, k_w12⟩ := id g_w1
    refine lv_astore_n (lv' := [(2, .ref (ad w1)), (0, .ref (ad 0)), (1, .int a1)]) hx hb dX7_syncs_8 rfl hl (by decide) rfl (fun ls hl => ?_)
    refine lv_aload_n hx hb dX7_syncs_9 rfl (lv_at hl 0 rfl) ?_
    refine lv_ifnonnull (tgt := 17) hx hb dX7_syncs_10 (by decide) ?_
    refine lv_aload_n hx hb dX7_syncs_17 rfl (lv_at hl 0 rfl) ?_
    obtain ⟨r2, D2, hc2, h⟩ := bi_some h
    refine x_callVi (As := []) ⟨hx, hb, hml, hown, ht0⟩ hK hT hP hS (c_X5_findSyncs l dd Y t XG ad ij F w1 g_w1 _ _ _ hc2) m_ML_X7_198 sv_X5_findSyncs hd_X5_findSyncs rfl rfl ⟨Nat.le_of_ble_eq_true rfl, Nat.le_of_ble_eq_true rfl⟩ (k_w1).1 (ce5 (k_w1).2) rfl rfl hl.1 rfl (Nat.le_of_ble_eq_true rfl) dX7_syncs_18 ⟨Nat.zero_le _, Nat.zero_le _⟩ (fun H locs hn_r2 hP hS => ?_)
    exact x_iret hx hb hr hlocks rfl hP hS h dX7_syncs_21
abbrev rm_X7_read : Room := { frames := 4, cells := 0, slots := 0, locals := 109 }
set_option maxHeartbeats 4000000 in
set_option maxRecDepth 100000 in
theorem c_X7_read (l : Launch) (dd : Dd) (Y : Yc) (t : Ts3) (ad : Nat → Nat) (ij : Ij XG ad) (F : Nat) (a1 a2 : Int32) (D0 D' : Mm) (r0 : Int32) (h : P_X7_read (gN XG) F a1 a2 D0 = some (r0, D')) : Met l yX7_read wzX7_read rm_X7_read (va_Pc [.ref (ad 0), .int a1, .int a2] (Wd dd Y t XG ad D0)) (Qi dd Y XG ad .int r0 D') 0 0 (pA XG ad) := by
  refine Met.ofW (cc := cX7_read) (maxL := 4) (ret := (some .int)) (by decide) rfl ?_
  intro p e s m args below meth c s₁ B hml hv
  obtain ⟨rfl, hP, hK, hT⟩ := hv
  have hx := B.exec
  have hb := B.bytes
  have hr := B.returns
  have ht0 : ∀ w ∈ W0, w.before _ s = true := fun w h => atoms_spec (ws := wzX7_read) B.pre w (List.mem_cons_of_mem _ h)
  have hown : s.vm.findClass RX7 = some m.cls := findClass_of_methodNamed B.named
  have hlocks := B.notSynchronized
  have hS : va_S (pA XG ad) s.heap s.heap [] := va_S.rf
  have hl := lv_entry ([.ref (ad 0), .int a1, .int a2]) (n := 4) (Nat.le_of_ble_eq_true rfl)
  rw [lg_entry_eq]
  generalize (lg_sl ([.ref (ad 0), .int a1, .int a2]) ++ List.replicate (4 - (lg_sl ([.ref (ad 0), .int a1, .int a2])).length) Slot.unset).toArray = ls at hl ⊢
  have hl : lv_has ls 4 [(0, .ref (ad 0)), (1, .int a1), (2, .int a2)] := hl
  have hP : va_P dd vwCl (wW Y XG ad D0) s.heap := hP
  generalize D0 = D at h hP
  have h : ((bi (P_X0_readBlock (gN XG) F 71 a1 a2 (up2 D 67 1 0)) (fun r1 D1 => if r1 = 0 then (bi (P_X1_addRow (gN XG) F 67 71 0 64 D1) (fun r3 D3 => some (r1, D3))) else (some (r1, D1)))) : Rs) = some (r0, D') := h
  refine lv_aload_n hx hb dX7_read_0 rfl (lv_at hl 0 rfl) ?_
  refine x_get hx hb ht0 u_X7 hown hK hP (xk_0).1 (ce7 (xk_0).2) rfl 6 (by decide) (ht0 _ m_FL_X7_57) rfl (rfv (G := XG) (c := 0) (k := 6) (c' := 67) rfl) dX7_read_1 ?_
  refine lv_iconst (v := 0) hx hb dX7_read_4 (by decide) ?_
  refine x_put (ty := .int) hx hb ht0 u_X1 tyX1 tyX1_ok nmX1 hown hK ij hP hS (xk_67).1 (ce1 (xk_67).2) rfl 1 (by decide) (ht0 _ m_FL_X7_76) rfl rfl (by decide +kernel) rfl rfl (Nat.le_of_ble_eq_true rfl) (by rw [(xk_67).2]; rfl) dX7_read_5 (fun H locs hP hS => ?_)
  refine lv_aload_n hx hb dX7_read_8 rfl (lv_at hl 0 rfl) ?_
  refine x_get hx hb ht0 u_X7 hown hK hP (xk_0).1 (ce7 (xk_0).2) rfl 1 (by decide) (ht0 _ m_FL_X7_21) rfl (rfv (G := XG) (c := 0) (k := 1) (c' := 2) rfl) dX7_read_9 ?_
  refine lv_iload_n hx hb dX7_read_12 rfl (lv_at hl 1 rfl) ?_
  refine lv_iload_n hx hb dX7_read_13 rfl (lv_at hl 2 rfl) ?_
  refine lv_aload_n hx hb dX7_read_14 rfl (lv_at hl 0 rfl) ?_
  refine x_get hx hb ht0 u_X7 hown hK hP (xk_0).1 (ce7 (xk_0).2) rfl 8 (by decide) (ht0 _ m_FL_X7_63) rfl (rfv (G := XG) (c := 0) (k := 8) (c' := 71) rfl) dX7_read_15 ?_
  obtain ⟨r1, D1, hc1, h⟩ := bi_some h
  refine x_callVi (As := [.int a1, .int a2, .ref (ad 71)]) ⟨hx, hb, hml, hown, ht0⟩ hK hT hP hS (c_X0_readBlock l dd Y t ad ij F 71 xk_71 a1 a2 _ _ _ hc1) m_ML_X7_201 sv_X0_readBlock hd_X0_readBlock rfl rfl ⟨Nat.le_of_ble_eq_true rfl, Nat.le_of_ble_eq_true rfl⟩ (xk_2).1 (ce0 (xk_2).2) rfl rfl hl.1 rfl (Nat.le_of_ble_eq_true rfl) dX7_read_18 ⟨Nat.zero_le _, Nat.zero_le _⟩ (fun H locs hn_r1 hP hS => ?_)
  refine lv_istore_n (lv' := [(3, .int r1), (0, .ref (ad 0)), (1, .int a1), (2, .int a2)]) hx hb dX7_read_21 rfl hl (by decide) rfl (fun ls hl => ?_)
  refine lv_iload_n hx hb dX7_read_22 rfl (lv_at hl 0 rfl) ?_
  refine lv_if_ne (tgt := 40) hx hb dX7_read_23 (by decide) (fun c2 => ?_) (fun c2 => ?_)
  · have h := x_f (show ¬ (r1 = 0) from c2) h
    refine lv_iload_n hx hb dX7_read_40 rfl (lv_at hl 0 rfl) ?_
    exact x_iret hx hb hr hlocks rfl hP hS h dX7_read_41
  · have h := x_t (show r1 = 0 from c2) h
    refine lv_aload_n hx hb dX7_read_26 rfl (lv_at hl 1 rfl) ?_
    refine x_get hx hb ht0 u_X7 hown hK hP (xk_0).1 (ce7 (xk_0).2) rfl 6 (by decide) (ht0 _ m_FL_X7_57) rfl (rfv (G := XG) (c := 0) (k := 6) (c' := 67) rfl) dX7_read_27 ?_
    refine lv_aload_n hx hb dX7_read_30 rfl (lv_at hl 1 rfl) ?_
    refine x_get hx hb ht0 u_X7 hown hK hP (xk_0).1 (ce7 (xk_0).2) rfl 8 (by decide) (ht0 _ m_FL_X7_63) rfl (rfv (G := XG) (c := 0) (k := 8) (c' := 71) rfl) dX7_read_31 ?_
    refine lv_iconst (v := 0) hx hb dX7_read_34 (by decide) ?_
    refine lv_bipush (v := 64) hx hb dX7_read_35 (by decide) ?_
    obtain ⟨r3, D3, hc3, h⟩ := bi_some h
    refine x_callVv (As := [.ref (ad 71), .int 0, .int 64]) ⟨hx, hb, hml, hown, ht0⟩ hK hT hP hS (c_X1_addRow l dd Y t XG ad ij F 67 71 xb_67 xk_71 0 64 _ _ _ hc3) m_ML_X7_164 sv_X1_addRow hd_X1_addRow rfl rfl ⟨Nat.le_of_ble_eq_true rfl, Nat.le_of_ble_eq_true rfl⟩ (xk_67).1 (ce1 (xk_67).2) rfl rfl hl.1 rfl (Nat.le_of_ble_eq_true rfl) dX7_read_37 ⟨Nat.zero_le _, Nat.zero_le _⟩ (fun H locs hP hS => ?_)
    refine lv_iload_n hx hb dX7_read_40 rfl (lv_at hl 0 rfl) ?_
    exact x_iret hx hb hr hlocks rfl hP hS h dX7_read_41
abbrev rm_X7_write : Room := { frames := 4, cells := 0, slots := 0, locals := 107 }
set_option maxHeartbeats 4000000 in
set_option maxRecDepth 100000 in
theorem c_X7_write (l : Launch) (dd : Dd) (Y : Yc) (t : Ts3) (ad : Nat → Nat) (ij : Ij XG ad) (F : Nat) (a1 a2 : Int32) (D0 D' : Mm) (r0 : Int32) (h : P_X7_write (gN XG) F a1 a2 D0 = some (r0, D')) : Met l yX7_write wzX7_write rm_X7_write (va_Pc [.ref (ad 0), .int a1, .int a2] (Wd dd Y t XG ad D0)) (Qi dd Y XG ad .int r0 D') 0 0 (pA XG ad) := by
  refine Met.ofW (cc := cX7_write) (maxL := 4) (ret := (some .int)) (by decide) rfl ?_
  intro p e s m args below meth c s₁ B hml hv
  obtain ⟨rfl, hP, hK, hT⟩ := hv
  have hx := B.exec
  have hb := B.bytes
  have hr := B.returns
  have ht0 : ∀ w ∈ W0, w.before _ s = true := fun w h => atoms_spec (ws := wzX7_write) B.pre w (List.mem_cons_of_mem _ h)
  have hown : s.vm.findClass RX7 = some m.cls := findClass_of_methodNamed B.named
  have hlocks := B.notSynchronized
  have hS : va_S (pA XG ad) s.heap s.heap [] := va_S.rf
  have L2 : ∀ (n : Nat), ∀ (x1 x2 x3 : Int32) (D : Mm) (H : Heap) (locs : List Loc) (ls : Array Slot), P_X7_write_2 (gN XG) F n x1 x2 x3 D = some (r0, D') → va_P dd vwCl (wW Y XG ad D) H → va_S (pA XG ad) s.heap H locs → lv_has ls 4 [(0, .ref (ad 0)), (1, .int x1), (2, .int x2), (3, .int x3)] → W p l e (headSpec wzX7_write rm_X7_write).room s m ([.ref (ad 0), .int a1, .int a2].toArray) below meth c H locs 0 0 (MQ below (Qi dd Y XG ad .int r0 D') ([.ref (ad 0), .int a1, .int a2].toArray) s 0 0 (pA XG ad)) (F0 m 2 ls []) := by
    intro n
    induction n with
    | zero =>
      intro x1 x2 x3 D H locs ls h hP hS hl
      cases h
    | succ n ih =>
      intro x1 x2 x3 D H locs ls h hP hS hl
      have h : ((if 64 ≤ x3 then (bi (P_X0_writeBlock (gN XG) F 71 x1 x2 (up2 D 65 1 0)) (fun r2 D2 => some (r2, D2))) else (bi (P_X1_byteAt (gN XG) F 65 x3 D) (fun r3 D3 => if inB x3 ((gN XG) 71) = true then (P_X7_write_2 (gN XG) F n x1 x2 (x3 + 1) (up2 D3 71 (Int32.toNatClampNeg x3) (if 0 < r3 then r3 else 0))) else none))) : Rs) = some (r0, D') := h
      refine lv_iload_n hx hb dX7_write_2 rfl (lv_at hl 3 rfl) ?_
      refine lv_bipush (v := 64) hx hb dX7_write_3 (by decide) ?_
      refine lv_icmp_ge (tgt := 32) hx hb dX7_write_5 (by decide) (fun c1 => ?_) (fun c1 => ?_)
      · have h := x_t (show 64 ≤ x3 from c1) h
        refine lv_aload_n hx hb dX7_write_32 rfl (lv_at hl 0 rfl) ?_
        refine x_get hx hb ht0 u_X7 hown hK hP (xk_0).1 (ce7 (xk_0).2) rfl 5 (by decide) (ht0 _ m_FL_X7_53) rfl (rfv (G := XG) (c := 0) (k := 5) (c' := 65) rfl) dX7_write_33 ?_
        refine lv_iconst (v := 0) hx hb dX7_write_36 (by decide) ?_
        refine x_put (ty := .int) hx hb ht0 u_X1 tyX1 tyX1_ok nmX1 hown hK ij hP hS (xk_65).1 (ce1 (xk_65).2) rfl 1 (by decide) (ht0 _ m_FL_X7_76) rfl rfl (by decide +kernel) rfl rfl (Nat.le_of_ble_eq_true rfl) (by rw [(xk_65).2]; rfl) dX7_write_37 (fun H locs hP hS => ?_)
        refine lv_aload_n hx hb dX7_write_40 rfl (lv_at hl 0 rfl) ?_
        refine x_get hx hb ht0 u_X7 hown hK hP (xk_0).1 (ce7 (xk_0).2) rfl 1 (by decide) (ht0 _ m_FL_X7_21) rfl (rfv (G := XG) (c := 0) (k := 1) (c' := 2) rfl) dX7_write_41 ?_
        refine lv_iload_n hx hb dX7_write_44 rfl (lv_at hl 1 rfl) ?_
        refine lv_iload_n hx hb dX7_write_45 rfl (lv_at hl 2 rfl) ?_
        refine lv_aload_n hx hb dX7_write_46 rfl (lv_at hl 0 rfl) ?_
        refine x_get hx hb ht0 u_X7 hown hK hP (xk_0).1 (ce7 (xk_0).2) rfl 8 (by decide) (ht0 _ m_FL_X7_63) rfl (rfv (G := XG) (c := 0) (k := 8) (c' := 71) rfl) dX7_write_47 ?_
        obtain ⟨r2, D2, hc2, h⟩ := bi_some h
        refine x_callVi (As := [.int x1, .int x2, .ref (ad 71)]) ⟨hx, hb, hml, hown, ht0⟩ hK hT hP hS (c_X0_writeBlock l dd Y t ad ij F 71 xk_71 x1 x2 _ _ _ hc2) m_ML_X7_209 sv_X0_writeBlock hd_X0_writeBlock rfl rfl ⟨Nat.le_of_ble_eq_true rfl, Nat.le_of_ble_eq_true rfl⟩ (xk_2).1 (ce0 (xk_2).2) rfl rfl hl.1 rfl (Nat.le_of_ble_eq_true rfl) dX7_write_50 ⟨Nat.zero_le _, Nat.zero_le _⟩ (fun H locs hn_r2 hP hS => ?_)
        exact x_iret hx hb hr hlocks rfl hP hS h dX7_write_53
      · have h := x_f (show ¬ (64 ≤ x3) from c1) h
        refine lv_aload_n hx hb dX7_write_8 rfl (lv_at hl 0 rfl) ?_
        refine x_get hx hb ht0 u_X7 hown hK hP (xk_0).1 (ce7 (xk_0).2) rfl 8 (by decide) (ht0 _ m_FL_X7_63) rfl (rfv (G := XG) (c := 0) (k := 8) (c' := 71) rfl) dX7_write_9 ?_
        refine lv_iload_n hx hb dX7_write_12 rfl (lv_at hl 3 rfl) ?_
        refine lv_iconst (v := 0) hx hb dX7_write_13 (by decide) ?_
        refine lv_aload_n hx hb dX7_write_14 rfl (lv_at hl 0 rfl) ?_
        refine x_get hx hb ht0 u_X7 hown hK hP (xk_0).1 (ce7 (xk_0).2) rfl 5 (by decide) (ht0 _ m_FL_X7_53) rfl (rfv (G := XG) (c := 0) (k := 5) (c' := 65) rfl) dX7_write_15 ?_
        refine lv_iload_n hx hb dX7_write_18 rfl (lv_at hl 3 rfl) ?_
        obtain ⟨r3, D3, hc3, h⟩ := bi_some h
        refine x_callVi (As := [.int x3]) ⟨hx, hb, hml, hown, ht0⟩ hK hT hP hS (c_X1_byteAt l dd Y t XG ad ij F 65 xb_65 x3 _ _ _ hc3) m_ML_X7_174 sv_X1_byteAt hd_X1_byteAt rfl rfl ⟨Nat.le_of_ble_eq_true rfl, Nat.le_of_ble_eq_true rfl⟩ (xk_65).1 (ce1 (xk_65).2) rfl rfl hl.1 rfl (Nat.le_of_ble_eq_true rfl) dX7_write_19 ⟨Nat.zero_le _, Nat.zero_le _⟩ (fun H locs hn_r3 hP hS => ?_)
        refine va_mmax hx hb (hml.trans hl.1.symm) hown (ht0 _ m_ML_X7_204) (ht0 _ m_ST_max) (ht0 _ m_IN_J9) (ht0 _ m_CO_max) (Nat.le_of_ble_eq_true rfl) (Nat.le_of_ble_eq_true rfl) (Nat.zero_le _) (Nat.zero_le _) dX7_write_22 ?_
        obtain ⟨b4, h⟩ := x_if h
        refine x_ast hx hb hK ij hP hS xk_71 b4 dX7_write_25 (fun H locs hP hS => ?_)
        refine lv_iinc (v := x3 + 1) (lv' := [(3, .int (x3 + 1)), (0, .ref (ad 0)), (1, .int x1), (2, .int x2)]) hx hb dX7_write_26 hl (k := 3) rfl rfl (by decide) rfl (fun ls hl => ?_)
        refine lv_goto (tgt := 2) hx hb dX7_write_29 (by decide) ?_
        exact ih x1 x2 (x3 + 1) (up2 D3 71 (Int32.toNatClampNeg x3) (if 0 < r3 then r3 else 0)) _ _ _ h hP hS (lv_sub hl [1, 2, 3, 0] rfl)
  have hl := lv_entry ([.ref (ad 0), .int a1, .int a2]) (n := 4) (Nat.le_of_ble_eq_true rfl)
  rw [lg_entry_eq]
  generalize (lg_sl ([.ref (ad 0), .int a1, .int a2]) ++ List.replicate (4 - (lg_sl ([.ref (ad 0), .int a1, .int a2])).length) Slot.unset).toArray = ls at hl ⊢
  have hl : lv_has ls 4 [(0, .ref (ad 0)), (1, .int a1), (2, .int a2)] := hl
  have hP : va_P dd vwCl (wW Y XG ad D0) s.heap := hP
  generalize D0 = D at h hP
  have h : ((P_X7_write_2 (gN XG) F F a1 a2 0 D) : Rs) = some (r0, D') := h
  refine lv_iconst (v := 0) hx hb dX7_write_0 (by decide) ?_
  refine lv_istore_n (lv' := [(3, .int 0), (0, .ref (ad 0)), (1, .int a1), (2, .int a2)]) hx hb dX7_write_1 rfl hl (by decide) rfl (fun ls hl => ?_)
  exact L2 F a1 a2 0 D _ _ _ h hP hS (lv_sub hl [1, 2, 3, 0] rfl)
abbrev rm_X7_count : Room := { frames := 0, cells := 0, slots := 0, locals := 0 }
set_option maxHeartbeats 4000000 in
set_option maxRecDepth 100000 in
theorem c_X7_count (l : Launch) (dd : Dd) (Y : Yc) (t : Ts3) (ad : Nat → Nat) (ij : Ij XG ad) (F : Nat) (a1 : Int32) (D0 D' : Mm) (r0 : Int32) (h : P_X7_count (gN XG) F a1 D0 = some (r0, D')) : Met l yX7_count wzX7_count rm_X7_count (va_Pc [.ref (ad 0), .int a1] (Wd dd Y t XG ad D0)) (Qi dd Y XG ad .int r0 D') 0 0 (pA XG ad) := by
  refine Met.ofW (cc := cX7_count) (maxL := 2) (ret := (some .int)) (by decide) rfl ?_
  intro p e s m args below meth c s₁ B hml hv
  obtain ⟨rfl, hP, hK, hT⟩ := hv
  have hx := B.exec
  have hb := B.bytes
  have hr := B.returns
  have ht0 : ∀ w ∈ W0, w.before _ s = true := fun w h => atoms_spec (ws := wzX7_count) B.pre w (List.mem_cons_of_mem _ h)
  have hown : s.vm.findClass RX7 = some m.cls := findClass_of_methodNamed B.named
  have hlocks := B.notSynchronized
  have hS : va_S (pA XG ad) s.heap s.heap [] := va_S.rf
  have hl := lv_entry ([.ref (ad 0), .int a1]) (n := 2) (Nat.le_of_ble_eq_true rfl)
  rw [lg_entry_eq]
  generalize (lg_sl ([.ref (ad 0), .int a1]) ++ List.replicate (2 - (lg_sl ([.ref (ad 0), .int a1])).length) Slot.unset).toArray = ls at hl ⊢
  have hl : lv_has ls 2 [(0, .ref (ad 0)), (1, .int a1)] := hl
  have hP : va_P dd vwCl (wW Y XG ad D0) s.heap := hP
  generalize D0 = D at h hP
  have h : ((if a1 = 0 then (some (D 2 4, D)) else (if a1 = 1 then (some (D 2 5, D)) else (if a1 = 2 then (some (D 2 6, D)) else (if a1 = 3 then (some (D 65 1, D)) else (some ((-1), D)))))) : Rs) = some (r0, D') := h
  refine lv_iload_n hx hb dX7_count_0 rfl (lv_at hl 1 rfl) ?_
  by_cases c1 : a1 = 0
  · have h := x_t c1 h
    refine lv_tableIn (tgt := 32) hx hb dX7_count_1 (by rw [c1]; decide) (by rw [c1]; decide) (by rw [c1]; rfl) (by decide) ?_
    refine lv_aload_n hx hb dX7_count_32 rfl (lv_at hl 0 rfl) ?_
    refine x_get hx hb ht0 u_X7 hown hK hP (xk_0).1 (ce7 (xk_0).2) rfl 1 (by decide) (ht0 _ m_FL_X7_21) rfl (rfv (G := XG) (c := 0) (k := 1) (c' := 2) rfl) dX7_count_33 ?_
    refine x_get hx hb ht0 u_X0 hown hK hP (xk_2).1 (ce0 (xk_2).2) rfl 4 (by decide) (ht0 _ m_FL_X7_212) rfl rfl dX7_count_36 ?_
    exact x_iret hx hb hr hlocks rfl hP hS h dX7_count_39
  have h := x_f c1 h
  by_cases c2 : a1 = 1
  · have h := x_t c2 h
    refine lv_tableIn (tgt := 40) hx hb dX7_count_1 (by rw [c2]; decide) (by rw [c2]; decide) (by rw [c2]; rfl) (by decide) ?_
    refine lv_aload_n hx hb dX7_count_40 rfl (lv_at hl 0 rfl) ?_
    refine x_get hx hb ht0 u_X7 hown hK hP (xk_0).1 (ce7 (xk_0).2) rfl 1 (by decide) (ht0 _ m_FL_X7_21) rfl (rfv (G := XG) (c := 0) (k := 1) (c' := 2) rfl) dX7_count_41 ?_
    refine x_get hx hb ht0 u_X0 hown hK hP (xk_2).1 (ce0 (xk_2).2) rfl 5 (by decide) (ht0 _ m_FL_X7_215) rfl rfl dX7_count_44 ?_
    exact x_iret hx hb hr hlocks rfl hP hS h dX7_count_47
  have h := x_f c2 h
  by_cases c3 : a1 = 2
  · have h := x_t c3 h
    refine lv_tableIn (tgt := 48) hx hb dX7_count_1 (by rw [c3]; decide) (by rw [c3]; decide) (by rw [c3]; rfl) (by decide) ?_
    refine lv_aload_n hx hb dX7_count_48 rfl (lv_at hl 0 rfl) ?_
    refine x_get hx hb ht0 u_X7 hown hK hP (xk_0).1 (ce7 (xk_0).2) rfl 1 (by decide) (ht0 _ m_FL_X7_21) rfl (rfv (G := XG) (c := 0) (k := 1) (c' := 2) rfl) dX7_count_49 ?_
    refine x_get hx hb ht0 u_X0 hown hK hP (xk_2).1 (ce0 (xk_2).2) rfl 6 (by decide) (ht0 _ m_FL_X7_218) rfl rfl dX7_count_52 ?_
    exact x_iret hx hb hr hlocks rfl hP hS h dX7_count_55
  have h := x_f c3 h
  by_cases c4 : a1 = 3
  · have h := x_t c4 h
    refine lv_tableIn (tgt := 56) hx hb dX7_count_1 (by rw [c4]; decide) (by rw [c4]; decide) (by rw [c4]; rfl) (by decide) ?_
    refine lv_aload_n hx hb dX7_count_56 rfl (lv_at hl 0 rfl) ?_
    refine x_get hx hb ht0 u_X7 hown hK hP (xk_0).1 (ce7 (xk_0).2) rfl 5 (by decide) (ht0 _ m_FL_X7_53) rfl (rfv (G := XG) (c := 0) (k := 5) (c' := 65) rfl) dX7_count_57 ?_
    refine x_get hx hb ht0 u_X1 hown hK hP (xk_65).1 (ce1 (xk_65).2) rfl 1 (by decide) (ht0 _ m_FL_X7_76) rfl rfl dX7_count_60 ?_
    exact x_iret hx hb hr hlocks rfl hP hS h dX7_count_63
  have h := x_f c4 h
  have ec1 : (a1).toInt ≠ 0 := x_sw c1
  have ec2 : (a1).toInt ≠ 1 := x_sw c2
  have ec3 : (a1).toInt ≠ 2 := x_sw c3
  have ec4 : (a1).toInt ≠ 3 := x_sw c4
  refine lv_tableOut (tgt := 64) hx hb dX7_count_1 (by omega) (by decide) ?_
  refine lv_iconst (v := (-1)) hx hb dX7_count_64 (by decide) ?_
  exact x_iret hx hb hr hlocks rfl hP hS h dX7_count_65
abbrev rm_X8_setCodes : Room := { frames := 0, cells := 0, slots := 0, locals := 0 }
set_option maxHeartbeats 4000000 in
set_option maxRecDepth 100000 in
theorem c_X8_setCodes (l : Launch) (dd : Dd) (Y : Yc) (t : Ts3) (ad : Nat → Nat) (ij : Ij MG ad) (F : Nat) (a1 a2 a3 a4 a5 : Int32) (D0 D' : Mm) (r0 : Int32) (h : P_X8_setCodes (gN MG) F a1 a2 a3 a4 a5 D0 = some (r0, D')) : Met l yX8_setCodes wzX8_setCodes rm_X8_setCodes (va_Pc [.ref (ad 0), .int a1, .int a2, .int a3, .int a4, .int a5] (Wd dd Y t MG ad D0)) (Qv dd Y MG ad D') 0 0 (pA MG ad) := by
  refine Met.ofW (cc := cX8_setCodes) (maxL := 6) (ret := none) (by decide) rfl ?_
  intro p e s m args below meth c s₁ B hml hv
  obtain ⟨rfl, hP, hK, hT⟩ := hv
  have hx := B.exec
  have hb := B.bytes
  have hr := B.returns
  have ht0 : ∀ w ∈ W0, w.before _ s = true := fun w h => atoms_spec (ws := wzX8_setCodes) B.pre w (List.mem_cons_of_mem _ h)
  have hown : s.vm.findClass RX8 = some m.cls := findClass_of_methodNamed B.named
  have hlocks := B.notSynchronized
  have hS : va_S (pA MG ad) s.heap s.heap [] := va_S.rf
  have L16 : ∀ (x1 x4 x5 : Int32) (D : Mm) (H : Heap) (locs : List Loc) (ls : Array Slot), P_X8_setCodes_16 (gN MG) F x1 x4 x5 D = some (r0, D') → va_P dd vwCl (wW Y MG ad D) H → va_S (pA MG ad) s.heap H locs → lv_has ls 6 [(0, .ref (ad 0)), (1, .int x1), (4, .int x4), (5, .int x5)] → W p l e (headSpec wzX8_setCodes rm_X8_setCodes).room s m ([.ref (ad 0), .int a1, .int a2, .int a3, .int a4, .int a5].toArray) below meth c H locs 0 0 (MQ below (Qv dd Y MG ad D') ([.ref (ad 0), .int a1, .int a2, .int a3, .int a4, .int a5].toArray) s 0 0 (pA MG ad)) (F0 m 16 ls []) := by
    intro x1 x4 x5 D H locs ls h hP hS hl
    have h : ((if inB (x1 + 2) ((gN MG) 3) = true then (if inB (x1 + 3) ((gN MG) 3) = true then (some (0, up2 (up2 D 3 (Int32.toNatClampNeg (x1 + 2)) x4) 3 (Int32.toNatClampNeg (x1 + 3)) x5)) else none) else none) : Rs) = some (r0, D') := h
    refine lv_aload_n hx hb dX8_setCodes_16 rfl (lv_at hl 0 rfl) ?_
    refine x_get hx hb ht0 u_X8 hown hK hP (mk_0).1 (ce8 (mk_0).2) rfl 2 (by decide) (ht0 _ m_FL_X8_17) rfl (rfv (G := MG) (c := 0) (k := 2) (c' := 3) rfl) dX8_setCodes_17 ?_
    refine lv_iload_n hx hb dX8_setCodes_20 rfl (lv_at hl 1 rfl) ?_
    refine lv_iconst (v := 2) hx hb dX8_setCodes_21 (by decide) ?_
    refine lv_iadd hx hb dX8_setCodes_22 ?_
    refine lv_iload hx hb dX8_setCodes_23 (lv_at hl 2 rfl) ?_
    obtain ⟨b1, h⟩ := x_if h
    refine x_ast hx hb hK ij hP hS mk_3 b1 dX8_setCodes_25 (fun H locs hP hS => ?_)
    refine lv_aload_n hx hb dX8_setCodes_26 rfl (lv_at hl 0 rfl) ?_
    refine x_get hx hb ht0 u_X8 hown hK hP (mk_0).1 (ce8 (mk_0).2) rfl 2 (by decide) (ht0 _ m_FL_X8_17) rfl (rfv (G := MG) (c := 0) (k := 2) (c' := 3) rfl) dX8_setCodes_27 ?_
    refine lv_iload_n hx hb dX8_setCodes_30 rfl (lv_at hl 1 rfl) ?_
    refine lv_iconst (v := 3) hx hb dX8_setCodes_31 (by decide) ?_
    refine lv_iadd hx hb dX8_setCodes_32 ?_
    refine lv_iload hx hb dX8_setCodes_33 (lv_at hl 3 rfl) ?_
    obtain ⟨b2, h⟩ := x_if h
    refine x_ast hx hb hK ij hP hS mk_3 b2 dX8_setCodes_35 (fun H locs hP hS => ?_)
    exact x_vret hx hb hr hlocks hP hS h dX8_setCodes_36
  have hl := lv_entry ([.ref (ad 0), .int a1, .int a2, .int a3, .int a4, .int a5]) (n := 6) (Nat.le_of_ble_eq_true rfl)
  rw [lg_entry_eq]
  generalize (lg_sl ([.ref (ad 0), .int a1, .int a2, .int a3, .int a4, .int a5]) ++ List.replicate (6 - (lg_sl ([.ref (ad 0), .int a1, .int a2, .int a3, .int a4, .int a5])).length) Slot.unset).toArray = ls at hl ⊢
  have hl : lv_has ls 6 [(0, .ref (ad 0)), (1, .int a1), (2, .int a2), (3, .int a3), (4, .int a4), (5, .int a5)] := hl
  have hP : va_P dd vwCl (wW Y MG ad D0) s.heap := hP
  generalize D0 = D at h hP
  have h : ((if inB a1 ((gN MG) 3) = true then (if inB (a1 + 1) ((gN MG) 3) = true then (P_X8_setCodes_16 (gN MG) F a1 a4 a5 (up2 (up2 D 3 (Int32.toNatClampNeg a1) a2) 3 (Int32.toNatClampNeg (a1 + 1)) a3)) else none) else none) : Rs) = some (r0, D') := h
  refine lv_aload_n hx hb dX8_setCodes_0 rfl (lv_at hl 0 rfl) ?_
  refine x_get hx hb ht0 u_X8 hown hK hP (mk_0).1 (ce8 (mk_0).2) rfl 2 (by decide) (ht0 _ m_FL_X8_17) rfl (rfv (G := MG) (c := 0) (k := 2) (c' := 3) rfl) dX8_setCodes_1 ?_
  refine lv_iload_n hx hb dX8_setCodes_4 rfl (lv_at hl 1 rfl) ?_
  refine lv_iload_n hx hb dX8_setCodes_5 rfl (lv_at hl 2 rfl) ?_
  obtain ⟨b3, h⟩ := x_if h
  refine x_ast hx hb hK ij hP hS mk_3 b3 dX8_setCodes_6 (fun H locs hP hS => ?_)
  refine lv_aload_n hx hb dX8_setCodes_7 rfl (lv_at hl 0 rfl) ?_
  refine x_get hx hb ht0 u_X8 hown hK hP (mk_0).1 (ce8 (mk_0).2) rfl 2 (by decide) (ht0 _ m_FL_X8_17) rfl (rfv (G := MG) (c := 0) (k := 2) (c' := 3) rfl) dX8_setCodes_8 ?_
  refine lv_iload_n hx hb dX8_setCodes_11 rfl (lv_at hl 1 rfl) ?_
  refine lv_iconst (v := 1) hx hb dX8_setCodes_12 (by decide) ?_
  refine lv_iadd hx hb dX8_setCodes_13 ?_
  refine lv_iload_n hx hb dX8_setCodes_14 rfl (lv_at hl 3 rfl) ?_
  obtain ⟨b4, h⟩ := x_if h
  refine x_ast hx hb hK ij hP hS mk_3 b4 dX8_setCodes_15 (fun H locs hP hS => ?_)
  exact L16 a1 a4 a5 (up2 (up2 D 3 (Int32.toNatClampNeg a1) a2) 3 (Int32.toNatClampNeg (a1 + 1)) a3) _ _ _ h hP hS (lv_sub hl [0, 1, 4, 5] rfl)
abbrev rm_X8_isIn : Room := { frames := 0, cells := 0, slots := 0, locals := 0 }
set_option maxHeartbeats 4000000 in
set_option maxRecDepth 100000 in
theorem c_X8_isIn (l : Launch) (dd : Dd) (Y : Yc) (t : Ts3) (ad : Nat → Nat) (ij : Ij MG ad) (F : Nat) (a0 a1 a2 : Int32) (D0 D' : Mm) (r0 : Int32) (h : P_X8_isIn (gN MG) F a0 a1 a2 D0 = some (r0, D')) : Met l yX8_isIn wzX8_isIn rm_X8_isIn (va_Pc [.int a0, .int a1, .int a2] (Wd dd Y t MG ad D0)) (Qi dd Y MG ad .boolean r0 D') 0 0 (pA MG ad) := by
  refine Met.ofW (cc := cX8_isIn) (maxL := 3) (ret := (some .boolean)) (by decide) rfl ?_
  intro p e s m args below meth c s₁ B hml hv
  obtain ⟨rfl, hP, hK, hT⟩ := hv
  have hx := B.exec
  have hb := B.bytes
  have hr := B.returns
  have ht0 : ∀ w ∈ W0, w.before _ s = true := fun w h => atoms_spec (ws := wzX8_isIn) B.pre w (List.mem_cons_of_mem _ h)
  have hown : s.vm.findClass RX8 = some m.cls := findClass_of_methodNamed B.named
  have hlocks := B.notSynchronized
  have hS : va_S (pA MG ad) s.heap s.heap [] := va_S.rf
  have hl := lv_entry ([.int a0, .int a1, .int a2]) (n := 3) (Nat.le_of_ble_eq_true rfl)
  rw [lg_entry_eq]
  generalize (lg_sl ([.int a0, .int a1, .int a2]) ++ List.replicate (3 - (lg_sl ([.int a0, .int a1, .int a2])).length) Slot.unset).toArray = ls at hl ⊢
  have hl : lv_has ls 3 [(0, .int a0), (1, .int a1), (2, .int a2)] := hl
  have hP : va_P dd vwCl (wW Y MG ad D0) s.heap := hP
  generalize D0 = D at h hP
  have h : ((if a0 < a1 then (some (0, D)) else (if a2 < a0 then (some (0, D)) else (some (1, D)))) : Rs) = some (r0, D') := h
  refine lv_iload_n hx hb dX8_isIn_0 rfl (lv_at hl 0 rfl) ?_
  refine lv_iload_n hx hb dX8_isIn_1 rfl (lv_at hl 1 rfl) ?_
  refine lv_icmp_lt (tgt := 14) hx hb dX8_isIn_2 (by decide) (fun c1 => ?_) (fun c1 => ?_)
  · have h := x_t (show a0 < a1 from c1) h
    refine lv_iconst (v := 0) hx hb dX8_isIn_14 (by decide) ?_
    exact x_iret hx hb hr hlocks rfl hP hS h dX8_isIn_15
  · have h := x_f (show ¬ (a0 < a1) from c1) h
    refine lv_iload_n hx hb dX8_isIn_5 rfl (lv_at hl 0 rfl) ?_
    refine lv_iload_n hx hb dX8_isIn_6 rfl (lv_at hl 2 rfl) ?_
    refine lv_icmp_gt (tgt := 14) hx hb dX8_isIn_7 (by decide) (fun c2 => ?_) (fun c2 => ?_)
    · have h := x_t (show a2 < a0 from c2) h
      refine lv_iconst (v := 0) hx hb dX8_isIn_14 (by decide) ?_
      exact x_iret hx hb hr hlocks rfl hP hS h dX8_isIn_15
    · have h := x_f (show ¬ (a2 < a0) from c2) h
      refine lv_iconst (v := 1) hx hb dX8_isIn_10 (by decide) ?_
      refine lv_goto (tgt := 15) hx hb dX8_isIn_11 (by decide) ?_
      exact x_iret hx hb hr hlocks rfl hP hS h dX8_isIn_15
abbrev rm_X8_bytesOf : Room := { frames := 0, cells := 0, slots := 0, locals := 0 }
set_option maxHeartbeats 4000000 in
set_option maxRecDepth 100000 in
theorem c_X8_bytesOf (l : Launch) (dd : Dd) (Y : Yc) (t : Ts3) (ad : Nat → Nat) (ij : Ij MG ad) (F : Nat) (a0 : Int32) (D0 D' : Mm) (r0 : Int32) (h : P_X8_bytesOf (gN MG) F a0 D0 = some (r0, D')) : Met l yX8_bytesOf wzX8_bytesOf rm_X8_bytesOf (va_Pc [.int a0] (Wd dd Y t MG ad D0)) (Qi dd Y MG ad .int r0 D') 0 0 (pA MG ad) := by
  refine Met.ofW (cc := cX8_bytesOf) (maxL := 1) (ret := (some .int)) (by decide) rfl ?_
  intro p e s m args below meth c s₁ B hml hv
  obtain ⟨rfl, hP, hK, hT⟩ := hv
  have hx := B.exec
  have hb := B.bytes
  have hr := B.returns
  have ht0 : ∀ w ∈ W0, w.before _ s = true := fun w h => atoms_spec (ws := wzX8_bytesOf) B.pre w (List.mem_cons_of_mem _ h)
  have hown : s.vm.findClass RX8 = some m.cls := findClass_of_methodNamed B.named
  have hlocks := B.notSynchronized
  have hS : va_S (pA MG ad) s.heap s.heap [] := va_S.rf
  have hl := lv_entry ([.int a0]) (n := 1) (Nat.le_of_ble_eq_true rfl)
  rw [lg_entry_eq]
  generalize (lg_sl ([.int a0]) ++ List.replicate (1 - (lg_sl ([.int a0])).length) Slot.unset).toArray = ls at hl ⊢
  have hl : lv_has ls 1 [(0, .int a0)] := hl
  have hP : va_P dd vwCl (wW Y MG ad D0) s.heap := hP
  generalize D0 = D at h hP
  have h : ((if 9 ≤ a0 then (if 13 ≤ a0 then (some (830, D)) else (some (940, D))) else (some (1060, D))) : Rs) = some (r0, D') := h
  refine lv_iload_n hx hb dX8_bytesOf_0 rfl (lv_at hl 0 rfl) ?_
  refine lv_bipush (v := 9) hx hb dX8_bytesOf_1 (by decide) ?_
  refine lv_icmp_ge (tgt := 12) hx hb dX8_bytesOf_3 (by decide) (fun c1 => ?_) (fun c1 => ?_)
  · have h := x_t (show 9 ≤ a0 from c1) h
    refine lv_iload_n hx hb dX8_bytesOf_12 rfl (lv_at hl 0 rfl) ?_
    refine lv_bipush (v := 13) hx hb dX8_bytesOf_13 (by decide) ?_
    refine lv_icmp_ge (tgt := 24) hx hb dX8_bytesOf_15 (by decide) (fun c2 => ?_) (fun c2 => ?_)
    · have h := x_t (show 13 ≤ a0 from c2) h
      refine lv_sipush (v := 830) hx hb dX8_bytesOf_24 (by decide) ?_
      exact x_iret hx hb hr hlocks rfl hP hS h dX8_bytesOf_27
    · have h := x_f (show ¬ (13 ≤ a0) from c2) h
      refine lv_sipush (v := 940) hx hb dX8_bytesOf_18 (by decide) ?_
      refine lv_goto (tgt := 27) hx hb dX8_bytesOf_21 (by decide) ?_
      exact x_iret hx hb hr hlocks rfl hP hS h dX8_bytesOf_27
  · have h := x_f (show ¬ (9 ≤ a0) from c1) h
    refine lv_sipush (v := 1060) hx hb dX8_bytesOf_6 (by decide) ?_
    refine lv_goto (tgt := 27) hx hb dX8_bytesOf_9 (by decide) ?_
    exact x_iret hx hb hr hlocks rfl hP hS h dX8_bytesOf_27
abbrev rm_X8_sectorsOf : Room := { frames := 0, cells := 0, slots := 0, locals := 0 }
set_option maxHeartbeats 4000000 in
set_option maxRecDepth 100000 in
theorem c_X8_sectorsOf (l : Launch) (dd : Dd) (Y : Yc) (t : Ts3) (ad : Nat → Nat) (ij : Ij MG ad) (F : Nat) (a0 : Int32) (D0 D' : Mm) (r0 : Int32) (h : P_X8_sectorsOf (gN MG) F a0 D0 = some (r0, D')) : Met l yX8_sectorsOf wzX8_sectorsOf rm_X8_sectorsOf (va_Pc [.int a0] (Wd dd Y t MG ad D0)) (Qi dd Y MG ad .int r0 D') 0 0 (pA MG ad) := by
  refine Met.ofW (cc := cX8_sectorsOf) (maxL := 1) (ret := (some .int)) (by decide) rfl ?_
  intro p e s m args below meth c s₁ B hml hv
  obtain ⟨rfl, hP, hK, hT⟩ := hv
  have hx := B.exec
  have hb := B.bytes
  have hr := B.returns
  have ht0 : ∀ w ∈ W0, w.before _ s = true := fun w h => atoms_spec (ws := wzX8_sectorsOf) B.pre w (List.mem_cons_of_mem _ h)
  have hown : s.vm.findClass RX8 = some m.cls := findClass_of_methodNamed B.named
  have hlocks := B.notSynchronized
  have hS : va_S (pA MG ad) s.heap s.heap [] := va_S.rf
  have hl := lv_entry ([.int a0]) (n := 1) (Nat.le_of_ble_eq_true rfl)
  rw [lg_entry_eq]
  generalize (lg_sl ([.int a0]) ++ List.replicate (1 - (lg_sl ([.int a0])).length) Slot.unset).toArray = ls at hl ⊢
  have hl : lv_has ls 1 [(0, .int a0)] := hl
  have hP : va_P dd vwCl (wW Y MG ad D0) s.heap := hP
  generalize D0 = D at h hP
  have h : ((if 9 ≤ a0 then (if 13 ≤ a0 then (some (7, D)) else (some (8, D))) else (some (9, D))) : Rs) = some (r0, D') := h
  refine lv_iload_n hx hb dX8_sectorsOf_0 rfl (lv_at hl 0 rfl) ?_
  refine lv_bipush (v := 9) hx hb dX8_sectorsOf_1 (by decide) ?_
  refine lv_icmp_ge (tgt := 11) hx hb dX8_sectorsOf_3 (by decide) (fun c1 => ?_) (fun c1 => ?_)
  · have h := x_t (show 9 ≤ a0 from c1) h
    refine lv_iload_n hx hb dX8_sectorsOf_11 rfl (lv_at hl 0 rfl) ?_
    refine lv_bipush (v := 13) hx hb dX8_sectorsOf_12 (by decide) ?_
    refine lv_icmp_ge (tgt := 22) hx hb dX8_sectorsOf_14 (by decide) (fun c2 => ?_) (fun c2 => ?_)
    · have h := x_t (show 13 ≤ a0 from c2) h
      refine lv_bipush (v := 7) hx hb dX8_sectorsOf_22 (by decide) ?_
      exact x_iret hx hb hr hlocks rfl hP hS h dX8_sectorsOf_24
    · have h := x_f (show ¬ (13 ≤ a0) from c2) h
      refine lv_bipush (v := 8) hx hb dX8_sectorsOf_17 (by decide) ?_
      refine lv_goto (tgt := 24) hx hb dX8_sectorsOf_19 (by decide) ?_
      exact x_iret hx hb hr hlocks rfl hP hS h dX8_sectorsOf_24
  · have h := x_f (show ¬ (9 ≤ a0) from c1) h
    refine lv_bipush (v := 9) hx hb dX8_sectorsOf_6 (by decide) ?_
    refine lv_goto (tgt := 24) hx hb dX8_sectorsOf_8 (by decide) ?_
    exact x_iret hx hb hr hlocks rfl hP hS h dX8_sectorsOf_24
abbrev rm_X8_lengthOf : Room := { frames := 1, cells := 0, slots := 0, locals := 20 }
set_option maxHeartbeats 4000000 in
set_option maxRecDepth 100000 in
theorem c_X8_lengthOf (l : Launch) (dd : Dd) (Y : Yc) (t : Ts3) (ad : Nat → Nat) (ij : Ij MG ad) (F : Nat) (a0 : Int32) (D0 D' : Mm) (r0 : Int32) (h : P_X8_lengthOf (gN MG) F a0 D0 = some (r0, D')) : Met l yX8_lengthOf wzX8_lengthOf rm_X8_lengthOf (va_Pc [.int a0] (Wd dd Y t MG ad D0)) (Qi dd Y MG ad .int r0 D') 0 0 (pA MG ad) := by
  refine Met.ofW (cc := cX8_lengthOf) (maxL := 1) (ret := (some .int)) (by decide) rfl ?_
  intro p e s m args below meth c s₁ B hml hv
  obtain ⟨rfl, hP, hK, hT⟩ := hv
  have hx := B.exec
  have hb := B.bytes
  have hr := B.returns
  have ht0 : ∀ w ∈ W0, w.before _ s = true := fun w h => atoms_spec (ws := wzX8_lengthOf) B.pre w (List.mem_cons_of_mem _ h)
  have hown : s.vm.findClass RX8 = some m.cls := findClass_of_methodNamed B.named
  have hlocks := B.notSynchronized
  have hS : va_S (pA MG ad) s.heap s.heap [] := va_S.rf
  have hl := lv_entry ([.int a0]) (n := 1) (Nat.le_of_ble_eq_true rfl)
  rw [lg_entry_eq]
  generalize (lg_sl ([.int a0]) ++ List.replicate (1 - (lg_sl ([.int a0])).length) Slot.unset).toArray = ls at hl ⊢
  have hl : lv_has ls 1 [(0, .int a0)] := hl
  have hP : va_P dd vwCl (wW Y MG ad D0) s.heap := hP
  generalize D0 = D at h hP
  have h : ((bi (P_X8_bytesOf (gN MG) F a0 D) (fun r1 D1 => some (8 * r1, D1))) : Rs) = some (r0, D') := h
  refine lv_bipush (v := 8) hx hb dX8_lengthOf_0 (by decide) ?_
  refine lv_iload_n hx hb dX8_lengthOf_2 rfl (lv_at hl 0 rfl) ?_
  obtain ⟨r1, D1, hc1, h⟩ := bi_some h
  refine x_callSi (As := [.int a0]) ⟨hx, hb, hml, hown, ht0⟩ hK hT hP hS (c_X8_bytesOf l dd Y t ad ij F a0 _ _ _ hc1) m_ML_X8_62 ss_X8_bytesOf hd_X8_bytesOf rfl rfl ⟨Nat.le_of_ble_eq_true rfl, Nat.le_of_ble_eq_true rfl⟩ rfl hl.1 rfl (Nat.le_of_ble_eq_true rfl) dX8_lengthOf_3 ⟨Nat.zero_le _, Nat.zero_le _⟩ (fun H locs hn_r1 hP hS => ?_)
  refine lv_imul hx hb dX8_lengthOf_6 ?_
  exact x_iret hx hb hr hlocks rfl hP hS h dX8_lengthOf_7
