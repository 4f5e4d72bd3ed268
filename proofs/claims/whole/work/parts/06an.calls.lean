abbrev rm_X8_save : Room := { frames := 9, cells := 0, slots := 0, locals := 219 }
set_option maxHeartbeats 4000000 in
set_option maxRecDepth 100000 in
theorem c_X8_save (l : Launch) (dd : Dd) (Y : Yc) (t : Ts3) (ad : Nat → Nat) (ij : Ij MG ad) (F : Nat) (a1 a2 a3 : Int32) (D0 D' : Mm) (r0 : Int32) (h : P_X8_save (gN MG) F a1 a2 a3 D0 = some (r0, D')) : Met l yX8_save wzX8_save rm_X8_save (va_Pc [.ref (ad 0), .int a1, .int a2, .int a3] (Wd dd Y t MG ad D0)) (Qi dd Y MG ad .int r0 D') 0 0 (pA MG ad) := by
  refine Met.ofW (cc := cX8_save) (maxL := 6) (ret := (some .int)) (by decide) rfl ?_
  intro p e s m args below meth c s₁ B hml hv
  obtain ⟨rfl, hP, hK, hT⟩ := hv
  have hx := B.exec
  have hb := B.bytes
  have hr := B.returns
  have ht0 : ∀ w ∈ W0, w.before _ s = true := fun w h => atoms_spec (ws := wzX8_save) B.pre w (List.mem_cons_of_mem _ h)
  have hown : s.vm.findClass RX8 = some m.cls := findClass_of_methodNamed B.named
  have hlocks := B.notSynchronized
  have hS : va_S (pA MG ad) s.heap s.heap [] := va_S.rf
  have hl := lv_entry ([.ref (ad 0), .int a1, .int a2, .int a3]) (n := 6) (Nat.le_of_ble_eq_true rfl)
  rw [lg_entry_eq]
  generalize (lg_sl ([.ref (ad 0), .int a1, .int a2, .int a3]) ++ List.replicate (6 - (lg_sl ([.ref (ad 0), .int a1, .int a2, .int a3])).length) Slot.unset).toArray = ls at hl ⊢
  have hl : lv_has ls 6 [(0, .ref (ad 0)), (1, .int a1), (2, .int a2), (3, .int a3)] := hl
  have hP : va_P dd vwCl (wW Y MG ad D0) s.heap := hP
  generalize D0 = D at h hP
  have h : ((bi (P_X8_isIn (gN MG) F a1 1 9 (up2 D 0 6 0)) (fun r1 D1 => if r1 = 0 then (some ((-1), D1)) else (if a2 = 0 then (if a3 = 0 then (some ((-1), D1)) else (bi (P_X8_saves (gN MG) F a1 a2 a3 (D 0 6) D1) (fun r6 D6 => some (D6 0 9, D6)))) else (bi (P_X8_saves (gN MG) F a1 a2 a3 (D 0 6) D1) (fun r4 D4 => some (D4 0 9, D4)))))) : Rs) = some (r0, D') := h
  refine lv_aload_n hx hb dX8_save_0 rfl (lv_at hl 0 rfl) ?_
  refine x_get hx hb ht0 u_X8 hown hK hP (mk_0).1 (ce8 (mk_0).2) rfl 6 (by decide) (ht0 _ m_FL_X8_172) rfl rfl dX8_save_1 ?_
  refine lv_istore (lv' := [(4, .int (D 0 6)), (0, .ref (ad 0)), (1, .int a1), (2, .int a2), (3, .int a3)]) hx hb dX8_save_4 hl (by decide) rfl (fun ls hl => ?_)
  refine lv_aload_n hx hb dX8_save_6 rfl (lv_at hl 1 rfl) ?_
  refine lv_iconst (v := 0) hx hb dX8_save_7 (by decide) ?_
  refine x_put (ty := .int) hx hb ht0 u_X8 tyX8 tyX8_ok nmX8 hown hK ij hP hS (mk_0).1 (ce8 (mk_0).2) rfl 6 (by decide) (ht0 _ m_FL_X8_172) rfl rfl (by decide +kernel) rfl rfl (Nat.le_of_ble_eq_true rfl) (by rw [(mk_0).2]; rfl) dX8_save_8 (fun H locs hP hS => ?_)
  refine lv_iload_n hx hb dX8_save_11 rfl (lv_at hl 2 rfl) ?_
  refine lv_iconst (v := 1) hx hb dX8_save_12 (by decide) ?_
  refine lv_bipush (v := 9) hx hb dX8_save_13 (by decide) ?_
  obtain ⟨r1, D1, hc1, h⟩ := bi_some h
  refine x_callSi (As := [.int a1, .int 1, .int 9]) ⟨hx, hb, hml, hown, ht0⟩ hK hT hP hS (c_X8_isIn l dd Y t ad ij F a1 1 9 _ _ _ hc1) m_ML_X8_69 ss_X8_isIn hd_X8_isIn rfl rfl ⟨Nat.le_of_ble_eq_true rfl, Nat.le_of_ble_eq_true rfl⟩ rfl hl.1 rfl (Nat.le_of_ble_eq_true rfl) dX8_save_15 ⟨Nat.zero_le _, Nat.zero_le _⟩ (fun H locs hn_r1 hP hS => ?_)
  refine lv_if_eq (tgt := 29) hx hb dX8_save_18 (by decide) (fun c2 => ?_) (fun c2 => ?_)
  · have h := x_t (show r1 = 0 from c2) h
    refine lv_iconst (v := (-1)) hx hb dX8_save_29 (by decide) ?_
    exact x_iret hx hb hr hlocks rfl hP hS h dX8_save_30
  · have h := x_f (show ¬ (r1 = 0) from c2) h
    refine lv_iload_n hx hb dX8_save_21 rfl (lv_at hl 3 rfl) ?_
    refine lv_if_ne (tgt := 31) hx hb dX8_save_22 (by decide) (fun c3 => ?_) (fun c3 => ?_)
    · have h := x_f (show ¬ (a2 = 0) from c3) h
      refine lv_aload_n hx hb dX8_save_31 rfl (lv_at hl 1 rfl) ?_
      refine lv_iload_n hx hb dX8_save_32 rfl (lv_at hl 2 rfl) ?_
      refine lv_iload_n hx hb dX8_save_33 rfl (lv_at hl 3 rfl) ?_
      refine lv_iload_n hx hb dX8_save_34 rfl (lv_at hl 4 rfl) ?_
      refine lv_iload hx hb dX8_save_35 (lv_at hl 0 rfl) ?_
      obtain ⟨r4, D4, hc4, h⟩ := bi_some h
      refine x_callVi (As := [.int a1, .int a2, .int a3, .int (D 0 6)]) ⟨hx, hb, hml, hown, ht0⟩ hK hT hP hS (c_X8_saves l dd Y t ad ij F a1 a2 a3 (D 0 6) _ _ _ hc4) m_ML_X8_213 sv_X8_saves hd_X8_saves rfl rfl ⟨Nat.le_of_ble_eq_true rfl, Nat.le_of_ble_eq_true rfl⟩ (mk_0).1 (ce8 (mk_0).2) rfl rfl hl.1 rfl (Nat.le_of_ble_eq_true rfl) dX8_save_37 ⟨Nat.zero_le _, Nat.zero_le _⟩ (fun H locs hn_r4 hP hS => ?_)
      refine lv_istore (lv' := [(5, .int r4), (4, .int (D 0 6)), (0, .ref (ad 0)), (1, .int a1), (2, .int a2), (3, .int a3)]) hx hb dX8_save_40 hl (by decide) rfl (fun ls hl => ?_)
      refine lv_aload_n hx hb dX8_save_42 rfl (lv_at hl 2 rfl) ?_
      refine x_get hx hb ht0 u_X8 hown hK hP (mk_0).1 (ce8 (mk_0).2) rfl 9 (by decide) (ht0 _ m_FL_X8_134) rfl rfl dX8_save_43 ?_
      exact x_iret hx hb hr hlocks rfl hP hS h dX8_save_46
    · have h := x_t (show a2 = 0 from c3) h
      refine lv_iload_n hx hb dX8_save_25 rfl (lv_at hl 4 rfl) ?_
      refine lv_if_ne (tgt := 31) hx hb dX8_save_26 (by decide) (fun c5 => ?_) (fun c5 => ?_)
      · have h := x_f (show ¬ (a3 = 0) from c5) h
        refine lv_aload_n hx hb dX8_save_31 rfl (lv_at hl 1 rfl) ?_
        refine lv_iload_n hx hb dX8_save_32 rfl (lv_at hl 2 rfl) ?_
        refine lv_iload_n hx hb dX8_save_33 rfl (lv_at hl 3 rfl) ?_
        refine lv_iload_n hx hb dX8_save_34 rfl (lv_at hl 4 rfl) ?_
        refine lv_iload hx hb dX8_save_35 (lv_at hl 0 rfl) ?_
        obtain ⟨r6, D6, hc6, h⟩ := bi_some h
        refine x_callVi (As := [.int a1, .int a2, .int a3, .int (D 0 6)]) ⟨hx, hb, hml, hown, ht0⟩ hK hT hP hS (c_X8_saves l dd Y t ad ij F a1 a2 a3 (D 0 6) _ _ _ hc6) m_ML_X8_213 sv_X8_saves hd_X8_saves rfl rfl ⟨Nat.le_of_ble_eq_true rfl, Nat.le_of_ble_eq_true rfl⟩ (mk_0).1 (ce8 (mk_0).2) rfl rfl hl.1 rfl (Nat.le_of_ble_eq_true rfl) dX8_save_37 ⟨Nat.zero_le _, Nat.zero_le _⟩ (fun H locs hn_r6 hP hS => ?_)
        refine lv_istore (lv' := [(5, .int r6), (4, .int (D 0 6)), (0, .ref (ad 0)), (1, .int a1), (2, .int a2), (3, .int a3)]) hx hb dX8_save_40 hl (by decide) rfl (fun ls hl => ?_)
        refine lv_aload_n hx hb dX8_save_42 rfl (lv_at hl 2 rfl) ?_
        refine x_get hx hb ht0 u_X8 hown hK hP (mk_0).1 (ce8 (mk_0).2) rfl 9 (by decide) (ht0 _ m_FL_X8_134) rfl rfl dX8_save_43 ?_
        exact x_iret hx hb hr hlocks rfl hP hS h dX8_save_46
      · have h := x_t (show a3 = 0 from c5) h
        refine lv_iconst (v := (-1)) hx hb dX8_save_29 (by decide) ?_
        exact x_iret hx hb hr hlocks rfl hP hS h dX8_save_30
abbrev rm_X8_tell : Room := { frames := 0, cells := 0, slots := 0, locals := 0 }
set_option maxHeartbeats 4000000 in
set_option maxRecDepth 100000 in
theorem c_X8_tell (l : Launch) (dd : Dd) (Y : Yc) (t : Ts3) (ad : Nat → Nat) (ij : Ij MG ad) (F : Nat) (a1 : Int32) (D0 D' : Mm) (r0 : Int32) (h : P_X8_tell (gN MG) F a1 D0 = some (r0, D')) : Met l yX8_tell wzX8_tell rm_X8_tell (va_Pc [.ref (ad 0), .int a1] (Wd dd Y t MG ad D0)) (Qv dd Y MG ad D') 0 0 (pA MG ad) := by
  refine Met.ofW (cc := cX8_tell) (maxL := 2) (ret := none) (by decide) rfl ?_
  intro p e s m args below meth c s₁ B hml hv
  obtain ⟨rfl, hP, hK, hT⟩ := hv
  have hx := B.exec
  have hb := B.bytes
  have hr := B.returns
  have ht0 : ∀ w ∈ W0, w.before _ s = true := fun w h => atoms_spec (ws := wzX8_tell) B.pre w (List.mem_cons_of_mem _ h)
  have hown : s.vm.findClass RX8 = some m.cls := findClass_of_methodNamed B.named
  have hlocks := B.notSynchronized
  have hS : va_S (pA MG ad) s.heap s.heap [] := va_S.rf
  have hl := lv_entry ([.ref (ad 0), .int a1]) (n := 2) (Nat.le_of_ble_eq_true rfl)
  rw [lg_entry_eq]
  generalize (lg_sl ([.ref (ad 0), .int a1]) ++ List.replicate (2 - (lg_sl ([.ref (ad 0), .int a1])).length) Slot.unset).toArray = ls at hl ⊢
  have hl : lv_has ls 2 [(0, .ref (ad 0)), (1, .int a1)] := hl
  have hP : va_P dd vwCl (wW Y MG ad D0) s.heap := hP
  generalize D0 = D at h hP
  have h : ((if inB (D 0 8) ((gN MG) 6) = true then (some (0, up2 (up2 D 6 (Int32.toNatClampNeg (D 0 8)) a1) 0 8 (((up2 D 6 (Int32.toNatClampNeg (D 0 8)) a1) 0 8) + 1))) else none) : Rs) = some (r0, D') := h
  refine lv_aload_n hx hb dX8_tell_0 rfl (lv_at hl 0 rfl) ?_
  refine x_get hx hb ht0 u_X8 hown hK hP (mk_0).1 (ce8 (mk_0).2) rfl 7 (by decide) (ht0 _ m_FL_X8_31) rfl (rfv (G := MG) (c := 0) (k := 7) (c' := 6) rfl) dX8_tell_1 ?_
  refine lv_aload_n hx hb dX8_tell_4 rfl (lv_at hl 0 rfl) ?_
  refine x_get hx hb ht0 u_X8 hown hK hP (mk_0).1 (ce8 (mk_0).2) rfl 8 (by decide) (ht0 _ m_FL_X8_220) rfl rfl dX8_tell_5 ?_
  refine lv_iload_n hx hb dX8_tell_8 rfl (lv_at hl 1 rfl) ?_
  obtain ⟨b1, h⟩ := x_if h
  refine x_ast hx hb hK ij hP hS mk_6 b1 dX8_tell_9 (fun H locs hP hS => ?_)
  refine lv_aload_n hx hb dX8_tell_10 rfl (lv_at hl 0 rfl) ?_
  refine lv_dup hx hb dX8_tell_11 rfl ?_
  refine x_get hx hb ht0 u_X8 hown hK hP (mk_0).1 (ce8 (mk_0).2) rfl 8 (by decide) (ht0 _ m_FL_X8_220) rfl rfl dX8_tell_12 ?_
  refine lv_iconst (v := 1) hx hb dX8_tell_15 (by decide) ?_
  refine lv_iadd hx hb dX8_tell_16 ?_
  refine x_put (ty := .int) hx hb ht0 u_X8 tyX8 tyX8_ok nmX8 hown hK ij hP hS (mk_0).1 (ce8 (mk_0).2) rfl 8 (by decide) (ht0 _ m_FL_X8_220) rfl rfl (by decide +kernel) rfl rfl (Nat.le_of_ble_eq_true rfl) (by rw [(mk_0).2]; rfl) dX8_tell_17 (fun H locs hP hS => ?_)
  exact x_vret hx hb hr hlocks hP hS h dX8_tell_20
abbrev rm_X8_readFile : Room := { frames := 8, cells := 0, slots := 0, locals := 190 }
set_option maxHeartbeats 4000000 in
set_option maxRecDepth 100000 in
theorem c_X8_readFile (l : Launch) (dd : Dd) (Y : Yc) (t : Ts3) (ad : Nat → Nat) (ij : Ij MG ad) (F : Nat) (a1 a2 a3 : Int32) (D0 D' : Mm) (r0 : Int32) (h : P_X8_readFile (gN MG) F a1 a2 a3 D0 = some (r0, D')) : Met l yX8_readFile wzX8_readFile rm_X8_readFile (va_Pc [.ref (ad 0), .int a1, .int a2, .int a3] (Wd dd Y t MG ad D0)) (Qi dd Y MG ad .boolean r0 D') 0 0 (pA MG ad) := by
  refine Met.ofW (cc := cX8_readFile) (maxL := 11) (ret := (some .boolean)) (by decide) rfl ?_
  intro p e s m args below meth c s₁ B hml hv
  obtain ⟨rfl, hP, hK, hT⟩ := hv
  have hx := B.exec
  have hb := B.bytes
  have hr := B.returns
  have ht0 : ∀ w ∈ W0, w.before _ s = true := fun w h => atoms_spec (ws := wzX8_readFile) B.pre w (List.mem_cons_of_mem _ h)
  have hown : s.vm.findClass RX8 = some m.cls := findClass_of_methodNamed B.named
  have hlocks := B.notSynchronized
  have hS : va_S (pA MG ad) s.heap s.heap [] := va_S.rf
  have L329 : ∀ (k96 : Int32 → Int32 → Int32 → Int32 → Int32 → Mm → Rs) (hk96 : ∀ (x3 x4 x5 x6 x7 : Int32) (D : Mm) (H : Heap) (locs : List Loc) (ls : Array Slot), k96 x3 x4 x5 x6 x7 D = some (r0, D') → va_P dd vwCl (wW Y MG ad D) H → va_S (pA MG ad) s.heap H locs → lv_has ls 11 [(0, .ref (ad 0)), (3, .int x3), (4, .int x4), (5, .int x5), (6, .int x6), (7, .int x7)] → W p l e (headSpec wzX8_readFile rm_X8_readFile).room s m ([.ref (ad 0), .int a1, .int a2, .int a3].toArray) below meth c H locs 0 0 (MQ below (Qi dd Y MG ad .boolean r0 D') ([.ref (ad 0), .int a1, .int a2, .int a3].toArray) s 0 0 (pA MG ad)) (F0 m 96 ls [])), ∀ (x3 x4 x5 x6 x7 : Int32) (D : Mm) (H : Heap) (locs : List Loc) (ls : Array Slot), P_X8_readFile_329 (gN MG) F k96 x3 x4 x5 x6 x7 D = some (r0, D') → va_P dd vwCl (wW Y MG ad D) H → va_S (pA MG ad) s.heap H locs → lv_has ls 11 [(0, .ref (ad 0)), (3, .int x3), (4, .int x4), (5, .int x5), (6, .int x6), (7, .int x7)] → W p l e (headSpec wzX8_readFile rm_X8_readFile).room s m ([.ref (ad 0), .int a1, .int a2, .int a3].toArray) below meth c H locs 0 0 (MQ below (Qi dd Y MG ad .boolean r0 D') ([.ref (ad 0), .int a1, .int a2, .int a3].toArray) s 0 0 (pA MG ad)) (F0 m 329 ls []) := by
    intro k96 hk96 x3 x4 x5 x6 x7 D H locs ls h hP hS hl
    have h : ((k96 x3 x4 x5 x6 x7 D) : Rs) = some (r0, D') := h
    refine lv_goto (tgt := 96) hx hb dX8_readFile_329 (by decide) ?_
    exact hk96 x3 x4 x5 x6 x7 D _ _ _ h hP hS (lv_sub hl [0, 1, 2, 3, 4, 5] rfl)
  have L321 : ∀ (k96 : Int32 → Int32 → Int32 → Int32 → Int32 → Mm → Rs) (hk96 : ∀ (x3 x4 x5 x6 x7 : Int32) (D : Mm) (H : Heap) (locs : List Loc) (ls : Array Slot), k96 x3 x4 x5 x6 x7 D = some (r0, D') → va_P dd vwCl (wW Y MG ad D) H → va_S (pA MG ad) s.heap H locs → lv_has ls 11 [(0, .ref (ad 0)), (3, .int x3), (4, .int x4), (5, .int x5), (6, .int x6), (7, .int x7)] → W p l e (headSpec wzX8_readFile rm_X8_readFile).room s m ([.ref (ad 0), .int a1, .int a2, .int a3].toArray) below meth c H locs 0 0 (MQ below (Qi dd Y MG ad .boolean r0 D') ([.ref (ad 0), .int a1, .int a2, .int a3].toArray) s 0 0 (pA MG ad)) (F0 m 96 ls [])), ∀ (x3 x4 x5 x6 : Int32) (D : Mm) (H : Heap) (locs : List Loc) (ls : Array Slot), P_X8_readFile_321 (gN MG) F k96 x3 x4 x5 x6 D = some (r0, D') → va_P dd vwCl (wW Y MG ad D) H → va_S (pA MG ad) s.heap H locs → lv_has ls 11 [(0, .ref (ad 0)), (3, .int x3), (4, .int x4), (5, .int x5), (6, .int x6)] → W p l e (headSpec wzX8_readFile rm_X8_readFile).room s m ([.ref (ad 0), .int a1, .int a2, .int a3].toArray) below meth c H locs 0 0 (MQ below (Qi dd Y MG ad .boolean r0 D') ([.ref (ad 0), .int a1, .int a2, .int a3].toArray) s 0 0 (pA MG ad)) (F0 m 321 ls []) := by
    intro k96 hk96 x3 x4 x5 x6 D H locs ls h hP hS hl
    have h : ((if inB 1 ((gN MG) 8) = true then (P_X8_readFile_329 (gN MG) F k96 x3 x4 x5 x6 (D 8 (Int32.toNatClampNeg 1)) D) else none) : Rs) = some (r0, D') := h
    refine lv_aload_n hx hb dX8_readFile_321 rfl (lv_at hl 0 rfl) ?_
    refine x_get hx hb ht0 u_X8 hown hK hP (mk_0).1 (ce8 (mk_0).2) rfl 18 (by decide) (ht0 _ m_FL_X8_37) rfl (rfv (G := MG) (c := 0) (k := 18) (c' := 8) rfl) dX8_readFile_322 ?_
    refine lv_iconst (v := 1) hx hb dX8_readFile_325 (by decide) ?_
    obtain ⟨b1, h⟩ := x_if h
    refine x_ald hx hb hK hP mk_8 b1 dX8_readFile_326 ?_
    refine lv_istore (lv' := [(7, .int (D 8 (Int32.toNatClampNeg 1))), (0, .ref (ad 0)), (3, .int x3), (4, .int x4), (5, .int x5), (6, .int x6)]) hx hb dX8_readFile_327 hl (by decide) rfl (fun ls hl => ?_)
    exact L329 k96 hk96 x3 x4 x5 x6 (D 8 (Int32.toNatClampNeg 1)) D _ _ _ h hP hS (lv_sub hl [1, 2, 3, 4, 5, 0] rfl)
  have L298 : ∀ (k96 : Int32 → Int32 → Int32 → Int32 → Int32 → Mm → Rs) (hk96 : ∀ (x3 x4 x5 x6 x7 : Int32) (D : Mm) (H : Heap) (locs : List Loc) (ls : Array Slot), k96 x3 x4 x5 x6 x7 D = some (r0, D') → va_P dd vwCl (wW Y MG ad D) H → va_S (pA MG ad) s.heap H locs → lv_has ls 11 [(0, .ref (ad 0)), (3, .int x3), (4, .int x4), (5, .int x5), (6, .int x6), (7, .int x7)] → W p l e (headSpec wzX8_readFile rm_X8_readFile).room s m ([.ref (ad 0), .int a1, .int a2, .int a3].toArray) below meth c H locs 0 0 (MQ below (Qi dd Y MG ad .boolean r0 D') ([.ref (ad 0), .int a1, .int a2, .int a3].toArray) s 0 0 (pA MG ad)) (F0 m 96 ls [])), ∀ (x3 x6 x7 x9 : Int32) (D : Mm) (H : Heap) (locs : List Loc) (ls : Array Slot), P_X8_readFile_298 (gN MG) F k96 x3 x6 x7 x9 D = some (r0, D') → va_P dd vwCl (wW Y MG ad D) H → va_S (pA MG ad) s.heap H locs → lv_has ls 11 [(0, .ref (ad 0)), (3, .int x3), (6, .int x6), (7, .int x7), (9, .int x9)] → W p l e (headSpec wzX8_readFile rm_X8_readFile).room s m ([.ref (ad 0), .int a1, .int a2, .int a3].toArray) below meth c H locs 0 0 (MQ below (Qi dd Y MG ad .boolean r0 D') ([.ref (ad 0), .int a1, .int a2, .int a3].toArray) s 0 0 (pA MG ad)) (F0 m 298 ls []) := by
    intro k96 hk96 x3 x6 x7 x9 D H locs ls h hP hS hl
    have h : ((if x9 = 0 then (if inB 0 ((gN MG) 8) = true then (P_X8_readFile_321 (gN MG) F k96 x3 x6 x7 (D 8 (Int32.toNatClampNeg 0)) D) else none) else (some (1, D))) : Rs) = some (r0, D') := h
    refine lv_iload hx hb dX8_readFile_298 (lv_at hl 4 rfl) ?_
    refine lv_if_eq (tgt := 305) hx hb dX8_readFile_300 (by decide) (fun c2 => ?_) (fun c2 => ?_)
    · have h := x_t (show x9 = 0 from c2) h
      refine lv_iload hx hb dX8_readFile_305 (lv_at hl 2 rfl) ?_
      refine lv_istore (lv' := [(4, .int x6), (0, .ref (ad 0)), (3, .int x3), (6, .int x6), (7, .int x7), (9, .int x9)]) hx hb dX8_readFile_307 hl (by decide) rfl (fun ls hl => ?_)
      refine lv_iload hx hb dX8_readFile_309 (lv_at hl 4 rfl) ?_
      refine lv_istore (lv' := [(5, .int x7), (4, .int x6), (0, .ref (ad 0)), (3, .int x3), (6, .int x6), (7, .int x7), (9, .int x9)]) hx hb dX8_readFile_311 hl (by decide) rfl (fun ls hl => ?_)
      refine lv_aload_n hx hb dX8_readFile_313 rfl (lv_at hl 2 rfl) ?_
      refine x_get hx hb ht0 u_X8 hown hK hP (mk_0).1 (ce8 (mk_0).2) rfl 18 (by decide) (ht0 _ m_FL_X8_37) rfl (rfv (G := MG) (c := 0) (k := 18) (c' := 8) rfl) dX8_readFile_314 ?_
      refine lv_iconst (v := 0) hx hb dX8_readFile_317 (by decide) ?_
      obtain ⟨b3, h⟩ := x_if h
      refine x_ald hx hb hK hP mk_8 b3 dX8_readFile_318 ?_
      refine lv_istore (lv' := [(6, .int (D 8 (Int32.toNatClampNeg 0))), (5, .int x7), (4, .int x6), (0, .ref (ad 0)), (3, .int x3), (7, .int x7), (9, .int x9)]) hx hb dX8_readFile_319 hl (by decide) rfl (fun ls hl => ?_)
      exact L321 k96 hk96 x3 x6 x7 (D 8 (Int32.toNatClampNeg 0)) D _ _ _ h hP hS (lv_sub hl [3, 4, 2, 1, 0] rfl)
    · have h := x_f (show ¬ (x9 = 0) from c2) h
      refine lv_iconst (v := 1) hx hb dX8_readFile_303 (by decide) ?_
      exact x_iret hx hb hr hlocks rfl hP hS h dX8_readFile_304
  have L254 : ∀ (k96 : Int32 → Int32 → Int32 → Int32 → Int32 → Mm → Rs) (hk96 : ∀ (x3 x4 x5 x6 x7 : Int32) (D : Mm) (H : Heap) (locs : List Loc) (ls : Array Slot), k96 x3 x4 x5 x6 x7 D = some (r0, D') → va_P dd vwCl (wW Y MG ad D) H → va_S (pA MG ad) s.heap H locs → lv_has ls 11 [(0, .ref (ad 0)), (3, .int x3), (4, .int x4), (5, .int x5), (6, .int x6), (7, .int x7)] → W p l e (headSpec wzX8_readFile rm_X8_readFile).room s m ([.ref (ad 0), .int a1, .int a2, .int a3].toArray) below meth c H locs 0 0 (MQ below (Qi dd Y MG ad .boolean r0 D') ([.ref (ad 0), .int a1, .int a2, .int a3].toArray) s 0 0 (pA MG ad)) (F0 m 96 ls [])), ∀ (n : Nat), ∀ (x3 x6 x7 x9 x10 : Int32) (D : Mm) (H : Heap) (locs : List Loc) (ls : Array Slot), P_X8_readFile_254 (gN MG) F k96 n x3 x6 x7 x9 x10 D = some (r0, D') → va_P dd vwCl (wW Y MG ad D) H → va_S (pA MG ad) s.heap H locs → lv_has ls 11 [(0, .ref (ad 0)), (3, .int x3), (6, .int x6), (7, .int x7), (9, .int x9), (10, .int x10)] → W p l e (headSpec wzX8_readFile rm_X8_readFile).room s m ([.ref (ad 0), .int a1, .int a2, .int a3].toArray) below meth c H locs 0 0 (MQ below (Qi dd Y MG ad .boolean r0 D') ([.ref (ad 0), .int a1, .int a2, .int a3].toArray) s 0 0 (pA MG ad)) (F0 m 254 ls []) := by
    intro k96 hk96 n
    induction n with
    | zero =>
      intro x3 x6 x7 x9 x10 D H locs ls h hP hS hl
      cases h
    | succ n ih =>
      intro x3 x6 x7 x9 x10 D H locs ls h hP hS hl
      have h : ((if x9 = 0 then (if 62 ≤ x10 then (P_X8_readFile_298 (gN MG) F k96 x3 x6 x7 x9 D) else (if x3 = 0 then (P_X8_readFile_298 (gN MG) F k96 x3 x6 x7 x9 D) else (if inB (2 + x10) ((gN MG) 8) = true then (bi (P_X8_tell (gN MG) F (D 8 (Int32.toNatClampNeg (2 + x10))) D) (fun r8 D8 => P_X8_readFile_254 (gN MG) F k96 n x3 x6 x7 x9 (x10 + 1) D8)) else none))) else (if inB 1 ((gN MG) 8) = true then (if (D 8 (Int32.toNatClampNeg 1)) ≤ x10 then (P_X8_readFile_298 (gN MG) F k96 x3 x6 x7 x9 D) else (if x3 = 0 then (P_X8_readFile_298 (gN MG) F k96 x3 x6 x7 x9 D) else (if inB (2 + x10) ((gN MG) 8) = true then (bi (P_X8_tell (gN MG) F (D 8 (Int32.toNatClampNeg (2 + x10))) D) (fun r13 D13 => P_X8_readFile_254 (gN MG) F k96 n x3 x6 x7 x9 (x10 + 1) D13)) else none))) else none)) : Rs) = some (r0, D') := h
      refine lv_iload hx hb dX8_readFile_254 (lv_at hl 5 rfl) ?_
      refine lv_iload hx hb dX8_readFile_256 (lv_at hl 4 rfl) ?_
      refine lv_if_eq (tgt := 270) hx hb dX8_readFile_258 (by decide) (fun c4 => ?_) (fun c4 => ?_)
      · have h := x_t (show x9 = 0 from c4) h
        refine lv_bipush (v := 62) hx hb dX8_readFile_270 (by decide) ?_
        refine lv_icmp_ge (tgt := 298) hx hb dX8_readFile_272 (by decide) (fun c5 => ?_) (fun c5 => ?_)
        · have h := x_t (show 62 ≤ x10 from c5) h
          exact L298 k96 hk96 x3 x6 x7 x9 D _ _ _ h hP hS (lv_sub hl [0, 1, 2, 3, 4] rfl)
        · have h := x_f (show ¬ (62 ≤ x10) from c5) h
          refine lv_iload_n hx hb dX8_readFile_275 rfl (lv_at hl 1 rfl) ?_
          refine lv_if_eq (tgt := 298) hx hb dX8_readFile_276 (by decide) (fun c6 => ?_) (fun c6 => ?_)
          · have h := x_t (show x3 = 0 from c6) h
            exact L298 k96 hk96 x3 x6 x7 x9 D _ _ _ h hP hS (lv_sub hl [0, 1, 2, 3, 4] rfl)
          · have h := x_f (show ¬ (x3 = 0) from c6) h
            refine lv_aload_n hx hb dX8_readFile_279 rfl (lv_at hl 0 rfl) ?_
            refine lv_aload_n hx hb dX8_readFile_280 rfl (lv_at hl 0 rfl) ?_
            refine x_get hx hb ht0 u_X8 hown hK hP (mk_0).1 (ce8 (mk_0).2) rfl 18 (by decide) (ht0 _ m_FL_X8_37) rfl (rfv (G := MG) (c := 0) (k := 18) (c' := 8) rfl) dX8_readFile_281 ?_
            refine lv_iconst (v := 2) hx hb dX8_readFile_284 (by decide) ?_
            refine lv_iload hx hb dX8_readFile_285 (lv_at hl 5 rfl) ?_
            refine lv_iadd hx hb dX8_readFile_287 ?_
            obtain ⟨b7, h⟩ := x_if h
            refine x_ald hx hb hK hP mk_8 b7 dX8_readFile_288 ?_
            obtain ⟨r8, D8, hc8, h⟩ := bi_some h
            refine x_callVv (As := [.int (D 8 (Int32.toNatClampNeg (2 + x10)))]) ⟨hx, hb, hml, hown, ht0⟩ hK hT hP hS (c_X8_tell l dd Y t ad ij F (D 8 (Int32.toNatClampNeg (2 + x10))) _ _ _ hc8) m_ML_X8_217 sv_X8_tell hd_X8_tell rfl rfl ⟨Nat.le_of_ble_eq_true rfl, Nat.le_of_ble_eq_true rfl⟩ (mk_0).1 (ce8 (mk_0).2) rfl rfl hl.1 rfl (Nat.le_of_ble_eq_true rfl) dX8_readFile_289 ⟨Nat.zero_le _, Nat.zero_le _⟩ (fun H locs hP hS => ?_)
            refine lv_iinc (v := x10 + 1) (lv' := [(10, .int (x10 + 1)), (0, .ref (ad 0)), (3, .int x3), (6, .int x6), (7, .int x7), (9, .int x9)]) hx hb dX8_readFile_292 hl (k := 5) rfl rfl (by decide) rfl (fun ls hl => ?_)
            refine lv_goto (tgt := 254) hx hb dX8_readFile_295 (by decide) ?_
            exact ih x3 x6 x7 x9 (x10 + 1) D8 _ _ _ h hP hS (lv_sub hl [1, 2, 3, 4, 5, 0] rfl)
      · have h := x_f (show ¬ (x9 = 0) from c4) h
        refine lv_aload_n hx hb dX8_readFile_261 rfl (lv_at hl 0 rfl) ?_
        refine x_get hx hb ht0 u_X8 hown hK hP (mk_0).1 (ce8 (mk_0).2) rfl 18 (by decide) (ht0 _ m_FL_X8_37) rfl (rfv (G := MG) (c := 0) (k := 18) (c' := 8) rfl) dX8_readFile_262 ?_
        refine lv_iconst (v := 1) hx hb dX8_readFile_265 (by decide) ?_
        obtain ⟨b9, h⟩ := x_if h
        refine x_ald hx hb hK hP mk_8 b9 dX8_readFile_266 ?_
        refine lv_goto (tgt := 272) hx hb dX8_readFile_267 (by decide) ?_
        refine lv_icmp_ge (tgt := 298) hx hb dX8_readFile_272 (by decide) (fun c10 => ?_) (fun c10 => ?_)
        · have h := x_t (show (D 8 (Int32.toNatClampNeg 1)) ≤ x10 from c10) h
          exact L298 k96 hk96 x3 x6 x7 x9 D _ _ _ h hP hS (lv_sub hl [0, 1, 2, 3, 4] rfl)
        · have h := x_f (show ¬ ((D 8 (Int32.toNatClampNeg 1)) ≤ x10) from c10) h
          refine lv_iload_n hx hb dX8_readFile_275 rfl (lv_at hl 1 rfl) ?_
          refine lv_if_eq (tgt := 298) hx hb dX8_readFile_276 (by decide) (fun c11 => ?_) (fun c11 => ?_)
          · have h := x_t (show x3 = 0 from c11) h
            exact L298 k96 hk96 x3 x6 x7 x9 D _ _ _ h hP hS (lv_sub hl [0, 1, 2, 3, 4] rfl)
          · have h := x_f (show ¬ (x3 = 0) from c11) h
            refine lv_aload_n hx hb dX8_readFile_279 rfl (lv_at hl 0 rfl) ?_
            refine lv_aload_n hx hb dX8_readFile_280 rfl (lv_at hl 0 rfl) ?_
            refine x_get hx hb ht0 u_X8 hown hK hP (mk_0).1 (ce8 (mk_0).2) rfl 18 (by decide) (ht0 _ m_FL_X8_37) rfl (rfv (G := MG) (c := 0) (k := 18) (c' := 8) rfl) dX8_readFile_281 ?_
            refine lv_iconst (v := 2) hx hb dX8_readFile_284 (by decide) ?_
            refine lv_iload hx hb dX8_readFile_285 (lv_at hl 5 rfl) ?_
            refine lv_iadd hx hb dX8_readFile_287 ?_
            obtain ⟨b12, h⟩ := x_if h
            refine x_ald hx hb hK hP mk_8 b12 dX8_readFile_288 ?_
            obtain ⟨r13, D13, hc13, h⟩ := bi_some h
            refine x_callVv (As := [.int (D 8 (Int32.toNatClampNeg (2 + x10)))]) ⟨hx, hb, hml, hown, ht0⟩ hK hT hP hS (c_X8_tell l dd Y t ad ij F (D 8 (Int32.toNatClampNeg (2 + x10))) _ _ _ hc13) m_ML_X8_217 sv_X8_tell hd_X8_tell rfl rfl ⟨Nat.le_of_ble_eq_true rfl, Nat.le_of_ble_eq_true rfl⟩ (mk_0).1 (ce8 (mk_0).2) rfl rfl hl.1 rfl (Nat.le_of_ble_eq_true rfl) dX8_readFile_289 ⟨Nat.zero_le _, Nat.zero_le _⟩ (fun H locs hP hS => ?_)
            refine lv_iinc (v := x10 + 1) (lv' := [(10, .int (x10 + 1)), (0, .ref (ad 0)), (3, .int x3), (6, .int x6), (7, .int x7), (9, .int x9)]) hx hb dX8_readFile_292 hl (k := 5) rfl rfl (by decide) rfl (fun ls hl => ?_)
            refine lv_goto (tgt := 254) hx hb dX8_readFile_295 (by decide) ?_
            exact ih x3 x6 x7 x9 (x10 + 1) D13 _ _ _ h hP hS (lv_sub hl [1, 2, 3, 4, 5, 0] rfl)
  have L214 : ∀ (k96 : Int32 → Int32 → Int32 → Int32 → Int32 → Mm → Rs) (hk96 : ∀ (x3 x4 x5 x6 x7 : Int32) (D : Mm) (H : Heap) (locs : List Loc) (ls : Array Slot), k96 x3 x4 x5 x6 x7 D = some (r0, D') → va_P dd vwCl (wW Y MG ad D) H → va_S (pA MG ad) s.heap H locs → lv_has ls 11 [(0, .ref (ad 0)), (3, .int x3), (4, .int x4), (5, .int x5), (6, .int x6), (7, .int x7)] → W p l e (headSpec wzX8_readFile rm_X8_readFile).room s m ([.ref (ad 0), .int a1, .int a2, .int a3].toArray) below meth c H locs 0 0 (MQ below (Qi dd Y MG ad .boolean r0 D') ([.ref (ad 0), .int a1, .int a2, .int a3].toArray) s 0 0 (pA MG ad)) (F0 m 96 ls [])), ∀ (x3 x6 x7 s0 : Int32) (D : Mm) (H : Heap) (locs : List Loc) (ls : Array Slot), P_X8_readFile_214 (gN MG) F k96 x3 x6 x7 s0 D = some (r0, D') → va_P dd vwCl (wW Y MG ad D) H → va_S (pA MG ad) s.heap H locs → lv_has ls 11 [(0, .ref (ad 0)), (3, .int x3), (6, .int x6), (7, .int x7)] → W p l e (headSpec wzX8_readFile rm_X8_readFile).room s m ([.ref (ad 0), .int a1, .int a2, .int a3].toArray) below meth c H locs 0 0 (MQ below (Qi dd Y MG ad .boolean r0 D') ([.ref (ad 0), .int a1, .int a2, .int a3].toArray) s 0 0 (pA MG ad)) (F0 m 214 ls [.int s0]) := by
    intro k96 hk96 x3 x6 x7 s0 D H locs ls h hP hS hl
    have h : ((if s0 = 0 then (P_X8_readFile_254 (gN MG) F k96 F x3 x6 x7 s0 0 D) else (if inB 1 ((gN MG) 8) = true then (if (D 8 (Int32.toNatClampNeg 1)) ≤ 62 then (P_X8_readFile_254 (gN MG) F k96 F x3 x6 x7 s0 0 D) else (bi (P_X8_ends (gN MG) F 66 x6 x7 D) (fun r17 D17 => if r17 = 0 then (some (1, D17)) else (some (0, D17))))) else none)) : Rs) = some (r0, D') := h
    refine lv_istore (lv' := [(9, .int s0), (0, .ref (ad 0)), (3, .int x3), (6, .int x6), (7, .int x7)]) hx hb dX8_readFile_214 hl (by decide) rfl (fun ls hl => ?_)
    refine lv_iload hx hb dX8_readFile_216 (lv_at hl 0 rfl) ?_
    refine lv_if_eq (tgt := 251) hx hb dX8_readFile_218 (by decide) (fun c14 => ?_) (fun c14 => ?_)
    · have h := x_t (show s0 = 0 from c14) h
      refine lv_iconst (v := 0) hx hb dX8_readFile_251 (by decide) ?_
      refine lv_istore (lv' := [(10, .int 0), (9, .int s0), (0, .ref (ad 0)), (3, .int x3), (6, .int x6), (7, .int x7)]) hx hb dX8_readFile_252 hl (by decide) rfl (fun ls hl => ?_)
      exact L254 k96 hk96 F x3 x6 x7 s0 0 D _ _ _ h hP hS (lv_sub hl [2, 3, 4, 5, 1, 0] rfl)
    · have h := x_f (show ¬ (s0 = 0) from c14) h
      refine lv_aload_n hx hb dX8_readFile_221 rfl (lv_at hl 1 rfl) ?_
      refine x_get hx hb ht0 u_X8 hown hK hP (mk_0).1 (ce8 (mk_0).2) rfl 18 (by decide) (ht0 _ m_FL_X8_37) rfl (rfv (G := MG) (c := 0) (k := 18) (c' := 8) rfl) dX8_readFile_222 ?_
      refine lv_iconst (v := 1) hx hb dX8_readFile_225 (by decide) ?_
      obtain ⟨b15, h⟩ := x_if h
      refine x_ald hx hb hK hP mk_8 b15 dX8_readFile_226 ?_
      refine lv_bipush (v := 62) hx hb dX8_readFile_227 (by decide) ?_
      refine lv_icmp_le (tgt := 251) hx hb dX8_readFile_229 (by decide) (fun c16 => ?_) (fun c16 => ?_)
      · have h := x_t (show (D 8 (Int32.toNatClampNeg 1)) ≤ 62 from c16) h
        refine lv_iconst (v := 0) hx hb dX8_readFile_251 (by decide) ?_
        refine lv_istore (lv' := [(10, .int 0), (9, .int s0), (0, .ref (ad 0)), (3, .int x3), (6, .int x6), (7, .int x7)]) hx hb dX8_readFile_252 hl (by decide) rfl (fun ls hl => ?_)
        exact L254 k96 hk96 F x3 x6 x7 s0 0 D _ _ _ h hP hS (lv_sub hl [2, 3, 4, 5, 1, 0] rfl)
      · have h := x_f (show ¬ ((D 8 (Int32.toNatClampNeg 1)) ≤ 62) from c16) h
        refine lv_aload_n hx hb dX8_readFile_232 rfl (lv_at hl 1 rfl) ?_
        refine lv_bipush (v := 66) hx hb dX8_readFile_233 (by decide) ?_
        refine lv_iload hx hb dX8_readFile_235 (lv_at hl 3 rfl) ?_
        refine lv_iload hx hb dX8_readFile_237 (lv_at hl 4 rfl) ?_
        obtain ⟨r17, D17, hc17, h⟩ := bi_some h
        refine x_callVi (As := [.int 66, .int x6, .int x7]) ⟨hx, hb, hml, hown, ht0⟩ hK hT hP hS (c_X8_ends l dd Y t ad ij F 66 x6 x7 _ _ _ hc17) m_ML_X8_143 sv_X8_ends hd_X8_ends rfl rfl ⟨Nat.le_of_ble_eq_true rfl, Nat.le_of_ble_eq_true rfl⟩ (mk_0).1 (ce8 (mk_0).2) rfl rfl hl.1 rfl (Nat.le_of_ble_eq_true rfl) dX8_readFile_239 ⟨Nat.zero_le _, Nat.zero_le _⟩ (fun H locs hn_r17 hP hS => ?_)
        refine lv_if_ne (tgt := 249) hx hb dX8_readFile_242 (by decide) (fun c18 => ?_) (fun c18 => ?_)
        · have h := x_f (show ¬ (r17 = 0) from c18) h
          refine lv_iconst (v := 0) hx hb dX8_readFile_249 (by decide) ?_
          exact x_iret hx hb hr hlocks rfl hP hS h dX8_readFile_250
        · have h := x_t (show r17 = 0 from c18) h
          refine lv_iconst (v := 1) hx hb dX8_readFile_245 (by decide) ?_
          refine lv_goto (tgt := 250) hx hb dX8_readFile_246 (by decide) ?_
          exact x_iret hx hb hr hlocks rfl hP hS h dX8_readFile_250
  have L190 : ∀ (k96 : Int32 → Int32 → Int32 → Int32 → Int32 → Mm → Rs) (hk96 : ∀ (x3 x4 x5 x6 x7 : Int32) (D : Mm) (H : Heap) (locs : List Loc) (ls : Array Slot), k96 x3 x4 x5 x6 x7 D = some (r0, D') → va_P dd vwCl (wW Y MG ad D) H → va_S (pA MG ad) s.heap H locs → lv_has ls 11 [(0, .ref (ad 0)), (3, .int x3), (4, .int x4), (5, .int x5), (6, .int x6), (7, .int x7)] → W p l e (headSpec wzX8_readFile rm_X8_readFile).room s m ([.ref (ad 0), .int a1, .int a2, .int a3].toArray) below meth c H locs 0 0 (MQ below (Qi dd Y MG ad .boolean r0 D') ([.ref (ad 0), .int a1, .int a2, .int a3].toArray) s 0 0 (pA MG ad)) (F0 m 96 ls [])), ∀ (x3 x6 x7 : Int32) (D : Mm) (H : Heap) (locs : List Loc) (ls : Array Slot), P_X8_readFile_190 (gN MG) F k96 x3 x6 x7 D = some (r0, D') → va_P dd vwCl (wW Y MG ad D) H → va_S (pA MG ad) s.heap H locs → lv_has ls 11 [(0, .ref (ad 0)), (3, .int x3), (6, .int x6), (7, .int x7)] → W p l e (headSpec wzX8_readFile rm_X8_readFile).room s m ([.ref (ad 0), .int a1, .int a2, .int a3].toArray) below meth c H locs 0 0 (MQ below (Qi dd Y MG ad .boolean r0 D') ([.ref (ad 0), .int a1, .int a2, .int a3].toArray) s 0 0 (pA MG ad)) (F0 m 190 ls []) := by
    intro k96 hk96 x3 x6 x7 D H locs ls h hP hS hl
    have h : ((if inB 0 ((gN MG) 8) = true then (if ((up2 D 0 28 ((D 0 28) + 1)) 8 (Int32.toNatClampNeg 0)) = 0 then (P_X8_readFile_214 (gN MG) F k96 x3 x6 x7 1 (up2 D 0 28 ((D 0 28) + 1))) else (P_X8_readFile_214 (gN MG) F k96 x3 x6 x7 0 (up2 D 0 28 ((D 0 28) + 1)))) else none) : Rs) = some (r0, D') := h
    refine lv_aload_n hx hb dX8_readFile_190 rfl (lv_at hl 0 rfl) ?_
    refine lv_dup hx hb dX8_readFile_191 rfl ?_
    refine x_get hx hb ht0 u_X8 hown hK hP (mk_0).1 (ce8 (mk_0).2) rfl 28 (by decide) (ht0 _ m_FL_X8_180) rfl rfl dX8_readFile_192 ?_
    refine lv_iconst (v := 1) hx hb dX8_readFile_195 (by decide) ?_
    refine lv_iadd hx hb dX8_readFile_196 ?_
    refine x_put (ty := .int) hx hb ht0 u_X8 tyX8 tyX8_ok nmX8 hown hK ij hP hS (mk_0).1 (ce8 (mk_0).2) rfl 28 (by decide) (ht0 _ m_FL_X8_180) rfl rfl (by decide +kernel) rfl rfl (Nat.le_of_ble_eq_true rfl) (by rw [(mk_0).2]; rfl) dX8_readFile_197 (fun H locs hP hS => ?_)
    refine lv_aload_n hx hb dX8_readFile_200 rfl (lv_at hl 0 rfl) ?_
    refine x_get hx hb ht0 u_X8 hown hK hP (mk_0).1 (ce8 (mk_0).2) rfl 18 (by decide) (ht0 _ m_FL_X8_37) rfl (rfv (G := MG) (c := 0) (k := 18) (c' := 8) rfl) dX8_readFile_201 ?_
    refine lv_iconst (v := 0) hx hb dX8_readFile_204 (by decide) ?_
    obtain ⟨b19, h⟩ := x_if h
    refine x_ald hx hb hK hP mk_8 b19 dX8_readFile_205 ?_
    refine lv_if_ne (tgt := 213) hx hb dX8_readFile_206 (by decide) (fun c20 => ?_) (fun c20 => ?_)
    · have h := x_f (show ¬ (((up2 D 0 28 ((D 0 28) + 1)) 8 (Int32.toNatClampNeg 0)) = 0) from c20) h
      refine lv_iconst (v := 0) hx hb dX8_readFile_213 (by decide) ?_
      exact L214 k96 hk96 x3 x6 x7 0 (up2 D 0 28 ((D 0 28) + 1)) _ _ _ h hP hS (lv_sub hl [0, 1, 2, 3] rfl)
    · have h := x_t (show ((up2 D 0 28 ((D 0 28) + 1)) 8 (Int32.toNatClampNeg 0)) = 0 from c20) h
      refine lv_iconst (v := 1) hx hb dX8_readFile_209 (by decide) ?_
      refine lv_goto (tgt := 214) hx hb dX8_readFile_210 (by decide) ?_
      exact L214 k96 hk96 x3 x6 x7 1 (up2 D 0 28 ((D 0 28) + 1)) _ _ _ h hP hS (lv_sub hl [0, 1, 2, 3] rfl)
  have L115 : ∀ (x4 x5 : Int32) (D : Mm) (H : Heap) (locs : List Loc) (ls : Array Slot), P_X8_readFile_115 (gN MG) F x4 x5 D = some (r0, D') → va_P dd vwCl (wW Y MG ad D) H → va_S (pA MG ad) s.heap H locs → lv_has ls 11 [(0, .ref (ad 0)), (4, .int x4), (5, .int x5)] → W p l e (headSpec wzX8_readFile rm_X8_readFile).room s m ([.ref (ad 0), .int a1, .int a2, .int a3].toArray) below meth c H locs 0 0 (MQ below (Qi dd Y MG ad .boolean r0 D') ([.ref (ad 0), .int a1, .int a2, .int a3].toArray) s 0 0 (pA MG ad)) (F0 m 115 ls []) := by
    intro x4 x5 D H locs ls h hP hS hl
    have h : ((bi (P_X8_ends (gN MG) F 66 x4 x5 D) (fun r21 D21 => if r21 = 0 then (some (1, D21)) else (some (0, D21)))) : Rs) = some (r0, D') := h
    refine lv_aload_n hx hb dX8_readFile_115 rfl (lv_at hl 0 rfl) ?_
    refine lv_bipush (v := 66) hx hb dX8_readFile_116 (by decide) ?_
    refine lv_iload hx hb dX8_readFile_118 (lv_at hl 1 rfl) ?_
    refine lv_iload hx hb dX8_readFile_120 (lv_at hl 2 rfl) ?_
    obtain ⟨r21, D21, hc21, h⟩ := bi_some h
    refine x_callVi (As := [.int 66, .int x4, .int x5]) ⟨hx, hb, hml, hown, ht0⟩ hK hT hP hS (c_X8_ends l dd Y t ad ij F 66 x4 x5 _ _ _ hc21) m_ML_X8_143 sv_X8_ends hd_X8_ends rfl rfl ⟨Nat.le_of_ble_eq_true rfl, Nat.le_of_ble_eq_true rfl⟩ (mk_0).1 (ce8 (mk_0).2) rfl rfl hl.1 rfl (Nat.le_of_ble_eq_true rfl) dX8_readFile_122 ⟨Nat.zero_le _, Nat.zero_le _⟩ (fun H locs hn_r21 hP hS => ?_)
    refine lv_if_ne (tgt := 132) hx hb dX8_readFile_125 (by decide) (fun c22 => ?_) (fun c22 => ?_)
    · have h := x_f (show ¬ (r21 = 0) from c22) h
      refine lv_iconst (v := 0) hx hb dX8_readFile_132 (by decide) ?_
      exact x_iret hx hb hr hlocks rfl hP hS h dX8_readFile_133
    · have h := x_t (show r21 = 0 from c22) h
      refine lv_iconst (v := 1) hx hb dX8_readFile_128 (by decide) ?_
      refine lv_goto (tgt := 133) hx hb dX8_readFile_129 (by decide) ?_
      exact x_iret hx hb hr hlocks rfl hP hS h dX8_readFile_133
  have L96 : ∀ (n : Nat), ∀ (x3 x4 x5 x6 x7 : Int32) (D : Mm) (H : Heap) (locs : List Loc) (ls : Array Slot), P_X8_readFile_96 (gN MG) F n x3 x4 x5 x6 x7 D = some (r0, D') → va_P dd vwCl (wW Y MG ad D) H → va_S (pA MG ad) s.heap H locs → lv_has ls 11 [(0, .ref (ad 0)), (3, .int x3), (4, .int x4), (5, .int x5), (6, .int x6), (7, .int x7)] → W p l e (headSpec wzX8_readFile rm_X8_readFile).room s m ([.ref (ad 0), .int a1, .int a2, .int a3].toArray) below meth c H locs 0 0 (MQ below (Qi dd Y MG ad .boolean r0 D') ([.ref (ad 0), .int a1, .int a2, .int a3].toArray) s 0 0 (pA MG ad)) (F0 m 96 ls []) := by
    intro n
    induction n with
    | zero =>
      intro x3 x4 x5 x6 x7 D H locs ls h hP hS hl
      cases h
    | succ n ih =>
      intro x3 x4 x5 x6 x7 D H locs ls h hP hS hl
      have h : ((bi (P_X8_isBlock (gN MG) F x6 x7 D) (fun r23 D23 => if r23 = 0 then (P_X8_readFile_115 (gN MG) F x4 x5 D23) else (if (D23 0 28) = 40 then (P_X8_readFile_115 (gN MG) F x4 x5 D23) else (bi (P_X8_readBlock (gN MG) F x6 x7 D23) (fun r26 D26 => if r26 ≤ 0 then (if inB (D26 0 28) ((gN MG) 13) = true then (if inB ((up2 D26 13 (Int32.toNatClampNeg (D26 0 28)) x6) 0 28) ((gN MG) 14) = true then (P_X8_readFile_190 (gN MG) F (fun x3 x4 x5 x6 x7 D => P_X8_readFile_96 (gN MG) F n x3 x4 x5 x6 x7 D) x3 x6 x7 (up2 (up2 D26 13 (Int32.toNatClampNeg (D26 0 28)) x6) 14 (Int32.toNatClampNeg ((up2 D26 13 (Int32.toNatClampNeg (D26 0 28)) x6) 0 28)) x7)) else none) else none) else (bi (P_X8_ends (gN MG) F r26 x6 x7 D26) (fun r30 D30 => if r30 = 0 then (some (1, D30)) else (some (0, D30))))))))) : Rs) = some (r0, D') := h
      refine lv_iload hx hb dX8_readFile_96 (lv_at hl 4 rfl) ?_
      refine lv_iload hx hb dX8_readFile_98 (lv_at hl 5 rfl) ?_
      obtain ⟨r23, D23, hc23, h⟩ := bi_some h
      refine x_callSi (As := [.int x6, .int x7]) ⟨hx, hb, hml, hown, ht0⟩ hK hT hP hS (c_X8_isBlock l dd Y t ad ij F x6 x7 _ _ _ hc23) m_ML_X8_168 ss_X8_isBlock hd_X8_isBlock rfl rfl ⟨Nat.le_of_ble_eq_true rfl, Nat.le_of_ble_eq_true rfl⟩ rfl hl.1 rfl (Nat.le_of_ble_eq_true rfl) dX8_readFile_100 ⟨Nat.zero_le _, Nat.zero_le _⟩ (fun H locs hn_r23 hP hS => ?_)
      refine lv_if_eq (tgt := 115) hx hb dX8_readFile_103 (by decide) (fun c24 => ?_) (fun c24 => ?_)
      · have h := x_t (show r23 = 0 from c24) h
        exact L115 x4 x5 D23 _ _ _ h hP hS (lv_sub hl [0, 2, 3] rfl)
      · have h := x_f (show ¬ (r23 = 0) from c24) h
        refine lv_aload_n hx hb dX8_readFile_106 rfl (lv_at hl 0 rfl) ?_
        refine x_get hx hb ht0 u_X8 hown hK hP (mk_0).1 (ce8 (mk_0).2) rfl 28 (by decide) (ht0 _ m_FL_X8_180) rfl rfl dX8_readFile_107 ?_
        refine lv_bipush (v := 40) hx hb dX8_readFile_110 (by decide) ?_
        refine lv_icmp_ne (tgt := 134) hx hb dX8_readFile_112 (by decide) (fun c25 => ?_) (fun c25 => ?_)
        · have h := x_f (show ¬ ((D23 0 28) = 40) from c25) h
          refine lv_aload_n hx hb dX8_readFile_134 rfl (lv_at hl 0 rfl) ?_
          refine lv_iload hx hb dX8_readFile_135 (lv_at hl 4 rfl) ?_
          refine lv_iload hx hb dX8_readFile_137 (lv_at hl 5 rfl) ?_
          obtain ⟨r26, D26, hc26, h⟩ := bi_some h
          refine x_callVi (As := [.int x6, .int x7]) ⟨hx, hb, hml, hown, ht0⟩ hK hT hP hS (c_X8_readBlock l dd Y t ad ij F x6 x7 _ _ _ hc26) m_ML_X8_147 sv_X8_readBlock hd_X8_readBlock rfl rfl ⟨Nat.le_of_ble_eq_true rfl, Nat.le_of_ble_eq_true rfl⟩ (mk_0).1 (ce8 (mk_0).2) rfl rfl hl.1 rfl (Nat.le_of_ble_eq_true rfl) dX8_readFile_139 ⟨Nat.zero_le _, Nat.zero_le _⟩ (fun H locs hn_r26 hP hS => ?_)
          refine lv_istore (lv' := [(8, .int r26), (0, .ref (ad 0)), (3, .int x3), (4, .int x4), (5, .int x5), (6, .int x6), (7, .int x7)]) hx hb dX8_readFile_142 hl (by decide) rfl (fun ls hl => ?_)
          refine lv_iload hx hb dX8_readFile_144 (lv_at hl 0 rfl) ?_
          refine lv_if_le (tgt := 168) hx hb dX8_readFile_146 (by decide) (fun c27 => ?_) (fun c27 => ?_)
          · have h := x_t (show r26 ≤ 0 from c27) h
            refine lv_aload_n hx hb dX8_readFile_168 rfl (lv_at hl 1 rfl) ?_
            refine x_get hx hb ht0 u_X8 hown hK hP (mk_0).1 (ce8 (mk_0).2) rfl 26 (by decide) (ht0 _ m_FL_X8_52) rfl (rfv (G := MG) (c := 0) (k := 26) (c' := 13) rfl) dX8_readFile_169 ?_
            refine lv_aload_n hx hb dX8_readFile_172 rfl (lv_at hl 1 rfl) ?_
            refine x_get hx hb ht0 u_X8 hown hK hP (mk_0).1 (ce8 (mk_0).2) rfl 28 (by decide) (ht0 _ m_FL_X8_180) rfl rfl dX8_readFile_173 ?_
            refine lv_iload hx hb dX8_readFile_176 (lv_at hl 5 rfl) ?_
            obtain ⟨b28, h⟩ := x_if h
            refine x_ast hx hb hK ij hP hS mk_13 b28 dX8_readFile_178 (fun H locs hP hS => ?_)
            refine lv_aload_n hx hb dX8_readFile_179 rfl (lv_at hl 1 rfl) ?_
            refine x_get hx hb ht0 u_X8 hown hK hP (mk_0).1 (ce8 (mk_0).2) rfl 27 (by decide) (ht0 _ m_FL_X8_55) rfl (rfv (G := MG) (c := 0) (k := 27) (c' := 14) rfl) dX8_readFile_180 ?_
            refine lv_aload_n hx hb dX8_readFile_183 rfl (lv_at hl 1 rfl) ?_
            refine x_get hx hb ht0 u_X8 hown hK hP (mk_0).1 (ce8 (mk_0).2) rfl 28 (by decide) (ht0 _ m_FL_X8_180) rfl rfl dX8_readFile_184 ?_
            refine lv_iload hx hb dX8_readFile_187 (lv_at hl 6 rfl) ?_
            obtain ⟨b29, h⟩ := x_if h
            refine x_ast hx hb hK ij hP hS mk_14 b29 dX8_readFile_189 (fun H locs hP hS => ?_)
            exact L190 (fun x3 x4 x5 x6 x7 D => P_X8_readFile_96 (gN MG) F n x3 x4 x5 x6 x7 D) ih x3 x6 x7 (up2 (up2 D26 13 (Int32.toNatClampNeg (D26 0 28)) x6) 14 (Int32.toNatClampNeg ((up2 D26 13 (Int32.toNatClampNeg (D26 0 28)) x6) 0 28)) x7) _ _ _ h hP hS (lv_sub hl [1, 2, 5, 6] rfl)
          · have h := x_f (show ¬ (r26 ≤ 0) from c27) h
            refine lv_aload_n hx hb dX8_readFile_149 rfl (lv_at hl 1 rfl) ?_
            refine lv_iload hx hb dX8_readFile_150 (lv_at hl 0 rfl) ?_
            refine lv_iload hx hb dX8_readFile_152 (lv_at hl 5 rfl) ?_
            refine lv_iload hx hb dX8_readFile_154 (lv_at hl 6 rfl) ?_
            obtain ⟨r30, D30, hc30, h⟩ := bi_some h
            refine x_callVi (As := [.int r26, .int x6, .int x7]) ⟨hx, hb, hml, hown, ht0⟩ hK hT hP hS (c_X8_ends l dd Y t ad ij F r26 x6 x7 _ _ _ hc30) m_ML_X8_143 sv_X8_ends hd_X8_ends rfl rfl ⟨Nat.le_of_ble_eq_true rfl, Nat.le_of_ble_eq_true rfl⟩ (mk_0).1 (ce8 (mk_0).2) rfl rfl hl.1 rfl (Nat.le_of_ble_eq_true rfl) dX8_readFile_156 ⟨Nat.zero_le _, Nat.zero_le _⟩ (fun H locs hn_r30 hP hS => ?_)
            refine lv_if_ne (tgt := 166) hx hb dX8_readFile_159 (by decide) (fun c31 => ?_) (fun c31 => ?_)
            · have h := x_f (show ¬ (r30 = 0) from c31) h
              refine lv_iconst (v := 0) hx hb dX8_readFile_166 (by decide) ?_
              exact x_iret hx hb hr hlocks rfl hP hS h dX8_readFile_167
            · have h := x_t (show r30 = 0 from c31) h
              refine lv_iconst (v := 1) hx hb dX8_readFile_162 (by decide) ?_
              refine lv_goto (tgt := 167) hx hb dX8_readFile_163 (by decide) ?_
              exact x_iret hx hb hr hlocks rfl hP hS h dX8_readFile_167
        · have h := x_t (show (D23 0 28) = 40 from c25) h
          exact L115 x4 x5 D23 _ _ _ h hP hS (lv_sub hl [0, 2, 3] rfl)
  have L91 : ∀ (x3 x4 x5 x6 x7 : Int32) (D : Mm) (H : Heap) (locs : List Loc) (ls : Array Slot), P_X8_readFile_91 (gN MG) F x3 x4 x5 x6 x7 D = some (r0, D') → va_P dd vwCl (wW Y MG ad D) H → va_S (pA MG ad) s.heap H locs → lv_has ls 11 [(0, .ref (ad 0)), (3, .int x3), (4, .int x4), (5, .int x5), (6, .int x6), (7, .int x7)] → W p l e (headSpec wzX8_readFile rm_X8_readFile).room s m ([.ref (ad 0), .int a1, .int a2, .int a3].toArray) below meth c H locs 0 0 (MQ below (Qi dd Y MG ad .boolean r0 D') ([.ref (ad 0), .int a1, .int a2, .int a3].toArray) s 0 0 (pA MG ad)) (F0 m 91 ls []) := by
    intro x3 x4 x5 x6 x7 D H locs ls h hP hS hl
    have h : ((P_X8_readFile_96 (gN MG) F F x3 x4 x5 x6 x7 (up2 D 0 28 0)) : Rs) = some (r0, D') := h
    refine lv_aload_n hx hb dX8_readFile_91 rfl (lv_at hl 0 rfl) ?_
    refine lv_iconst (v := 0) hx hb dX8_readFile_92 (by decide) ?_
    refine x_put (ty := .int) hx hb ht0 u_X8 tyX8 tyX8_ok nmX8 hown hK ij hP hS (mk_0).1 (ce8 (mk_0).2) rfl 28 (by decide) (ht0 _ m_FL_X8_180) rfl rfl (by decide +kernel) rfl rfl (Nat.le_of_ble_eq_true rfl) (by rw [(mk_0).2]; rfl) dX8_readFile_93 (fun H locs hP hS => ?_)
    exact L96 F x3 x4 x5 x6 x7 (up2 D 0 28 0) _ _ _ h hP hS (lv_sub hl [0, 1, 2, 3, 4, 5] rfl)
  have L78 : ∀ (x3 x4 x5 x6 : Int32) (D : Mm) (H : Heap) (locs : List Loc) (ls : Array Slot), P_X8_readFile_78 (gN MG) F x3 x4 x5 x6 D = some (r0, D') → va_P dd vwCl (wW Y MG ad D) H → va_S (pA MG ad) s.heap H locs → lv_has ls 11 [(0, .ref (ad 0)), (3, .int x3), (4, .int x4), (5, .int x5), (6, .int x6)] → W p l e (headSpec wzX8_readFile rm_X8_readFile).room s m ([.ref (ad 0), .int a1, .int a2, .int a3].toArray) below meth c H locs 0 0 (MQ below (Qi dd Y MG ad .boolean r0 D') ([.ref (ad 0), .int a1, .int a2, .int a3].toArray) s 0 0 (pA MG ad)) (F0 m 78 ls []) := by
    intro x3 x4 x5 x6 D H locs ls h hP hS hl
    have h : ((if inB ((D 0 25) + 2) ((gN MG) 10) = true then (P_X8_readFile_91 (gN MG) F x3 x4 x5 x6 (D 10 (Int32.toNatClampNeg ((D 0 25) + 2))) D) else none) : Rs) = some (r0, D') := h
    refine lv_aload_n hx hb dX8_readFile_78 rfl (lv_at hl 0 rfl) ?_
    refine x_get hx hb ht0 u_X8 hown hK hP (mk_0).1 (ce8 (mk_0).2) rfl 20 (by decide) (ht0 _ m_FL_X8_43) rfl (rfv (G := MG) (c := 0) (k := 20) (c' := 10) rfl) dX8_readFile_79 ?_
    refine lv_aload_n hx hb dX8_readFile_82 rfl (lv_at hl 0 rfl) ?_
    refine x_get hx hb ht0 u_X8 hown hK hP (mk_0).1 (ce8 (mk_0).2) rfl 25 (by decide) (ht0 _ m_FL_X8_165) rfl rfl dX8_readFile_83 ?_
    refine lv_iconst (v := 2) hx hb dX8_readFile_86 (by decide) ?_
    refine lv_iadd hx hb dX8_readFile_87 ?_
    obtain ⟨b32, h⟩ := x_if h
    refine x_ald hx hb hK hP mk_10 b32 dX8_readFile_88 ?_
    refine lv_istore (lv' := [(7, .int (D 10 (Int32.toNatClampNeg ((D 0 25) + 2)))), (0, .ref (ad 0)), (3, .int x3), (4, .int x4), (5, .int x5), (6, .int x6)]) hx hb dX8_readFile_89 hl (by decide) rfl (fun ls hl => ?_)
    exact L91 x3 x4 x5 x6 (D 10 (Int32.toNatClampNeg ((D 0 25) + 2))) D _ _ _ h hP hS (lv_sub hl [1, 2, 3, 4, 5, 0] rfl)
  have L65 : ∀ (x3 x4 x5 : Int32) (D : Mm) (H : Heap) (locs : List Loc) (ls : Array Slot), P_X8_readFile_65 (gN MG) F x3 x4 x5 D = some (r0, D') → va_P dd vwCl (wW Y MG ad D) H → va_S (pA MG ad) s.heap H locs → lv_has ls 11 [(0, .ref (ad 0)), (3, .int x3), (4, .int x4), (5, .int x5)] → W p l e (headSpec wzX8_readFile rm_X8_readFile).room s m ([.ref (ad 0), .int a1, .int a2, .int a3].toArray) below meth c H locs 0 0 (MQ below (Qi dd Y MG ad .boolean r0 D') ([.ref (ad 0), .int a1, .int a2, .int a3].toArray) s 0 0 (pA MG ad)) (F0 m 65 ls []) := by
    intro x3 x4 x5 D H locs ls h hP hS hl
    have h : ((if inB ((D 0 25) + 1) ((gN MG) 10) = true then (P_X8_readFile_78 (gN MG) F x3 x4 x5 (D 10 (Int32.toNatClampNeg ((D 0 25) + 1))) D) else none) : Rs) = some (r0, D') := h
    refine lv_aload_n hx hb dX8_readFile_65 rfl (lv_at hl 0 rfl) ?_
    refine x_get hx hb ht0 u_X8 hown hK hP (mk_0).1 (ce8 (mk_0).2) rfl 20 (by decide) (ht0 _ m_FL_X8_43) rfl (rfv (G := MG) (c := 0) (k := 20) (c' := 10) rfl) dX8_readFile_66 ?_
    refine lv_aload_n hx hb dX8_readFile_69 rfl (lv_at hl 0 rfl) ?_
    refine x_get hx hb ht0 u_X8 hown hK hP (mk_0).1 (ce8 (mk_0).2) rfl 25 (by decide) (ht0 _ m_FL_X8_165) rfl rfl dX8_readFile_70 ?_
    refine lv_iconst (v := 1) hx hb dX8_readFile_73 (by decide) ?_
    refine lv_iadd hx hb dX8_readFile_74 ?_
    obtain ⟨b33, h⟩ := x_if h
    refine x_ald hx hb hK hP mk_10 b33 dX8_readFile_75 ?_
    refine lv_istore (lv' := [(6, .int (D 10 (Int32.toNatClampNeg ((D 0 25) + 1)))), (0, .ref (ad 0)), (3, .int x3), (4, .int x4), (5, .int x5)]) hx hb dX8_readFile_76 hl (by decide) rfl (fun ls hl => ?_)
    exact L78 x3 x4 x5 (D 10 (Int32.toNatClampNeg ((D 0 25) + 1))) D _ _ _ h hP hS (lv_sub hl [1, 2, 3, 4, 0] rfl)
  have L54 : ∀ (x3 x4 : Int32) (D : Mm) (H : Heap) (locs : List Loc) (ls : Array Slot), P_X8_readFile_54 (gN MG) F x3 x4 D = some (r0, D') → va_P dd vwCl (wW Y MG ad D) H → va_S (pA MG ad) s.heap H locs → lv_has ls 11 [(0, .ref (ad 0)), (3, .int x3), (4, .int x4)] → W p l e (headSpec wzX8_readFile rm_X8_readFile).room s m ([.ref (ad 0), .int a1, .int a2, .int a3].toArray) below meth c H locs 0 0 (MQ below (Qi dd Y MG ad .boolean r0 D') ([.ref (ad 0), .int a1, .int a2, .int a3].toArray) s 0 0 (pA MG ad)) (F0 m 54 ls []) := by
    intro x3 x4 D H locs ls h hP hS hl
    have h : ((if inB (D 0 24) ((gN MG) 12) = true then (P_X8_readFile_65 (gN MG) F x3 x4 (D 12 (Int32.toNatClampNeg (D 0 24))) D) else none) : Rs) = some (r0, D') := h
    refine lv_aload_n hx hb dX8_readFile_54 rfl (lv_at hl 0 rfl) ?_
    refine x_get hx hb ht0 u_X8 hown hK hP (mk_0).1 (ce8 (mk_0).2) rfl 22 (by decide) (ht0 _ m_FL_X8_49) rfl (rfv (G := MG) (c := 0) (k := 22) (c' := 12) rfl) dX8_readFile_55 ?_
    refine lv_aload_n hx hb dX8_readFile_58 rfl (lv_at hl 0 rfl) ?_
    refine x_get hx hb ht0 u_X8 hown hK hP (mk_0).1 (ce8 (mk_0).2) rfl 24 (by decide) (ht0 _ m_FL_X8_159) rfl rfl dX8_readFile_59 ?_
    obtain ⟨b34, h⟩ := x_if h
    refine x_ald hx hb hK hP mk_12 b34 dX8_readFile_62 ?_
    refine lv_istore (lv' := [(5, .int (D 12 (Int32.toNatClampNeg (D 0 24)))), (0, .ref (ad 0)), (3, .int x3), (4, .int x4)]) hx hb dX8_readFile_63 hl (by decide) rfl (fun ls hl => ?_)
    exact L65 x3 x4 (D 12 (Int32.toNatClampNeg (D 0 24))) D _ _ _ h hP hS (lv_sub hl [1, 2, 3, 0] rfl)
  have hl := lv_entry ([.ref (ad 0), .int a1, .int a2, .int a3]) (n := 11) (Nat.le_of_ble_eq_true rfl)
  rw [lg_entry_eq]
  generalize (lg_sl ([.ref (ad 0), .int a1, .int a2, .int a3]) ++ List.replicate (11 - (lg_sl ([.ref (ad 0), .int a1, .int a2, .int a3])).length) Slot.unset).toArray = ls at hl ⊢
  have hl : lv_has ls 11 [(0, .ref (ad 0)), (1, .int a1), (2, .int a2), (3, .int a3)] := hl
  have hP : va_P dd vwCl (wW Y MG ad D0) s.heap := hP
  generalize D0 = D at h hP
  have h : ((bi (P_X8_begins (gN MG) F D) (fun r35 D35 => if r35 = 0 then (some (0, D35)) else (bi (P_X8_readDirectory (gN MG) F 1 a1 a2 D35) (fun r37 D37 => if r37 = 0 then (some (0, D37)) else (if 0 ≤ (D37 0 24) then (if inB (D37 0 24) ((gN MG) 11) = true then (P_X8_readFile_54 (gN MG) F a3 (D37 11 (Int32.toNatClampNeg (D37 0 24))) D37) else none) else (bi (P_X8_ends (gN MG) F 62 0 0 D37) (fun r41 D41 => if r41 = 0 then (some (1, D41)) else (some (0, D41))))))))) : Rs) = some (r0, D') := h
  refine lv_aload_n hx hb dX8_readFile_0 rfl (lv_at hl 0 rfl) ?_
  obtain ⟨r35, D35, hc35, h⟩ := bi_some h
  refine x_callVi (As := []) ⟨hx, hb, hml, hown, ht0⟩ hK hT hP hS (c_X8_begins l dd Y t ad ij F  _ _ _ hc35) m_ML_X8_186 sv_X8_begins hd_X8_begins rfl rfl ⟨Nat.le_of_ble_eq_true rfl, Nat.le_of_ble_eq_true rfl⟩ (mk_0).1 (ce8 (mk_0).2) rfl rfl hl.1 rfl (Nat.le_of_ble_eq_true rfl) dX8_readFile_1 ⟨Nat.zero_le _, Nat.zero_le _⟩ (fun H locs hn_r35 hP hS => ?_)
  refine lv_if_eq (tgt := 17) hx hb dX8_readFile_4 (by decide) (fun c36 => ?_) (fun c36 => ?_)
  · have h := x_t (show r35 = 0 from c36) h
    refine lv_iconst (v := 0) hx hb dX8_readFile_17 (by decide) ?_
    exact x_iret hx hb hr hlocks rfl hP hS h dX8_readFile_18
  · have h := x_f (show ¬ (r35 = 0) from c36) h
    refine lv_aload_n hx hb dX8_readFile_7 rfl (lv_at hl 0 rfl) ?_
    refine lv_iconst (v := 1) hx hb dX8_readFile_8 (by decide) ?_
    refine lv_iload_n hx hb dX8_readFile_9 rfl (lv_at hl 1 rfl) ?_
    refine lv_iload_n hx hb dX8_readFile_10 rfl (lv_at hl 2 rfl) ?_
    obtain ⟨r37, D37, hc37, h⟩ := bi_some h
    refine x_callVi (As := [.int 1, .int a1, .int a2]) ⟨hx, hb, hml, hown, ht0⟩ hK hT hP hS (c_X8_readDirectory l dd Y t ad ij F 1 a1 a2 _ _ _ hc37) m_ML_X8_190 sv_X8_readDirectory hd_X8_readDirectory rfl rfl ⟨Nat.le_of_ble_eq_true rfl, Nat.le_of_ble_eq_true rfl⟩ (mk_0).1 (ce8 (mk_0).2) rfl rfl hl.1 rfl (Nat.le_of_ble_eq_true rfl) dX8_readFile_11 ⟨Nat.zero_le _, Nat.zero_le _⟩ (fun H locs hn_r37 hP hS => ?_)
    refine lv_if_ne (tgt := 19) hx hb dX8_readFile_14 (by decide) (fun c38 => ?_) (fun c38 => ?_)
    · have h := x_f (show ¬ (r37 = 0) from c38) h
      refine lv_aload_n hx hb dX8_readFile_19 rfl (lv_at hl 0 rfl) ?_
      refine x_get hx hb ht0 u_X8 hown hK hP (mk_0).1 (ce8 (mk_0).2) rfl 24 (by decide) (ht0 _ m_FL_X8_159) rfl rfl dX8_readFile_20 ?_
      refine lv_if_ge (tgt := 43) hx hb dX8_readFile_23 (by decide) (fun c39 => ?_) (fun c39 => ?_)
      · have h := x_t (show 0 ≤ (D37 0 24) from c39) h
        refine lv_aload_n hx hb dX8_readFile_43 rfl (lv_at hl 0 rfl) ?_
        refine x_get hx hb ht0 u_X8 hown hK hP (mk_0).1 (ce8 (mk_0).2) rfl 21 (by decide) (ht0 _ m_FL_X8_46) rfl (rfv (G := MG) (c := 0) (k := 21) (c' := 11) rfl) dX8_readFile_44 ?_
        refine lv_aload_n hx hb dX8_readFile_47 rfl (lv_at hl 0 rfl) ?_
        refine x_get hx hb ht0 u_X8 hown hK hP (mk_0).1 (ce8 (mk_0).2) rfl 24 (by decide) (ht0 _ m_FL_X8_159) rfl rfl dX8_readFile_48 ?_
        obtain ⟨b40, h⟩ := x_if h
        refine x_ald hx hb hK hP mk_11 b40 dX8_readFile_51 ?_
        refine lv_istore (lv' := [(4, .int (D37 11 (Int32.toNatClampNeg (D37 0 24)))), (0, .ref (ad 0)), (1, .int a1), (2, .int a2), (3, .int a3)]) hx hb dX8_readFile_52 hl (by decide) rfl (fun ls hl => ?_)
        exact L54 a3 (D37 11 (Int32.toNatClampNeg (D37 0 24))) D37 _ _ _ h hP hS (lv_sub hl [1, 4, 0] rfl)
      · have h := x_f (show ¬ (0 ≤ (D37 0 24)) from c39) h
        refine lv_aload_n hx hb dX8_readFile_26 rfl (lv_at hl 0 rfl) ?_
        refine lv_bipush (v := 62) hx hb dX8_readFile_27 (by decide) ?_
        refine lv_iconst (v := 0) hx hb dX8_readFile_29 (by decide) ?_
        refine lv_iconst (v := 0) hx hb dX8_readFile_30 (by decide) ?_
        obtain ⟨r41, D41, hc41, h⟩ := bi_some h
        refine x_callVi (As := [.int 62, .int 0, .int 0]) ⟨hx, hb, hml, hown, ht0⟩ hK hT hP hS (c_X8_ends l dd Y t ad ij F 62 0 0 _ _ _ hc41) m_ML_X8_143 sv_X8_ends hd_X8_ends rfl rfl ⟨Nat.le_of_ble_eq_true rfl, Nat.le_of_ble_eq_true rfl⟩ (mk_0).1 (ce8 (mk_0).2) rfl rfl hl.1 rfl (Nat.le_of_ble_eq_true rfl) dX8_readFile_31 ⟨Nat.zero_le _, Nat.zero_le _⟩ (fun H locs hn_r41 hP hS => ?_)
        refine lv_if_ne (tgt := 41) hx hb dX8_readFile_34 (by decide) (fun c42 => ?_) (fun c42 => ?_)
        · have h := x_f (show ¬ (r41 = 0) from c42) h
          refine lv_iconst (v := 0) hx hb dX8_readFile_41 (by decide) ?_
          exact x_iret hx hb hr hlocks rfl hP hS h dX8_readFile_42
        · have h := x_t (show r41 = 0 from c42) h
          refine lv_iconst (v := 1) hx hb dX8_readFile_37 (by decide) ?_
          refine lv_goto (tgt := 42) hx hb dX8_readFile_38 (by decide) ?_
          exact x_iret hx hb hr hlocks rfl hP hS h dX8_readFile_42
    · have h := x_t (show r37 = 0 from c38) h
      refine lv_iconst (v := 0) hx hb dX8_readFile_17 (by decide) ?_
      exact x_iret hx hb hr hlocks rfl hP hS h dX8_readFile_18
abbrev rm_X8_load : Room := { frames := 9, cells := 0, slots := 0, locals := 220 }
set_option maxHeartbeats 4000000 in
set_option maxRecDepth 100000 in
theorem c_X8_load (l : Launch) (dd : Dd) (Y : Yc) (t : Ts3) (ad : Nat → Nat) (ij : Ij MG ad) (F : Nat) (a1 a2 : Int32) (D0 D' : Mm) (r0 : Int32) (h : P_X8_load (gN MG) F a1 a2 D0 = some (r0, D')) : Met l yX8_load wzX8_load rm_X8_load (va_Pc [.ref (ad 0), .int a1, .int a2] (Wd dd Y t MG ad D0)) (Qi dd Y MG ad .int r0 D') 0 0 (pA MG ad) := by
  refine Met.ofW (cc := cX8_load) (maxL := 3) (ret := (some .int)) (by decide) rfl ?_
  intro p e s m args below meth c s₁ B hml hv
  obtain ⟨rfl, hP, hK, hT⟩ := hv
  have hx := B.exec
  have hb := B.bytes
  have hr := B.returns
  have ht0 : ∀ w ∈ W0, w.before _ s = true := fun w h => atoms_spec (ws := wzX8_load) B.pre w (List.mem_cons_of_mem _ h)
  have hown : s.vm.findClass RX8 = some m.cls := findClass_of_methodNamed B.named
  have hlocks := B.notSynchronized
  have hS : va_S (pA MG ad) s.heap s.heap [] := va_S.rf
  have hl := lv_entry ([.ref (ad 0), .int a1, .int a2]) (n := 3) (Nat.le_of_ble_eq_true rfl)
  rw [lg_entry_eq]
  generalize (lg_sl ([.ref (ad 0), .int a1, .int a2]) ++ List.replicate (3 - (lg_sl ([.ref (ad 0), .int a1, .int a2])).length) Slot.unset).toArray = ls at hl ⊢
  have hl : lv_has ls 3 [(0, .ref (ad 0)), (1, .int a1), (2, .int a2)] := hl
  have hP : va_P dd vwCl (wW Y MG ad D0) s.heap := hP
  generalize D0 = D at h hP
  have h : ((bi (P_X8_readFile (gN MG) F a1 a2 1 (up2 D 0 8 0)) (fun r1 D1 => if r1 = 0 then (some ((-1), up2 D1 0 8 0)) else (some (D1 0 8, D1)))) : Rs) = some (r0, D') := h
  refine lv_aload_n hx hb dX8_load_0 rfl (lv_at hl 0 rfl) ?_
  refine lv_iconst (v := 0) hx hb dX8_load_1 (by decide) ?_
  refine x_put (ty := .int) hx hb ht0 u_X8 tyX8 tyX8_ok nmX8 hown hK ij hP hS (mk_0).1 (ce8 (mk_0).2) rfl 8 (by decide) (ht0 _ m_FL_X8_220) rfl rfl (by decide +kernel) rfl rfl (Nat.le_of_ble_eq_true rfl) (by rw [(mk_0).2]; rfl) dX8_load_2 (fun H locs hP hS => ?_)
  refine lv_aload_n hx hb dX8_load_5 rfl (lv_at hl 0 rfl) ?_
  refine lv_iload_n hx hb dX8_load_6 rfl (lv_at hl 1 rfl) ?_
  refine lv_iload_n hx hb dX8_load_7 rfl (lv_at hl 2 rfl) ?_
  refine lv_iconst (v := 1) hx hb dX8_load_8 (by decide) ?_
  obtain ⟨r1, D1, hc1, h⟩ := bi_some h
  refine x_callVi (As := [.int a1, .int a2, .int 1]) ⟨hx, hb, hml, hown, ht0⟩ hK hT hP hS (c_X8_readFile l dd Y t ad ij F a1 a2 1 _ _ _ hc1) m_ML_X8_223 sv_X8_readFile hd_X8_readFile rfl rfl ⟨Nat.le_of_ble_eq_true rfl, Nat.le_of_ble_eq_true rfl⟩ (mk_0).1 (ce8 (mk_0).2) rfl rfl hl.1 rfl (Nat.le_of_ble_eq_true rfl) dX8_load_9 ⟨Nat.zero_le _, Nat.zero_le _⟩ (fun H locs hn_r1 hP hS => ?_)
  refine lv_if_eq (tgt := 20) hx hb dX8_load_12 (by decide) (fun c2 => ?_) (fun c2 => ?_)
  · have h := x_t (show r1 = 0 from c2) h
    refine lv_aload_n hx hb dX8_load_20 rfl (lv_at hl 0 rfl) ?_
    refine lv_iconst (v := 0) hx hb dX8_load_21 (by decide) ?_
    refine x_put (ty := .int) hx hb ht0 u_X8 tyX8 tyX8_ok nmX8 hown hK ij hP hS (mk_0).1 (ce8 (mk_0).2) rfl 8 (by decide) (ht0 _ m_FL_X8_220) rfl rfl (by decide +kernel) rfl rfl (Nat.le_of_ble_eq_true rfl) (by rw [(mk_0).2]; rfl) dX8_load_22 (fun H locs hP hS => ?_)
    refine lv_iconst (v := (-1)) hx hb dX8_load_25 (by decide) ?_
    exact x_iret hx hb hr hlocks rfl hP hS h dX8_load_26
  · have h := x_f (show ¬ (r1 = 0) from c2) h
    refine lv_aload_n hx hb dX8_load_15 rfl (lv_at hl 0 rfl) ?_
    refine x_get hx hb ht0 u_X8 hown hK hP (mk_0).1 (ce8 (mk_0).2) rfl 8 (by decide) (ht0 _ m_FL_X8_220) rfl rfl dX8_load_16 ?_
    exact x_iret hx hb hr hlocks rfl hP hS h dX8_load_19
abbrev rm_X8_scratches : Room := { frames := 9, cells := 0, slots := 0, locals := 220 }
set_option maxHeartbeats 4000000 in
set_option maxRecDepth 100000 in
theorem c_X8_scratches (l : Launch) (dd : Dd) (Y : Yc) (t : Ts3) (ad : Nat → Nat) (ij : Ij MG ad) (F : Nat) (a1 a2 : Int32) (D0 D' : Mm) (r0 : Int32) (h : P_X8_scratches (gN MG) F a1 a2 D0 = some (r0, D')) : Met l yX8_scratches wzX8_scratches rm_X8_scratches (va_Pc [.ref (ad 0), .int a1, .int a2] (Wd dd Y t MG ad D0)) (Qi dd Y MG ad .boolean r0 D') 0 0 (pA MG ad) := by
  refine Met.ofW (cc := cX8_scratches) (maxL := 4) (ret := (some .boolean)) (by decide) rfl ?_
  intro p e s m args below meth c s₁ B hml hv
  obtain ⟨rfl, hP, hK, hT⟩ := hv
  have hx := B.exec
  have hb := B.bytes
  have hr := B.returns
  have ht0 : ∀ w ∈ W0, w.before _ s = true := fun w h => atoms_spec (ws := wzX8_scratches) B.pre w (List.mem_cons_of_mem _ h)
  have hown : s.vm.findClass RX8 = some m.cls := findClass_of_methodNamed B.named
  have hlocks := B.notSynchronized
  have hS : va_S (pA MG ad) s.heap s.heap [] := va_S.rf
  have L53 : ∀ (n : Nat), ∀ (x3 : Int32) (D : Mm) (H : Heap) (locs : List Loc) (ls : Array Slot), P_X8_scratches_53 (gN MG) F n x3 D = some (r0, D') → va_P dd vwCl (wW Y MG ad D) H → va_S (pA MG ad) s.heap H locs → lv_has ls 4 [(0, .ref (ad 0)), (3, .int x3)] → W p l e (headSpec wzX8_scratches rm_X8_scratches).room s m ([.ref (ad 0), .int a1, .int a2].toArray) below meth c H locs 0 0 (MQ below (Qi dd Y MG ad .boolean r0 D') ([.ref (ad 0), .int a1, .int a2].toArray) s 0 0 (pA MG ad)) (F0 m 53 ls []) := by
    intro n
    induction n with
    | zero =>
      intro x3 D H locs ls h hP hS hl
      cases h
    | succ n ih =>
      intro x3 D H locs ls h hP hS hl
      have h : ((if (D 0 28) ≤ x3 then (bi (P_X8_writeMap (gN MG) F D) (fun r2 D2 => if r2 = 0 then (some (0, D2)) else (bi (P_X8_ends (gN MG) F 1 (D2 0 28) 0 D2) (fun r4 D4 => some (1, D4))))) else (if inB x3 ((gN MG) 13) = true then (if (D 13 (Int32.toNatClampNeg x3)) = 9 then (P_X8_scratches_53 (gN MG) F n (x3 + 1) D) else (if inB x3 ((gN MG) 13) = true then (if inB x3 ((gN MG) 14) = true then (bi (P_X8_setFree (gN MG) F (D 13 (Int32.toNatClampNeg x3)) (D 14 (Int32.toNatClampNeg x3)) 1 D) (fun r9 D9 => P_X8_scratches_53 (gN MG) F n (x3 + 1) D9)) else none) else none)) else none)) : Rs) = some (r0, D') := h
      refine lv_iload_n hx hb dX8_scratches_53 rfl (lv_at hl 1 rfl) ?_
      refine lv_aload_n hx hb dX8_scratches_54 rfl (lv_at hl 0 rfl) ?_
      refine x_get hx hb ht0 u_X8 hown hK hP (mk_0).1 (ce8 (mk_0).2) rfl 28 (by decide) (ht0 _ m_FL_X8_180) rfl rfl dX8_scratches_55 ?_
      refine lv_icmp_ge (tgt := 95) hx hb dX8_scratches_58 (by decide) (fun c1 => ?_) (fun c1 => ?_)
      · have h := x_t (show (D 0 28) ≤ x3 from c1) h
        refine lv_aload_n hx hb dX8_scratches_95 rfl (lv_at hl 0 rfl) ?_
        obtain ⟨r2, D2, hc2, h⟩ := bi_some h
        refine x_callVi (As := []) ⟨hx, hb, hml, hown, ht0⟩ hK hT hP hS (c_X8_writeMap l dd Y t ad ij F  _ _ _ hc2) m_ML_X8_210 sv_X8_writeMap hd_X8_writeMap rfl rfl ⟨Nat.le_of_ble_eq_true rfl, Nat.le_of_ble_eq_true rfl⟩ (mk_0).1 (ce8 (mk_0).2) rfl rfl hl.1 rfl (Nat.le_of_ble_eq_true rfl) dX8_scratches_96 ⟨Nat.zero_le _, Nat.zero_le _⟩ (fun H locs hn_r2 hP hS => ?_)
        refine lv_if_ne (tgt := 104) hx hb dX8_scratches_99 (by decide) (fun c3 => ?_) (fun c3 => ?_)
        · have h := x_f (show ¬ (r2 = 0) from c3) h
          refine lv_aload_n hx hb dX8_scratches_104 rfl (lv_at hl 0 rfl) ?_
          refine lv_iconst (v := 1) hx hb dX8_scratches_105 (by decide) ?_
          refine lv_aload_n hx hb dX8_scratches_106 rfl (lv_at hl 0 rfl) ?_
          refine x_get hx hb ht0 u_X8 hown hK hP (mk_0).1 (ce8 (mk_0).2) rfl 28 (by decide) (ht0 _ m_FL_X8_180) rfl rfl dX8_scratches_107 ?_
          refine lv_iconst (v := 0) hx hb dX8_scratches_110 (by decide) ?_
          obtain ⟨r4, D4, hc4, h⟩ := bi_some h
          refine x_callVi (As := [.int 1, .int (D2 0 28), .int 0]) ⟨hx, hb, hml, hown, ht0⟩ hK hT hP hS (c_X8_ends l dd Y t ad ij F 1 (D2 0 28) 0 _ _ _ hc4) m_ML_X8_143 sv_X8_ends hd_X8_ends rfl rfl ⟨Nat.le_of_ble_eq_true rfl, Nat.le_of_ble_eq_true rfl⟩ (mk_0).1 (ce8 (mk_0).2) rfl rfl hl.1 rfl (Nat.le_of_ble_eq_true rfl) dX8_scratches_111 ⟨Nat.zero_le _, Nat.zero_le _⟩ (fun H locs hn_r4 hP hS => ?_)
          refine lv_istore_n (lv' := [(3, .int r4), (0, .ref (ad 0))]) hx hb dX8_scratches_114 rfl hl (by decide) rfl (fun ls hl => ?_)
          refine lv_iconst (v := 1) hx hb dX8_scratches_115 (by decide) ?_
          exact x_iret hx hb hr hlocks rfl hP hS h dX8_scratches_116
        · have h := x_t (show r2 = 0 from c3) h
          refine lv_iconst (v := 0) hx hb dX8_scratches_102 (by decide) ?_
          exact x_iret hx hb hr hlocks rfl hP hS h dX8_scratches_103
      · have h := x_f (show ¬ ((D 0 28) ≤ x3) from c1) h
        refine lv_aload_n hx hb dX8_scratches_61 rfl (lv_at hl 0 rfl) ?_
        refine x_get hx hb ht0 u_X8 hown hK hP (mk_0).1 (ce8 (mk_0).2) rfl 26 (by decide) (ht0 _ m_FL_X8_52) rfl (rfv (G := MG) (c := 0) (k := 26) (c' := 13) rfl) dX8_scratches_62 ?_
        refine lv_iload_n hx hb dX8_scratches_65 rfl (lv_at hl 1 rfl) ?_
        obtain ⟨b5, h⟩ := x_if h
        refine x_ald hx hb hK hP mk_13 b5 dX8_scratches_66 ?_
        refine lv_bipush (v := 9) hx hb dX8_scratches_67 (by decide) ?_
        refine lv_icmp_eq (tgt := 89) hx hb dX8_scratches_69 (by decide) (fun c6 => ?_) (fun c6 => ?_)
        · have h := x_t (show (D 13 (Int32.toNatClampNeg x3)) = 9 from c6) h
          refine lv_iinc (v := x3 + 1) (lv' := [(3, .int (x3 + 1)), (0, .ref (ad 0))]) hx hb dX8_scratches_89 hl (k := 1) rfl rfl (by decide) rfl (fun ls hl => ?_)
          refine lv_goto (tgt := 53) hx hb dX8_scratches_92 (by decide) ?_
          exact ih (x3 + 1) D _ _ _ h hP hS (lv_sub hl [1, 0] rfl)
        · have h := x_f (show ¬ ((D 13 (Int32.toNatClampNeg x3)) = 9) from c6) h
          refine lv_aload_n hx hb dX8_scratches_72 rfl (lv_at hl 0 rfl) ?_
          refine lv_aload_n hx hb dX8_scratches_73 rfl (lv_at hl 0 rfl) ?_
          refine x_get hx hb ht0 u_X8 hown hK hP (mk_0).1 (ce8 (mk_0).2) rfl 26 (by decide) (ht0 _ m_FL_X8_52) rfl (rfv (G := MG) (c := 0) (k := 26) (c' := 13) rfl) dX8_scratches_74 ?_
          refine lv_iload_n hx hb dX8_scratches_77 rfl (lv_at hl 1 rfl) ?_
          obtain ⟨b7, h⟩ := x_if h
          refine x_ald hx hb hK hP mk_13 b7 dX8_scratches_78 ?_
          refine lv_aload_n hx hb dX8_scratches_79 rfl (lv_at hl 0 rfl) ?_
          refine x_get hx hb ht0 u_X8 hown hK hP (mk_0).1 (ce8 (mk_0).2) rfl 27 (by decide) (ht0 _ m_FL_X8_55) rfl (rfv (G := MG) (c := 0) (k := 27) (c' := 14) rfl) dX8_scratches_80 ?_
          refine lv_iload_n hx hb dX8_scratches_83 rfl (lv_at hl 1 rfl) ?_
          obtain ⟨b8, h⟩ := x_if h
          refine x_ald hx hb hK hP mk_14 b8 dX8_scratches_84 ?_
          refine lv_iconst (v := 1) hx hb dX8_scratches_85 (by decide) ?_
          obtain ⟨r9, D9, hc9, h⟩ := bi_some h
          refine x_callVv (As := [.int (D 13 (Int32.toNatClampNeg x3)), .int (D 14 (Int32.toNatClampNeg x3)), .int 1]) ⟨hx, hb, hml, hown, ht0⟩ hK hT hP hS (c_X8_setFree l dd Y t ad ij F (D 13 (Int32.toNatClampNeg x3)) (D 14 (Int32.toNatClampNeg x3)) 1 _ _ _ hc9) m_ML_X8_176 sv_X8_setFree hd_X8_setFree rfl rfl ⟨Nat.le_of_ble_eq_true rfl, Nat.le_of_ble_eq_true rfl⟩ (mk_0).1 (ce8 (mk_0).2) rfl rfl hl.1 rfl (Nat.le_of_ble_eq_true rfl) dX8_scratches_86 ⟨Nat.zero_le _, Nat.zero_le _⟩ (fun H locs hP hS => ?_)
          refine lv_iinc (v := x3 + 1) (lv' := [(3, .int (x3 + 1)), (0, .ref (ad 0))]) hx hb dX8_scratches_89 hl (k := 1) rfl rfl (by decide) rfl (fun ls hl => ?_)
          refine lv_goto (tgt := 53) hx hb dX8_scratches_92 (by decide) ?_
          exact ih (x3 + 1) D9 _ _ _ h hP hS (lv_sub hl [1, 0] rfl)
  have L14 : ∀ (n : Nat), ∀ (x3 : Int32) (D : Mm) (H : Heap) (locs : List Loc) (ls : Array Slot), P_X8_scratches_14 (gN MG) F n x3 D = some (r0, D') → va_P dd vwCl (wW Y MG ad D) H → va_S (pA MG ad) s.heap H locs → lv_has ls 4 [(0, .ref (ad 0)), (3, .int x3)] → W p l e (headSpec wzX8_scratches rm_X8_scratches).room s m ([.ref (ad 0), .int a1, .int a2].toArray) below meth c H locs 0 0 (MQ below (Qi dd Y MG ad .boolean r0 D') ([.ref (ad 0), .int a1, .int a2].toArray) s 0 0 (pA MG ad)) (F0 m 14 ls []) := by
    intro n
    induction n with
    | zero =>
      intro x3 D H locs ls h hP hS hl
      cases h
    | succ n ih =>
      intro x3 D H locs ls h hP hS hl
      have h : ((if 12 ≤ x3 then (bi (P_X8_writeDirectory (gN MG) F (D 0 24) D) (fun r11 D11 => if r11 = 0 then (some (0, D11)) else (P_X8_scratches_53 (gN MG) F F 0 D11))) else (if inB ((D 0 25) + x3) ((gN MG) 10) = true then (P_X8_scratches_14 (gN MG) F n (x3 + 1) (up2 D 10 (Int32.toNatClampNeg ((D 0 25) + x3)) 0)) else none)) : Rs) = some (r0, D') := h
      refine lv_iload_n hx hb dX8_scratches_14 rfl (lv_at hl 1 rfl) ?_
      refine lv_bipush (v := 12) hx hb dX8_scratches_15 (by decide) ?_
      refine lv_icmp_ge (tgt := 38) hx hb dX8_scratches_17 (by decide) (fun c10 => ?_) (fun c10 => ?_)
      · have h := x_t (show 12 ≤ x3 from c10) h
        refine lv_aload_n hx hb dX8_scratches_38 rfl (lv_at hl 0 rfl) ?_
        refine lv_aload_n hx hb dX8_scratches_39 rfl (lv_at hl 0 rfl) ?_
        refine x_get hx hb ht0 u_X8 hown hK hP (mk_0).1 (ce8 (mk_0).2) rfl 24 (by decide) (ht0 _ m_FL_X8_159) rfl rfl dX8_scratches_40 ?_
        obtain ⟨r11, D11, hc11, h⟩ := bi_some h
        refine x_callVi (As := [.int (D 0 24)]) ⟨hx, hb, hml, hown, ht0⟩ hK hT hP hS (c_X8_writeDirectory l dd Y t ad ij F (D 0 24) _ _ _ hc11) m_ML_X8_207 sv_X8_writeDirectory hd_X8_writeDirectory rfl rfl ⟨Nat.le_of_ble_eq_true rfl, Nat.le_of_ble_eq_true rfl⟩ (mk_0).1 (ce8 (mk_0).2) rfl rfl hl.1 rfl (Nat.le_of_ble_eq_true rfl) dX8_scratches_43 ⟨Nat.zero_le _, Nat.zero_le _⟩ (fun H locs hn_r11 hP hS => ?_)
        refine lv_if_ne (tgt := 51) hx hb dX8_scratches_46 (by decide) (fun c12 => ?_) (fun c12 => ?_)
        · have h := x_f (show ¬ (r11 = 0) from c12) h
          refine lv_iconst (v := 0) hx hb dX8_scratches_51 (by decide) ?_
          refine lv_istore_n (lv' := [(3, .int 0), (0, .ref (ad 0))]) hx hb dX8_scratches_52 rfl hl (by decide) rfl (fun ls hl => ?_)
          exact L53 F 0 D11 _ _ _ h hP hS (lv_sub hl [1, 0] rfl)
        · have h := x_t (show r11 = 0 from c12) h
          refine lv_iconst (v := 0) hx hb dX8_scratches_49 (by decide) ?_
          exact x_iret hx hb hr hlocks rfl hP hS h dX8_scratches_50
      · have h := x_f (show ¬ (12 ≤ x3) from c10) h
        refine lv_aload_n hx hb dX8_scratches_20 rfl (lv_at hl 0 rfl) ?_
        refine x_get hx hb ht0 u_X8 hown hK hP (mk_0).1 (ce8 (mk_0).2) rfl 20 (by decide) (ht0 _ m_FL_X8_43) rfl (rfv (G := MG) (c := 0) (k := 20) (c' := 10) rfl) dX8_scratches_21 ?_
        refine lv_aload_n hx hb dX8_scratches_24 rfl (lv_at hl 0 rfl) ?_
        refine x_get hx hb ht0 u_X8 hown hK hP (mk_0).1 (ce8 (mk_0).2) rfl 25 (by decide) (ht0 _ m_FL_X8_165) rfl rfl dX8_scratches_25 ?_
        refine lv_iload_n hx hb dX8_scratches_28 rfl (lv_at hl 1 rfl) ?_
        refine lv_iadd hx hb dX8_scratches_29 ?_
        refine lv_iconst (v := 0) hx hb dX8_scratches_30 (by decide) ?_
        obtain ⟨b13, h⟩ := x_if h
        refine x_ast hx hb hK ij hP hS mk_10 b13 dX8_scratches_31 (fun H locs hP hS => ?_)
        refine lv_iinc (v := x3 + 1) (lv' := [(3, .int (x3 + 1)), (0, .ref (ad 0))]) hx hb dX8_scratches_32 hl (k := 1) rfl rfl (by decide) rfl (fun ls hl => ?_)
        refine lv_goto (tgt := 14) hx hb dX8_scratches_35 (by decide) ?_
        exact ih (x3 + 1) (up2 D 10 (Int32.toNatClampNeg ((D 0 25) + x3)) 0) _ _ _ h hP hS (lv_sub hl [1, 0] rfl)
  have hl := lv_entry ([.ref (ad 0), .int a1, .int a2]) (n := 4) (Nat.le_of_ble_eq_true rfl)
  rw [lg_entry_eq]
  generalize (lg_sl ([.ref (ad 0), .int a1, .int a2]) ++ List.replicate (4 - (lg_sl ([.ref (ad 0), .int a1, .int a2])).length) Slot.unset).toArray = ls at hl ⊢
  have hl : lv_has ls 4 [(0, .ref (ad 0)), (1, .int a1), (2, .int a2)] := hl
  have hP : va_P dd vwCl (wW Y MG ad D0) s.heap := hP
  generalize D0 = D at h hP
  have h : ((bi (P_X8_readFile (gN MG) F a1 a2 0 D) (fun r14 D14 => if r14 = 0 then (some (0, D14)) else (P_X8_scratches_14 (gN MG) F F 0 D14))) : Rs) = some (r0, D') := h
  refine lv_aload_n hx hb dX8_scratches_0 rfl (lv_at hl 0 rfl) ?_
  refine lv_iload_n hx hb dX8_scratches_1 rfl (lv_at hl 1 rfl) ?_
  refine lv_iload_n hx hb dX8_scratches_2 rfl (lv_at hl 2 rfl) ?_
  refine lv_iconst (v := 0) hx hb dX8_scratches_3 (by decide) ?_
  obtain ⟨r14, D14, hc14, h⟩ := bi_some h
  refine x_callVi (As := [.int a1, .int a2, .int 0]) ⟨hx, hb, hml, hown, ht0⟩ hK hT hP hS (c_X8_readFile l dd Y t ad ij F a1 a2 0 _ _ _ hc14) m_ML_X8_223 sv_X8_readFile hd_X8_readFile rfl rfl ⟨Nat.le_of_ble_eq_true rfl, Nat.le_of_ble_eq_true rfl⟩ (mk_0).1 (ce8 (mk_0).2) rfl rfl hl.1 rfl (Nat.le_of_ble_eq_true rfl) dX8_scratches_4 ⟨Nat.zero_le _, Nat.zero_le _⟩ (fun H locs hn_r14 hP hS => ?_)
  refine lv_if_ne (tgt := 12) hx hb dX8_scratches_7 (by decide) (fun c15 => ?_) (fun c15 => ?_)
  · have h := x_f (show ¬ (r14 = 0) from c15) h
    refine lv_iconst (v := 0) hx hb dX8_scratches_12 (by decide) ?_
    refine lv_istore_n (lv' := [(3, .int 0), (0, .ref (ad 0)), (1, .int a1), (2, .int a2)]) hx hb dX8_scratches_13 rfl hl (by decide) rfl (fun ls hl => ?_)
    exact L14 F 0 D14 _ _ _ h hP hS (lv_sub hl [1, 0] rfl)
  · have h := x_t (show r14 = 0 from c15) h
    refine lv_iconst (v := 0) hx hb dX8_scratches_10 (by decide) ?_
    exact x_iret hx hb hr hlocks rfl hP hS h dX8_scratches_11
