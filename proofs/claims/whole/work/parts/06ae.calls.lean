abbrev rm_X3_keepRoom : Room := { frames := 1, cells := 0, slots := 0, locals := 26 }
set_option maxHeartbeats 4000000 in
set_option maxRecDepth 100000 in
theorem c_X3_keepRoom (l : Launch) (dd : Dd) (Y : Yc) (t : Ts3) (ad : Nat → Nat) (ij : Ij XG ad) (F : Nat) (a1 : Int32) (D0 D' : Mm) (r0 : Int32) (h : P_X3_keepRoom (gN XG) F a1 D0 = some (r0, D')) : Met l yX3_keepRoom wzX3_keepRoom rm_X3_keepRoom (va_Pc [.ref (ad 58), .int a1] (Wd dd Y t XG ad D0)) (Qv dd Y XG ad D') 0 0 (pA XG ad) := by
  refine Met.ofW (cc := cX3_keepRoom) (maxL := 2) (ret := none) (by decide) rfl ?_
  intro p e s m args below meth c s₁ B hml hv
  obtain ⟨rfl, hP, hK, hT⟩ := hv
  have hx := B.exec
  have hb := B.bytes
  have hr := B.returns
  have ht0 : ∀ w ∈ W0, w.before _ s = true := fun w h => atoms_spec (ws := wzX3_keepRoom) B.pre w (List.mem_cons_of_mem _ h)
  have hown : s.vm.findClass RX3 = some m.cls := findClass_of_methodNamed B.named
  have hlocks := B.notSynchronized
  have hS : va_S (pA XG ad) s.heap s.heap [] := va_S.rf
  have L29 : ∀ (D : Mm) (H : Heap) (locs : List Loc) (ls : Array Slot), P_X3_keepRoom_29 (gN XG) F D = some (r0, D') → va_P dd vwCl (wW Y XG ad D) H → va_S (pA XG ad) s.heap H locs → lv_has ls 2 [(0, .ref (ad 58))] → W p l e (headSpec wzX3_keepRoom rm_X3_keepRoom).room s m ([.ref (ad 58), .int a1].toArray) below meth c H locs 0 0 (MQ below (Qv dd Y XG ad D') ([.ref (ad 58), .int a1].toArray) s 0 0 (pA XG ad)) (F0 m 29 ls []) := by
    intro D H locs ls h hP hS hl
    have h : ((if decide (¬ (0 : Int32) < 0 ∧ ¬ (0 : Int32) < 0 ∧ ¬ (64 : Int32) < 0 ∧ Int32.toNatClampNeg 0 + Int32.toNatClampNeg 64 ≤ (gN XG) 59 ∧ Int32.toNatClampNeg 0 + Int32.toNatClampNeg 64 ≤ (gN XG) 60) = true then (some (0, upA D 60 (va_cpy (D 59) (D 60) (Int32.toNatClampNeg 0) (Int32.toNatClampNeg 0) (Int32.toNatClampNeg 64)))) else none) : Rs) = some (r0, D') := h
    refine lv_aload_n hx hb dX3_keepRoom_29 rfl (lv_at hl 0 rfl) ?_
    refine x_get hx hb ht0 u_X3 hown hK hP (xk_58).1 (ce3 (xk_58).2) rfl 2 (by decide) (ht0 _ m_FL_X3_9) rfl (rfv (G := XG) (c := 58) (k := 2) (c' := 59) rfl) dX3_keepRoom_30 ?_
    refine lv_iconst (v := 0) hx hb dX3_keepRoom_33 (by decide) ?_
    refine lv_aload_n hx hb dX3_keepRoom_34 rfl (lv_at hl 0 rfl) ?_
    refine x_get hx hb ht0 u_X3 hown hK hP (xk_58).1 (ce3 (xk_58).2) rfl 8 (by decide) (ht0 _ m_FL_X3_15) rfl (rfv (G := XG) (c := 58) (k := 8) (c' := 60) rfl) dX3_keepRoom_35 ?_
    refine lv_iconst (v := 0) hx hb dX3_keepRoom_38 (by decide) ?_
    refine lv_bipush (v := 64) hx hb dX3_keepRoom_39 (by decide) ?_
    obtain ⟨b1, h⟩ := x_if h
    refine x_cpy hx hb (hml.trans hl.1.symm) hown (ht0 _ m_ML_X3_76) (ht0 _ m_native_cpy) (ht0 _ m_static_cpy) (ht0 _ m_IN_J10) hK ij hP hS xk_59 xk_60 b1 (Nat.le_of_ble_eq_true rfl) (Nat.le_of_ble_eq_true rfl) dX3_keepRoom_41 (fun H locs hP hS => ?_)
    exact x_vret hx hb hr hlocks hP hS h dX3_keepRoom_44
  have hl := lv_entry ([.ref (ad 58), .int a1]) (n := 2) (Nat.le_of_ble_eq_true rfl)
  rw [lg_entry_eq]
  generalize (lg_sl ([.ref (ad 58), .int a1]) ++ List.replicate (2 - (lg_sl ([.ref (ad 58), .int a1])).length) Slot.unset).toArray = ls at hl ⊢
  have hl : lv_has ls 2 [(0, .ref (ad 58)), (1, .int a1)] := hl
  have hP : va_P dd vwCl (wW Y XG ad D0) s.heap := hP
  generalize D0 = D at h hP
  have h : ((if (D 58 7) = (-1) then (P_X3_keepRoom_29 (gN XG) F (up2 (up2 (up2 D 58 7 a1) 58 9 ((up2 D 58 7 a1) 58 3)) 58 10 ((up2 (up2 D 58 7 a1) 58 9 ((up2 D 58 7 a1) 58 3)) 58 4))) else (some (0, D))) : Rs) = some (r0, D') := h
  refine lv_aload_n hx hb dX3_keepRoom_0 rfl (lv_at hl 0 rfl) ?_
  refine x_get hx hb ht0 u_X3 hown hK hP (xk_58).1 (ce3 (xk_58).2) rfl 7 (by decide) (ht0 _ m_FL_X3_30) rfl rfl dX3_keepRoom_1 ?_
  refine lv_iconst (v := (-1)) hx hb dX3_keepRoom_4 (by decide) ?_
  refine lv_icmp_ne (tgt := 44) hx hb dX3_keepRoom_5 (by decide) (fun c2 => ?_) (fun c2 => ?_)
  · have h := x_f (show ¬ ((D 58 7) = (-1)) from c2) h
    exact x_vret hx hb hr hlocks hP hS h dX3_keepRoom_44
  · have h := x_t (show (D 58 7) = (-1) from c2) h
    refine lv_aload_n hx hb dX3_keepRoom_8 rfl (lv_at hl 0 rfl) ?_
    refine lv_iload_n hx hb dX3_keepRoom_9 rfl (lv_at hl 1 rfl) ?_
    refine x_put (ty := .int) hx hb ht0 u_X3 tyX3 tyX3_ok nmX3 hown hK ij hP hS (xk_58).1 (ce3 (xk_58).2) rfl 7 (by decide) (ht0 _ m_FL_X3_30) rfl rfl (by decide +kernel) rfl rfl (Nat.le_of_ble_eq_true rfl) (by rw [(xk_58).2]; rfl) dX3_keepRoom_10 (fun H locs hP hS => ?_)
    refine lv_aload_n hx hb dX3_keepRoom_13 rfl (lv_at hl 0 rfl) ?_
    refine lv_aload_n hx hb dX3_keepRoom_14 rfl (lv_at hl 0 rfl) ?_
    refine x_get hx hb ht0 u_X3 hown hK hP (xk_58).1 (ce3 (xk_58).2) rfl 3 (by decide) (ht0 _ m_FL_X3_40) rfl rfl dX3_keepRoom_15 ?_
    refine x_put (ty := .int) hx hb ht0 u_X3 tyX3 tyX3_ok nmX3 hown hK ij hP hS (xk_58).1 (ce3 (xk_58).2) rfl 9 (by decide) (ht0 _ m_FL_X3_70) rfl rfl (by decide +kernel) rfl rfl (Nat.le_of_ble_eq_true rfl) (by rw [(xk_58).2]; rfl) dX3_keepRoom_18 (fun H locs hP hS => ?_)
    refine lv_aload_n hx hb dX3_keepRoom_21 rfl (lv_at hl 0 rfl) ?_
    refine lv_aload_n hx hb dX3_keepRoom_22 rfl (lv_at hl 0 rfl) ?_
    refine x_get hx hb ht0 u_X3 hown hK hP (xk_58).1 (ce3 (xk_58).2) rfl 4 (by decide) (ht0 _ m_FL_X3_43) rfl rfl dX3_keepRoom_23 ?_
    refine x_put (ty := .int) hx hb ht0 u_X3 tyX3 tyX3_ok nmX3 hown hK ij hP hS (xk_58).1 (ce3 (xk_58).2) rfl 10 (by decide) (ht0 _ m_FL_X3_73) rfl rfl (by decide +kernel) rfl rfl (Nat.le_of_ble_eq_true rfl) (by rw [(xk_58).2]; rfl) dX3_keepRoom_26 (fun H locs hP hS => ?_)
    exact L29 (up2 (up2 (up2 D 58 7 a1) 58 9 ((up2 D 58 7 a1) 58 3)) 58 10 ((up2 (up2 D 58 7 a1) 58 9 ((up2 D 58 7 a1) 58 3)) 58 4)) _ _ _ h hP hS (lv_sub hl [0] rfl)
abbrev rm_X7_nameByte : Room := { frames := 0, cells := 0, slots := 0, locals := 0 }
set_option maxHeartbeats 4000000 in
set_option maxRecDepth 100000 in
theorem c_X7_nameByte (l : Launch) (dd : Dd) (Y : Yc) (t : Ts3) (ad : Nat → Nat) (ij : Ij XG ad) (F : Nat) (a0 a1 a2 : Int32) (D0 D' : Mm) (r0 : Int32) (h : P_X7_nameByte (gN XG) F a0 a1 a2 D0 = some (r0, D')) : Met l yX7_nameByte wzX7_nameByte rm_X7_nameByte (va_Pc [.int a0, .int a1, .int a2] (Wd dd Y t XG ad D0)) (Qi dd Y XG ad .int r0 D') 0 0 (pA XG ad) := by
  refine Met.ofW (cc := cX7_nameByte) (maxL := 3) (ret := (some .int)) (by decide) rfl ?_
  intro p e s m args below meth c s₁ B hml hv
  obtain ⟨rfl, hP, hK, hT⟩ := hv
  have hx := B.exec
  have hb := B.bytes
  have hr := B.returns
  have ht0 : ∀ w ∈ W0, w.before _ s = true := fun w h => atoms_spec (ws := wzX7_nameByte) B.pre w (List.mem_cons_of_mem _ h)
  have hown : s.vm.findClass RX7 = some m.cls := findClass_of_methodNamed B.named
  have hlocks := B.notSynchronized
  have hS : va_S (pA XG ad) s.heap s.heap [] := va_S.rf
  have hl := lv_entry ([.int a0, .int a1, .int a2]) (n := 3) (Nat.le_of_ble_eq_true rfl)
  rw [lg_entry_eq]
  generalize (lg_sl ([.int a0, .int a1, .int a2]) ++ List.replicate (3 - (lg_sl ([.int a0, .int a1, .int a2])).length) Slot.unset).toArray = ls at hl ⊢
  have hl : lv_has ls 3 [(0, .int a0), (1, .int a1), (2, .int a2)] := hl
  have hP : va_P dd vwCl (wW Y XG ad D0) s.heap := hP
  generalize D0 = D at h hP
  have h : ((if 4 ≤ a2 then (some ((jush a1 (24 - (8 * (jrem a2 4)))) &&& 255, D)) else (some ((jush a0 (24 - (8 * (jrem a2 4)))) &&& 255, D))) : Rs) = some (r0, D') := h
  refine lv_iload_n hx hb dX7_nameByte_0 rfl (lv_at hl 2 rfl) ?_
  refine lv_iconst (v := 4) hx hb dX7_nameByte_1 (by decide) ?_
  refine lv_icmp_ge (tgt := 9) hx hb dX7_nameByte_2 (by decide) (fun c1 => ?_) (fun c1 => ?_)
  · have h := x_t (show 4 ≤ a2 from c1) h
    refine lv_iload_n hx hb dX7_nameByte_9 rfl (lv_at hl 1 rfl) ?_
    refine lv_bipush (v := 24) hx hb dX7_nameByte_10 (by decide) ?_
    refine lv_bipush (v := 8) hx hb dX7_nameByte_12 (by decide) ?_
    refine lv_iload_n hx hb dX7_nameByte_14 rfl (lv_at hl 2 rfl) ?_
    refine lv_iconst (v := 4) hx hb dX7_nameByte_15 (by decide) ?_
    refine lv_irem hx hb dX7_nameByte_16 (by decide) ?_
    refine lv_imul hx hb dX7_nameByte_17 ?_
    refine lv_isub hx hb dX7_nameByte_18 ?_
    refine lv_iushr (v := jush a1 (24 - (8 * (jrem a2 4)))) hx hb dX7_nameByte_19 rfl ?_
    refine lv_sipush (v := 255) hx hb dX7_nameByte_20 (by decide) ?_
    refine lv_iand hx hb dX7_nameByte_23 ?_
    exact x_iret hx hb hr hlocks rfl hP hS h dX7_nameByte_24
  · have h := x_f (show ¬ (4 ≤ a2) from c1) h
    refine lv_iload_n hx hb dX7_nameByte_5 rfl (lv_at hl 0 rfl) ?_
    refine lv_goto (tgt := 10) hx hb dX7_nameByte_6 (by decide) ?_
    refine lv_bipush (v := 24) hx hb dX7_nameByte_10 (by decide) ?_
    refine lv_bipush (v := 8) hx hb dX7_nameByte_12 (by decide) ?_
    refine lv_iload_n hx hb dX7_nameByte_14 rfl (lv_at hl 2 rfl) ?_
    refine lv_iconst (v := 4) hx hb dX7_nameByte_15 (by decide) ?_
    refine lv_irem hx hb dX7_nameByte_16 (by decide) ?_
    refine lv_imul hx hb dX7_nameByte_17 ?_
    refine lv_isub hx hb dX7_nameByte_18 ?_
    refine lv_iushr (v := jush a0 (24 - (8 * (jrem a2 4)))) hx hb dX7_nameByte_19 rfl ?_
    refine lv_sipush (v := 255) hx hb dX7_nameByte_20 (by decide) ?_
    refine lv_iand hx hb dX7_nameByte_23 ?_
    exact x_iret hx hb hr hlocks rfl hP hS h dX7_nameByte_24
abbrev rm_X7_hasName : Room := { frames := 1, cells := 0, slots := 0, locals := 22 }
set_option maxHeartbeats 4000000 in
set_option maxRecDepth 100000 in
theorem c_X7_hasName (l : Launch) (dd : Dd) (Y : Yc) (t : Ts3) (ad : Nat → Nat) (ij : Ij XG ad) (F : Nat) (u0 : Nat) (g_u0 : IArr XG u0) (a1 a2 a3 : Int32) (D0 D' : Mm) (r0 : Int32) (h : P_X7_hasName (gN XG) F u0 a1 a2 a3 D0 = some (r0, D')) : Met l yX7_hasName wzX7_hasName rm_X7_hasName (va_Pc [.ref (ad u0), .int a1, .int a2, .int a3] (Wd dd Y t XG ad D0)) (Qi dd Y XG ad .boolean r0 D') 0 0 (pA XG ad) := by
  refine Met.ofW (cc := cX7_hasName) (maxL := 5) (ret := (some .boolean)) (by decide) rfl ?_
  intro p e s m args below meth c s₁ B hml hv
  obtain ⟨rfl, hP, hK, hT⟩ := hv
  have hx := B.exec
  have hb := B.bytes
  have hr := B.returns
  have ht0 : ∀ w ∈ W0, w.before _ s = true := fun w h => atoms_spec (ws := wzX7_hasName) B.pre w (List.mem_cons_of_mem _ h)
  have hown : s.vm.findClass RX7 = some m.cls := findClass_of_methodNamed B.named
  have hlocks := B.notSynchronized
  have hS : va_S (pA XG ad) s.heap s.heap [] := va_S.rf
  have L3 : ∀ (n : Nat), ∀ (x1 x2 x3 x4 : Int32) (D : Mm) (H : Heap) (locs : List Loc) (ls : Array Slot), P_X7_hasName_3 (gN XG) F u0 n x1 x2 x3 x4 D = some (r0, D') → va_P dd vwCl (wW Y XG ad D) H → va_S (pA XG ad) s.heap H locs → lv_has ls 5 [(0, .ref (ad u0)), (1, .int x1), (2, .int x2), (3, .int x3), (4, .int x4)] → W p l e (headSpec wzX7_hasName rm_X7_hasName).room s m ([.ref (ad u0), .int a1, .int a2, .int a3].toArray) below meth c H locs 0 0 (MQ below (Qi dd Y XG ad .boolean r0 D') ([.ref (ad u0), .int a1, .int a2, .int a3].toArray) s 0 0 (pA XG ad)) (F0 m 3 ls []) := by
    intro n
    induction n with
    | zero =>
      intro x1 x2 x3 x4 D H locs ls h hP hS hl
      cases h
    | succ n ih =>
      intro x1 x2 x3 x4 D H locs ls h hP hS hl
      have h : ((if 8 ≤ x4 then (some (1, D)) else (if inB (x1 + x4) ((gN XG) u0) = true then (bi (P_X7_nameByte (gN XG) F x2 x3 x4 D) (fun r3 D3 => if (D u0 (Int32.toNatClampNeg (x1 + x4))) = r3 then (P_X7_hasName_3 (gN XG) F u0 n x1 x2 x3 (x4 + 1) D3) else (some (0, D3)))) else none)) : Rs) = some (r0, D') := h
      refine lv_iload hx hb dX7_hasName_3 (lv_at hl 4 rfl) ?_
      refine lv_bipush (v := 8) hx hb dX7_hasName_5 (by decide) ?_
      refine lv_icmp_ge (tgt := 34) hx hb dX7_hasName_7 (by decide) (fun c1 => ?_) (fun c1 => ?_)
      · have h := x_t (show 8 ≤ x4 from c1) h
        refine lv_iconst (v := 1) hx hb dX7_hasName_34 (by decide) ?_
        exact x_iret hx hb hr hlocks rfl hP hS h dX7_hasName_35
      · have h := x_f (show ¬ (8 ≤ x4) from c1) h
        refine lv_aload_n hx hb dX7_hasName_10 rfl (lv_at hl 0 rfl) ?_
        refine lv_iload_n hx hb dX7_hasName_11 rfl (lv_at hl 1 rfl) ?_
        refine lv_iload hx hb dX7_hasName_12 (lv_at hl 4 rfl) ?_
        refine lv_iadd hx hb dX7_hasName_14 ?_
        obtain ⟨b2, h⟩ := x_if h
        refine x_ald hx hb hK hP g_u0 b2 dX7_hasName_15 ?_
        refine lv_iload_n hx hb dX7_hasName_16 rfl (lv_at hl 2 rfl) ?_
        refine lv_iload_n hx hb dX7_hasName_17 rfl (lv_at hl 3 rfl) ?_
        refine lv_iload hx hb dX7_hasName_18 (lv_at hl 4 rfl) ?_
        obtain ⟨r3, D3, hc3, h⟩ := bi_some h
        refine x_callSi (As := [.int x2, .int x3, .int x4]) ⟨hx, hb, hml, hown, ht0⟩ hK hT hP hS (c_X7_nameByte l dd Y t ad ij F x2 x3 x4 _ _ _ hc3) m_ML_X7_272 ss_X7_nameByte hd_X7_nameByte rfl rfl ⟨Nat.le_of_ble_eq_true rfl, Nat.le_of_ble_eq_true rfl⟩ rfl hl.1 rfl (Nat.le_of_ble_eq_true rfl) dX7_hasName_20 ⟨Nat.zero_le _, Nat.zero_le _⟩ (fun H locs hn_r3 hP hS => ?_)
        refine lv_icmp_eq (tgt := 28) hx hb dX7_hasName_23 (by decide) (fun c4 => ?_) (fun c4 => ?_)
        · have h := x_t (show (D u0 (Int32.toNatClampNeg (x1 + x4))) = r3 from c4) h
          refine lv_iinc (v := x4 + 1) (lv' := [(4, .int (x4 + 1)), (0, .ref (ad u0)), (1, .int x1), (2, .int x2), (3, .int x3)]) hx hb dX7_hasName_28 hl (k := 4) rfl rfl (by decide) rfl (fun ls hl => ?_)
          refine lv_goto (tgt := 3) hx hb dX7_hasName_31 (by decide) ?_
          exact ih x1 x2 x3 (x4 + 1) D3 _ _ _ h hP hS (lv_sub hl [1, 2, 3, 4, 0] rfl)
        · have h := x_f (show ¬ ((D u0 (Int32.toNatClampNeg (x1 + x4))) = r3) from c4) h
          refine lv_iconst (v := 0) hx hb dX7_hasName_26 (by decide) ?_
          exact x_iret hx hb hr hlocks rfl hP hS h dX7_hasName_27
  have hl := lv_entry ([.ref (ad u0), .int a1, .int a2, .int a3]) (n := 5) (Nat.le_of_ble_eq_true rfl)
  rw [lg_entry_eq]
  generalize (lg_sl ([.ref (ad u0), .int a1, .int a2, .int a3]) ++ List.replicate (5 - (lg_sl ([.ref (ad u0), .int a1, .int a2, .int a3])).length) Slot.unset).toArray = ls at hl ⊢
  have hl : lv_has ls 5 [(0, .ref (ad u0)), (1, .int a1), (2, .int a2), (3, .int a3)] := hl
  have hP : va_P dd vwCl (wW Y XG ad D0) s.heap := hP
  generalize D0 = D at h hP
  have h : ((P_X7_hasName_3 (gN XG) F u0 F a1 a2 a3 0 D) : Rs) = some (r0, D') := h
  refine lv_iconst (v := 0) hx hb dX7_hasName_0 (by decide) ?_
  refine lv_istore (lv' := [(4, .int 0), (0, .ref (ad u0)), (1, .int a1), (2, .int a2), (3, .int a3)]) hx hb dX7_hasName_1 hl (by decide) rfl (fun ls hl => ?_)
  exact L3 F a1 a2 a3 0 D _ _ _ h hP hS (lv_sub hl [1, 2, 3, 4, 0] rfl)
abbrev rm_X3_findEntry : Room := { frames := 2, cells := 0, slots := 0, locals := 47 }
set_option maxHeartbeats 4000000 in
set_option maxRecDepth 100000 in
theorem c_X3_findEntry (l : Launch) (dd : Dd) (Y : Yc) (t : Ts3) (ad : Nat → Nat) (ij : Ij XG ad) (F : Nat) (a1 a2 : Int32) (D0 D' : Mm) (r0 : Int32) (h : P_X3_findEntry (gN XG) F a1 a2 D0 = some (r0, D')) : Met l yX3_findEntry wzX3_findEntry rm_X3_findEntry (va_Pc [.ref (ad 58), .int a1, .int a2] (Wd dd Y t XG ad D0)) (Qi dd Y XG ad .boolean r0 D') 0 0 (pA XG ad) := by
  refine Met.ofW (cc := cX3_findEntry) (maxL := 4) (ret := (some .boolean)) (by decide) rfl ?_
  intro p e s m args below meth c s₁ B hml hv
  obtain ⟨rfl, hP, hK, hT⟩ := hv
  have hx := B.exec
  have hb := B.bytes
  have hr := B.returns
  have ht0 : ∀ w ∈ W0, w.before _ s = true := fun w h => atoms_spec (ws := wzX3_findEntry) B.pre w (List.mem_cons_of_mem _ h)
  have hown : s.vm.findClass RX3 = some m.cls := findClass_of_methodNamed B.named
  have hlocks := B.notSynchronized
  have hS : va_S (pA XG ad) s.heap s.heap [] := va_S.rf
  have L2 : ∀ (n : Nat), ∀ (x1 x2 x3 : Int32) (D : Mm) (H : Heap) (locs : List Loc) (ls : Array Slot), P_X3_findEntry_2 (gN XG) F n x1 x2 x3 D = some (r0, D') → va_P dd vwCl (wW Y XG ad D) H → va_S (pA XG ad) s.heap H locs → lv_has ls 4 [(0, .ref (ad 58)), (1, .int x1), (2, .int x2), (3, .int x3)] → W p l e (headSpec wzX3_findEntry rm_X3_findEntry).room s m ([.ref (ad 58), .int a1, .int a2].toArray) below meth c H locs 0 0 (MQ below (Qi dd Y XG ad .boolean r0 D') ([.ref (ad 58), .int a1, .int a2].toArray) s 0 0 (pA XG ad)) (F0 m 2 ls []) := by
    intro n
    induction n with
    | zero =>
      intro x1 x2 x3 D H locs ls h hP hS hl
      cases h
    | succ n ih =>
      intro x1 x2 x3 D H locs ls h hP hS hl
      have h : ((if 62 ≤ x3 then (some (0, D)) else (if inB x3 ((gN XG) 59) = true then (if (D 59 (Int32.toNatClampNeg x3)) = 0 then (bi (P_X3_keepRoom (gN XG) F x3 D) (fun r6 D6 => P_X3_findEntry_2 (gN XG) F n x1 x2 (x3 + 12) D6)) else (bi (P_X7_hasName (gN XG) F 59 (x3 + 4) x1 x2 D) (fun r4 D4 => if r4 = 0 then (P_X3_findEntry_2 (gN XG) F n x1 x2 (x3 + 12) D4) else (some (1, up2 D4 58 6 x3))))) else none)) : Rs) = some (r0, D') := h
      refine lv_iload_n hx hb dX3_findEntry_2 rfl (lv_at hl 3 rfl) ?_
      refine lv_bipush (v := 62) hx hb dX3_findEntry_3 (by decide) ?_
      refine lv_icmp_ge (tgt := 53) hx hb dX3_findEntry_5 (by decide) (fun c1 => ?_) (fun c1 => ?_)
      · have h := x_t (show 62 ≤ x3 from c1) h
        refine lv_iconst (v := 0) hx hb dX3_findEntry_53 (by decide) ?_
        exact x_iret hx hb hr hlocks rfl hP hS h dX3_findEntry_54
      · have h := x_f (show ¬ (62 ≤ x3) from c1) h
        refine lv_aload_n hx hb dX3_findEntry_8 rfl (lv_at hl 0 rfl) ?_
        refine x_get hx hb ht0 u_X3 hown hK hP (xk_58).1 (ce3 (xk_58).2) rfl 2 (by decide) (ht0 _ m_FL_X3_9) rfl (rfv (G := XG) (c := 58) (k := 2) (c' := 59) rfl) dX3_findEntry_9 ?_
        refine lv_iload_n hx hb dX3_findEntry_12 rfl (lv_at hl 3 rfl) ?_
        obtain ⟨b2, h⟩ := x_if h
        refine x_ald hx hb hK hP xk_59 b2 dX3_findEntry_13 ?_
        refine lv_if_ne (tgt := 25) hx hb dX3_findEntry_14 (by decide) (fun c3 => ?_) (fun c3 => ?_)
        · have h := x_f (show ¬ ((D 59 (Int32.toNatClampNeg x3)) = 0) from c3) h
          refine lv_aload_n hx hb dX3_findEntry_25 rfl (lv_at hl 0 rfl) ?_
          refine x_get hx hb ht0 u_X3 hown hK hP (xk_58).1 (ce3 (xk_58).2) rfl 2 (by decide) (ht0 _ m_FL_X3_9) rfl (rfv (G := XG) (c := 58) (k := 2) (c' := 59) rfl) dX3_findEntry_26 ?_
          refine lv_iload_n hx hb dX3_findEntry_29 rfl (lv_at hl 3 rfl) ?_
          refine lv_iconst (v := 4) hx hb dX3_findEntry_30 (by decide) ?_
          refine lv_iadd hx hb dX3_findEntry_31 ?_
          refine lv_iload_n hx hb dX3_findEntry_32 rfl (lv_at hl 1 rfl) ?_
          refine lv_iload_n hx hb dX3_findEntry_33 rfl (lv_at hl 2 rfl) ?_
          obtain ⟨r4, D4, hc4, h⟩ := bi_some h
          refine x_callNi (As := [.ref (ad 59), .int (x3 + 4), .int x1, .int x2]) ⟨hx, hb, hml, hown, ht0⟩ hK hT hP hS (c_X7_hasName l dd Y t ad ij F 59 xk_59 (x3 + 4) x1 x2 _ _ _ hc4) hT.2.2.2.2.2.2.2.2.2.2.2.2.2.2.1 ss_X7_hasName hd_X7_hasName rfl rfl ⟨Nat.le_of_ble_eq_true rfl, Nat.le_of_ble_eq_true rfl⟩ rfl hl.1 rfl (Nat.le_of_ble_eq_true rfl) dX3_findEntry_34 ⟨Nat.zero_le _, Nat.zero_le _⟩ (fun H locs hn_r4 hP hS => ?_)
          refine lv_if_eq (tgt := 47) hx hb dX3_findEntry_37 (by decide) (fun c5 => ?_) (fun c5 => ?_)
          · have h := x_t (show r4 = 0 from c5) h
            refine lv_iinc (v := x3 + 12) (lv' := [(3, .int (x3 + 12)), (0, .ref (ad 58)), (1, .int x1), (2, .int x2)]) hx hb dX3_findEntry_47 hl (k := 3) rfl rfl (by decide) rfl (fun ls hl => ?_)
            refine lv_goto (tgt := 2) hx hb dX3_findEntry_50 (by decide) ?_
            exact ih x1 x2 (x3 + 12) D4 _ _ _ h hP hS (lv_sub hl [1, 2, 3, 0] rfl)
          · have h := x_f (show ¬ (r4 = 0) from c5) h
            refine lv_aload_n hx hb dX3_findEntry_40 rfl (lv_at hl 0 rfl) ?_
            refine lv_iload_n hx hb dX3_findEntry_41 rfl (lv_at hl 3 rfl) ?_
            refine x_put (ty := .int) hx hb ht0 u_X3 tyX3 tyX3_ok nmX3 hown hK ij hP hS (xk_58).1 (ce3 (xk_58).2) rfl 6 (by decide) (ht0 _ m_FL_X3_26) rfl rfl (by decide +kernel) rfl rfl (Nat.le_of_ble_eq_true rfl) (by rw [(xk_58).2]; rfl) dX3_findEntry_42 (fun H locs hP hS => ?_)
            refine lv_iconst (v := 1) hx hb dX3_findEntry_45 (by decide) ?_
            exact x_iret hx hb hr hlocks rfl hP hS h dX3_findEntry_46
        · have h := x_t (show (D 59 (Int32.toNatClampNeg x3)) = 0 from c3) h
          refine lv_aload_n hx hb dX3_findEntry_17 rfl (lv_at hl 0 rfl) ?_
          refine lv_iload_n hx hb dX3_findEntry_18 rfl (lv_at hl 3 rfl) ?_
          obtain ⟨r6, D6, hc6, h⟩ := bi_some h
          refine x_callVv (As := [.int x3]) ⟨hx, hb, hml, hown, ht0⟩ hK hT hP hS (c_X3_keepRoom l dd Y t ad ij F x3 _ _ _ hc6) m_ML_X3_62 sv_X3_keepRoom hd_X3_keepRoom rfl rfl ⟨Nat.le_of_ble_eq_true rfl, Nat.le_of_ble_eq_true rfl⟩ (xk_58).1 (ce3 (xk_58).2) rfl rfl hl.1 rfl (Nat.le_of_ble_eq_true rfl) dX3_findEntry_19 ⟨Nat.zero_le _, Nat.zero_le _⟩ (fun H locs hP hS => ?_)
          refine lv_goto (tgt := 47) hx hb dX3_findEntry_22 (by decide) ?_
          refine lv_iinc (v := x3 + 12) (lv' := [(3, .int (x3 + 12)), (0, .ref (ad 58)), (1, .int x1), (2, .int x2)]) hx hb dX3_findEntry_47 hl (k := 3) rfl rfl (by decide) rfl (fun ls hl => ?_)
          refine lv_goto (tgt := 2) hx hb dX3_findEntry_50 (by decide) ?_
          exact ih x1 x2 (x3 + 12) D6 _ _ _ h hP hS (lv_sub hl [1, 2, 3, 0] rfl)
  have hl := lv_entry ([.ref (ad 58), .int a1, .int a2]) (n := 4) (Nat.le_of_ble_eq_true rfl)
  rw [lg_entry_eq]
  generalize (lg_sl ([.ref (ad 58), .int a1, .int a2]) ++ List.replicate (4 - (lg_sl ([.ref (ad 58), .int a1, .int a2])).length) Slot.unset).toArray = ls at hl ⊢
  have hl : lv_has ls 4 [(0, .ref (ad 58)), (1, .int a1), (2, .int a2)] := hl
  have hP : va_P dd vwCl (wW Y XG ad D0) s.heap := hP
  generalize D0 = D at h hP
  have h : ((P_X3_findEntry_2 (gN XG) F F a1 a2 2 D) : Rs) = some (r0, D') := h
  refine lv_iconst (v := 2) hx hb dX3_findEntry_0 (by decide) ?_
  refine lv_istore_n (lv' := [(3, .int 2), (0, .ref (ad 58)), (1, .int a1), (2, .int a2)]) hx hb dX3_findEntry_1 rfl hl (by decide) rfl (fun ls hl => ?_)
  exact L2 F a1 a2 2 D _ _ _ h hP hS (lv_sub hl [1, 2, 3, 0] rfl)
abbrev rm_X3_addEntries : Room := { frames := 2, cells := 0, slots := 0, locals := 45 }
set_option maxHeartbeats 4000000 in
set_option maxRecDepth 100000 in
theorem c_X3_addEntries (l : Launch) (dd : Dd) (Y : Yc) (t : Ts3) (ad : Nat → Nat) (ij : Ij XG ad) (F : Nat) (D0 D' : Mm) (r0 : Int32) (h : P_X3_addEntries (gN XG) F D0 = some (r0, D')) : Met l yX3_addEntries wzX3_addEntries rm_X3_addEntries (va_Pc [.ref (ad 58), .ref (ad 67)] (Wd dd Y t XG ad D0)) (Qv dd Y XG ad D') 0 0 (pA XG ad) := by
  refine Met.ofW (cc := cX3_addEntries) (maxL := 3) (ret := none) (by decide) rfl ?_
  intro p e s m args below meth c s₁ B hml hv
  obtain ⟨rfl, hP, hK, hT⟩ := hv
  have hx := B.exec
  have hb := B.bytes
  have hr := B.returns
  have ht0 : ∀ w ∈ W0, w.before _ s = true := fun w h => atoms_spec (ws := wzX3_addEntries) B.pre w (List.mem_cons_of_mem _ h)
  have hown : s.vm.findClass RX3 = some m.cls := findClass_of_methodNamed B.named
  have hlocks := B.notSynchronized
  have hS : va_S (pA XG ad) s.heap s.heap [] := va_S.rf
  have L2 : ∀ (n : Nat), ∀ (x2 : Int32) (D : Mm) (H : Heap) (locs : List Loc) (ls : Array Slot), P_X3_addEntries_2 (gN XG) F n x2 D = some (r0, D') → va_P dd vwCl (wW Y XG ad D) H → va_S (pA XG ad) s.heap H locs → lv_has ls 3 [(0, .ref (ad 58)), (1, .ref (ad 67)), (2, .int x2)] → W p l e (headSpec wzX3_addEntries rm_X3_addEntries).room s m ([.ref (ad 58), .ref (ad 67)].toArray) below meth c H locs 0 0 (MQ below (Qv dd Y XG ad D') ([.ref (ad 58), .ref (ad 67)].toArray) s 0 0 (pA XG ad)) (F0 m 2 ls []) := by
    intro n
    induction n with
    | zero =>
      intro x2 D H locs ls h hP hS hl
      cases h
    | succ n ih =>
      intro x2 D H locs ls h hP hS hl
      have h : ((if 62 ≤ x2 then (some (0, D)) else (if inB x2 ((gN XG) 59) = true then (if (D 59 (Int32.toNatClampNeg x2)) = 0 then (P_X3_addEntries_2 (gN XG) F n (x2 + 12) D) else (if inB x2 ((gN XG) 59) = true then (bi (P_X1_add (gN XG) F 67 (D 59 (Int32.toNatClampNeg x2)) D) (fun r5 D5 => if inB (x2 + 3) ((gN XG) 59) = true then (bi (P_X1_add (gN XG) F 67 (D5 59 (Int32.toNatClampNeg (x2 + 3))) D5) (fun r7 D7 => bi (P_X1_addRow (gN XG) F 67 59 (x2 + 4) 8 D7) (fun r8 D8 => P_X3_addEntries_2 (gN XG) F n (x2 + 12) D8))) else none)) else none)) else none)) : Rs) = some (r0, D') := h
      refine lv_iload_n hx hb dX3_addEntries_2 rfl (lv_at hl 2 rfl) ?_
      refine lv_bipush (v := 62) hx hb dX3_addEntries_3 (by decide) ?_
      refine lv_icmp_ge (tgt := 58) hx hb dX3_addEntries_5 (by decide) (fun c1 => ?_) (fun c1 => ?_)
      · have h := x_t (show 62 ≤ x2 from c1) h
        exact x_vret hx hb hr hlocks hP hS h dX3_addEntries_58
      · have h := x_f (show ¬ (62 ≤ x2) from c1) h
        refine lv_aload_n hx hb dX3_addEntries_8 rfl (lv_at hl 0 rfl) ?_
        refine x_get hx hb ht0 u_X3 hown hK hP (xk_58).1 (ce3 (xk_58).2) rfl 2 (by decide) (ht0 _ m_FL_X3_9) rfl (rfv (G := XG) (c := 58) (k := 2) (c' := 59) rfl) dX3_addEntries_9 ?_
        refine lv_iload_n hx hb dX3_addEntries_12 rfl (lv_at hl 2 rfl) ?_
        obtain ⟨b2, h⟩ := x_if h
        refine x_ald hx hb hK hP xk_59 b2 dX3_addEntries_13 ?_
        refine lv_if_eq (tgt := 52) hx hb dX3_addEntries_14 (by decide) (fun c3 => ?_) (fun c3 => ?_)
        · have h := x_t (show (D 59 (Int32.toNatClampNeg x2)) = 0 from c3) h
          refine lv_iinc (v := x2 + 12) (lv' := [(2, .int (x2 + 12)), (0, .ref (ad 58)), (1, .ref (ad 67))]) hx hb dX3_addEntries_52 hl (k := 2) rfl rfl (by decide) rfl (fun ls hl => ?_)
          refine lv_goto (tgt := 2) hx hb dX3_addEntries_55 (by decide) ?_
          exact ih (x2 + 12) D _ _ _ h hP hS (lv_sub hl [1, 2, 0] rfl)
        · have h := x_f (show ¬ ((D 59 (Int32.toNatClampNeg x2)) = 0) from c3) h
          refine lv_aload_n hx hb dX3_addEntries_17 rfl (lv_at hl 1 rfl) ?_
          refine lv_aload_n hx hb dX3_addEntries_18 rfl (lv_at hl 0 rfl) ?_
          refine x_get hx hb ht0 u_X3 hown hK hP (xk_58).1 (ce3 (xk_58).2) rfl 2 (by decide) (ht0 _ m_FL_X3_9) rfl (rfv (G := XG) (c := 58) (k := 2) (c' := 59) rfl) dX3_addEntries_19 ?_
          refine lv_iload_n hx hb dX3_addEntries_22 rfl (lv_at hl 2 rfl) ?_
          obtain ⟨b4, h⟩ := x_if h
          refine x_ald hx hb hK hP xk_59 b4 dX3_addEntries_23 ?_
          obtain ⟨r5, D5, hc5, h⟩ := bi_some h
          refine x_callVv (As := [.int (D 59 (Int32.toNatClampNeg x2))]) ⟨hx, hb, hml, hown, ht0⟩ hK hT hP hS (c_X1_add l dd Y t XG ad ij F 67 xb_67 (D 59 (Int32.toNatClampNeg x2)) _ _ _ hc5) m_ML_X3_82 sv_X1_add hd_X1_add rfl rfl ⟨Nat.le_of_ble_eq_true rfl, Nat.le_of_ble_eq_true rfl⟩ (xk_67).1 (ce1 (xk_67).2) rfl rfl hl.1 rfl (Nat.le_of_ble_eq_true rfl) dX3_addEntries_24 ⟨Nat.zero_le _, Nat.zero_le _⟩ (fun H locs hP hS => ?_)
          refine lv_aload_n hx hb dX3_addEntries_27 rfl (lv_at hl 1 rfl) ?_
          refine lv_aload_n hx hb dX3_addEntries_28 rfl (lv_at hl 0 rfl) ?_
          refine x_get hx hb ht0 u_X3 hown hK hP (xk_58).1 (ce3 (xk_58).2) rfl 2 (by decide) (ht0 _ m_FL_X3_9) rfl (rfv (G := XG) (c := 58) (k := 2) (c' := 59) rfl) dX3_addEntries_29 ?_
          refine lv_iload_n hx hb dX3_addEntries_32 rfl (lv_at hl 2 rfl) ?_
          refine lv_iconst (v := 3) hx hb dX3_addEntries_33 (by decide) ?_
          refine lv_iadd hx hb dX3_addEntries_34 ?_
          obtain ⟨b6, h⟩ := x_if h
          refine x_ald hx hb hK hP xk_59 b6 dX3_addEntries_35 ?_
          obtain ⟨r7, D7, hc7, h⟩ := bi_some h
          refine x_callVv (As := [.int (D5 59 (Int32.toNatClampNeg (x2 + 3)))]) ⟨hx, hb, hml, hown, ht0⟩ hK hT hP hS (c_X1_add l dd Y t XG ad ij F 67 xb_67 (D5 59 (Int32.toNatClampNeg (x2 + 3))) _ _ _ hc7) m_ML_X3_82 sv_X1_add hd_X1_add rfl rfl ⟨Nat.le_of_ble_eq_true rfl, Nat.le_of_ble_eq_true rfl⟩ (xk_67).1 (ce1 (xk_67).2) rfl rfl hl.1 rfl (Nat.le_of_ble_eq_true rfl) dX3_addEntries_36 ⟨Nat.zero_le _, Nat.zero_le _⟩ (fun H locs hP hS => ?_)
          refine lv_aload_n hx hb dX3_addEntries_39 rfl (lv_at hl 1 rfl) ?_
          refine lv_aload_n hx hb dX3_addEntries_40 rfl (lv_at hl 0 rfl) ?_
          refine x_get hx hb ht0 u_X3 hown hK hP (xk_58).1 (ce3 (xk_58).2) rfl 2 (by decide) (ht0 _ m_FL_X3_9) rfl (rfv (G := XG) (c := 58) (k := 2) (c' := 59) rfl) dX3_addEntries_41 ?_
          refine lv_iload_n hx hb dX3_addEntries_44 rfl (lv_at hl 2 rfl) ?_
          refine lv_iconst (v := 4) hx hb dX3_addEntries_45 (by decide) ?_
          refine lv_iadd hx hb dX3_addEntries_46 ?_
          refine lv_bipush (v := 8) hx hb dX3_addEntries_47 (by decide) ?_
          obtain ⟨r8, D8, hc8, h⟩ := bi_some h
          refine x_callVv (As := [.ref (ad 59), .int (x2 + 4), .int 8]) ⟨hx, hb, hml, hown, ht0⟩ hK hT hP hS (c_X1_addRow l dd Y t XG ad ij F 67 59 xb_67 xk_59 (x2 + 4) 8 _ _ _ hc8) m_ML_X3_87 sv_X1_addRow hd_X1_addRow rfl rfl ⟨Nat.le_of_ble_eq_true rfl, Nat.le_of_ble_eq_true rfl⟩ (xk_67).1 (ce1 (xk_67).2) rfl rfl hl.1 rfl (Nat.le_of_ble_eq_true rfl) dX3_addEntries_49 ⟨Nat.zero_le _, Nat.zero_le _⟩ (fun H locs hP hS => ?_)
          refine lv_iinc (v := x2 + 12) (lv' := [(2, .int (x2 + 12)), (0, .ref (ad 58)), (1, .ref (ad 67))]) hx hb dX3_addEntries_52 hl (k := 2) rfl rfl (by decide) rfl (fun ls hl => ?_)
          refine lv_goto (tgt := 2) hx hb dX3_addEntries_55 (by decide) ?_
          exact ih (x2 + 12) D8 _ _ _ h hP hS (lv_sub hl [1, 2, 0] rfl)
  have hl := lv_entry ([.ref (ad 58), .ref (ad 67)]) (n := 3) (Nat.le_of_ble_eq_true rfl)
  rw [lg_entry_eq]
  generalize (lg_sl ([.ref (ad 58), .ref (ad 67)]) ++ List.replicate (3 - (lg_sl ([.ref (ad 58), .ref (ad 67)])).length) Slot.unset).toArray = ls at hl ⊢
  have hl : lv_has ls 3 [(0, .ref (ad 58)), (1, .ref (ad 67))] := hl
  have hP : va_P dd vwCl (wW Y XG ad D0) s.heap := hP
  generalize D0 = D at h hP
  have h : ((P_X3_addEntries_2 (gN XG) F F 2 D) : Rs) = some (r0, D') := h
  refine lv_iconst (v := 2) hx hb dX3_addEntries_0 (by decide) ?_
  refine lv_istore_n (lv' := [(2, .int 2), (0, .ref (ad 58)), (1, .ref (ad 67))]) hx hb dX3_addEntries_1 rfl hl (by decide) rfl (fun ls hl => ?_)
  exact L2 F 2 D _ _ _ h hP hS (lv_sub hl [1, 2, 0] rfl)
abbrev rm_X4_leastFree : Room := { frames := 3, cells := 0, slots := 0, locals := 63 }
set_option maxHeartbeats 4000000 in
set_option maxRecDepth 100000 in
theorem c_X4_leastFree (l : Launch) (dd : Dd) (Y : Yc) (t : Ts3) (ad : Nat → Nat) (ij : Ij XG ad) (F : Nat) (a1 : Int32) (D0 D' : Mm) (r0 : Int32) (h : P_X4_leastFree (gN XG) F a1 D0 = some (r0, D')) : Met l yX4_leastFree wzX4_leastFree rm_X4_leastFree (va_Pc [.ref (ad 56), .int a1] (Wd dd Y t XG ad D0)) (Qi dd Y XG ad .int r0 D') 0 0 (pA XG ad) := by
  refine Met.ofW (cc := cX4_leastFree) (maxL := 4) (ret := (some .int)) (by decide) rfl ?_
  intro p e s m args below meth c s₁ B hml hv
  obtain ⟨rfl, hP, hK, hT⟩ := hv
  have hx := B.exec
  have hb := B.bytes
  have hr := B.returns
  have ht0 : ∀ w ∈ W0, w.before _ s = true := fun w h => atoms_spec (ws := wzX4_leastFree) B.pre w (List.mem_cons_of_mem _ h)
  have hown : s.vm.findClass RX4 = some m.cls := findClass_of_methodNamed B.named
  have hlocks := B.notSynchronized
  have hS : va_S (pA XG ad) s.heap s.heap [] := va_S.rf
  have L7 : ∀ (n : Nat), ∀ (x1 x2 x3 : Int32) (D : Mm) (H : Heap) (locs : List Loc) (ls : Array Slot), P_X4_leastFree_7 (gN XG) F n x1 x2 x3 D = some (r0, D') → va_P dd vwCl (wW Y XG ad D) H → va_S (pA XG ad) s.heap H locs → lv_has ls 4 [(0, .ref (ad 56)), (1, .int x1), (2, .int x2), (3, .int x3)] → W p l e (headSpec wzX4_leastFree rm_X4_leastFree).room s m ([.ref (ad 56), .int a1].toArray) below meth c H locs 0 0 (MQ below (Qi dd Y XG ad .int r0 D') ([.ref (ad 56), .int a1].toArray) s 0 0 (pA XG ad)) (F0 m 7 ls []) := by
    intro n
    induction n with
    | zero =>
      intro x1 x2 x3 D H locs ls h hP hS hl
      cases h
    | succ n ih =>
      intro x1 x2 x3 D H locs ls h hP hS hl
      have h : ((if x2 ≤ x3 then (some ((-1), D)) else (bi (P_X4_isFree (gN XG) F x1 x3 D) (fun r2 D2 => if r2 = 0 then (P_X4_leastFree_7 (gN XG) F n x1 x2 (x3 + 1) D2) else (some (x3, D2))))) : Rs) = some (r0, D') := h
      refine lv_iload_n hx hb dX4_leastFree_7 rfl (lv_at hl 3 rfl) ?_
      refine lv_iload_n hx hb dX4_leastFree_8 rfl (lv_at hl 2 rfl) ?_
      refine lv_icmp_ge (tgt := 29) hx hb dX4_leastFree_9 (by decide) (fun c1 => ?_) (fun c1 => ?_)
      · have h := x_t (show x2 ≤ x3 from c1) h
        refine lv_iconst (v := (-1)) hx hb dX4_leastFree_29 (by decide) ?_
        exact x_iret hx hb hr hlocks rfl hP hS h dX4_leastFree_30
      · have h := x_f (show ¬ (x2 ≤ x3) from c1) h
        refine lv_aload_n hx hb dX4_leastFree_12 rfl (lv_at hl 0 rfl) ?_
        refine lv_iload_n hx hb dX4_leastFree_13 rfl (lv_at hl 1 rfl) ?_
        refine lv_iload_n hx hb dX4_leastFree_14 rfl (lv_at hl 3 rfl) ?_
        obtain ⟨r2, D2, hc2, h⟩ := bi_some h
        refine x_callVi (As := [.int x1, .int x3]) ⟨hx, hb, hml, hown, ht0⟩ hK hT hP hS (c_X4_isFree l dd Y t ad ij F x1 x3 _ _ _ hc2) m_ML_X4_37 sv_X4_isFree hd_X4_isFree rfl rfl ⟨Nat.le_of_ble_eq_true rfl, Nat.le_of_ble_eq_true rfl⟩ (xk_56).1 (ce4 (xk_56).2) rfl rfl hl.1 rfl (Nat.le_of_ble_eq_true rfl) dX4_leastFree_15 ⟨Nat.zero_le _, Nat.zero_le _⟩ (fun H locs hn_r2 hP hS => ?_)
        refine lv_if_eq (tgt := 23) hx hb dX4_leastFree_18 (by decide) (fun c3 => ?_) (fun c3 => ?_)
        · have h := x_t (show r2 = 0 from c3) h
          refine lv_iinc (v := x3 + 1) (lv' := [(3, .int (x3 + 1)), (0, .ref (ad 56)), (1, .int x1), (2, .int x2)]) hx hb dX4_leastFree_23 hl (k := 3) rfl rfl (by decide) rfl (fun ls hl => ?_)
          refine lv_goto (tgt := 7) hx hb dX4_leastFree_26 (by decide) ?_
          exact ih x1 x2 (x3 + 1) D2 _ _ _ h hP hS (lv_sub hl [1, 2, 3, 0] rfl)
        · have h := x_f (show ¬ (r2 = 0) from c3) h
          refine lv_iload_n hx hb dX4_leastFree_21 rfl (lv_at hl 3 rfl) ?_
          exact x_iret hx hb hr hlocks rfl hP hS h dX4_leastFree_22
  have hl := lv_entry ([.ref (ad 56), .int a1]) (n := 4) (Nat.le_of_ble_eq_true rfl)
  rw [lg_entry_eq]
  generalize (lg_sl ([.ref (ad 56), .int a1]) ++ List.replicate (4 - (lg_sl ([.ref (ad 56), .int a1])).length) Slot.unset).toArray = ls at hl ⊢
  have hl : lv_has ls 4 [(0, .ref (ad 56)), (1, .int a1)] := hl
  have hP : va_P dd vwCl (wW Y XG ad D0) s.heap := hP
  generalize D0 = D at h hP
  have h : ((bi (P_X0_sectorsOf (gN XG) F a1 D) (fun r4 D4 => P_X4_leastFree_7 (gN XG) F F a1 r4 0 D4)) : Rs) = some (r0, D') := h
  refine lv_iload_n hx hb dX4_leastFree_0 rfl (lv_at hl 1 rfl) ?_
  obtain ⟨r4, D4, hc4, h⟩ := bi_some h
  refine x_callSi (As := [.int a1]) ⟨hx, hb, hml, hown, ht0⟩ hK hT hP hS (c_X0_sectorsOf l dd Y t ad ij F a1 _ _ _ hc4) m_ML_X4_19 ss_X0_sectorsOf hd_X0_sectorsOf rfl rfl ⟨Nat.le_of_ble_eq_true rfl, Nat.le_of_ble_eq_true rfl⟩ rfl hl.1 rfl (Nat.le_of_ble_eq_true rfl) dX4_leastFree_1 ⟨Nat.zero_le _, Nat.zero_le _⟩ (fun H locs hn_r4 hP hS => ?_)
  refine lv_istore_n (lv' := [(2, .int r4), (0, .ref (ad 56)), (1, .int a1)]) hx hb dX4_leastFree_4 rfl hl (by decide) rfl (fun ls hl => ?_)
  refine lv_iconst (v := 0) hx hb dX4_leastFree_5 (by decide) ?_
  refine lv_istore_n (lv' := [(3, .int 0), (2, .int r4), (0, .ref (ad 56)), (1, .int a1)]) hx hb dX4_leastFree_6 rfl hl (by decide) rfl (fun ls hl => ?_)
  exact L7 F a1 r4 0 D4 _ _ _ h hP hS (lv_sub hl [2, 3, 1, 0] rfl)
abbrev rm_X7_clearRow : Room := { frames := 0, cells := 0, slots := 0, locals := 0 }
set_option maxHeartbeats 4000000 in
set_option maxRecDepth 100000 in
theorem c_X7_clearRow (l : Launch) (dd : Dd) (Y : Yc) (t : Ts3) (ad : Nat → Nat) (ij : Ij XG ad) (F : Nat) (u0 : Nat) (g_u0 : IArr XG u0) (a1 a2 : Int32) (D0 D' : Mm) (r0 : Int32) (h : P_X7_clearRow (gN XG) F u0 a1 a2 D0 = some (r0, D')) : Met l yX7_clearRow wzX7_clearRow rm_X7_clearRow (va_Pc [.ref (ad u0), .int a1, .int a2] (Wd dd Y t XG ad D0)) (Qv dd Y XG ad D') 0 0 (pA XG ad) := by
  refine Met.ofW (cc := cX7_clearRow) (maxL := 4) (ret := none) (by decide) rfl ?_
  intro p e s m args below meth c s₁ B hml hv
  obtain ⟨rfl, hP, hK, hT⟩ := hv
  have hx := B.exec
  have hb := B.bytes
  have hr := B.returns
  have ht0 : ∀ w ∈ W0, w.before _ s = true := fun w h => atoms_spec (ws := wzX7_clearRow) B.pre w (List.mem_cons_of_mem _ h)
  have hown : s.vm.findClass RX7 = some m.cls := findClass_of_methodNamed B.named
  have hlocks := B.notSynchronized
  have hS : va_S (pA XG ad) s.heap s.heap [] := va_S.rf
  have L2 : ∀ (n : Nat), ∀ (x1 x2 x3 : Int32) (D : Mm) (H : Heap) (locs : List Loc) (ls : Array Slot), P_X7_clearRow_2 (gN XG) F u0 n x1 x2 x3 D = some (r0, D') → va_P dd vwCl (wW Y XG ad D) H → va_S (pA XG ad) s.heap H locs → lv_has ls 4 [(0, .ref (ad u0)), (1, .int x1), (2, .int x2), (3, .int x3)] → W p l e (headSpec wzX7_clearRow rm_X7_clearRow).room s m ([.ref (ad u0), .int a1, .int a2].toArray) below meth c H locs 0 0 (MQ below (Qv dd Y XG ad D') ([.ref (ad u0), .int a1, .int a2].toArray) s 0 0 (pA XG ad)) (F0 m 2 ls []) := by
    intro n
    induction n with
    | zero =>
      intro x1 x2 x3 D H locs ls h hP hS hl
      cases h
    | succ n ih =>
      intro x1 x2 x3 D H locs ls h hP hS hl
      have h : ((if (x1 + x2) ≤ x3 then (some (0, D)) else (if (nI ((gN XG) u0)) ≤ x3 then (some (0, D)) else (if inB x3 ((gN XG) u0) = true then (P_X7_clearRow_2 (gN XG) F u0 n x1 x2 (x3 + 1) (up2 D u0 (Int32.toNatClampNeg x3) 0)) else none))) : Rs) = some (r0, D') := h
      refine lv_iload_n hx hb dX7_clearRow_2 rfl (lv_at hl 3 rfl) ?_
      refine lv_iload_n hx hb dX7_clearRow_3 rfl (lv_at hl 1 rfl) ?_
      refine lv_iload_n hx hb dX7_clearRow_4 rfl (lv_at hl 2 rfl) ?_
      refine lv_iadd hx hb dX7_clearRow_5 ?_
      refine lv_icmp_ge (tgt := 25) hx hb dX7_clearRow_6 (by decide) (fun c1 => ?_) (fun c1 => ?_)
      · have h := x_t (show (x1 + x2) ≤ x3 from c1) h
        exact x_vret hx hb hr hlocks hP hS h dX7_clearRow_25
      · have h := x_f (show ¬ ((x1 + x2) ≤ x3) from c1) h
        refine lv_iload_n hx hb dX7_clearRow_9 rfl (lv_at hl 3 rfl) ?_
        refine lv_aload_n hx hb dX7_clearRow_10 rfl (lv_at hl 0 rfl) ?_
        refine x_len hx hb hK hP g_u0 dX7_clearRow_11 ?_
        refine lv_icmp_ge (tgt := 25) hx hb dX7_clearRow_12 (by decide) (fun c2 => ?_) (fun c2 => ?_)
        · have h := x_t (show (nI ((gN XG) u0)) ≤ x3 from c2) h
          exact x_vret hx hb hr hlocks hP hS h dX7_clearRow_25
        · have h := x_f (show ¬ ((nI ((gN XG) u0)) ≤ x3) from c2) h
          refine lv_aload_n hx hb dX7_clearRow_15 rfl (lv_at hl 0 rfl) ?_
          refine lv_iload_n hx hb dX7_clearRow_16 rfl (lv_at hl 3 rfl) ?_
          refine lv_iconst (v := 0) hx hb dX7_clearRow_17 (by decide) ?_
          obtain ⟨b3, h⟩ := x_if h
          refine x_ast hx hb hK ij hP hS g_u0 b3 dX7_clearRow_18 (fun H locs hP hS => ?_)
          refine lv_iinc (v := x3 + 1) (lv' := [(3, .int (x3 + 1)), (0, .ref (ad u0)), (1, .int x1), (2, .int x2)]) hx hb dX7_clearRow_19 hl (k := 3) rfl rfl (by decide) rfl (fun ls hl => ?_)
          refine lv_goto (tgt := 2) hx hb dX7_clearRow_22 (by decide) ?_
          exact ih x1 x2 (x3 + 1) (up2 D u0 (Int32.toNatClampNeg x3) 0) _ _ _ h hP hS (lv_sub hl [1, 2, 3, 0] rfl)
  have hl := lv_entry ([.ref (ad u0), .int a1, .int a2]) (n := 4) (Nat.le_of_ble_eq_true rfl)
  rw [lg_entry_eq]
  generalize (lg_sl ([.ref (ad u0), .int a1, .int a2]) ++ List.replicate (4 - (lg_sl ([.ref (ad u0), .int a1, .int a2])).length) Slot.unset).toArray = ls at hl ⊢
  have hl : lv_has ls 4 [(0, .ref (ad u0)), (1, .int a1), (2, .int a2)] := hl
  have hP : va_P dd vwCl (wW Y XG ad D0) s.heap := hP
  generalize D0 = D at h hP
  have h : ((P_X7_clearRow_2 (gN XG) F u0 F a1 a2 a1 D) : Rs) = some (r0, D') := h
  refine lv_iload_n hx hb dX7_clearRow_0 rfl (lv_at hl 1 rfl) ?_
  refine lv_istore_n (lv' := [(3, .int a1), (0, .ref (ad u0)), (1, .int a1), (2, .int a2)]) hx hb dX7_clearRow_1 rfl hl (by decide) rfl (fun ls hl => ?_)
  exact L2 F a1 a2 a1 D _ _ _ h hP hS (lv_sub hl [1, 2, 3, 0] rfl)
abbrev rm_X3_takeEntry : Room := { frames := 4, cells := 0, slots := 0, locals := 86 }
set_option maxHeartbeats 4000000 in
set_option maxRecDepth 100000 in
theorem c_X3_takeEntry (l : Launch) (dd : Dd) (Y : Yc) (t : Ts3) (ad : Nat → Nat) (ij : Ij XG ad) (F : Nat) (D0 D' : Mm) (r0 : Int32) (h : P_X3_takeEntry (gN XG) F D0 = some (r0, D')) : Met l yX3_takeEntry wzX3_takeEntry rm_X3_takeEntry (va_Pc [.ref (ad 58), .ref (ad 56)] (Wd dd Y t XG ad D0)) (Qi dd Y XG ad .boolean r0 D') 0 0 (pA XG ad) := by
  refine Met.ofW (cc := cX3_takeEntry) (maxL := 3) (ret := (some .boolean)) (by decide) rfl ?_
  intro p e s m args below meth c s₁ B hml hv
  obtain ⟨rfl, hP, hK, hT⟩ := hv
  have hx := B.exec
  have hb := B.bytes
  have hr := B.returns
  have ht0 : ∀ w ∈ W0, w.before _ s = true := fun w h => atoms_spec (ws := wzX3_takeEntry) B.pre w (List.mem_cons_of_mem _ h)
  have hown : s.vm.findClass RX3 = some m.cls := findClass_of_methodNamed B.named
  have hlocks := B.notSynchronized
  have hS : va_S (pA XG ad) s.heap s.heap [] := va_S.rf
  have hl := lv_entry ([.ref (ad 58), .ref (ad 56)]) (n := 3) (Nat.le_of_ble_eq_true rfl)
  rw [lg_entry_eq]
  generalize (lg_sl ([.ref (ad 58), .ref (ad 56)]) ++ List.replicate (3 - (lg_sl ([.ref (ad 58), .ref (ad 56)])).length) Slot.unset).toArray = ls at hl ⊢
  have hl : lv_has ls 3 [(0, .ref (ad 58)), (1, .ref (ad 56))] := hl
  have hP : va_P dd vwCl (wW Y XG ad D0) s.heap := hP
  generalize D0 = D at h hP
  have h : ((if (D 58 7) = (-1) then (bi (P_X4_leastFree (gN XG) F 9 D) (fun r2 D2 => if r2 = (-1) then (some (0, D2)) else (if (D2 58 5) < 7 then (bi (P_X4_setFree (gN XG) F 9 r2 0 D2) (fun r5 D5 => bi (P_X7_clearRow (gN XG) F 60 0 64 (up2 (up2 (up2 (up2 D5 58 11 1) 58 7 2) 58 9 9) 58 10 r2)) (fun r6 D6 => some (1, D6)))) else (some (0, D2))))) else (some (1, D))) : Rs) = some (r0, D') := h
  refine lv_aload_n hx hb dX3_takeEntry_0 rfl (lv_at hl 0 rfl) ?_
  refine x_get hx hb ht0 u_X3 hown hK hP (xk_58).1 (ce3 (xk_58).2) rfl 7 (by decide) (ht0 _ m_FL_X3_30) rfl rfl dX3_takeEntry_1 ?_
  refine lv_iconst (v := (-1)) hx hb dX3_takeEntry_4 (by decide) ?_
  refine lv_icmp_eq (tgt := 10) hx hb dX3_takeEntry_5 (by decide) (fun c1 => ?_) (fun c1 => ?_)
  · have h := x_t (show (D 58 7) = (-1) from c1) h
    refine lv_aload_n hx hb dX3_takeEntry_10 rfl (lv_at hl 1 rfl) ?_
    refine lv_bipush (v := 9) hx hb dX3_takeEntry_11 (by decide) ?_
    obtain ⟨r2, D2, hc2, h⟩ := bi_some h
    refine x_callVi (As := [.int 9]) ⟨hx, hb, hml, hown, ht0⟩ hK hT hP hS (c_X4_leastFree l dd Y t ad ij F 9 _ _ _ hc2) m_ML_X3_91 sv_X4_leastFree hd_X4_leastFree rfl rfl ⟨Nat.le_of_ble_eq_true rfl, Nat.le_of_ble_eq_true rfl⟩ (xk_56).1 (ce4 (xk_56).2) rfl rfl hl.1 rfl (Nat.le_of_ble_eq_true rfl) dX3_takeEntry_13 ⟨Nat.zero_le _, Nat.zero_le _⟩ (fun H locs hn_r2 hP hS => ?_)
    refine lv_istore_n (lv' := [(2, .int r2), (0, .ref (ad 58)), (1, .ref (ad 56))]) hx hb dX3_takeEntry_16 rfl hl (by decide) rfl (fun ls hl => ?_)
    refine lv_iload_n hx hb dX3_takeEntry_17 rfl (lv_at hl 0 rfl) ?_
    refine lv_iconst (v := (-1)) hx hb dX3_takeEntry_18 (by decide) ?_
    refine lv_icmp_eq (tgt := 31) hx hb dX3_takeEntry_19 (by decide) (fun c3 => ?_) (fun c3 => ?_)
    · have h := x_t (show r2 = (-1) from c3) h
      refine lv_iconst (v := 0) hx hb dX3_takeEntry_31 (by decide) ?_
      exact x_iret hx hb hr hlocks rfl hP hS h dX3_takeEntry_32
    · have h := x_f (show ¬ (r2 = (-1)) from c3) h
      refine lv_aload_n hx hb dX3_takeEntry_22 rfl (lv_at hl 1 rfl) ?_
      refine x_get hx hb ht0 u_X3 hown hK hP (xk_58).1 (ce3 (xk_58).2) rfl 5 (by decide) (ht0 _ m_FL_X3_37) rfl rfl dX3_takeEntry_23 ?_
      refine lv_bipush (v := 7) hx hb dX3_takeEntry_26 (by decide) ?_
      refine lv_icmp_lt (tgt := 33) hx hb dX3_takeEntry_28 (by decide) (fun c4 => ?_) (fun c4 => ?_)
      · have h := x_t (show (D2 58 5) < 7 from c4) h
        refine lv_aload_n hx hb dX3_takeEntry_33 rfl (lv_at hl 2 rfl) ?_
        refine lv_bipush (v := 9) hx hb dX3_takeEntry_34 (by decide) ?_
        refine lv_iload_n hx hb dX3_takeEntry_36 rfl (lv_at hl 0 rfl) ?_
        refine lv_iconst (v := 0) hx hb dX3_takeEntry_37 (by decide) ?_
        obtain ⟨r5, D5, hc5, h⟩ := bi_some h
        refine x_callVv (As := [.int 9, .int r2, .int 0]) ⟨hx, hb, hml, hown, ht0⟩ hK hT hP hS (c_X4_setFree l dd Y t ad ij F 9 r2 0 _ _ _ hc5) m_ML_X3_97 sv_X4_setFree hd_X4_setFree rfl rfl ⟨Nat.le_of_ble_eq_true rfl, Nat.le_of_ble_eq_true rfl⟩ (xk_56).1 (ce4 (xk_56).2) rfl rfl hl.1 rfl (Nat.le_of_ble_eq_true rfl) dX3_takeEntry_38 ⟨Nat.zero_le _, Nat.zero_le _⟩ (fun H locs hP hS => ?_)
        refine lv_aload_n hx hb dX3_takeEntry_41 rfl (lv_at hl 1 rfl) ?_
        refine lv_iconst (v := 1) hx hb dX3_takeEntry_42 (by decide) ?_
        refine x_put (ty := .boolean) hx hb ht0 u_X3 tyX3 tyX3_ok nmX3 hown hK ij hP hS (xk_58).1 (ce3 (xk_58).2) rfl 11 (by decide) (ht0 _ m_FL_X3_33) rfl rfl (by decide +kernel) rfl rfl (Nat.le_of_ble_eq_true rfl) (by rw [(xk_58).2]; rfl) dX3_takeEntry_43 (fun H locs hP hS => ?_)
        refine lv_aload_n hx hb dX3_takeEntry_46 rfl (lv_at hl 1 rfl) ?_
        refine lv_iconst (v := 2) hx hb dX3_takeEntry_47 (by decide) ?_
        refine x_put (ty := .int) hx hb ht0 u_X3 tyX3 tyX3_ok nmX3 hown hK ij hP hS (xk_58).1 (ce3 (xk_58).2) rfl 7 (by decide) (ht0 _ m_FL_X3_30) rfl rfl (by decide +kernel) rfl rfl (Nat.le_of_ble_eq_true rfl) (by rw [(xk_58).2]; rfl) dX3_takeEntry_48 (fun H locs hP hS => ?_)
        refine lv_aload_n hx hb dX3_takeEntry_51 rfl (lv_at hl 1 rfl) ?_
        refine lv_bipush (v := 9) hx hb dX3_takeEntry_52 (by decide) ?_
        refine x_put (ty := .int) hx hb ht0 u_X3 tyX3 tyX3_ok nmX3 hown hK ij hP hS (xk_58).1 (ce3 (xk_58).2) rfl 9 (by decide) (ht0 _ m_FL_X3_70) rfl rfl (by decide +kernel) rfl rfl (Nat.le_of_ble_eq_true rfl) (by rw [(xk_58).2]; rfl) dX3_takeEntry_54 (fun H locs hP hS => ?_)
        refine lv_aload_n hx hb dX3_takeEntry_57 rfl (lv_at hl 1 rfl) ?_
        refine lv_iload_n hx hb dX3_takeEntry_58 rfl (lv_at hl 0 rfl) ?_
        refine x_put (ty := .int) hx hb ht0 u_X3 tyX3 tyX3_ok nmX3 hown hK ij hP hS (xk_58).1 (ce3 (xk_58).2) rfl 10 (by decide) (ht0 _ m_FL_X3_73) rfl rfl (by decide +kernel) rfl rfl (Nat.le_of_ble_eq_true rfl) (by rw [(xk_58).2]; rfl) dX3_takeEntry_59 (fun H locs hP hS => ?_)
        refine lv_aload_n hx hb dX3_takeEntry_62 rfl (lv_at hl 1 rfl) ?_
        refine x_get hx hb ht0 u_X3 hown hK hP (xk_58).1 (ce3 (xk_58).2) rfl 8 (by decide) (ht0 _ m_FL_X3_15) rfl (rfv (G := XG) (c := 58) (k := 8) (c' := 60) rfl) dX3_takeEntry_63 ?_
        refine lv_iconst (v := 0) hx hb dX3_takeEntry_66 (by decide) ?_
        refine lv_bipush (v := 64) hx hb dX3_takeEntry_67 (by decide) ?_
        obtain ⟨r6, D6, hc6, h⟩ := bi_some h
        refine x_callNv (As := [.ref (ad 60), .int 0, .int 64]) ⟨hx, hb, hml, hown, ht0⟩ hK hT hP hS (c_X7_clearRow l dd Y t ad ij F 60 xk_60 0 64 _ _ _ hc6) hT.2.2.2.2.2.2.2.2.2.2.2.2.2.2.2 ss_X7_clearRow hd_X7_clearRow rfl rfl ⟨Nat.le_of_ble_eq_true rfl, Nat.le_of_ble_eq_true rfl⟩ rfl hl.1 rfl (Nat.le_of_ble_eq_true rfl) dX3_takeEntry_69 ⟨Nat.zero_le _, Nat.zero_le _⟩ (fun H locs hP hS => ?_)
        refine lv_iconst (v := 1) hx hb dX3_takeEntry_72 (by decide) ?_
        exact x_iret hx hb hr hlocks rfl hP hS h dX3_takeEntry_73
      · have h := x_f (show ¬ ((D2 58 5) < 7) from c4) h
        refine lv_iconst (v := 0) hx hb dX3_takeEntry_31 (by decide) ?_
        exact x_iret hx hb hr hlocks rfl hP hS h dX3_takeEntry_32
  · have h := x_f (show ¬ ((D 58 7) = (-1)) from c1) h
    refine lv_iconst (v := 1) hx hb dX3_takeEntry_8 (by decide) ?_
    exact x_iret hx hb hr hlocks rfl hP hS h dX3_takeEntry_9
abbrev rm_X3_storeLink : Room := { frames := 5, cells := 0, slots := 0, locals := 131 }
set_option maxHeartbeats 4000000 in
set_option maxRecDepth 100000 in
theorem c_X3_storeLink (l : Launch) (dd : Dd) (Y : Yc) (t : Ts3) (ad : Nat → Nat) (ij : Ij XG ad) (F : Nat) (D0 D' : Mm) (r0 : Int32) (h : P_X3_storeLink (gN XG) F D0 = some (r0, D')) : Met l yX3_storeLink wzX3_storeLink rm_X3_storeLink (va_Pc [.ref (ad 58)] (Wd dd Y t XG ad D0)) (Qi dd Y XG ad .int r0 D') 0 0 (pA XG ad) := by
  refine Met.ofW (cc := cX3_storeLink) (maxL := 1) (ret := (some .int)) (by decide) rfl ?_
  intro p e s m args below meth c s₁ B hml hv
  obtain ⟨rfl, hP, hK, hT⟩ := hv
  have hx := B.exec
  have hb := B.bytes
  have hr := B.returns
  have ht0 : ∀ w ∈ W0, w.before _ s = true := fun w h => atoms_spec (ws := wzX3_storeLink) B.pre w (List.mem_cons_of_mem _ h)
  have hown : s.vm.findClass RX3 = some m.cls := findClass_of_methodNamed B.named
  have hlocks := B.notSynchronized
  have hS : va_S (pA XG ad) s.heap s.heap [] := va_S.rf
  have L20 : ∀ (D : Mm) (H : Heap) (locs : List Loc) (ls : Array Slot), P_X3_storeLink_20 (gN XG) F D = some (r0, D') → va_P dd vwCl (wW Y XG ad D) H → va_S (pA XG ad) s.heap H locs → lv_has ls 1 [(0, .ref (ad 58))] → W p l e (headSpec wzX3_storeLink rm_X3_storeLink).room s m ([.ref (ad 58)].toArray) below meth c H locs 0 0 (MQ below (Qi dd Y XG ad .int r0 D') ([.ref (ad 58)].toArray) s 0 0 (pA XG ad)) (F0 m 20 ls []) := by
    intro D H locs ls h hP hS hl
    have h : ((bi (P_X0_store (gN XG) F 59 (D 58 3) (D 58 4) D) (fun r1 D1 => some (r1, D1))) : Rs) = some (r0, D') := h
    refine lv_aload_n hx hb dX3_storeLink_20 rfl (lv_at hl 0 rfl) ?_
    refine x_get hx hb ht0 u_X3 hown hK hP (xk_58).1 (ce3 (xk_58).2) rfl 0 (by decide) (ht0 _ m_FL_X3_18) rfl (rfv (G := XG) (c := 58) (k := 0) (c' := 2) rfl) dX3_storeLink_21 ?_
    refine lv_aload_n hx hb dX3_storeLink_24 rfl (lv_at hl 0 rfl) ?_
    refine x_get hx hb ht0 u_X3 hown hK hP (xk_58).1 (ce3 (xk_58).2) rfl 3 (by decide) (ht0 _ m_FL_X3_40) rfl rfl dX3_storeLink_25 ?_
    refine lv_aload_n hx hb dX3_storeLink_28 rfl (lv_at hl 0 rfl) ?_
    refine x_get hx hb ht0 u_X3 hown hK hP (xk_58).1 (ce3 (xk_58).2) rfl 4 (by decide) (ht0 _ m_FL_X3_43) rfl rfl dX3_storeLink_29 ?_
    refine lv_aload_n hx hb dX3_storeLink_32 rfl (lv_at hl 0 rfl) ?_
    refine x_get hx hb ht0 u_X3 hown hK hP (xk_58).1 (ce3 (xk_58).2) rfl 2 (by decide) (ht0 _ m_FL_X3_9) rfl (rfv (G := XG) (c := 58) (k := 2) (c' := 59) rfl) dX3_storeLink_33 ?_
    obtain ⟨r1, D1, hc1, h⟩ := bi_some h
    refine x_callVi (As := [.int (D 58 3), .int (D 58 4), .ref (ad 59)]) ⟨hx, hb, hml, hown, ht0⟩ hK hT hP hS (c_X0_store l dd Y t ad ij F 59 xk_59 (D 58 3) (D 58 4) _ _ _ hc1) m_ML_X3_104 sv_X0_store hd_X0_store rfl rfl ⟨Nat.le_of_ble_eq_true rfl, Nat.le_of_ble_eq_true rfl⟩ (xk_2).1 (ce0 (xk_2).2) rfl rfl hl.1 rfl (Nat.le_of_ble_eq_true rfl) dX3_storeLink_36 ⟨Nat.zero_le _, Nat.zero_le _⟩ (fun H locs hn_r1 hP hS => ?_)
    exact x_iret hx hb hr hlocks rfl hP hS h dX3_storeLink_39
  have hl := lv_entry ([.ref (ad 58)]) (n := 1) (Nat.le_of_ble_eq_true rfl)
  rw [lg_entry_eq]
  generalize (lg_sl ([.ref (ad 58)]) ++ List.replicate (1 - (lg_sl ([.ref (ad 58)])).length) Slot.unset).toArray = ls at hl ⊢
  have hl : lv_has ls 1 [(0, .ref (ad 58))] := hl
  have hP : va_P dd vwCl (wW Y XG ad D0) s.heap := hP
  generalize D0 = D at h hP
  have h : ((if inB 0 ((gN XG) 59) = true then (if inB 1 ((gN XG) 59) = true then (P_X3_storeLink_20 (gN XG) F (up2 (up2 D 59 (Int32.toNatClampNeg 0) (D 58 9)) 59 (Int32.toNatClampNeg 1) ((up2 D 59 (Int32.toNatClampNeg 0) (D 58 9)) 58 10))) else none) else none) : Rs) = some (r0, D') := h
  refine lv_aload_n hx hb dX3_storeLink_0 rfl (lv_at hl 0 rfl) ?_
  refine x_get hx hb ht0 u_X3 hown hK hP (xk_58).1 (ce3 (xk_58).2) rfl 2 (by decide) (ht0 _ m_FL_X3_9) rfl (rfv (G := XG) (c := 58) (k := 2) (c' := 59) rfl) dX3_storeLink_1 ?_
  refine lv_iconst (v := 0) hx hb dX3_storeLink_4 (by decide) ?_
  refine lv_aload_n hx hb dX3_storeLink_5 rfl (lv_at hl 0 rfl) ?_
  refine x_get hx hb ht0 u_X3 hown hK hP (xk_58).1 (ce3 (xk_58).2) rfl 9 (by decide) (ht0 _ m_FL_X3_70) rfl rfl dX3_storeLink_6 ?_
  obtain ⟨b2, h⟩ := x_if h
  refine x_ast hx hb hK ij hP hS xk_59 b2 dX3_storeLink_9 (fun H locs hP hS => ?_)
  refine lv_aload_n hx hb dX3_storeLink_10 rfl (lv_at hl 0 rfl) ?_
  refine x_get hx hb ht0 u_X3 hown hK hP (xk_58).1 (ce3 (xk_58).2) rfl 2 (by decide) (ht0 _ m_FL_X3_9) rfl (rfv (G := XG) (c := 58) (k := 2) (c' := 59) rfl) dX3_storeLink_11 ?_
  refine lv_iconst (v := 1) hx hb dX3_storeLink_14 (by decide) ?_
  refine lv_aload_n hx hb dX3_storeLink_15 rfl (lv_at hl 0 rfl) ?_
  refine x_get hx hb ht0 u_X3 hown hK hP (xk_58).1 (ce3 (xk_58).2) rfl 10 (by decide) (ht0 _ m_FL_X3_73) rfl rfl dX3_storeLink_16 ?_
  obtain ⟨b3, h⟩ := x_if h
  refine x_ast hx hb hK ij hP hS xk_59 b3 dX3_storeLink_19 (fun H locs hP hS => ?_)
  exact L20 (up2 (up2 D 59 (Int32.toNatClampNeg 0) (D 58 9)) 59 (Int32.toNatClampNeg 1) ((up2 D 59 (Int32.toNatClampNeg 0) (D 58 9)) 58 10)) _ _ _ h hP hS (lv_sub hl [0] rfl)
abbrev rm_X3_storeWithoutEntry : Room := { frames := 5, cells := 0, slots := 0, locals := 131 }
set_option maxHeartbeats 4000000 in
set_option maxRecDepth 100000 in
theorem c_X3_storeWithoutEntry (l : Launch) (dd : Dd) (Y : Yc) (t : Ts3) (ad : Nat → Nat) (ij : Ij XG ad) (F : Nat) (D0 D' : Mm) (r0 : Int32) (h : P_X3_storeWithoutEntry (gN XG) F D0 = some (r0, D')) : Met l yX3_storeWithoutEntry wzX3_storeWithoutEntry rm_X3_storeWithoutEntry (va_Pc [.ref (ad 58)] (Wd dd Y t XG ad D0)) (Qi dd Y XG ad .int r0 D') 0 0 (pA XG ad) := by
  refine Met.ofW (cc := cX3_storeWithoutEntry) (maxL := 1) (ret := (some .int)) (by decide) rfl ?_
  intro p e s m args below meth c s₁ B hml hv
  obtain ⟨rfl, hP, hK, hT⟩ := hv
  have hx := B.exec
  have hb := B.bytes
  have hr := B.returns
  have ht0 : ∀ w ∈ W0, w.before _ s = true := fun w h => atoms_spec (ws := wzX3_storeWithoutEntry) B.pre w (List.mem_cons_of_mem _ h)
  have hown : s.vm.findClass RX3 = some m.cls := findClass_of_methodNamed B.named
  have hlocks := B.notSynchronized
  have hS : va_S (pA XG ad) s.heap s.heap [] := va_S.rf
  have hl := lv_entry ([.ref (ad 58)]) (n := 1) (Nat.le_of_ble_eq_true rfl)
  rw [lg_entry_eq]
  generalize (lg_sl ([.ref (ad 58)]) ++ List.replicate (1 - (lg_sl ([.ref (ad 58)])).length) Slot.unset).toArray = ls at hl ⊢
  have hl : lv_has ls 1 [(0, .ref (ad 58))] := hl
  have hP : va_P dd vwCl (wW Y XG ad D0) s.heap := hP
  generalize D0 = D at h hP
  have h : ((if (D 58 6) = (-1) then (bi (P_X0_store (gN XG) F 59 (D 58 3) (D 58 4) D) (fun r2 D2 => some (r2, D2))) else (bi (P_X7_clearRow (gN XG) F 59 (D 58 6) 12 D) (fun r3 D3 => bi (P_X0_store (gN XG) F 59 (D3 58 3) (D3 58 4) D3) (fun r4 D4 => some (r4, D4))))) : Rs) = some (r0, D') := h
  refine lv_aload_n hx hb dX3_storeWithoutEntry_0 rfl (lv_at hl 0 rfl) ?_
  refine x_get hx hb ht0 u_X3 hown hK hP (xk_58).1 (ce3 (xk_58).2) rfl 6 (by decide) (ht0 _ m_FL_X3_26) rfl rfl dX3_storeWithoutEntry_1 ?_
  refine lv_iconst (v := (-1)) hx hb dX3_storeWithoutEntry_4 (by decide) ?_
  refine lv_icmp_eq (tgt := 21) hx hb dX3_storeWithoutEntry_5 (by decide) (fun c1 => ?_) (fun c1 => ?_)
  · have h := x_t (show (D 58 6) = (-1) from c1) h
    refine lv_aload_n hx hb dX3_storeWithoutEntry_21 rfl (lv_at hl 0 rfl) ?_
    refine x_get hx hb ht0 u_X3 hown hK hP (xk_58).1 (ce3 (xk_58).2) rfl 0 (by decide) (ht0 _ m_FL_X3_18) rfl (rfv (G := XG) (c := 58) (k := 0) (c' := 2) rfl) dX3_storeWithoutEntry_22 ?_
    refine lv_aload_n hx hb dX3_storeWithoutEntry_25 rfl (lv_at hl 0 rfl) ?_
    refine x_get hx hb ht0 u_X3 hown hK hP (xk_58).1 (ce3 (xk_58).2) rfl 3 (by decide) (ht0 _ m_FL_X3_40) rfl rfl dX3_storeWithoutEntry_26 ?_
    refine lv_aload_n hx hb dX3_storeWithoutEntry_29 rfl (lv_at hl 0 rfl) ?_
    refine x_get hx hb ht0 u_X3 hown hK hP (xk_58).1 (ce3 (xk_58).2) rfl 4 (by decide) (ht0 _ m_FL_X3_43) rfl rfl dX3_storeWithoutEntry_30 ?_
    refine lv_aload_n hx hb dX3_storeWithoutEntry_33 rfl (lv_at hl 0 rfl) ?_
    refine x_get hx hb ht0 u_X3 hown hK hP (xk_58).1 (ce3 (xk_58).2) rfl 2 (by decide) (ht0 _ m_FL_X3_9) rfl (rfv (G := XG) (c := 58) (k := 2) (c' := 59) rfl) dX3_storeWithoutEntry_34 ?_
    obtain ⟨r2, D2, hc2, h⟩ := bi_some h
    refine x_callVi (As := [.int (D 58 3), .int (D 58 4), .ref (ad 59)]) ⟨hx, hb, hml, hown, ht0⟩ hK hT hP hS (c_X0_store l dd Y t ad ij F 59 xk_59 (D 58 3) (D 58 4) _ _ _ hc2) m_ML_X3_104 sv_X0_store hd_X0_store rfl rfl ⟨Nat.le_of_ble_eq_true rfl, Nat.le_of_ble_eq_true rfl⟩ (xk_2).1 (ce0 (xk_2).2) rfl rfl hl.1 rfl (Nat.le_of_ble_eq_true rfl) dX3_storeWithoutEntry_37 ⟨Nat.zero_le _, Nat.zero_le _⟩ (fun H locs hn_r2 hP hS => ?_)
    exact x_iret hx hb hr hlocks rfl hP hS h dX3_storeWithoutEntry_40
  · have h := x_f (show ¬ ((D 58 6) = (-1)) from c1) h
    refine lv_aload_n hx hb dX3_storeWithoutEntry_8 rfl (lv_at hl 0 rfl) ?_
    refine x_get hx hb ht0 u_X3 hown hK hP (xk_58).1 (ce3 (xk_58).2) rfl 2 (by decide) (ht0 _ m_FL_X3_9) rfl (rfv (G := XG) (c := 58) (k := 2) (c' := 59) rfl) dX3_storeWithoutEntry_9 ?_
    refine lv_aload_n hx hb dX3_storeWithoutEntry_12 rfl (lv_at hl 0 rfl) ?_
    refine x_get hx hb ht0 u_X3 hown hK hP (xk_58).1 (ce3 (xk_58).2) rfl 6 (by decide) (ht0 _ m_FL_X3_26) rfl rfl dX3_storeWithoutEntry_13 ?_
    refine lv_bipush (v := 12) hx hb dX3_storeWithoutEntry_16 (by decide) ?_
    obtain ⟨r3, D3, hc3, h⟩ := bi_some h
    refine x_callNv (As := [.ref (ad 59), .int (D 58 6), .int 12]) ⟨hx, hb, hml, hown, ht0⟩ hK hT hP hS (c_X7_clearRow l dd Y t ad ij F 59 xk_59 (D 58 6) 12 _ _ _ hc3) hT.2.2.2.2.2.2.2.2.2.2.2.2.2.2.2 ss_X7_clearRow hd_X7_clearRow rfl rfl ⟨Nat.le_of_ble_eq_true rfl, Nat.le_of_ble_eq_true rfl⟩ rfl hl.1 rfl (Nat.le_of_ble_eq_true rfl) dX3_storeWithoutEntry_18 ⟨Nat.zero_le _, Nat.zero_le _⟩ (fun H locs hP hS => ?_)
    refine lv_aload_n hx hb dX3_storeWithoutEntry_21 rfl (lv_at hl 0 rfl) ?_
    refine x_get hx hb ht0 u_X3 hown hK hP (xk_58).1 (ce3 (xk_58).2) rfl 0 (by decide) (ht0 _ m_FL_X3_18) rfl (rfv (G := XG) (c := 58) (k := 0) (c' := 2) rfl) dX3_storeWithoutEntry_22 ?_
    refine lv_aload_n hx hb dX3_storeWithoutEntry_25 rfl (lv_at hl 0 rfl) ?_
    refine x_get hx hb ht0 u_X3 hown hK hP (xk_58).1 (ce3 (xk_58).2) rfl 3 (by decide) (ht0 _ m_FL_X3_40) rfl rfl dX3_storeWithoutEntry_26 ?_
    refine lv_aload_n hx hb dX3_storeWithoutEntry_29 rfl (lv_at hl 0 rfl) ?_
    refine x_get hx hb ht0 u_X3 hown hK hP (xk_58).1 (ce3 (xk_58).2) rfl 4 (by decide) (ht0 _ m_FL_X3_43) rfl rfl dX3_storeWithoutEntry_30 ?_
    refine lv_aload_n hx hb dX3_storeWithoutEntry_33 rfl (lv_at hl 0 rfl) ?_
    refine x_get hx hb ht0 u_X3 hown hK hP (xk_58).1 (ce3 (xk_58).2) rfl 2 (by decide) (ht0 _ m_FL_X3_9) rfl (rfv (G := XG) (c := 58) (k := 2) (c' := 59) rfl) dX3_storeWithoutEntry_34 ?_
    obtain ⟨r4, D4, hc4, h⟩ := bi_some h
    refine x_callVi (As := [.int (D3 58 3), .int (D3 58 4), .ref (ad 59)]) ⟨hx, hb, hml, hown, ht0⟩ hK hT hP hS (c_X0_store l dd Y t ad ij F 59 xk_59 (D3 58 3) (D3 58 4) _ _ _ hc4) m_ML_X3_104 sv_X0_store hd_X0_store rfl rfl ⟨Nat.le_of_ble_eq_true rfl, Nat.le_of_ble_eq_true rfl⟩ (xk_2).1 (ce0 (xk_2).2) rfl rfl hl.1 rfl (Nat.le_of_ble_eq_true rfl) dX3_storeWithoutEntry_37 ⟨Nat.zero_le _, Nat.zero_le _⟩ (fun H locs hn_r4 hP hS => ?_)
    exact x_iret hx hb hr hlocks rfl hP hS h dX3_storeWithoutEntry_40
abbrev rm_X7_fillName : Room := { frames := 1, cells := 0, slots := 0, locals := 22 }
set_option maxHeartbeats 4000000 in
set_option maxRecDepth 100000 in
theorem c_X7_fillName (l : Launch) (dd : Dd) (Y : Yc) (t : Ts3) (ad : Nat → Nat) (ij : Ij XG ad) (F : Nat) (u0 : Nat) (g_u0 : IArr XG u0) (a1 a2 a3 : Int32) (D0 D' : Mm) (r0 : Int32) (h : P_X7_fillName (gN XG) F u0 a1 a2 a3 D0 = some (r0, D')) : Met l yX7_fillName wzX7_fillName rm_X7_fillName (va_Pc [.ref (ad u0), .int a1, .int a2, .int a3] (Wd dd Y t XG ad D0)) (Qv dd Y XG ad D') 0 0 (pA XG ad) := by
  refine Met.ofW (cc := cX7_fillName) (maxL := 5) (ret := none) (by decide) rfl ?_
  intro p e s m args below meth c s₁ B hml hv
  obtain ⟨rfl, hP, hK, hT⟩ := hv
  have hx := B.exec
  have hb := B.bytes
  have hr := B.returns
  have ht0 : ∀ w ∈ W0, w.before _ s = true := fun w h => atoms_spec (ws := wzX7_fillName) B.pre w (List.mem_cons_of_mem _ h)
  have hown : s.vm.findClass RX7 = some m.cls := findClass_of_methodNamed B.named
  have hlocks := B.notSynchronized
  have hS : va_S (pA XG ad) s.heap s.heap [] := va_S.rf
  have L3 : ∀ (n : Nat), ∀ (x1 x2 x3 x4 : Int32) (D : Mm) (H : Heap) (locs : List Loc) (ls : Array Slot), P_X7_fillName_3 (gN XG) F u0 n x1 x2 x3 x4 D = some (r0, D') → va_P dd vwCl (wW Y XG ad D) H → va_S (pA XG ad) s.heap H locs → lv_has ls 5 [(0, .ref (ad u0)), (1, .int x1), (2, .int x2), (3, .int x3), (4, .int x4)] → W p l e (headSpec wzX7_fillName rm_X7_fillName).room s m ([.ref (ad u0), .int a1, .int a2, .int a3].toArray) below meth c H locs 0 0 (MQ below (Qv dd Y XG ad D') ([.ref (ad u0), .int a1, .int a2, .int a3].toArray) s 0 0 (pA XG ad)) (F0 m 3 ls []) := by
    intro n
    induction n with
    | zero =>
      intro x1 x2 x3 x4 D H locs ls h hP hS hl
      cases h
    | succ n ih =>
      intro x1 x2 x3 x4 D H locs ls h hP hS hl
      have h : ((if 8 ≤ x4 then (some (0, D)) else (bi (P_X7_nameByte (gN XG) F x2 x3 x4 D) (fun r2 D2 => if inB (x1 + x4) ((gN XG) u0) = true then (P_X7_fillName_3 (gN XG) F u0 n x1 x2 x3 (x4 + 1) (up2 D2 u0 (Int32.toNatClampNeg (x1 + x4)) r2)) else none))) : Rs) = some (r0, D') := h
      refine lv_iload hx hb dX7_fillName_3 (lv_at hl 4 rfl) ?_
      refine lv_bipush (v := 8) hx hb dX7_fillName_5 (by decide) ?_
      refine lv_icmp_ge (tgt := 29) hx hb dX7_fillName_7 (by decide) (fun c1 => ?_) (fun c1 => ?_)
      · have h := x_t (show 8 ≤ x4 from c1) h
        exact x_vret hx hb hr hlocks hP hS h dX7_fillName_29
      · have h := x_f (show ¬ (8 ≤ x4) from c1) h
        refine lv_aload_n hx hb dX7_fillName_10 rfl (lv_at hl 0 rfl) ?_
        refine lv_iload_n hx hb dX7_fillName_11 rfl (lv_at hl 1 rfl) ?_
        refine lv_iload hx hb dX7_fillName_12 (lv_at hl 4 rfl) ?_
        refine lv_iadd hx hb dX7_fillName_14 ?_
        refine lv_iload_n hx hb dX7_fillName_15 rfl (lv_at hl 2 rfl) ?_
        refine lv_iload_n hx hb dX7_fillName_16 rfl (lv_at hl 3 rfl) ?_
        refine lv_iload hx hb dX7_fillName_17 (lv_at hl 4 rfl) ?_
        obtain ⟨r2, D2, hc2, h⟩ := bi_some h
        refine x_callSi (As := [.int x2, .int x3, .int x4]) ⟨hx, hb, hml, hown, ht0⟩ hK hT hP hS (c_X7_nameByte l dd Y t ad ij F x2 x3 x4 _ _ _ hc2) m_ML_X7_272 ss_X7_nameByte hd_X7_nameByte rfl rfl ⟨Nat.le_of_ble_eq_true rfl, Nat.le_of_ble_eq_true rfl⟩ rfl hl.1 rfl (Nat.le_of_ble_eq_true rfl) dX7_fillName_19 ⟨Nat.zero_le _, Nat.zero_le _⟩ (fun H locs hn_r2 hP hS => ?_)
        obtain ⟨b3, h⟩ := x_if h
        refine x_ast hx hb hK ij hP hS g_u0 b3 dX7_fillName_22 (fun H locs hP hS => ?_)
        refine lv_iinc (v := x4 + 1) (lv' := [(4, .int (x4 + 1)), (0, .ref (ad u0)), (1, .int x1), (2, .int x2), (3, .int x3)]) hx hb dX7_fillName_23 hl (k := 4) rfl rfl (by decide) rfl (fun ls hl => ?_)
        refine lv_goto (tgt := 3) hx hb dX7_fillName_26 (by decide) ?_
        exact ih x1 x2 x3 (x4 + 1) (up2 D2 u0 (Int32.toNatClampNeg (x1 + x4)) r2) _ _ _ h hP hS (lv_sub hl [1, 2, 3, 4, 0] rfl)
  have hl := lv_entry ([.ref (ad u0), .int a1, .int a2, .int a3]) (n := 5) (Nat.le_of_ble_eq_true rfl)
  rw [lg_entry_eq]
  generalize (lg_sl ([.ref (ad u0), .int a1, .int a2, .int a3]) ++ List.replicate (5 - (lg_sl ([.ref (ad u0), .int a1, .int a2, .int a3])).length) Slot.unset).toArray = ls at hl ⊢
  have hl : lv_has ls 5 [(0, .ref (ad u0)), (1, .int a1), (2, .int a2), (3, .int a3)] := hl
  have hP : va_P dd vwCl (wW Y XG ad D0) s.heap := hP
  generalize D0 = D at h hP
  have h : ((P_X7_fillName_3 (gN XG) F u0 F a1 a2 a3 0 D) : Rs) = some (r0, D') := h
  refine lv_iconst (v := 0) hx hb dX7_fillName_0 (by decide) ?_
  refine lv_istore (lv' := [(4, .int 0), (0, .ref (ad u0)), (1, .int a1), (2, .int a2), (3, .int a3)]) hx hb dX7_fillName_1 hl (by decide) rfl (fun ls hl => ?_)
  exact L3 F a1 a2 a3 0 D _ _ _ h hP hS (lv_sub hl [1, 2, 3, 4, 0] rfl)
abbrev rm_X4_fillNew : Room := { frames := 3, cells := 0, slots := 0, locals := 66 }
set_option maxHeartbeats 4000000 in
set_option maxRecDepth 100000 in
theorem c_X4_fillNew (l : Launch) (dd : Dd) (Y : Yc) (t : Ts3) (ad : Nat → Nat) (ij : Ij XG ad) (F : Nat) (a1 a2 a3 : Int32) (D0 D' : Mm) (r0 : Int32) (h : P_X4_fillNew (gN XG) F a1 a2 a3 D0 = some (r0, D')) : Met l yX4_fillNew wzX4_fillNew rm_X4_fillNew (va_Pc [.ref (ad 56), .int a1, .int a2, .int a3] (Wd dd Y t XG ad D0)) (Qv dd Y XG ad D') 0 0 (pA XG ad) := by
  refine Met.ofW (cc := cX4_fillNew) (maxL := 7) (ret := none) (by decide) rfl ?_
  intro p e s m args below meth c s₁ B hml hv
  obtain ⟨rfl, hP, hK, hT⟩ := hv
  have hx := B.exec
  have hb := B.bytes
  have hr := B.returns
  have ht0 : ∀ w ∈ W0, w.before _ s = true := fun w h => atoms_spec (ws := wzX4_fillNew) B.pre w (List.mem_cons_of_mem _ h)
  have hown : s.vm.findClass RX4 = some m.cls := findClass_of_methodNamed B.named
  have hlocks := B.notSynchronized
  have hS : va_S (pA XG ad) s.heap s.heap [] := va_S.rf
  have L45 : ∀ (k28 : Int32 → Int32 → Int32 → Int32 → Mm → Rs) (hk28 : ∀ (x1 x2 x3 x4 : Int32) (D : Mm) (H : Heap) (locs : List Loc) (ls : Array Slot), k28 x1 x2 x3 x4 D = some (r0, D') → va_P dd vwCl (wW Y XG ad D) H → va_S (pA XG ad) s.heap H locs → lv_has ls 7 [(0, .ref (ad 56)), (1, .int x1), (2, .int x2), (3, .int x3), (4, .int x4)] → W p l e (headSpec wzX4_fillNew rm_X4_fillNew).room s m ([.ref (ad 56), .int a1, .int a2, .int a3].toArray) below meth c H locs 0 0 (MQ below (Qv dd Y XG ad D') ([.ref (ad 56), .int a1, .int a2, .int a3].toArray) s 0 0 (pA XG ad)) (F0 m 28 ls [])), ∀ (n : Nat), ∀ (x1 x2 x3 x4 x5 x6 : Int32) (D : Mm) (H : Heap) (locs : List Loc) (ls : Array Slot), P_X4_fillNew_45 (gN XG) F k28 n x1 x2 x3 x4 x5 x6 D = some (r0, D') → va_P dd vwCl (wW Y XG ad D) H → va_S (pA XG ad) s.heap H locs → lv_has ls 7 [(0, .ref (ad 56)), (1, .int x1), (2, .int x2), (3, .int x3), (4, .int x4), (5, .int x5), (6, .int x6)] → W p l e (headSpec wzX4_fillNew rm_X4_fillNew).room s m ([.ref (ad 56), .int a1, .int a2, .int a3].toArray) below meth c H locs 0 0 (MQ below (Qv dd Y XG ad D') ([.ref (ad 56), .int a1, .int a2, .int a3].toArray) s 0 0 (pA XG ad)) (F0 m 45 ls []) := by
    intro k28 hk28 n
    induction n with
    | zero =>
      intro x1 x2 x3 x4 x5 x6 D H locs ls h hP hS hl
      cases h
    | succ n ih =>
      intro x1 x2 x3 x4 x5 x6 D H locs ls h hP hS hl
      have h : ((if x5 ≤ x6 then (k28 x1 x2 x3 (x4 + 1) D) else (bi (P_X4_setFree (gN XG) F x4 x6 1 D) (fun r2 D2 => P_X4_fillNew_45 (gN XG) F k28 n x1 x2 x3 x4 x5 (x6 + 1) D2))) : Rs) = some (r0, D') := h
      refine lv_iload hx hb dX4_fillNew_45 (lv_at hl 6 rfl) ?_
      refine lv_iload hx hb dX4_fillNew_47 (lv_at hl 5 rfl) ?_
      refine lv_icmp_ge (tgt := 67) hx hb dX4_fillNew_49 (by decide) (fun c1 => ?_) (fun c1 => ?_)
      · have h := x_t (show x5 ≤ x6 from c1) h
        refine lv_iinc (v := x4 + 1) (lv' := [(4, .int (x4 + 1)), (0, .ref (ad 56)), (1, .int x1), (2, .int x2), (3, .int x3), (5, .int x5), (6, .int x6)]) hx hb dX4_fillNew_67 hl (k := 4) rfl rfl (by decide) rfl (fun ls hl => ?_)
        refine lv_goto (tgt := 28) hx hb dX4_fillNew_70 (by decide) ?_
        exact hk28 x1 x2 x3 (x4 + 1) D _ _ _ h hP hS (lv_sub hl [1, 2, 3, 4, 0] rfl)
      · have h := x_f (show ¬ (x5 ≤ x6) from c1) h
        refine lv_aload_n hx hb dX4_fillNew_52 rfl (lv_at hl 0 rfl) ?_
        refine lv_iload hx hb dX4_fillNew_53 (lv_at hl 4 rfl) ?_
        refine lv_iload hx hb dX4_fillNew_55 (lv_at hl 6 rfl) ?_
        refine lv_iconst (v := 1) hx hb dX4_fillNew_57 (by decide) ?_
        obtain ⟨r2, D2, hc2, h⟩ := bi_some h
        refine x_callVv (As := [.int x4, .int x6, .int 1]) ⟨hx, hb, hml, hown, ht0⟩ hK hT hP hS (c_X4_setFree l dd Y t ad ij F x4 x6 1 _ _ _ hc2) m_ML_X4_25 sv_X4_setFree hd_X4_setFree rfl rfl ⟨Nat.le_of_ble_eq_true rfl, Nat.le_of_ble_eq_true rfl⟩ (xk_56).1 (ce4 (xk_56).2) rfl rfl hl.1 rfl (Nat.le_of_ble_eq_true rfl) dX4_fillNew_58 ⟨Nat.zero_le _, Nat.zero_le _⟩ (fun H locs hP hS => ?_)
        refine lv_iinc (v := x6 + 1) (lv' := [(6, .int (x6 + 1)), (0, .ref (ad 56)), (1, .int x1), (2, .int x2), (3, .int x3), (4, .int x4), (5, .int x5)]) hx hb dX4_fillNew_61 hl (k := 6) rfl rfl (by decide) rfl (fun ls hl => ?_)
        refine lv_goto (tgt := 45) hx hb dX4_fillNew_64 (by decide) ?_
        exact ih x1 x2 x3 x4 x5 (x6 + 1) D2 _ _ _ h hP hS (lv_sub hl [1, 2, 3, 4, 5, 6, 0] rfl)
  have L28 : ∀ (n : Nat), ∀ (x1 x2 x3 x4 : Int32) (D : Mm) (H : Heap) (locs : List Loc) (ls : Array Slot), P_X4_fillNew_28 (gN XG) F n x1 x2 x3 x4 D = some (r0, D') → va_P dd vwCl (wW Y XG ad D) H → va_S (pA XG ad) s.heap H locs → lv_has ls 7 [(0, .ref (ad 56)), (1, .int x1), (2, .int x2), (3, .int x3), (4, .int x4)] → W p l e (headSpec wzX4_fillNew rm_X4_fillNew).room s m ([.ref (ad 56), .int a1, .int a2, .int a3].toArray) below meth c H locs 0 0 (MQ below (Qv dd Y XG ad D') ([.ref (ad 56), .int a1, .int a2, .int a3].toArray) s 0 0 (pA XG ad)) (F0 m 28 ls []) := by
    intro n
    induction n with
    | zero =>
      intro x1 x2 x3 x4 D H locs ls h hP hS hl
      cases h
    | succ n ih =>
      intro x1 x2 x3 x4 D H locs ls h hP hS hl
      have h : ((if 16 < x4 then (bi (P_X4_setFree (gN XG) F 9 0 0 D) (fun r4 D4 => bi (P_X4_setFree (gN XG) F 9 1 0 D4) (fun r5 D5 => bi (P_X7_fillName (gN XG) F 57 40 x2 x3 D5) (fun r6 D6 => if inB 48 ((gN XG) 57) = true then (if inB 49 ((gN XG) 57) = true then (some (0, up2 (up2 D6 57 (Int32.toNatClampNeg 48) ((x1 >>> (8 &&& 31)) &&& 255)) 57 (Int32.toNatClampNeg 49) (x1 &&& 255))) else none) else none)))) else (bi (P_X0_sectorsOf (gN XG) F x4 D) (fun r9 D9 => P_X4_fillNew_45 (gN XG) F (fun x1 x2 x3 x4 D => P_X4_fillNew_28 (gN XG) F n x1 x2 x3 x4 D) F x1 x2 x3 x4 r9 0 D9))) : Rs) = some (r0, D') := h
      refine lv_iload hx hb dX4_fillNew_28 (lv_at hl 4 rfl) ?_
      refine lv_bipush (v := 16) hx hb dX4_fillNew_30 (by decide) ?_
      refine lv_icmp_gt (tgt := 73) hx hb dX4_fillNew_32 (by decide) (fun c3 => ?_) (fun c3 => ?_)
      · have h := x_t (show 16 < x4 from c3) h
        refine lv_aload_n hx hb dX4_fillNew_73 rfl (lv_at hl 0 rfl) ?_
        refine lv_bipush (v := 9) hx hb dX4_fillNew_74 (by decide) ?_
        refine lv_iconst (v := 0) hx hb dX4_fillNew_76 (by decide) ?_
        refine lv_iconst (v := 0) hx hb dX4_fillNew_77 (by decide) ?_
        obtain ⟨r4, D4, hc4, h⟩ := bi_some h
        refine x_callVv (As := [.int 9, .int 0, .int 0]) ⟨hx, hb, hml, hown, ht0⟩ hK hT hP hS (c_X4_setFree l dd Y t ad ij F 9 0 0 _ _ _ hc4) m_ML_X4_25 sv_X4_setFree hd_X4_setFree rfl rfl ⟨Nat.le_of_ble_eq_true rfl, Nat.le_of_ble_eq_true rfl⟩ (xk_56).1 (ce4 (xk_56).2) rfl rfl hl.1 rfl (Nat.le_of_ble_eq_true rfl) dX4_fillNew_78 ⟨Nat.zero_le _, Nat.zero_le _⟩ (fun H locs hP hS => ?_)
        refine lv_aload_n hx hb dX4_fillNew_81 rfl (lv_at hl 0 rfl) ?_
        refine lv_bipush (v := 9) hx hb dX4_fillNew_82 (by decide) ?_
        refine lv_iconst (v := 1) hx hb dX4_fillNew_84 (by decide) ?_
        refine lv_iconst (v := 0) hx hb dX4_fillNew_85 (by decide) ?_
        obtain ⟨r5, D5, hc5, h⟩ := bi_some h
        refine x_callVv (As := [.int 9, .int 1, .int 0]) ⟨hx, hb, hml, hown, ht0⟩ hK hT hP hS (c_X4_setFree l dd Y t ad ij F 9 1 0 _ _ _ hc5) m_ML_X4_25 sv_X4_setFree hd_X4_setFree rfl rfl ⟨Nat.le_of_ble_eq_true rfl, Nat.le_of_ble_eq_true rfl⟩ (xk_56).1 (ce4 (xk_56).2) rfl rfl hl.1 rfl (Nat.le_of_ble_eq_true rfl) dX4_fillNew_86 ⟨Nat.zero_le _, Nat.zero_le _⟩ (fun H locs hP hS => ?_)
        refine lv_aload_n hx hb dX4_fillNew_89 rfl (lv_at hl 0 rfl) ?_
        refine x_get hx hb ht0 u_X4 hown hK hP (xk_56).1 (ce4 (xk_56).2) rfl 0 (by decide) (ht0 _ m_FL_X4_9) rfl (rfv (G := XG) (c := 56) (k := 0) (c' := 57) rfl) dX4_fillNew_90 ?_
        refine lv_bipush (v := 40) hx hb dX4_fillNew_93 (by decide) ?_
        refine lv_iload_n hx hb dX4_fillNew_95 rfl (lv_at hl 2 rfl) ?_
        refine lv_iload_n hx hb dX4_fillNew_96 rfl (lv_at hl 3 rfl) ?_
        obtain ⟨r6, D6, hc6, h⟩ := bi_some h
        refine x_callNv (As := [.ref (ad 57), .int 40, .int x2, .int x3]) ⟨hx, hb, hml, hown, ht0⟩ hK hT hP hS (c_X7_fillName l dd Y t ad ij F 57 xk_57 40 x2 x3 _ _ _ hc6) hT.2.2.2.2.2.2.2.2.2.2.2.2.2.1 ss_X7_fillName hd_X7_fillName rfl rfl ⟨Nat.le_of_ble_eq_true rfl, Nat.le_of_ble_eq_true rfl⟩ rfl hl.1 rfl (Nat.le_of_ble_eq_true rfl) dX4_fillNew_97 ⟨Nat.zero_le _, Nat.zero_le _⟩ (fun H locs hP hS => ?_)
        refine lv_aload_n hx hb dX4_fillNew_100 rfl (lv_at hl 0 rfl) ?_
        refine x_get hx hb ht0 u_X4 hown hK hP (xk_56).1 (ce4 (xk_56).2) rfl 0 (by decide) (ht0 _ m_FL_X4_9) rfl (rfv (G := XG) (c := 56) (k := 0) (c' := 57) rfl) dX4_fillNew_101 ?_
        refine lv_bipush (v := 48) hx hb dX4_fillNew_104 (by decide) ?_
        refine lv_iload_n hx hb dX4_fillNew_106 rfl (lv_at hl 1 rfl) ?_
        refine lv_bipush (v := 8) hx hb dX4_fillNew_107 (by decide) ?_
        refine lv_ishr hx hb dX4_fillNew_109 ?_
        refine lv_sipush (v := 255) hx hb dX4_fillNew_110 (by decide) ?_
        refine lv_iand hx hb dX4_fillNew_113 ?_
        obtain ⟨b7, h⟩ := x_if h
        refine x_ast hx hb hK ij hP hS xk_57 b7 dX4_fillNew_114 (fun H locs hP hS => ?_)
        refine lv_aload_n hx hb dX4_fillNew_115 rfl (lv_at hl 0 rfl) ?_
        refine x_get hx hb ht0 u_X4 hown hK hP (xk_56).1 (ce4 (xk_56).2) rfl 0 (by decide) (ht0 _ m_FL_X4_9) rfl (rfv (G := XG) (c := 56) (k := 0) (c' := 57) rfl) dX4_fillNew_116 ?_
        refine lv_bipush (v := 49) hx hb dX4_fillNew_119 (by decide) ?_
        refine lv_iload_n hx hb dX4_fillNew_121 rfl (lv_at hl 1 rfl) ?_
        refine lv_sipush (v := 255) hx hb dX4_fillNew_122 (by decide) ?_
        refine lv_iand hx hb dX4_fillNew_125 ?_
        obtain ⟨b8, h⟩ := x_if h
        refine x_ast hx hb hK ij hP hS xk_57 b8 dX4_fillNew_126 (fun H locs hP hS => ?_)
        exact x_vret hx hb hr hlocks hP hS h dX4_fillNew_127
      · have h := x_f (show ¬ (16 < x4) from c3) h
        refine lv_iload hx hb dX4_fillNew_35 (lv_at hl 4 rfl) ?_
        obtain ⟨r9, D9, hc9, h⟩ := bi_some h
        refine x_callSi (As := [.int x4]) ⟨hx, hb, hml, hown, ht0⟩ hK hT hP hS (c_X0_sectorsOf l dd Y t ad ij F x4 _ _ _ hc9) m_ML_X4_19 ss_X0_sectorsOf hd_X0_sectorsOf rfl rfl ⟨Nat.le_of_ble_eq_true rfl, Nat.le_of_ble_eq_true rfl⟩ rfl hl.1 rfl (Nat.le_of_ble_eq_true rfl) dX4_fillNew_37 ⟨Nat.zero_le _, Nat.zero_le _⟩ (fun H locs hn_r9 hP hS => ?_)
        refine lv_istore (lv' := [(5, .int r9), (0, .ref (ad 56)), (1, .int x1), (2, .int x2), (3, .int x3), (4, .int x4)]) hx hb dX4_fillNew_40 hl (by decide) rfl (fun ls hl => ?_)
        refine lv_iconst (v := 0) hx hb dX4_fillNew_42 (by decide) ?_
        refine lv_istore (lv' := [(6, .int 0), (5, .int r9), (0, .ref (ad 56)), (1, .int x1), (2, .int x2), (3, .int x3), (4, .int x4)]) hx hb dX4_fillNew_43 hl (by decide) rfl (fun ls hl => ?_)
        exact L45 (fun x1 x2 x3 x4 D => P_X4_fillNew_28 (gN XG) F n x1 x2 x3 x4 D) ih F x1 x2 x3 x4 r9 0 D9 _ _ _ h hP hS (lv_sub hl [2, 3, 4, 5, 6, 1, 0] rfl)
  have L25 : ∀ (x1 x2 x3 : Int32) (D : Mm) (H : Heap) (locs : List Loc) (ls : Array Slot), P_X4_fillNew_25 (gN XG) F x1 x2 x3 D = some (r0, D') → va_P dd vwCl (wW Y XG ad D) H → va_S (pA XG ad) s.heap H locs → lv_has ls 7 [(0, .ref (ad 56)), (1, .int x1), (2, .int x2), (3, .int x3)] → W p l e (headSpec wzX4_fillNew rm_X4_fillNew).room s m ([.ref (ad 56), .int a1, .int a2, .int a3].toArray) below meth c H locs 0 0 (MQ below (Qv dd Y XG ad D') ([.ref (ad 56), .int a1, .int a2, .int a3].toArray) s 0 0 (pA XG ad)) (F0 m 25 ls []) := by
    intro x1 x2 x3 D H locs ls h hP hS hl
    have h : ((P_X4_fillNew_28 (gN XG) F F x1 x2 x3 1 D) : Rs) = some (r0, D') := h
    refine lv_iconst (v := 1) hx hb dX4_fillNew_25 (by decide) ?_
    refine lv_istore (lv' := [(4, .int 1), (0, .ref (ad 56)), (1, .int x1), (2, .int x2), (3, .int x3)]) hx hb dX4_fillNew_26 hl (by decide) rfl (fun ls hl => ?_)
    exact L28 F x1 x2 x3 1 D _ _ _ h hP hS (lv_sub hl [1, 2, 3, 4, 0] rfl)
  have hl := lv_entry ([.ref (ad 56), .int a1, .int a2, .int a3]) (n := 7) (Nat.le_of_ble_eq_true rfl)
  rw [lg_entry_eq]
  generalize (lg_sl ([.ref (ad 56), .int a1, .int a2, .int a3]) ++ List.replicate (7 - (lg_sl ([.ref (ad 56), .int a1, .int a2, .int a3])).length) Slot.unset).toArray = ls at hl ⊢
  have hl : lv_has ls 7 [(0, .ref (ad 56)), (1, .int a1), (2, .int a2), (3, .int a3)] := hl
  have hP : va_P dd vwCl (wW Y XG ad D0) s.heap := hP
  generalize D0 = D at h hP
  have h : ((bi (P_X7_clearRow (gN XG) F 57 0 64 D) (fun r10 D10 => if inB 0 ((gN XG) 57) = true then (if inB 1 ((gN XG) 57) = true then (P_X4_fillNew_25 (gN XG) F a1 a2 a3 (up2 (up2 D10 57 (Int32.toNatClampNeg 0) 9) 57 (Int32.toNatClampNeg 1) 1)) else none) else none)) : Rs) = some (r0, D') := h
  refine lv_aload_n hx hb dX4_fillNew_0 rfl (lv_at hl 0 rfl) ?_
  refine x_get hx hb ht0 u_X4 hown hK hP (xk_56).1 (ce4 (xk_56).2) rfl 0 (by decide) (ht0 _ m_FL_X4_9) rfl (rfv (G := XG) (c := 56) (k := 0) (c' := 57) rfl) dX4_fillNew_1 ?_
  refine lv_iconst (v := 0) hx hb dX4_fillNew_4 (by decide) ?_
  refine lv_bipush (v := 64) hx hb dX4_fillNew_5 (by decide) ?_
  obtain ⟨r10, D10, hc10, h⟩ := bi_some h
  refine x_callNv (As := [.ref (ad 57), .int 0, .int 64]) ⟨hx, hb, hml, hown, ht0⟩ hK hT hP hS (c_X7_clearRow l dd Y t ad ij F 57 xk_57 0 64 _ _ _ hc10) hT.2.2.2.2.2.2.2.2.2.2.2.2.1 ss_X7_clearRow hd_X7_clearRow rfl rfl ⟨Nat.le_of_ble_eq_true rfl, Nat.le_of_ble_eq_true rfl⟩ rfl hl.1 rfl (Nat.le_of_ble_eq_true rfl) dX4_fillNew_7 ⟨Nat.zero_le _, Nat.zero_le _⟩ (fun H locs hP hS => ?_)
  refine lv_aload_n hx hb dX4_fillNew_10 rfl (lv_at hl 0 rfl) ?_
  refine x_get hx hb ht0 u_X4 hown hK hP (xk_56).1 (ce4 (xk_56).2) rfl 0 (by decide) (ht0 _ m_FL_X4_9) rfl (rfv (G := XG) (c := 56) (k := 0) (c' := 57) rfl) dX4_fillNew_11 ?_
  refine lv_iconst (v := 0) hx hb dX4_fillNew_14 (by decide) ?_
  refine lv_bipush (v := 9) hx hb dX4_fillNew_15 (by decide) ?_
  obtain ⟨b11, h⟩ := x_if h
  refine x_ast hx hb hK ij hP hS xk_57 b11 dX4_fillNew_17 (fun H locs hP hS => ?_)
  refine lv_aload_n hx hb dX4_fillNew_18 rfl (lv_at hl 0 rfl) ?_
  refine x_get hx hb ht0 u_X4 hown hK hP (xk_56).1 (ce4 (xk_56).2) rfl 0 (by decide) (ht0 _ m_FL_X4_9) rfl (rfv (G := XG) (c := 56) (k := 0) (c' := 57) rfl) dX4_fillNew_19 ?_
  refine lv_iconst (v := 1) hx hb dX4_fillNew_22 (by decide) ?_
  refine lv_iconst (v := 1) hx hb dX4_fillNew_23 (by decide) ?_
  obtain ⟨b12, h⟩ := x_if h
  refine x_ast hx hb hK ij hP hS xk_57 b12 dX4_fillNew_24 (fun H locs hP hS => ?_)
  exact L25 a1 a2 a3 (up2 (up2 D10 57 (Int32.toNatClampNeg 0) 9) 57 (Int32.toNatClampNeg 1) 1) _ _ _ h hP hS (lv_sub hl [0, 1, 2, 3] rfl)
