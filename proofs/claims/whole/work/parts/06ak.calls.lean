abbrev rm_X8_isFree : Room := { frames := 0, cells := 0, slots := 0, locals := 0 }
set_option maxHeartbeats 4000000 in
set_option maxRecDepth 100000 in
theorem c_X8_isFree (l : Launch) (dd : Dd) (Y : Yc) (t : Ts3) (ad : Nat → Nat) (ij : Ij MG ad) (F : Nat) (a1 a2 : Int32) (D0 D' : Mm) (r0 : Int32) (h : P_X8_isFree (gN MG) F a1 a2 D0 = some (r0, D')) : Met l yX8_isFree wzX8_isFree rm_X8_isFree (va_Pc [.ref (ad 0), .int a1, .int a2] (Wd dd Y t MG ad D0)) (Qi dd Y MG ad .boolean r0 D') 0 0 (pA MG ad) := by
  refine Met.ofW (cc := cX8_isFree) (maxL := 3) (ret := (some .boolean)) (by decide) rfl ?_
  intro p e s m args below meth c s₁ B hml hv
  obtain ⟨rfl, hP, hK, hT⟩ := hv
  have hx := B.exec
  have hb := B.bytes
  have hr := B.returns
  have ht0 : ∀ w ∈ W0, w.before _ s = true := fun w h => atoms_spec (ws := wzX8_isFree) B.pre w (List.mem_cons_of_mem _ h)
  have hown : s.vm.findClass RX8 = some m.cls := findClass_of_methodNamed B.named
  have hlocks := B.notSynchronized
  have hS : va_S (pA MG ad) s.heap s.heap [] := va_S.rf
  have hl := lv_entry ([.ref (ad 0), .int a1, .int a2]) (n := 3) (Nat.le_of_ble_eq_true rfl)
  rw [lg_entry_eq]
  generalize (lg_sl ([.ref (ad 0), .int a1, .int a2]) ++ List.replicate (3 - (lg_sl ([.ref (ad 0), .int a1, .int a2])).length) Slot.unset).toArray = ls at hl ⊢
  have hl : lv_has ls 3 [(0, .ref (ad 0)), (1, .int a1), (2, .int a2)] := hl
  have hP : va_P dd vwCl (wW Y MG ad D0) s.heap := hP
  generalize D0 = D at h hP
  have h : ((if inB ((2 * a1) + (a2 / 8)) ((gN MG) 9) = true then (if (((D 9 (Int32.toNatClampNeg ((2 * a1) + (a2 / 8)))) >>> ((jrem a2 8) &&& 31)) &&& 1) = 1 then (some (1, D)) else (some (0, D))) else none) : Rs) = some (r0, D') := h
  refine lv_aload_n hx hb dX8_isFree_0 rfl (lv_at hl 0 rfl) ?_
  refine x_get hx hb ht0 u_X8 hown hK hP (mk_0).1 (ce8 (mk_0).2) rfl 19 (by decide) (ht0 _ m_FL_X8_40) rfl (rfv (G := MG) (c := 0) (k := 19) (c' := 9) rfl) dX8_isFree_1 ?_
  refine lv_iconst (v := 2) hx hb dX8_isFree_4 (by decide) ?_
  refine lv_iload_n hx hb dX8_isFree_5 rfl (lv_at hl 1 rfl) ?_
  refine lv_imul hx hb dX8_isFree_6 ?_
  refine lv_iload_n hx hb dX8_isFree_7 rfl (lv_at hl 2 rfl) ?_
  refine lv_bipush (v := 8) hx hb dX8_isFree_8 (by decide) ?_
  refine lv_idiv hx hb dX8_isFree_10 (by decide) ?_
  refine lv_iadd hx hb dX8_isFree_11 ?_
  obtain ⟨b1, h⟩ := x_if h
  refine x_ald hx hb hK hP mk_9 b1 dX8_isFree_12 ?_
  refine lv_iload_n hx hb dX8_isFree_13 rfl (lv_at hl 2 rfl) ?_
  refine lv_bipush (v := 8) hx hb dX8_isFree_14 (by decide) ?_
  refine lv_irem hx hb dX8_isFree_16 (by decide) ?_
  refine lv_ishr hx hb dX8_isFree_17 ?_
  refine lv_iconst (v := 1) hx hb dX8_isFree_18 (by decide) ?_
  refine lv_iand hx hb dX8_isFree_19 ?_
  refine lv_iconst (v := 1) hx hb dX8_isFree_20 (by decide) ?_
  refine lv_icmp_ne (tgt := 28) hx hb dX8_isFree_21 (by decide) (fun c2 => ?_) (fun c2 => ?_)
  · have h := x_f (show ¬ ((((D 9 (Int32.toNatClampNeg ((2 * a1) + (a2 / 8)))) >>> ((jrem a2 8) &&& 31)) &&& 1) = 1) from c2) h
    refine lv_iconst (v := 0) hx hb dX8_isFree_28 (by decide) ?_
    exact x_iret hx hb hr hlocks rfl hP hS h dX8_isFree_29
  · have h := x_t (show (((D 9 (Int32.toNatClampNeg ((2 * a1) + (a2 / 8)))) >>> ((jrem a2 8) &&& 31)) &&& 1) = 1 from c2) h
    refine lv_iconst (v := 1) hx hb dX8_isFree_24 (by decide) ?_
    refine lv_goto (tgt := 29) hx hb dX8_isFree_25 (by decide) ?_
    exact x_iret hx hb hr hlocks rfl hP hS h dX8_isFree_29
abbrev rm_X8_setFree : Room := { frames := 0, cells := 0, slots := 0, locals := 0 }
set_option maxHeartbeats 4000000 in
set_option maxRecDepth 100000 in
theorem c_X8_setFree (l : Launch) (dd : Dd) (Y : Yc) (t : Ts3) (ad : Nat → Nat) (ij : Ij MG ad) (F : Nat) (a1 a2 a3 : Int32) (D0 D' : Mm) (r0 : Int32) (h : P_X8_setFree (gN MG) F a1 a2 a3 D0 = some (r0, D')) : Met l yX8_setFree wzX8_setFree rm_X8_setFree (va_Pc [.ref (ad 0), .int a1, .int a2, .int a3] (Wd dd Y t MG ad D0)) (Qv dd Y MG ad D') 0 0 (pA MG ad) := by
  refine Met.ofW (cc := cX8_setFree) (maxL := 6) (ret := none) (by decide) rfl ?_
  intro p e s m args below meth c s₁ B hml hv
  obtain ⟨rfl, hP, hK, hT⟩ := hv
  have hx := B.exec
  have hb := B.bytes
  have hr := B.returns
  have ht0 : ∀ w ∈ W0, w.before _ s = true := fun w h => atoms_spec (ws := wzX8_setFree) B.pre w (List.mem_cons_of_mem _ h)
  have hown : s.vm.findClass RX8 = some m.cls := findClass_of_methodNamed B.named
  have hlocks := B.notSynchronized
  have hS : va_S (pA MG ad) s.heap s.heap [] := va_S.rf
  have L18 : ∀ (x3 x4 x5 : Int32) (D : Mm) (H : Heap) (locs : List Loc) (ls : Array Slot), P_X8_setFree_18 (gN MG) F x3 x4 x5 D = some (r0, D') → va_P dd vwCl (wW Y MG ad D) H → va_S (pA MG ad) s.heap H locs → lv_has ls 6 [(0, .ref (ad 0)), (3, .int x3), (4, .int x4), (5, .int x5)] → W p l e (headSpec wzX8_setFree rm_X8_setFree).room s m ([.ref (ad 0), .int a1, .int a2, .int a3].toArray) below meth c H locs 0 0 (MQ below (Qv dd Y MG ad D') ([.ref (ad 0), .int a1, .int a2, .int a3].toArray) s 0 0 (pA MG ad)) (F0 m 18 ls []) := by
    intro x3 x4 x5 D H locs ls h hP hS hl
    have h : ((if x3 = 0 then (if inB x4 ((gN MG) 9) = true then (if inB x4 ((gN MG) 9) = true then (some (0, up2 D 9 (Int32.toNatClampNeg x4) ((D 9 (Int32.toNatClampNeg x4)) &&& (x5 ^^^ (-1))))) else none) else none) else (if inB x4 ((gN MG) 9) = true then (if inB x4 ((gN MG) 9) = true then (some (0, up2 D 9 (Int32.toNatClampNeg x4) ((D 9 (Int32.toNatClampNeg x4)) ||| x5))) else none) else none)) : Rs) = some (r0, D') := h
    refine lv_aload_n hx hb dX8_setFree_18 rfl (lv_at hl 0 rfl) ?_
    refine x_get hx hb ht0 u_X8 hown hK hP (mk_0).1 (ce8 (mk_0).2) rfl 19 (by decide) (ht0 _ m_FL_X8_40) rfl (rfv (G := MG) (c := 0) (k := 19) (c' := 9) rfl) dX8_setFree_19 ?_
    refine lv_iload hx hb dX8_setFree_22 (lv_at hl 2 rfl) ?_
    refine lv_iload_n hx hb dX8_setFree_24 rfl (lv_at hl 1 rfl) ?_
    refine lv_if_eq (tgt := 41) hx hb dX8_setFree_25 (by decide) (fun c1 => ?_) (fun c1 => ?_)
    · have h := x_t (show x3 = 0 from c1) h
      refine lv_aload_n hx hb dX8_setFree_41 rfl (lv_at hl 0 rfl) ?_
      refine x_get hx hb ht0 u_X8 hown hK hP (mk_0).1 (ce8 (mk_0).2) rfl 19 (by decide) (ht0 _ m_FL_X8_40) rfl (rfv (G := MG) (c := 0) (k := 19) (c' := 9) rfl) dX8_setFree_42 ?_
      refine lv_iload hx hb dX8_setFree_45 (lv_at hl 2 rfl) ?_
      obtain ⟨b2, h⟩ := x_if h
      refine x_ald hx hb hK hP mk_9 b2 dX8_setFree_47 ?_
      refine lv_iload hx hb dX8_setFree_48 (lv_at hl 3 rfl) ?_
      refine lv_iconst (v := (-1)) hx hb dX8_setFree_50 (by decide) ?_
      refine lv_ixor hx hb dX8_setFree_51 ?_
      refine lv_iand hx hb dX8_setFree_52 ?_
      obtain ⟨b3, h⟩ := x_if h
      refine x_ast hx hb hK ij hP hS mk_9 b3 dX8_setFree_53 (fun H locs hP hS => ?_)
      exact x_vret hx hb hr hlocks hP hS h dX8_setFree_54
    · have h := x_f (show ¬ (x3 = 0) from c1) h
      refine lv_aload_n hx hb dX8_setFree_28 rfl (lv_at hl 0 rfl) ?_
      refine x_get hx hb ht0 u_X8 hown hK hP (mk_0).1 (ce8 (mk_0).2) rfl 19 (by decide) (ht0 _ m_FL_X8_40) rfl (rfv (G := MG) (c := 0) (k := 19) (c' := 9) rfl) dX8_setFree_29 ?_
      refine lv_iload hx hb dX8_setFree_32 (lv_at hl 2 rfl) ?_
      obtain ⟨b4, h⟩ := x_if h
      refine x_ald hx hb hK hP mk_9 b4 dX8_setFree_34 ?_
      refine lv_iload hx hb dX8_setFree_35 (lv_at hl 3 rfl) ?_
      refine lv_ior hx hb dX8_setFree_37 ?_
      refine lv_goto (tgt := 53) hx hb dX8_setFree_38 (by decide) ?_
      obtain ⟨b5, h⟩ := x_if h
      refine x_ast hx hb hK ij hP hS mk_9 b5 dX8_setFree_53 (fun H locs hP hS => ?_)
      exact x_vret hx hb hr hlocks hP hS h dX8_setFree_54
  have hl := lv_entry ([.ref (ad 0), .int a1, .int a2, .int a3]) (n := 6) (Nat.le_of_ble_eq_true rfl)
  rw [lg_entry_eq]
  generalize (lg_sl ([.ref (ad 0), .int a1, .int a2, .int a3]) ++ List.replicate (6 - (lg_sl ([.ref (ad 0), .int a1, .int a2, .int a3])).length) Slot.unset).toArray = ls at hl ⊢
  have hl : lv_has ls 6 [(0, .ref (ad 0)), (1, .int a1), (2, .int a2), (3, .int a3)] := hl
  have hP : va_P dd vwCl (wW Y MG ad D0) s.heap := hP
  generalize D0 = D at h hP
  have h : ((P_X8_setFree_18 (gN MG) F a3 ((2 * a1) + (a2 / 8)) (1 <<< ((jrem a2 8) &&& 31)) D) : Rs) = some (r0, D') := h
  refine lv_iconst (v := 2) hx hb dX8_setFree_0 (by decide) ?_
  refine lv_iload_n hx hb dX8_setFree_1 rfl (lv_at hl 1 rfl) ?_
  refine lv_imul hx hb dX8_setFree_2 ?_
  refine lv_iload_n hx hb dX8_setFree_3 rfl (lv_at hl 2 rfl) ?_
  refine lv_bipush (v := 8) hx hb dX8_setFree_4 (by decide) ?_
  refine lv_idiv hx hb dX8_setFree_6 (by decide) ?_
  refine lv_iadd hx hb dX8_setFree_7 ?_
  refine lv_istore (lv' := [(4, .int ((2 * a1) + (a2 / 8))), (0, .ref (ad 0)), (1, .int a1), (2, .int a2), (3, .int a3)]) hx hb dX8_setFree_8 hl (by decide) rfl (fun ls hl => ?_)
  refine lv_iconst (v := 1) hx hb dX8_setFree_10 (by decide) ?_
  refine lv_iload_n hx hb dX8_setFree_11 rfl (lv_at hl 3 rfl) ?_
  refine lv_bipush (v := 8) hx hb dX8_setFree_12 (by decide) ?_
  refine lv_irem hx hb dX8_setFree_14 (by decide) ?_
  refine lv_ishl hx hb dX8_setFree_15 ?_
  refine lv_istore (lv' := [(5, .int (1 <<< ((jrem a2 8) &&& 31))), (4, .int ((2 * a1) + (a2 / 8))), (0, .ref (ad 0)), (1, .int a1), (2, .int a2), (3, .int a3)]) hx hb dX8_setFree_16 hl (by decide) rfl (fun ls hl => ?_)
  exact L18 a3 ((2 * a1) + (a2 / 8)) (1 <<< ((jrem a2 8) &&& 31)) D _ _ _ h hP hS (lv_sub hl [2, 5, 1, 0] rfl)
abbrev rm_X8_writeMap : Room := { frames := 7, cells := 0, slots := 0, locals := 162 }
set_option maxHeartbeats 4000000 in
set_option maxRecDepth 100000 in
theorem c_X8_writeMap (l : Launch) (dd : Dd) (Y : Yc) (t : Ts3) (ad : Nat → Nat) (ij : Ij MG ad) (F : Nat) (D0 D' : Mm) (r0 : Int32) (h : P_X8_writeMap (gN MG) F D0 = some (r0, D')) : Met l yX8_writeMap wzX8_writeMap rm_X8_writeMap (va_Pc [.ref (ad 0)] (Wd dd Y t MG ad D0)) (Qi dd Y MG ad .boolean r0 D') 0 0 (pA MG ad) := by
  refine Met.ofW (cc := cX8_writeMap) (maxL := 2) (ret := (some .boolean)) (by decide) rfl ?_
  intro p e s m args below meth c s₁ B hml hv
  obtain ⟨rfl, hP, hK, hT⟩ := hv
  have hx := B.exec
  have hb := B.bytes
  have hr := B.returns
  have ht0 : ∀ w ∈ W0, w.before _ s = true := fun w h => atoms_spec (ws := wzX8_writeMap) B.pre w (List.mem_cons_of_mem _ h)
  have hown : s.vm.findClass RX8 = some m.cls := findClass_of_methodNamed B.named
  have hlocks := B.notSynchronized
  have hS : va_S (pA MG ad) s.heap s.heap [] := va_S.rf
  have L2 : ∀ (n : Nat), ∀ (x1 : Int32) (D : Mm) (H : Heap) (locs : List Loc) (ls : Array Slot), P_X8_writeMap_2 (gN MG) F n x1 D = some (r0, D') → va_P dd vwCl (wW Y MG ad D) H → va_S (pA MG ad) s.heap H locs → lv_has ls 2 [(0, .ref (ad 0)), (1, .int x1)] → W p l e (headSpec wzX8_writeMap rm_X8_writeMap).room s m ([.ref (ad 0)].toArray) below meth c H locs 0 0 (MQ below (Qi dd Y MG ad .boolean r0 D') ([.ref (ad 0)].toArray) s 0 0 (pA MG ad)) (F0 m 2 ls []) := by
    intro n
    induction n with
    | zero =>
      intro x1 D H locs ls h hP hS hl
      cases h
    | succ n ih =>
      intro x1 D H locs ls h hP hS hl
      have h : ((if 64 ≤ x1 then (bi (P_X8_writeBlock (gN MG) F 9 0 D) (fun r2 D2 => if r2 = 0 then (some (1, D2)) else (bi (P_X8_ends (gN MG) F r2 9 0 D2) (fun r4 D4 => if r4 = 0 then (some (1, D4)) else (some (0, D4)))))) else (if inB x1 ((gN MG) 9) = true then (if inB x1 ((gN MG) 8) = true then (P_X8_writeMap_2 (gN MG) F n (x1 + 1) (up2 D 8 (Int32.toNatClampNeg x1) (D 9 (Int32.toNatClampNeg x1)))) else none) else none)) : Rs) = some (r0, D') := h
      refine lv_iload_n hx hb dX8_writeMap_2 rfl (lv_at hl 1 rfl) ?_
      refine lv_bipush (v := 64) hx hb dX8_writeMap_3 (by decide) ?_
      refine lv_icmp_ge (tgt := 26) hx hb dX8_writeMap_5 (by decide) (fun c1 => ?_) (fun c1 => ?_)
      · have h := x_t (show 64 ≤ x1 from c1) h
        refine lv_aload_n hx hb dX8_writeMap_26 rfl (lv_at hl 0 rfl) ?_
        refine lv_bipush (v := 9) hx hb dX8_writeMap_27 (by decide) ?_
        refine lv_iconst (v := 0) hx hb dX8_writeMap_29 (by decide) ?_
        obtain ⟨r2, D2, hc2, h⟩ := bi_some h
        refine x_callVi (As := [.int 9, .int 0]) ⟨hx, hb, hml, hown, ht0⟩ hK hT hP hS (c_X8_writeBlock l dd Y t ad ij F 9 0 _ _ _ hc2) m_ML_X8_150 sv_X8_writeBlock hd_X8_writeBlock rfl rfl ⟨Nat.le_of_ble_eq_true rfl, Nat.le_of_ble_eq_true rfl⟩ (mk_0).1 (ce8 (mk_0).2) rfl rfl hl.1 rfl (Nat.le_of_ble_eq_true rfl) dX8_writeMap_30 ⟨Nat.zero_le _, Nat.zero_le _⟩ (fun H locs hn_r2 hP hS => ?_)
        refine lv_istore_n (lv' := [(1, .int r2), (0, .ref (ad 0))]) hx hb dX8_writeMap_33 rfl hl (by decide) rfl (fun ls hl => ?_)
        refine lv_iload_n hx hb dX8_writeMap_34 rfl (lv_at hl 0 rfl) ?_
        refine lv_if_eq (tgt := 49) hx hb dX8_writeMap_35 (by decide) (fun c3 => ?_) (fun c3 => ?_)
        · have h := x_t (show r2 = 0 from c3) h
          refine lv_iconst (v := 1) hx hb dX8_writeMap_49 (by decide) ?_
          refine lv_goto (tgt := 54) hx hb dX8_writeMap_50 (by decide) ?_
          exact x_iret hx hb hr hlocks rfl hP hS h dX8_writeMap_54
        · have h := x_f (show ¬ (r2 = 0) from c3) h
          refine lv_aload_n hx hb dX8_writeMap_38 rfl (lv_at hl 1 rfl) ?_
          refine lv_iload_n hx hb dX8_writeMap_39 rfl (lv_at hl 0 rfl) ?_
          refine lv_bipush (v := 9) hx hb dX8_writeMap_40 (by decide) ?_
          refine lv_iconst (v := 0) hx hb dX8_writeMap_42 (by decide) ?_
          obtain ⟨r4, D4, hc4, h⟩ := bi_some h
          refine x_callVi (As := [.int r2, .int 9, .int 0]) ⟨hx, hb, hml, hown, ht0⟩ hK hT hP hS (c_X8_ends l dd Y t ad ij F r2 9 0 _ _ _ hc4) m_ML_X8_143 sv_X8_ends hd_X8_ends rfl rfl ⟨Nat.le_of_ble_eq_true rfl, Nat.le_of_ble_eq_true rfl⟩ (mk_0).1 (ce8 (mk_0).2) rfl rfl hl.1 rfl (Nat.le_of_ble_eq_true rfl) dX8_writeMap_43 ⟨Nat.zero_le _, Nat.zero_le _⟩ (fun H locs hn_r4 hP hS => ?_)
          refine lv_if_ne (tgt := 53) hx hb dX8_writeMap_46 (by decide) (fun c5 => ?_) (fun c5 => ?_)
          · have h := x_f (show ¬ (r4 = 0) from c5) h
            refine lv_iconst (v := 0) hx hb dX8_writeMap_53 (by decide) ?_
            exact x_iret hx hb hr hlocks rfl hP hS h dX8_writeMap_54
          · have h := x_t (show r4 = 0 from c5) h
            refine lv_iconst (v := 1) hx hb dX8_writeMap_49 (by decide) ?_
            refine lv_goto (tgt := 54) hx hb dX8_writeMap_50 (by decide) ?_
            exact x_iret hx hb hr hlocks rfl hP hS h dX8_writeMap_54
      · have h := x_f (show ¬ (64 ≤ x1) from c1) h
        refine lv_aload_n hx hb dX8_writeMap_8 rfl (lv_at hl 0 rfl) ?_
        refine x_get hx hb ht0 u_X8 hown hK hP (mk_0).1 (ce8 (mk_0).2) rfl 18 (by decide) (ht0 _ m_FL_X8_37) rfl (rfv (G := MG) (c := 0) (k := 18) (c' := 8) rfl) dX8_writeMap_9 ?_
        refine lv_iload_n hx hb dX8_writeMap_12 rfl (lv_at hl 1 rfl) ?_
        refine lv_aload_n hx hb dX8_writeMap_13 rfl (lv_at hl 0 rfl) ?_
        refine x_get hx hb ht0 u_X8 hown hK hP (mk_0).1 (ce8 (mk_0).2) rfl 19 (by decide) (ht0 _ m_FL_X8_40) rfl (rfv (G := MG) (c := 0) (k := 19) (c' := 9) rfl) dX8_writeMap_14 ?_
        refine lv_iload_n hx hb dX8_writeMap_17 rfl (lv_at hl 1 rfl) ?_
        obtain ⟨b6, h⟩ := x_if h
        refine x_ald hx hb hK hP mk_9 b6 dX8_writeMap_18 ?_
        obtain ⟨b7, h⟩ := x_if h
        refine x_ast hx hb hK ij hP hS mk_8 b7 dX8_writeMap_19 (fun H locs hP hS => ?_)
        refine lv_iinc (v := x1 + 1) (lv' := [(1, .int (x1 + 1)), (0, .ref (ad 0))]) hx hb dX8_writeMap_20 hl (k := 1) rfl rfl (by decide) rfl (fun ls hl => ?_)
        refine lv_goto (tgt := 2) hx hb dX8_writeMap_23 (by decide) ?_
        exact ih (x1 + 1) (up2 D 8 (Int32.toNatClampNeg x1) (D 9 (Int32.toNatClampNeg x1))) _ _ _ h hP hS (lv_sub hl [1, 0] rfl)
  have hl := lv_entry ([.ref (ad 0)]) (n := 2) (Nat.le_of_ble_eq_true rfl)
  rw [lg_entry_eq]
  generalize (lg_sl ([.ref (ad 0)]) ++ List.replicate (2 - (lg_sl ([.ref (ad 0)])).length) Slot.unset).toArray = ls at hl ⊢
  have hl : lv_has ls 2 [(0, .ref (ad 0))] := hl
  have hP : va_P dd vwCl (wW Y MG ad D0) s.heap := hP
  generalize D0 = D at h hP
  have h : ((P_X8_writeMap_2 (gN MG) F F 0 D) : Rs) = some (r0, D') := h
  refine lv_iconst (v := 0) hx hb dX8_writeMap_0 (by decide) ?_
  refine lv_istore_n (lv' := [(1, .int 0), (0, .ref (ad 0))]) hx hb dX8_writeMap_1 rfl hl (by decide) rfl (fun ls hl => ?_)
  exact L2 F 0 D _ _ _ h hP hS (lv_sub hl [1, 0] rfl)
abbrev rm_X8_nameByte : Room := { frames := 0, cells := 0, slots := 0, locals := 0 }
set_option maxHeartbeats 4000000 in
set_option maxRecDepth 100000 in
theorem c_X8_nameByte (l : Launch) (dd : Dd) (Y : Yc) (t : Ts3) (ad : Nat → Nat) (ij : Ij MG ad) (F : Nat) (a0 a1 a2 : Int32) (D0 D' : Mm) (r0 : Int32) (h : P_X8_nameByte (gN MG) F a0 a1 a2 D0 = some (r0, D')) : Met l yX8_nameByte wzX8_nameByte rm_X8_nameByte (va_Pc [.int a0, .int a1, .int a2] (Wd dd Y t MG ad D0)) (Qi dd Y MG ad .int r0 D') 0 0 (pA MG ad) := by
  refine Met.ofW (cc := cX8_nameByte) (maxL := 3) (ret := (some .int)) (by decide) rfl ?_
  intro p e s m args below meth c s₁ B hml hv
  obtain ⟨rfl, hP, hK, hT⟩ := hv
  have hx := B.exec
  have hb := B.bytes
  have hr := B.returns
  have ht0 : ∀ w ∈ W0, w.before _ s = true := fun w h => atoms_spec (ws := wzX8_nameByte) B.pre w (List.mem_cons_of_mem _ h)
  have hown : s.vm.findClass RX8 = some m.cls := findClass_of_methodNamed B.named
  have hlocks := B.notSynchronized
  have hS : va_S (pA MG ad) s.heap s.heap [] := va_S.rf
  have hl := lv_entry ([.int a0, .int a1, .int a2]) (n := 3) (Nat.le_of_ble_eq_true rfl)
  rw [lg_entry_eq]
  generalize (lg_sl ([.int a0, .int a1, .int a2]) ++ List.replicate (3 - (lg_sl ([.int a0, .int a1, .int a2])).length) Slot.unset).toArray = ls at hl ⊢
  have hl : lv_has ls 3 [(0, .int a0), (1, .int a1), (2, .int a2)] := hl
  have hP : va_P dd vwCl (wW Y MG ad D0) s.heap := hP
  generalize D0 = D at h hP
  have h : ((if 4 ≤ a2 then (some ((a1 >>> ((56 - (8 * a2)) &&& 31)) &&& 255, D)) else (some ((a0 >>> ((24 - (8 * a2)) &&& 31)) &&& 255, D))) : Rs) = some (r0, D') := h
  refine lv_iload_n hx hb dX8_nameByte_0 rfl (lv_at hl 2 rfl) ?_
  refine lv_iconst (v := 4) hx hb dX8_nameByte_1 (by decide) ?_
  refine lv_icmp_ge (tgt := 17) hx hb dX8_nameByte_2 (by decide) (fun c1 => ?_) (fun c1 => ?_)
  · have h := x_t (show 4 ≤ a2 from c1) h
    refine lv_iload_n hx hb dX8_nameByte_17 rfl (lv_at hl 1 rfl) ?_
    refine lv_bipush (v := 56) hx hb dX8_nameByte_18 (by decide) ?_
    refine lv_bipush (v := 8) hx hb dX8_nameByte_20 (by decide) ?_
    refine lv_iload_n hx hb dX8_nameByte_22 rfl (lv_at hl 2 rfl) ?_
    refine lv_imul hx hb dX8_nameByte_23 ?_
    refine lv_isub hx hb dX8_nameByte_24 ?_
    refine lv_ishr hx hb dX8_nameByte_25 ?_
    refine lv_sipush (v := 255) hx hb dX8_nameByte_26 (by decide) ?_
    refine lv_iand hx hb dX8_nameByte_29 ?_
    exact x_iret hx hb hr hlocks rfl hP hS h dX8_nameByte_30
  · have h := x_f (show ¬ (4 ≤ a2) from c1) h
    refine lv_iload_n hx hb dX8_nameByte_5 rfl (lv_at hl 0 rfl) ?_
    refine lv_bipush (v := 24) hx hb dX8_nameByte_6 (by decide) ?_
    refine lv_bipush (v := 8) hx hb dX8_nameByte_8 (by decide) ?_
    refine lv_iload_n hx hb dX8_nameByte_10 rfl (lv_at hl 2 rfl) ?_
    refine lv_imul hx hb dX8_nameByte_11 ?_
    refine lv_isub hx hb dX8_nameByte_12 ?_
    refine lv_ishr hx hb dX8_nameByte_13 ?_
    refine lv_goto (tgt := 26) hx hb dX8_nameByte_14 (by decide) ?_
    refine lv_sipush (v := 255) hx hb dX8_nameByte_26 (by decide) ?_
    refine lv_iand hx hb dX8_nameByte_29 ?_
    exact x_iret hx hb hr hlocks rfl hP hS h dX8_nameByte_30
abbrev rm_X8_hasName : Room := { frames := 1, cells := 0, slots := 0, locals := 22 }
set_option maxHeartbeats 4000000 in
set_option maxRecDepth 100000 in
theorem c_X8_hasName (l : Launch) (dd : Dd) (Y : Yc) (t : Ts3) (ad : Nat → Nat) (ij : Ij MG ad) (F : Nat) (a1 a2 a3 : Int32) (D0 D' : Mm) (r0 : Int32) (h : P_X8_hasName (gN MG) F a1 a2 a3 D0 = some (r0, D')) : Met l yX8_hasName wzX8_hasName rm_X8_hasName (va_Pc [.ref (ad 0), .int a1, .int a2, .int a3] (Wd dd Y t MG ad D0)) (Qi dd Y MG ad .boolean r0 D') 0 0 (pA MG ad) := by
  refine Met.ofW (cc := cX8_hasName) (maxL := 6) (ret := (some .boolean)) (by decide) rfl ?_
  intro p e s m args below meth c s₁ B hml hv
  obtain ⟨rfl, hP, hK, hT⟩ := hv
  have hx := B.exec
  have hb := B.bytes
  have hr := B.returns
  have ht0 : ∀ w ∈ W0, w.before _ s = true := fun w h => atoms_spec (ws := wzX8_hasName) B.pre w (List.mem_cons_of_mem _ h)
  have hown : s.vm.findClass RX8 = some m.cls := findClass_of_methodNamed B.named
  have hlocks := B.notSynchronized
  have hS : va_S (pA MG ad) s.heap s.heap [] := va_S.rf
  have L19 : ∀ (n : Nat), ∀ (x1 x2 x3 x4 x5 : Int32) (D : Mm) (H : Heap) (locs : List Loc) (ls : Array Slot), P_X8_hasName_19 (gN MG) F n x1 x2 x3 x4 x5 D = some (r0, D') → va_P dd vwCl (wW Y MG ad D) H → va_S (pA MG ad) s.heap H locs → lv_has ls 6 [(0, .ref (ad 0)), (1, .int x1), (2, .int x2), (3, .int x3), (4, .int x4), (5, .int x5)] → W p l e (headSpec wzX8_hasName rm_X8_hasName).room s m ([.ref (ad 0), .int a1, .int a2, .int a3].toArray) below meth c H locs 0 0 (MQ below (Qi dd Y MG ad .boolean r0 D') ([.ref (ad 0), .int a1, .int a2, .int a3].toArray) s 0 0 (pA MG ad)) (F0 m 19 ls []) := by
    intro n
    induction n with
    | zero =>
      intro x1 x2 x3 x4 x5 D H locs ls h hP hS hl
      cases h
    | succ n ih =>
      intro x1 x2 x3 x4 x5 D H locs ls h hP hS hl
      have h : ((if 8 ≤ x5 then (if vp_nar .boolean x4 = x4 then (some (x4, D)) else none) else (if x4 = 0 then (P_X8_hasName_19 (gN MG) F n x1 x2 x3 0 (x5 + 1) D) else (if inB ((x1 + 4) + x5) ((gN MG) 10) = true then (bi (P_X8_nameByte (gN MG) F x2 x3 x5 D) (fun r5 D5 => if (D 10 (Int32.toNatClampNeg ((x1 + 4) + x5))) = r5 then (P_X8_hasName_19 (gN MG) F n x1 x2 x3 1 (x5 + 1) D5) else (P_X8_hasName_19 (gN MG) F n x1 x2 x3 0 (x5 + 1) D5))) else none))) : Rs) = some (r0, D') := h
      refine lv_iload hx hb dX8_hasName_19 (lv_at hl 5 rfl) ?_
      refine lv_bipush (v := 8) hx hb dX8_hasName_21 (by decide) ?_
      refine lv_icmp_ge (tgt := 65) hx hb dX8_hasName_23 (by decide) (fun c1 => ?_) (fun c1 => ?_)
      · have h := x_t (show 8 ≤ x5 from c1) h
        refine lv_iload hx hb dX8_hasName_65 (lv_at hl 4 rfl) ?_
        obtain ⟨b2, h⟩ := x_if h
        exact x_iret hx hb hr hlocks (nrB b2) hP hS h dX8_hasName_67
      · have h := x_f (show ¬ (8 ≤ x5) from c1) h
        refine lv_iload hx hb dX8_hasName_26 (lv_at hl 4 rfl) ?_
        refine lv_if_eq (tgt := 56) hx hb dX8_hasName_28 (by decide) (fun c3 => ?_) (fun c3 => ?_)
        · have h := x_t (show x4 = 0 from c3) h
          refine lv_iconst (v := 0) hx hb dX8_hasName_56 (by decide) ?_
          refine lv_istore (lv' := [(4, .int 0), (0, .ref (ad 0)), (1, .int x1), (2, .int x2), (3, .int x3), (5, .int x5)]) hx hb dX8_hasName_57 hl (by decide) rfl (fun ls hl => ?_)
          refine lv_iinc (v := x5 + 1) (lv' := [(5, .int (x5 + 1)), (4, .int 0), (0, .ref (ad 0)), (1, .int x1), (2, .int x2), (3, .int x3)]) hx hb dX8_hasName_59 hl (k := 5) rfl rfl (by decide) rfl (fun ls hl => ?_)
          refine lv_goto (tgt := 19) hx hb dX8_hasName_62 (by decide) ?_
          exact ih x1 x2 x3 0 (x5 + 1) D _ _ _ h hP hS (lv_sub hl [2, 3, 4, 5, 1, 0] rfl)
        · have h := x_f (show ¬ (x4 = 0) from c3) h
          refine lv_aload_n hx hb dX8_hasName_31 rfl (lv_at hl 0 rfl) ?_
          refine x_get hx hb ht0 u_X8 hown hK hP (mk_0).1 (ce8 (mk_0).2) rfl 20 (by decide) (ht0 _ m_FL_X8_43) rfl (rfv (G := MG) (c := 0) (k := 20) (c' := 10) rfl) dX8_hasName_32 ?_
          refine lv_iload_n hx hb dX8_hasName_35 rfl (lv_at hl 1 rfl) ?_
          refine lv_iconst (v := 4) hx hb dX8_hasName_36 (by decide) ?_
          refine lv_iadd hx hb dX8_hasName_37 ?_
          refine lv_iload hx hb dX8_hasName_38 (lv_at hl 5 rfl) ?_
          refine lv_iadd hx hb dX8_hasName_40 ?_
          obtain ⟨b4, h⟩ := x_if h
          refine x_ald hx hb hK hP mk_10 b4 dX8_hasName_41 ?_
          refine lv_iload_n hx hb dX8_hasName_42 rfl (lv_at hl 2 rfl) ?_
          refine lv_iload_n hx hb dX8_hasName_43 rfl (lv_at hl 3 rfl) ?_
          refine lv_iload hx hb dX8_hasName_44 (lv_at hl 5 rfl) ?_
          obtain ⟨r5, D5, hc5, h⟩ := bi_some h
          refine x_callSi (As := [.int x2, .int x3, .int x5]) ⟨hx, hb, hml, hown, ht0⟩ hK hT hP hS (c_X8_nameByte l dd Y t ad ij F x2 x3 x5 _ _ _ hc5) m_ML_X8_153 ss_X8_nameByte hd_X8_nameByte rfl rfl ⟨Nat.le_of_ble_eq_true rfl, Nat.le_of_ble_eq_true rfl⟩ rfl hl.1 rfl (Nat.le_of_ble_eq_true rfl) dX8_hasName_46 ⟨Nat.zero_le _, Nat.zero_le _⟩ (fun H locs hn_r5 hP hS => ?_)
          refine lv_icmp_ne (tgt := 56) hx hb dX8_hasName_49 (by decide) (fun c6 => ?_) (fun c6 => ?_)
          · have h := x_f (show ¬ ((D 10 (Int32.toNatClampNeg ((x1 + 4) + x5))) = r5) from c6) h
            refine lv_iconst (v := 0) hx hb dX8_hasName_56 (by decide) ?_
            refine lv_istore (lv' := [(4, .int 0), (0, .ref (ad 0)), (1, .int x1), (2, .int x2), (3, .int x3), (5, .int x5)]) hx hb dX8_hasName_57 hl (by decide) rfl (fun ls hl => ?_)
            refine lv_iinc (v := x5 + 1) (lv' := [(5, .int (x5 + 1)), (4, .int 0), (0, .ref (ad 0)), (1, .int x1), (2, .int x2), (3, .int x3)]) hx hb dX8_hasName_59 hl (k := 5) rfl rfl (by decide) rfl (fun ls hl => ?_)
            refine lv_goto (tgt := 19) hx hb dX8_hasName_62 (by decide) ?_
            exact ih x1 x2 x3 0 (x5 + 1) D5 _ _ _ h hP hS (lv_sub hl [2, 3, 4, 5, 1, 0] rfl)
          · have h := x_t (show (D 10 (Int32.toNatClampNeg ((x1 + 4) + x5))) = r5 from c6) h
            refine lv_iconst (v := 1) hx hb dX8_hasName_52 (by decide) ?_
            refine lv_goto (tgt := 57) hx hb dX8_hasName_53 (by decide) ?_
            refine lv_istore (lv' := [(4, .int 1), (0, .ref (ad 0)), (1, .int x1), (2, .int x2), (3, .int x3), (5, .int x5)]) hx hb dX8_hasName_57 hl (by decide) rfl (fun ls hl => ?_)
            refine lv_iinc (v := x5 + 1) (lv' := [(5, .int (x5 + 1)), (4, .int 1), (0, .ref (ad 0)), (1, .int x1), (2, .int x2), (3, .int x3)]) hx hb dX8_hasName_59 hl (k := 5) rfl rfl (by decide) rfl (fun ls hl => ?_)
            refine lv_goto (tgt := 19) hx hb dX8_hasName_62 (by decide) ?_
            exact ih x1 x2 x3 1 (x5 + 1) D5 _ _ _ h hP hS (lv_sub hl [2, 3, 4, 5, 1, 0] rfl)
  have hl := lv_entry ([.ref (ad 0), .int a1, .int a2, .int a3]) (n := 6) (Nat.le_of_ble_eq_true rfl)
  rw [lg_entry_eq]
  generalize (lg_sl ([.ref (ad 0), .int a1, .int a2, .int a3]) ++ List.replicate (6 - (lg_sl ([.ref (ad 0), .int a1, .int a2, .int a3])).length) Slot.unset).toArray = ls at hl ⊢
  have hl : lv_has ls 6 [(0, .ref (ad 0)), (1, .int a1), (2, .int a2), (3, .int a3)] := hl
  have hP : va_P dd vwCl (wW Y MG ad D0) s.heap := hP
  generalize D0 = D at h hP
  have h : ((if inB a1 ((gN MG) 10) = true then (if (D 10 (Int32.toNatClampNeg a1)) = 0 then (P_X8_hasName_19 (gN MG) F F a1 a2 a3 0 0 D) else (P_X8_hasName_19 (gN MG) F F a1 a2 a3 1 0 D)) else none) : Rs) = some (r0, D') := h
  refine lv_aload_n hx hb dX8_hasName_0 rfl (lv_at hl 0 rfl) ?_
  refine x_get hx hb ht0 u_X8 hown hK hP (mk_0).1 (ce8 (mk_0).2) rfl 20 (by decide) (ht0 _ m_FL_X8_43) rfl (rfv (G := MG) (c := 0) (k := 20) (c' := 10) rfl) dX8_hasName_1 ?_
  refine lv_iload_n hx hb dX8_hasName_4 rfl (lv_at hl 1 rfl) ?_
  obtain ⟨b7, h⟩ := x_if h
  refine x_ald hx hb hK hP mk_10 b7 dX8_hasName_5 ?_
  refine lv_if_eq (tgt := 13) hx hb dX8_hasName_6 (by decide) (fun c8 => ?_) (fun c8 => ?_)
  · have h := x_t (show (D 10 (Int32.toNatClampNeg a1)) = 0 from c8) h
    refine lv_iconst (v := 0) hx hb dX8_hasName_13 (by decide) ?_
    refine lv_istore (lv' := [(4, .int 0), (0, .ref (ad 0)), (1, .int a1), (2, .int a2), (3, .int a3)]) hx hb dX8_hasName_14 hl (by decide) rfl (fun ls hl => ?_)
    refine lv_iconst (v := 0) hx hb dX8_hasName_16 (by decide) ?_
    refine lv_istore (lv' := [(5, .int 0), (4, .int 0), (0, .ref (ad 0)), (1, .int a1), (2, .int a2), (3, .int a3)]) hx hb dX8_hasName_17 hl (by decide) rfl (fun ls hl => ?_)
    exact L19 F a1 a2 a3 0 0 D _ _ _ h hP hS (lv_sub hl [2, 3, 4, 5, 1, 0] rfl)
  · have h := x_f (show ¬ ((D 10 (Int32.toNatClampNeg a1)) = 0) from c8) h
    refine lv_iconst (v := 1) hx hb dX8_hasName_9 (by decide) ?_
    refine lv_goto (tgt := 14) hx hb dX8_hasName_10 (by decide) ?_
    refine lv_istore (lv' := [(4, .int 1), (0, .ref (ad 0)), (1, .int a1), (2, .int a2), (3, .int a3)]) hx hb dX8_hasName_14 hl (by decide) rfl (fun ls hl => ?_)
    refine lv_iconst (v := 0) hx hb dX8_hasName_16 (by decide) ?_
    refine lv_istore (lv' := [(5, .int 0), (4, .int 1), (0, .ref (ad 0)), (1, .int a1), (2, .int a2), (3, .int a3)]) hx hb dX8_hasName_17 hl (by decide) rfl (fun ls hl => ?_)
    exact L19 F a1 a2 a3 1 0 D _ _ _ h hP hS (lv_sub hl [2, 3, 4, 5, 1, 0] rfl)
abbrev rm_X8_readDirectory : Room := { frames := 7, cells := 0, slots := 0, locals := 162 }
set_option maxHeartbeats 4000000 in
set_option maxRecDepth 100000 in
theorem c_X8_readDirectory (l : Launch) (dd : Dd) (Y : Yc) (t : Ts3) (ad : Nat → Nat) (ij : Ij MG ad) (F : Nat) (a1 a2 a3 : Int32) (D0 D' : Mm) (r0 : Int32) (h : P_X8_readDirectory (gN MG) F a1 a2 a3 D0 = some (r0, D')) : Met l yX8_readDirectory wzX8_readDirectory rm_X8_readDirectory (va_Pc [.ref (ad 0), .int a1, .int a2, .int a3] (Wd dd Y t MG ad D0)) (Qi dd Y MG ad .boolean r0 D') 0 0 (pA MG ad) := by
  refine Met.ofW (cc := cX8_readDirectory) (maxL := 9) (ret := (some .boolean)) (by decide) rfl ?_
  intro p e s m args below meth c s₁ B hml hv
  obtain ⟨rfl, hP, hK, hT⟩ := hv
  have hx := B.exec
  have hb := B.bytes
  have hr := B.returns
  have ht0 : ∀ w ∈ W0, w.before _ s = true := fun w h => atoms_spec (ws := wzX8_readDirectory) B.pre w (List.mem_cons_of_mem _ h)
  have hown : s.vm.findClass RX8 = some m.cls := findClass_of_methodNamed B.named
  have hlocks := B.notSynchronized
  have hS : va_S (pA MG ad) s.heap s.heap [] := va_S.rf
  have L274 : ∀ (k17 : Int32 → Int32 → Int32 → Int32 → Int32 → Mm → Rs) (hk17 : ∀ (x1 x2 x3 x4 x5 : Int32) (D : Mm) (H : Heap) (locs : List Loc) (ls : Array Slot), k17 x1 x2 x3 x4 x5 D = some (r0, D') → va_P dd vwCl (wW Y MG ad D) H → va_S (pA MG ad) s.heap H locs → lv_has ls 9 [(0, .ref (ad 0)), (1, .int x1), (2, .int x2), (3, .int x3), (4, .int x4), (5, .int x5)] → W p l e (headSpec wzX8_readDirectory rm_X8_readDirectory).room s m ([.ref (ad 0), .int a1, .int a2, .int a3].toArray) below meth c H locs 0 0 (MQ below (Qi dd Y MG ad .boolean r0 D') ([.ref (ad 0), .int a1, .int a2, .int a3].toArray) s 0 0 (pA MG ad)) (F0 m 17 ls [])), ∀ (x1 x2 x3 x4 x5 : Int32) (D : Mm) (H : Heap) (locs : List Loc) (ls : Array Slot), P_X8_readDirectory_274 (gN MG) F k17 x1 x2 x3 x4 x5 D = some (r0, D') → va_P dd vwCl (wW Y MG ad D) H → va_S (pA MG ad) s.heap H locs → lv_has ls 9 [(0, .ref (ad 0)), (1, .int x1), (2, .int x2), (3, .int x3), (4, .int x4), (5, .int x5)] → W p l e (headSpec wzX8_readDirectory rm_X8_readDirectory).room s m ([.ref (ad 0), .int a1, .int a2, .int a3].toArray) below meth c H locs 0 0 (MQ below (Qi dd Y MG ad .boolean r0 D') ([.ref (ad 0), .int a1, .int a2, .int a3].toArray) s 0 0 (pA MG ad)) (F0 m 274 ls []) := by
    intro k17 hk17 x1 x2 x3 x4 x5 D H locs ls h hP hS hl
    have h : ((k17 x1 x2 x3 x4 x5 D) : Rs) = some (r0, D') := h
    refine lv_goto (tgt := 17) hx hb dX8_readDirectory_274 (by decide) ?_
    exact hk17 x1 x2 x3 x4 x5 D _ _ _ h hP hS (lv_sub hl [0, 1, 2, 3, 4, 5] rfl)
  have L266 : ∀ (k17 : Int32 → Int32 → Int32 → Int32 → Int32 → Mm → Rs) (hk17 : ∀ (x1 x2 x3 x4 x5 : Int32) (D : Mm) (H : Heap) (locs : List Loc) (ls : Array Slot), k17 x1 x2 x3 x4 x5 D = some (r0, D') → va_P dd vwCl (wW Y MG ad D) H → va_S (pA MG ad) s.heap H locs → lv_has ls 9 [(0, .ref (ad 0)), (1, .int x1), (2, .int x2), (3, .int x3), (4, .int x4), (5, .int x5)] → W p l e (headSpec wzX8_readDirectory rm_X8_readDirectory).room s m ([.ref (ad 0), .int a1, .int a2, .int a3].toArray) below meth c H locs 0 0 (MQ below (Qi dd Y MG ad .boolean r0 D') ([.ref (ad 0), .int a1, .int a2, .int a3].toArray) s 0 0 (pA MG ad)) (F0 m 17 ls [])), ∀ (x1 x2 x3 x4 : Int32) (D : Mm) (H : Heap) (locs : List Loc) (ls : Array Slot), P_X8_readDirectory_266 (gN MG) F k17 x1 x2 x3 x4 D = some (r0, D') → va_P dd vwCl (wW Y MG ad D) H → va_S (pA MG ad) s.heap H locs → lv_has ls 9 [(0, .ref (ad 0)), (1, .int x1), (2, .int x2), (3, .int x3), (4, .int x4)] → W p l e (headSpec wzX8_readDirectory rm_X8_readDirectory).room s m ([.ref (ad 0), .int a1, .int a2, .int a3].toArray) below meth c H locs 0 0 (MQ below (Qi dd Y MG ad .boolean r0 D') ([.ref (ad 0), .int a1, .int a2, .int a3].toArray) s 0 0 (pA MG ad)) (F0 m 266 ls []) := by
    intro k17 hk17 x1 x2 x3 x4 D H locs ls h hP hS hl
    have h : ((if inB 1 ((gN MG) 8) = true then (P_X8_readDirectory_274 (gN MG) F k17 x1 x2 x3 x4 (D 8 (Int32.toNatClampNeg 1)) D) else none) : Rs) = some (r0, D') := h
    refine lv_aload_n hx hb dX8_readDirectory_266 rfl (lv_at hl 0 rfl) ?_
    refine x_get hx hb ht0 u_X8 hown hK hP (mk_0).1 (ce8 (mk_0).2) rfl 18 (by decide) (ht0 _ m_FL_X8_37) rfl (rfv (G := MG) (c := 0) (k := 18) (c' := 8) rfl) dX8_readDirectory_267 ?_
    refine lv_iconst (v := 1) hx hb dX8_readDirectory_270 (by decide) ?_
    obtain ⟨b1, h⟩ := x_if h
    refine x_ald hx hb hK hP mk_8 b1 dX8_readDirectory_271 ?_
    refine lv_istore (lv' := [(5, .int (D 8 (Int32.toNatClampNeg 1))), (0, .ref (ad 0)), (1, .int x1), (2, .int x2), (3, .int x3), (4, .int x4)]) hx hb dX8_readDirectory_272 hl (by decide) rfl (fun ls hl => ?_)
    exact L274 k17 hk17 x1 x2 x3 x4 (D 8 (Int32.toNatClampNeg 1)) D _ _ _ h hP hS (lv_sub hl [1, 2, 3, 4, 5, 0] rfl)
  have L239 : ∀ (x4 x5 : Int32) (D : Mm) (H : Heap) (locs : List Loc) (ls : Array Slot), P_X8_readDirectory_239 (gN MG) F x4 x5 D = some (r0, D') → va_P dd vwCl (wW Y MG ad D) H → va_S (pA MG ad) s.heap H locs → lv_has ls 9 [(0, .ref (ad 0)), (4, .int x4), (5, .int x5)] → W p l e (headSpec wzX8_readDirectory rm_X8_readDirectory).room s m ([.ref (ad 0), .int a1, .int a2, .int a3].toArray) below meth c H locs 0 0 (MQ below (Qi dd Y MG ad .boolean r0 D') ([.ref (ad 0), .int a1, .int a2, .int a3].toArray) s 0 0 (pA MG ad)) (F0 m 239 ls []) := by
    intro x4 x5 D H locs ls h hP hS hl
    have h : ((bi (P_X8_ends (gN MG) F 66 x4 x5 D) (fun r2 D2 => if r2 = 0 then (some (1, D2)) else (some (0, D2)))) : Rs) = some (r0, D') := h
    refine lv_aload_n hx hb dX8_readDirectory_239 rfl (lv_at hl 0 rfl) ?_
    refine lv_bipush (v := 66) hx hb dX8_readDirectory_240 (by decide) ?_
    refine lv_iload hx hb dX8_readDirectory_242 (lv_at hl 1 rfl) ?_
    refine lv_iload hx hb dX8_readDirectory_244 (lv_at hl 2 rfl) ?_
    obtain ⟨r2, D2, hc2, h⟩ := bi_some h
    refine x_callVi (As := [.int 66, .int x4, .int x5]) ⟨hx, hb, hml, hown, ht0⟩ hK hT hP hS (c_X8_ends l dd Y t ad ij F 66 x4 x5 _ _ _ hc2) m_ML_X8_143 sv_X8_ends hd_X8_ends rfl rfl ⟨Nat.le_of_ble_eq_true rfl, Nat.le_of_ble_eq_true rfl⟩ (mk_0).1 (ce8 (mk_0).2) rfl rfl hl.1 rfl (Nat.le_of_ble_eq_true rfl) dX8_readDirectory_246 ⟨Nat.zero_le _, Nat.zero_le _⟩ (fun H locs hn_r2 hP hS => ?_)
    refine lv_if_ne (tgt := 256) hx hb dX8_readDirectory_249 (by decide) (fun c3 => ?_) (fun c3 => ?_)
    · have h := x_f (show ¬ (r2 = 0) from c3) h
      refine lv_iconst (v := 0) hx hb dX8_readDirectory_256 (by decide) ?_
      exact x_iret hx hb hr hlocks rfl hP hS h dX8_readDirectory_257
    · have h := x_t (show r2 = 0 from c3) h
      refine lv_iconst (v := 1) hx hb dX8_readDirectory_252 (by decide) ?_
      refine lv_goto (tgt := 257) hx hb dX8_readDirectory_253 (by decide) ?_
      exact x_iret hx hb hr hlocks rfl hP hS h dX8_readDirectory_257
  have L212 : ∀ (k17 : Int32 → Int32 → Int32 → Int32 → Int32 → Mm → Rs) (hk17 : ∀ (x1 x2 x3 x4 x5 : Int32) (D : Mm) (H : Heap) (locs : List Loc) (ls : Array Slot), k17 x1 x2 x3 x4 x5 D = some (r0, D') → va_P dd vwCl (wW Y MG ad D) H → va_S (pA MG ad) s.heap H locs → lv_has ls 9 [(0, .ref (ad 0)), (1, .int x1), (2, .int x2), (3, .int x3), (4, .int x4), (5, .int x5)] → W p l e (headSpec wzX8_readDirectory rm_X8_readDirectory).room s m ([.ref (ad 0), .int a1, .int a2, .int a3].toArray) below meth c H locs 0 0 (MQ below (Qi dd Y MG ad .boolean r0 D') ([.ref (ad 0), .int a1, .int a2, .int a3].toArray) s 0 0 (pA MG ad)) (F0 m 17 ls [])), ∀ (x1 x2 x3 x4 x5 : Int32) (D : Mm) (H : Heap) (locs : List Loc) (ls : Array Slot), P_X8_readDirectory_212 (gN MG) F k17 x1 x2 x3 x4 x5 D = some (r0, D') → va_P dd vwCl (wW Y MG ad D) H → va_S (pA MG ad) s.heap H locs → lv_has ls 9 [(0, .ref (ad 0)), (1, .int x1), (2, .int x2), (3, .int x3), (4, .int x4), (5, .int x5)] → W p l e (headSpec wzX8_readDirectory rm_X8_readDirectory).room s m ([.ref (ad 0), .int a1, .int a2, .int a3].toArray) below meth c H locs 0 0 (MQ below (Qi dd Y MG ad .boolean r0 D') ([.ref (ad 0), .int a1, .int a2, .int a3].toArray) s 0 0 (pA MG ad)) (F0 m 212 ls []) := by
    intro k17 hk17 x1 x2 x3 x4 x5 D H locs ls h hP hS hl
    have h : ((if inB 0 ((gN MG) 8) = true then (if inB 1 ((gN MG) 8) = true then (bi (P_X8_isBlock (gN MG) F (D 8 (Int32.toNatClampNeg 0)) (D 8 (Int32.toNatClampNeg 1)) D) (fun r6 D6 => if r6 = 0 then (P_X8_readDirectory_239 (gN MG) F x4 x5 D6) else (if (D6 0 23) = 7 then (P_X8_readDirectory_239 (gN MG) F x4 x5 D6) else (if inB 0 ((gN MG) 8) = true then (P_X8_readDirectory_266 (gN MG) F k17 x1 x2 x3 (D6 8 (Int32.toNatClampNeg 0)) D6) else none)))) else none) else none) : Rs) = some (r0, D') := h
    refine lv_aload_n hx hb dX8_readDirectory_212 rfl (lv_at hl 0 rfl) ?_
    refine x_get hx hb ht0 u_X8 hown hK hP (mk_0).1 (ce8 (mk_0).2) rfl 18 (by decide) (ht0 _ m_FL_X8_37) rfl (rfv (G := MG) (c := 0) (k := 18) (c' := 8) rfl) dX8_readDirectory_213 ?_
    refine lv_iconst (v := 0) hx hb dX8_readDirectory_216 (by decide) ?_
    obtain ⟨b4, h⟩ := x_if h
    refine x_ald hx hb hK hP mk_8 b4 dX8_readDirectory_217 ?_
    refine lv_aload_n hx hb dX8_readDirectory_218 rfl (lv_at hl 0 rfl) ?_
    refine x_get hx hb ht0 u_X8 hown hK hP (mk_0).1 (ce8 (mk_0).2) rfl 18 (by decide) (ht0 _ m_FL_X8_37) rfl (rfv (G := MG) (c := 0) (k := 18) (c' := 8) rfl) dX8_readDirectory_219 ?_
    refine lv_iconst (v := 1) hx hb dX8_readDirectory_222 (by decide) ?_
    obtain ⟨b5, h⟩ := x_if h
    refine x_ald hx hb hK hP mk_8 b5 dX8_readDirectory_223 ?_
    obtain ⟨r6, D6, hc6, h⟩ := bi_some h
    refine x_callSi (As := [.int (D 8 (Int32.toNatClampNeg 0)), .int (D 8 (Int32.toNatClampNeg 1))]) ⟨hx, hb, hml, hown, ht0⟩ hK hT hP hS (c_X8_isBlock l dd Y t ad ij F (D 8 (Int32.toNatClampNeg 0)) (D 8 (Int32.toNatClampNeg 1)) _ _ _ hc6) m_ML_X8_168 ss_X8_isBlock hd_X8_isBlock rfl rfl ⟨Nat.le_of_ble_eq_true rfl, Nat.le_of_ble_eq_true rfl⟩ rfl hl.1 rfl (Nat.le_of_ble_eq_true rfl) dX8_readDirectory_224 ⟨Nat.zero_le _, Nat.zero_le _⟩ (fun H locs hn_r6 hP hS => ?_)
    refine lv_if_eq (tgt := 239) hx hb dX8_readDirectory_227 (by decide) (fun c7 => ?_) (fun c7 => ?_)
    · have h := x_t (show r6 = 0 from c7) h
      exact L239 x4 x5 D6 _ _ _ h hP hS (lv_sub hl [0, 4, 5] rfl)
    · have h := x_f (show ¬ (r6 = 0) from c7) h
      refine lv_aload_n hx hb dX8_readDirectory_230 rfl (lv_at hl 0 rfl) ?_
      refine x_get hx hb ht0 u_X8 hown hK hP (mk_0).1 (ce8 (mk_0).2) rfl 23 (by decide) (ht0 _ m_FL_X8_156) rfl rfl dX8_readDirectory_231 ?_
      refine lv_bipush (v := 7) hx hb dX8_readDirectory_234 (by decide) ?_
      refine lv_icmp_ne (tgt := 258) hx hb dX8_readDirectory_236 (by decide) (fun c8 => ?_) (fun c8 => ?_)
      · have h := x_f (show ¬ ((D6 0 23) = 7) from c8) h
        refine lv_aload_n hx hb dX8_readDirectory_258 rfl (lv_at hl 0 rfl) ?_
        refine x_get hx hb ht0 u_X8 hown hK hP (mk_0).1 (ce8 (mk_0).2) rfl 18 (by decide) (ht0 _ m_FL_X8_37) rfl (rfv (G := MG) (c := 0) (k := 18) (c' := 8) rfl) dX8_readDirectory_259 ?_
        refine lv_iconst (v := 0) hx hb dX8_readDirectory_262 (by decide) ?_
        obtain ⟨b9, h⟩ := x_if h
        refine x_ald hx hb hK hP mk_8 b9 dX8_readDirectory_263 ?_
        refine lv_istore (lv' := [(4, .int (D6 8 (Int32.toNatClampNeg 0))), (0, .ref (ad 0)), (1, .int x1), (2, .int x2), (3, .int x3), (5, .int x5)]) hx hb dX8_readDirectory_264 hl (by decide) rfl (fun ls hl => ?_)
        exact L266 k17 hk17 x1 x2 x3 (D6 8 (Int32.toNatClampNeg 0)) D6 _ _ _ h hP hS (lv_sub hl [1, 2, 3, 4, 0] rfl)
      · have h := x_t (show (D6 0 23) = 7 from c8) h
        exact L239 x4 x5 D6 _ _ _ h hP hS (lv_sub hl [0, 4, 5] rfl)
  have L185 : ∀ (k17 : Int32 → Int32 → Int32 → Int32 → Int32 → Mm → Rs) (hk17 : ∀ (x1 x2 x3 x4 x5 : Int32) (D : Mm) (H : Heap) (locs : List Loc) (ls : Array Slot), k17 x1 x2 x3 x4 x5 D = some (r0, D') → va_P dd vwCl (wW Y MG ad D) H → va_S (pA MG ad) s.heap H locs → lv_has ls 9 [(0, .ref (ad 0)), (1, .int x1), (2, .int x2), (3, .int x3), (4, .int x4), (5, .int x5)] → W p l e (headSpec wzX8_readDirectory rm_X8_readDirectory).room s m ([.ref (ad 0), .int a1, .int a2, .int a3].toArray) below meth c H locs 0 0 (MQ below (Qi dd Y MG ad .boolean r0 D') ([.ref (ad 0), .int a1, .int a2, .int a3].toArray) s 0 0 (pA MG ad)) (F0 m 17 ls [])), ∀ (x1 x2 x3 x4 x5 : Int32) (D : Mm) (H : Heap) (locs : List Loc) (ls : Array Slot), P_X8_readDirectory_185 (gN MG) F k17 x1 x2 x3 x4 x5 D = some (r0, D') → va_P dd vwCl (wW Y MG ad D) H → va_S (pA MG ad) s.heap H locs → lv_has ls 9 [(0, .ref (ad 0)), (1, .int x1), (2, .int x2), (3, .int x3), (4, .int x4), (5, .int x5)] → W p l e (headSpec wzX8_readDirectory rm_X8_readDirectory).room s m ([.ref (ad 0), .int a1, .int a2, .int a3].toArray) below meth c H locs 0 0 (MQ below (Qi dd Y MG ad .boolean r0 D') ([.ref (ad 0), .int a1, .int a2, .int a3].toArray) s 0 0 (pA MG ad)) (F0 m 185 ls []) := by
    intro k17 hk17 x1 x2 x3 x4 x5 D H locs ls h hP hS hl
    have h : ((if 0 ≤ (D 0 24) then (some (1, D)) else (if inB 0 ((gN MG) 8) = true then (if (D 8 (Int32.toNatClampNeg 0)) = 0 then (if inB 1 ((gN MG) 8) = true then (if (D 8 (Int32.toNatClampNeg 1)) = 0 then (some (1, D)) else (P_X8_readDirectory_212 (gN MG) F k17 x1 x2 x3 x4 x5 D)) else none) else (P_X8_readDirectory_212 (gN MG) F k17 x1 x2 x3 x4 x5 D)) else none)) : Rs) = some (r0, D') := h
    refine lv_aload_n hx hb dX8_readDirectory_185 rfl (lv_at hl 0 rfl) ?_
    refine x_get hx hb ht0 u_X8 hown hK hP (mk_0).1 (ce8 (mk_0).2) rfl 24 (by decide) (ht0 _ m_FL_X8_159) rfl rfl dX8_readDirectory_186 ?_
    refine lv_if_ge (tgt := 210) hx hb dX8_readDirectory_189 (by decide) (fun c10 => ?_) (fun c10 => ?_)
    · have h := x_t (show 0 ≤ (D 0 24) from c10) h
      refine lv_iconst (v := 1) hx hb dX8_readDirectory_210 (by decide) ?_
      exact x_iret hx hb hr hlocks rfl hP hS h dX8_readDirectory_211
    · have h := x_f (show ¬ (0 ≤ (D 0 24)) from c10) h
      refine lv_aload_n hx hb dX8_readDirectory_192 rfl (lv_at hl 0 rfl) ?_
      refine x_get hx hb ht0 u_X8 hown hK hP (mk_0).1 (ce8 (mk_0).2) rfl 18 (by decide) (ht0 _ m_FL_X8_37) rfl (rfv (G := MG) (c := 0) (k := 18) (c' := 8) rfl) dX8_readDirectory_193 ?_
      refine lv_iconst (v := 0) hx hb dX8_readDirectory_196 (by decide) ?_
      obtain ⟨b11, h⟩ := x_if h
      refine x_ald hx hb hK hP mk_8 b11 dX8_readDirectory_197 ?_
      refine lv_if_ne (tgt := 212) hx hb dX8_readDirectory_198 (by decide) (fun c12 => ?_) (fun c12 => ?_)
      · have h := x_f (show ¬ ((D 8 (Int32.toNatClampNeg 0)) = 0) from c12) h
        exact L212 k17 hk17 x1 x2 x3 x4 x5 D _ _ _ h hP hS (lv_sub hl [0, 1, 2, 3, 4, 5] rfl)
      · have h := x_t (show (D 8 (Int32.toNatClampNeg 0)) = 0 from c12) h
        refine lv_aload_n hx hb dX8_readDirectory_201 rfl (lv_at hl 0 rfl) ?_
        refine x_get hx hb ht0 u_X8 hown hK hP (mk_0).1 (ce8 (mk_0).2) rfl 18 (by decide) (ht0 _ m_FL_X8_37) rfl (rfv (G := MG) (c := 0) (k := 18) (c' := 8) rfl) dX8_readDirectory_202 ?_
        refine lv_iconst (v := 1) hx hb dX8_readDirectory_205 (by decide) ?_
        obtain ⟨b13, h⟩ := x_if h
        refine x_ald hx hb hK hP mk_8 b13 dX8_readDirectory_206 ?_
        refine lv_if_ne (tgt := 212) hx hb dX8_readDirectory_207 (by decide) (fun c14 => ?_) (fun c14 => ?_)
        · have h := x_f (show ¬ ((D 8 (Int32.toNatClampNeg 1)) = 0) from c14) h
          exact L212 k17 hk17 x1 x2 x3 x4 x5 D _ _ _ h hP hS (lv_sub hl [0, 1, 2, 3, 4, 5] rfl)
        · have h := x_t (show (D 8 (Int32.toNatClampNeg 1)) = 0 from c14) h
          refine lv_iconst (v := 1) hx hb dX8_readDirectory_210 (by decide) ?_
          exact x_iret hx hb hr hlocks rfl hP hS h dX8_readDirectory_211
  have L128 : ∀ (k17 : Int32 → Int32 → Int32 → Int32 → Int32 → Mm → Rs) (hk17 : ∀ (x1 x2 x3 x4 x5 : Int32) (D : Mm) (H : Heap) (locs : List Loc) (ls : Array Slot), k17 x1 x2 x3 x4 x5 D = some (r0, D') → va_P dd vwCl (wW Y MG ad D) H → va_S (pA MG ad) s.heap H locs → lv_has ls 9 [(0, .ref (ad 0)), (1, .int x1), (2, .int x2), (3, .int x3), (4, .int x4), (5, .int x5)] → W p l e (headSpec wzX8_readDirectory rm_X8_readDirectory).room s m ([.ref (ad 0), .int a1, .int a2, .int a3].toArray) below meth c H locs 0 0 (MQ below (Qi dd Y MG ad .boolean r0 D') ([.ref (ad 0), .int a1, .int a2, .int a3].toArray) s 0 0 (pA MG ad)) (F0 m 17 ls [])), ∀ (n : Nat), ∀ (x1 x2 x3 x4 x5 x7 x8 : Int32) (D : Mm) (H : Heap) (locs : List Loc) (ls : Array Slot), P_X8_readDirectory_128 (gN MG) F k17 n x1 x2 x3 x4 x5 x7 x8 D = some (r0, D') → va_P dd vwCl (wW Y MG ad D) H → va_S (pA MG ad) s.heap H locs → lv_has ls 9 [(0, .ref (ad 0)), (1, .int x1), (2, .int x2), (3, .int x3), (4, .int x4), (5, .int x5), (7, .int x7), (8, .int x8)] → W p l e (headSpec wzX8_readDirectory rm_X8_readDirectory).room s m ([.ref (ad 0), .int a1, .int a2, .int a3].toArray) below meth c H locs 0 0 (MQ below (Qi dd Y MG ad .boolean r0 D') ([.ref (ad 0), .int a1, .int a2, .int a3].toArray) s 0 0 (pA MG ad)) (F0 m 128 ls []) := by
    intro k17 hk17 n
    induction n with
    | zero =>
      intro x1 x2 x3 x4 x5 x7 x8 D H locs ls h hP hS hl
      cases h
    | succ n ih =>
      intro x1 x2 x3 x4 x5 x7 x8 D H locs ls h hP hS hl
      have h : ((if 62 ≤ x8 then (P_X8_readDirectory_185 (gN MG) F k17 x1 x2 x3 x4 x5 D) else (if x1 = 0 then (P_X8_readDirectory_185 (gN MG) F k17 x1 x2 x3 x4 x5 D) else (if 0 ≤ (D 0 24) then (P_X8_readDirectory_185 (gN MG) F k17 x1 x2 x3 x4 x5 D) else (bi (P_X8_hasName (gN MG) F (x7 + x8) x2 x3 D) (fun r18 D18 => if r18 = 0 then (P_X8_readDirectory_128 (gN MG) F k17 n x1 x2 x3 x4 x5 x7 (x8 + 12) D18) else (P_X8_readDirectory_128 (gN MG) F k17 n x1 x2 x3 x4 x5 x7 (x8 + 12) (up2 (up2 D18 0 24 ((D18 0 23) - 1)) 0 25 (x7 + x8)))))))) : Rs) = some (r0, D') := h
      refine lv_iload hx hb dX8_readDirectory_128 (lv_at hl 7 rfl) ?_
      refine lv_bipush (v := 62) hx hb dX8_readDirectory_130 (by decide) ?_
      refine lv_icmp_ge (tgt := 185) hx hb dX8_readDirectory_132 (by decide) (fun c15 => ?_) (fun c15 => ?_)
      · have h := x_t (show 62 ≤ x8 from c15) h
        exact L185 k17 hk17 x1 x2 x3 x4 x5 D _ _ _ h hP hS (lv_sub hl [0, 1, 2, 3, 4, 5] rfl)
      · have h := x_f (show ¬ (62 ≤ x8) from c15) h
        refine lv_iload_n hx hb dX8_readDirectory_135 rfl (lv_at hl 1 rfl) ?_
        refine lv_if_eq (tgt := 185) hx hb dX8_readDirectory_136 (by decide) (fun c16 => ?_) (fun c16 => ?_)
        · have h := x_t (show x1 = 0 from c16) h
          exact L185 k17 hk17 x1 x2 x3 x4 x5 D _ _ _ h hP hS (lv_sub hl [0, 1, 2, 3, 4, 5] rfl)
        · have h := x_f (show ¬ (x1 = 0) from c16) h
          refine lv_aload_n hx hb dX8_readDirectory_139 rfl (lv_at hl 0 rfl) ?_
          refine x_get hx hb ht0 u_X8 hown hK hP (mk_0).1 (ce8 (mk_0).2) rfl 24 (by decide) (ht0 _ m_FL_X8_159) rfl rfl dX8_readDirectory_140 ?_
          refine lv_if_ge (tgt := 185) hx hb dX8_readDirectory_143 (by decide) (fun c17 => ?_) (fun c17 => ?_)
          · have h := x_t (show 0 ≤ (D 0 24) from c17) h
            exact L185 k17 hk17 x1 x2 x3 x4 x5 D _ _ _ h hP hS (lv_sub hl [0, 1, 2, 3, 4, 5] rfl)
          · have h := x_f (show ¬ (0 ≤ (D 0 24)) from c17) h
            refine lv_aload_n hx hb dX8_readDirectory_146 rfl (lv_at hl 0 rfl) ?_
            refine lv_iload hx hb dX8_readDirectory_147 (lv_at hl 6 rfl) ?_
            refine lv_iload hx hb dX8_readDirectory_149 (lv_at hl 7 rfl) ?_
            refine lv_iadd hx hb dX8_readDirectory_151 ?_
            refine lv_iload_n hx hb dX8_readDirectory_152 rfl (lv_at hl 2 rfl) ?_
            refine lv_iload_n hx hb dX8_readDirectory_153 rfl (lv_at hl 3 rfl) ?_
            obtain ⟨r18, D18, hc18, h⟩ := bi_some h
            refine x_callVi (As := [.int (x7 + x8), .int x2, .int x3]) ⟨hx, hb, hml, hown, ht0⟩ hK hT hP hS (c_X8_hasName l dd Y t ad ij F (x7 + x8) x2 x3 _ _ _ hc18) m_ML_X8_162 sv_X8_hasName hd_X8_hasName rfl rfl ⟨Nat.le_of_ble_eq_true rfl, Nat.le_of_ble_eq_true rfl⟩ (mk_0).1 (ce8 (mk_0).2) rfl rfl hl.1 rfl (Nat.le_of_ble_eq_true rfl) dX8_readDirectory_154 ⟨Nat.zero_le _, Nat.zero_le _⟩ (fun H locs hn_r18 hP hS => ?_)
            refine lv_if_eq (tgt := 179) hx hb dX8_readDirectory_157 (by decide) (fun c19 => ?_) (fun c19 => ?_)
            · have h := x_t (show r18 = 0 from c19) h
              refine lv_iinc (v := x8 + 12) (lv' := [(8, .int (x8 + 12)), (0, .ref (ad 0)), (1, .int x1), (2, .int x2), (3, .int x3), (4, .int x4), (5, .int x5), (7, .int x7)]) hx hb dX8_readDirectory_179 hl (k := 7) rfl rfl (by decide) rfl (fun ls hl => ?_)
              refine lv_goto (tgt := 128) hx hb dX8_readDirectory_182 (by decide) ?_
              exact ih x1 x2 x3 x4 x5 x7 (x8 + 12) D18 _ _ _ h hP hS (lv_sub hl [1, 2, 3, 4, 5, 6, 7, 0] rfl)
            · have h := x_f (show ¬ (r18 = 0) from c19) h
              refine lv_aload_n hx hb dX8_readDirectory_160 rfl (lv_at hl 0 rfl) ?_
              refine lv_aload_n hx hb dX8_readDirectory_161 rfl (lv_at hl 0 rfl) ?_
              refine x_get hx hb ht0 u_X8 hown hK hP (mk_0).1 (ce8 (mk_0).2) rfl 23 (by decide) (ht0 _ m_FL_X8_156) rfl rfl dX8_readDirectory_162 ?_
              refine lv_iconst (v := 1) hx hb dX8_readDirectory_165 (by decide) ?_
              refine lv_isub hx hb dX8_readDirectory_166 ?_
              refine x_put (ty := .int) hx hb ht0 u_X8 tyX8 tyX8_ok nmX8 hown hK ij hP hS (mk_0).1 (ce8 (mk_0).2) rfl 24 (by decide) (ht0 _ m_FL_X8_159) rfl rfl (by decide +kernel) rfl rfl (Nat.le_of_ble_eq_true rfl) (by rw [(mk_0).2]; rfl) dX8_readDirectory_167 (fun H locs hP hS => ?_)
              refine lv_aload_n hx hb dX8_readDirectory_170 rfl (lv_at hl 0 rfl) ?_
              refine lv_iload hx hb dX8_readDirectory_171 (lv_at hl 6 rfl) ?_
              refine lv_iload hx hb dX8_readDirectory_173 (lv_at hl 7 rfl) ?_
              refine lv_iadd hx hb dX8_readDirectory_175 ?_
              refine x_put (ty := .int) hx hb ht0 u_X8 tyX8 tyX8_ok nmX8 hown hK ij hP hS (mk_0).1 (ce8 (mk_0).2) rfl 25 (by decide) (ht0 _ m_FL_X8_165) rfl rfl (by decide +kernel) rfl rfl (Nat.le_of_ble_eq_true rfl) (by rw [(mk_0).2]; rfl) dX8_readDirectory_176 (fun H locs hP hS => ?_)
              refine lv_iinc (v := x8 + 12) (lv' := [(8, .int (x8 + 12)), (0, .ref (ad 0)), (1, .int x1), (2, .int x2), (3, .int x3), (4, .int x4), (5, .int x5), (7, .int x7)]) hx hb dX8_readDirectory_179 hl (k := 7) rfl rfl (by decide) rfl (fun ls hl => ?_)
              refine lv_goto (tgt := 128) hx hb dX8_readDirectory_182 (by decide) ?_
              exact ih x1 x2 x3 x4 x5 x7 (x8 + 12) (up2 (up2 D18 0 24 ((D18 0 23) - 1)) 0 25 (x7 + x8)) _ _ _ h hP hS (lv_sub hl [1, 2, 3, 4, 5, 6, 7, 0] rfl)
  have L119 : ∀ (k17 : Int32 → Int32 → Int32 → Int32 → Int32 → Mm → Rs) (hk17 : ∀ (x1 x2 x3 x4 x5 : Int32) (D : Mm) (H : Heap) (locs : List Loc) (ls : Array Slot), k17 x1 x2 x3 x4 x5 D = some (r0, D') → va_P dd vwCl (wW Y MG ad D) H → va_S (pA MG ad) s.heap H locs → lv_has ls 9 [(0, .ref (ad 0)), (1, .int x1), (2, .int x2), (3, .int x3), (4, .int x4), (5, .int x5)] → W p l e (headSpec wzX8_readDirectory rm_X8_readDirectory).room s m ([.ref (ad 0), .int a1, .int a2, .int a3].toArray) below meth c H locs 0 0 (MQ below (Qi dd Y MG ad .boolean r0 D') ([.ref (ad 0), .int a1, .int a2, .int a3].toArray) s 0 0 (pA MG ad)) (F0 m 17 ls [])) (k95 : Int32 → Int32 → Int32 → Int32 → Int32 → Int32 → Int32 → Mm → Rs) (hk95 : ∀ (x1 x2 x3 x4 x5 x7 x8 : Int32) (D : Mm) (H : Heap) (locs : List Loc) (ls : Array Slot), k95 x1 x2 x3 x4 x5 x7 x8 D = some (r0, D') → va_P dd vwCl (wW Y MG ad D) H → va_S (pA MG ad) s.heap H locs → lv_has ls 9 [(0, .ref (ad 0)), (1, .int x1), (2, .int x2), (3, .int x3), (4, .int x4), (5, .int x5), (7, .int x7), (8, .int x8)] → W p l e (headSpec wzX8_readDirectory rm_X8_readDirectory).room s m ([.ref (ad 0), .int a1, .int a2, .int a3].toArray) below meth c H locs 0 0 (MQ below (Qi dd Y MG ad .boolean r0 D') ([.ref (ad 0), .int a1, .int a2, .int a3].toArray) s 0 0 (pA MG ad)) (F0 m 95 ls [])), ∀ (x1 x2 x3 x4 x5 x7 x8 : Int32) (D : Mm) (H : Heap) (locs : List Loc) (ls : Array Slot), P_X8_readDirectory_119 (gN MG) F k17 k95 x1 x2 x3 x4 x5 x7 x8 D = some (r0, D') → va_P dd vwCl (wW Y MG ad D) H → va_S (pA MG ad) s.heap H locs → lv_has ls 9 [(0, .ref (ad 0)), (1, .int x1), (2, .int x2), (3, .int x3), (4, .int x4), (5, .int x5), (7, .int x7), (8, .int x8)] → W p l e (headSpec wzX8_readDirectory rm_X8_readDirectory).room s m ([.ref (ad 0), .int a1, .int a2, .int a3].toArray) below meth c H locs 0 0 (MQ below (Qi dd Y MG ad .boolean r0 D') ([.ref (ad 0), .int a1, .int a2, .int a3].toArray) s 0 0 (pA MG ad)) (F0 m 119 ls []) := by
    intro k17 hk17 k95 hk95 x1 x2 x3 x4 x5 x7 x8 D H locs ls h hP hS hl
    have h : ((k95 x1 x2 x3 x4 x5 x7 (x8 + 1) D) : Rs) = some (r0, D') := h
    refine lv_iinc (v := x8 + 1) (lv' := [(8, .int (x8 + 1)), (0, .ref (ad 0)), (1, .int x1), (2, .int x2), (3, .int x3), (4, .int x4), (5, .int x5), (7, .int x7)]) hx hb dX8_readDirectory_119 hl (k := 7) rfl rfl (by decide) rfl (fun ls hl => ?_)
    refine lv_goto (tgt := 95) hx hb dX8_readDirectory_122 (by decide) ?_
    exact hk95 x1 x2 x3 x4 x5 x7 (x8 + 1) D _ _ _ h hP hS (lv_sub hl [1, 2, 3, 4, 5, 6, 7, 0] rfl)
  have L95 : ∀ (k17 : Int32 → Int32 → Int32 → Int32 → Int32 → Mm → Rs) (hk17 : ∀ (x1 x2 x3 x4 x5 : Int32) (D : Mm) (H : Heap) (locs : List Loc) (ls : Array Slot), k17 x1 x2 x3 x4 x5 D = some (r0, D') → va_P dd vwCl (wW Y MG ad D) H → va_S (pA MG ad) s.heap H locs → lv_has ls 9 [(0, .ref (ad 0)), (1, .int x1), (2, .int x2), (3, .int x3), (4, .int x4), (5, .int x5)] → W p l e (headSpec wzX8_readDirectory rm_X8_readDirectory).room s m ([.ref (ad 0), .int a1, .int a2, .int a3].toArray) below meth c H locs 0 0 (MQ below (Qi dd Y MG ad .boolean r0 D') ([.ref (ad 0), .int a1, .int a2, .int a3].toArray) s 0 0 (pA MG ad)) (F0 m 17 ls [])), ∀ (n : Nat), ∀ (x1 x2 x3 x4 x5 x7 x8 : Int32) (D : Mm) (H : Heap) (locs : List Loc) (ls : Array Slot), P_X8_readDirectory_95 (gN MG) F k17 n x1 x2 x3 x4 x5 x7 x8 D = some (r0, D') → va_P dd vwCl (wW Y MG ad D) H → va_S (pA MG ad) s.heap H locs → lv_has ls 9 [(0, .ref (ad 0)), (1, .int x1), (2, .int x2), (3, .int x3), (4, .int x4), (5, .int x5), (7, .int x7), (8, .int x8)] → W p l e (headSpec wzX8_readDirectory rm_X8_readDirectory).room s m ([.ref (ad 0), .int a1, .int a2, .int a3].toArray) below meth c H locs 0 0 (MQ below (Qi dd Y MG ad .boolean r0 D') ([.ref (ad 0), .int a1, .int a2, .int a3].toArray) s 0 0 (pA MG ad)) (F0 m 95 ls []) := by
    intro k17 hk17 n
    induction n with
    | zero =>
      intro x1 x2 x3 x4 x5 x7 x8 D H locs ls h hP hS hl
      cases h
    | succ n ih =>
      intro x1 x2 x3 x4 x5 x7 x8 D H locs ls h hP hS hl
      have h : ((if 64 ≤ x8 then (P_X8_readDirectory_128 (gN MG) F k17 F x1 x2 x3 x4 x5 x7 2 D) else (if inB x8 ((gN MG) 8) = true then (if inB (x7 + x8) ((gN MG) 10) = true then (P_X8_readDirectory_119 (gN MG) F k17 (fun x1 x2 x3 x4 x5 x7 x8 D => P_X8_readDirectory_95 (gN MG) F k17 n x1 x2 x3 x4 x5 x7 x8 D) x1 x2 x3 x4 x5 x7 x8 (up2 D 10 (Int32.toNatClampNeg (x7 + x8)) (D 8 (Int32.toNatClampNeg x8)))) else none) else none)) : Rs) = some (r0, D') := h
      refine lv_iload hx hb dX8_readDirectory_95 (lv_at hl 7 rfl) ?_
      refine lv_bipush (v := 64) hx hb dX8_readDirectory_97 (by decide) ?_
      refine lv_icmp_ge (tgt := 125) hx hb dX8_readDirectory_99 (by decide) (fun c20 => ?_) (fun c20 => ?_)
      · have h := x_t (show 64 ≤ x8 from c20) h
        refine lv_iconst (v := 2) hx hb dX8_readDirectory_125 (by decide) ?_
        refine lv_istore (lv' := [(8, .int 2), (0, .ref (ad 0)), (1, .int x1), (2, .int x2), (3, .int x3), (4, .int x4), (5, .int x5), (7, .int x7)]) hx hb dX8_readDirectory_126 hl (by decide) rfl (fun ls hl => ?_)
        exact L128 k17 hk17 F x1 x2 x3 x4 x5 x7 2 D _ _ _ h hP hS (lv_sub hl [1, 2, 3, 4, 5, 6, 7, 0] rfl)
      · have h := x_f (show ¬ (64 ≤ x8) from c20) h
        refine lv_aload_n hx hb dX8_readDirectory_102 rfl (lv_at hl 0 rfl) ?_
        refine x_get hx hb ht0 u_X8 hown hK hP (mk_0).1 (ce8 (mk_0).2) rfl 20 (by decide) (ht0 _ m_FL_X8_43) rfl (rfv (G := MG) (c := 0) (k := 20) (c' := 10) rfl) dX8_readDirectory_103 ?_
        refine lv_iload hx hb dX8_readDirectory_106 (lv_at hl 6 rfl) ?_
        refine lv_iload hx hb dX8_readDirectory_108 (lv_at hl 7 rfl) ?_
        refine lv_iadd hx hb dX8_readDirectory_110 ?_
        refine lv_aload_n hx hb dX8_readDirectory_111 rfl (lv_at hl 0 rfl) ?_
        refine x_get hx hb ht0 u_X8 hown hK hP (mk_0).1 (ce8 (mk_0).2) rfl 18 (by decide) (ht0 _ m_FL_X8_37) rfl (rfv (G := MG) (c := 0) (k := 18) (c' := 8) rfl) dX8_readDirectory_112 ?_
        refine lv_iload hx hb dX8_readDirectory_115 (lv_at hl 7 rfl) ?_
        obtain ⟨b21, h⟩ := x_if h
        refine x_ald hx hb hK hP mk_8 b21 dX8_readDirectory_117 ?_
        obtain ⟨b22, h⟩ := x_if h
        refine x_ast hx hb hK ij hP hS mk_10 b22 dX8_readDirectory_118 (fun H locs hP hS => ?_)
        exact L119 k17 hk17 (fun x1 x2 x3 x4 x5 x7 x8 D => P_X8_readDirectory_95 (gN MG) F k17 n x1 x2 x3 x4 x5 x7 x8 D) ih x1 x2 x3 x4 x5 x7 x8 (up2 D 10 (Int32.toNatClampNeg (x7 + x8)) (D 8 (Int32.toNatClampNeg x8))) _ _ _ h hP hS (lv_sub hl [0, 1, 2, 3, 4, 5, 6, 7] rfl)
  have L82 : ∀ (k17 : Int32 → Int32 → Int32 → Int32 → Int32 → Mm → Rs) (hk17 : ∀ (x1 x2 x3 x4 x5 : Int32) (D : Mm) (H : Heap) (locs : List Loc) (ls : Array Slot), k17 x1 x2 x3 x4 x5 D = some (r0, D') → va_P dd vwCl (wW Y MG ad D) H → va_S (pA MG ad) s.heap H locs → lv_has ls 9 [(0, .ref (ad 0)), (1, .int x1), (2, .int x2), (3, .int x3), (4, .int x4), (5, .int x5)] → W p l e (headSpec wzX8_readDirectory rm_X8_readDirectory).room s m ([.ref (ad 0), .int a1, .int a2, .int a3].toArray) below meth c H locs 0 0 (MQ below (Qi dd Y MG ad .boolean r0 D') ([.ref (ad 0), .int a1, .int a2, .int a3].toArray) s 0 0 (pA MG ad)) (F0 m 17 ls [])), ∀ (x1 x2 x3 x4 x5 x7 : Int32) (D : Mm) (H : Heap) (locs : List Loc) (ls : Array Slot), P_X8_readDirectory_82 (gN MG) F k17 x1 x2 x3 x4 x5 x7 D = some (r0, D') → va_P dd vwCl (wW Y MG ad D) H → va_S (pA MG ad) s.heap H locs → lv_has ls 9 [(0, .ref (ad 0)), (1, .int x1), (2, .int x2), (3, .int x3), (4, .int x4), (5, .int x5), (7, .int x7)] → W p l e (headSpec wzX8_readDirectory rm_X8_readDirectory).room s m ([.ref (ad 0), .int a1, .int a2, .int a3].toArray) below meth c H locs 0 0 (MQ below (Qi dd Y MG ad .boolean r0 D') ([.ref (ad 0), .int a1, .int a2, .int a3].toArray) s 0 0 (pA MG ad)) (F0 m 82 ls []) := by
    intro k17 hk17 x1 x2 x3 x4 x5 x7 D H locs ls h hP hS hl
    have h : ((P_X8_readDirectory_95 (gN MG) F k17 F x1 x2 x3 x4 x5 x7 0 (up2 D 0 23 ((D 0 23) + 1))) : Rs) = some (r0, D') := h
    refine lv_aload_n hx hb dX8_readDirectory_82 rfl (lv_at hl 0 rfl) ?_
    refine lv_dup hx hb dX8_readDirectory_83 rfl ?_
    refine x_get hx hb ht0 u_X8 hown hK hP (mk_0).1 (ce8 (mk_0).2) rfl 23 (by decide) (ht0 _ m_FL_X8_156) rfl rfl dX8_readDirectory_84 ?_
    refine lv_iconst (v := 1) hx hb dX8_readDirectory_87 (by decide) ?_
    refine lv_iadd hx hb dX8_readDirectory_88 ?_
    refine x_put (ty := .int) hx hb ht0 u_X8 tyX8 tyX8_ok nmX8 hown hK ij hP hS (mk_0).1 (ce8 (mk_0).2) rfl 23 (by decide) (ht0 _ m_FL_X8_156) rfl rfl (by decide +kernel) rfl rfl (Nat.le_of_ble_eq_true rfl) (by rw [(mk_0).2]; rfl) dX8_readDirectory_89 (fun H locs hP hS => ?_)
    refine lv_iconst (v := 0) hx hb dX8_readDirectory_92 (by decide) ?_
    refine lv_istore (lv' := [(8, .int 0), (0, .ref (ad 0)), (1, .int x1), (2, .int x2), (3, .int x3), (4, .int x4), (5, .int x5), (7, .int x7)]) hx hb dX8_readDirectory_93 hl (by decide) rfl (fun ls hl => ?_)
    exact L95 k17 hk17 F x1 x2 x3 x4 x5 x7 0 (up2 D 0 23 ((D 0 23) + 1)) _ _ _ h hP hS (lv_sub hl [1, 2, 3, 4, 5, 6, 7, 0] rfl)
  have L17 : ∀ (n : Nat), ∀ (x1 x2 x3 x4 x5 : Int32) (D : Mm) (H : Heap) (locs : List Loc) (ls : Array Slot), P_X8_readDirectory_17 (gN MG) F n x1 x2 x3 x4 x5 D = some (r0, D') → va_P dd vwCl (wW Y MG ad D) H → va_S (pA MG ad) s.heap H locs → lv_has ls 9 [(0, .ref (ad 0)), (1, .int x1), (2, .int x2), (3, .int x3), (4, .int x4), (5, .int x5)] → W p l e (headSpec wzX8_readDirectory rm_X8_readDirectory).room s m ([.ref (ad 0), .int a1, .int a2, .int a3].toArray) below meth c H locs 0 0 (MQ below (Qi dd Y MG ad .boolean r0 D') ([.ref (ad 0), .int a1, .int a2, .int a3].toArray) s 0 0 (pA MG ad)) (F0 m 17 ls []) := by
    intro n
    induction n with
    | zero =>
      intro x1 x2 x3 x4 x5 D H locs ls h hP hS hl
      cases h
    | succ n ih =>
      intro x1 x2 x3 x4 x5 D H locs ls h hP hS hl
      have h : ((bi (P_X8_readBlock (gN MG) F x4 x5 D) (fun r23 D23 => if r23 ≤ 0 then (if inB (D23 0 23) ((gN MG) 11) = true then (if inB ((up2 D23 11 (Int32.toNatClampNeg (D23 0 23)) x4) 0 23) ((gN MG) 12) = true then (P_X8_readDirectory_82 (gN MG) F (fun x1 x2 x3 x4 x5 D => P_X8_readDirectory_17 (gN MG) F n x1 x2 x3 x4 x5 D) x1 x2 x3 x4 x5 (64 * (D23 0 23)) (up2 (up2 D23 11 (Int32.toNatClampNeg (D23 0 23)) x4) 12 (Int32.toNatClampNeg ((up2 D23 11 (Int32.toNatClampNeg (D23 0 23)) x4) 0 23)) x5)) else none) else none) else (bi (P_X8_ends (gN MG) F r23 x4 x5 D23) (fun r27 D27 => if r27 = 0 then (some (1, D27)) else (some (0, D27)))))) : Rs) = some (r0, D') := h
      refine lv_aload_n hx hb dX8_readDirectory_17 rfl (lv_at hl 0 rfl) ?_
      refine lv_iload hx hb dX8_readDirectory_18 (lv_at hl 4 rfl) ?_
      refine lv_iload hx hb dX8_readDirectory_20 (lv_at hl 5 rfl) ?_
      obtain ⟨r23, D23, hc23, h⟩ := bi_some h
      refine x_callVi (As := [.int x4, .int x5]) ⟨hx, hb, hml, hown, ht0⟩ hK hT hP hS (c_X8_readBlock l dd Y t ad ij F x4 x5 _ _ _ hc23) m_ML_X8_147 sv_X8_readBlock hd_X8_readBlock rfl rfl ⟨Nat.le_of_ble_eq_true rfl, Nat.le_of_ble_eq_true rfl⟩ (mk_0).1 (ce8 (mk_0).2) rfl rfl hl.1 rfl (Nat.le_of_ble_eq_true rfl) dX8_readDirectory_22 ⟨Nat.zero_le _, Nat.zero_le _⟩ (fun H locs hn_r23 hP hS => ?_)
      refine lv_istore (lv' := [(6, .int r23), (0, .ref (ad 0)), (1, .int x1), (2, .int x2), (3, .int x3), (4, .int x4), (5, .int x5)]) hx hb dX8_readDirectory_25 hl (by decide) rfl (fun ls hl => ?_)
      refine lv_iload hx hb dX8_readDirectory_27 (lv_at hl 0 rfl) ?_
      refine lv_if_le (tgt := 51) hx hb dX8_readDirectory_29 (by decide) (fun c24 => ?_) (fun c24 => ?_)
      · have h := x_t (show r23 ≤ 0 from c24) h
        refine lv_bipush (v := 64) hx hb dX8_readDirectory_51 (by decide) ?_
        refine lv_aload_n hx hb dX8_readDirectory_53 rfl (lv_at hl 1 rfl) ?_
        refine x_get hx hb ht0 u_X8 hown hK hP (mk_0).1 (ce8 (mk_0).2) rfl 23 (by decide) (ht0 _ m_FL_X8_156) rfl rfl dX8_readDirectory_54 ?_
        refine lv_imul hx hb dX8_readDirectory_57 ?_
        refine lv_istore (lv' := [(7, .int (64 * (D23 0 23))), (6, .int r23), (0, .ref (ad 0)), (1, .int x1), (2, .int x2), (3, .int x3), (4, .int x4), (5, .int x5)]) hx hb dX8_readDirectory_58 hl (by decide) rfl (fun ls hl => ?_)
        refine lv_aload_n hx hb dX8_readDirectory_60 rfl (lv_at hl 2 rfl) ?_
        refine x_get hx hb ht0 u_X8 hown hK hP (mk_0).1 (ce8 (mk_0).2) rfl 21 (by decide) (ht0 _ m_FL_X8_46) rfl (rfv (G := MG) (c := 0) (k := 21) (c' := 11) rfl) dX8_readDirectory_61 ?_
        refine lv_aload_n hx hb dX8_readDirectory_64 rfl (lv_at hl 2 rfl) ?_
        refine x_get hx hb ht0 u_X8 hown hK hP (mk_0).1 (ce8 (mk_0).2) rfl 23 (by decide) (ht0 _ m_FL_X8_156) rfl rfl dX8_readDirectory_65 ?_
        refine lv_iload hx hb dX8_readDirectory_68 (lv_at hl 6 rfl) ?_
        obtain ⟨b25, h⟩ := x_if h
        refine x_ast hx hb hK ij hP hS mk_11 b25 dX8_readDirectory_70 (fun H locs hP hS => ?_)
        refine lv_aload_n hx hb dX8_readDirectory_71 rfl (lv_at hl 2 rfl) ?_
        refine x_get hx hb ht0 u_X8 hown hK hP (mk_0).1 (ce8 (mk_0).2) rfl 22 (by decide) (ht0 _ m_FL_X8_49) rfl (rfv (G := MG) (c := 0) (k := 22) (c' := 12) rfl) dX8_readDirectory_72 ?_
        refine lv_aload_n hx hb dX8_readDirectory_75 rfl (lv_at hl 2 rfl) ?_
        refine x_get hx hb ht0 u_X8 hown hK hP (mk_0).1 (ce8 (mk_0).2) rfl 23 (by decide) (ht0 _ m_FL_X8_156) rfl rfl dX8_readDirectory_76 ?_
        refine lv_iload hx hb dX8_readDirectory_79 (lv_at hl 7 rfl) ?_
        obtain ⟨b26, h⟩ := x_if h
        refine x_ast hx hb hK ij hP hS mk_12 b26 dX8_readDirectory_81 (fun H locs hP hS => ?_)
        exact L82 (fun x1 x2 x3 x4 x5 D => P_X8_readDirectory_17 (gN MG) F n x1 x2 x3 x4 x5 D) ih x1 x2 x3 x4 x5 (64 * (D23 0 23)) (up2 (up2 D23 11 (Int32.toNatClampNeg (D23 0 23)) x4) 12 (Int32.toNatClampNeg ((up2 D23 11 (Int32.toNatClampNeg (D23 0 23)) x4) 0 23)) x5) _ _ _ h hP hS (lv_sub hl [2, 3, 4, 5, 6, 7, 0] rfl)
      · have h := x_f (show ¬ (r23 ≤ 0) from c24) h
        refine lv_aload_n hx hb dX8_readDirectory_32 rfl (lv_at hl 1 rfl) ?_
        refine lv_iload hx hb dX8_readDirectory_33 (lv_at hl 0 rfl) ?_
        refine lv_iload hx hb dX8_readDirectory_35 (lv_at hl 5 rfl) ?_
        refine lv_iload hx hb dX8_readDirectory_37 (lv_at hl 6 rfl) ?_
        obtain ⟨r27, D27, hc27, h⟩ := bi_some h
        refine x_callVi (As := [.int r23, .int x4, .int x5]) ⟨hx, hb, hml, hown, ht0⟩ hK hT hP hS (c_X8_ends l dd Y t ad ij F r23 x4 x5 _ _ _ hc27) m_ML_X8_143 sv_X8_ends hd_X8_ends rfl rfl ⟨Nat.le_of_ble_eq_true rfl, Nat.le_of_ble_eq_true rfl⟩ (mk_0).1 (ce8 (mk_0).2) rfl rfl hl.1 rfl (Nat.le_of_ble_eq_true rfl) dX8_readDirectory_39 ⟨Nat.zero_le _, Nat.zero_le _⟩ (fun H locs hn_r27 hP hS => ?_)
        refine lv_if_ne (tgt := 49) hx hb dX8_readDirectory_42 (by decide) (fun c28 => ?_) (fun c28 => ?_)
        · have h := x_f (show ¬ (r27 = 0) from c28) h
          refine lv_iconst (v := 0) hx hb dX8_readDirectory_49 (by decide) ?_
          exact x_iret hx hb hr hlocks rfl hP hS h dX8_readDirectory_50
        · have h := x_t (show r27 = 0 from c28) h
          refine lv_iconst (v := 1) hx hb dX8_readDirectory_45 (by decide) ?_
          refine lv_goto (tgt := 50) hx hb dX8_readDirectory_46 (by decide) ?_
          exact x_iret hx hb hr hlocks rfl hP hS h dX8_readDirectory_50
  have hl := lv_entry ([.ref (ad 0), .int a1, .int a2, .int a3]) (n := 9) (Nat.le_of_ble_eq_true rfl)
  rw [lg_entry_eq]
  generalize (lg_sl ([.ref (ad 0), .int a1, .int a2, .int a3]) ++ List.replicate (9 - (lg_sl ([.ref (ad 0), .int a1, .int a2, .int a3])).length) Slot.unset).toArray = ls at hl ⊢
  have hl : lv_has ls 9 [(0, .ref (ad 0)), (1, .int a1), (2, .int a2), (3, .int a3)] := hl
  have hP : va_P dd vwCl (wW Y MG ad D0) s.heap := hP
  generalize D0 = D at h hP
  have h : ((P_X8_readDirectory_17 (gN MG) F F a1 a2 a3 9 1 (up2 (up2 D 0 23 0) 0 24 (-1))) : Rs) = some (r0, D') := h
  refine lv_aload_n hx hb dX8_readDirectory_0 rfl (lv_at hl 0 rfl) ?_
  refine lv_iconst (v := 0) hx hb dX8_readDirectory_1 (by decide) ?_
  refine x_put (ty := .int) hx hb ht0 u_X8 tyX8 tyX8_ok nmX8 hown hK ij hP hS (mk_0).1 (ce8 (mk_0).2) rfl 23 (by decide) (ht0 _ m_FL_X8_156) rfl rfl (by decide +kernel) rfl rfl (Nat.le_of_ble_eq_true rfl) (by rw [(mk_0).2]; rfl) dX8_readDirectory_2 (fun H locs hP hS => ?_)
  refine lv_aload_n hx hb dX8_readDirectory_5 rfl (lv_at hl 0 rfl) ?_
  refine lv_iconst (v := (-1)) hx hb dX8_readDirectory_6 (by decide) ?_
  refine x_put (ty := .int) hx hb ht0 u_X8 tyX8 tyX8_ok nmX8 hown hK ij hP hS (mk_0).1 (ce8 (mk_0).2) rfl 24 (by decide) (ht0 _ m_FL_X8_159) rfl rfl (by decide +kernel) rfl rfl (Nat.le_of_ble_eq_true rfl) (by rw [(mk_0).2]; rfl) dX8_readDirectory_7 (fun H locs hP hS => ?_)
  refine lv_bipush (v := 9) hx hb dX8_readDirectory_10 (by decide) ?_
  refine lv_istore (lv' := [(4, .int 9), (0, .ref (ad 0)), (1, .int a1), (2, .int a2), (3, .int a3)]) hx hb dX8_readDirectory_12 hl (by decide) rfl (fun ls hl => ?_)
  refine lv_iconst (v := 1) hx hb dX8_readDirectory_14 (by decide) ?_
  refine lv_istore (lv' := [(5, .int 1), (4, .int 9), (0, .ref (ad 0)), (1, .int a1), (2, .int a2), (3, .int a3)]) hx hb dX8_readDirectory_15 hl (by decide) rfl (fun ls hl => ?_)
  exact L17 F a1 a2 a3 9 1 (up2 (up2 D 0 23 0) 0 24 (-1)) _ _ _ h hP hS (lv_sub hl [2, 3, 4, 5, 1, 0] rfl)
abbrev rm_X8_writeDirectory : Room := { frames := 7, cells := 0, slots := 0, locals := 162 }
set_option maxHeartbeats 4000000 in
set_option maxRecDepth 100000 in
theorem c_X8_writeDirectory (l : Launch) (dd : Dd) (Y : Yc) (t : Ts3) (ad : Nat → Nat) (ij : Ij MG ad) (F : Nat) (a1 : Int32) (D0 D' : Mm) (r0 : Int32) (h : P_X8_writeDirectory (gN MG) F a1 D0 = some (r0, D')) : Met l yX8_writeDirectory wzX8_writeDirectory rm_X8_writeDirectory (va_Pc [.ref (ad 0), .int a1] (Wd dd Y t MG ad D0)) (Qi dd Y MG ad .boolean r0 D') 0 0 (pA MG ad) := by
  refine Met.ofW (cc := cX8_writeDirectory) (maxL := 3) (ret := (some .boolean)) (by decide) rfl ?_
  intro p e s m args below meth c s₁ B hml hv
  obtain ⟨rfl, hP, hK, hT⟩ := hv
  have hx := B.exec
  have hb := B.bytes
  have hr := B.returns
  have ht0 : ∀ w ∈ W0, w.before _ s = true := fun w h => atoms_spec (ws := wzX8_writeDirectory) B.pre w (List.mem_cons_of_mem _ h)
  have hown : s.vm.findClass RX8 = some m.cls := findClass_of_methodNamed B.named
  have hlocks := B.notSynchronized
  have hS : va_S (pA MG ad) s.heap s.heap [] := va_S.rf
  have L25 : ∀ (k2 : Int32 → Int32 → Mm → Rs) (hk2 : ∀ (x1 x2 : Int32) (D : Mm) (H : Heap) (locs : List Loc) (ls : Array Slot), k2 x1 x2 D = some (r0, D') → va_P dd vwCl (wW Y MG ad D) H → va_S (pA MG ad) s.heap H locs → lv_has ls 3 [(0, .ref (ad 0)), (1, .int x1), (2, .int x2)] → W p l e (headSpec wzX8_writeDirectory rm_X8_writeDirectory).room s m ([.ref (ad 0), .int a1].toArray) below meth c H locs 0 0 (MQ below (Qi dd Y MG ad .boolean r0 D') ([.ref (ad 0), .int a1].toArray) s 0 0 (pA MG ad)) (F0 m 2 ls [])), ∀ (x1 x2 : Int32) (D : Mm) (H : Heap) (locs : List Loc) (ls : Array Slot), P_X8_writeDirectory_25 (gN MG) F k2 x1 x2 D = some (r0, D') → va_P dd vwCl (wW Y MG ad D) H → va_S (pA MG ad) s.heap H locs → lv_has ls 3 [(0, .ref (ad 0)), (1, .int x1), (2, .int x2)] → W p l e (headSpec wzX8_writeDirectory rm_X8_writeDirectory).room s m ([.ref (ad 0), .int a1].toArray) below meth c H locs 0 0 (MQ below (Qi dd Y MG ad .boolean r0 D') ([.ref (ad 0), .int a1].toArray) s 0 0 (pA MG ad)) (F0 m 25 ls []) := by
    intro k2 hk2 x1 x2 D H locs ls h hP hS hl
    have h : ((k2 x1 (x2 + 1) D) : Rs) = some (r0, D') := h
    refine lv_iinc (v := x2 + 1) (lv' := [(2, .int (x2 + 1)), (0, .ref (ad 0)), (1, .int x1)]) hx hb dX8_writeDirectory_25 hl (k := 2) rfl rfl (by decide) rfl (fun ls hl => ?_)
    refine lv_goto (tgt := 2) hx hb dX8_writeDirectory_28 (by decide) ?_
    exact hk2 x1 (x2 + 1) D _ _ _ h hP hS (lv_sub hl [1, 2, 0] rfl)
  have L2 : ∀ (n : Nat), ∀ (x1 x2 : Int32) (D : Mm) (H : Heap) (locs : List Loc) (ls : Array Slot), P_X8_writeDirectory_2 (gN MG) F n x1 x2 D = some (r0, D') → va_P dd vwCl (wW Y MG ad D) H → va_S (pA MG ad) s.heap H locs → lv_has ls 3 [(0, .ref (ad 0)), (1, .int x1), (2, .int x2)] → W p l e (headSpec wzX8_writeDirectory rm_X8_writeDirectory).room s m ([.ref (ad 0), .int a1].toArray) below meth c H locs 0 0 (MQ below (Qi dd Y MG ad .boolean r0 D') ([.ref (ad 0), .int a1].toArray) s 0 0 (pA MG ad)) (F0 m 2 ls []) := by
    intro n
    induction n with
    | zero =>
      intro x1 x2 D H locs ls h hP hS hl
      cases h
    | succ n ih =>
      intro x1 x2 D H locs ls h hP hS hl
      have h : ((if 64 ≤ x2 then (if inB x1 ((gN MG) 11) = true then (if inB x1 ((gN MG) 12) = true then (bi (P_X8_writeBlock (gN MG) F (D 11 (Int32.toNatClampNeg x1)) (D 12 (Int32.toNatClampNeg x1)) D) (fun r4 D4 => if r4 = 0 then (some (1, D4)) else (if inB x1 ((gN MG) 11) = true then (if inB x1 ((gN MG) 12) = true then (bi (P_X8_ends (gN MG) F r4 (D4 11 (Int32.toNatClampNeg x1)) (D4 12 (Int32.toNatClampNeg x1)) D4) (fun r8 D8 => if r8 = 0 then (some (1, D8)) else (some (0, D8)))) else none) else none))) else none) else none) else (if inB ((64 * x1) + x2) ((gN MG) 10) = true then (if inB x2 ((gN MG) 8) = true then (P_X8_writeDirectory_25 (gN MG) F (fun x1 x2 D => P_X8_writeDirectory_2 (gN MG) F n x1 x2 D) x1 x2 (up2 D 8 (Int32.toNatClampNeg x2) (D 10 (Int32.toNatClampNeg ((64 * x1) + x2))))) else none) else none)) : Rs) = some (r0, D') := h
      refine lv_iload_n hx hb dX8_writeDirectory_2 rfl (lv_at hl 2 rfl) ?_
      refine lv_bipush (v := 64) hx hb dX8_writeDirectory_3 (by decide) ?_
      refine lv_icmp_ge (tgt := 31) hx hb dX8_writeDirectory_5 (by decide) (fun c1 => ?_) (fun c1 => ?_)
      · have h := x_t (show 64 ≤ x2 from c1) h
        refine lv_aload_n hx hb dX8_writeDirectory_31 rfl (lv_at hl 0 rfl) ?_
        refine lv_aload_n hx hb dX8_writeDirectory_32 rfl (lv_at hl 0 rfl) ?_
        refine x_get hx hb ht0 u_X8 hown hK hP (mk_0).1 (ce8 (mk_0).2) rfl 21 (by decide) (ht0 _ m_FL_X8_46) rfl (rfv (G := MG) (c := 0) (k := 21) (c' := 11) rfl) dX8_writeDirectory_33 ?_
        refine lv_iload_n hx hb dX8_writeDirectory_36 rfl (lv_at hl 1 rfl) ?_
        obtain ⟨b2, h⟩ := x_if h
        refine x_ald hx hb hK hP mk_11 b2 dX8_writeDirectory_37 ?_
        refine lv_aload_n hx hb dX8_writeDirectory_38 rfl (lv_at hl 0 rfl) ?_
        refine x_get hx hb ht0 u_X8 hown hK hP (mk_0).1 (ce8 (mk_0).2) rfl 22 (by decide) (ht0 _ m_FL_X8_49) rfl (rfv (G := MG) (c := 0) (k := 22) (c' := 12) rfl) dX8_writeDirectory_39 ?_
        refine lv_iload_n hx hb dX8_writeDirectory_42 rfl (lv_at hl 1 rfl) ?_
        obtain ⟨b3, h⟩ := x_if h
        refine x_ald hx hb hK hP mk_12 b3 dX8_writeDirectory_43 ?_
        obtain ⟨r4, D4, hc4, h⟩ := bi_some h
        refine x_callVi (As := [.int (D 11 (Int32.toNatClampNeg x1)), .int (D 12 (Int32.toNatClampNeg x1))]) ⟨hx, hb, hml, hown, ht0⟩ hK hT hP hS (c_X8_writeBlock l dd Y t ad ij F (D 11 (Int32.toNatClampNeg x1)) (D 12 (Int32.toNatClampNeg x1)) _ _ _ hc4) m_ML_X8_150 sv_X8_writeBlock hd_X8_writeBlock rfl rfl ⟨Nat.le_of_ble_eq_true rfl, Nat.le_of_ble_eq_true rfl⟩ (mk_0).1 (ce8 (mk_0).2) rfl rfl hl.1 rfl (Nat.le_of_ble_eq_true rfl) dX8_writeDirectory_44 ⟨Nat.zero_le _, Nat.zero_le _⟩ (fun H locs hn_r4 hP hS => ?_)
        refine lv_istore_n (lv' := [(2, .int r4), (0, .ref (ad 0)), (1, .int x1)]) hx hb dX8_writeDirectory_47 rfl hl (by decide) rfl (fun ls hl => ?_)
        refine lv_iload_n hx hb dX8_writeDirectory_48 rfl (lv_at hl 0 rfl) ?_
        refine lv_if_eq (tgt := 72) hx hb dX8_writeDirectory_49 (by decide) (fun c5 => ?_) (fun c5 => ?_)
        · have h := x_t (show r4 = 0 from c5) h
          refine lv_iconst (v := 1) hx hb dX8_writeDirectory_72 (by decide) ?_
          refine lv_goto (tgt := 77) hx hb dX8_writeDirectory_73 (by decide) ?_
          exact x_iret hx hb hr hlocks rfl hP hS h dX8_writeDirectory_77
        · have h := x_f (show ¬ (r4 = 0) from c5) h
          refine lv_aload_n hx hb dX8_writeDirectory_52 rfl (lv_at hl 1 rfl) ?_
          refine lv_iload_n hx hb dX8_writeDirectory_53 rfl (lv_at hl 0 rfl) ?_
          refine lv_aload_n hx hb dX8_writeDirectory_54 rfl (lv_at hl 1 rfl) ?_
          refine x_get hx hb ht0 u_X8 hown hK hP (mk_0).1 (ce8 (mk_0).2) rfl 21 (by decide) (ht0 _ m_FL_X8_46) rfl (rfv (G := MG) (c := 0) (k := 21) (c' := 11) rfl) dX8_writeDirectory_55 ?_
          refine lv_iload_n hx hb dX8_writeDirectory_58 rfl (lv_at hl 2 rfl) ?_
          obtain ⟨b6, h⟩ := x_if h
          refine x_ald hx hb hK hP mk_11 b6 dX8_writeDirectory_59 ?_
          refine lv_aload_n hx hb dX8_writeDirectory_60 rfl (lv_at hl 1 rfl) ?_
          refine x_get hx hb ht0 u_X8 hown hK hP (mk_0).1 (ce8 (mk_0).2) rfl 22 (by decide) (ht0 _ m_FL_X8_49) rfl (rfv (G := MG) (c := 0) (k := 22) (c' := 12) rfl) dX8_writeDirectory_61 ?_
          refine lv_iload_n hx hb dX8_writeDirectory_64 rfl (lv_at hl 2 rfl) ?_
          obtain ⟨b7, h⟩ := x_if h
          refine x_ald hx hb hK hP mk_12 b7 dX8_writeDirectory_65 ?_
          obtain ⟨r8, D8, hc8, h⟩ := bi_some h
          refine x_callVi (As := [.int r4, .int (D4 11 (Int32.toNatClampNeg x1)), .int (D4 12 (Int32.toNatClampNeg x1))]) ⟨hx, hb, hml, hown, ht0⟩ hK hT hP hS (c_X8_ends l dd Y t ad ij F r4 (D4 11 (Int32.toNatClampNeg x1)) (D4 12 (Int32.toNatClampNeg x1)) _ _ _ hc8) m_ML_X8_143 sv_X8_ends hd_X8_ends rfl rfl ⟨Nat.le_of_ble_eq_true rfl, Nat.le_of_ble_eq_true rfl⟩ (mk_0).1 (ce8 (mk_0).2) rfl rfl hl.1 rfl (Nat.le_of_ble_eq_true rfl) dX8_writeDirectory_66 ⟨Nat.zero_le _, Nat.zero_le _⟩ (fun H locs hn_r8 hP hS => ?_)
          refine lv_if_ne (tgt := 76) hx hb dX8_writeDirectory_69 (by decide) (fun c9 => ?_) (fun c9 => ?_)
          · have h := x_f (show ¬ (r8 = 0) from c9) h
            refine lv_iconst (v := 0) hx hb dX8_writeDirectory_76 (by decide) ?_
            exact x_iret hx hb hr hlocks rfl hP hS h dX8_writeDirectory_77
          · have h := x_t (show r8 = 0 from c9) h
            refine lv_iconst (v := 1) hx hb dX8_writeDirectory_72 (by decide) ?_
            refine lv_goto (tgt := 77) hx hb dX8_writeDirectory_73 (by decide) ?_
            exact x_iret hx hb hr hlocks rfl hP hS h dX8_writeDirectory_77
      · have h := x_f (show ¬ (64 ≤ x2) from c1) h
        refine lv_aload_n hx hb dX8_writeDirectory_8 rfl (lv_at hl 0 rfl) ?_
        refine x_get hx hb ht0 u_X8 hown hK hP (mk_0).1 (ce8 (mk_0).2) rfl 18 (by decide) (ht0 _ m_FL_X8_37) rfl (rfv (G := MG) (c := 0) (k := 18) (c' := 8) rfl) dX8_writeDirectory_9 ?_
        refine lv_iload_n hx hb dX8_writeDirectory_12 rfl (lv_at hl 2 rfl) ?_
        refine lv_aload_n hx hb dX8_writeDirectory_13 rfl (lv_at hl 0 rfl) ?_
        refine x_get hx hb ht0 u_X8 hown hK hP (mk_0).1 (ce8 (mk_0).2) rfl 20 (by decide) (ht0 _ m_FL_X8_43) rfl (rfv (G := MG) (c := 0) (k := 20) (c' := 10) rfl) dX8_writeDirectory_14 ?_
        refine lv_bipush (v := 64) hx hb dX8_writeDirectory_17 (by decide) ?_
        refine lv_iload_n hx hb dX8_writeDirectory_19 rfl (lv_at hl 1 rfl) ?_
        refine lv_imul hx hb dX8_writeDirectory_20 ?_
        refine lv_iload_n hx hb dX8_writeDirectory_21 rfl (lv_at hl 2 rfl) ?_
        refine lv_iadd hx hb dX8_writeDirectory_22 ?_
        obtain ⟨b10, h⟩ := x_if h
        refine x_ald hx hb hK hP mk_10 b10 dX8_writeDirectory_23 ?_
        obtain ⟨b11, h⟩ := x_if h
        refine x_ast hx hb hK ij hP hS mk_8 b11 dX8_writeDirectory_24 (fun H locs hP hS => ?_)
        exact L25 (fun x1 x2 D => P_X8_writeDirectory_2 (gN MG) F n x1 x2 D) ih x1 x2 (up2 D 8 (Int32.toNatClampNeg x2) (D 10 (Int32.toNatClampNeg ((64 * x1) + x2)))) _ _ _ h hP hS (lv_sub hl [0, 1, 2] rfl)
  have hl := lv_entry ([.ref (ad 0), .int a1]) (n := 3) (Nat.le_of_ble_eq_true rfl)
  rw [lg_entry_eq]
  generalize (lg_sl ([.ref (ad 0), .int a1]) ++ List.replicate (3 - (lg_sl ([.ref (ad 0), .int a1])).length) Slot.unset).toArray = ls at hl ⊢
  have hl : lv_has ls 3 [(0, .ref (ad 0)), (1, .int a1)] := hl
  have hP : va_P dd vwCl (wW Y MG ad D0) s.heap := hP
  generalize D0 = D at h hP
  have h : ((P_X8_writeDirectory_2 (gN MG) F F a1 0 D) : Rs) = some (r0, D') := h
  refine lv_iconst (v := 0) hx hb dX8_writeDirectory_0 (by decide) ?_
  refine lv_istore_n (lv' := [(2, .int 0), (0, .ref (ad 0)), (1, .int a1)]) hx hb dX8_writeDirectory_1 rfl hl (by decide) rfl (fun ls hl => ?_)
  exact L2 F a1 0 D _ _ _ h hP hS (lv_sub hl [1, 2, 0] rfl)
