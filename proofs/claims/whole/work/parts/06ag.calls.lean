abbrev rm_X7_blocksNeeded : Room := { frames := 1, cells := 0, slots := 0, locals := 21 }
set_option maxHeartbeats 4000000 in
set_option maxRecDepth 100000 in
theorem c_X7_blocksNeeded (l : Launch) (dd : Dd) (Y : Yc) (t : Ts3) (ad : Nat → Nat) (ij : Ij XG ad) (F : Nat) (a0 : Int32) (D0 D' : Mm) (r0 : Int32) (h : P_X7_blocksNeeded (gN XG) F a0 D0 = some (r0, D')) : Met l yX7_blocksNeeded wzX7_blocksNeeded rm_X7_blocksNeeded (va_Pc [.int a0] (Wd dd Y t XG ad D0)) (Qi dd Y XG ad .int r0 D') 0 0 (pA XG ad) := by
  refine Met.ofW (cc := cX7_blocksNeeded) (maxL := 1) (ret := (some .int)) (by decide) rfl ?_
  intro p e s m args below meth c s₁ B hml hv
  obtain ⟨rfl, hP, hK, hT⟩ := hv
  have hx := B.exec
  have hb := B.bytes
  have hr := B.returns
  have ht0 : ∀ w ∈ W0, w.before _ s = true := fun w h => atoms_spec (ws := wzX7_blocksNeeded) B.pre w (List.mem_cons_of_mem _ h)
  have hown : s.vm.findClass RX7 = some m.cls := findClass_of_methodNamed B.named
  have hlocks := B.notSynchronized
  have hS : va_S (pA XG ad) s.heap s.heap [] := va_S.rf
  have hl := lv_entry ([.int a0]) (n := 1) (Nat.le_of_ble_eq_true rfl)
  rw [lg_entry_eq]
  generalize (lg_sl ([.int a0]) ++ List.replicate (1 - (lg_sl ([.int a0])).length) Slot.unset).toArray = ls at hl ⊢
  have hl : lv_has ls 1 [(0, .int a0)] := hl
  have hP : va_P dd vwCl (wW Y XG ad D0) s.heap := hP
  generalize D0 = D at h hP
  have h : ((some ((if 1 < ((a0 + 62) - 1) / 62 then ((a0 + 62) - 1) / 62 else 1), D)) : Rs) = some (r0, D') := h
  refine lv_iconst (v := 1) hx hb dX7_blocksNeeded_0 (by decide) ?_
  refine lv_iload_n hx hb dX7_blocksNeeded_1 rfl (lv_at hl 0 rfl) ?_
  refine lv_bipush (v := 62) hx hb dX7_blocksNeeded_2 (by decide) ?_
  refine lv_iadd hx hb dX7_blocksNeeded_4 ?_
  refine lv_iconst (v := 1) hx hb dX7_blocksNeeded_5 (by decide) ?_
  refine lv_isub hx hb dX7_blocksNeeded_6 ?_
  refine lv_bipush (v := 62) hx hb dX7_blocksNeeded_7 (by decide) ?_
  refine lv_idiv hx hb dX7_blocksNeeded_9 (by decide) ?_
  refine va_mmax hx hb (hml.trans hl.1.symm) hown (ht0 _ m_ML_X7_204) (ht0 _ m_ST_max) (ht0 _ m_IN_J9) (ht0 _ m_CO_max) (Nat.le_of_ble_eq_true rfl) (Nat.le_of_ble_eq_true rfl) (Nat.zero_le _) (Nat.zero_le _) dX7_blocksNeeded_10 ?_
  exact x_iret hx hb hr hlocks rfl hP hS h dX7_blocksNeeded_13
abbrev rm_X7_takeRoom : Room := { frames := 5, cells := 0, slots := 0, locals := 108 }
set_option maxHeartbeats 4000000 in
set_option maxRecDepth 100000 in
theorem c_X7_takeRoom (l : Launch) (dd : Dd) (Y : Yc) (t : Ts3) (ad : Nat → Nat) (ij : Ij XG ad) (F : Nat) (D0 D' : Mm) (r0 : Int32) (h : P_X7_takeRoom (gN XG) F D0 = some (r0, D')) : Met l yX7_takeRoom wzX7_takeRoom rm_X7_takeRoom (va_Pc [.ref (ad 0)] (Wd dd Y t XG ad D0)) (Qi dd Y XG ad .boolean r0 D') 0 0 (pA XG ad) := by
  refine Met.ofW (cc := cX7_takeRoom) (maxL := 1) (ret := (some .boolean)) (by decide) rfl ?_
  intro p e s m args below meth c s₁ B hml hv
  obtain ⟨rfl, hP, hK, hT⟩ := hv
  have hx := B.exec
  have hb := B.bytes
  have hr := B.returns
  have ht0 : ∀ w ∈ W0, w.before _ s = true := fun w h => atoms_spec (ws := wzX7_takeRoom) B.pre w (List.mem_cons_of_mem _ h)
  have hown : s.vm.findClass RX7 = some m.cls := findClass_of_methodNamed B.named
  have hlocks := B.notSynchronized
  have hS : va_S (pA XG ad) s.heap s.heap [] := va_S.rf
  have hl := lv_entry ([.ref (ad 0)]) (n := 1) (Nat.le_of_ble_eq_true rfl)
  rw [lg_entry_eq]
  generalize (lg_sl ([.ref (ad 0)]) ++ List.replicate (1 - (lg_sl ([.ref (ad 0)])).length) Slot.unset).toArray = ls at hl ⊢
  have hl : lv_has ls 1 [(0, .ref (ad 0))] := hl
  have hP : va_P dd vwCl (wW Y XG ad D0) s.heap := hP
  generalize D0 = D at h hP
  have h : ((bi (P_X3_takeEntry (gN XG) F D) (fun r1 D1 => if r1 = 0 then (some (0, D1)) else (bi (P_X7_blocksNeeded (gN XG) F (D1 65 1) D1) (fun r3 D3 => bi (P_X2_take (gN XG) F r3 D3) (fun r4 D4 => if r4 = 0 then (some (0, D4)) else (some (1, D4))))))) : Rs) = some (r0, D') := h
  refine lv_aload_n hx hb dX7_takeRoom_0 rfl (lv_at hl 0 rfl) ?_
  refine x_get hx hb ht0 u_X7 hown hK hP (xk_0).1 (ce7 (xk_0).2) rfl 3 (by decide) (ht0 _ m_FL_X7_37) rfl (rfv (G := XG) (c := 0) (k := 3) (c' := 58) rfl) dX7_takeRoom_1 ?_
  refine lv_aload_n hx hb dX7_takeRoom_4 rfl (lv_at hl 0 rfl) ?_
  refine x_get hx hb ht0 u_X7 hown hK hP (xk_0).1 (ce7 (xk_0).2) rfl 2 (by decide) (ht0 _ m_FL_X7_28) rfl (rfv (G := XG) (c := 0) (k := 2) (c' := 56) rfl) dX7_takeRoom_5 ?_
  obtain ⟨r1, D1, hc1, h⟩ := bi_some h
  refine x_callVi (As := [.ref (ad 56)]) ⟨hx, hb, hml, hown, ht0⟩ hK hT hP hS (c_X3_takeEntry l dd Y t ad ij F  _ _ _ hc1) m_ML_X7_228 sv_X3_takeEntry hd_X3_takeEntry rfl rfl ⟨Nat.le_of_ble_eq_true rfl, Nat.le_of_ble_eq_true rfl⟩ (xk_58).1 (ce3 (xk_58).2) rfl rfl hl.1 rfl (Nat.le_of_ble_eq_true rfl) dX7_takeRoom_8 ⟨Nat.zero_le _, Nat.zero_le _⟩ (fun H locs hn_r1 hP hS => ?_)
  refine lv_if_eq (tgt := 42) hx hb dX7_takeRoom_11 (by decide) (fun c2 => ?_) (fun c2 => ?_)
  · have h := x_t (show r1 = 0 from c2) h
    refine lv_iconst (v := 0) hx hb dX7_takeRoom_42 (by decide) ?_
    exact x_iret hx hb hr hlocks rfl hP hS h dX7_takeRoom_43
  · have h := x_f (show ¬ (r1 = 0) from c2) h
    refine lv_aload_n hx hb dX7_takeRoom_14 rfl (lv_at hl 0 rfl) ?_
    refine x_get hx hb ht0 u_X7 hown hK hP (xk_0).1 (ce7 (xk_0).2) rfl 4 (by decide) (ht0 _ m_FL_X7_44) rfl (rfv (G := XG) (c := 0) (k := 4) (c' := 61) rfl) dX7_takeRoom_15 ?_
    refine lv_aload_n hx hb dX7_takeRoom_18 rfl (lv_at hl 0 rfl) ?_
    refine x_get hx hb ht0 u_X7 hown hK hP (xk_0).1 (ce7 (xk_0).2) rfl 2 (by decide) (ht0 _ m_FL_X7_28) rfl (rfv (G := XG) (c := 0) (k := 2) (c' := 56) rfl) dX7_takeRoom_19 ?_
    refine lv_aload_n hx hb dX7_takeRoom_22 rfl (lv_at hl 0 rfl) ?_
    refine x_get hx hb ht0 u_X7 hown hK hP (xk_0).1 (ce7 (xk_0).2) rfl 5 (by decide) (ht0 _ m_FL_X7_53) rfl (rfv (G := XG) (c := 0) (k := 5) (c' := 65) rfl) dX7_takeRoom_23 ?_
    refine x_get hx hb ht0 u_X1 hown hK hP (xk_65).1 (ce1 (xk_65).2) rfl 1 (by decide) (ht0 _ m_FL_X7_76) rfl rfl dX7_takeRoom_26 ?_
    obtain ⟨r3, D3, hc3, h⟩ := bi_some h
    refine x_callSi (As := [.int (D1 65 1)]) ⟨hx, hb, hml, hown, ht0⟩ hK hT hP hS (c_X7_blocksNeeded l dd Y t ad ij F (D1 65 1) _ _ _ hc3) m_ML_X7_232 ss_X7_blocksNeeded hd_X7_blocksNeeded rfl rfl ⟨Nat.le_of_ble_eq_true rfl, Nat.le_of_ble_eq_true rfl⟩ rfl hl.1 rfl (Nat.le_of_ble_eq_true rfl) dX7_takeRoom_29 ⟨Nat.zero_le _, Nat.zero_le _⟩ (fun H locs hn_r3 hP hS => ?_)
    obtain ⟨r4, D4, hc4, h⟩ := bi_some h
    refine x_callVi (As := [.ref (ad 56), .int r3]) ⟨hx, hb, hml, hown, ht0⟩ hK hT hP hS (c_X2_take l dd Y t ad ij F r3 _ _ _ hc4) m_ML_X7_235 sv_X2_take hd_X2_take rfl rfl ⟨Nat.le_of_ble_eq_true rfl, Nat.le_of_ble_eq_true rfl⟩ (xk_61).1 (ce2 (xk_61).2) rfl rfl hl.1 rfl (Nat.le_of_ble_eq_true rfl) dX7_takeRoom_32 ⟨Nat.zero_le _, Nat.zero_le _⟩ (fun H locs hn_r4 hP hS => ?_)
    refine lv_if_eq (tgt := 42) hx hb dX7_takeRoom_35 (by decide) (fun c5 => ?_) (fun c5 => ?_)
    · have h := x_t (show r4 = 0 from c5) h
      refine lv_iconst (v := 0) hx hb dX7_takeRoom_42 (by decide) ?_
      exact x_iret hx hb hr hlocks rfl hP hS h dX7_takeRoom_43
    · have h := x_f (show ¬ (r4 = 0) from c5) h
      refine lv_iconst (v := 1) hx hb dX7_takeRoom_38 (by decide) ?_
      refine lv_goto (tgt := 43) hx hb dX7_takeRoom_39 (by decide) ?_
      exact x_iret hx hb hr hlocks rfl hP hS h dX7_takeRoom_43
abbrev rm_X7_fillEntry : Room := { frames := 2, cells := 0, slots := 0, locals := 46 }
set_option maxHeartbeats 4000000 in
set_option maxRecDepth 100000 in
theorem c_X7_fillEntry (l : Launch) (dd : Dd) (Y : Yc) (t : Ts3) (ad : Nat → Nat) (ij : Ij XG ad) (F : Nat) (u1 : Nat) (g_u1 : IArr XG u1) (a2 a3 a4 a5 : Int32) (D0 D' : Mm) (r0 : Int32) (h : P_X7_fillEntry (gN XG) F u1 a2 a3 a4 a5 D0 = some (r0, D')) : Met l yX7_fillEntry wzX7_fillEntry rm_X7_fillEntry (va_Pc [.ref (ad 0), .ref (ad u1), .int a2, .int a3, .int a4, .int a5] (Wd dd Y t XG ad D0)) (Qv dd Y XG ad D') 0 0 (pA XG ad) := by
  refine Met.ofW (cc := cX7_fillEntry) (maxL := 6) (ret := none) (by decide) rfl ?_
  intro p e s m args below meth c s₁ B hml hv
  obtain ⟨rfl, hP, hK, hT⟩ := hv
  have hx := B.exec
  have hb := B.bytes
  have hr := B.returns
  have ht0 : ∀ w ∈ W0, w.before _ s = true := fun w h => atoms_spec (ws := wzX7_fillEntry) B.pre w (List.mem_cons_of_mem _ h)
  have hown : s.vm.findClass RX7 = some m.cls := findClass_of_methodNamed B.named
  have hlocks := B.notSynchronized
  have hS : va_S (pA XG ad) s.heap s.heap [] := va_S.rf
  have L59 : ∀ (x2 x4 x5 : Int32) (D : Mm) (H : Heap) (locs : List Loc) (ls : Array Slot), P_X7_fillEntry_59 (gN XG) F u1 x2 x4 x5 D = some (r0, D') → va_P dd vwCl (wW Y XG ad D) H → va_S (pA XG ad) s.heap H locs → lv_has ls 6 [(1, .ref (ad u1)), (2, .int x2), (4, .int x4), (5, .int x5)] → W p l e (headSpec wzX7_fillEntry rm_X7_fillEntry).room s m ([.ref (ad 0), .ref (ad u1), .int a2, .int a3, .int a4, .int a5].toArray) below meth c H locs 0 0 (MQ below (Qv dd Y XG ad D') ([.ref (ad 0), .ref (ad u1), .int a2, .int a3, .int a4, .int a5].toArray) s 0 0 (pA XG ad)) (F0 m 59 ls []) := by
    intro x2 x4 x5 D H locs ls h hP hS hl
    have h : ((bi (P_X7_fillName (gN XG) F u1 (x2 + 4) x4 x5 D) (fun r1 D1 => some (0, D1))) : Rs) = some (r0, D') := h
    refine lv_aload_n hx hb dX7_fillEntry_59 rfl (lv_at hl 0 rfl) ?_
    refine lv_iload_n hx hb dX7_fillEntry_60 rfl (lv_at hl 1 rfl) ?_
    refine lv_iconst (v := 4) hx hb dX7_fillEntry_61 (by decide) ?_
    refine lv_iadd hx hb dX7_fillEntry_62 ?_
    refine lv_iload hx hb dX7_fillEntry_63 (lv_at hl 2 rfl) ?_
    refine lv_iload hx hb dX7_fillEntry_65 (lv_at hl 3 rfl) ?_
    obtain ⟨r1, D1, hc1, h⟩ := bi_some h
    refine x_callSv (As := [.ref (ad u1), .int (x2 + 4), .int x4, .int x5]) ⟨hx, hb, hml, hown, ht0⟩ hK hT hP hS (c_X7_fillName l dd Y t ad ij F u1 g_u1 (x2 + 4) x4 x5 _ _ _ hc1) m_ML_X7_268 ss_X7_fillName hd_X7_fillName rfl rfl ⟨Nat.le_of_ble_eq_true rfl, Nat.le_of_ble_eq_true rfl⟩ rfl hl.1 rfl (Nat.le_of_ble_eq_true rfl) dX7_fillEntry_67 ⟨Nat.zero_le _, Nat.zero_le _⟩ (fun H locs hP hS => ?_)
    exact x_vret hx hb hr hlocks hP hS h dX7_fillEntry_70
  have L33 : ∀ (x2 x4 x5 : Int32) (D : Mm) (H : Heap) (locs : List Loc) (ls : Array Slot), P_X7_fillEntry_33 (gN XG) F u1 x2 x4 x5 D = some (r0, D') → va_P dd vwCl (wW Y XG ad D) H → va_S (pA XG ad) s.heap H locs → lv_has ls 6 [(0, .ref (ad 0)), (1, .ref (ad u1)), (2, .int x2), (4, .int x4), (5, .int x5)] → W p l e (headSpec wzX7_fillEntry rm_X7_fillEntry).room s m ([.ref (ad 0), .ref (ad u1), .int a2, .int a3, .int a4, .int a5].toArray) below meth c H locs 0 0 (MQ below (Qv dd Y XG ad D') ([.ref (ad 0), .ref (ad u1), .int a2, .int a3, .int a4, .int a5].toArray) s 0 0 (pA XG ad)) (F0 m 33 ls []) := by
    intro x2 x4 x5 D H locs ls h hP hS hl
    have h : ((if inB 0 ((gN XG) 63) = true then (if inB (x2 + 2) ((gN XG) u1) = true then (if inB (x2 + 3) ((gN XG) u1) = true then (P_X7_fillEntry_59 (gN XG) F u1 x2 x4 x5 (up2 (up2 D u1 (Int32.toNatClampNeg (x2 + 2)) (D 63 (Int32.toNatClampNeg 0))) u1 (Int32.toNatClampNeg (x2 + 3)) ((up2 D u1 (Int32.toNatClampNeg (x2 + 2)) (D 63 (Int32.toNatClampNeg 0))) 61 4))) else none) else none) else none) : Rs) = some (r0, D') := h
    refine lv_aload_n hx hb dX7_fillEntry_33 rfl (lv_at hl 1 rfl) ?_
    refine lv_iload_n hx hb dX7_fillEntry_34 rfl (lv_at hl 2 rfl) ?_
    refine lv_iconst (v := 2) hx hb dX7_fillEntry_35 (by decide) ?_
    refine lv_iadd hx hb dX7_fillEntry_36 ?_
    refine lv_aload_n hx hb dX7_fillEntry_37 rfl (lv_at hl 0 rfl) ?_
    refine x_get hx hb ht0 u_X7 hown hK hP (xk_0).1 (ce7 (xk_0).2) rfl 4 (by decide) (ht0 _ m_FL_X7_44) rfl (rfv (G := XG) (c := 0) (k := 4) (c' := 61) rfl) dX7_fillEntry_38 ?_
    refine x_get hx hb ht0 u_X2 hown hK hP (xk_61).1 (ce2 (xk_61).2) rfl 3 (by decide) (ht0 _ m_FL_X7_265) rfl (rfv (G := XG) (c := 61) (k := 3) (c' := 63) rfl) dX7_fillEntry_41 ?_
    refine lv_iconst (v := 0) hx hb dX7_fillEntry_44 (by decide) ?_
    obtain ⟨b2, h⟩ := x_if h
    refine x_ald hx hb hK hP xk_63 b2 dX7_fillEntry_45 ?_
    obtain ⟨b3, h⟩ := x_if h
    refine x_ast hx hb hK ij hP hS g_u1 b3 dX7_fillEntry_46 (fun H locs hP hS => ?_)
    refine lv_aload_n hx hb dX7_fillEntry_47 rfl (lv_at hl 1 rfl) ?_
    refine lv_iload_n hx hb dX7_fillEntry_48 rfl (lv_at hl 2 rfl) ?_
    refine lv_iconst (v := 3) hx hb dX7_fillEntry_49 (by decide) ?_
    refine lv_iadd hx hb dX7_fillEntry_50 ?_
    refine lv_aload_n hx hb dX7_fillEntry_51 rfl (lv_at hl 0 rfl) ?_
    refine x_get hx hb ht0 u_X7 hown hK hP (xk_0).1 (ce7 (xk_0).2) rfl 4 (by decide) (ht0 _ m_FL_X7_44) rfl (rfv (G := XG) (c := 0) (k := 4) (c' := 61) rfl) dX7_fillEntry_52 ?_
    refine x_get hx hb ht0 u_X2 hown hK hP (xk_61).1 (ce2 (xk_61).2) rfl 4 (by decide) (ht0 _ m_FL_X7_147) rfl rfl dX7_fillEntry_55 ?_
    obtain ⟨b4, h⟩ := x_if h
    refine x_ast hx hb hK ij hP hS g_u1 b4 dX7_fillEntry_58 (fun H locs hP hS => ?_)
    exact L59 x2 x4 x5 (up2 (up2 D u1 (Int32.toNatClampNeg (x2 + 2)) (D 63 (Int32.toNatClampNeg 0))) u1 (Int32.toNatClampNeg (x2 + 3)) ((up2 D u1 (Int32.toNatClampNeg (x2 + 2)) (D 63 (Int32.toNatClampNeg 0))) 61 4)) _ _ _ h hP hS (lv_sub hl [1, 2, 3, 4] rfl)
  have hl := lv_entry ([.ref (ad 0), .ref (ad u1), .int a2, .int a3, .int a4, .int a5]) (n := 6) (Nat.le_of_ble_eq_true rfl)
  rw [lg_entry_eq]
  generalize (lg_sl ([.ref (ad 0), .ref (ad u1), .int a2, .int a3, .int a4, .int a5]) ++ List.replicate (6 - (lg_sl ([.ref (ad 0), .ref (ad u1), .int a2, .int a3, .int a4, .int a5])).length) Slot.unset).toArray = ls at hl ⊢
  have hl : lv_has ls 6 [(0, .ref (ad 0)), (1, .ref (ad u1)), (2, .int a2), (3, .int a3), (4, .int a4), (5, .int a5)] := hl
  have hP : va_P dd vwCl (wW Y XG ad D0) s.heap := hP
  generalize D0 = D at h hP
  have h : ((if a2 < 2 then (some (0, D)) else (if (a2 + 12) ≤ (nI ((gN XG) u1)) then (if inB a2 ((gN XG) u1) = true then (if inB 0 ((gN XG) 62) = true then (if inB (a2 + 1) ((gN XG) u1) = true then (P_X7_fillEntry_33 (gN XG) F u1 a2 a4 a5 (up2 (up2 D u1 (Int32.toNatClampNeg a2) a3) u1 (Int32.toNatClampNeg (a2 + 1)) ((up2 D u1 (Int32.toNatClampNeg a2) a3) 62 (Int32.toNatClampNeg 0)))) else none) else none) else none) else (some (0, D)))) : Rs) = some (r0, D') := h
  refine lv_iload_n hx hb dX7_fillEntry_0 rfl (lv_at hl 2 rfl) ?_
  refine lv_iconst (v := 2) hx hb dX7_fillEntry_1 (by decide) ?_
  refine lv_icmp_lt (tgt := 14) hx hb dX7_fillEntry_2 (by decide) (fun c5 => ?_) (fun c5 => ?_)
  · have h := x_t (show a2 < 2 from c5) h
    exact x_vret hx hb hr hlocks hP hS h dX7_fillEntry_14
  · have h := x_f (show ¬ (a2 < 2) from c5) h
    refine lv_iload_n hx hb dX7_fillEntry_5 rfl (lv_at hl 2 rfl) ?_
    refine lv_bipush (v := 12) hx hb dX7_fillEntry_6 (by decide) ?_
    refine lv_iadd hx hb dX7_fillEntry_8 ?_
    refine lv_aload_n hx hb dX7_fillEntry_9 rfl (lv_at hl 1 rfl) ?_
    refine x_len hx hb hK hP g_u1 dX7_fillEntry_10 ?_
    refine lv_icmp_le (tgt := 15) hx hb dX7_fillEntry_11 (by decide) (fun c6 => ?_) (fun c6 => ?_)
    · have h := x_t (show (a2 + 12) ≤ (nI ((gN XG) u1)) from c6) h
      refine lv_aload_n hx hb dX7_fillEntry_15 rfl (lv_at hl 1 rfl) ?_
      refine lv_iload_n hx hb dX7_fillEntry_16 rfl (lv_at hl 2 rfl) ?_
      refine lv_iload_n hx hb dX7_fillEntry_17 rfl (lv_at hl 3 rfl) ?_
      obtain ⟨b7, h⟩ := x_if h
      refine x_ast hx hb hK ij hP hS g_u1 b7 dX7_fillEntry_18 (fun H locs hP hS => ?_)
      refine lv_aload_n hx hb dX7_fillEntry_19 rfl (lv_at hl 1 rfl) ?_
      refine lv_iload_n hx hb dX7_fillEntry_20 rfl (lv_at hl 2 rfl) ?_
      refine lv_iconst (v := 1) hx hb dX7_fillEntry_21 (by decide) ?_
      refine lv_iadd hx hb dX7_fillEntry_22 ?_
      refine lv_aload_n hx hb dX7_fillEntry_23 rfl (lv_at hl 0 rfl) ?_
      refine x_get hx hb ht0 u_X7 hown hK hP (xk_0).1 (ce7 (xk_0).2) rfl 4 (by decide) (ht0 _ m_FL_X7_44) rfl (rfv (G := XG) (c := 0) (k := 4) (c' := 61) rfl) dX7_fillEntry_24 ?_
      refine x_get hx hb ht0 u_X2 hown hK hP (xk_61).1 (ce2 (xk_61).2) rfl 2 (by decide) (ht0 _ m_FL_X7_262) rfl (rfv (G := XG) (c := 61) (k := 2) (c' := 62) rfl) dX7_fillEntry_27 ?_
      refine lv_iconst (v := 0) hx hb dX7_fillEntry_30 (by decide) ?_
      obtain ⟨b8, h⟩ := x_if h
      refine x_ald hx hb hK hP xk_62 b8 dX7_fillEntry_31 ?_
      obtain ⟨b9, h⟩ := x_if h
      refine x_ast hx hb hK ij hP hS g_u1 b9 dX7_fillEntry_32 (fun H locs hP hS => ?_)
      exact L33 a2 a4 a5 (up2 (up2 D u1 (Int32.toNatClampNeg a2) a3) u1 (Int32.toNatClampNeg (a2 + 1)) ((up2 D u1 (Int32.toNatClampNeg a2) a3) 62 (Int32.toNatClampNeg 0))) _ _ _ h hP hS (lv_sub hl [0, 1, 2, 4, 5] rfl)
    · have h := x_f (show ¬ ((a2 + 12) ≤ (nI ((gN XG) u1))) from c6) h
      exact x_vret hx hb hr hlocks hP hS h dX7_fillEntry_14
abbrev rm_X7_storeEntry : Room := { frames := 6, cells := 0, slots := 0, locals := 151 }
set_option maxHeartbeats 4000000 in
set_option maxRecDepth 100000 in
theorem c_X7_storeEntry (l : Launch) (dd : Dd) (Y : Yc) (t : Ts3) (ad : Nat → Nat) (ij : Ij XG ad) (F : Nat) (a1 a2 a3 : Int32) (D0 D' : Mm) (r0 : Int32) (h : P_X7_storeEntry (gN XG) F a1 a2 a3 D0 = some (r0, D')) : Met l yX7_storeEntry wzX7_storeEntry rm_X7_storeEntry (va_Pc [.ref (ad 0), .int a1, .int a2, .int a3] (Wd dd Y t XG ad D0)) (Qi dd Y XG ad .int r0 D') 0 0 (pA XG ad) := by
  refine Met.ofW (cc := cX7_storeEntry) (maxL := 5) (ret := (some .int)) (by decide) rfl ?_
  intro p e s m args below meth c s₁ B hml hv
  obtain ⟨rfl, hP, hK, hT⟩ := hv
  have hx := B.exec
  have hb := B.bytes
  have hr := B.returns
  have ht0 : ∀ w ∈ W0, w.before _ s = true := fun w h => atoms_spec (ws := wzX7_storeEntry) B.pre w (List.mem_cons_of_mem _ h)
  have hown : s.vm.findClass RX7 = some m.cls := findClass_of_methodNamed B.named
  have hlocks := B.notSynchronized
  have hS : va_S (pA XG ad) s.heap s.heap [] := va_S.rf
  have hl := lv_entry ([.ref (ad 0), .int a1, .int a2, .int a3]) (n := 5) (Nat.le_of_ble_eq_true rfl)
  rw [lg_entry_eq]
  generalize (lg_sl ([.ref (ad 0), .int a1, .int a2, .int a3]) ++ List.replicate (5 - (lg_sl ([.ref (ad 0), .int a1, .int a2, .int a3])).length) Slot.unset).toArray = ls at hl ⊢
  have hl : lv_has ls 5 [(0, .ref (ad 0)), (1, .int a1), (2, .int a2), (3, .int a3)] := hl
  have hP : va_P dd vwCl (wW Y XG ad D0) s.heap := hP
  generalize D0 = D at h hP
  have h : ((bi (P_X7_fillEntry (gN XG) F 60 (D 58 7) a1 a2 a3 D) (fun r1 D1 => bi (P_X0_store (gN XG) F 60 (D1 58 9) (D1 58 10) D1) (fun r2 D2 => if r2 = 0 then (if (D2 58 11) = 0 then (some (r2, D2)) else (bi (P_X3_storeLink (gN XG) F D2) (fun r5 D5 => some (r5, D5)))) else (some (r2, D2))))) : Rs) = some (r0, D') := h
  refine lv_aload_n hx hb dX7_storeEntry_0 rfl (lv_at hl 0 rfl) ?_
  refine lv_aload_n hx hb dX7_storeEntry_1 rfl (lv_at hl 0 rfl) ?_
  refine x_get hx hb ht0 u_X7 hown hK hP (xk_0).1 (ce7 (xk_0).2) rfl 3 (by decide) (ht0 _ m_FL_X7_37) rfl (rfv (G := XG) (c := 0) (k := 3) (c' := 58) rfl) dX7_storeEntry_2 ?_
  refine x_get hx hb ht0 u_X3 hown hK hP (xk_58).1 (ce3 (xk_58).2) rfl 8 (by decide) (ht0 _ m_FL_X7_239) rfl (rfv (G := XG) (c := 58) (k := 8) (c' := 60) rfl) dX7_storeEntry_5 ?_
  refine lv_aload_n hx hb dX7_storeEntry_8 rfl (lv_at hl 0 rfl) ?_
  refine x_get hx hb ht0 u_X7 hown hK hP (xk_0).1 (ce7 (xk_0).2) rfl 3 (by decide) (ht0 _ m_FL_X7_37) rfl (rfv (G := XG) (c := 0) (k := 3) (c' := 58) rfl) dX7_storeEntry_9 ?_
  refine x_get hx hb ht0 u_X3 hown hK hP (xk_58).1 (ce3 (xk_58).2) rfl 7 (by decide) (ht0 _ m_FL_X7_242) rfl rfl dX7_storeEntry_12 ?_
  refine lv_iload_n hx hb dX7_storeEntry_15 rfl (lv_at hl 1 rfl) ?_
  refine lv_iload_n hx hb dX7_storeEntry_16 rfl (lv_at hl 2 rfl) ?_
  refine lv_iload_n hx hb dX7_storeEntry_17 rfl (lv_at hl 3 rfl) ?_
  obtain ⟨r1, D1, hc1, h⟩ := bi_some h
  refine x_callVv (As := [.ref (ad 60), .int (D 58 7), .int a1, .int a2, .int a3]) ⟨hx, hb, hml, hown, ht0⟩ hK hT hP hS (c_X7_fillEntry l dd Y t ad ij F 60 xk_60 (D 58 7) a1 a2 a3 _ _ _ hc1) m_ML_X7_245 sv_X7_fillEntry hd_X7_fillEntry rfl rfl ⟨Nat.le_of_ble_eq_true rfl, Nat.le_of_ble_eq_true rfl⟩ (xk_0).1 (ce7 (xk_0).2) rfl rfl hl.1 rfl (Nat.le_of_ble_eq_true rfl) dX7_storeEntry_18 ⟨Nat.zero_le _, Nat.zero_le _⟩ (fun H locs hP hS => ?_)
  refine lv_aload_n hx hb dX7_storeEntry_21 rfl (lv_at hl 0 rfl) ?_
  refine x_get hx hb ht0 u_X7 hown hK hP (xk_0).1 (ce7 (xk_0).2) rfl 1 (by decide) (ht0 _ m_FL_X7_21) rfl (rfv (G := XG) (c := 0) (k := 1) (c' := 2) rfl) dX7_storeEntry_22 ?_
  refine lv_aload_n hx hb dX7_storeEntry_25 rfl (lv_at hl 0 rfl) ?_
  refine x_get hx hb ht0 u_X7 hown hK hP (xk_0).1 (ce7 (xk_0).2) rfl 3 (by decide) (ht0 _ m_FL_X7_37) rfl (rfv (G := XG) (c := 0) (k := 3) (c' := 58) rfl) dX7_storeEntry_26 ?_
  refine x_get hx hb ht0 u_X3 hown hK hP (xk_58).1 (ce3 (xk_58).2) rfl 9 (by decide) (ht0 _ m_FL_X7_249) rfl rfl dX7_storeEntry_29 ?_
  refine lv_aload_n hx hb dX7_storeEntry_32 rfl (lv_at hl 0 rfl) ?_
  refine x_get hx hb ht0 u_X7 hown hK hP (xk_0).1 (ce7 (xk_0).2) rfl 3 (by decide) (ht0 _ m_FL_X7_37) rfl (rfv (G := XG) (c := 0) (k := 3) (c' := 58) rfl) dX7_storeEntry_33 ?_
  refine x_get hx hb ht0 u_X3 hown hK hP (xk_58).1 (ce3 (xk_58).2) rfl 10 (by decide) (ht0 _ m_FL_X7_252) rfl rfl dX7_storeEntry_36 ?_
  refine lv_aload_n hx hb dX7_storeEntry_39 rfl (lv_at hl 0 rfl) ?_
  refine x_get hx hb ht0 u_X7 hown hK hP (xk_0).1 (ce7 (xk_0).2) rfl 3 (by decide) (ht0 _ m_FL_X7_37) rfl (rfv (G := XG) (c := 0) (k := 3) (c' := 58) rfl) dX7_storeEntry_40 ?_
  refine x_get hx hb ht0 u_X3 hown hK hP (xk_58).1 (ce3 (xk_58).2) rfl 8 (by decide) (ht0 _ m_FL_X7_239) rfl (rfv (G := XG) (c := 58) (k := 8) (c' := 60) rfl) dX7_storeEntry_43 ?_
  obtain ⟨r2, D2, hc2, h⟩ := bi_some h
  refine x_callVi (As := [.int (D1 58 9), .int (D1 58 10), .ref (ad 60)]) ⟨hx, hb, hml, hown, ht0⟩ hK hT hP hS (c_X0_store l dd Y t ad ij F 60 xk_60 (D1 58 9) (D1 58 10) _ _ _ hc2) m_ML_X7_129 sv_X0_store hd_X0_store rfl rfl ⟨Nat.le_of_ble_eq_true rfl, Nat.le_of_ble_eq_true rfl⟩ (xk_2).1 (ce0 (xk_2).2) rfl rfl hl.1 rfl (Nat.le_of_ble_eq_true rfl) dX7_storeEntry_46 ⟨Nat.zero_le _, Nat.zero_le _⟩ (fun H locs hn_r2 hP hS => ?_)
  refine lv_istore (lv' := [(4, .int r2), (0, .ref (ad 0)), (1, .int a1), (2, .int a2), (3, .int a3)]) hx hb dX7_storeEntry_49 hl (by decide) rfl (fun ls hl => ?_)
  refine lv_iload hx hb dX7_storeEntry_51 (lv_at hl 0 rfl) ?_
  refine lv_if_ne (tgt := 76) hx hb dX7_storeEntry_53 (by decide) (fun c3 => ?_) (fun c3 => ?_)
  · have h := x_f (show ¬ (r2 = 0) from c3) h
    refine lv_iload hx hb dX7_storeEntry_76 (lv_at hl 0 rfl) ?_
    exact x_iret hx hb hr hlocks rfl hP hS h dX7_storeEntry_78
  · have h := x_t (show r2 = 0 from c3) h
    refine lv_aload_n hx hb dX7_storeEntry_56 rfl (lv_at hl 1 rfl) ?_
    refine x_get hx hb ht0 u_X7 hown hK hP (xk_0).1 (ce7 (xk_0).2) rfl 3 (by decide) (ht0 _ m_FL_X7_37) rfl (rfv (G := XG) (c := 0) (k := 3) (c' := 58) rfl) dX7_storeEntry_57 ?_
    refine x_get hx hb ht0 u_X3 hown hK hP (xk_58).1 (ce3 (xk_58).2) rfl 11 (by decide) (ht0 _ m_FL_X7_255) rfl rfl dX7_storeEntry_60 ?_
    refine lv_if_eq (tgt := 76) hx hb dX7_storeEntry_63 (by decide) (fun c4 => ?_) (fun c4 => ?_)
    · have h := x_t (show (D2 58 11) = 0 from c4) h
      refine lv_iload hx hb dX7_storeEntry_76 (lv_at hl 0 rfl) ?_
      exact x_iret hx hb hr hlocks rfl hP hS h dX7_storeEntry_78
    · have h := x_f (show ¬ ((D2 58 11) = 0) from c4) h
      refine lv_aload_n hx hb dX7_storeEntry_66 rfl (lv_at hl 1 rfl) ?_
      refine x_get hx hb ht0 u_X7 hown hK hP (xk_0).1 (ce7 (xk_0).2) rfl 3 (by decide) (ht0 _ m_FL_X7_37) rfl (rfv (G := XG) (c := 0) (k := 3) (c' := 58) rfl) dX7_storeEntry_67 ?_
      obtain ⟨r5, D5, hc5, h⟩ := bi_some h
      refine x_callVi (As := []) ⟨hx, hb, hml, hown, ht0⟩ hK hT hP hS (c_X3_storeLink l dd Y t ad ij F  _ _ _ hc5) m_ML_X7_259 sv_X3_storeLink hd_X3_storeLink rfl rfl ⟨Nat.le_of_ble_eq_true rfl, Nat.le_of_ble_eq_true rfl⟩ (xk_58).1 (ce3 (xk_58).2) rfl rfl hl.1 rfl (Nat.le_of_ble_eq_true rfl) dX7_storeEntry_70 ⟨Nat.zero_le _, Nat.zero_le _⟩ (fun H locs hn_r5 hP hS => ?_)
      refine lv_goto (tgt := 78) hx hb dX7_storeEntry_73 (by decide) ?_
      exact x_iret hx hb hr hlocks rfl hP hS h dX7_storeEntry_78
abbrev rm_X7_save : Room := { frames := 7, cells := 0, slots := 0, locals := 177 }
set_option maxHeartbeats 4000000 in
set_option maxRecDepth 100000 in
theorem c_X7_save (l : Launch) (dd : Dd) (Y : Yc) (t : Ts3) (ad : Nat → Nat) (ij : Ij XG ad) (F : Nat) (a1 a2 a3 : Int32) (D0 D' : Mm) (r0 : Int32) (h : P_X7_save (gN XG) F a1 a2 a3 D0 = some (r0, D')) : Met l yX7_save wzX7_save rm_X7_save (va_Pc [.ref (ad 0), .int a1, .int a2, .int a3] (Wd dd Y t XG ad D0)) (Qi dd Y XG ad .int r0 D') 0 0 (pA XG ad) := by
  refine Met.ofW (cc := cX7_save) (maxL := 5) (ret := (some .int)) (by decide) rfl ?_
  intro p e s m args below meth c s₁ B hml hv
  obtain ⟨rfl, hP, hK, hT⟩ := hv
  have hx := B.exec
  have hb := B.bytes
  have hr := B.returns
  have ht0 : ∀ w ∈ W0, w.before _ s = true := fun w h => atoms_spec (ws := wzX7_save) B.pre w (List.mem_cons_of_mem _ h)
  have hown : s.vm.findClass RX7 = some m.cls := findClass_of_methodNamed B.named
  have hlocks := B.notSynchronized
  have hS : va_S (pA XG ad) s.heap s.heap [] := va_S.rf
  have L135 : ∀ (x4 : Int32) (D : Mm) (H : Heap) (locs : List Loc) (ls : Array Slot), P_X7_save_135 (gN XG) F x4 D = some (r0, D') → va_P dd vwCl (wW Y XG ad D) H → va_S (pA XG ad) s.heap H locs → lv_has ls 5 [(0, .ref (ad 0)), (4, .int x4)] → W p l e (headSpec wzX7_save rm_X7_save).room s m ([.ref (ad 0), .int a1, .int a2, .int a3].toArray) below meth c H locs 0 0 (MQ below (Qi dd Y XG ad .int r0 D') ([.ref (ad 0), .int a1, .int a2, .int a3].toArray) s 0 0 (pA XG ad)) (F0 m 135 ls []) := by
    intro x4 D H locs ls h hP hS hl
    have h : ((if x4 = 0 then (bi (P_X0_store (gN XG) F 57 9 0 D) (fun r2 D2 => some (r2, up2 D2 65 1 0))) else (some (x4, up2 D 65 1 0))) : Rs) = some (r0, D') := h
    refine lv_iload hx hb dX7_save_135 (lv_at hl 1 rfl) ?_
    refine lv_if_ne (tgt := 159) hx hb dX7_save_137 (by decide) (fun c1 => ?_) (fun c1 => ?_)
    · have h := x_f (show ¬ (x4 = 0) from c1) h
      refine lv_aload_n hx hb dX7_save_159 rfl (lv_at hl 0 rfl) ?_
      refine x_get hx hb ht0 u_X7 hown hK hP (xk_0).1 (ce7 (xk_0).2) rfl 5 (by decide) (ht0 _ m_FL_X7_53) rfl (rfv (G := XG) (c := 0) (k := 5) (c' := 65) rfl) dX7_save_160 ?_
      refine lv_iconst (v := 0) hx hb dX7_save_163 (by decide) ?_
      refine x_put (ty := .int) hx hb ht0 u_X1 tyX1 tyX1_ok nmX1 hown hK ij hP hS (xk_65).1 (ce1 (xk_65).2) rfl 1 (by decide) (ht0 _ m_FL_X7_76) rfl rfl (by decide +kernel) rfl rfl (Nat.le_of_ble_eq_true rfl) (by rw [(xk_65).2]; rfl) dX7_save_164 (fun H locs hP hS => ?_)
      refine lv_iload hx hb dX7_save_167 (lv_at hl 1 rfl) ?_
      exact x_iret hx hb hr hlocks rfl hP hS h dX7_save_169
    · have h := x_t (show x4 = 0 from c1) h
      refine lv_aload_n hx hb dX7_save_140 rfl (lv_at hl 0 rfl) ?_
      refine x_get hx hb ht0 u_X7 hown hK hP (xk_0).1 (ce7 (xk_0).2) rfl 1 (by decide) (ht0 _ m_FL_X7_21) rfl (rfv (G := XG) (c := 0) (k := 1) (c' := 2) rfl) dX7_save_141 ?_
      refine lv_bipush (v := 9) hx hb dX7_save_144 (by decide) ?_
      refine lv_iconst (v := 0) hx hb dX7_save_146 (by decide) ?_
      refine lv_aload_n hx hb dX7_save_147 rfl (lv_at hl 0 rfl) ?_
      refine x_get hx hb ht0 u_X7 hown hK hP (xk_0).1 (ce7 (xk_0).2) rfl 2 (by decide) (ht0 _ m_FL_X7_28) rfl (rfv (G := XG) (c := 0) (k := 2) (c' := 56) rfl) dX7_save_148 ?_
      refine x_get hx hb ht0 u_X4 hown hK hP (xk_56).1 (ce4 (xk_56).2) rfl 0 (by decide) (ht0 _ m_FL_X7_94) rfl (rfv (G := XG) (c := 56) (k := 0) (c' := 57) rfl) dX7_save_151 ?_
      obtain ⟨r2, D2, hc2, h⟩ := bi_some h
      refine x_callVi (As := [.int 9, .int 0, .ref (ad 57)]) ⟨hx, hb, hml, hown, ht0⟩ hK hT hP hS (c_X0_store l dd Y t ad ij F 57 xk_57 9 0 _ _ _ hc2) m_ML_X7_129 sv_X0_store hd_X0_store rfl rfl ⟨Nat.le_of_ble_eq_true rfl, Nat.le_of_ble_eq_true rfl⟩ (xk_2).1 (ce0 (xk_2).2) rfl rfl hl.1 rfl (Nat.le_of_ble_eq_true rfl) dX7_save_154 ⟨Nat.zero_le _, Nat.zero_le _⟩ (fun H locs hn_r2 hP hS => ?_)
      refine lv_istore (lv' := [(4, .int r2), (0, .ref (ad 0))]) hx hb dX7_save_157 hl (by decide) rfl (fun ls hl => ?_)
      refine lv_aload_n hx hb dX7_save_159 rfl (lv_at hl 1 rfl) ?_
      refine x_get hx hb ht0 u_X7 hown hK hP (xk_0).1 (ce7 (xk_0).2) rfl 5 (by decide) (ht0 _ m_FL_X7_53) rfl (rfv (G := XG) (c := 0) (k := 5) (c' := 65) rfl) dX7_save_160 ?_
      refine lv_iconst (v := 0) hx hb dX7_save_163 (by decide) ?_
      refine x_put (ty := .int) hx hb ht0 u_X1 tyX1 tyX1_ok nmX1 hown hK ij hP hS (xk_65).1 (ce1 (xk_65).2) rfl 1 (by decide) (ht0 _ m_FL_X7_76) rfl rfl (by decide +kernel) rfl rfl (Nat.le_of_ble_eq_true rfl) (by rw [(xk_65).2]; rfl) dX7_save_164 (fun H locs hP hS => ?_)
      refine lv_iload hx hb dX7_save_167 (lv_at hl 0 rfl) ?_
      exact x_iret hx hb hr hlocks rfl hP hS h dX7_save_169
  have L103 : ∀ (x1 x2 x3 x4 : Int32) (D : Mm) (H : Heap) (locs : List Loc) (ls : Array Slot), P_X7_save_103 (gN XG) F x1 x2 x3 x4 D = some (r0, D') → va_P dd vwCl (wW Y XG ad D) H → va_S (pA XG ad) s.heap H locs → lv_has ls 5 [(0, .ref (ad 0)), (1, .int x1), (2, .int x2), (3, .int x3), (4, .int x4)] → W p l e (headSpec wzX7_save rm_X7_save).room s m ([.ref (ad 0), .int a1, .int a2, .int a3].toArray) below meth c H locs 0 0 (MQ below (Qi dd Y XG ad .int r0 D') ([.ref (ad 0), .int a1, .int a2, .int a3].toArray) s 0 0 (pA XG ad)) (F0 m 103 ls []) := by
    intro x1 x2 x3 x4 D H locs ls h hP hS hl
    have h : ((if x4 = 0 then (bi (P_X2_store (gN XG) F D) (fun r6 D6 => if r6 = 0 then (bi (P_X7_storeEntry (gN XG) F x1 x2 x3 D6) (fun r8 D8 => P_X7_save_135 (gN XG) F r8 D8)) else (P_X7_save_135 (gN XG) F r6 D6))) else (if x4 = 0 then (bi (P_X7_storeEntry (gN XG) F x1 x2 x3 D) (fun r5 D5 => P_X7_save_135 (gN XG) F r5 D5)) else (P_X7_save_135 (gN XG) F x4 D))) : Rs) = some (r0, D') := h
    refine lv_iload hx hb dX7_save_103 (lv_at hl 4 rfl) ?_
    refine lv_if_ne (tgt := 121) hx hb dX7_save_105 (by decide) (fun c3 => ?_) (fun c3 => ?_)
    · have h := x_f (show ¬ (x4 = 0) from c3) h
      refine lv_iload hx hb dX7_save_121 (lv_at hl 4 rfl) ?_
      refine lv_if_ne (tgt := 135) hx hb dX7_save_123 (by decide) (fun c4 => ?_) (fun c4 => ?_)
      · have h := x_f (show ¬ (x4 = 0) from c4) h
        exact L135 x4 D _ _ _ h hP hS (lv_sub hl [0, 4] rfl)
      · have h := x_t (show x4 = 0 from c4) h
        refine lv_aload_n hx hb dX7_save_126 rfl (lv_at hl 0 rfl) ?_
        refine lv_iload_n hx hb dX7_save_127 rfl (lv_at hl 1 rfl) ?_
        refine lv_iload_n hx hb dX7_save_128 rfl (lv_at hl 2 rfl) ?_
        refine lv_iload_n hx hb dX7_save_129 rfl (lv_at hl 3 rfl) ?_
        obtain ⟨r5, D5, hc5, h⟩ := bi_some h
        refine x_callVi (As := [.int x1, .int x2, .int x3]) ⟨hx, hb, hml, hown, ht0⟩ hK hT hP hS (c_X7_storeEntry l dd Y t ad ij F x1 x2 x3 _ _ _ hc5) m_ML_X7_126 sv_X7_storeEntry hd_X7_storeEntry rfl rfl ⟨Nat.le_of_ble_eq_true rfl, Nat.le_of_ble_eq_true rfl⟩ (xk_0).1 (ce7 (xk_0).2) rfl rfl hl.1 rfl (Nat.le_of_ble_eq_true rfl) dX7_save_130 ⟨Nat.zero_le _, Nat.zero_le _⟩ (fun H locs hn_r5 hP hS => ?_)
        refine lv_istore (lv' := [(4, .int r5), (0, .ref (ad 0)), (1, .int x1), (2, .int x2), (3, .int x3)]) hx hb dX7_save_133 hl (by decide) rfl (fun ls hl => ?_)
        exact L135 r5 D5 _ _ _ h hP hS (lv_sub hl [1, 0] rfl)
    · have h := x_t (show x4 = 0 from c3) h
      refine lv_aload_n hx hb dX7_save_108 rfl (lv_at hl 0 rfl) ?_
      refine x_get hx hb ht0 u_X7 hown hK hP (xk_0).1 (ce7 (xk_0).2) rfl 4 (by decide) (ht0 _ m_FL_X7_44) rfl (rfv (G := XG) (c := 0) (k := 4) (c' := 61) rfl) dX7_save_109 ?_
      refine lv_aload_n hx hb dX7_save_112 rfl (lv_at hl 0 rfl) ?_
      refine x_get hx hb ht0 u_X7 hown hK hP (xk_0).1 (ce7 (xk_0).2) rfl 5 (by decide) (ht0 _ m_FL_X7_53) rfl (rfv (G := XG) (c := 0) (k := 5) (c' := 65) rfl) dX7_save_113 ?_
      obtain ⟨r6, D6, hc6, h⟩ := bi_some h
      refine x_callVi (As := [.ref (ad 65)]) ⟨hx, hb, hml, hown, ht0⟩ hK hT hP hS (c_X2_store l dd Y t ad ij F  _ _ _ hc6) m_ML_X7_122 sv_X2_store hd_X2_store rfl rfl ⟨Nat.le_of_ble_eq_true rfl, Nat.le_of_ble_eq_true rfl⟩ (xk_61).1 (ce2 (xk_61).2) rfl rfl hl.1 rfl (Nat.le_of_ble_eq_true rfl) dX7_save_116 ⟨Nat.zero_le _, Nat.zero_le _⟩ (fun H locs hn_r6 hP hS => ?_)
      refine lv_istore (lv' := [(4, .int r6), (0, .ref (ad 0)), (1, .int x1), (2, .int x2), (3, .int x3)]) hx hb dX7_save_119 hl (by decide) rfl (fun ls hl => ?_)
      refine lv_iload hx hb dX7_save_121 (lv_at hl 0 rfl) ?_
      refine lv_if_ne (tgt := 135) hx hb dX7_save_123 (by decide) (fun c7 => ?_) (fun c7 => ?_)
      · have h := x_f (show ¬ (r6 = 0) from c7) h
        exact L135 r6 D6 _ _ _ h hP hS (lv_sub hl [1, 0] rfl)
      · have h := x_t (show r6 = 0 from c7) h
        refine lv_aload_n hx hb dX7_save_126 rfl (lv_at hl 1 rfl) ?_
        refine lv_iload_n hx hb dX7_save_127 rfl (lv_at hl 2 rfl) ?_
        refine lv_iload_n hx hb dX7_save_128 rfl (lv_at hl 3 rfl) ?_
        refine lv_iload_n hx hb dX7_save_129 rfl (lv_at hl 4 rfl) ?_
        obtain ⟨r8, D8, hc8, h⟩ := bi_some h
        refine x_callVi (As := [.int x1, .int x2, .int x3]) ⟨hx, hb, hml, hown, ht0⟩ hK hT hP hS (c_X7_storeEntry l dd Y t ad ij F x1 x2 x3 _ _ _ hc8) m_ML_X7_126 sv_X7_storeEntry hd_X7_storeEntry rfl rfl ⟨Nat.le_of_ble_eq_true rfl, Nat.le_of_ble_eq_true rfl⟩ (xk_0).1 (ce7 (xk_0).2) rfl rfl hl.1 rfl (Nat.le_of_ble_eq_true rfl) dX7_save_130 ⟨Nat.zero_le _, Nat.zero_le _⟩ (fun H locs hn_r8 hP hS => ?_)
        refine lv_istore (lv' := [(4, .int r8), (0, .ref (ad 0)), (1, .int x1), (2, .int x2), (3, .int x3)]) hx hb dX7_save_133 hl (by decide) rfl (fun ls hl => ?_)
        exact L135 r8 D8 _ _ _ h hP hS (lv_sub hl [1, 0] rfl)
  have L78 : ∀ (x1 x2 x3 x4 : Int32) (D : Mm) (H : Heap) (locs : List Loc) (ls : Array Slot), P_X7_save_78 (gN XG) F x1 x2 x3 x4 D = some (r0, D') → va_P dd vwCl (wW Y XG ad D) H → va_S (pA XG ad) s.heap H locs → lv_has ls 5 [(0, .ref (ad 0)), (1, .int x1), (2, .int x2), (3, .int x3), (4, .int x4)] → W p l e (headSpec wzX7_save rm_X7_save).room s m ([.ref (ad 0), .int a1, .int a2, .int a3].toArray) below meth c H locs 0 0 (MQ below (Qi dd Y XG ad .int r0 D') ([.ref (ad 0), .int a1, .int a2, .int a3].toArray) s 0 0 (pA XG ad)) (F0 m 78 ls []) := by
    intro x1 x2 x3 x4 D H locs ls h hP hS hl
    have h : ((if x4 = 0 then (bi (P_X7_takeRoom (gN XG) F D) (fun r10 D10 => if r10 = 0 then (bi (P_X6_tell (gN XG) F 72 0 0 D10) (fun r12 D12 => P_X7_save_103 (gN XG) F x1 x2 x3 r12 D12)) else (P_X7_save_103 (gN XG) F x1 x2 x3 x4 D10))) else (P_X7_save_103 (gN XG) F x1 x2 x3 x4 D)) : Rs) = some (r0, D') := h
    refine lv_iload hx hb dX7_save_78 (lv_at hl 4 rfl) ?_
    refine lv_if_ne (tgt := 103) hx hb dX7_save_80 (by decide) (fun c9 => ?_) (fun c9 => ?_)
    · have h := x_f (show ¬ (x4 = 0) from c9) h
      exact L103 x1 x2 x3 x4 D _ _ _ h hP hS (lv_sub hl [0, 1, 2, 3, 4] rfl)
    · have h := x_t (show x4 = 0 from c9) h
      refine lv_aload_n hx hb dX7_save_83 rfl (lv_at hl 0 rfl) ?_
      obtain ⟨r10, D10, hc10, h⟩ := bi_some h
      refine x_callVi (As := []) ⟨hx, hb, hml, hown, ht0⟩ hK hT hP hS (c_X7_takeRoom l dd Y t ad ij F  _ _ _ hc10) m_ML_X7_118 sv_X7_takeRoom hd_X7_takeRoom rfl rfl ⟨Nat.le_of_ble_eq_true rfl, Nat.le_of_ble_eq_true rfl⟩ (xk_0).1 (ce7 (xk_0).2) rfl rfl hl.1 rfl (Nat.le_of_ble_eq_true rfl) dX7_save_84 ⟨Nat.zero_le _, Nat.zero_le _⟩ (fun H locs hn_r10 hP hS => ?_)
      refine lv_if_ne (tgt := 103) hx hb dX7_save_87 (by decide) (fun c11 => ?_) (fun c11 => ?_)
      · have h := x_f (show ¬ (r10 = 0) from c11) h
        exact L103 x1 x2 x3 x4 D10 _ _ _ h hP hS (lv_sub hl [0, 1, 2, 3, 4] rfl)
      · have h := x_t (show r10 = 0 from c11) h
        refine lv_aload_n hx hb dX7_save_90 rfl (lv_at hl 0 rfl) ?_
        refine x_get hx hb ht0 u_X7 hown hK hP (xk_0).1 (ce7 (xk_0).2) rfl 0 (by decide) (ht0 _ m_FL_X7_12) rfl (rfv (G := XG) (c := 0) (k := 0) (c' := 1) rfl) dX7_save_91 ?_
        refine lv_bipush (v := 72) hx hb dX7_save_94 (by decide) ?_
        refine lv_iconst (v := 0) hx hb dX7_save_96 (by decide) ?_
        refine lv_iconst (v := 0) hx hb dX7_save_97 (by decide) ?_
        obtain ⟨r12, D12, hc12, h⟩ := bi_some h
        refine x_callVi (As := [.int 72, .int 0, .int 0]) ⟨hx, hb, hml, hown, ht0⟩ hK hT hP hS (c_X6_tell l dd Y t ad ij F 72 0 0 _ _ _ hc12) m_ML_X7_101 sv_X6_tell hd_X6_tell rfl rfl ⟨Nat.le_of_ble_eq_true rfl, Nat.le_of_ble_eq_true rfl⟩ (xk_1).1 (ce6 (xk_1).2) rfl rfl hl.1 rfl (Nat.le_of_ble_eq_true rfl) dX7_save_98 ⟨Nat.zero_le _, Nat.zero_le _⟩ (fun H locs hn_r12 hP hS => ?_)
        refine lv_istore (lv' := [(4, .int r12), (0, .ref (ad 0)), (1, .int x1), (2, .int x2), (3, .int x3)]) hx hb dX7_save_101 hl (by decide) rfl (fun ls hl => ?_)
        exact L103 x1 x2 x3 r12 D12 _ _ _ h hP hS (lv_sub hl [1, 2, 3, 4, 0] rfl)
  have L29 : ∀ (x1 x2 x3 : Int32) (D : Mm) (H : Heap) (locs : List Loc) (ls : Array Slot), P_X7_save_29 (gN XG) F x1 x2 x3 D = some (r0, D') → va_P dd vwCl (wW Y XG ad D) H → va_S (pA XG ad) s.heap H locs → lv_has ls 5 [(0, .ref (ad 0)), (1, .int x1), (2, .int x2), (3, .int x3)] → W p l e (headSpec wzX7_save rm_X7_save).room s m ([.ref (ad 0), .int a1, .int a2, .int a3].toArray) below meth c H locs 0 0 (MQ below (Qi dd Y XG ad .int r0 D') ([.ref (ad 0), .int a1, .int a2, .int a3].toArray) s 0 0 (pA XG ad)) (F0 m 29 ls []) := by
    intro x1 x2 x3 D H locs ls h hP hS hl
    have h : ((bi (P_X7_lookFor (gN XG) F x2 x3 D) (fun r13 D13 => if r13 = 0 then (if (D13 58 6) = (-1) then (P_X7_save_78 (gN XG) F x1 x2 x3 r13 D13) else (bi (P_X6_tell (gN XG) F 63 (D13 58 3) (D13 58 4) D13) (fun r16 D16 => P_X7_save_78 (gN XG) F x1 x2 x3 r16 D16))) else (P_X7_save_78 (gN XG) F x1 x2 x3 r13 D13))) : Rs) = some (r0, D') := h
    refine lv_aload_n hx hb dX7_save_29 rfl (lv_at hl 0 rfl) ?_
    refine lv_iload_n hx hb dX7_save_30 rfl (lv_at hl 2 rfl) ?_
    refine lv_iload_n hx hb dX7_save_31 rfl (lv_at hl 3 rfl) ?_
    obtain ⟨r13, D13, hc13, h⟩ := bi_some h
    refine x_callVi (As := [.int x2, .int x3]) ⟨hx, hb, hml, hown, ht0⟩ hK hT hP hS (c_X7_lookFor l dd Y t ad ij F x2 x3 _ _ _ hc13) m_ML_X7_105 sv_X7_lookFor hd_X7_lookFor rfl rfl ⟨Nat.le_of_ble_eq_true rfl, Nat.le_of_ble_eq_true rfl⟩ (xk_0).1 (ce7 (xk_0).2) rfl rfl hl.1 rfl (Nat.le_of_ble_eq_true rfl) dX7_save_32 ⟨Nat.zero_le _, Nat.zero_le _⟩ (fun H locs hn_r13 hP hS => ?_)
    refine lv_istore (lv' := [(4, .int r13), (0, .ref (ad 0)), (1, .int x1), (2, .int x2), (3, .int x3)]) hx hb dX7_save_35 hl (by decide) rfl (fun ls hl => ?_)
    refine lv_iload hx hb dX7_save_37 (lv_at hl 0 rfl) ?_
    refine lv_if_ne (tgt := 78) hx hb dX7_save_39 (by decide) (fun c14 => ?_) (fun c14 => ?_)
    · have h := x_f (show ¬ (r13 = 0) from c14) h
      exact L78 x1 x2 x3 r13 D13 _ _ _ h hP hS (lv_sub hl [1, 2, 3, 4, 0] rfl)
    · have h := x_t (show r13 = 0 from c14) h
      refine lv_aload_n hx hb dX7_save_42 rfl (lv_at hl 1 rfl) ?_
      refine x_get hx hb ht0 u_X7 hown hK hP (xk_0).1 (ce7 (xk_0).2) rfl 3 (by decide) (ht0 _ m_FL_X7_37) rfl (rfv (G := XG) (c := 0) (k := 3) (c' := 58) rfl) dX7_save_43 ?_
      refine x_get hx hb ht0 u_X3 hown hK hP (xk_58).1 (ce3 (xk_58).2) rfl 6 (by decide) (ht0 _ m_FL_X7_109) rfl rfl dX7_save_46 ?_
      refine lv_iconst (v := (-1)) hx hb dX7_save_49 (by decide) ?_
      refine lv_icmp_eq (tgt := 78) hx hb dX7_save_50 (by decide) (fun c15 => ?_) (fun c15 => ?_)
      · have h := x_t (show (D13 58 6) = (-1) from c15) h
        exact L78 x1 x2 x3 r13 D13 _ _ _ h hP hS (lv_sub hl [1, 2, 3, 4, 0] rfl)
      · have h := x_f (show ¬ ((D13 58 6) = (-1)) from c15) h
        refine lv_aload_n hx hb dX7_save_53 rfl (lv_at hl 1 rfl) ?_
        refine x_get hx hb ht0 u_X7 hown hK hP (xk_0).1 (ce7 (xk_0).2) rfl 0 (by decide) (ht0 _ m_FL_X7_12) rfl (rfv (G := XG) (c := 0) (k := 0) (c' := 1) rfl) dX7_save_54 ?_
        refine lv_bipush (v := 63) hx hb dX7_save_57 (by decide) ?_
        refine lv_aload_n hx hb dX7_save_59 rfl (lv_at hl 1 rfl) ?_
        refine x_get hx hb ht0 u_X7 hown hK hP (xk_0).1 (ce7 (xk_0).2) rfl 3 (by decide) (ht0 _ m_FL_X7_37) rfl (rfv (G := XG) (c := 0) (k := 3) (c' := 58) rfl) dX7_save_60 ?_
        refine x_get hx hb ht0 u_X3 hown hK hP (xk_58).1 (ce3 (xk_58).2) rfl 3 (by decide) (ht0 _ m_FL_X7_112) rfl rfl dX7_save_63 ?_
        refine lv_aload_n hx hb dX7_save_66 rfl (lv_at hl 1 rfl) ?_
        refine x_get hx hb ht0 u_X7 hown hK hP (xk_0).1 (ce7 (xk_0).2) rfl 3 (by decide) (ht0 _ m_FL_X7_37) rfl (rfv (G := XG) (c := 0) (k := 3) (c' := 58) rfl) dX7_save_67 ?_
        refine x_get hx hb ht0 u_X3 hown hK hP (xk_58).1 (ce3 (xk_58).2) rfl 4 (by decide) (ht0 _ m_FL_X7_115) rfl rfl dX7_save_70 ?_
        obtain ⟨r16, D16, hc16, h⟩ := bi_some h
        refine x_callVi (As := [.int 63, .int (D13 58 3), .int (D13 58 4)]) ⟨hx, hb, hml, hown, ht0⟩ hK hT hP hS (c_X6_tell l dd Y t ad ij F 63 (D13 58 3) (D13 58 4) _ _ _ hc16) m_ML_X7_101 sv_X6_tell hd_X6_tell rfl rfl ⟨Nat.le_of_ble_eq_true rfl, Nat.le_of_ble_eq_true rfl⟩ (xk_1).1 (ce6 (xk_1).2) rfl rfl hl.1 rfl (Nat.le_of_ble_eq_true rfl) dX7_save_73 ⟨Nat.zero_le _, Nat.zero_le _⟩ (fun H locs hn_r16 hP hS => ?_)
        refine lv_istore (lv' := [(4, .int r16), (0, .ref (ad 0)), (1, .int x1), (2, .int x2), (3, .int x3)]) hx hb dX7_save_76 hl (by decide) rfl (fun ls hl => ?_)
        exact L78 x1 x2 x3 r16 D16 _ _ _ h hP hS (lv_sub hl [1, 2, 3, 4, 0] rfl)
  have hl := lv_entry ([.ref (ad 0), .int a1, .int a2, .int a3]) (n := 5) (Nat.le_of_ble_eq_true rfl)
  rw [lg_entry_eq]
  generalize (lg_sl ([.ref (ad 0), .int a1, .int a2, .int a3]) ++ List.replicate (5 - (lg_sl ([.ref (ad 0), .int a1, .int a2, .int a3])).length) Slot.unset).toArray = ls at hl ⊢
  have hl : lv_has ls 5 [(0, .ref (ad 0)), (1, .int a1), (2, .int a2), (3, .int a3)] := hl
  have hP : va_P dd vwCl (wW Y XG ad D0) s.heap := hP
  generalize D0 = D at h hP
  have h : ((if a1 < 1 then (some ((-1), up2 D 65 1 0)) else (if 9 < a1 then (some ((-1), up2 D 65 1 0)) else (if a2 = 0 then (if a3 = 0 then (some ((-1), up2 D 65 1 0)) else (P_X7_save_29 (gN XG) F a1 a2 a3 D)) else (P_X7_save_29 (gN XG) F a1 a2 a3 D)))) : Rs) = some (r0, D') := h
  refine lv_iload_n hx hb dX7_save_0 rfl (lv_at hl 1 rfl) ?_
  refine lv_iconst (v := 1) hx hb dX7_save_1 (by decide) ?_
  refine lv_icmp_lt (tgt := 19) hx hb dX7_save_2 (by decide) (fun c17 => ?_) (fun c17 => ?_)
  · have h := x_t (show a1 < 1 from c17) h
    refine lv_aload_n hx hb dX7_save_19 rfl (lv_at hl 0 rfl) ?_
    refine x_get hx hb ht0 u_X7 hown hK hP (xk_0).1 (ce7 (xk_0).2) rfl 5 (by decide) (ht0 _ m_FL_X7_53) rfl (rfv (G := XG) (c := 0) (k := 5) (c' := 65) rfl) dX7_save_20 ?_
    refine lv_iconst (v := 0) hx hb dX7_save_23 (by decide) ?_
    refine x_put (ty := .int) hx hb ht0 u_X1 tyX1 tyX1_ok nmX1 hown hK ij hP hS (xk_65).1 (ce1 (xk_65).2) rfl 1 (by decide) (ht0 _ m_FL_X7_76) rfl rfl (by decide +kernel) rfl rfl (Nat.le_of_ble_eq_true rfl) (by rw [(xk_65).2]; rfl) dX7_save_24 (fun H locs hP hS => ?_)
    refine lv_iconst (v := (-1)) hx hb dX7_save_27 (by decide) ?_
    exact x_iret hx hb hr hlocks rfl hP hS h dX7_save_28
  · have h := x_f (show ¬ (a1 < 1) from c17) h
    refine lv_iload_n hx hb dX7_save_5 rfl (lv_at hl 1 rfl) ?_
    refine lv_bipush (v := 9) hx hb dX7_save_6 (by decide) ?_
    refine lv_icmp_gt (tgt := 19) hx hb dX7_save_8 (by decide) (fun c18 => ?_) (fun c18 => ?_)
    · have h := x_t (show 9 < a1 from c18) h
      refine lv_aload_n hx hb dX7_save_19 rfl (lv_at hl 0 rfl) ?_
      refine x_get hx hb ht0 u_X7 hown hK hP (xk_0).1 (ce7 (xk_0).2) rfl 5 (by decide) (ht0 _ m_FL_X7_53) rfl (rfv (G := XG) (c := 0) (k := 5) (c' := 65) rfl) dX7_save_20 ?_
      refine lv_iconst (v := 0) hx hb dX7_save_23 (by decide) ?_
      refine x_put (ty := .int) hx hb ht0 u_X1 tyX1 tyX1_ok nmX1 hown hK ij hP hS (xk_65).1 (ce1 (xk_65).2) rfl 1 (by decide) (ht0 _ m_FL_X7_76) rfl rfl (by decide +kernel) rfl rfl (Nat.le_of_ble_eq_true rfl) (by rw [(xk_65).2]; rfl) dX7_save_24 (fun H locs hP hS => ?_)
      refine lv_iconst (v := (-1)) hx hb dX7_save_27 (by decide) ?_
      exact x_iret hx hb hr hlocks rfl hP hS h dX7_save_28
    · have h := x_f (show ¬ (9 < a1) from c18) h
      refine lv_iload_n hx hb dX7_save_11 rfl (lv_at hl 2 rfl) ?_
      refine lv_if_ne (tgt := 29) hx hb dX7_save_12 (by decide) (fun c19 => ?_) (fun c19 => ?_)
      · have h := x_f (show ¬ (a2 = 0) from c19) h
        exact L29 a1 a2 a3 D _ _ _ h hP hS (lv_sub hl [0, 1, 2, 3] rfl)
      · have h := x_t (show a2 = 0 from c19) h
        refine lv_iload_n hx hb dX7_save_15 rfl (lv_at hl 3 rfl) ?_
        refine lv_if_ne (tgt := 29) hx hb dX7_save_16 (by decide) (fun c20 => ?_) (fun c20 => ?_)
        · have h := x_f (show ¬ (a3 = 0) from c20) h
          exact L29 a1 a2 a3 D _ _ _ h hP hS (lv_sub hl [0, 1, 2, 3] rfl)
        · have h := x_t (show a3 = 0 from c20) h
          refine lv_aload_n hx hb dX7_save_19 rfl (lv_at hl 0 rfl) ?_
          refine x_get hx hb ht0 u_X7 hown hK hP (xk_0).1 (ce7 (xk_0).2) rfl 5 (by decide) (ht0 _ m_FL_X7_53) rfl (rfv (G := XG) (c := 0) (k := 5) (c' := 65) rfl) dX7_save_20 ?_
          refine lv_iconst (v := 0) hx hb dX7_save_23 (by decide) ?_
          refine x_put (ty := .int) hx hb ht0 u_X1 tyX1 tyX1_ok nmX1 hown hK ij hP hS (xk_65).1 (ce1 (xk_65).2) rfl 1 (by decide) (ht0 _ m_FL_X7_76) rfl rfl (by decide +kernel) rfl rfl (Nat.le_of_ble_eq_true rfl) (by rw [(xk_65).2]; rfl) dX7_save_24 (fun H locs hP hS => ?_)
          refine lv_iconst (v := (-1)) hx hb dX7_save_27 (by decide) ?_
          exact x_iret hx hb hr hlocks rfl hP hS h dX7_save_28
abbrev rm_X7_outputOr : Room := { frames := 0, cells := 0, slots := 0, locals := 0 }
set_option maxHeartbeats 4000000 in
set_option maxRecDepth 100000 in
theorem c_X7_outputOr (l : Launch) (dd : Dd) (Y : Yc) (t : Ts3) (ad : Nat → Nat) (ij : Ij XG ad) (F : Nat) (a1 : Int32) (D0 D' : Mm) (r0 : Int32) (h : P_X7_outputOr (gN XG) F a1 D0 = some (r0, D')) : Met l yX7_outputOr wzX7_outputOr rm_X7_outputOr (va_Pc [.ref (ad 0), .int a1] (Wd dd Y t XG ad D0)) (Qi dd Y XG ad .int r0 D') 0 0 (pA XG ad) := by
  refine Met.ofW (cc := cX7_outputOr) (maxL := 2) (ret := (some .int)) (by decide) rfl ?_
  intro p e s m args below meth c s₁ B hml hv
  obtain ⟨rfl, hP, hK, hT⟩ := hv
  have hx := B.exec
  have hb := B.bytes
  have hr := B.returns
  have ht0 : ∀ w ∈ W0, w.before _ s = true := fun w h => atoms_spec (ws := wzX7_outputOr) B.pre w (List.mem_cons_of_mem _ h)
  have hown : s.vm.findClass RX7 = some m.cls := findClass_of_methodNamed B.named
  have hlocks := B.notSynchronized
  have hS : va_S (pA XG ad) s.heap s.heap [] := va_S.rf
  have hl := lv_entry ([.ref (ad 0), .int a1]) (n := 2) (Nat.le_of_ble_eq_true rfl)
  rw [lg_entry_eq]
  generalize (lg_sl ([.ref (ad 0), .int a1]) ++ List.replicate (2 - (lg_sl ([.ref (ad 0), .int a1])).length) Slot.unset).toArray = ls at hl ⊢
  have hl : lv_has ls 2 [(0, .ref (ad 0)), (1, .int a1)] := hl
  have hP : va_P dd vwCl (wW Y XG ad D0) s.heap := hP
  generalize D0 = D at h hP
  have h : ((if a1 = 0 then (some (D 67 1, D)) else (some ((-1), up2 D 67 1 0))) : Rs) = some (r0, D') := h
  refine lv_iload_n hx hb dX7_outputOr_0 rfl (lv_at hl 1 rfl) ?_
  refine lv_if_eq (tgt := 14) hx hb dX7_outputOr_1 (by decide) (fun c1 => ?_) (fun c1 => ?_)
  · have h := x_t (show a1 = 0 from c1) h
    refine lv_aload_n hx hb dX7_outputOr_14 rfl (lv_at hl 0 rfl) ?_
    refine x_get hx hb ht0 u_X7 hown hK hP (xk_0).1 (ce7 (xk_0).2) rfl 6 (by decide) (ht0 _ m_FL_X7_57) rfl (rfv (G := XG) (c := 0) (k := 6) (c' := 67) rfl) dX7_outputOr_15 ?_
    refine x_get hx hb ht0 u_X1 hown hK hP (xk_67).1 (ce1 (xk_67).2) rfl 1 (by decide) (ht0 _ m_FL_X7_76) rfl rfl dX7_outputOr_18 ?_
    exact x_iret hx hb hr hlocks rfl hP hS h dX7_outputOr_21
  · have h := x_f (show ¬ (a1 = 0) from c1) h
    refine lv_aload_n hx hb dX7_outputOr_4 rfl (lv_at hl 0 rfl) ?_
    refine x_get hx hb ht0 u_X7 hown hK hP (xk_0).1 (ce7 (xk_0).2) rfl 6 (by decide) (ht0 _ m_FL_X7_57) rfl (rfv (G := XG) (c := 0) (k := 6) (c' := 67) rfl) dX7_outputOr_5 ?_
    refine lv_iconst (v := 0) hx hb dX7_outputOr_8 (by decide) ?_
    refine x_put (ty := .int) hx hb ht0 u_X1 tyX1 tyX1_ok nmX1 hown hK ij hP hS (xk_67).1 (ce1 (xk_67).2) rfl 1 (by decide) (ht0 _ m_FL_X7_76) rfl rfl (by decide +kernel) rfl rfl (Nat.le_of_ble_eq_true rfl) (by rw [(xk_67).2]; rfl) dX7_outputOr_9 (fun H locs hP hS => ?_)
    refine lv_iconst (v := (-1)) hx hb dX7_outputOr_12 (by decide) ?_
    exact x_iret hx hb hr hlocks rfl hP hS h dX7_outputOr_13
abbrev rm_X7_load : Room := { frames := 7, cells := 0, slots := 0, locals := 177 }
set_option maxHeartbeats 4000000 in
set_option maxRecDepth 100000 in
theorem c_X7_load (l : Launch) (dd : Dd) (Y : Yc) (t : Ts3) (ad : Nat → Nat) (ij : Ij XG ad) (F : Nat) (a1 a2 : Int32) (D0 D' : Mm) (r0 : Int32) (h : P_X7_load (gN XG) F a1 a2 D0 = some (r0, D')) : Met l yX7_load wzX7_load rm_X7_load (va_Pc [.ref (ad 0), .int a1, .int a2] (Wd dd Y t XG ad D0)) (Qi dd Y XG ad .int r0 D') 0 0 (pA XG ad) := by
  refine Met.ofW (cc := cX7_load) (maxL := 4) (ret := (some .int)) (by decide) rfl ?_
  intro p e s m args below meth c s₁ B hml hv
  obtain ⟨rfl, hP, hK, hT⟩ := hv
  have hx := B.exec
  have hb := B.bytes
  have hr := B.returns
  have ht0 : ∀ w ∈ W0, w.before _ s = true := fun w h => atoms_spec (ws := wzX7_load) B.pre w (List.mem_cons_of_mem _ h)
  have hown : s.vm.findClass RX7 = some m.cls := findClass_of_methodNamed B.named
  have hlocks := B.notSynchronized
  have hS : va_S (pA XG ad) s.heap s.heap [] := va_S.rf
  have hl := lv_entry ([.ref (ad 0), .int a1, .int a2]) (n := 4) (Nat.le_of_ble_eq_true rfl)
  rw [lg_entry_eq]
  generalize (lg_sl ([.ref (ad 0), .int a1, .int a2]) ++ List.replicate (4 - (lg_sl ([.ref (ad 0), .int a1, .int a2])).length) Slot.unset).toArray = ls at hl ⊢
  have hl : lv_has ls 4 [(0, .ref (ad 0)), (1, .int a1), (2, .int a2)] := hl
  have hP : va_P dd vwCl (wW Y XG ad D0) s.heap := hP
  generalize D0 = D at h hP
  have h : ((bi (P_X7_lookFor (gN XG) F a1 a2 (up2 D 67 1 0)) (fun r1 D1 => if r1 = 0 then (bi (P_X2_follow (gN XG) F 67 D1) (fun r4 D4 => bi (P_X7_outputOr (gN XG) F r4 D4) (fun r5 D5 => some (r5, D5)))) else (bi (P_X7_outputOr (gN XG) F r1 D1) (fun r3 D3 => some (r3, D3))))) : Rs) = some (r0, D') := h
  refine lv_aload_n hx hb dX7_load_0 rfl (lv_at hl 0 rfl) ?_
  refine x_get hx hb ht0 u_X7 hown hK hP (xk_0).1 (ce7 (xk_0).2) rfl 6 (by decide) (ht0 _ m_FL_X7_57) rfl (rfv (G := XG) (c := 0) (k := 6) (c' := 67) rfl) dX7_load_1 ?_
  refine lv_iconst (v := 0) hx hb dX7_load_4 (by decide) ?_
  refine x_put (ty := .int) hx hb ht0 u_X1 tyX1 tyX1_ok nmX1 hown hK ij hP hS (xk_67).1 (ce1 (xk_67).2) rfl 1 (by decide) (ht0 _ m_FL_X7_76) rfl rfl (by decide +kernel) rfl rfl (Nat.le_of_ble_eq_true rfl) (by rw [(xk_67).2]; rfl) dX7_load_5 (fun H locs hP hS => ?_)
  refine lv_aload_n hx hb dX7_load_8 rfl (lv_at hl 0 rfl) ?_
  refine lv_iload_n hx hb dX7_load_9 rfl (lv_at hl 1 rfl) ?_
  refine lv_iload_n hx hb dX7_load_10 rfl (lv_at hl 2 rfl) ?_
  obtain ⟨r1, D1, hc1, h⟩ := bi_some h
  refine x_callVi (As := [.int a1, .int a2]) ⟨hx, hb, hml, hown, ht0⟩ hK hT hP hS (c_X7_lookFor l dd Y t ad ij F a1 a2 _ _ _ hc1) m_ML_X7_105 sv_X7_lookFor hd_X7_lookFor rfl rfl ⟨Nat.le_of_ble_eq_true rfl, Nat.le_of_ble_eq_true rfl⟩ (xk_0).1 (ce7 (xk_0).2) rfl rfl hl.1 rfl (Nat.le_of_ble_eq_true rfl) dX7_load_11 ⟨Nat.zero_le _, Nat.zero_le _⟩ (fun H locs hn_r1 hP hS => ?_)
  refine lv_istore_n (lv' := [(3, .int r1), (0, .ref (ad 0)), (1, .int a1), (2, .int a2)]) hx hb dX7_load_14 rfl hl (by decide) rfl (fun ls hl => ?_)
  refine lv_iload_n hx hb dX7_load_15 rfl (lv_at hl 0 rfl) ?_
  refine lv_if_ne (tgt := 35) hx hb dX7_load_16 (by decide) (fun c2 => ?_) (fun c2 => ?_)
  · have h := x_f (show ¬ (r1 = 0) from c2) h
    refine lv_aload_n hx hb dX7_load_35 rfl (lv_at hl 1 rfl) ?_
    refine lv_iload_n hx hb dX7_load_36 rfl (lv_at hl 0 rfl) ?_
    obtain ⟨r3, D3, hc3, h⟩ := bi_some h
    refine x_callVi (As := [.int r1]) ⟨hx, hb, hml, hown, ht0⟩ hK hT hP hS (c_X7_outputOr l dd Y t ad ij F r1 _ _ _ hc3) m_ML_X7_136 sv_X7_outputOr hd_X7_outputOr rfl rfl ⟨Nat.le_of_ble_eq_true rfl, Nat.le_of_ble_eq_true rfl⟩ (xk_0).1 (ce7 (xk_0).2) rfl rfl hl.1 rfl (Nat.le_of_ble_eq_true rfl) dX7_load_37 ⟨Nat.zero_le _, Nat.zero_le _⟩ (fun H locs hn_r3 hP hS => ?_)
    exact x_iret hx hb hr hlocks rfl hP hS h dX7_load_40
  · have h := x_t (show r1 = 0 from c2) h
    refine lv_aload_n hx hb dX7_load_19 rfl (lv_at hl 1 rfl) ?_
    refine x_get hx hb ht0 u_X7 hown hK hP (xk_0).1 (ce7 (xk_0).2) rfl 4 (by decide) (ht0 _ m_FL_X7_44) rfl (rfv (G := XG) (c := 0) (k := 4) (c' := 61) rfl) dX7_load_20 ?_
    refine lv_aload_n hx hb dX7_load_23 rfl (lv_at hl 1 rfl) ?_
    refine x_get hx hb ht0 u_X7 hown hK hP (xk_0).1 (ce7 (xk_0).2) rfl 3 (by decide) (ht0 _ m_FL_X7_37) rfl (rfv (G := XG) (c := 0) (k := 3) (c' := 58) rfl) dX7_load_24 ?_
    refine lv_aload_n hx hb dX7_load_27 rfl (lv_at hl 1 rfl) ?_
    refine x_get hx hb ht0 u_X7 hown hK hP (xk_0).1 (ce7 (xk_0).2) rfl 6 (by decide) (ht0 _ m_FL_X7_57) rfl (rfv (G := XG) (c := 0) (k := 6) (c' := 67) rfl) dX7_load_28 ?_
    obtain ⟨r4, D4, hc4, h⟩ := bi_some h
    refine x_callVi (As := [.ref (ad 58), .ref (ad 67)]) ⟨hx, hb, hml, hown, ht0⟩ hK hT hP hS (c_X2_follow l dd Y t ad ij F 67 xb_67 _ _ _ hc4) m_ML_X7_132 sv_X2_follow hd_X2_follow rfl rfl ⟨Nat.le_of_ble_eq_true rfl, Nat.le_of_ble_eq_true rfl⟩ (xk_61).1 (ce2 (xk_61).2) rfl rfl hl.1 rfl (Nat.le_of_ble_eq_true rfl) dX7_load_31 ⟨Nat.zero_le _, Nat.zero_le _⟩ (fun H locs hn_r4 hP hS => ?_)
    refine lv_istore_n (lv' := [(3, .int r4), (0, .ref (ad 0)), (1, .int a1), (2, .int a2)]) hx hb dX7_load_34 rfl hl (by decide) rfl (fun ls hl => ?_)
    refine lv_aload_n hx hb dX7_load_35 rfl (lv_at hl 1 rfl) ?_
    refine lv_iload_n hx hb dX7_load_36 rfl (lv_at hl 0 rfl) ?_
    obtain ⟨r5, D5, hc5, h⟩ := bi_some h
    refine x_callVi (As := [.int r4]) ⟨hx, hb, hml, hown, ht0⟩ hK hT hP hS (c_X7_outputOr l dd Y t ad ij F r4 _ _ _ hc5) m_ML_X7_136 sv_X7_outputOr hd_X7_outputOr rfl rfl ⟨Nat.le_of_ble_eq_true rfl, Nat.le_of_ble_eq_true rfl⟩ (xk_0).1 (ce7 (xk_0).2) rfl rfl hl.1 rfl (Nat.le_of_ble_eq_true rfl) dX7_load_37 ⟨Nat.zero_le _, Nat.zero_le _⟩ (fun H locs hn_r5 hP hS => ?_)
    exact x_iret hx hb hr hlocks rfl hP hS h dX7_load_40
abbrev rm_X7_scratch : Room := { frames := 7, cells := 0, slots := 0, locals := 177 }
set_option maxHeartbeats 4000000 in
set_option maxRecDepth 100000 in
theorem c_X7_scratch (l : Launch) (dd : Dd) (Y : Yc) (t : Ts3) (ad : Nat → Nat) (ij : Ij XG ad) (F : Nat) (a1 a2 : Int32) (D0 D' : Mm) (r0 : Int32) (h : P_X7_scratch (gN XG) F a1 a2 D0 = some (r0, D')) : Met l yX7_scratch wzX7_scratch rm_X7_scratch (va_Pc [.ref (ad 0), .int a1, .int a2] (Wd dd Y t XG ad D0)) (Qi dd Y XG ad .int r0 D') 0 0 (pA XG ad) := by
  refine Met.ofW (cc := cX7_scratch) (maxL := 4) (ret := (some .int)) (by decide) rfl ?_
  intro p e s m args below meth c s₁ B hml hv
  obtain ⟨rfl, hP, hK, hT⟩ := hv
  have hx := B.exec
  have hb := B.bytes
  have hr := B.returns
  have ht0 : ∀ w ∈ W0, w.before _ s = true := fun w h => atoms_spec (ws := wzX7_scratch) B.pre w (List.mem_cons_of_mem _ h)
  have hown : s.vm.findClass RX7 = some m.cls := findClass_of_methodNamed B.named
  have hlocks := B.notSynchronized
  have hS : va_S (pA XG ad) s.heap s.heap [] := va_S.rf
  have L72 : ∀ (x3 : Int32) (D : Mm) (H : Heap) (locs : List Loc) (ls : Array Slot), P_X7_scratch_72 (gN XG) F x3 D = some (r0, D') → va_P dd vwCl (wW Y XG ad D) H → va_S (pA XG ad) s.heap H locs → lv_has ls 4 [(0, .ref (ad 0)), (3, .int x3)] → W p l e (headSpec wzX7_scratch rm_X7_scratch).room s m ([.ref (ad 0), .int a1, .int a2].toArray) below meth c H locs 0 0 (MQ below (Qi dd Y XG ad .int r0 D') ([.ref (ad 0), .int a1, .int a2].toArray) s 0 0 (pA XG ad)) (F0 m 72 ls []) := by
    intro x3 D H locs ls h hP hS hl
    have h : ((if x3 = 0 then (bi (P_X6_tell (gN XG) F 1 (D 61 4) 0 D) (fun r2 D2 => some (r2, D2))) else (some (x3, D))) : Rs) = some (r0, D') := h
    refine lv_iload_n hx hb dX7_scratch_72 rfl (lv_at hl 1 rfl) ?_
    refine lv_if_ne (tgt := 95) hx hb dX7_scratch_73 (by decide) (fun c1 => ?_) (fun c1 => ?_)
    · have h := x_f (show ¬ (x3 = 0) from c1) h
      refine lv_iload_n hx hb dX7_scratch_95 rfl (lv_at hl 1 rfl) ?_
      exact x_iret hx hb hr hlocks rfl hP hS h dX7_scratch_96
    · have h := x_t (show x3 = 0 from c1) h
      refine lv_aload_n hx hb dX7_scratch_76 rfl (lv_at hl 0 rfl) ?_
      refine x_get hx hb ht0 u_X7 hown hK hP (xk_0).1 (ce7 (xk_0).2) rfl 0 (by decide) (ht0 _ m_FL_X7_12) rfl (rfv (G := XG) (c := 0) (k := 0) (c' := 1) rfl) dX7_scratch_77 ?_
      refine lv_iconst (v := 1) hx hb dX7_scratch_80 (by decide) ?_
      refine lv_aload_n hx hb dX7_scratch_81 rfl (lv_at hl 0 rfl) ?_
      refine x_get hx hb ht0 u_X7 hown hK hP (xk_0).1 (ce7 (xk_0).2) rfl 4 (by decide) (ht0 _ m_FL_X7_44) rfl (rfv (G := XG) (c := 0) (k := 4) (c' := 61) rfl) dX7_scratch_82 ?_
      refine x_get hx hb ht0 u_X2 hown hK hP (xk_61).1 (ce2 (xk_61).2) rfl 4 (by decide) (ht0 _ m_FL_X7_147) rfl rfl dX7_scratch_85 ?_
      refine lv_iconst (v := 0) hx hb dX7_scratch_88 (by decide) ?_
      obtain ⟨r2, D2, hc2, h⟩ := bi_some h
      refine x_callVi (As := [.int 1, .int (D 61 4), .int 0]) ⟨hx, hb, hml, hown, ht0⟩ hK hT hP hS (c_X6_tell l dd Y t ad ij F 1 (D 61 4) 0 _ _ _ hc2) m_ML_X7_101 sv_X6_tell hd_X6_tell rfl rfl ⟨Nat.le_of_ble_eq_true rfl, Nat.le_of_ble_eq_true rfl⟩ (xk_1).1 (ce6 (xk_1).2) rfl rfl hl.1 rfl (Nat.le_of_ble_eq_true rfl) dX7_scratch_89 ⟨Nat.zero_le _, Nat.zero_le _⟩ (fun H locs hn_r2 hP hS => ?_)
      refine lv_goto (tgt := 96) hx hb dX7_scratch_92 (by decide) ?_
      exact x_iret hx hb hr hlocks rfl hP hS h dX7_scratch_96
  have L39 : ∀ (x3 : Int32) (D : Mm) (H : Heap) (locs : List Loc) (ls : Array Slot), P_X7_scratch_39 (gN XG) F x3 D = some (r0, D') → va_P dd vwCl (wW Y XG ad D) H → va_S (pA XG ad) s.heap H locs → lv_has ls 4 [(0, .ref (ad 0)), (3, .int x3)] → W p l e (headSpec wzX7_scratch rm_X7_scratch).room s m ([.ref (ad 0), .int a1, .int a2].toArray) below meth c H locs 0 0 (MQ below (Qi dd Y XG ad .int r0 D') ([.ref (ad 0), .int a1, .int a2].toArray) s 0 0 (pA XG ad)) (F0 m 39 ls []) := by
    intro x3 D H locs ls h hP hS hl
    have h : ((if x3 = 0 then (bi (P_X2_release (gN XG) F D) (fun r4 D4 => bi (P_X0_store (gN XG) F 57 9 0 D4) (fun r5 D5 => P_X7_scratch_72 (gN XG) F r5 D5))) else (P_X7_scratch_72 (gN XG) F x3 D)) : Rs) = some (r0, D') := h
    refine lv_iload_n hx hb dX7_scratch_39 rfl (lv_at hl 1 rfl) ?_
    refine lv_if_ne (tgt := 72) hx hb dX7_scratch_40 (by decide) (fun c3 => ?_) (fun c3 => ?_)
    · have h := x_f (show ¬ (x3 = 0) from c3) h
      exact L72 x3 D _ _ _ h hP hS (lv_sub hl [0, 1] rfl)
    · have h := x_t (show x3 = 0 from c3) h
      refine lv_aload_n hx hb dX7_scratch_43 rfl (lv_at hl 0 rfl) ?_
      refine x_get hx hb ht0 u_X7 hown hK hP (xk_0).1 (ce7 (xk_0).2) rfl 4 (by decide) (ht0 _ m_FL_X7_44) rfl (rfv (G := XG) (c := 0) (k := 4) (c' := 61) rfl) dX7_scratch_44 ?_
      refine lv_aload_n hx hb dX7_scratch_47 rfl (lv_at hl 0 rfl) ?_
      refine x_get hx hb ht0 u_X7 hown hK hP (xk_0).1 (ce7 (xk_0).2) rfl 2 (by decide) (ht0 _ m_FL_X7_28) rfl (rfv (G := XG) (c := 0) (k := 2) (c' := 56) rfl) dX7_scratch_48 ?_
      obtain ⟨r4, D4, hc4, h⟩ := bi_some h
      refine x_callVv (As := [.ref (ad 56)]) ⟨hx, hb, hml, hown, ht0⟩ hK hT hP hS (c_X2_release l dd Y t ad ij F  _ _ _ hc4) m_ML_X7_143 sv_X2_release hd_X2_release rfl rfl ⟨Nat.le_of_ble_eq_true rfl, Nat.le_of_ble_eq_true rfl⟩ (xk_61).1 (ce2 (xk_61).2) rfl rfl hl.1 rfl (Nat.le_of_ble_eq_true rfl) dX7_scratch_51 ⟨Nat.zero_le _, Nat.zero_le _⟩ (fun H locs hP hS => ?_)
      refine lv_aload_n hx hb dX7_scratch_54 rfl (lv_at hl 0 rfl) ?_
      refine x_get hx hb ht0 u_X7 hown hK hP (xk_0).1 (ce7 (xk_0).2) rfl 1 (by decide) (ht0 _ m_FL_X7_21) rfl (rfv (G := XG) (c := 0) (k := 1) (c' := 2) rfl) dX7_scratch_55 ?_
      refine lv_bipush (v := 9) hx hb dX7_scratch_58 (by decide) ?_
      refine lv_iconst (v := 0) hx hb dX7_scratch_60 (by decide) ?_
      refine lv_aload_n hx hb dX7_scratch_61 rfl (lv_at hl 0 rfl) ?_
      refine x_get hx hb ht0 u_X7 hown hK hP (xk_0).1 (ce7 (xk_0).2) rfl 2 (by decide) (ht0 _ m_FL_X7_28) rfl (rfv (G := XG) (c := 0) (k := 2) (c' := 56) rfl) dX7_scratch_62 ?_
      refine x_get hx hb ht0 u_X4 hown hK hP (xk_56).1 (ce4 (xk_56).2) rfl 0 (by decide) (ht0 _ m_FL_X7_94) rfl (rfv (G := XG) (c := 56) (k := 0) (c' := 57) rfl) dX7_scratch_65 ?_
      obtain ⟨r5, D5, hc5, h⟩ := bi_some h
      refine x_callVi (As := [.int 9, .int 0, .ref (ad 57)]) ⟨hx, hb, hml, hown, ht0⟩ hK hT hP hS (c_X0_store l dd Y t ad ij F 57 xk_57 9 0 _ _ _ hc5) m_ML_X7_129 sv_X0_store hd_X0_store rfl rfl ⟨Nat.le_of_ble_eq_true rfl, Nat.le_of_ble_eq_true rfl⟩ (xk_2).1 (ce0 (xk_2).2) rfl rfl hl.1 rfl (Nat.le_of_ble_eq_true rfl) dX7_scratch_68 ⟨Nat.zero_le _, Nat.zero_le _⟩ (fun H locs hn_r5 hP hS => ?_)
      refine lv_istore_n (lv' := [(3, .int r5), (0, .ref (ad 0))]) hx hb dX7_scratch_71 rfl hl (by decide) rfl (fun ls hl => ?_)
      exact L72 r5 D5 _ _ _ h hP hS (lv_sub hl [1, 0] rfl)
  have hl := lv_entry ([.ref (ad 0), .int a1, .int a2]) (n := 4) (Nat.le_of_ble_eq_true rfl)
  rw [lg_entry_eq]
  generalize (lg_sl ([.ref (ad 0), .int a1, .int a2]) ++ List.replicate (4 - (lg_sl ([.ref (ad 0), .int a1, .int a2])).length) Slot.unset).toArray = ls at hl ⊢
  have hl : lv_has ls 4 [(0, .ref (ad 0)), (1, .int a1), (2, .int a2)] := hl
  have hP : va_P dd vwCl (wW Y XG ad D0) s.heap := hP
  generalize D0 = D at h hP
  have h : ((bi (P_X7_lookFor (gN XG) F a1 a2 D) (fun r6 D6 => if r6 = 0 then (bi (P_X2_follow (gN XG) F 69 D6) (fun r10 D10 => if r10 = 0 then (bi (P_X3_storeWithoutEntry (gN XG) F D10) (fun r12 D12 => P_X7_scratch_39 (gN XG) F r12 D12)) else (P_X7_scratch_39 (gN XG) F r10 D10))) else (if r6 = 0 then (bi (P_X3_storeWithoutEntry (gN XG) F D6) (fun r9 D9 => P_X7_scratch_39 (gN XG) F r9 D9)) else (P_X7_scratch_39 (gN XG) F r6 D6)))) : Rs) = some (r0, D') := h
  refine lv_aload_n hx hb dX7_scratch_0 rfl (lv_at hl 0 rfl) ?_
  refine lv_iload_n hx hb dX7_scratch_1 rfl (lv_at hl 1 rfl) ?_
  refine lv_iload_n hx hb dX7_scratch_2 rfl (lv_at hl 2 rfl) ?_
  obtain ⟨r6, D6, hc6, h⟩ := bi_some h
  refine x_callVi (As := [.int a1, .int a2]) ⟨hx, hb, hml, hown, ht0⟩ hK hT hP hS (c_X7_lookFor l dd Y t ad ij F a1 a2 _ _ _ hc6) m_ML_X7_105 sv_X7_lookFor hd_X7_lookFor rfl rfl ⟨Nat.le_of_ble_eq_true rfl, Nat.le_of_ble_eq_true rfl⟩ (xk_0).1 (ce7 (xk_0).2) rfl rfl hl.1 rfl (Nat.le_of_ble_eq_true rfl) dX7_scratch_3 ⟨Nat.zero_le _, Nat.zero_le _⟩ (fun H locs hn_r6 hP hS => ?_)
  refine lv_istore_n (lv' := [(3, .int r6), (0, .ref (ad 0)), (1, .int a1), (2, .int a2)]) hx hb dX7_scratch_6 rfl hl (by decide) rfl (fun ls hl => ?_)
  refine lv_iload_n hx hb dX7_scratch_7 rfl (lv_at hl 0 rfl) ?_
  refine lv_if_ne (tgt := 27) hx hb dX7_scratch_8 (by decide) (fun c7 => ?_) (fun c7 => ?_)
  · have h := x_f (show ¬ (r6 = 0) from c7) h
    refine lv_iload_n hx hb dX7_scratch_27 rfl (lv_at hl 0 rfl) ?_
    refine lv_if_ne (tgt := 39) hx hb dX7_scratch_28 (by decide) (fun c8 => ?_) (fun c8 => ?_)
    · have h := x_f (show ¬ (r6 = 0) from c8) h
      exact L39 r6 D6 _ _ _ h hP hS (lv_sub hl [1, 0] rfl)
    · have h := x_t (show r6 = 0 from c8) h
      refine lv_aload_n hx hb dX7_scratch_31 rfl (lv_at hl 1 rfl) ?_
      refine x_get hx hb ht0 u_X7 hown hK hP (xk_0).1 (ce7 (xk_0).2) rfl 3 (by decide) (ht0 _ m_FL_X7_37) rfl (rfv (G := XG) (c := 0) (k := 3) (c' := 58) rfl) dX7_scratch_32 ?_
      obtain ⟨r9, D9, hc9, h⟩ := bi_some h
      refine x_callVi (As := []) ⟨hx, hb, hml, hown, ht0⟩ hK hT hP hS (c_X3_storeWithoutEntry l dd Y t ad ij F  _ _ _ hc9) m_ML_X7_139 sv_X3_storeWithoutEntry hd_X3_storeWithoutEntry rfl rfl ⟨Nat.le_of_ble_eq_true rfl, Nat.le_of_ble_eq_true rfl⟩ (xk_58).1 (ce3 (xk_58).2) rfl rfl hl.1 rfl (Nat.le_of_ble_eq_true rfl) dX7_scratch_35 ⟨Nat.zero_le _, Nat.zero_le _⟩ (fun H locs hn_r9 hP hS => ?_)
      refine lv_istore_n (lv' := [(3, .int r9), (0, .ref (ad 0)), (1, .int a1), (2, .int a2)]) hx hb dX7_scratch_38 rfl hl (by decide) rfl (fun ls hl => ?_)
      exact L39 r9 D9 _ _ _ h hP hS (lv_sub hl [1, 0] rfl)
  · have h := x_t (show r6 = 0 from c7) h
    refine lv_aload_n hx hb dX7_scratch_11 rfl (lv_at hl 1 rfl) ?_
    refine x_get hx hb ht0 u_X7 hown hK hP (xk_0).1 (ce7 (xk_0).2) rfl 4 (by decide) (ht0 _ m_FL_X7_44) rfl (rfv (G := XG) (c := 0) (k := 4) (c' := 61) rfl) dX7_scratch_12 ?_
    refine lv_aload_n hx hb dX7_scratch_15 rfl (lv_at hl 1 rfl) ?_
    refine x_get hx hb ht0 u_X7 hown hK hP (xk_0).1 (ce7 (xk_0).2) rfl 3 (by decide) (ht0 _ m_FL_X7_37) rfl (rfv (G := XG) (c := 0) (k := 3) (c' := 58) rfl) dX7_scratch_16 ?_
    refine lv_aload_n hx hb dX7_scratch_19 rfl (lv_at hl 1 rfl) ?_
    refine x_get hx hb ht0 u_X7 hown hK hP (xk_0).1 (ce7 (xk_0).2) rfl 7 (by decide) (ht0 _ m_FL_X7_60) rfl (rfv (G := XG) (c := 0) (k := 7) (c' := 69) rfl) dX7_scratch_20 ?_
    obtain ⟨r10, D10, hc10, h⟩ := bi_some h
    refine x_callVi (As := [.ref (ad 58), .ref (ad 69)]) ⟨hx, hb, hml, hown, ht0⟩ hK hT hP hS (c_X2_follow l dd Y t ad ij F 69 xb_69 _ _ _ hc10) m_ML_X7_132 sv_X2_follow hd_X2_follow rfl rfl ⟨Nat.le_of_ble_eq_true rfl, Nat.le_of_ble_eq_true rfl⟩ (xk_61).1 (ce2 (xk_61).2) rfl rfl hl.1 rfl (Nat.le_of_ble_eq_true rfl) dX7_scratch_23 ⟨Nat.zero_le _, Nat.zero_le _⟩ (fun H locs hn_r10 hP hS => ?_)
    refine lv_istore_n (lv' := [(3, .int r10), (0, .ref (ad 0)), (1, .int a1), (2, .int a2)]) hx hb dX7_scratch_26 rfl hl (by decide) rfl (fun ls hl => ?_)
    refine lv_iload_n hx hb dX7_scratch_27 rfl (lv_at hl 0 rfl) ?_
    refine lv_if_ne (tgt := 39) hx hb dX7_scratch_28 (by decide) (fun c11 => ?_) (fun c11 => ?_)
    · have h := x_f (show ¬ (r10 = 0) from c11) h
      exact L39 r10 D10 _ _ _ h hP hS (lv_sub hl [1, 0] rfl)
    · have h := x_t (show r10 = 0 from c11) h
      refine lv_aload_n hx hb dX7_scratch_31 rfl (lv_at hl 1 rfl) ?_
      refine x_get hx hb ht0 u_X7 hown hK hP (xk_0).1 (ce7 (xk_0).2) rfl 3 (by decide) (ht0 _ m_FL_X7_37) rfl (rfv (G := XG) (c := 0) (k := 3) (c' := 58) rfl) dX7_scratch_32 ?_
      obtain ⟨r12, D12, hc12, h⟩ := bi_some h
      refine x_callVi (As := []) ⟨hx, hb, hml, hown, ht0⟩ hK hT hP hS (c_X3_storeWithoutEntry l dd Y t ad ij F  _ _ _ hc12) m_ML_X7_139 sv_X3_storeWithoutEntry hd_X3_storeWithoutEntry rfl rfl ⟨Nat.le_of_ble_eq_true rfl, Nat.le_of_ble_eq_true rfl⟩ (xk_58).1 (ce3 (xk_58).2) rfl rfl hl.1 rfl (Nat.le_of_ble_eq_true rfl) dX7_scratch_35 ⟨Nat.zero_le _, Nat.zero_le _⟩ (fun H locs hn_r12 hP hS => ?_)
      refine lv_istore_n (lv' := [(3, .int r12), (0, .ref (ad 0)), (1, .int a1), (2, .int a2)]) hx hb dX7_scratch_38 rfl hl (by decide) rfl (fun ls hl => ?_)
      exact L39 r12 D12 _ _ _ h hP hS (lv_sub hl [1, 0] rfl)
abbrev rm_X7_list : Room := { frames := 6, cells := 0, slots := 0, locals := 153 }
set_option maxHeartbeats 4000000 in
set_option maxRecDepth 100000 in
theorem c_X7_list (l : Launch) (dd : Dd) (Y : Yc) (t : Ts3) (ad : Nat → Nat) (ij : Ij XG ad) (F : Nat) (D0 D' : Mm) (r0 : Int32) (h : P_X7_list (gN XG) F D0 = some (r0, D')) : Met l yX7_list wzX7_list rm_X7_list (va_Pc [.ref (ad 0)] (Wd dd Y t XG ad D0)) (Qi dd Y XG ad .int r0 D') 0 0 (pA XG ad) := by
  refine Met.ofW (cc := cX7_list) (maxL := 3) (ret := (some .int)) (by decide) rfl ?_
  intro p e s m args below meth c s₁ B hml hv
  obtain ⟨rfl, hP, hK, hT⟩ := hv
  have hx := B.exec
  have hb := B.bytes
  have hr := B.returns
  have ht0 : ∀ w ∈ W0, w.before _ s = true := fun w h => atoms_spec (ws := wzX7_list) B.pre w (List.mem_cons_of_mem _ h)
  have hown : s.vm.findClass RX7 = some m.cls := findClass_of_methodNamed B.named
  have hlocks := B.notSynchronized
  have hS : va_S (pA XG ad) s.heap s.heap [] := va_S.rf
  have L27 : ∀ (n : Nat), ∀ (x1 x2 : Int32) (D : Mm) (H : Heap) (locs : List Loc) (ls : Array Slot), P_X7_list_27 (gN XG) F n x1 x2 D = some (r0, D') → va_P dd vwCl (wW Y XG ad D) H → va_S (pA XG ad) s.heap H locs → lv_has ls 3 [(0, .ref (ad 0)), (1, .int x1), (2, .int x2)] → W p l e (headSpec wzX7_list rm_X7_list).room s m ([.ref (ad 0)].toArray) below meth c H locs 0 0 (MQ below (Qi dd Y XG ad .int r0 D') ([.ref (ad 0)].toArray) s 0 0 (pA XG ad)) (F0 m 27 ls []) := by
    intro n
    induction n with
    | zero =>
      intro x1 x2 D H locs ls h hP hS hl
      cases h
    | succ n ih =>
      intro x1 x2 D H locs ls h hP hS hl
      have h : ((if 7 ≤ x2 then (bi (P_X7_outputOr (gN XG) F x1 D) (fun r2 D2 => some (r2, D2))) else (if x1 = 0 then (bi (P_X3_addEntries (gN XG) F D) (fun r5 D5 => bi (P_X3_isLast (gN XG) F D5) (fun r6 D6 => if r6 = 0 then (bi (P_X3_step (gN XG) F D6) (fun r8 D8 => P_X7_list_27 (gN XG) F n r8 (x2 + 1) D8)) else (bi (P_X7_outputOr (gN XG) F x1 D6) (fun r9 D9 => some (r9, D9)))))) else (bi (P_X7_outputOr (gN XG) F x1 D) (fun r4 D4 => some (r4, D4))))) : Rs) = some (r0, D') := h
      refine lv_iload_n hx hb dX7_list_27 rfl (lv_at hl 2 rfl) ?_
      refine lv_bipush (v := 7) hx hb dX7_list_28 (by decide) ?_
      refine lv_icmp_ge (tgt := 75) hx hb dX7_list_30 (by decide) (fun c1 => ?_) (fun c1 => ?_)
      · have h := x_t (show 7 ≤ x2 from c1) h
        refine lv_aload_n hx hb dX7_list_75 rfl (lv_at hl 0 rfl) ?_
        refine lv_iload_n hx hb dX7_list_76 rfl (lv_at hl 1 rfl) ?_
        obtain ⟨r2, D2, hc2, h⟩ := bi_some h
        refine x_callVi (As := [.int x1]) ⟨hx, hb, hml, hown, ht0⟩ hK hT hP hS (c_X7_outputOr l dd Y t ad ij F x1 _ _ _ hc2) m_ML_X7_136 sv_X7_outputOr hd_X7_outputOr rfl rfl ⟨Nat.le_of_ble_eq_true rfl, Nat.le_of_ble_eq_true rfl⟩ (xk_0).1 (ce7 (xk_0).2) rfl rfl hl.1 rfl (Nat.le_of_ble_eq_true rfl) dX7_list_77 ⟨Nat.zero_le _, Nat.zero_le _⟩ (fun H locs hn_r2 hP hS => ?_)
        exact x_iret hx hb hr hlocks rfl hP hS h dX7_list_80
      · have h := x_f (show ¬ (7 ≤ x2) from c1) h
        refine lv_iload_n hx hb dX7_list_33 rfl (lv_at hl 1 rfl) ?_
        refine lv_if_ne (tgt := 75) hx hb dX7_list_34 (by decide) (fun c3 => ?_) (fun c3 => ?_)
        · have h := x_f (show ¬ (x1 = 0) from c3) h
          refine lv_aload_n hx hb dX7_list_75 rfl (lv_at hl 0 rfl) ?_
          refine lv_iload_n hx hb dX7_list_76 rfl (lv_at hl 1 rfl) ?_
          obtain ⟨r4, D4, hc4, h⟩ := bi_some h
          refine x_callVi (As := [.int x1]) ⟨hx, hb, hml, hown, ht0⟩ hK hT hP hS (c_X7_outputOr l dd Y t ad ij F x1 _ _ _ hc4) m_ML_X7_136 sv_X7_outputOr hd_X7_outputOr rfl rfl ⟨Nat.le_of_ble_eq_true rfl, Nat.le_of_ble_eq_true rfl⟩ (xk_0).1 (ce7 (xk_0).2) rfl rfl hl.1 rfl (Nat.le_of_ble_eq_true rfl) dX7_list_77 ⟨Nat.zero_le _, Nat.zero_le _⟩ (fun H locs hn_r4 hP hS => ?_)
          exact x_iret hx hb hr hlocks rfl hP hS h dX7_list_80
        · have h := x_t (show x1 = 0 from c3) h
          refine lv_aload_n hx hb dX7_list_37 rfl (lv_at hl 0 rfl) ?_
          refine x_get hx hb ht0 u_X7 hown hK hP (xk_0).1 (ce7 (xk_0).2) rfl 3 (by decide) (ht0 _ m_FL_X7_37) rfl (rfv (G := XG) (c := 0) (k := 3) (c' := 58) rfl) dX7_list_38 ?_
          refine lv_aload_n hx hb dX7_list_41 rfl (lv_at hl 0 rfl) ?_
          refine x_get hx hb ht0 u_X7 hown hK hP (xk_0).1 (ce7 (xk_0).2) rfl 6 (by decide) (ht0 _ m_FL_X7_57) rfl (rfv (G := XG) (c := 0) (k := 6) (c' := 67) rfl) dX7_list_42 ?_
          obtain ⟨r5, D5, hc5, h⟩ := bi_some h
          refine x_callVv (As := [.ref (ad 67)]) ⟨hx, hb, hml, hown, ht0⟩ hK hT hP hS (c_X3_addEntries l dd Y t ad ij F  _ _ _ hc5) m_ML_X7_154 sv_X3_addEntries hd_X3_addEntries rfl rfl ⟨Nat.le_of_ble_eq_true rfl, Nat.le_of_ble_eq_true rfl⟩ (xk_58).1 (ce3 (xk_58).2) rfl rfl hl.1 rfl (Nat.le_of_ble_eq_true rfl) dX7_list_45 ⟨Nat.zero_le _, Nat.zero_le _⟩ (fun H locs hP hS => ?_)
          refine lv_aload_n hx hb dX7_list_48 rfl (lv_at hl 0 rfl) ?_
          refine x_get hx hb ht0 u_X7 hown hK hP (xk_0).1 (ce7 (xk_0).2) rfl 3 (by decide) (ht0 _ m_FL_X7_37) rfl (rfv (G := XG) (c := 0) (k := 3) (c' := 58) rfl) dX7_list_49 ?_
          obtain ⟨r6, D6, hc6, h⟩ := bi_some h
          refine x_callVi (As := []) ⟨hx, hb, hml, hown, ht0⟩ hK hT hP hS (c_X3_isLast l dd Y t ad ij F  _ _ _ hc6) m_ML_X7_158 sv_X3_isLast hd_X3_isLast rfl rfl ⟨Nat.le_of_ble_eq_true rfl, Nat.le_of_ble_eq_true rfl⟩ (xk_58).1 (ce3 (xk_58).2) rfl rfl hl.1 rfl (Nat.le_of_ble_eq_true rfl) dX7_list_52 ⟨Nat.zero_le _, Nat.zero_le _⟩ (fun H locs hn_r6 hP hS => ?_)
          refine lv_if_eq (tgt := 61) hx hb dX7_list_55 (by decide) (fun c7 => ?_) (fun c7 => ?_)
          · have h := x_t (show r6 = 0 from c7) h
            refine lv_aload_n hx hb dX7_list_61 rfl (lv_at hl 0 rfl) ?_
            refine x_get hx hb ht0 u_X7 hown hK hP (xk_0).1 (ce7 (xk_0).2) rfl 3 (by decide) (ht0 _ m_FL_X7_37) rfl (rfv (G := XG) (c := 0) (k := 3) (c' := 58) rfl) dX7_list_62 ?_
            obtain ⟨r8, D8, hc8, h⟩ := bi_some h
            refine x_callVi (As := []) ⟨hx, hb, hml, hown, ht0⟩ hK hT hP hS (c_X3_step l dd Y t ad ij F  _ _ _ hc8) m_ML_X7_161 sv_X3_step hd_X3_step rfl rfl ⟨Nat.le_of_ble_eq_true rfl, Nat.le_of_ble_eq_true rfl⟩ (xk_58).1 (ce3 (xk_58).2) rfl rfl hl.1 rfl (Nat.le_of_ble_eq_true rfl) dX7_list_65 ⟨Nat.zero_le _, Nat.zero_le _⟩ (fun H locs hn_r8 hP hS => ?_)
            refine lv_istore_n (lv' := [(1, .int r8), (0, .ref (ad 0)), (2, .int x2)]) hx hb dX7_list_68 rfl hl (by decide) rfl (fun ls hl => ?_)
            refine lv_iinc (v := x2 + 1) (lv' := [(2, .int (x2 + 1)), (1, .int r8), (0, .ref (ad 0))]) hx hb dX7_list_69 hl (k := 2) rfl rfl (by decide) rfl (fun ls hl => ?_)
            refine lv_goto (tgt := 27) hx hb dX7_list_72 (by decide) ?_
            exact ih r8 (x2 + 1) D8 _ _ _ h hP hS (lv_sub hl [2, 1, 0] rfl)
          · have h := x_f (show ¬ (r6 = 0) from c7) h
            refine lv_goto (tgt := 75) hx hb dX7_list_58 (by decide) ?_
            refine lv_aload_n hx hb dX7_list_75 rfl (lv_at hl 0 rfl) ?_
            refine lv_iload_n hx hb dX7_list_76 rfl (lv_at hl 1 rfl) ?_
            obtain ⟨r9, D9, hc9, h⟩ := bi_some h
            refine x_callVi (As := [.int x1]) ⟨hx, hb, hml, hown, ht0⟩ hK hT hP hS (c_X7_outputOr l dd Y t ad ij F x1 _ _ _ hc9) m_ML_X7_136 sv_X7_outputOr hd_X7_outputOr rfl rfl ⟨Nat.le_of_ble_eq_true rfl, Nat.le_of_ble_eq_true rfl⟩ (xk_0).1 (ce7 (xk_0).2) rfl rfl hl.1 rfl (Nat.le_of_ble_eq_true rfl) dX7_list_77 ⟨Nat.zero_le _, Nat.zero_le _⟩ (fun H locs hn_r9 hP hS => ?_)
            exact x_iret hx hb hr hlocks rfl hP hS h dX7_list_80
  have hl := lv_entry ([.ref (ad 0)]) (n := 3) (Nat.le_of_ble_eq_true rfl)
  rw [lg_entry_eq]
  generalize (lg_sl ([.ref (ad 0)]) ++ List.replicate (3 - (lg_sl ([.ref (ad 0)])).length) Slot.unset).toArray = ls at hl ⊢
  have hl : lv_has ls 3 [(0, .ref (ad 0))] := hl
  have hP : va_P dd vwCl (wW Y XG ad D0) s.heap := hP
  generalize D0 = D at h hP
  have h : ((bi (P_X7_openDisk (gN XG) F (up2 D 67 1 0)) (fun r10 D10 => if r10 = 0 then (bi (P_X3_begin (gN XG) F D10) (fun r12 D12 => P_X7_list_27 (gN XG) F F r12 0 D12)) else (P_X7_list_27 (gN XG) F F r10 0 D10))) : Rs) = some (r0, D') := h
  refine lv_aload_n hx hb dX7_list_0 rfl (lv_at hl 0 rfl) ?_
  refine x_get hx hb ht0 u_X7 hown hK hP (xk_0).1 (ce7 (xk_0).2) rfl 6 (by decide) (ht0 _ m_FL_X7_57) rfl (rfv (G := XG) (c := 0) (k := 6) (c' := 67) rfl) dX7_list_1 ?_
  refine lv_iconst (v := 0) hx hb dX7_list_4 (by decide) ?_
  refine x_put (ty := .int) hx hb ht0 u_X1 tyX1 tyX1_ok nmX1 hown hK ij hP hS (xk_67).1 (ce1 (xk_67).2) rfl 1 (by decide) (ht0 _ m_FL_X7_76) rfl rfl (by decide +kernel) rfl rfl (Nat.le_of_ble_eq_true rfl) (by rw [(xk_67).2]; rfl) dX7_list_5 (fun H locs hP hS => ?_)
  refine lv_aload_n hx hb dX7_list_8 rfl (lv_at hl 0 rfl) ?_
  obtain ⟨r10, D10, hc10, h⟩ := bi_some h
  refine x_callVi (As := []) ⟨hx, hb, hml, hown, ht0⟩ hK hT hP hS (c_X7_openDisk l dd Y t ad ij F  _ _ _ hc10) m_ML_X7_148 sv_X7_openDisk hd_X7_openDisk rfl rfl ⟨Nat.le_of_ble_eq_true rfl, Nat.le_of_ble_eq_true rfl⟩ (xk_0).1 (ce7 (xk_0).2) rfl rfl hl.1 rfl (Nat.le_of_ble_eq_true rfl) dX7_list_9 ⟨Nat.zero_le _, Nat.zero_le _⟩ (fun H locs hn_r10 hP hS => ?_)
  refine lv_istore_n (lv' := [(1, .int r10), (0, .ref (ad 0))]) hx hb dX7_list_12 rfl hl (by decide) rfl (fun ls hl => ?_)
  refine lv_iload_n hx hb dX7_list_13 rfl (lv_at hl 0 rfl) ?_
  refine lv_if_ne (tgt := 25) hx hb dX7_list_14 (by decide) (fun c11 => ?_) (fun c11 => ?_)
  · have h := x_f (show ¬ (r10 = 0) from c11) h
    refine lv_iconst (v := 0) hx hb dX7_list_25 (by decide) ?_
    refine lv_istore_n (lv' := [(2, .int 0), (1, .int r10), (0, .ref (ad 0))]) hx hb dX7_list_26 rfl hl (by decide) rfl (fun ls hl => ?_)
    exact L27 F r10 0 D10 _ _ _ h hP hS (lv_sub hl [2, 1, 0] rfl)
  · have h := x_t (show r10 = 0 from c11) h
    refine lv_aload_n hx hb dX7_list_17 rfl (lv_at hl 1 rfl) ?_
    refine x_get hx hb ht0 u_X7 hown hK hP (xk_0).1 (ce7 (xk_0).2) rfl 3 (by decide) (ht0 _ m_FL_X7_37) rfl (rfv (G := XG) (c := 0) (k := 3) (c' := 58) rfl) dX7_list_18 ?_
    obtain ⟨r12, D12, hc12, h⟩ := bi_some h
    refine x_callVi (As := []) ⟨hx, hb, hml, hown, ht0⟩ hK hT hP hS (c_X3_begin l dd Y t ad ij F  _ _ _ hc12) m_ML_X7_151 sv_X3_begin hd_X3_begin rfl rfl ⟨Nat.le_of_ble_eq_true rfl, Nat.le_of_ble_eq_true rfl⟩ (xk_58).1 (ce3 (xk_58).2) rfl rfl hl.1 rfl (Nat.le_of_ble_eq_true rfl) dX7_list_21 ⟨Nat.zero_le _, Nat.zero_le _⟩ (fun H locs hn_r12 hP hS => ?_)
    refine lv_istore_n (lv' := [(1, .int r12), (0, .ref (ad 0))]) hx hb dX7_list_24 rfl hl (by decide) rfl (fun ls hl => ?_)
    refine lv_iconst (v := 0) hx hb dX7_list_25 (by decide) ?_
    refine lv_istore_n (lv' := [(2, .int 0), (1, .int r12), (0, .ref (ad 0))]) hx hb dX7_list_26 rfl hl (by decide) rfl (fun ls hl => ?_)
    exact L27 F r12 0 D12 _ _ _ h hP hS (lv_sub hl [2, 1, 0] rfl)
