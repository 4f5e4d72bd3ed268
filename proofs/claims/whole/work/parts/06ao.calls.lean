abbrev rm_X8_scratch : Room := { frames := 10, cells := 0, slots := 0, locals := 243 }
set_option maxHeartbeats 4000000 in
set_option maxRecDepth 100000 in
theorem c_X8_scratch (l : Launch) (dd : Dd) (Y : Yc) (t : Ts3) (ad : Nat → Nat) (ij : Ij MG ad) (F : Nat) (a1 a2 : Int32) (D0 D' : Mm) (r0 : Int32) (h : P_X8_scratch (gN MG) F a1 a2 D0 = some (r0, D')) : Met l yX8_scratch wzX8_scratch rm_X8_scratch (va_Pc [.ref (ad 0), .int a1, .int a2] (Wd dd Y t MG ad D0)) (Qi dd Y MG ad .int r0 D') 0 0 (pA MG ad) := by
  refine Met.ofW (cc := cX8_scratch) (maxL := 4) (ret := (some .int)) (by decide) rfl ?_
  intro p e s m args below meth c s₁ B hml hv
  obtain ⟨rfl, hP, hK, hT⟩ := hv
  have hx := B.exec
  have hb := B.bytes
  have hr := B.returns
  have ht0 : ∀ w ∈ W0, w.before _ s = true := fun w h => atoms_spec (ws := wzX8_scratch) B.pre w (List.mem_cons_of_mem _ h)
  have hown : s.vm.findClass RX8 = some m.cls := findClass_of_methodNamed B.named
  have hlocks := B.notSynchronized
  have hS : va_S (pA MG ad) s.heap s.heap [] := va_S.rf
  have hl := lv_entry ([.ref (ad 0), .int a1, .int a2]) (n := 4) (Nat.le_of_ble_eq_true rfl)
  rw [lg_entry_eq]
  generalize (lg_sl ([.ref (ad 0), .int a1, .int a2]) ++ List.replicate (4 - (lg_sl ([.ref (ad 0), .int a1, .int a2])).length) Slot.unset).toArray = ls at hl ⊢
  have hl : lv_has ls 4 [(0, .ref (ad 0)), (1, .int a1), (2, .int a2)] := hl
  have hP : va_P dd vwCl (wW Y MG ad D0) s.heap := hP
  generalize D0 = D at h hP
  have h : ((bi (P_X8_scratches (gN MG) F a1 a2 D) (fun r1 D1 => some (D1 0 9, D1))) : Rs) = some (r0, D') := h
  refine lv_aload_n hx hb dX8_scratch_0 rfl (lv_at hl 0 rfl) ?_
  refine lv_iload_n hx hb dX8_scratch_1 rfl (lv_at hl 1 rfl) ?_
  refine lv_iload_n hx hb dX8_scratch_2 rfl (lv_at hl 2 rfl) ?_
  obtain ⟨r1, D1, hc1, h⟩ := bi_some h
  refine x_callVi (As := [.int a1, .int a2]) ⟨hx, hb, hml, hown, ht0⟩ hK hT hP hS (c_X8_scratches l dd Y t ad ij F a1 a2 _ _ _ hc1) m_ML_X8_227 sv_X8_scratches hd_X8_scratches rfl rfl ⟨Nat.le_of_ble_eq_true rfl, Nat.le_of_ble_eq_true rfl⟩ (mk_0).1 (ce8 (mk_0).2) rfl rfl hl.1 rfl (Nat.le_of_ble_eq_true rfl) dX8_scratch_3 ⟨Nat.zero_le _, Nat.zero_le _⟩ (fun H locs hn_r1 hP hS => ?_)
  refine lv_istore_n (lv' := [(3, .int r1), (0, .ref (ad 0)), (1, .int a1), (2, .int a2)]) hx hb dX8_scratch_6 rfl hl (by decide) rfl (fun ls hl => ?_)
  refine lv_aload_n hx hb dX8_scratch_7 rfl (lv_at hl 1 rfl) ?_
  refine x_get hx hb ht0 u_X8 hown hK hP (mk_0).1 (ce8 (mk_0).2) rfl 9 (by decide) (ht0 _ m_FL_X8_134) rfl rfl dX8_scratch_8 ?_
  exact x_iret hx hb hr hlocks rfl hP hS h dX8_scratch_11
abbrev rm_X8_list : Room := { frames := 8, cells := 0, slots := 0, locals := 190 }
set_option maxHeartbeats 4000000 in
set_option maxRecDepth 100000 in
theorem c_X8_list (l : Launch) (dd : Dd) (Y : Yc) (t : Ts3) (ad : Nat → Nat) (ij : Ij MG ad) (F : Nat) (D0 D' : Mm) (r0 : Int32) (h : P_X8_list (gN MG) F D0 = some (r0, D')) : Met l yX8_list wzX8_list rm_X8_list (va_Pc [.ref (ad 0)] (Wd dd Y t MG ad D0)) (Qi dd Y MG ad .int r0 D') 0 0 (pA MG ad) := by
  refine Met.ofW (cc := cX8_list) (maxL := 4) (ret := (some .int)) (by decide) rfl ?_
  intro p e s m args below meth c s₁ B hml hv
  obtain ⟨rfl, hP, hK, hT⟩ := hv
  have hx := B.exec
  have hb := B.bytes
  have hr := B.returns
  have ht0 : ∀ w ∈ W0, w.before _ s = true := fun w h => atoms_spec (ws := wzX8_list) B.pre w (List.mem_cons_of_mem _ h)
  have hown : s.vm.findClass RX8 = some m.cls := findClass_of_methodNamed B.named
  have hlocks := B.notSynchronized
  have hS : va_S (pA MG ad) s.heap s.heap [] := va_S.rf
  have L88 : ∀ (k26 : Int32 → Mm → Rs) (hk26 : ∀ (x1 : Int32) (D : Mm) (H : Heap) (locs : List Loc) (ls : Array Slot), k26 x1 D = some (r0, D') → va_P dd vwCl (wW Y MG ad D) H → va_S (pA MG ad) s.heap H locs → lv_has ls 4 [(0, .ref (ad 0)), (1, .int x1)] → W p l e (headSpec wzX8_list rm_X8_list).room s m ([.ref (ad 0)].toArray) below meth c H locs 0 0 (MQ below (Qi dd Y MG ad .int r0 D') ([.ref (ad 0)].toArray) s 0 0 (pA MG ad)) (F0 m 26 ls [])) (k41 : Int32 → Int32 → Mm → Rs) (hk41 : ∀ (x1 x2 : Int32) (D : Mm) (H : Heap) (locs : List Loc) (ls : Array Slot), k41 x1 x2 D = some (r0, D') → va_P dd vwCl (wW Y MG ad D) H → va_S (pA MG ad) s.heap H locs → lv_has ls 4 [(0, .ref (ad 0)), (1, .int x1), (2, .int x2)] → W p l e (headSpec wzX8_list rm_X8_list).room s m ([.ref (ad 0)].toArray) below meth c H locs 0 0 (MQ below (Qi dd Y MG ad .int r0 D') ([.ref (ad 0)].toArray) s 0 0 (pA MG ad)) (F0 m 41 ls [])), ∀ (n : Nat), ∀ (x1 x2 x3 : Int32) (D : Mm) (H : Heap) (locs : List Loc) (ls : Array Slot), P_X8_list_88 (gN MG) F k26 k41 n x1 x2 x3 D = some (r0, D') → va_P dd vwCl (wW Y MG ad D) H → va_S (pA MG ad) s.heap H locs → lv_has ls 4 [(0, .ref (ad 0)), (1, .int x1), (2, .int x2), (3, .int x3)] → W p l e (headSpec wzX8_list rm_X8_list).room s m ([.ref (ad 0)].toArray) below meth c H locs 0 0 (MQ below (Qi dd Y MG ad .int r0 D') ([.ref (ad 0)].toArray) s 0 0 (pA MG ad)) (F0 m 88 ls []) := by
    intro k26 hk26 k41 hk41 n
    induction n with
    | zero =>
      intro x1 x2 x3 D H locs ls h hP hS hl
      cases h
    | succ n ih =>
      intro x1 x2 x3 D H locs ls h hP hS hl
      have h : ((if 8 ≤ x3 then (k41 x1 (x2 + 12) D) else (if inB ((x2 + 4) + x3) ((gN MG) 10) = true then (bi (P_X8_tell (gN MG) F (D 10 (Int32.toNatClampNeg ((x2 + 4) + x3))) D) (fun r3 D3 => P_X8_list_88 (gN MG) F k26 k41 n x1 x2 (x3 + 1) D3)) else none)) : Rs) = some (r0, D') := h
      refine lv_iload_n hx hb dX8_list_88 rfl (lv_at hl 3 rfl) ?_
      refine lv_bipush (v := 8) hx hb dX8_list_89 (by decide) ?_
      refine lv_icmp_ge (tgt := 114) hx hb dX8_list_91 (by decide) (fun c1 => ?_) (fun c1 => ?_)
      · have h := x_t (show 8 ≤ x3 from c1) h
        refine lv_iinc (v := x2 + 12) (lv' := [(2, .int (x2 + 12)), (0, .ref (ad 0)), (1, .int x1), (3, .int x3)]) hx hb dX8_list_114 hl (k := 2) rfl rfl (by decide) rfl (fun ls hl => ?_)
        refine lv_goto (tgt := 41) hx hb dX8_list_117 (by decide) ?_
        exact hk41 x1 (x2 + 12) D _ _ _ h hP hS (lv_sub hl [1, 2, 0] rfl)
      · have h := x_f (show ¬ (8 ≤ x3) from c1) h
        refine lv_aload_n hx hb dX8_list_94 rfl (lv_at hl 0 rfl) ?_
        refine lv_aload_n hx hb dX8_list_95 rfl (lv_at hl 0 rfl) ?_
        refine x_get hx hb ht0 u_X8 hown hK hP (mk_0).1 (ce8 (mk_0).2) rfl 20 (by decide) (ht0 _ m_FL_X8_43) rfl (rfv (G := MG) (c := 0) (k := 20) (c' := 10) rfl) dX8_list_96 ?_
        refine lv_iload_n hx hb dX8_list_99 rfl (lv_at hl 2 rfl) ?_
        refine lv_iconst (v := 4) hx hb dX8_list_100 (by decide) ?_
        refine lv_iadd hx hb dX8_list_101 ?_
        refine lv_iload_n hx hb dX8_list_102 rfl (lv_at hl 3 rfl) ?_
        refine lv_iadd hx hb dX8_list_103 ?_
        obtain ⟨b2, h⟩ := x_if h
        refine x_ald hx hb hK hP mk_10 b2 dX8_list_104 ?_
        obtain ⟨r3, D3, hc3, h⟩ := bi_some h
        refine x_callVv (As := [.int (D 10 (Int32.toNatClampNeg ((x2 + 4) + x3)))]) ⟨hx, hb, hml, hown, ht0⟩ hK hT hP hS (c_X8_tell l dd Y t ad ij F (D 10 (Int32.toNatClampNeg ((x2 + 4) + x3))) _ _ _ hc3) m_ML_X8_217 sv_X8_tell hd_X8_tell rfl rfl ⟨Nat.le_of_ble_eq_true rfl, Nat.le_of_ble_eq_true rfl⟩ (mk_0).1 (ce8 (mk_0).2) rfl rfl hl.1 rfl (Nat.le_of_ble_eq_true rfl) dX8_list_105 ⟨Nat.zero_le _, Nat.zero_le _⟩ (fun H locs hP hS => ?_)
        refine lv_iinc (v := x3 + 1) (lv' := [(3, .int (x3 + 1)), (0, .ref (ad 0)), (1, .int x1), (2, .int x2)]) hx hb dX8_list_108 hl (k := 3) rfl rfl (by decide) rfl (fun ls hl => ?_)
        refine lv_goto (tgt := 88) hx hb dX8_list_111 (by decide) ?_
        exact ih x1 x2 (x3 + 1) D3 _ _ _ h hP hS (lv_sub hl [1, 2, 3, 0] rfl)
  have L41 : ∀ (k26 : Int32 → Mm → Rs) (hk26 : ∀ (x1 : Int32) (D : Mm) (H : Heap) (locs : List Loc) (ls : Array Slot), k26 x1 D = some (r0, D') → va_P dd vwCl (wW Y MG ad D) H → va_S (pA MG ad) s.heap H locs → lv_has ls 4 [(0, .ref (ad 0)), (1, .int x1)] → W p l e (headSpec wzX8_list rm_X8_list).room s m ([.ref (ad 0)].toArray) below meth c H locs 0 0 (MQ below (Qi dd Y MG ad .int r0 D') ([.ref (ad 0)].toArray) s 0 0 (pA MG ad)) (F0 m 26 ls [])), ∀ (n : Nat), ∀ (x1 x2 : Int32) (D : Mm) (H : Heap) (locs : List Loc) (ls : Array Slot), P_X8_list_41 (gN MG) F k26 n x1 x2 D = some (r0, D') → va_P dd vwCl (wW Y MG ad D) H → va_S (pA MG ad) s.heap H locs → lv_has ls 4 [(0, .ref (ad 0)), (1, .int x1), (2, .int x2)] → W p l e (headSpec wzX8_list rm_X8_list).room s m ([.ref (ad 0)].toArray) below meth c H locs 0 0 (MQ below (Qi dd Y MG ad .int r0 D') ([.ref (ad 0)].toArray) s 0 0 (pA MG ad)) (F0 m 41 ls []) := by
    intro k26 hk26 n
    induction n with
    | zero =>
      intro x1 x2 D H locs ls h hP hS hl
      cases h
    | succ n ih =>
      intro x1 x2 D H locs ls h hP hS hl
      have h : ((if ((64 * x1) + 62) ≤ x2 then (k26 (x1 + 1) D) else (if inB x2 ((gN MG) 10) = true then (if (D 10 (Int32.toNatClampNeg x2)) = 0 then (P_X8_list_41 (gN MG) F k26 n x1 (x2 + 12) D) else (if inB x2 ((gN MG) 10) = true then (bi (P_X8_tell (gN MG) F (D 10 (Int32.toNatClampNeg x2)) D) (fun r8 D8 => if inB (x2 + 3) ((gN MG) 10) = true then (bi (P_X8_tell (gN MG) F (D8 10 (Int32.toNatClampNeg (x2 + 3))) D8) (fun r10 D10 => P_X8_list_88 (gN MG) F k26 (fun x1 x2 D => P_X8_list_41 (gN MG) F k26 n x1 x2 D) F x1 x2 0 D10)) else none)) else none)) else none)) : Rs) = some (r0, D') := h
      refine lv_iload_n hx hb dX8_list_41 rfl (lv_at hl 2 rfl) ?_
      refine lv_bipush (v := 64) hx hb dX8_list_42 (by decide) ?_
      refine lv_iload_n hx hb dX8_list_44 rfl (lv_at hl 1 rfl) ?_
      refine lv_imul hx hb dX8_list_45 ?_
      refine lv_bipush (v := 62) hx hb dX8_list_46 (by decide) ?_
      refine lv_iadd hx hb dX8_list_48 ?_
      refine lv_icmp_ge (tgt := 120) hx hb dX8_list_49 (by decide) (fun c4 => ?_) (fun c4 => ?_)
      · have h := x_t (show ((64 * x1) + 62) ≤ x2 from c4) h
        refine lv_iinc (v := x1 + 1) (lv' := [(1, .int (x1 + 1)), (0, .ref (ad 0)), (2, .int x2)]) hx hb dX8_list_120 hl (k := 1) rfl rfl (by decide) rfl (fun ls hl => ?_)
        refine lv_goto (tgt := 26) hx hb dX8_list_123 (by decide) ?_
        exact hk26 (x1 + 1) D _ _ _ h hP hS (lv_sub hl [1, 0] rfl)
      · have h := x_f (show ¬ (((64 * x1) + 62) ≤ x2) from c4) h
        refine lv_aload_n hx hb dX8_list_52 rfl (lv_at hl 0 rfl) ?_
        refine x_get hx hb ht0 u_X8 hown hK hP (mk_0).1 (ce8 (mk_0).2) rfl 20 (by decide) (ht0 _ m_FL_X8_43) rfl (rfv (G := MG) (c := 0) (k := 20) (c' := 10) rfl) dX8_list_53 ?_
        refine lv_iload_n hx hb dX8_list_56 rfl (lv_at hl 2 rfl) ?_
        obtain ⟨b5, h⟩ := x_if h
        refine x_ald hx hb hK hP mk_10 b5 dX8_list_57 ?_
        refine lv_if_ne (tgt := 64) hx hb dX8_list_58 (by decide) (fun c6 => ?_) (fun c6 => ?_)
        · have h := x_f (show ¬ ((D 10 (Int32.toNatClampNeg x2)) = 0) from c6) h
          refine lv_aload_n hx hb dX8_list_64 rfl (lv_at hl 0 rfl) ?_
          refine lv_aload_n hx hb dX8_list_65 rfl (lv_at hl 0 rfl) ?_
          refine x_get hx hb ht0 u_X8 hown hK hP (mk_0).1 (ce8 (mk_0).2) rfl 20 (by decide) (ht0 _ m_FL_X8_43) rfl (rfv (G := MG) (c := 0) (k := 20) (c' := 10) rfl) dX8_list_66 ?_
          refine lv_iload_n hx hb dX8_list_69 rfl (lv_at hl 2 rfl) ?_
          obtain ⟨b7, h⟩ := x_if h
          refine x_ald hx hb hK hP mk_10 b7 dX8_list_70 ?_
          obtain ⟨r8, D8, hc8, h⟩ := bi_some h
          refine x_callVv (As := [.int (D 10 (Int32.toNatClampNeg x2))]) ⟨hx, hb, hml, hown, ht0⟩ hK hT hP hS (c_X8_tell l dd Y t ad ij F (D 10 (Int32.toNatClampNeg x2)) _ _ _ hc8) m_ML_X8_217 sv_X8_tell hd_X8_tell rfl rfl ⟨Nat.le_of_ble_eq_true rfl, Nat.le_of_ble_eq_true rfl⟩ (mk_0).1 (ce8 (mk_0).2) rfl rfl hl.1 rfl (Nat.le_of_ble_eq_true rfl) dX8_list_71 ⟨Nat.zero_le _, Nat.zero_le _⟩ (fun H locs hP hS => ?_)
          refine lv_aload_n hx hb dX8_list_74 rfl (lv_at hl 0 rfl) ?_
          refine lv_aload_n hx hb dX8_list_75 rfl (lv_at hl 0 rfl) ?_
          refine x_get hx hb ht0 u_X8 hown hK hP (mk_0).1 (ce8 (mk_0).2) rfl 20 (by decide) (ht0 _ m_FL_X8_43) rfl (rfv (G := MG) (c := 0) (k := 20) (c' := 10) rfl) dX8_list_76 ?_
          refine lv_iload_n hx hb dX8_list_79 rfl (lv_at hl 2 rfl) ?_
          refine lv_iconst (v := 3) hx hb dX8_list_80 (by decide) ?_
          refine lv_iadd hx hb dX8_list_81 ?_
          obtain ⟨b9, h⟩ := x_if h
          refine x_ald hx hb hK hP mk_10 b9 dX8_list_82 ?_
          obtain ⟨r10, D10, hc10, h⟩ := bi_some h
          refine x_callVv (As := [.int (D8 10 (Int32.toNatClampNeg (x2 + 3)))]) ⟨hx, hb, hml, hown, ht0⟩ hK hT hP hS (c_X8_tell l dd Y t ad ij F (D8 10 (Int32.toNatClampNeg (x2 + 3))) _ _ _ hc10) m_ML_X8_217 sv_X8_tell hd_X8_tell rfl rfl ⟨Nat.le_of_ble_eq_true rfl, Nat.le_of_ble_eq_true rfl⟩ (mk_0).1 (ce8 (mk_0).2) rfl rfl hl.1 rfl (Nat.le_of_ble_eq_true rfl) dX8_list_83 ⟨Nat.zero_le _, Nat.zero_le _⟩ (fun H locs hP hS => ?_)
          refine lv_iconst (v := 0) hx hb dX8_list_86 (by decide) ?_
          refine lv_istore_n (lv' := [(3, .int 0), (0, .ref (ad 0)), (1, .int x1), (2, .int x2)]) hx hb dX8_list_87 rfl hl (by decide) rfl (fun ls hl => ?_)
          exact L88 k26 hk26 (fun x1 x2 D => P_X8_list_41 (gN MG) F k26 n x1 x2 D) ih F x1 x2 0 D10 _ _ _ h hP hS (lv_sub hl [1, 2, 3, 0] rfl)
        · have h := x_t (show (D 10 (Int32.toNatClampNeg x2)) = 0 from c6) h
          refine lv_goto (tgt := 114) hx hb dX8_list_61 (by decide) ?_
          refine lv_iinc (v := x2 + 12) (lv' := [(2, .int (x2 + 12)), (0, .ref (ad 0)), (1, .int x1)]) hx hb dX8_list_114 hl (k := 2) rfl rfl (by decide) rfl (fun ls hl => ?_)
          refine lv_goto (tgt := 41) hx hb dX8_list_117 (by decide) ?_
          exact ih x1 (x2 + 12) D _ _ _ h hP hS (lv_sub hl [1, 2, 0] rfl)
  have L26 : ∀ (n : Nat), ∀ (x1 : Int32) (D : Mm) (H : Heap) (locs : List Loc) (ls : Array Slot), P_X8_list_26 (gN MG) F n x1 D = some (r0, D') → va_P dd vwCl (wW Y MG ad D) H → va_S (pA MG ad) s.heap H locs → lv_has ls 4 [(0, .ref (ad 0)), (1, .int x1)] → W p l e (headSpec wzX8_list rm_X8_list).room s m ([.ref (ad 0)].toArray) below meth c H locs 0 0 (MQ below (Qi dd Y MG ad .int r0 D') ([.ref (ad 0)].toArray) s 0 0 (pA MG ad)) (F0 m 26 ls []) := by
    intro n
    induction n with
    | zero =>
      intro x1 D H locs ls h hP hS hl
      cases h
    | succ n ih =>
      intro x1 D H locs ls h hP hS hl
      have h : ((if (D 0 23) ≤ x1 then (some (D 0 8, D)) else (P_X8_list_41 (gN MG) F (fun x1 D => P_X8_list_26 (gN MG) F n x1 D) F x1 ((64 * x1) + 2) D)) : Rs) = some (r0, D') := h
      refine lv_iload_n hx hb dX8_list_26 rfl (lv_at hl 1 rfl) ?_
      refine lv_aload_n hx hb dX8_list_27 rfl (lv_at hl 0 rfl) ?_
      refine x_get hx hb ht0 u_X8 hown hK hP (mk_0).1 (ce8 (mk_0).2) rfl 23 (by decide) (ht0 _ m_FL_X8_156) rfl rfl dX8_list_28 ?_
      refine lv_icmp_ge (tgt := 126) hx hb dX8_list_31 (by decide) (fun c11 => ?_) (fun c11 => ?_)
      · have h := x_t (show (D 0 23) ≤ x1 from c11) h
        refine lv_aload_n hx hb dX8_list_126 rfl (lv_at hl 0 rfl) ?_
        refine x_get hx hb ht0 u_X8 hown hK hP (mk_0).1 (ce8 (mk_0).2) rfl 8 (by decide) (ht0 _ m_FL_X8_220) rfl rfl dX8_list_127 ?_
        exact x_iret hx hb hr hlocks rfl hP hS h dX8_list_130
      · have h := x_f (show ¬ ((D 0 23) ≤ x1) from c11) h
        refine lv_bipush (v := 64) hx hb dX8_list_34 (by decide) ?_
        refine lv_iload_n hx hb dX8_list_36 rfl (lv_at hl 1 rfl) ?_
        refine lv_imul hx hb dX8_list_37 ?_
        refine lv_iconst (v := 2) hx hb dX8_list_38 (by decide) ?_
        refine lv_iadd hx hb dX8_list_39 ?_
        refine lv_istore_n (lv' := [(2, .int ((64 * x1) + 2)), (0, .ref (ad 0)), (1, .int x1)]) hx hb dX8_list_40 rfl hl (by decide) rfl (fun ls hl => ?_)
        exact L41 (fun x1 D => P_X8_list_26 (gN MG) F n x1 D) ih F x1 ((64 * x1) + 2) D _ _ _ h hP hS (lv_sub hl [1, 2, 0] rfl)
  have hl := lv_entry ([.ref (ad 0)]) (n := 4) (Nat.le_of_ble_eq_true rfl)
  rw [lg_entry_eq]
  generalize (lg_sl ([.ref (ad 0)]) ++ List.replicate (4 - (lg_sl ([.ref (ad 0)])).length) Slot.unset).toArray = ls at hl ⊢
  have hl : lv_has ls 4 [(0, .ref (ad 0))] := hl
  have hP : va_P dd vwCl (wW Y MG ad D0) s.heap := hP
  generalize D0 = D at h hP
  have h : ((bi (P_X8_begins (gN MG) F (up2 D 0 8 0)) (fun r12 D12 => if r12 = 0 then (some ((-1), D12)) else (bi (P_X8_readDirectory (gN MG) F 0 0 0 D12) (fun r14 D14 => if r14 = 0 then (some ((-1), D14)) else (P_X8_list_26 (gN MG) F F 0 D14))))) : Rs) = some (r0, D') := h
  refine lv_aload_n hx hb dX8_list_0 rfl (lv_at hl 0 rfl) ?_
  refine lv_iconst (v := 0) hx hb dX8_list_1 (by decide) ?_
  refine x_put (ty := .int) hx hb ht0 u_X8 tyX8 tyX8_ok nmX8 hown hK ij hP hS (mk_0).1 (ce8 (mk_0).2) rfl 8 (by decide) (ht0 _ m_FL_X8_220) rfl rfl (by decide +kernel) rfl rfl (Nat.le_of_ble_eq_true rfl) (by rw [(mk_0).2]; rfl) dX8_list_2 (fun H locs hP hS => ?_)
  refine lv_aload_n hx hb dX8_list_5 rfl (lv_at hl 0 rfl) ?_
  obtain ⟨r12, D12, hc12, h⟩ := bi_some h
  refine x_callVi (As := []) ⟨hx, hb, hml, hown, ht0⟩ hK hT hP hS (c_X8_begins l dd Y t ad ij F  _ _ _ hc12) m_ML_X8_186 sv_X8_begins hd_X8_begins rfl rfl ⟨Nat.le_of_ble_eq_true rfl, Nat.le_of_ble_eq_true rfl⟩ (mk_0).1 (ce8 (mk_0).2) rfl rfl hl.1 rfl (Nat.le_of_ble_eq_true rfl) dX8_list_6 ⟨Nat.zero_le _, Nat.zero_le _⟩ (fun H locs hn_r12 hP hS => ?_)
  refine lv_if_eq (tgt := 22) hx hb dX8_list_9 (by decide) (fun c13 => ?_) (fun c13 => ?_)
  · have h := x_t (show r12 = 0 from c13) h
    refine lv_iconst (v := (-1)) hx hb dX8_list_22 (by decide) ?_
    exact x_iret hx hb hr hlocks rfl hP hS h dX8_list_23
  · have h := x_f (show ¬ (r12 = 0) from c13) h
    refine lv_aload_n hx hb dX8_list_12 rfl (lv_at hl 0 rfl) ?_
    refine lv_iconst (v := 0) hx hb dX8_list_13 (by decide) ?_
    refine lv_iconst (v := 0) hx hb dX8_list_14 (by decide) ?_
    refine lv_iconst (v := 0) hx hb dX8_list_15 (by decide) ?_
    obtain ⟨r14, D14, hc14, h⟩ := bi_some h
    refine x_callVi (As := [.int 0, .int 0, .int 0]) ⟨hx, hb, hml, hown, ht0⟩ hK hT hP hS (c_X8_readDirectory l dd Y t ad ij F 0 0 0 _ _ _ hc14) m_ML_X8_190 sv_X8_readDirectory hd_X8_readDirectory rfl rfl ⟨Nat.le_of_ble_eq_true rfl, Nat.le_of_ble_eq_true rfl⟩ (mk_0).1 (ce8 (mk_0).2) rfl rfl hl.1 rfl (Nat.le_of_ble_eq_true rfl) dX8_list_16 ⟨Nat.zero_le _, Nat.zero_le _⟩ (fun H locs hn_r14 hP hS => ?_)
    refine lv_if_ne (tgt := 24) hx hb dX8_list_19 (by decide) (fun c15 => ?_) (fun c15 => ?_)
    · have h := x_f (show ¬ (r14 = 0) from c15) h
      refine lv_iconst (v := 0) hx hb dX8_list_24 (by decide) ?_
      refine lv_istore_n (lv' := [(1, .int 0), (0, .ref (ad 0))]) hx hb dX8_list_25 rfl hl (by decide) rfl (fun ls hl => ?_)
      exact L26 F 0 D14 _ _ _ h hP hS (lv_sub hl [1, 0] rfl)
    · have h := x_t (show r14 = 0 from c15) h
      refine lv_iconst (v := (-1)) hx hb dX8_list_22 (by decide) ?_
      exact x_iret hx hb hr hlocks rfl hP hS h dX8_list_23
abbrev rm_X8_info : Room := { frames := 8, cells := 0, slots := 0, locals := 185 }
set_option maxHeartbeats 4000000 in
set_option maxRecDepth 100000 in
theorem c_X8_info (l : Launch) (dd : Dd) (Y : Yc) (t : Ts3) (ad : Nat → Nat) (ij : Ij MG ad) (F : Nat) (D0 D' : Mm) (r0 : Int32) (h : P_X8_info (gN MG) F D0 = some (r0, D')) : Met l yX8_info wzX8_info rm_X8_info (va_Pc [.ref (ad 0)] (Wd dd Y t MG ad D0)) (Qi dd Y MG ad .int r0 D') 0 0 (pA MG ad) := by
  refine Met.ofW (cc := cX8_info) (maxL := 4) (ret := (some .int)) (by decide) rfl ?_
  intro p e s m args below meth c s₁ B hml hv
  obtain ⟨rfl, hP, hK, hT⟩ := hv
  have hx := B.exec
  have hb := B.bytes
  have hr := B.returns
  have ht0 : ∀ w ∈ W0, w.before _ s = true := fun w h => atoms_spec (ws := wzX8_info) B.pre w (List.mem_cons_of_mem _ h)
  have hown : s.vm.findClass RX8 = some m.cls := findClass_of_methodNamed B.named
  have hlocks := B.notSynchronized
  have hS : va_S (pA MG ad) s.heap s.heap [] := va_S.rf
  have L53 : ∀ (k45 : Int32 → Int32 → Mm → Rs) (hk45 : ∀ (x1 x2 : Int32) (D : Mm) (H : Heap) (locs : List Loc) (ls : Array Slot), k45 x1 x2 D = some (r0, D') → va_P dd vwCl (wW Y MG ad D) H → va_S (pA MG ad) s.heap H locs → lv_has ls 4 [(0, .ref (ad 0)), (1, .int x1), (2, .int x2)] → W p l e (headSpec wzX8_info rm_X8_info).room s m ([.ref (ad 0)].toArray) below meth c H locs 0 0 (MQ below (Qi dd Y MG ad .int r0 D') ([.ref (ad 0)].toArray) s 0 0 (pA MG ad)) (F0 m 45 ls [])), ∀ (n : Nat), ∀ (x1 x2 x3 : Int32) (D : Mm) (H : Heap) (locs : List Loc) (ls : Array Slot), P_X8_info_53 (gN MG) F k45 n x1 x2 x3 D = some (r0, D') → va_P dd vwCl (wW Y MG ad D) H → va_S (pA MG ad) s.heap H locs → lv_has ls 4 [(0, .ref (ad 0)), (1, .int x1), (2, .int x2), (3, .int x3)] → W p l e (headSpec wzX8_info rm_X8_info).room s m ([.ref (ad 0)].toArray) below meth c H locs 0 0 (MQ below (Qi dd Y MG ad .int r0 D') ([.ref (ad 0)].toArray) s 0 0 (pA MG ad)) (F0 m 53 ls []) := by
    intro k45 hk45 n
    induction n with
    | zero =>
      intro x1 x2 x3 D H locs ls h hP hS hl
      cases h
    | succ n ih =>
      intro x1 x2 x3 D H locs ls h hP hS hl
      have h : ((bi (P_X8_sectorsOf (gN MG) F x2 D) (fun r1 D1 => if r1 ≤ x3 then (k45 x1 (x2 + 1) D1) else (if x2 = 9 then (P_X8_info_53 (gN MG) F k45 n (x1 + 0) x2 (x3 + 1) D1) else (bi (P_X8_isFree (gN MG) F x2 x3 D1) (fun r4 D4 => if r4 = 0 then (P_X8_info_53 (gN MG) F k45 n (x1 + 0) x2 (x3 + 1) D4) else (P_X8_info_53 (gN MG) F k45 n (x1 + 1) x2 (x3 + 1) D4)))))) : Rs) = some (r0, D') := h
      refine lv_iload_n hx hb dX8_info_53 rfl (lv_at hl 3 rfl) ?_
      refine lv_iload_n hx hb dX8_info_54 rfl (lv_at hl 2 rfl) ?_
      obtain ⟨r1, D1, hc1, h⟩ := bi_some h
      refine x_callSi (As := [.int x2]) ⟨hx, hb, hml, hown, ht0⟩ hK hT hP hS (c_X8_sectorsOf l dd Y t ad ij F x2 _ _ _ hc1) m_ML_X8_77 ss_X8_sectorsOf hd_X8_sectorsOf rfl rfl ⟨Nat.le_of_ble_eq_true rfl, Nat.le_of_ble_eq_true rfl⟩ rfl hl.1 rfl (Nat.le_of_ble_eq_true rfl) dX8_info_55 ⟨Nat.zero_le _, Nat.zero_le _⟩ (fun H locs hn_r1 hP hS => ?_)
      refine lv_icmp_ge (tgt := 90) hx hb dX8_info_58 (by decide) (fun c2 => ?_) (fun c2 => ?_)
      · have h := x_t (show r1 ≤ x3 from c2) h
        refine lv_iinc (v := x2 + 1) (lv' := [(2, .int (x2 + 1)), (0, .ref (ad 0)), (1, .int x1), (3, .int x3)]) hx hb dX8_info_90 hl (k := 2) rfl rfl (by decide) rfl (fun ls hl => ?_)
        refine lv_goto (tgt := 45) hx hb dX8_info_93 (by decide) ?_
        exact hk45 x1 (x2 + 1) D1 _ _ _ h hP hS (lv_sub hl [1, 2, 0] rfl)
      · have h := x_f (show ¬ (r1 ≤ x3) from c2) h
        refine lv_iload_n hx hb dX8_info_61 rfl (lv_at hl 1 rfl) ?_
        refine lv_iload_n hx hb dX8_info_62 rfl (lv_at hl 2 rfl) ?_
        refine lv_bipush (v := 9) hx hb dX8_info_63 (by decide) ?_
        refine lv_icmp_eq (tgt := 81) hx hb dX8_info_65 (by decide) (fun c3 => ?_) (fun c3 => ?_)
        · have h := x_t (show x2 = 9 from c3) h
          refine lv_iconst (v := 0) hx hb dX8_info_81 (by decide) ?_
          refine lv_iadd hx hb dX8_info_82 ?_
          refine lv_istore_n (lv' := [(1, .int (x1 + 0)), (0, .ref (ad 0)), (2, .int x2), (3, .int x3)]) hx hb dX8_info_83 rfl hl (by decide) rfl (fun ls hl => ?_)
          refine lv_iinc (v := x3 + 1) (lv' := [(3, .int (x3 + 1)), (1, .int (x1 + 0)), (0, .ref (ad 0)), (2, .int x2)]) hx hb dX8_info_84 hl (k := 3) rfl rfl (by decide) rfl (fun ls hl => ?_)
          refine lv_goto (tgt := 53) hx hb dX8_info_87 (by decide) ?_
          exact ih (x1 + 0) x2 (x3 + 1) D1 _ _ _ h hP hS (lv_sub hl [2, 1, 3, 0] rfl)
        · have h := x_f (show ¬ (x2 = 9) from c3) h
          refine lv_aload_n hx hb dX8_info_68 rfl (lv_at hl 0 rfl) ?_
          refine lv_iload_n hx hb dX8_info_69 rfl (lv_at hl 2 rfl) ?_
          refine lv_iload_n hx hb dX8_info_70 rfl (lv_at hl 3 rfl) ?_
          obtain ⟨r4, D4, hc4, h⟩ := bi_some h
          refine x_callVi (As := [.int x2, .int x3]) ⟨hx, hb, hml, hown, ht0⟩ hK hT hP hS (c_X8_isFree l dd Y t ad ij F x2 x3 _ _ _ hc4) m_ML_X8_183 sv_X8_isFree hd_X8_isFree rfl rfl ⟨Nat.le_of_ble_eq_true rfl, Nat.le_of_ble_eq_true rfl⟩ (mk_0).1 (ce8 (mk_0).2) rfl rfl hl.1 rfl (Nat.le_of_ble_eq_true rfl) dX8_info_71 ⟨Nat.zero_le _, Nat.zero_le _⟩ (fun H locs hn_r4 hP hS => ?_)
          refine lv_if_eq (tgt := 81) hx hb dX8_info_74 (by decide) (fun c5 => ?_) (fun c5 => ?_)
          · have h := x_t (show r4 = 0 from c5) h
            refine lv_iconst (v := 0) hx hb dX8_info_81 (by decide) ?_
            refine lv_iadd hx hb dX8_info_82 ?_
            refine lv_istore_n (lv' := [(1, .int (x1 + 0)), (0, .ref (ad 0)), (2, .int x2), (3, .int x3)]) hx hb dX8_info_83 rfl hl (by decide) rfl (fun ls hl => ?_)
            refine lv_iinc (v := x3 + 1) (lv' := [(3, .int (x3 + 1)), (1, .int (x1 + 0)), (0, .ref (ad 0)), (2, .int x2)]) hx hb dX8_info_84 hl (k := 3) rfl rfl (by decide) rfl (fun ls hl => ?_)
            refine lv_goto (tgt := 53) hx hb dX8_info_87 (by decide) ?_
            exact ih (x1 + 0) x2 (x3 + 1) D4 _ _ _ h hP hS (lv_sub hl [2, 1, 3, 0] rfl)
          · have h := x_f (show ¬ (r4 = 0) from c5) h
            refine lv_iconst (v := 1) hx hb dX8_info_77 (by decide) ?_
            refine lv_goto (tgt := 82) hx hb dX8_info_78 (by decide) ?_
            refine lv_iadd hx hb dX8_info_82 ?_
            refine lv_istore_n (lv' := [(1, .int (x1 + 1)), (0, .ref (ad 0)), (2, .int x2), (3, .int x3)]) hx hb dX8_info_83 rfl hl (by decide) rfl (fun ls hl => ?_)
            refine lv_iinc (v := x3 + 1) (lv' := [(3, .int (x3 + 1)), (1, .int (x1 + 1)), (0, .ref (ad 0)), (2, .int x2)]) hx hb dX8_info_84 hl (k := 3) rfl rfl (by decide) rfl (fun ls hl => ?_)
            refine lv_goto (tgt := 53) hx hb dX8_info_87 (by decide) ?_
            exact ih (x1 + 1) x2 (x3 + 1) D4 _ _ _ h hP hS (lv_sub hl [2, 1, 3, 0] rfl)
  have L45 : ∀ (n : Nat), ∀ (x1 x2 : Int32) (D : Mm) (H : Heap) (locs : List Loc) (ls : Array Slot), P_X8_info_45 (gN MG) F n x1 x2 D = some (r0, D') → va_P dd vwCl (wW Y MG ad D) H → va_S (pA MG ad) s.heap H locs → lv_has ls 4 [(0, .ref (ad 0)), (1, .int x1), (2, .int x2)] → W p l e (headSpec wzX8_info rm_X8_info).room s m ([.ref (ad 0)].toArray) below meth c H locs 0 0 (MQ below (Qi dd Y MG ad .int r0 D') ([.ref (ad 0)].toArray) s 0 0 (pA MG ad)) (F0 m 45 ls []) := by
    intro n
    induction n with
    | zero =>
      intro x1 x2 D H locs ls h hP hS hl
      cases h
    | succ n ih =>
      intro x1 x2 D H locs ls h hP hS hl
      have h : ((if 16 < x2 then (bi (P_X8_tell (gN MG) F x1 D) (fun r7 D7 => some (D7 0 8, D7))) else (P_X8_info_53 (gN MG) F (fun x1 x2 D => P_X8_info_45 (gN MG) F n x1 x2 D) F x1 x2 0 D)) : Rs) = some (r0, D') := h
      refine lv_iload_n hx hb dX8_info_45 rfl (lv_at hl 2 rfl) ?_
      refine lv_bipush (v := 16) hx hb dX8_info_46 (by decide) ?_
      refine lv_icmp_gt (tgt := 96) hx hb dX8_info_48 (by decide) (fun c6 => ?_) (fun c6 => ?_)
      · have h := x_t (show 16 < x2 from c6) h
        refine lv_aload_n hx hb dX8_info_96 rfl (lv_at hl 0 rfl) ?_
        refine lv_iload_n hx hb dX8_info_97 rfl (lv_at hl 1 rfl) ?_
        obtain ⟨r7, D7, hc7, h⟩ := bi_some h
        refine x_callVv (As := [.int x1]) ⟨hx, hb, hml, hown, ht0⟩ hK hT hP hS (c_X8_tell l dd Y t ad ij F x1 _ _ _ hc7) m_ML_X8_217 sv_X8_tell hd_X8_tell rfl rfl ⟨Nat.le_of_ble_eq_true rfl, Nat.le_of_ble_eq_true rfl⟩ (mk_0).1 (ce8 (mk_0).2) rfl rfl hl.1 rfl (Nat.le_of_ble_eq_true rfl) dX8_info_98 ⟨Nat.zero_le _, Nat.zero_le _⟩ (fun H locs hP hS => ?_)
        refine lv_aload_n hx hb dX8_info_101 rfl (lv_at hl 0 rfl) ?_
        refine x_get hx hb ht0 u_X8 hown hK hP (mk_0).1 (ce8 (mk_0).2) rfl 8 (by decide) (ht0 _ m_FL_X8_220) rfl rfl dX8_info_102 ?_
        exact x_iret hx hb hr hlocks rfl hP hS h dX8_info_105
      · have h := x_f (show ¬ (16 < x2) from c6) h
        refine lv_iconst (v := 0) hx hb dX8_info_51 (by decide) ?_
        refine lv_istore_n (lv' := [(3, .int 0), (0, .ref (ad 0)), (1, .int x1), (2, .int x2)]) hx hb dX8_info_52 rfl hl (by decide) rfl (fun ls hl => ?_)
        exact L53 (fun x1 x2 D => P_X8_info_45 (gN MG) F n x1 x2 D) ih F x1 x2 0 D _ _ _ h hP hS (lv_sub hl [1, 2, 3, 0] rfl)
  have L16 : ∀ (n : Nat), ∀ (x1 : Int32) (D : Mm) (H : Heap) (locs : List Loc) (ls : Array Slot), P_X8_info_16 (gN MG) F n x1 D = some (r0, D') → va_P dd vwCl (wW Y MG ad D) H → va_S (pA MG ad) s.heap H locs → lv_has ls 4 [(0, .ref (ad 0)), (1, .int x1)] → W p l e (headSpec wzX8_info rm_X8_info).room s m ([.ref (ad 0)].toArray) below meth c H locs 0 0 (MQ below (Qi dd Y MG ad .int r0 D') ([.ref (ad 0)].toArray) s 0 0 (pA MG ad)) (F0 m 16 ls []) := by
    intro n
    induction n with
    | zero =>
      intro x1 D H locs ls h hP hS hl
      cases h
    | succ n ih =>
      intro x1 D H locs ls h hP hS hl
      have h : ((if 10 ≤ x1 then (P_X8_info_45 (gN MG) F F 0 1 D) else (if inB (40 + x1) ((gN MG) 9) = true then (bi (P_X8_tell (gN MG) F (D 9 (Int32.toNatClampNeg (40 + x1))) D) (fun r10 D10 => P_X8_info_16 (gN MG) F n (x1 + 1) D10)) else none)) : Rs) = some (r0, D') := h
      refine lv_iload_n hx hb dX8_info_16 rfl (lv_at hl 1 rfl) ?_
      refine lv_bipush (v := 10) hx hb dX8_info_17 (by decide) ?_
      refine lv_icmp_ge (tgt := 41) hx hb dX8_info_19 (by decide) (fun c8 => ?_) (fun c8 => ?_)
      · have h := x_t (show 10 ≤ x1 from c8) h
        refine lv_iconst (v := 0) hx hb dX8_info_41 (by decide) ?_
        refine lv_istore_n (lv' := [(1, .int 0), (0, .ref (ad 0))]) hx hb dX8_info_42 rfl hl (by decide) rfl (fun ls hl => ?_)
        refine lv_iconst (v := 1) hx hb dX8_info_43 (by decide) ?_
        refine lv_istore_n (lv' := [(2, .int 1), (1, .int 0), (0, .ref (ad 0))]) hx hb dX8_info_44 rfl hl (by decide) rfl (fun ls hl => ?_)
        exact L45 F 0 1 D _ _ _ h hP hS (lv_sub hl [2, 1, 0] rfl)
      · have h := x_f (show ¬ (10 ≤ x1) from c8) h
        refine lv_aload_n hx hb dX8_info_22 rfl (lv_at hl 0 rfl) ?_
        refine lv_aload_n hx hb dX8_info_23 rfl (lv_at hl 0 rfl) ?_
        refine x_get hx hb ht0 u_X8 hown hK hP (mk_0).1 (ce8 (mk_0).2) rfl 19 (by decide) (ht0 _ m_FL_X8_40) rfl (rfv (G := MG) (c := 0) (k := 19) (c' := 9) rfl) dX8_info_24 ?_
        refine lv_bipush (v := 40) hx hb dX8_info_27 (by decide) ?_
        refine lv_iload_n hx hb dX8_info_29 rfl (lv_at hl 1 rfl) ?_
        refine lv_iadd hx hb dX8_info_30 ?_
        obtain ⟨b9, h⟩ := x_if h
        refine x_ald hx hb hK hP mk_9 b9 dX8_info_31 ?_
        obtain ⟨r10, D10, hc10, h⟩ := bi_some h
        refine x_callVv (As := [.int (D 9 (Int32.toNatClampNeg (40 + x1)))]) ⟨hx, hb, hml, hown, ht0⟩ hK hT hP hS (c_X8_tell l dd Y t ad ij F (D 9 (Int32.toNatClampNeg (40 + x1))) _ _ _ hc10) m_ML_X8_217 sv_X8_tell hd_X8_tell rfl rfl ⟨Nat.le_of_ble_eq_true rfl, Nat.le_of_ble_eq_true rfl⟩ (mk_0).1 (ce8 (mk_0).2) rfl rfl hl.1 rfl (Nat.le_of_ble_eq_true rfl) dX8_info_32 ⟨Nat.zero_le _, Nat.zero_le _⟩ (fun H locs hP hS => ?_)
        refine lv_iinc (v := x1 + 1) (lv' := [(1, .int (x1 + 1)), (0, .ref (ad 0))]) hx hb dX8_info_35 hl (k := 1) rfl rfl (by decide) rfl (fun ls hl => ?_)
        refine lv_goto (tgt := 16) hx hb dX8_info_38 (by decide) ?_
        exact ih (x1 + 1) D10 _ _ _ h hP hS (lv_sub hl [1, 0] rfl)
  have hl := lv_entry ([.ref (ad 0)]) (n := 4) (Nat.le_of_ble_eq_true rfl)
  rw [lg_entry_eq]
  generalize (lg_sl ([.ref (ad 0)]) ++ List.replicate (4 - (lg_sl ([.ref (ad 0)])).length) Slot.unset).toArray = ls at hl ⊢
  have hl : lv_has ls 4 [(0, .ref (ad 0))] := hl
  have hP : va_P dd vwCl (wW Y MG ad D0) s.heap := hP
  generalize D0 = D at h hP
  have h : ((bi (P_X8_begins (gN MG) F (up2 D 0 8 0)) (fun r11 D11 => if r11 = 0 then (some ((-1), D11)) else (P_X8_info_16 (gN MG) F F 0 D11))) : Rs) = some (r0, D') := h
  refine lv_aload_n hx hb dX8_info_0 rfl (lv_at hl 0 rfl) ?_
  refine lv_iconst (v := 0) hx hb dX8_info_1 (by decide) ?_
  refine x_put (ty := .int) hx hb ht0 u_X8 tyX8 tyX8_ok nmX8 hown hK ij hP hS (mk_0).1 (ce8 (mk_0).2) rfl 8 (by decide) (ht0 _ m_FL_X8_220) rfl rfl (by decide +kernel) rfl rfl (Nat.le_of_ble_eq_true rfl) (by rw [(mk_0).2]; rfl) dX8_info_2 (fun H locs hP hS => ?_)
  refine lv_aload_n hx hb dX8_info_5 rfl (lv_at hl 0 rfl) ?_
  obtain ⟨r11, D11, hc11, h⟩ := bi_some h
  refine x_callVi (As := []) ⟨hx, hb, hml, hown, ht0⟩ hK hT hP hS (c_X8_begins l dd Y t ad ij F  _ _ _ hc11) m_ML_X8_186 sv_X8_begins hd_X8_begins rfl rfl ⟨Nat.le_of_ble_eq_true rfl, Nat.le_of_ble_eq_true rfl⟩ (mk_0).1 (ce8 (mk_0).2) rfl rfl hl.1 rfl (Nat.le_of_ble_eq_true rfl) dX8_info_6 ⟨Nat.zero_le _, Nat.zero_le _⟩ (fun H locs hn_r11 hP hS => ?_)
  refine lv_if_ne (tgt := 14) hx hb dX8_info_9 (by decide) (fun c12 => ?_) (fun c12 => ?_)
  · have h := x_f (show ¬ (r11 = 0) from c12) h
    refine lv_iconst (v := 0) hx hb dX8_info_14 (by decide) ?_
    refine lv_istore_n (lv' := [(1, .int 0), (0, .ref (ad 0))]) hx hb dX8_info_15 rfl hl (by decide) rfl (fun ls hl => ?_)
    exact L16 F 0 D11 _ _ _ h hP hS (lv_sub hl [1, 0] rfl)
  · have h := x_t (show r11 = 0 from c12) h
    refine lv_iconst (v := (-1)) hx hb dX8_info_12 (by decide) ?_
    exact x_iret hx hb hr hlocks rfl hP hS h dX8_info_13
abbrev rm_X8_out : Room := { frames := 1, cells := 0, slots := 0, locals := 22 }
set_option maxHeartbeats 4000000 in
set_option maxRecDepth 100000 in
theorem c_X8_out (l : Launch) (dd : Dd) (Y : Yc) (t : Ts3) (ad : Nat → Nat) (ij : Ij MG ad) (F : Nat) (a1 : Int32) (D0 D' : Mm) (r0 : Int32) (h : P_X8_out (gN MG) F a1 D0 = some (r0, D')) : Met l yX8_out wzX8_out rm_X8_out (va_Pc [.ref (ad 0), .int a1] (Wd dd Y t MG ad D0)) (Qi dd Y MG ad .int r0 D') 0 0 (pA MG ad) := by
  refine Met.ofW (cc := cX8_out) (maxL := 2) (ret := (some .int)) (by decide) rfl ?_
  intro p e s m args below meth c s₁ B hml hv
  obtain ⟨rfl, hP, hK, hT⟩ := hv
  have hx := B.exec
  have hb := B.bytes
  have hr := B.returns
  have ht0 : ∀ w ∈ W0, w.before _ s = true := fun w h => atoms_spec (ws := wzX8_out) B.pre w (List.mem_cons_of_mem _ h)
  have hown : s.vm.findClass RX8 = some m.cls := findClass_of_methodNamed B.named
  have hlocks := B.notSynchronized
  have hS : va_S (pA MG ad) s.heap s.heap [] := va_S.rf
  have hl := lv_entry ([.ref (ad 0), .int a1]) (n := 2) (Nat.le_of_ble_eq_true rfl)
  rw [lg_entry_eq]
  generalize (lg_sl ([.ref (ad 0), .int a1]) ++ List.replicate (2 - (lg_sl ([.ref (ad 0), .int a1])).length) Slot.unset).toArray = ls at hl ⊢
  have hl : lv_has ls 2 [(0, .ref (ad 0)), (1, .int a1)] := hl
  have hP : va_P dd vwCl (wW Y MG ad D0) s.heap := hP
  generalize D0 = D at h hP
  have h : ((bi (P_X8_isIn (gN MG) F a1 0 ((D 0 8) - 1) D) (fun r1 D1 => if r1 = 0 then (some ((-1), D1)) else (if inB a1 ((gN MG) 6) = true then (some (D1 6 (Int32.toNatClampNeg a1), D1)) else none))) : Rs) = some (r0, D') := h
  refine lv_iload_n hx hb dX8_out_0 rfl (lv_at hl 1 rfl) ?_
  refine lv_iconst (v := 0) hx hb dX8_out_1 (by decide) ?_
  refine lv_aload_n hx hb dX8_out_2 rfl (lv_at hl 0 rfl) ?_
  refine x_get hx hb ht0 u_X8 hown hK hP (mk_0).1 (ce8 (mk_0).2) rfl 8 (by decide) (ht0 _ m_FL_X8_220) rfl rfl dX8_out_3 ?_
  refine lv_iconst (v := 1) hx hb dX8_out_6 (by decide) ?_
  refine lv_isub hx hb dX8_out_7 ?_
  obtain ⟨r1, D1, hc1, h⟩ := bi_some h
  refine x_callSi (As := [.int a1, .int 0, .int ((D 0 8) - 1)]) ⟨hx, hb, hml, hown, ht0⟩ hK hT hP hS (c_X8_isIn l dd Y t ad ij F a1 0 ((D 0 8) - 1) _ _ _ hc1) m_ML_X8_69 ss_X8_isIn hd_X8_isIn rfl rfl ⟨Nat.le_of_ble_eq_true rfl, Nat.le_of_ble_eq_true rfl⟩ rfl hl.1 rfl (Nat.le_of_ble_eq_true rfl) dX8_out_8 ⟨Nat.zero_le _, Nat.zero_le _⟩ (fun H locs hn_r1 hP hS => ?_)
  refine lv_if_eq (tgt := 23) hx hb dX8_out_11 (by decide) (fun c2 => ?_) (fun c2 => ?_)
  · have h := x_t (show r1 = 0 from c2) h
    refine lv_iconst (v := (-1)) hx hb dX8_out_23 (by decide) ?_
    exact x_iret hx hb hr hlocks rfl hP hS h dX8_out_24
  · have h := x_f (show ¬ (r1 = 0) from c2) h
    refine lv_aload_n hx hb dX8_out_14 rfl (lv_at hl 0 rfl) ?_
    refine x_get hx hb ht0 u_X8 hown hK hP (mk_0).1 (ce8 (mk_0).2) rfl 7 (by decide) (ht0 _ m_FL_X8_31) rfl (rfv (G := MG) (c := 0) (k := 7) (c' := 6) rfl) dX8_out_15 ?_
    refine lv_iload_n hx hb dX8_out_18 rfl (lv_at hl 1 rfl) ?_
    obtain ⟨b3, h⟩ := x_if h
    refine x_ald hx hb hK hP mk_6 b3 dX8_out_19 ?_
    refine lv_goto (tgt := 24) hx hb dX8_out_20 (by decide) ?_
    exact x_iret hx hb hr hlocks rfl hP hS h dX8_out_24
abbrev rm_X8_status : Room := { frames := 0, cells := 0, slots := 0, locals := 0 }
set_option maxHeartbeats 4000000 in
set_option maxRecDepth 100000 in
theorem c_X8_status (l : Launch) (dd : Dd) (Y : Yc) (t : Ts3) (ad : Nat → Nat) (ij : Ij MG ad) (F : Nat) (a1 : Int32) (D0 D' : Mm) (r0 : Int32) (h : P_X8_status (gN MG) F a1 D0 = some (r0, D')) : Met l yX8_status wzX8_status rm_X8_status (va_Pc [.ref (ad 0), .int a1] (Wd dd Y t MG ad D0)) (Qi dd Y MG ad .int r0 D') 0 0 (pA MG ad) := by
  refine Met.ofW (cc := cX8_status) (maxL := 2) (ret := (some .int)) (by decide) rfl ?_
  intro p e s m args below meth c s₁ B hml hv
  obtain ⟨rfl, hP, hK, hT⟩ := hv
  have hx := B.exec
  have hb := B.bytes
  have hr := B.returns
  have ht0 : ∀ w ∈ W0, w.before _ s = true := fun w h => atoms_spec (ws := wzX8_status) B.pre w (List.mem_cons_of_mem _ h)
  have hown : s.vm.findClass RX8 = some m.cls := findClass_of_methodNamed B.named
  have hlocks := B.notSynchronized
  have hS : va_S (pA MG ad) s.heap s.heap [] := va_S.rf
  have hl := lv_entry ([.ref (ad 0), .int a1]) (n := 2) (Nat.le_of_ble_eq_true rfl)
  rw [lg_entry_eq]
  generalize (lg_sl ([.ref (ad 0), .int a1]) ++ List.replicate (2 - (lg_sl ([.ref (ad 0), .int a1])).length) Slot.unset).toArray = ls at hl ⊢
  have hl : lv_has ls 2 [(0, .ref (ad 0)), (1, .int a1)] := hl
  have hP : va_P dd vwCl (wW Y MG ad D0) s.heap := hP
  generalize D0 = D at h hP
  have h : ((if a1 = 0 then (some (D 0 9, D)) else (if a1 = 1 then (some (D 0 10, D)) else (if a1 = 2 then (some (D 0 11, D)) else (some ((-1), D))))) : Rs) = some (r0, D') := h
  refine lv_iload_n hx hb dX8_status_0 rfl (lv_at hl 1 rfl) ?_
  refine lv_if_ne (tgt := 11) hx hb dX8_status_1 (by decide) (fun c1 => ?_) (fun c1 => ?_)
  · have h := x_f (show ¬ (a1 = 0) from c1) h
    refine lv_iload_n hx hb dX8_status_11 rfl (lv_at hl 1 rfl) ?_
    refine lv_iconst (v := 1) hx hb dX8_status_12 (by decide) ?_
    refine lv_icmp_ne (tgt := 23) hx hb dX8_status_13 (by decide) (fun c2 => ?_) (fun c2 => ?_)
    · have h := x_f (show ¬ (a1 = 1) from c2) h
      refine lv_iload_n hx hb dX8_status_23 rfl (lv_at hl 1 rfl) ?_
      refine lv_iconst (v := 2) hx hb dX8_status_24 (by decide) ?_
      refine lv_icmp_ne (tgt := 35) hx hb dX8_status_25 (by decide) (fun c3 => ?_) (fun c3 => ?_)
      · have h := x_f (show ¬ (a1 = 2) from c3) h
        refine lv_iconst (v := (-1)) hx hb dX8_status_35 (by decide) ?_
        exact x_iret hx hb hr hlocks rfl hP hS h dX8_status_36
      · have h := x_t (show a1 = 2 from c3) h
        refine lv_aload_n hx hb dX8_status_28 rfl (lv_at hl 0 rfl) ?_
        refine x_get hx hb ht0 u_X8 hown hK hP (mk_0).1 (ce8 (mk_0).2) rfl 11 (by decide) (ht0 _ m_FL_X8_140) rfl rfl dX8_status_29 ?_
        refine lv_goto (tgt := 36) hx hb dX8_status_32 (by decide) ?_
        exact x_iret hx hb hr hlocks rfl hP hS h dX8_status_36
    · have h := x_t (show a1 = 1 from c2) h
      refine lv_aload_n hx hb dX8_status_16 rfl (lv_at hl 0 rfl) ?_
      refine x_get hx hb ht0 u_X8 hown hK hP (mk_0).1 (ce8 (mk_0).2) rfl 10 (by decide) (ht0 _ m_FL_X8_137) rfl rfl dX8_status_17 ?_
      refine lv_goto (tgt := 36) hx hb dX8_status_20 (by decide) ?_
      exact x_iret hx hb hr hlocks rfl hP hS h dX8_status_36
  · have h := x_t (show a1 = 0 from c1) h
    refine lv_aload_n hx hb dX8_status_4 rfl (lv_at hl 0 rfl) ?_
    refine x_get hx hb ht0 u_X8 hown hK hP (mk_0).1 (ce8 (mk_0).2) rfl 9 (by decide) (ht0 _ m_FL_X8_134) rfl rfl dX8_status_5 ?_
    refine lv_goto (tgt := 36) hx hb dX8_status_8 (by decide) ?_
    exact x_iret hx hb hr hlocks rfl hP hS h dX8_status_36
abbrev rm_X8_peek : Room := { frames := 4, cells := 0, slots := 0, locals := 87 }
set_option maxHeartbeats 4000000 in
set_option maxRecDepth 100000 in
theorem c_X8_peek (l : Launch) (dd : Dd) (Y : Yc) (t : Ts3) (ad : Nat → Nat) (ij : Ij MG ad) (F : Nat) (a1 a2 : Int32) (D0 D' : Mm) (r0 : Int32) (h : P_X8_peek (gN MG) F a1 a2 D0 = some (r0, D')) : Met l yX8_peek wzX8_peek rm_X8_peek (va_Pc [.ref (ad 0), .int a1, .int a2] (Wd dd Y t MG ad D0)) (Qi dd Y MG ad .int r0 D') 0 0 (pA MG ad) := by
  refine Met.ofW (cc := cX8_peek) (maxL := 3) (ret := (some .int)) (by decide) rfl ?_
  intro p e s m args below meth c s₁ B hml hv
  obtain ⟨rfl, hP, hK, hT⟩ := hv
  have hx := B.exec
  have hb := B.bytes
  have hr := B.returns
  have ht0 : ∀ w ∈ W0, w.before _ s = true := fun w h => atoms_spec (ws := wzX8_peek) B.pre w (List.mem_cons_of_mem _ h)
  have hown : s.vm.findClass RX8 = some m.cls := findClass_of_methodNamed B.named
  have hlocks := B.notSynchronized
  have hS : va_S (pA MG ad) s.heap s.heap [] := va_S.rf
  have hl := lv_entry ([.ref (ad 0), .int a1, .int a2]) (n := 3) (Nat.le_of_ble_eq_true rfl)
  rw [lg_entry_eq]
  generalize (lg_sl ([.ref (ad 0), .int a1, .int a2]) ++ List.replicate (3 - (lg_sl ([.ref (ad 0), .int a1, .int a2])).length) Slot.unset).toArray = ls at hl ⊢
  have hl : lv_has ls 3 [(0, .ref (ad 0)), (1, .int a1), (2, .int a2)] := hl
  have hP : va_P dd vwCl (wW Y MG ad D0) s.heap := hP
  generalize D0 = D at h hP
  have h : ((bi (P_X8_isByte (gN MG) F a1 a2 D) (fun r1 D1 => if r1 = 0 then (some ((-1), D1)) else (bi (P_X8_byteAt (gN MG) F a1 a2 D1) (fun r3 D3 => some (r3, D3))))) : Rs) = some (r0, D') := h
  refine lv_iload_n hx hb dX8_peek_0 rfl (lv_at hl 1 rfl) ?_
  refine lv_iload_n hx hb dX8_peek_1 rfl (lv_at hl 2 rfl) ?_
  obtain ⟨r1, D1, hc1, h⟩ := bi_some h
  refine x_callSi (As := [.int a1, .int a2]) ⟨hx, hb, hml, hown, ht0⟩ hK hT hP hS (c_X8_isByte l dd Y t ad ij F a1 a2 _ _ _ hc1) m_ML_X8_230 ss_X8_isByte hd_X8_isByte rfl rfl ⟨Nat.le_of_ble_eq_true rfl, Nat.le_of_ble_eq_true rfl⟩ rfl hl.1 rfl (Nat.le_of_ble_eq_true rfl) dX8_peek_2 ⟨Nat.zero_le _, Nat.zero_le _⟩ (fun H locs hn_r1 hP hS => ?_)
  refine lv_if_eq (tgt := 17) hx hb dX8_peek_5 (by decide) (fun c2 => ?_) (fun c2 => ?_)
  · have h := x_t (show r1 = 0 from c2) h
    refine lv_iconst (v := (-1)) hx hb dX8_peek_17 (by decide) ?_
    exact x_iret hx hb hr hlocks rfl hP hS h dX8_peek_18
  · have h := x_f (show ¬ (r1 = 0) from c2) h
    refine lv_aload_n hx hb dX8_peek_8 rfl (lv_at hl 0 rfl) ?_
    refine lv_iload_n hx hb dX8_peek_9 rfl (lv_at hl 1 rfl) ?_
    refine lv_iload_n hx hb dX8_peek_10 rfl (lv_at hl 2 rfl) ?_
    obtain ⟨r3, D3, hc3, h⟩ := bi_some h
    refine x_callVi (As := [.int a1, .int a2]) ⟨hx, hb, hml, hown, ht0⟩ hK hT hP hS (c_X8_byteAt l dd Y t ad ij F a1 a2 _ _ _ hc3) m_ML_X8_233 sv_X8_byteAt hd_X8_byteAt rfl rfl ⟨Nat.le_of_ble_eq_true rfl, Nat.le_of_ble_eq_true rfl⟩ (mk_0).1 (ce8 (mk_0).2) rfl rfl hl.1 rfl (Nat.le_of_ble_eq_true rfl) dX8_peek_11 ⟨Nat.zero_le _, Nat.zero_le _⟩ (fun H locs hn_r3 hP hS => ?_)
    refine lv_goto (tgt := 18) hx hb dX8_peek_14 (by decide) ?_
    exact x_iret hx hb hr hlocks rfl hP hS h dX8_peek_18
abbrev rm_X8_poke : Room := { frames := 4, cells := 0, slots := 0, locals := 87 }
set_option maxHeartbeats 4000000 in
set_option maxRecDepth 100000 in
theorem c_X8_poke (l : Launch) (dd : Dd) (Y : Yc) (t : Ts3) (ad : Nat → Nat) (ij : Ij MG ad) (F : Nat) (a1 a2 a3 : Int32) (D0 D' : Mm) (r0 : Int32) (h : P_X8_poke (gN MG) F a1 a2 a3 D0 = some (r0, D')) : Met l yX8_poke wzX8_poke rm_X8_poke (va_Pc [.ref (ad 0), .int a1, .int a2, .int a3] (Wd dd Y t MG ad D0)) (Qi dd Y MG ad .int r0 D') 0 0 (pA MG ad) := by
  refine Met.ofW (cc := cX8_poke) (maxL := 5) (ret := (some .int)) (by decide) rfl ?_
  intro p e s m args below meth c s₁ B hml hv
  obtain ⟨rfl, hP, hK, hT⟩ := hv
  have hx := B.exec
  have hb := B.bytes
  have hr := B.returns
  have ht0 : ∀ w ∈ W0, w.before _ s = true := fun w h => atoms_spec (ws := wzX8_poke) B.pre w (List.mem_cons_of_mem _ h)
  have hown : s.vm.findClass RX8 = some m.cls := findClass_of_methodNamed B.named
  have hlocks := B.notSynchronized
  have hS : va_S (pA MG ad) s.heap s.heap [] := va_S.rf
  have hl := lv_entry ([.ref (ad 0), .int a1, .int a2, .int a3]) (n := 5) (Nat.le_of_ble_eq_true rfl)
  rw [lg_entry_eq]
  generalize (lg_sl ([.ref (ad 0), .int a1, .int a2, .int a3]) ++ List.replicate (5 - (lg_sl ([.ref (ad 0), .int a1, .int a2, .int a3])).length) Slot.unset).toArray = ls at hl ⊢
  have hl : lv_has ls 5 [(0, .ref (ad 0)), (1, .int a1), (2, .int a2), (3, .int a3)] := hl
  have hP : va_P dd vwCl (wW Y MG ad D0) s.heap := hP
  generalize D0 = D at h hP
  have h : ((bi (P_X8_isByte (gN MG) F a1 a2 D) (fun r1 D1 => if r1 = 0 then (some ((-1), D1)) else (bi (P_X8_byteAt (gN MG) F a1 a2 D1) (fun r3 D3 => bi (P_X8_setByte (gN MG) F a1 a2 a3 D3) (fun r4 D4 => some (r3, D4)))))) : Rs) = some (r0, D') := h
  refine lv_iload_n hx hb dX8_poke_0 rfl (lv_at hl 1 rfl) ?_
  refine lv_iload_n hx hb dX8_poke_1 rfl (lv_at hl 2 rfl) ?_
  obtain ⟨r1, D1, hc1, h⟩ := bi_some h
  refine x_callSi (As := [.int a1, .int a2]) ⟨hx, hb, hml, hown, ht0⟩ hK hT hP hS (c_X8_isByte l dd Y t ad ij F a1 a2 _ _ _ hc1) m_ML_X8_230 ss_X8_isByte hd_X8_isByte rfl rfl ⟨Nat.le_of_ble_eq_true rfl, Nat.le_of_ble_eq_true rfl⟩ rfl hl.1 rfl (Nat.le_of_ble_eq_true rfl) dX8_poke_2 ⟨Nat.zero_le _, Nat.zero_le _⟩ (fun H locs hn_r1 hP hS => ?_)
  refine lv_if_ne (tgt := 10) hx hb dX8_poke_5 (by decide) (fun c2 => ?_) (fun c2 => ?_)
  · have h := x_f (show ¬ (r1 = 0) from c2) h
    refine lv_aload_n hx hb dX8_poke_10 rfl (lv_at hl 0 rfl) ?_
    refine lv_iload_n hx hb dX8_poke_11 rfl (lv_at hl 1 rfl) ?_
    refine lv_iload_n hx hb dX8_poke_12 rfl (lv_at hl 2 rfl) ?_
    obtain ⟨r3, D3, hc3, h⟩ := bi_some h
    refine x_callVi (As := [.int a1, .int a2]) ⟨hx, hb, hml, hown, ht0⟩ hK hT hP hS (c_X8_byteAt l dd Y t ad ij F a1 a2 _ _ _ hc3) m_ML_X8_233 sv_X8_byteAt hd_X8_byteAt rfl rfl ⟨Nat.le_of_ble_eq_true rfl, Nat.le_of_ble_eq_true rfl⟩ (mk_0).1 (ce8 (mk_0).2) rfl rfl hl.1 rfl (Nat.le_of_ble_eq_true rfl) dX8_poke_13 ⟨Nat.zero_le _, Nat.zero_le _⟩ (fun H locs hn_r3 hP hS => ?_)
    refine lv_istore (lv' := [(4, .int r3), (0, .ref (ad 0)), (1, .int a1), (2, .int a2), (3, .int a3)]) hx hb dX8_poke_16 hl (by decide) rfl (fun ls hl => ?_)
    refine lv_aload_n hx hb dX8_poke_18 rfl (lv_at hl 1 rfl) ?_
    refine lv_iload_n hx hb dX8_poke_19 rfl (lv_at hl 2 rfl) ?_
    refine lv_iload_n hx hb dX8_poke_20 rfl (lv_at hl 3 rfl) ?_
    refine lv_iload_n hx hb dX8_poke_21 rfl (lv_at hl 4 rfl) ?_
    obtain ⟨r4, D4, hc4, h⟩ := bi_some h
    refine x_callVv (As := [.int a1, .int a2, .int a3]) ⟨hx, hb, hml, hown, ht0⟩ hK hT hP hS (c_X8_setByte l dd Y t ad ij F a1 a2 a3 _ _ _ hc4) m_ML_X8_236 sv_X8_setByte hd_X8_setByte rfl rfl ⟨Nat.le_of_ble_eq_true rfl, Nat.le_of_ble_eq_true rfl⟩ (mk_0).1 (ce8 (mk_0).2) rfl rfl hl.1 rfl (Nat.le_of_ble_eq_true rfl) dX8_poke_22 ⟨Nat.zero_le _, Nat.zero_le _⟩ (fun H locs hP hS => ?_)
    refine lv_iload hx hb dX8_poke_25 (lv_at hl 0 rfl) ?_
    exact x_iret hx hb hr hlocks rfl hP hS h dX8_poke_27
  · have h := x_t (show r1 = 0 from c2) h
    refine lv_iconst (v := (-1)) hx hb dX8_poke_8 (by decide) ?_
    exact x_iret hx hb hr hlocks rfl hP hS h dX8_poke_9
abbrev rm_X8_stamp : Room := { frames := 4, cells := 0, slots := 0, locals := 87 }
set_option maxHeartbeats 4000000 in
set_option maxRecDepth 100000 in
theorem c_X8_stamp (l : Launch) (dd : Dd) (Y : Yc) (t : Ts3) (ad : Nat → Nat) (ij : Ij MG ad) (F : Nat) (a1 a2 a3 : Int32) (D0 D' : Mm) (r0 : Int32) (h : P_X8_stamp (gN MG) F a1 a2 a3 D0 = some (r0, D')) : Met l yX8_stamp wzX8_stamp rm_X8_stamp (va_Pc [.ref (ad 0), .int a1, .int a2, .int a3] (Wd dd Y t MG ad D0)) (Qi dd Y MG ad .int r0 D') 0 0 (pA MG ad) := by
  refine Met.ofW (cc := cX8_stamp) (maxL := 5) (ret := (some .int)) (by decide) rfl ?_
  intro p e s m args below meth c s₁ B hml hv
  obtain ⟨rfl, hP, hK, hT⟩ := hv
  have hx := B.exec
  have hb := B.bytes
  have hr := B.returns
  have ht0 : ∀ w ∈ W0, w.before _ s = true := fun w h => atoms_spec (ws := wzX8_stamp) B.pre w (List.mem_cons_of_mem _ h)
  have hown : s.vm.findClass RX8 = some m.cls := findClass_of_methodNamed B.named
  have hlocks := B.notSynchronized
  have hS : va_S (pA MG ad) s.heap s.heap [] := va_S.rf
  have L13 : ∀ (n : Nat), ∀ (x1 x2 x3 x4 : Int32) (D : Mm) (H : Heap) (locs : List Loc) (ls : Array Slot), P_X8_stamp_13 (gN MG) F n x1 x2 x3 x4 D = some (r0, D') → va_P dd vwCl (wW Y MG ad D) H → va_S (pA MG ad) s.heap H locs → lv_has ls 5 [(0, .ref (ad 0)), (1, .int x1), (2, .int x2), (3, .int x3), (4, .int x4)] → W p l e (headSpec wzX8_stamp rm_X8_stamp).room s m ([.ref (ad 0), .int a1, .int a2, .int a3].toArray) below meth c H locs 0 0 (MQ below (Qi dd Y MG ad .int r0 D') ([.ref (ad 0), .int a1, .int a2, .int a3].toArray) s 0 0 (pA MG ad)) (F0 m 13 ls []) := by
    intro n
    induction n with
    | zero =>
      intro x1 x2 x3 x4 D H locs ls h hP hS hl
      cases h
    | succ n ih =>
      intro x1 x2 x3 x4 D H locs ls h hP hS hl
      have h : ((if 4 ≤ x4 then (some (1, D)) else (bi (P_X8_bytesOf (gN MG) F x1 D) (fun r2 D2 => if r2 = 0 then none else (bi (P_X8_setByte (gN MG) F x1 (jrem (x2 + x4) r2) (x3 >>> ((24 - (8 * x4)) &&& 31)) D2) (fun r4 D4 => P_X8_stamp_13 (gN MG) F n x1 x2 x3 (x4 + 1) D4))))) : Rs) = some (r0, D') := h
      refine lv_iload hx hb dX8_stamp_13 (lv_at hl 4 rfl) ?_
      refine lv_iconst (v := 4) hx hb dX8_stamp_15 (by decide) ?_
      refine lv_icmp_ge (tgt := 49) hx hb dX8_stamp_16 (by decide) (fun c1 => ?_) (fun c1 => ?_)
      · have h := x_t (show 4 ≤ x4 from c1) h
        refine lv_iconst (v := 1) hx hb dX8_stamp_49 (by decide) ?_
        exact x_iret hx hb hr hlocks rfl hP hS h dX8_stamp_50
      · have h := x_f (show ¬ (4 ≤ x4) from c1) h
        refine lv_aload_n hx hb dX8_stamp_19 rfl (lv_at hl 0 rfl) ?_
        refine lv_iload_n hx hb dX8_stamp_20 rfl (lv_at hl 1 rfl) ?_
        refine lv_iload_n hx hb dX8_stamp_21 rfl (lv_at hl 2 rfl) ?_
        refine lv_iload hx hb dX8_stamp_22 (lv_at hl 4 rfl) ?_
        refine lv_iadd hx hb dX8_stamp_24 ?_
        refine lv_iload_n hx hb dX8_stamp_25 rfl (lv_at hl 1 rfl) ?_
        obtain ⟨r2, D2, hc2, h⟩ := bi_some h
        refine x_callSi (As := [.int x1]) ⟨hx, hb, hml, hown, ht0⟩ hK hT hP hS (c_X8_bytesOf l dd Y t ad ij F x1 _ _ _ hc2) m_ML_X8_62 ss_X8_bytesOf hd_X8_bytesOf rfl rfl ⟨Nat.le_of_ble_eq_true rfl, Nat.le_of_ble_eq_true rfl⟩ rfl hl.1 rfl (Nat.le_of_ble_eq_true rfl) dX8_stamp_26 ⟨Nat.zero_le _, Nat.zero_le _⟩ (fun H locs hn_r2 hP hS => ?_)
        obtain ⟨z3, h⟩ := x_ifn h
        refine lv_irem hx hb dX8_stamp_29 z3 ?_
        refine lv_iload_n hx hb dX8_stamp_30 rfl (lv_at hl 3 rfl) ?_
        refine lv_bipush (v := 24) hx hb dX8_stamp_31 (by decide) ?_
        refine lv_bipush (v := 8) hx hb dX8_stamp_33 (by decide) ?_
        refine lv_iload hx hb dX8_stamp_35 (lv_at hl 4 rfl) ?_
        refine lv_imul hx hb dX8_stamp_37 ?_
        refine lv_isub hx hb dX8_stamp_38 ?_
        refine lv_ishr hx hb dX8_stamp_39 ?_
        obtain ⟨r4, D4, hc4, h⟩ := bi_some h
        refine x_callVv (As := [.int x1, .int (jrem (x2 + x4) r2), .int (x3 >>> ((24 - (8 * x4)) &&& 31))]) ⟨hx, hb, hml, hown, ht0⟩ hK hT hP hS (c_X8_setByte l dd Y t ad ij F x1 (jrem (x2 + x4) r2) (x3 >>> ((24 - (8 * x4)) &&& 31)) _ _ _ hc4) m_ML_X8_236 sv_X8_setByte hd_X8_setByte rfl rfl ⟨Nat.le_of_ble_eq_true rfl, Nat.le_of_ble_eq_true rfl⟩ (mk_0).1 (ce8 (mk_0).2) rfl rfl hl.1 rfl (Nat.le_of_ble_eq_true rfl) dX8_stamp_40 ⟨Nat.zero_le _, Nat.zero_le _⟩ (fun H locs hP hS => ?_)
        refine lv_iinc (v := x4 + 1) (lv' := [(4, .int (x4 + 1)), (0, .ref (ad 0)), (1, .int x1), (2, .int x2), (3, .int x3)]) hx hb dX8_stamp_43 hl (k := 4) rfl rfl (by decide) rfl (fun ls hl => ?_)
        refine lv_goto (tgt := 13) hx hb dX8_stamp_46 (by decide) ?_
        exact ih x1 x2 x3 (x4 + 1) D4 _ _ _ h hP hS (lv_sub hl [1, 2, 3, 4, 0] rfl)
  have hl := lv_entry ([.ref (ad 0), .int a1, .int a2, .int a3]) (n := 5) (Nat.le_of_ble_eq_true rfl)
  rw [lg_entry_eq]
  generalize (lg_sl ([.ref (ad 0), .int a1, .int a2, .int a3]) ++ List.replicate (5 - (lg_sl ([.ref (ad 0), .int a1, .int a2, .int a3])).length) Slot.unset).toArray = ls at hl ⊢
  have hl : lv_has ls 5 [(0, .ref (ad 0)), (1, .int a1), (2, .int a2), (3, .int a3)] := hl
  have hP : va_P dd vwCl (wW Y MG ad D0) s.heap := hP
  generalize D0 = D at h hP
  have h : ((bi (P_X8_isByte (gN MG) F a1 a2 D) (fun r5 D5 => if r5 = 0 then (some ((-1), D5)) else (P_X8_stamp_13 (gN MG) F F a1 a2 a3 0 D5))) : Rs) = some (r0, D') := h
  refine lv_iload_n hx hb dX8_stamp_0 rfl (lv_at hl 1 rfl) ?_
  refine lv_iload_n hx hb dX8_stamp_1 rfl (lv_at hl 2 rfl) ?_
  obtain ⟨r5, D5, hc5, h⟩ := bi_some h
  refine x_callSi (As := [.int a1, .int a2]) ⟨hx, hb, hml, hown, ht0⟩ hK hT hP hS (c_X8_isByte l dd Y t ad ij F a1 a2 _ _ _ hc5) m_ML_X8_230 ss_X8_isByte hd_X8_isByte rfl rfl ⟨Nat.le_of_ble_eq_true rfl, Nat.le_of_ble_eq_true rfl⟩ rfl hl.1 rfl (Nat.le_of_ble_eq_true rfl) dX8_stamp_2 ⟨Nat.zero_le _, Nat.zero_le _⟩ (fun H locs hn_r5 hP hS => ?_)
  refine lv_if_ne (tgt := 10) hx hb dX8_stamp_5 (by decide) (fun c6 => ?_) (fun c6 => ?_)
  · have h := x_f (show ¬ (r5 = 0) from c6) h
    refine lv_iconst (v := 0) hx hb dX8_stamp_10 (by decide) ?_
    refine lv_istore (lv' := [(4, .int 0), (0, .ref (ad 0)), (1, .int a1), (2, .int a2), (3, .int a3)]) hx hb dX8_stamp_11 hl (by decide) rfl (fun ls hl => ?_)
    exact L13 F a1 a2 a3 0 D5 _ _ _ h hP hS (lv_sub hl [1, 2, 3, 4, 0] rfl)
  · have h := x_t (show r5 = 0 from c6) h
    refine lv_iconst (v := (-1)) hx hb dX8_stamp_8 (by decide) ?_
    exact x_iret hx hb hr hlocks rfl hP hS h dX8_stamp_9
abbrev rm_X8_turn : Room := { frames := 3, cells := 0, slots := 0, locals := 62 }
set_option maxHeartbeats 4000000 in
set_option maxRecDepth 100000 in
theorem c_X8_turn (l : Launch) (dd : Dd) (Y : Yc) (t : Ts3) (ad : Nat → Nat) (ij : Ij MG ad) (F : Nat) (a1 a2 : Int32) (D0 D' : Mm) (r0 : Int32) (h : P_X8_turn (gN MG) F a1 a2 D0 = some (r0, D')) : Met l yX8_turn wzX8_turn rm_X8_turn (va_Pc [.ref (ad 0), .int a1, .int a2] (Wd dd Y t MG ad D0)) (Qi dd Y MG ad .int r0 D') 0 0 (pA MG ad) := by
  refine Met.ofW (cc := cX8_turn) (maxL := 7) (ret := (some .int)) (by decide) rfl ?_
  intro p e s m args below meth c s₁ B hml hv
  obtain ⟨rfl, hP, hK, hT⟩ := hv
  have hx := B.exec
  have hb := B.bytes
  have hr := B.returns
  have ht0 : ∀ w ∈ W0, w.before _ s = true := fun w h => atoms_spec (ws := wzX8_turn) B.pre w (List.mem_cons_of_mem _ h)
  have hown : s.vm.findClass RX8 = some m.cls := findClass_of_methodNamed B.named
  have hlocks := B.notSynchronized
  have hS : va_S (pA MG ad) s.heap s.heap [] := va_S.rf
  have L107 : ∀ (k78 : Int32 → Int32 → Int32 → Int32 → Mm → Rs) (hk78 : ∀ (x3 x4 x5 x6 : Int32) (D : Mm) (H : Heap) (locs : List Loc) (ls : Array Slot), k78 x3 x4 x5 x6 D = some (r0, D') → va_P dd vwCl (wW Y MG ad D) H → va_S (pA MG ad) s.heap H locs → lv_has ls 7 [(0, .ref (ad 0)), (3, .int x3), (4, .int x4), (5, .int x5), (6, .int x6)] → W p l e (headSpec wzX8_turn rm_X8_turn).room s m ([.ref (ad 0), .int a1, .int a2].toArray) below meth c H locs 0 0 (MQ below (Qi dd Y MG ad .int r0 D') ([.ref (ad 0), .int a1, .int a2].toArray) s 0 0 (pA MG ad)) (F0 m 78 ls [])), ∀ (x3 x4 x5 x6 : Int32) (D : Mm) (H : Heap) (locs : List Loc) (ls : Array Slot), P_X8_turn_107 (gN MG) F k78 x3 x4 x5 x6 D = some (r0, D') → va_P dd vwCl (wW Y MG ad D) H → va_S (pA MG ad) s.heap H locs → lv_has ls 7 [(0, .ref (ad 0)), (3, .int x3), (4, .int x4), (5, .int x5), (6, .int x6)] → W p l e (headSpec wzX8_turn rm_X8_turn).room s m ([.ref (ad 0), .int a1, .int a2].toArray) below meth c H locs 0 0 (MQ below (Qi dd Y MG ad .int r0 D') ([.ref (ad 0), .int a1, .int a2].toArray) s 0 0 (pA MG ad)) (F0 m 107 ls []) := by
    intro k78 hk78 x3 x4 x5 x6 D H locs ls h hP hS hl
    have h : ((k78 x3 x4 x5 (x6 + 1) D) : Rs) = some (r0, D') := h
    refine lv_iinc (v := x6 + 1) (lv' := [(6, .int (x6 + 1)), (0, .ref (ad 0)), (3, .int x3), (4, .int x4), (5, .int x5)]) hx hb dX8_turn_107 hl (k := 4) rfl rfl (by decide) rfl (fun ls hl => ?_)
    refine lv_goto (tgt := 78) hx hb dX8_turn_110 (by decide) ?_
    exact hk78 x3 x4 x5 (x6 + 1) D _ _ _ h hP hS (lv_sub hl [1, 2, 3, 4, 0] rfl)
  have L78 : ∀ (n : Nat), ∀ (x3 x4 x5 x6 : Int32) (D : Mm) (H : Heap) (locs : List Loc) (ls : Array Slot), P_X8_turn_78 (gN MG) F n x3 x4 x5 x6 D = some (r0, D') → va_P dd vwCl (wW Y MG ad D) H → va_S (pA MG ad) s.heap H locs → lv_has ls 7 [(0, .ref (ad 0)), (3, .int x3), (4, .int x4), (5, .int x5), (6, .int x6)] → W p l e (headSpec wzX8_turn rm_X8_turn).room s m ([.ref (ad 0), .int a1, .int a2].toArray) below meth c H locs 0 0 (MQ below (Qi dd Y MG ad .int r0 D') ([.ref (ad 0), .int a1, .int a2].toArray) s 0 0 (pA MG ad)) (F0 m 78 ls []) := by
    intro n
    induction n with
    | zero =>
      intro x3 x4 x5 x6 D H locs ls h hP hS hl
      cases h
    | succ n ih =>
      intro x3 x4 x5 x6 D H locs ls h hP hS hl
      have h : ((if x4 ≤ x6 then (some (1, D)) else (if x4 = 0 then none else (if inB x6 ((gN MG) 2) = true then (if inB (x3 + (jrem (x6 + x5) x4)) ((gN MG) 1) = true then (P_X8_turn_107 (gN MG) F (fun x3 x4 x5 x6 D => P_X8_turn_78 (gN MG) F n x3 x4 x5 x6 D) x3 x4 x5 x6 (up2 D 1 (Int32.toNatClampNeg (x3 + (jrem (x6 + x5) x4))) (vp_nar .boolean (D 2 (Int32.toNatClampNeg x6))))) else none) else none))) : Rs) = some (r0, D') := h
      refine lv_iload hx hb dX8_turn_78 (lv_at hl 4 rfl) ?_
      refine lv_iload hx hb dX8_turn_80 (lv_at hl 2 rfl) ?_
      refine lv_icmp_ge (tgt := 113) hx hb dX8_turn_82 (by decide) (fun c1 => ?_) (fun c1 => ?_)
      · have h := x_t (show x4 ≤ x6 from c1) h
        refine lv_iconst (v := 1) hx hb dX8_turn_113 (by decide) ?_
        exact x_iret hx hb hr hlocks rfl hP hS h dX8_turn_114
      · have h := x_f (show ¬ (x4 ≤ x6) from c1) h
        refine lv_aload_n hx hb dX8_turn_85 rfl (lv_at hl 0 rfl) ?_
        refine x_get hx hb ht0 u_X8 hown hK hP (mk_0).1 (ce8 (mk_0).2) rfl 0 (by decide) (ht0 _ m_FL_X8_8) rfl (rfv (G := MG) (c := 0) (k := 0) (c' := 1) rfl) dX8_turn_86 ?_
        refine lv_iload_n hx hb dX8_turn_89 rfl (lv_at hl 1 rfl) ?_
        refine lv_iload hx hb dX8_turn_90 (lv_at hl 4 rfl) ?_
        refine lv_iload hx hb dX8_turn_92 (lv_at hl 3 rfl) ?_
        refine lv_iadd hx hb dX8_turn_94 ?_
        refine lv_iload hx hb dX8_turn_95 (lv_at hl 2 rfl) ?_
        obtain ⟨z2, h⟩ := x_ifn h
        refine lv_irem hx hb dX8_turn_97 z2 ?_
        refine lv_iadd hx hb dX8_turn_98 ?_
        refine lv_aload_n hx hb dX8_turn_99 rfl (lv_at hl 0 rfl) ?_
        refine x_get hx hb ht0 u_X8 hown hK hP (mk_0).1 (ce8 (mk_0).2) rfl 1 (by decide) (ht0 _ m_FL_X8_14) rfl (rfv (G := MG) (c := 0) (k := 1) (c' := 2) rfl) dX8_turn_100 ?_
        refine lv_iload hx hb dX8_turn_103 (lv_at hl 4 rfl) ?_
        obtain ⟨b3, h⟩ := x_if h
        refine x_zld hx hb hK hP mk_2 b3 dX8_turn_105 ?_
        obtain ⟨b4, h⟩ := x_if h
        refine x_zst hx hb hK ij hP hS mk_1 b4 dX8_turn_106 (fun H locs hP hS => ?_)
        exact L107 (fun x3 x4 x5 x6 D => P_X8_turn_78 (gN MG) F n x3 x4 x5 x6 D) ih x3 x4 x5 x6 (up2 D 1 (Int32.toNatClampNeg (x3 + (jrem (x6 + x5) x4))) (vp_nar .boolean (D 2 (Int32.toNatClampNeg x6)))) _ _ _ h hP hS (lv_sub hl [0, 1, 2, 3, 4] rfl)
  have L69 : ∀ (k46 : Int32 → Int32 → Int32 → Int32 → Mm → Rs) (hk46 : ∀ (x3 x4 x5 x6 : Int32) (D : Mm) (H : Heap) (locs : List Loc) (ls : Array Slot), k46 x3 x4 x5 x6 D = some (r0, D') → va_P dd vwCl (wW Y MG ad D) H → va_S (pA MG ad) s.heap H locs → lv_has ls 7 [(0, .ref (ad 0)), (3, .int x3), (4, .int x4), (5, .int x5), (6, .int x6)] → W p l e (headSpec wzX8_turn rm_X8_turn).room s m ([.ref (ad 0), .int a1, .int a2].toArray) below meth c H locs 0 0 (MQ below (Qi dd Y MG ad .int r0 D') ([.ref (ad 0), .int a1, .int a2].toArray) s 0 0 (pA MG ad)) (F0 m 46 ls [])), ∀ (x3 x4 x5 x6 : Int32) (D : Mm) (H : Heap) (locs : List Loc) (ls : Array Slot), P_X8_turn_69 (gN MG) F k46 x3 x4 x5 x6 D = some (r0, D') → va_P dd vwCl (wW Y MG ad D) H → va_S (pA MG ad) s.heap H locs → lv_has ls 7 [(0, .ref (ad 0)), (3, .int x3), (4, .int x4), (5, .int x5), (6, .int x6)] → W p l e (headSpec wzX8_turn rm_X8_turn).room s m ([.ref (ad 0), .int a1, .int a2].toArray) below meth c H locs 0 0 (MQ below (Qi dd Y MG ad .int r0 D') ([.ref (ad 0), .int a1, .int a2].toArray) s 0 0 (pA MG ad)) (F0 m 69 ls []) := by
    intro k46 hk46 x3 x4 x5 x6 D H locs ls h hP hS hl
    have h : ((k46 x3 x4 x5 (x6 + 1) D) : Rs) = some (r0, D') := h
    refine lv_iinc (v := x6 + 1) (lv' := [(6, .int (x6 + 1)), (0, .ref (ad 0)), (3, .int x3), (4, .int x4), (5, .int x5)]) hx hb dX8_turn_69 hl (k := 4) rfl rfl (by decide) rfl (fun ls hl => ?_)
    refine lv_goto (tgt := 46) hx hb dX8_turn_72 (by decide) ?_
    exact hk46 x3 x4 x5 (x6 + 1) D _ _ _ h hP hS (lv_sub hl [1, 2, 3, 4, 0] rfl)
  have L46 : ∀ (n : Nat), ∀ (x3 x4 x5 x6 : Int32) (D : Mm) (H : Heap) (locs : List Loc) (ls : Array Slot), P_X8_turn_46 (gN MG) F n x3 x4 x5 x6 D = some (r0, D') → va_P dd vwCl (wW Y MG ad D) H → va_S (pA MG ad) s.heap H locs → lv_has ls 7 [(0, .ref (ad 0)), (3, .int x3), (4, .int x4), (5, .int x5), (6, .int x6)] → W p l e (headSpec wzX8_turn rm_X8_turn).room s m ([.ref (ad 0), .int a1, .int a2].toArray) below meth c H locs 0 0 (MQ below (Qi dd Y MG ad .int r0 D') ([.ref (ad 0), .int a1, .int a2].toArray) s 0 0 (pA MG ad)) (F0 m 46 ls []) := by
    intro n
    induction n with
    | zero =>
      intro x3 x4 x5 x6 D H locs ls h hP hS hl
      cases h
    | succ n ih =>
      intro x3 x4 x5 x6 D H locs ls h hP hS hl
      have h : ((if x4 ≤ x6 then (P_X8_turn_78 (gN MG) F F x3 x4 x5 0 D) else (if inB (x3 + x6) ((gN MG) 1) = true then (if inB x6 ((gN MG) 2) = true then (P_X8_turn_69 (gN MG) F (fun x3 x4 x5 x6 D => P_X8_turn_46 (gN MG) F n x3 x4 x5 x6 D) x3 x4 x5 x6 (up2 D 2 (Int32.toNatClampNeg x6) (vp_nar .boolean (D 1 (Int32.toNatClampNeg (x3 + x6)))))) else none) else none)) : Rs) = some (r0, D') := h
      refine lv_iload hx hb dX8_turn_46 (lv_at hl 4 rfl) ?_
      refine lv_iload hx hb dX8_turn_48 (lv_at hl 2 rfl) ?_
      refine lv_icmp_ge (tgt := 75) hx hb dX8_turn_50 (by decide) (fun c5 => ?_) (fun c5 => ?_)
      · have h := x_t (show x4 ≤ x6 from c5) h
        refine lv_iconst (v := 0) hx hb dX8_turn_75 (by decide) ?_
        refine lv_istore (lv' := [(6, .int 0), (0, .ref (ad 0)), (3, .int x3), (4, .int x4), (5, .int x5)]) hx hb dX8_turn_76 hl (by decide) rfl (fun ls hl => ?_)
        exact L78 F x3 x4 x5 0 D _ _ _ h hP hS (lv_sub hl [1, 2, 3, 4, 0] rfl)
      · have h := x_f (show ¬ (x4 ≤ x6) from c5) h
        refine lv_aload_n hx hb dX8_turn_53 rfl (lv_at hl 0 rfl) ?_
        refine x_get hx hb ht0 u_X8 hown hK hP (mk_0).1 (ce8 (mk_0).2) rfl 1 (by decide) (ht0 _ m_FL_X8_14) rfl (rfv (G := MG) (c := 0) (k := 1) (c' := 2) rfl) dX8_turn_54 ?_
        refine lv_iload hx hb dX8_turn_57 (lv_at hl 4 rfl) ?_
        refine lv_aload_n hx hb dX8_turn_59 rfl (lv_at hl 0 rfl) ?_
        refine x_get hx hb ht0 u_X8 hown hK hP (mk_0).1 (ce8 (mk_0).2) rfl 0 (by decide) (ht0 _ m_FL_X8_8) rfl (rfv (G := MG) (c := 0) (k := 0) (c' := 1) rfl) dX8_turn_60 ?_
        refine lv_iload_n hx hb dX8_turn_63 rfl (lv_at hl 1 rfl) ?_
        refine lv_iload hx hb dX8_turn_64 (lv_at hl 4 rfl) ?_
        refine lv_iadd hx hb dX8_turn_66 ?_
        obtain ⟨b6, h⟩ := x_if h
        refine x_zld hx hb hK hP mk_1 b6 dX8_turn_67 ?_
        obtain ⟨b7, h⟩ := x_if h
        refine x_zst hx hb hK ij hP hS mk_2 b7 dX8_turn_68 (fun H locs hP hS => ?_)
        exact L69 (fun x3 x4 x5 x6 D => P_X8_turn_46 (gN MG) F n x3 x4 x5 x6 D) ih x3 x4 x5 x6 (up2 D 2 (Int32.toNatClampNeg x6) (vp_nar .boolean (D 1 (Int32.toNatClampNeg (x3 + x6))))) _ _ _ h hP hS (lv_sub hl [0, 1, 2, 3, 4] rfl)
  have hl := lv_entry ([.ref (ad 0), .int a1, .int a2]) (n := 7) (Nat.le_of_ble_eq_true rfl)
  rw [lg_entry_eq]
  generalize (lg_sl ([.ref (ad 0), .int a1, .int a2]) ++ List.replicate (7 - (lg_sl ([.ref (ad 0), .int a1, .int a2])).length) Slot.unset).toArray = ls at hl ⊢
  have hl : lv_has ls 7 [(0, .ref (ad 0)), (1, .int a1), (2, .int a2)] := hl
  have hP : va_P dd vwCl (wW Y MG ad D0) s.heap := hP
  generalize D0 = D at h hP
  have h : ((bi (P_X8_isTrack (gN MG) F a1 D) (fun r8 D8 => if r8 = 0 then (some ((-1), D8)) else (bi (P_X8_startOf (gN MG) F a1 D8) (fun r10 D10 => bi (P_X8_lengthOf (gN MG) F a1 D10) (fun r11 D11 => if r11 = 0 then none else (if 0 ≤ (jrem a2 r11) then (P_X8_turn_46 (gN MG) F F r10 r11 (jrem a2 r11) 0 D11) else (P_X8_turn_46 (gN MG) F F r10 r11 ((jrem a2 r11) + r11) 0 D11))))))) : Rs) = some (r0, D') := h
  refine lv_iload_n hx hb dX8_turn_0 rfl (lv_at hl 1 rfl) ?_
  obtain ⟨r8, D8, hc8, h⟩ := bi_some h
  refine x_callSi (As := [.int a1]) ⟨hx, hb, hml, hown, ht0⟩ hK hT hP hS (c_X8_isTrack l dd Y t ad ij F a1 _ _ _ hc8) m_ML_X8_73 ss_X8_isTrack hd_X8_isTrack rfl rfl ⟨Nat.le_of_ble_eq_true rfl, Nat.le_of_ble_eq_true rfl⟩ rfl hl.1 rfl (Nat.le_of_ble_eq_true rfl) dX8_turn_1 ⟨Nat.zero_le _, Nat.zero_le _⟩ (fun H locs hn_r8 hP hS => ?_)
  refine lv_if_ne (tgt := 9) hx hb dX8_turn_4 (by decide) (fun c9 => ?_) (fun c9 => ?_)
  · have h := x_f (show ¬ (r8 = 0) from c9) h
    refine lv_iload_n hx hb dX8_turn_9 rfl (lv_at hl 1 rfl) ?_
    obtain ⟨r10, D10, hc10, h⟩ := bi_some h
    refine x_callSi (As := [.int a1]) ⟨hx, hb, hml, hown, ht0⟩ hK hT hP hS (c_X8_startOf l dd Y t ad ij F a1 _ _ _ hc10) m_ML_X8_80 ss_X8_startOf hd_X8_startOf rfl rfl ⟨Nat.le_of_ble_eq_true rfl, Nat.le_of_ble_eq_true rfl⟩ rfl hl.1 rfl (Nat.le_of_ble_eq_true rfl) dX8_turn_10 ⟨Nat.zero_le _, Nat.zero_le _⟩ (fun H locs hn_r10 hP hS => ?_)
    refine lv_istore_n (lv' := [(3, .int r10), (0, .ref (ad 0)), (1, .int a1), (2, .int a2)]) hx hb dX8_turn_13 rfl hl (by decide) rfl (fun ls hl => ?_)
    refine lv_iload_n hx hb dX8_turn_14 rfl (lv_at hl 2 rfl) ?_
    obtain ⟨r11, D11, hc11, h⟩ := bi_some h
    refine x_callSi (As := [.int a1]) ⟨hx, hb, hml, hown, ht0⟩ hK hT hP hS (c_X8_lengthOf l dd Y t ad ij F a1 _ _ _ hc11) m_ML_X8_66 ss_X8_lengthOf hd_X8_lengthOf rfl rfl ⟨Nat.le_of_ble_eq_true rfl, Nat.le_of_ble_eq_true rfl⟩ rfl hl.1 rfl (Nat.le_of_ble_eq_true rfl) dX8_turn_15 ⟨Nat.zero_le _, Nat.zero_le _⟩ (fun H locs hn_r11 hP hS => ?_)
    refine lv_istore (lv' := [(4, .int r11), (3, .int r10), (0, .ref (ad 0)), (1, .int a1), (2, .int a2)]) hx hb dX8_turn_18 hl (by decide) rfl (fun ls hl => ?_)
    refine lv_iload_n hx hb dX8_turn_20 rfl (lv_at hl 4 rfl) ?_
    refine lv_iload hx hb dX8_turn_21 (lv_at hl 0 rfl) ?_
    obtain ⟨z12, h⟩ := x_ifn h
    refine lv_irem hx hb dX8_turn_23 z12 ?_
    refine lv_istore (lv' := [(5, .int (jrem a2 r11)), (4, .int r11), (3, .int r10), (0, .ref (ad 0)), (1, .int a1), (2, .int a2)]) hx hb dX8_turn_24 hl (by decide) rfl (fun ls hl => ?_)
    refine lv_iload hx hb dX8_turn_26 (lv_at hl 0 rfl) ?_
    refine lv_if_ge (tgt := 39) hx hb dX8_turn_28 (by decide) (fun c13 => ?_) (fun c13 => ?_)
    · have h := x_t (show 0 ≤ (jrem a2 r11) from c13) h
      refine lv_iload hx hb dX8_turn_39 (lv_at hl 0 rfl) ?_
      refine lv_istore (lv' := [(5, .int (jrem a2 r11)), (4, .int r11), (3, .int r10), (0, .ref (ad 0)), (1, .int a1), (2, .int a2)]) hx hb dX8_turn_41 hl (by decide) rfl (fun ls hl => ?_)
      refine lv_iconst (v := 0) hx hb dX8_turn_43 (by decide) ?_
      refine lv_istore (lv' := [(6, .int 0), (5, .int (jrem a2 r11)), (4, .int r11), (3, .int r10), (0, .ref (ad 0)), (1, .int a1), (2, .int a2)]) hx hb dX8_turn_44 hl (by decide) rfl (fun ls hl => ?_)
      exact L46 F r10 r11 (jrem a2 r11) 0 D11 _ _ _ h hP hS (lv_sub hl [4, 3, 2, 1, 0] rfl)
    · have h := x_f (show ¬ (0 ≤ (jrem a2 r11)) from c13) h
      refine lv_iload hx hb dX8_turn_31 (lv_at hl 0 rfl) ?_
      refine lv_iload hx hb dX8_turn_33 (lv_at hl 1 rfl) ?_
      refine lv_iadd hx hb dX8_turn_35 ?_
      refine lv_goto (tgt := 41) hx hb dX8_turn_36 (by decide) ?_
      refine lv_istore (lv' := [(5, .int ((jrem a2 r11) + r11)), (4, .int r11), (3, .int r10), (0, .ref (ad 0)), (1, .int a1), (2, .int a2)]) hx hb dX8_turn_41 hl (by decide) rfl (fun ls hl => ?_)
      refine lv_iconst (v := 0) hx hb dX8_turn_43 (by decide) ?_
      refine lv_istore (lv' := [(6, .int 0), (5, .int ((jrem a2 r11) + r11)), (4, .int r11), (3, .int r10), (0, .ref (ad 0)), (1, .int a1), (2, .int a2)]) hx hb dX8_turn_44 hl (by decide) rfl (fun ls hl => ?_)
      exact L46 F r10 r11 ((jrem a2 r11) + r11) 0 D11 _ _ _ h hP hS (lv_sub hl [4, 3, 2, 1, 0] rfl)
  · have h := x_t (show r8 = 0 from c9) h
    refine lv_iconst (v := (-1)) hx hb dX8_turn_7 (by decide) ?_
    exact x_iret hx hb hr hlocks rfl hP hS h dX8_turn_8
abbrev rm_X8_syncs : Room := { frames := 4, cells := 0, slots := 0, locals := 87 }
set_option maxHeartbeats 4000000 in
set_option maxRecDepth 100000 in
theorem c_X8_syncs (l : Launch) (dd : Dd) (Y : Yc) (t : Ts3) (ad : Nat → Nat) (ij : Ij MG ad) (F : Nat) (a1 : Int32) (D0 D' : Mm) (r0 : Int32) (h : P_X8_syncs (gN MG) F a1 D0 = some (r0, D')) : Met l yX8_syncs wzX8_syncs rm_X8_syncs (va_Pc [.ref (ad 0), .int a1] (Wd dd Y t MG ad D0)) (Qi dd Y MG ad .int r0 D') 0 0 (pA MG ad) := by
  refine Met.ofW (cc := cX8_syncs) (maxL := 2) (ret := (some .int)) (by decide) rfl ?_
  intro p e s m args below meth c s₁ B hml hv
  obtain ⟨rfl, hP, hK, hT⟩ := hv
  have hx := B.exec
  have hb := B.bytes
  have hr := B.returns
  have ht0 : ∀ w ∈ W0, w.before _ s = true := fun w h => atoms_spec (ws := wzX8_syncs) B.pre w (List.mem_cons_of_mem _ h)
  have hown : s.vm.findClass RX8 = some m.cls := findClass_of_methodNamed B.named
  have hlocks := B.notSynchronized
  have hS : va_S (pA MG ad) s.heap s.heap [] := va_S.rf
  have hl := lv_entry ([.ref (ad 0), .int a1]) (n := 2) (Nat.le_of_ble_eq_true rfl)
  rw [lg_entry_eq]
  generalize (lg_sl ([.ref (ad 0), .int a1]) ++ List.replicate (2 - (lg_sl ([.ref (ad 0), .int a1])).length) Slot.unset).toArray = ls at hl ⊢
  have hl : lv_has ls 2 [(0, .ref (ad 0)), (1, .int a1)] := hl
  have hP : va_P dd vwCl (wW Y MG ad D0) s.heap := hP
  generalize D0 = D at h hP
  have h : ((bi (P_X8_isTrack (gN MG) F a1 D) (fun r1 D1 => if r1 = 0 then (some ((-1), D1)) else (bi (P_X8_findSyncs (gN MG) F a1 D1) (fun r3 D3 => some (D3 0 16, D3))))) : Rs) = some (r0, D') := h
  refine lv_iload_n hx hb dX8_syncs_0 rfl (lv_at hl 1 rfl) ?_
  obtain ⟨r1, D1, hc1, h⟩ := bi_some h
  refine x_callSi (As := [.int a1]) ⟨hx, hb, hml, hown, ht0⟩ hK hT hP hS (c_X8_isTrack l dd Y t ad ij F a1 _ _ _ hc1) m_ML_X8_73 ss_X8_isTrack hd_X8_isTrack rfl rfl ⟨Nat.le_of_ble_eq_true rfl, Nat.le_of_ble_eq_true rfl⟩ rfl hl.1 rfl (Nat.le_of_ble_eq_true rfl) dX8_syncs_1 ⟨Nat.zero_le _, Nat.zero_le _⟩ (fun H locs hn_r1 hP hS => ?_)
  refine lv_if_ne (tgt := 9) hx hb dX8_syncs_4 (by decide) (fun c2 => ?_) (fun c2 => ?_)
  · have h := x_f (show ¬ (r1 = 0) from c2) h
    refine lv_aload_n hx hb dX8_syncs_9 rfl (lv_at hl 0 rfl) ?_
    refine lv_iload_n hx hb dX8_syncs_10 rfl (lv_at hl 1 rfl) ?_
    obtain ⟨r3, D3, hc3, h⟩ := bi_some h
    refine x_callVv (As := [.int a1]) ⟨hx, hb, hml, hown, ht0⟩ hK hT hP hS (c_X8_findSyncs l dd Y t ad ij F a1 _ _ _ hc3) m_ML_X8_107 sv_X8_findSyncs hd_X8_findSyncs rfl rfl ⟨Nat.le_of_ble_eq_true rfl, Nat.le_of_ble_eq_true rfl⟩ (mk_0).1 (ce8 (mk_0).2) rfl rfl hl.1 rfl (Nat.le_of_ble_eq_true rfl) dX8_syncs_11 ⟨Nat.zero_le _, Nat.zero_le _⟩ (fun H locs hP hS => ?_)
    refine lv_aload_n hx hb dX8_syncs_14 rfl (lv_at hl 0 rfl) ?_
    refine x_get hx hb ht0 u_X8 hown hK hP (mk_0).1 (ce8 (mk_0).2) rfl 16 (by decide) (ht0 _ m_FL_X8_83) rfl rfl dX8_syncs_15 ?_
    exact x_iret hx hb hr hlocks rfl hP hS h dX8_syncs_18
  · have h := x_t (show r1 = 0 from c2) h
    refine lv_iconst (v := (-1)) hx hb dX8_syncs_7 (by decide) ?_
    exact x_iret hx hb hr hlocks rfl hP hS h dX8_syncs_8
