abbrev rm_X8_putData : Room := { frames := 5, cells := 0, slots := 0, locals := 108 }
set_option maxHeartbeats 4000000 in
set_option maxRecDepth 100000 in
theorem c_X8_putData (l : Launch) (dd : Dd) (Y : Yc) (t : Ts3) (ad : Nat → Nat) (ij : Ij MG ad) (F : Nat) (D0 D' : Mm) (r0 : Int32) (h : P_X8_putData (gN MG) F D0 = some (r0, D')) : Met l yX8_putData wzX8_putData rm_X8_putData (va_Pc [.ref (ad 0)] (Wd dd Y t MG ad D0)) (Qv dd Y MG ad D') 0 0 (pA MG ad) := by
  refine Met.ofW (cc := cX8_putData) (maxL := 3) (ret := none) (by decide) rfl ?_
  intro p e s m args below meth c s₁ B hml hv
  obtain ⟨rfl, hP, hK, hT⟩ := hv
  have hx := B.exec
  have hb := B.bytes
  have hr := B.returns
  have ht0 : ∀ w ∈ W0, w.before _ s = true := fun w h => atoms_spec (ws := wzX8_putData) B.pre w (List.mem_cons_of_mem _ h)
  have hown : s.vm.findClass RX8 = some m.cls := findClass_of_methodNamed B.named
  have hlocks := B.notSynchronized
  have hS : va_S (pA MG ad) s.heap s.heap [] := va_S.rf
  have L39 : ∀ (k14 : Int32 → Int32 → Mm → Rs) (hk14 : ∀ (x1 x2 : Int32) (D : Mm) (H : Heap) (locs : List Loc) (ls : Array Slot), k14 x1 x2 D = some (r0, D') → va_P dd vwCl (wW Y MG ad D) H → va_S (pA MG ad) s.heap H locs → lv_has ls 3 [(0, .ref (ad 0)), (1, .int x1), (2, .int x2)] → W p l e (headSpec wzX8_putData rm_X8_putData).room s m ([.ref (ad 0)].toArray) below meth c H locs 0 0 (MQ below (Qv dd Y MG ad D') ([.ref (ad 0)].toArray) s 0 0 (pA MG ad)) (F0 m 14 ls [])), ∀ (x1 x2 : Int32) (D : Mm) (H : Heap) (locs : List Loc) (ls : Array Slot), P_X8_putData_39 (gN MG) F k14 x1 x2 D = some (r0, D') → va_P dd vwCl (wW Y MG ad D) H → va_S (pA MG ad) s.heap H locs → lv_has ls 3 [(0, .ref (ad 0)), (1, .int x1), (2, .int x2)] → W p l e (headSpec wzX8_putData rm_X8_putData).room s m ([.ref (ad 0)].toArray) below meth c H locs 0 0 (MQ below (Qv dd Y MG ad D') ([.ref (ad 0)].toArray) s 0 0 (pA MG ad)) (F0 m 39 ls []) := by
    intro k14 hk14 x1 x2 D H locs ls h hP hS hl
    have h : ((k14 x1 (x2 + 1) D) : Rs) = some (r0, D') := h
    refine lv_iinc (v := x2 + 1) (lv' := [(2, .int (x2 + 1)), (0, .ref (ad 0)), (1, .int x1)]) hx hb dX8_putData_39 hl (k := 2) rfl rfl (by decide) rfl (fun ls hl => ?_)
    refine lv_goto (tgt := 14) hx hb dX8_putData_42 (by decide) ?_
    exact hk14 x1 (x2 + 1) D _ _ _ h hP hS (lv_sub hl [1, 2, 0] rfl)
  have L14 : ∀ (n : Nat), ∀ (x1 x2 : Int32) (D : Mm) (H : Heap) (locs : List Loc) (ls : Array Slot), P_X8_putData_14 (gN MG) F n x1 x2 D = some (r0, D') → va_P dd vwCl (wW Y MG ad D) H → va_S (pA MG ad) s.heap H locs → lv_has ls 3 [(0, .ref (ad 0)), (1, .int x1), (2, .int x2)] → W p l e (headSpec wzX8_putData rm_X8_putData).room s m ([.ref (ad 0)].toArray) below meth c H locs 0 0 (MQ below (Qv dd Y MG ad D') ([.ref (ad 0)].toArray) s 0 0 (pA MG ad)) (F0 m 14 ls []) := by
    intro n
    induction n with
    | zero =>
      intro x1 x2 D H locs ls h hP hS hl
      cases h
    | succ n ih =>
      intro x1 x2 D H locs ls h hP hS hl
      have h : ((if 64 ≤ x2 then (bi (P_X8_putCoded (gN MG) F x1 D) (fun r2 D2 => some (0, D2))) else (if inB x2 ((gN MG) 8) = true then (bi (P_X8_putCoded (gN MG) F (D 8 (Int32.toNatClampNeg x2)) D) (fun r4 D4 => if inB x2 ((gN MG) 8) = true then (P_X8_putData_39 (gN MG) F (fun x1 x2 D => P_X8_putData_14 (gN MG) F n x1 x2 D) (x1 ^^^ (D4 8 (Int32.toNatClampNeg x2))) x2 D4) else none)) else none)) : Rs) = some (r0, D') := h
      refine lv_iload_n hx hb dX8_putData_14 rfl (lv_at hl 2 rfl) ?_
      refine lv_bipush (v := 64) hx hb dX8_putData_15 (by decide) ?_
      refine lv_icmp_ge (tgt := 45) hx hb dX8_putData_17 (by decide) (fun c1 => ?_) (fun c1 => ?_)
      · have h := x_t (show 64 ≤ x2 from c1) h
        refine lv_aload_n hx hb dX8_putData_45 rfl (lv_at hl 0 rfl) ?_
        refine lv_iload_n hx hb dX8_putData_46 rfl (lv_at hl 1 rfl) ?_
        obtain ⟨r2, D2, hc2, h⟩ := bi_some h
        refine x_callVv (As := [.int x1]) ⟨hx, hb, hml, hown, ht0⟩ hK hT hP hS (c_X8_putCoded l dd Y t ad ij F x1 _ _ _ hc2) m_ML_X8_99 sv_X8_putCoded hd_X8_putCoded rfl rfl ⟨Nat.le_of_ble_eq_true rfl, Nat.le_of_ble_eq_true rfl⟩ (mk_0).1 (ce8 (mk_0).2) rfl rfl hl.1 rfl (Nat.le_of_ble_eq_true rfl) dX8_putData_47 ⟨Nat.zero_le _, Nat.zero_le _⟩ (fun H locs hP hS => ?_)
        exact x_vret hx hb hr hlocks hP hS h dX8_putData_50
      · have h := x_f (show ¬ (64 ≤ x2) from c1) h
        refine lv_aload_n hx hb dX8_putData_20 rfl (lv_at hl 0 rfl) ?_
        refine lv_aload_n hx hb dX8_putData_21 rfl (lv_at hl 0 rfl) ?_
        refine x_get hx hb ht0 u_X8 hown hK hP (mk_0).1 (ce8 (mk_0).2) rfl 18 (by decide) (ht0 _ m_FL_X8_37) rfl (rfv (G := MG) (c := 0) (k := 18) (c' := 8) rfl) dX8_putData_22 ?_
        refine lv_iload_n hx hb dX8_putData_25 rfl (lv_at hl 2 rfl) ?_
        obtain ⟨b3, h⟩ := x_if h
        refine x_ald hx hb hK hP mk_8 b3 dX8_putData_26 ?_
        obtain ⟨r4, D4, hc4, h⟩ := bi_some h
        refine x_callVv (As := [.int (D 8 (Int32.toNatClampNeg x2))]) ⟨hx, hb, hml, hown, ht0⟩ hK hT hP hS (c_X8_putCoded l dd Y t ad ij F (D 8 (Int32.toNatClampNeg x2)) _ _ _ hc4) m_ML_X8_99 sv_X8_putCoded hd_X8_putCoded rfl rfl ⟨Nat.le_of_ble_eq_true rfl, Nat.le_of_ble_eq_true rfl⟩ (mk_0).1 (ce8 (mk_0).2) rfl rfl hl.1 rfl (Nat.le_of_ble_eq_true rfl) dX8_putData_27 ⟨Nat.zero_le _, Nat.zero_le _⟩ (fun H locs hP hS => ?_)
        refine lv_iload_n hx hb dX8_putData_30 rfl (lv_at hl 1 rfl) ?_
        refine lv_aload_n hx hb dX8_putData_31 rfl (lv_at hl 0 rfl) ?_
        refine x_get hx hb ht0 u_X8 hown hK hP (mk_0).1 (ce8 (mk_0).2) rfl 18 (by decide) (ht0 _ m_FL_X8_37) rfl (rfv (G := MG) (c := 0) (k := 18) (c' := 8) rfl) dX8_putData_32 ?_
        refine lv_iload_n hx hb dX8_putData_35 rfl (lv_at hl 2 rfl) ?_
        obtain ⟨b5, h⟩ := x_if h
        refine x_ald hx hb hK hP mk_8 b5 dX8_putData_36 ?_
        refine lv_ixor hx hb dX8_putData_37 ?_
        refine lv_istore_n (lv' := [(1, .int (x1 ^^^ (D4 8 (Int32.toNatClampNeg x2)))), (0, .ref (ad 0)), (2, .int x2)]) hx hb dX8_putData_38 rfl hl (by decide) rfl (fun ls hl => ?_)
        exact L39 (fun x1 x2 D => P_X8_putData_14 (gN MG) F n x1 x2 D) ih (x1 ^^^ (D4 8 (Int32.toNatClampNeg x2))) x2 D4 _ _ _ h hP hS (lv_sub hl [1, 0, 2] rfl)
  have hl := lv_entry ([.ref (ad 0)]) (n := 3) (Nat.le_of_ble_eq_true rfl)
  rw [lg_entry_eq]
  generalize (lg_sl ([.ref (ad 0)]) ++ List.replicate (3 - (lg_sl ([.ref (ad 0)])).length) Slot.unset).toArray = ls at hl ⊢
  have hl : lv_has ls 3 [(0, .ref (ad 0))] := hl
  have hP : va_P dd vwCl (wW Y MG ad D0) s.heap := hP
  generalize D0 = D at h hP
  have h : ((bi (P_X8_putSync (gN MG) F D) (fun r6 D6 => bi (P_X8_putCoded (gN MG) F 7 D6) (fun r7 D7 => P_X8_putData_14 (gN MG) F F 0 0 D7))) : Rs) = some (r0, D') := h
  refine lv_aload_n hx hb dX8_putData_0 rfl (lv_at hl 0 rfl) ?_
  obtain ⟨r6, D6, hc6, h⟩ := bi_some h
  refine x_callVv (As := []) ⟨hx, hb, hml, hown, ht0⟩ hK hT hP hS (c_X8_putSync l dd Y t ad ij F  _ _ _ hc6) m_ML_X8_96 sv_X8_putSync hd_X8_putSync rfl rfl ⟨Nat.le_of_ble_eq_true rfl, Nat.le_of_ble_eq_true rfl⟩ (mk_0).1 (ce8 (mk_0).2) rfl rfl hl.1 rfl (Nat.le_of_ble_eq_true rfl) dX8_putData_1 ⟨Nat.zero_le _, Nat.zero_le _⟩ (fun H locs hP hS => ?_)
  refine lv_iconst (v := 0) hx hb dX8_putData_4 (by decide) ?_
  refine lv_istore_n (lv' := [(1, .int 0), (0, .ref (ad 0))]) hx hb dX8_putData_5 rfl hl (by decide) rfl (fun ls hl => ?_)
  refine lv_aload_n hx hb dX8_putData_6 rfl (lv_at hl 1 rfl) ?_
  refine lv_bipush (v := 7) hx hb dX8_putData_7 (by decide) ?_
  obtain ⟨r7, D7, hc7, h⟩ := bi_some h
  refine x_callVv (As := [.int 7]) ⟨hx, hb, hml, hown, ht0⟩ hK hT hP hS (c_X8_putCoded l dd Y t ad ij F 7 _ _ _ hc7) m_ML_X8_99 sv_X8_putCoded hd_X8_putCoded rfl rfl ⟨Nat.le_of_ble_eq_true rfl, Nat.le_of_ble_eq_true rfl⟩ (mk_0).1 (ce8 (mk_0).2) rfl rfl hl.1 rfl (Nat.le_of_ble_eq_true rfl) dX8_putData_9 ⟨Nat.zero_le _, Nat.zero_le _⟩ (fun H locs hP hS => ?_)
  refine lv_iconst (v := 0) hx hb dX8_putData_12 (by decide) ?_
  refine lv_istore_n (lv' := [(2, .int 0), (1, .int 0), (0, .ref (ad 0))]) hx hb dX8_putData_13 rfl hl (by decide) rfl (fun ls hl => ?_)
  exact L14 F 0 0 D7 _ _ _ h hP hS (lv_sub hl [2, 1, 0] rfl)
abbrev rm_X8_isHeaderOf : Room := { frames := 4, cells := 0, slots := 0, locals := 89 }
set_option maxHeartbeats 4000000 in
set_option maxRecDepth 100000 in
theorem c_X8_isHeaderOf (l : Launch) (dd : Dd) (Y : Yc) (t : Ts3) (ad : Nat → Nat) (ij : Ij MG ad) (F : Nat) (a1 a2 a3 : Int32) (D0 D' : Mm) (r0 : Int32) (h : P_X8_isHeaderOf (gN MG) F a1 a2 a3 D0 = some (r0, D')) : Met l yX8_isHeaderOf wzX8_isHeaderOf rm_X8_isHeaderOf (va_Pc [.ref (ad 0), .int a1, .int a2, .int a3] (Wd dd Y t MG ad D0)) (Qi dd Y MG ad .boolean r0 D') 0 0 (pA MG ad) := by
  refine Met.ofW (cc := cX8_isHeaderOf) (maxL := 6) (ret := (some .boolean)) (by decide) rfl ?_
  intro p e s m args below meth c s₁ B hml hv
  obtain ⟨rfl, hP, hK, hT⟩ := hv
  have hx := B.exec
  have hb := B.bytes
  have hr := B.returns
  have ht0 : ∀ w ∈ W0, w.before _ s = true := fun w h => atoms_spec (ws := wzX8_isHeaderOf) B.pre w (List.mem_cons_of_mem _ h)
  have hown : s.vm.findClass RX8 = some m.cls := findClass_of_methodNamed B.named
  have hlocks := B.notSynchronized
  have hS : va_S (pA MG ad) s.heap s.heap [] := va_S.rf
  have L61 : ∀ (x1 x2 x3 x4 : Int32) (D : Mm) (H : Heap) (locs : List Loc) (ls : Array Slot), P_X8_isHeaderOf_61 (gN MG) F x1 x2 x3 x4 D = some (r0, D') → va_P dd vwCl (wW Y MG ad D) H → va_S (pA MG ad) s.heap H locs → lv_has ls 6 [(0, .ref (ad 0)), (1, .int x1), (2, .int x2), (3, .int x3), (4, .int x4)] → W p l e (headSpec wzX8_isHeaderOf rm_X8_isHeaderOf).room s m ([.ref (ad 0), .int a1, .int a2, .int a3].toArray) below meth c H locs 0 0 (MQ below (Qi dd Y MG ad .boolean r0 D') ([.ref (ad 0), .int a1, .int a2, .int a3].toArray) s 0 0 (pA MG ad)) (F0 m 61 ls []) := by
    intro x1 x2 x3 x4 D H locs ls h hP hS hl
    have h : ((if x4 = 0 then (some (0, D)) else (bi (P_X8_decoded (gN MG) F x1 (x3 + 20) D) (fun r2 D2 => if r2 = x2 then (bi (P_X8_decoded (gN MG) F x1 (x3 + 30) D2) (fun r4 D4 => if r4 = x1 then (some (1, D4)) else (some (0, D4)))) else (some (0, D2))))) : Rs) = some (r0, D') := h
    refine lv_iload hx hb dX8_isHeaderOf_61 (lv_at hl 4 rfl) ?_
    refine lv_if_eq (tgt := 96) hx hb dX8_isHeaderOf_63 (by decide) (fun c1 => ?_) (fun c1 => ?_)
    · have h := x_t (show x4 = 0 from c1) h
      refine lv_iconst (v := 0) hx hb dX8_isHeaderOf_96 (by decide) ?_
      exact x_iret hx hb hr hlocks rfl hP hS h dX8_isHeaderOf_97
    · have h := x_f (show ¬ (x4 = 0) from c1) h
      refine lv_aload_n hx hb dX8_isHeaderOf_66 rfl (lv_at hl 0 rfl) ?_
      refine lv_iload_n hx hb dX8_isHeaderOf_67 rfl (lv_at hl 1 rfl) ?_
      refine lv_iload_n hx hb dX8_isHeaderOf_68 rfl (lv_at hl 3 rfl) ?_
      refine lv_bipush (v := 20) hx hb dX8_isHeaderOf_69 (by decide) ?_
      refine lv_iadd hx hb dX8_isHeaderOf_71 ?_
      obtain ⟨r2, D2, hc2, h⟩ := bi_some h
      refine x_callVi (As := [.int x1, .int (x3 + 20)]) ⟨hx, hb, hml, hown, ht0⟩ hK hT hP hS (c_X8_decoded l dd Y t ad ij F x1 (x3 + 20) _ _ _ hc2) m_ML_X8_103 sv_X8_decoded hd_X8_decoded rfl rfl ⟨Nat.le_of_ble_eq_true rfl, Nat.le_of_ble_eq_true rfl⟩ (mk_0).1 (ce8 (mk_0).2) rfl rfl hl.1 rfl (Nat.le_of_ble_eq_true rfl) dX8_isHeaderOf_72 ⟨Nat.zero_le _, Nat.zero_le _⟩ (fun H locs hn_r2 hP hS => ?_)
      refine lv_iload_n hx hb dX8_isHeaderOf_75 rfl (lv_at hl 2 rfl) ?_
      refine lv_icmp_ne (tgt := 96) hx hb dX8_isHeaderOf_76 (by decide) (fun c3 => ?_) (fun c3 => ?_)
      · have h := x_f (show ¬ (r2 = x2) from c3) h
        refine lv_iconst (v := 0) hx hb dX8_isHeaderOf_96 (by decide) ?_
        exact x_iret hx hb hr hlocks rfl hP hS h dX8_isHeaderOf_97
      · have h := x_t (show r2 = x2 from c3) h
        refine lv_aload_n hx hb dX8_isHeaderOf_79 rfl (lv_at hl 0 rfl) ?_
        refine lv_iload_n hx hb dX8_isHeaderOf_80 rfl (lv_at hl 1 rfl) ?_
        refine lv_iload_n hx hb dX8_isHeaderOf_81 rfl (lv_at hl 3 rfl) ?_
        refine lv_bipush (v := 30) hx hb dX8_isHeaderOf_82 (by decide) ?_
        refine lv_iadd hx hb dX8_isHeaderOf_84 ?_
        obtain ⟨r4, D4, hc4, h⟩ := bi_some h
        refine x_callVi (As := [.int x1, .int (x3 + 30)]) ⟨hx, hb, hml, hown, ht0⟩ hK hT hP hS (c_X8_decoded l dd Y t ad ij F x1 (x3 + 30) _ _ _ hc4) m_ML_X8_103 sv_X8_decoded hd_X8_decoded rfl rfl ⟨Nat.le_of_ble_eq_true rfl, Nat.le_of_ble_eq_true rfl⟩ (mk_0).1 (ce8 (mk_0).2) rfl rfl hl.1 rfl (Nat.le_of_ble_eq_true rfl) dX8_isHeaderOf_85 ⟨Nat.zero_le _, Nat.zero_le _⟩ (fun H locs hn_r4 hP hS => ?_)
        refine lv_iload_n hx hb dX8_isHeaderOf_88 rfl (lv_at hl 1 rfl) ?_
        refine lv_icmp_ne (tgt := 96) hx hb dX8_isHeaderOf_89 (by decide) (fun c5 => ?_) (fun c5 => ?_)
        · have h := x_f (show ¬ (r4 = x1) from c5) h
          refine lv_iconst (v := 0) hx hb dX8_isHeaderOf_96 (by decide) ?_
          exact x_iret hx hb hr hlocks rfl hP hS h dX8_isHeaderOf_97
        · have h := x_t (show r4 = x1 from c5) h
          refine lv_iconst (v := 1) hx hb dX8_isHeaderOf_92 (by decide) ?_
          refine lv_goto (tgt := 97) hx hb dX8_isHeaderOf_93 (by decide) ?_
          exact x_iret hx hb hr hlocks rfl hP hS h dX8_isHeaderOf_97
  have L21 : ∀ (n : Nat), ∀ (x1 x2 x3 x4 x5 : Int32) (D : Mm) (H : Heap) (locs : List Loc) (ls : Array Slot), P_X8_isHeaderOf_21 (gN MG) F n x1 x2 x3 x4 x5 D = some (r0, D') → va_P dd vwCl (wW Y MG ad D) H → va_S (pA MG ad) s.heap H locs → lv_has ls 6 [(0, .ref (ad 0)), (1, .int x1), (2, .int x2), (3, .int x3), (4, .int x4), (5, .int x5)] → W p l e (headSpec wzX8_isHeaderOf rm_X8_isHeaderOf).room s m ([.ref (ad 0), .int a1, .int a2, .int a3].toArray) below meth c H locs 0 0 (MQ below (Qi dd Y MG ad .boolean r0 D') ([.ref (ad 0), .int a1, .int a2, .int a3].toArray) s 0 0 (pA MG ad)) (F0 m 21 ls []) := by
    intro n
    induction n with
    | zero =>
      intro x1 x2 x3 x4 x5 D H locs ls h hP hS hl
      cases h
    | succ n ih =>
      intro x1 x2 x3 x4 x5 D H locs ls h hP hS hl
      have h : ((if 6 ≤ x5 then (P_X8_isHeaderOf_61 (gN MG) F x1 x2 x3 x4 D) else (if x4 = 0 then (P_X8_isHeaderOf_61 (gN MG) F x1 x2 x3 x4 D) else (bi (P_X8_decoded (gN MG) F x1 (x3 + (10 * x5)) D) (fun r8 D8 => if r8 < 0 then (P_X8_isHeaderOf_21 (gN MG) F n x1 x2 x3 0 (x5 + 1) D8) else (P_X8_isHeaderOf_21 (gN MG) F n x1 x2 x3 1 (x5 + 1) D8))))) : Rs) = some (r0, D') := h
      refine lv_iload hx hb dX8_isHeaderOf_21 (lv_at hl 5 rfl) ?_
      refine lv_bipush (v := 6) hx hb dX8_isHeaderOf_23 (by decide) ?_
      refine lv_icmp_ge (tgt := 61) hx hb dX8_isHeaderOf_25 (by decide) (fun c6 => ?_) (fun c6 => ?_)
      · have h := x_t (show 6 ≤ x5 from c6) h
        exact L61 x1 x2 x3 x4 D _ _ _ h hP hS (lv_sub hl [0, 1, 2, 3, 4] rfl)
      · have h := x_f (show ¬ (6 ≤ x5) from c6) h
        refine lv_iload hx hb dX8_isHeaderOf_28 (lv_at hl 4 rfl) ?_
        refine lv_if_eq (tgt := 61) hx hb dX8_isHeaderOf_30 (by decide) (fun c7 => ?_) (fun c7 => ?_)
        · have h := x_t (show x4 = 0 from c7) h
          exact L61 x1 x2 x3 x4 D _ _ _ h hP hS (lv_sub hl [0, 1, 2, 3, 4] rfl)
        · have h := x_f (show ¬ (x4 = 0) from c7) h
          refine lv_aload_n hx hb dX8_isHeaderOf_33 rfl (lv_at hl 0 rfl) ?_
          refine lv_iload_n hx hb dX8_isHeaderOf_34 rfl (lv_at hl 1 rfl) ?_
          refine lv_iload_n hx hb dX8_isHeaderOf_35 rfl (lv_at hl 3 rfl) ?_
          refine lv_bipush (v := 10) hx hb dX8_isHeaderOf_36 (by decide) ?_
          refine lv_iload hx hb dX8_isHeaderOf_38 (lv_at hl 5 rfl) ?_
          refine lv_imul hx hb dX8_isHeaderOf_40 ?_
          refine lv_iadd hx hb dX8_isHeaderOf_41 ?_
          obtain ⟨r8, D8, hc8, h⟩ := bi_some h
          refine x_callVi (As := [.int x1, .int (x3 + (10 * x5))]) ⟨hx, hb, hml, hown, ht0⟩ hK hT hP hS (c_X8_decoded l dd Y t ad ij F x1 (x3 + (10 * x5)) _ _ _ hc8) m_ML_X8_103 sv_X8_decoded hd_X8_decoded rfl rfl ⟨Nat.le_of_ble_eq_true rfl, Nat.le_of_ble_eq_true rfl⟩ (mk_0).1 (ce8 (mk_0).2) rfl rfl hl.1 rfl (Nat.le_of_ble_eq_true rfl) dX8_isHeaderOf_42 ⟨Nat.zero_le _, Nat.zero_le _⟩ (fun H locs hn_r8 hP hS => ?_)
          refine lv_if_lt (tgt := 52) hx hb dX8_isHeaderOf_45 (by decide) (fun c9 => ?_) (fun c9 => ?_)
          · have h := x_t (show r8 < 0 from c9) h
            refine lv_iconst (v := 0) hx hb dX8_isHeaderOf_52 (by decide) ?_
            refine lv_istore (lv' := [(4, .int 0), (0, .ref (ad 0)), (1, .int x1), (2, .int x2), (3, .int x3), (5, .int x5)]) hx hb dX8_isHeaderOf_53 hl (by decide) rfl (fun ls hl => ?_)
            refine lv_iinc (v := x5 + 1) (lv' := [(5, .int (x5 + 1)), (4, .int 0), (0, .ref (ad 0)), (1, .int x1), (2, .int x2), (3, .int x3)]) hx hb dX8_isHeaderOf_55 hl (k := 5) rfl rfl (by decide) rfl (fun ls hl => ?_)
            refine lv_goto (tgt := 21) hx hb dX8_isHeaderOf_58 (by decide) ?_
            exact ih x1 x2 x3 0 (x5 + 1) D8 _ _ _ h hP hS (lv_sub hl [2, 3, 4, 5, 1, 0] rfl)
          · have h := x_f (show ¬ (r8 < 0) from c9) h
            refine lv_iconst (v := 1) hx hb dX8_isHeaderOf_48 (by decide) ?_
            refine lv_goto (tgt := 53) hx hb dX8_isHeaderOf_49 (by decide) ?_
            refine lv_istore (lv' := [(4, .int 1), (0, .ref (ad 0)), (1, .int x1), (2, .int x2), (3, .int x3), (5, .int x5)]) hx hb dX8_isHeaderOf_53 hl (by decide) rfl (fun ls hl => ?_)
            refine lv_iinc (v := x5 + 1) (lv' := [(5, .int (x5 + 1)), (4, .int 1), (0, .ref (ad 0)), (1, .int x1), (2, .int x2), (3, .int x3)]) hx hb dX8_isHeaderOf_55 hl (k := 5) rfl rfl (by decide) rfl (fun ls hl => ?_)
            refine lv_goto (tgt := 21) hx hb dX8_isHeaderOf_58 (by decide) ?_
            exact ih x1 x2 x3 1 (x5 + 1) D8 _ _ _ h hP hS (lv_sub hl [2, 3, 4, 5, 1, 0] rfl)
  have hl := lv_entry ([.ref (ad 0), .int a1, .int a2, .int a3]) (n := 6) (Nat.le_of_ble_eq_true rfl)
  rw [lg_entry_eq]
  generalize (lg_sl ([.ref (ad 0), .int a1, .int a2, .int a3]) ++ List.replicate (6 - (lg_sl ([.ref (ad 0), .int a1, .int a2, .int a3])).length) Slot.unset).toArray = ls at hl ⊢
  have hl : lv_has ls 6 [(0, .ref (ad 0)), (1, .int a1), (2, .int a2), (3, .int a3)] := hl
  have hP : va_P dd vwCl (wW Y MG ad D0) s.heap := hP
  generalize D0 = D at h hP
  have h : ((bi (P_X8_decoded (gN MG) F a1 a3 D) (fun r10 D10 => if r10 = 8 then (P_X8_isHeaderOf_21 (gN MG) F F a1 a2 a3 1 1 D10) else (P_X8_isHeaderOf_21 (gN MG) F F a1 a2 a3 0 1 D10))) : Rs) = some (r0, D') := h
  refine lv_aload_n hx hb dX8_isHeaderOf_0 rfl (lv_at hl 0 rfl) ?_
  refine lv_iload_n hx hb dX8_isHeaderOf_1 rfl (lv_at hl 1 rfl) ?_
  refine lv_iload_n hx hb dX8_isHeaderOf_2 rfl (lv_at hl 3 rfl) ?_
  obtain ⟨r10, D10, hc10, h⟩ := bi_some h
  refine x_callVi (As := [.int a1, .int a3]) ⟨hx, hb, hml, hown, ht0⟩ hK hT hP hS (c_X8_decoded l dd Y t ad ij F a1 a3 _ _ _ hc10) m_ML_X8_103 sv_X8_decoded hd_X8_decoded rfl rfl ⟨Nat.le_of_ble_eq_true rfl, Nat.le_of_ble_eq_true rfl⟩ (mk_0).1 (ce8 (mk_0).2) rfl rfl hl.1 rfl (Nat.le_of_ble_eq_true rfl) dX8_isHeaderOf_3 ⟨Nat.zero_le _, Nat.zero_le _⟩ (fun H locs hn_r10 hP hS => ?_)
  refine lv_bipush (v := 8) hx hb dX8_isHeaderOf_6 (by decide) ?_
  refine lv_icmp_ne (tgt := 15) hx hb dX8_isHeaderOf_8 (by decide) (fun c11 => ?_) (fun c11 => ?_)
  · have h := x_f (show ¬ (r10 = 8) from c11) h
    refine lv_iconst (v := 0) hx hb dX8_isHeaderOf_15 (by decide) ?_
    refine lv_istore (lv' := [(4, .int 0), (0, .ref (ad 0)), (1, .int a1), (2, .int a2), (3, .int a3)]) hx hb dX8_isHeaderOf_16 hl (by decide) rfl (fun ls hl => ?_)
    refine lv_iconst (v := 1) hx hb dX8_isHeaderOf_18 (by decide) ?_
    refine lv_istore (lv' := [(5, .int 1), (4, .int 0), (0, .ref (ad 0)), (1, .int a1), (2, .int a2), (3, .int a3)]) hx hb dX8_isHeaderOf_19 hl (by decide) rfl (fun ls hl => ?_)
    exact L21 F a1 a2 a3 0 1 D10 _ _ _ h hP hS (lv_sub hl [2, 3, 4, 5, 1, 0] rfl)
  · have h := x_t (show r10 = 8 from c11) h
    refine lv_iconst (v := 1) hx hb dX8_isHeaderOf_11 (by decide) ?_
    refine lv_goto (tgt := 16) hx hb dX8_isHeaderOf_12 (by decide) ?_
    refine lv_istore (lv' := [(4, .int 1), (0, .ref (ad 0)), (1, .int a1), (2, .int a2), (3, .int a3)]) hx hb dX8_isHeaderOf_16 hl (by decide) rfl (fun ls hl => ?_)
    refine lv_iconst (v := 1) hx hb dX8_isHeaderOf_18 (by decide) ?_
    refine lv_istore (lv' := [(5, .int 1), (4, .int 1), (0, .ref (ad 0)), (1, .int a1), (2, .int a2), (3, .int a3)]) hx hb dX8_isHeaderOf_19 hl (by decide) rfl (fun ls hl => ?_)
    exact L21 F a1 a2 a3 1 1 D10 _ _ _ h hP hS (lv_sub hl [2, 3, 4, 5, 1, 0] rfl)
abbrev rm_X8_seek : Room := { frames := 5, cells := 0, slots := 0, locals := 114 }
set_option maxHeartbeats 4000000 in
set_option maxRecDepth 100000 in
theorem c_X8_seek (l : Launch) (dd : Dd) (Y : Yc) (t : Ts3) (ad : Nat → Nat) (ij : Ij MG ad) (F : Nat) (a1 a2 : Int32) (D0 D' : Mm) (r0 : Int32) (h : P_X8_seek (gN MG) F a1 a2 D0 = some (r0, D')) : Met l yX8_seek wzX8_seek rm_X8_seek (va_Pc [.ref (ad 0), .int a1, .int a2] (Wd dd Y t MG ad D0)) (Qi dd Y MG ad .int r0 D') 0 0 (pA MG ad) := by
  refine Met.ofW (cc := cX8_seek) (maxL := 6) (ret := (some .int)) (by decide) rfl ?_
  intro p e s m args below meth c s₁ B hml hv
  obtain ⟨rfl, hP, hK, hT⟩ := hv
  have hx := B.exec
  have hb := B.bytes
  have hr := B.returns
  have ht0 : ∀ w ∈ W0, w.before _ s = true := fun w h => atoms_spec (ws := wzX8_seek) B.pre w (List.mem_cons_of_mem _ h)
  have hown : s.vm.findClass RX8 = some m.cls := findClass_of_methodNamed B.named
  have hlocks := B.notSynchronized
  have hS : va_S (pA MG ad) s.heap s.heap [] := va_S.rf
  have L87 : ∀ (x1 x2 x3 : Int32) (D : Mm) (H : Heap) (locs : List Loc) (ls : Array Slot), P_X8_seek_87 (gN MG) F x1 x2 x3 D = some (r0, D') → va_P dd vwCl (wW Y MG ad D) H → va_S (pA MG ad) s.heap H locs → lv_has ls 6 [(0, .ref (ad 0)), (1, .int x1), (2, .int x2), (3, .int x3)] → W p l e (headSpec wzX8_seek rm_X8_seek).room s m ([.ref (ad 0), .int a1, .int a2].toArray) below meth c H locs 0 0 (MQ below (Qi dd Y MG ad .int r0 D') ([.ref (ad 0), .int a1, .int a2].toArray) s 0 0 (pA MG ad)) (F0 m 87 ls []) := by
    intro x1 x2 x3 D H locs ls h hP hS hl
    have h : ((bi (P_X8_decoded (gN MG) F x1 (x3 + 40) D) (fun r1 D1 => bi (P_X8_decoded (gN MG) F x1 (x3 + 50) D1) (fun r2 D2 => bi (P_X8_decoded (gN MG) F x1 (x3 + 10) D2) (fun r3 D3 => if r3 = (((x2 ^^^ x1) ^^^ r1) ^^^ r2) then (if ((256 * r1) + r2) = (D3 0 4) then (some (0, D3)) else (some (29, D3))) else (some (27, D3)))))) : Rs) = some (r0, D') := h
    refine lv_aload_n hx hb dX8_seek_87 rfl (lv_at hl 0 rfl) ?_
    refine lv_iload_n hx hb dX8_seek_88 rfl (lv_at hl 1 rfl) ?_
    refine lv_iload_n hx hb dX8_seek_89 rfl (lv_at hl 3 rfl) ?_
    refine lv_bipush (v := 40) hx hb dX8_seek_90 (by decide) ?_
    refine lv_iadd hx hb dX8_seek_92 ?_
    obtain ⟨r1, D1, hc1, h⟩ := bi_some h
    refine x_callVi (As := [.int x1, .int (x3 + 40)]) ⟨hx, hb, hml, hown, ht0⟩ hK hT hP hS (c_X8_decoded l dd Y t ad ij F x1 (x3 + 40) _ _ _ hc1) m_ML_X8_103 sv_X8_decoded hd_X8_decoded rfl rfl ⟨Nat.le_of_ble_eq_true rfl, Nat.le_of_ble_eq_true rfl⟩ (mk_0).1 (ce8 (mk_0).2) rfl rfl hl.1 rfl (Nat.le_of_ble_eq_true rfl) dX8_seek_93 ⟨Nat.zero_le _, Nat.zero_le _⟩ (fun H locs hn_r1 hP hS => ?_)
    refine lv_istore (lv' := [(4, .int r1), (0, .ref (ad 0)), (1, .int x1), (2, .int x2), (3, .int x3)]) hx hb dX8_seek_96 hl (by decide) rfl (fun ls hl => ?_)
    refine lv_aload_n hx hb dX8_seek_98 rfl (lv_at hl 1 rfl) ?_
    refine lv_iload_n hx hb dX8_seek_99 rfl (lv_at hl 2 rfl) ?_
    refine lv_iload_n hx hb dX8_seek_100 rfl (lv_at hl 4 rfl) ?_
    refine lv_bipush (v := 50) hx hb dX8_seek_101 (by decide) ?_
    refine lv_iadd hx hb dX8_seek_103 ?_
    obtain ⟨r2, D2, hc2, h⟩ := bi_some h
    refine x_callVi (As := [.int x1, .int (x3 + 50)]) ⟨hx, hb, hml, hown, ht0⟩ hK hT hP hS (c_X8_decoded l dd Y t ad ij F x1 (x3 + 50) _ _ _ hc2) m_ML_X8_103 sv_X8_decoded hd_X8_decoded rfl rfl ⟨Nat.le_of_ble_eq_true rfl, Nat.le_of_ble_eq_true rfl⟩ (mk_0).1 (ce8 (mk_0).2) rfl rfl hl.1 rfl (Nat.le_of_ble_eq_true rfl) dX8_seek_104 ⟨Nat.zero_le _, Nat.zero_le _⟩ (fun H locs hn_r2 hP hS => ?_)
    refine lv_istore (lv' := [(5, .int r2), (4, .int r1), (0, .ref (ad 0)), (1, .int x1), (2, .int x2), (3, .int x3)]) hx hb dX8_seek_107 hl (by decide) rfl (fun ls hl => ?_)
    refine lv_aload_n hx hb dX8_seek_109 rfl (lv_at hl 2 rfl) ?_
    refine lv_iload_n hx hb dX8_seek_110 rfl (lv_at hl 3 rfl) ?_
    refine lv_iload_n hx hb dX8_seek_111 rfl (lv_at hl 5 rfl) ?_
    refine lv_bipush (v := 10) hx hb dX8_seek_112 (by decide) ?_
    refine lv_iadd hx hb dX8_seek_114 ?_
    obtain ⟨r3, D3, hc3, h⟩ := bi_some h
    refine x_callVi (As := [.int x1, .int (x3 + 10)]) ⟨hx, hb, hml, hown, ht0⟩ hK hT hP hS (c_X8_decoded l dd Y t ad ij F x1 (x3 + 10) _ _ _ hc3) m_ML_X8_103 sv_X8_decoded hd_X8_decoded rfl rfl ⟨Nat.le_of_ble_eq_true rfl, Nat.le_of_ble_eq_true rfl⟩ (mk_0).1 (ce8 (mk_0).2) rfl rfl hl.1 rfl (Nat.le_of_ble_eq_true rfl) dX8_seek_115 ⟨Nat.zero_le _, Nat.zero_le _⟩ (fun H locs hn_r3 hP hS => ?_)
    refine lv_iload_n hx hb dX8_seek_118 rfl (lv_at hl 4 rfl) ?_
    refine lv_iload_n hx hb dX8_seek_119 rfl (lv_at hl 3 rfl) ?_
    refine lv_ixor hx hb dX8_seek_120 ?_
    refine lv_iload hx hb dX8_seek_121 (lv_at hl 1 rfl) ?_
    refine lv_ixor hx hb dX8_seek_123 ?_
    refine lv_iload hx hb dX8_seek_124 (lv_at hl 0 rfl) ?_
    refine lv_ixor hx hb dX8_seek_126 ?_
    refine lv_icmp_eq (tgt := 133) hx hb dX8_seek_127 (by decide) (fun c4 => ?_) (fun c4 => ?_)
    · have h := x_t (show r3 = (((x2 ^^^ x1) ^^^ r1) ^^^ r2) from c4) h
      refine lv_sipush (v := 256) hx hb dX8_seek_133 (by decide) ?_
      refine lv_iload hx hb dX8_seek_136 (lv_at hl 1 rfl) ?_
      refine lv_imul hx hb dX8_seek_138 ?_
      refine lv_iload hx hb dX8_seek_139 (lv_at hl 0 rfl) ?_
      refine lv_iadd hx hb dX8_seek_141 ?_
      refine lv_aload_n hx hb dX8_seek_142 rfl (lv_at hl 2 rfl) ?_
      refine x_get hx hb ht0 u_X8 hown hK hP (mk_0).1 (ce8 (mk_0).2) rfl 4 (by decide) (ht0 _ m_FL_X8_24) rfl rfl dX8_seek_143 ?_
      refine lv_icmp_ne (tgt := 153) hx hb dX8_seek_146 (by decide) (fun c5 => ?_) (fun c5 => ?_)
      · have h := x_f (show ¬ (((256 * r1) + r2) = (D3 0 4)) from c5) h
        refine lv_bipush (v := 29) hx hb dX8_seek_153 (by decide) ?_
        exact x_iret hx hb hr hlocks rfl hP hS h dX8_seek_155
      · have h := x_t (show ((256 * r1) + r2) = (D3 0 4) from c5) h
        refine lv_iconst (v := 0) hx hb dX8_seek_149 (by decide) ?_
        refine lv_goto (tgt := 155) hx hb dX8_seek_150 (by decide) ?_
        exact x_iret hx hb hr hlocks rfl hP hS h dX8_seek_155
    · have h := x_f (show ¬ (r3 = (((x2 ^^^ x1) ^^^ r1) ^^^ r2)) from c4) h
      refine lv_bipush (v := 27) hx hb dX8_seek_130 (by decide) ?_
      exact x_iret hx hb hr hlocks rfl hP hS h dX8_seek_132
  have L67 : ∀ (x1 x2 : Int32) (D : Mm) (H : Heap) (locs : List Loc) (ls : Array Slot), P_X8_seek_67 (gN MG) F x1 x2 D = some (r0, D') → va_P dd vwCl (wW Y MG ad D) H → va_S (pA MG ad) s.heap H locs → lv_has ls 6 [(0, .ref (ad 0)), (1, .int x1), (2, .int x2)] → W p l e (headSpec wzX8_seek rm_X8_seek).room s m ([.ref (ad 0), .int a1, .int a2].toArray) below meth c H locs 0 0 (MQ below (Qi dd Y MG ad .int r0 D') ([.ref (ad 0), .int a1, .int a2].toArray) s 0 0 (pA MG ad)) (F0 m 67 ls []) := by
    intro x1 x2 D H locs ls h hP hS hl
    have h : ((if 0 ≤ (D 0 17) then (if inB (D 0 17) ((gN MG) 7) = true then (P_X8_seek_87 (gN MG) F x1 x2 (D 7 (Int32.toNatClampNeg (D 0 17))) D) else none) else (some (20, D))) : Rs) = some (r0, D') := h
    refine lv_aload_n hx hb dX8_seek_67 rfl (lv_at hl 0 rfl) ?_
    refine x_get hx hb ht0 u_X8 hown hK hP (mk_0).1 (ce8 (mk_0).2) rfl 17 (by decide) (ht0 _ m_FL_X8_110) rfl rfl dX8_seek_68 ?_
    refine lv_if_ge (tgt := 77) hx hb dX8_seek_71 (by decide) (fun c6 => ?_) (fun c6 => ?_)
    · have h := x_t (show 0 ≤ (D 0 17) from c6) h
      refine lv_aload_n hx hb dX8_seek_77 rfl (lv_at hl 0 rfl) ?_
      refine x_get hx hb ht0 u_X8 hown hK hP (mk_0).1 (ce8 (mk_0).2) rfl 15 (by decide) (ht0 _ m_FL_X8_34) rfl (rfv (G := MG) (c := 0) (k := 15) (c' := 7) rfl) dX8_seek_78 ?_
      refine lv_aload_n hx hb dX8_seek_81 rfl (lv_at hl 0 rfl) ?_
      refine x_get hx hb ht0 u_X8 hown hK hP (mk_0).1 (ce8 (mk_0).2) rfl 17 (by decide) (ht0 _ m_FL_X8_110) rfl rfl dX8_seek_82 ?_
      obtain ⟨b7, h⟩ := x_if h
      refine x_ald hx hb hK hP mk_7 b7 dX8_seek_85 ?_
      refine lv_istore_n (lv' := [(3, .int (D 7 (Int32.toNatClampNeg (D 0 17)))), (0, .ref (ad 0)), (1, .int x1), (2, .int x2)]) hx hb dX8_seek_86 rfl hl (by decide) rfl (fun ls hl => ?_)
      exact L87 x1 x2 (D 7 (Int32.toNatClampNeg (D 0 17))) D _ _ _ h hP hS (lv_sub hl [1, 2, 3, 0] rfl)
    · have h := x_f (show ¬ (0 ≤ (D 0 17)) from c6) h
      refine lv_bipush (v := 20) hx hb dX8_seek_74 (by decide) ?_
      exact x_iret hx hb hr hlocks rfl hP hS h dX8_seek_76
  have L22 : ∀ (n : Nat), ∀ (x1 x2 x3 : Int32) (D : Mm) (H : Heap) (locs : List Loc) (ls : Array Slot), P_X8_seek_22 (gN MG) F n x1 x2 x3 D = some (r0, D') → va_P dd vwCl (wW Y MG ad D) H → va_S (pA MG ad) s.heap H locs → lv_has ls 6 [(0, .ref (ad 0)), (1, .int x1), (2, .int x2), (3, .int x3)] → W p l e (headSpec wzX8_seek rm_X8_seek).room s m ([.ref (ad 0), .int a1, .int a2].toArray) below meth c H locs 0 0 (MQ below (Qi dd Y MG ad .int r0 D') ([.ref (ad 0), .int a1, .int a2].toArray) s 0 0 (pA MG ad)) (F0 m 22 ls []) := by
    intro n
    induction n with
    | zero =>
      intro x1 x2 x3 D H locs ls h hP hS hl
      cases h
    | succ n ih =>
      intro x1 x2 x3 D H locs ls h hP hS hl
      have h : ((if (D 0 16) ≤ x3 then (P_X8_seek_67 (gN MG) F x1 x2 D) else (if 0 ≤ (D 0 17) then (P_X8_seek_67 (gN MG) F x1 x2 D) else (if inB x3 ((gN MG) 7) = true then (bi (P_X8_isHeaderOf (gN MG) F x1 x2 (D 7 (Int32.toNatClampNeg x3)) D) (fun r11 D11 => if r11 = 0 then (P_X8_seek_22 (gN MG) F n x1 x2 (x3 + 1) (up2 D11 0 17 (-1))) else (P_X8_seek_22 (gN MG) F n x1 x2 (x3 + 1) (up2 D11 0 17 x3)))) else none))) : Rs) = some (r0, D') := h
      refine lv_iload_n hx hb dX8_seek_22 rfl (lv_at hl 3 rfl) ?_
      refine lv_aload_n hx hb dX8_seek_23 rfl (lv_at hl 0 rfl) ?_
      refine x_get hx hb ht0 u_X8 hown hK hP (mk_0).1 (ce8 (mk_0).2) rfl 16 (by decide) (ht0 _ m_FL_X8_83) rfl rfl dX8_seek_24 ?_
      refine lv_icmp_ge (tgt := 67) hx hb dX8_seek_27 (by decide) (fun c8 => ?_) (fun c8 => ?_)
      · have h := x_t (show (D 0 16) ≤ x3 from c8) h
        exact L67 x1 x2 D _ _ _ h hP hS (lv_sub hl [0, 1, 2] rfl)
      · have h := x_f (show ¬ ((D 0 16) ≤ x3) from c8) h
        refine lv_aload_n hx hb dX8_seek_30 rfl (lv_at hl 0 rfl) ?_
        refine x_get hx hb ht0 u_X8 hown hK hP (mk_0).1 (ce8 (mk_0).2) rfl 17 (by decide) (ht0 _ m_FL_X8_110) rfl rfl dX8_seek_31 ?_
        refine lv_if_ge (tgt := 67) hx hb dX8_seek_34 (by decide) (fun c9 => ?_) (fun c9 => ?_)
        · have h := x_t (show 0 ≤ (D 0 17) from c9) h
          exact L67 x1 x2 D _ _ _ h hP hS (lv_sub hl [0, 1, 2] rfl)
        · have h := x_f (show ¬ (0 ≤ (D 0 17)) from c9) h
          refine lv_aload_n hx hb dX8_seek_37 rfl (lv_at hl 0 rfl) ?_
          refine lv_aload_n hx hb dX8_seek_38 rfl (lv_at hl 0 rfl) ?_
          refine lv_iload_n hx hb dX8_seek_39 rfl (lv_at hl 1 rfl) ?_
          refine lv_iload_n hx hb dX8_seek_40 rfl (lv_at hl 2 rfl) ?_
          refine lv_aload_n hx hb dX8_seek_41 rfl (lv_at hl 0 rfl) ?_
          refine x_get hx hb ht0 u_X8 hown hK hP (mk_0).1 (ce8 (mk_0).2) rfl 15 (by decide) (ht0 _ m_FL_X8_34) rfl (rfv (G := MG) (c := 0) (k := 15) (c' := 7) rfl) dX8_seek_42 ?_
          refine lv_iload_n hx hb dX8_seek_45 rfl (lv_at hl 3 rfl) ?_
          obtain ⟨b10, h⟩ := x_if h
          refine x_ald hx hb hK hP mk_7 b10 dX8_seek_46 ?_
          obtain ⟨r11, D11, hc11, h⟩ := bi_some h
          refine x_callVi (As := [.int x1, .int x2, .int (D 7 (Int32.toNatClampNeg x3))]) ⟨hx, hb, hml, hown, ht0⟩ hK hT hP hS (c_X8_isHeaderOf l dd Y t ad ij F x1 x2 (D 7 (Int32.toNatClampNeg x3)) _ _ _ hc11) m_ML_X8_113 sv_X8_isHeaderOf hd_X8_isHeaderOf rfl rfl ⟨Nat.le_of_ble_eq_true rfl, Nat.le_of_ble_eq_true rfl⟩ (mk_0).1 (ce8 (mk_0).2) rfl rfl hl.1 rfl (Nat.le_of_ble_eq_true rfl) dX8_seek_47 ⟨Nat.zero_le _, Nat.zero_le _⟩ (fun H locs hn_r11 hP hS => ?_)
          refine lv_if_eq (tgt := 57) hx hb dX8_seek_50 (by decide) (fun c12 => ?_) (fun c12 => ?_)
          · have h := x_t (show r11 = 0 from c12) h
            refine lv_iconst (v := (-1)) hx hb dX8_seek_57 (by decide) ?_
            refine x_put (ty := .int) hx hb ht0 u_X8 tyX8 tyX8_ok nmX8 hown hK ij hP hS (mk_0).1 (ce8 (mk_0).2) rfl 17 (by decide) (ht0 _ m_FL_X8_110) rfl rfl (by decide +kernel) rfl rfl (Nat.le_of_ble_eq_true rfl) (by rw [(mk_0).2]; rfl) dX8_seek_58 (fun H locs hP hS => ?_)
            refine lv_iinc (v := x3 + 1) (lv' := [(3, .int (x3 + 1)), (0, .ref (ad 0)), (1, .int x1), (2, .int x2)]) hx hb dX8_seek_61 hl (k := 3) rfl rfl (by decide) rfl (fun ls hl => ?_)
            refine lv_goto (tgt := 22) hx hb dX8_seek_64 (by decide) ?_
            exact ih x1 x2 (x3 + 1) (up2 D11 0 17 (-1)) _ _ _ h hP hS (lv_sub hl [1, 2, 3, 0] rfl)
          · have h := x_f (show ¬ (r11 = 0) from c12) h
            refine lv_iload_n hx hb dX8_seek_53 rfl (lv_at hl 3 rfl) ?_
            refine lv_goto (tgt := 58) hx hb dX8_seek_54 (by decide) ?_
            refine x_put (ty := .int) hx hb ht0 u_X8 tyX8 tyX8_ok nmX8 hown hK ij hP hS (mk_0).1 (ce8 (mk_0).2) rfl 17 (by decide) (ht0 _ m_FL_X8_110) rfl rfl (by decide +kernel) rfl rfl (Nat.le_of_ble_eq_true rfl) (by rw [(mk_0).2]; rfl) dX8_seek_58 (fun H locs hP hS => ?_)
            refine lv_iinc (v := x3 + 1) (lv' := [(3, .int (x3 + 1)), (0, .ref (ad 0)), (1, .int x1), (2, .int x2)]) hx hb dX8_seek_61 hl (k := 3) rfl rfl (by decide) rfl (fun ls hl => ?_)
            refine lv_goto (tgt := 22) hx hb dX8_seek_64 (by decide) ?_
            exact ih x1 x2 (x3 + 1) (up2 D11 0 17 x3) _ _ _ h hP hS (lv_sub hl [1, 2, 3, 0] rfl)
  have hl := lv_entry ([.ref (ad 0), .int a1, .int a2]) (n := 6) (Nat.le_of_ble_eq_true rfl)
  rw [lg_entry_eq]
  generalize (lg_sl ([.ref (ad 0), .int a1, .int a2]) ++ List.replicate (6 - (lg_sl ([.ref (ad 0), .int a1, .int a2])).length) Slot.unset).toArray = ls at hl ⊢
  have hl : lv_has ls 6 [(0, .ref (ad 0)), (1, .int a1), (2, .int a2)] := hl
  have hP : va_P dd vwCl (wW Y MG ad D0) s.heap := hP
  generalize D0 = D at h hP
  have h : ((bi (P_X8_findSyncs (gN MG) F a1 D) (fun r13 D13 => if (D13 0 16) = 0 then (some (21, D13)) else (P_X8_seek_22 (gN MG) F F a1 a2 0 (up2 D13 0 17 (-1))))) : Rs) = some (r0, D') := h
  refine lv_aload_n hx hb dX8_seek_0 rfl (lv_at hl 0 rfl) ?_
  refine lv_iload_n hx hb dX8_seek_1 rfl (lv_at hl 1 rfl) ?_
  obtain ⟨r13, D13, hc13, h⟩ := bi_some h
  refine x_callVv (As := [.int a1]) ⟨hx, hb, hml, hown, ht0⟩ hK hT hP hS (c_X8_findSyncs l dd Y t ad ij F a1 _ _ _ hc13) m_ML_X8_107 sv_X8_findSyncs hd_X8_findSyncs rfl rfl ⟨Nat.le_of_ble_eq_true rfl, Nat.le_of_ble_eq_true rfl⟩ (mk_0).1 (ce8 (mk_0).2) rfl rfl hl.1 rfl (Nat.le_of_ble_eq_true rfl) dX8_seek_2 ⟨Nat.zero_le _, Nat.zero_le _⟩ (fun H locs hP hS => ?_)
  refine lv_aload_n hx hb dX8_seek_5 rfl (lv_at hl 0 rfl) ?_
  refine x_get hx hb ht0 u_X8 hown hK hP (mk_0).1 (ce8 (mk_0).2) rfl 16 (by decide) (ht0 _ m_FL_X8_83) rfl rfl dX8_seek_6 ?_
  refine lv_if_ne (tgt := 15) hx hb dX8_seek_9 (by decide) (fun c14 => ?_) (fun c14 => ?_)
  · have h := x_f (show ¬ ((D13 0 16) = 0) from c14) h
    refine lv_aload_n hx hb dX8_seek_15 rfl (lv_at hl 0 rfl) ?_
    refine lv_iconst (v := (-1)) hx hb dX8_seek_16 (by decide) ?_
    refine x_put (ty := .int) hx hb ht0 u_X8 tyX8 tyX8_ok nmX8 hown hK ij hP hS (mk_0).1 (ce8 (mk_0).2) rfl 17 (by decide) (ht0 _ m_FL_X8_110) rfl rfl (by decide +kernel) rfl rfl (Nat.le_of_ble_eq_true rfl) (by rw [(mk_0).2]; rfl) dX8_seek_17 (fun H locs hP hS => ?_)
    refine lv_iconst (v := 0) hx hb dX8_seek_20 (by decide) ?_
    refine lv_istore_n (lv' := [(3, .int 0), (0, .ref (ad 0)), (1, .int a1), (2, .int a2)]) hx hb dX8_seek_21 rfl hl (by decide) rfl (fun ls hl => ?_)
    exact L22 F a1 a2 0 (up2 D13 0 17 (-1)) _ _ _ h hP hS (lv_sub hl [1, 2, 3, 0] rfl)
  · have h := x_t (show (D13 0 16) = 0 from c14) h
    refine lv_bipush (v := 21) hx hb dX8_seek_12 (by decide) ?_
    exact x_iret hx hb hr hlocks rfl hP hS h dX8_seek_14
abbrev rm_X8_dataOf : Room := { frames := 4, cells := 0, slots := 0, locals := 89 }
set_option maxHeartbeats 4000000 in
set_option maxRecDepth 100000 in
theorem c_X8_dataOf (l : Launch) (dd : Dd) (Y : Yc) (t : Ts3) (ad : Nat → Nat) (ij : Ij MG ad) (F : Nat) (a1 : Int32) (D0 D' : Mm) (r0 : Int32) (h : P_X8_dataOf (gN MG) F a1 D0 = some (r0, D')) : Met l yX8_dataOf wzX8_dataOf rm_X8_dataOf (va_Pc [.ref (ad 0), .int a1] (Wd dd Y t MG ad D0)) (Qi dd Y MG ad .int r0 D') 0 0 (pA MG ad) := by
  refine Met.ofW (cc := cX8_dataOf) (maxL := 6) (ret := (some .int)) (by decide) rfl ?_
  intro p e s m args below meth c s₁ B hml hv
  obtain ⟨rfl, hP, hK, hT⟩ := hv
  have hx := B.exec
  have hb := B.bytes
  have hr := B.returns
  have ht0 : ∀ w ∈ W0, w.before _ s = true := fun w h => atoms_spec (ws := wzX8_dataOf) B.pre w (List.mem_cons_of_mem _ h)
  have hown : s.vm.findClass RX8 = some m.cls := findClass_of_methodNamed B.named
  have hlocks := B.notSynchronized
  have hS : va_S (pA MG ad) s.heap s.heap [] := va_S.rf
  have L36 : ∀ (n : Nat), ∀ (x1 x2 x3 x4 : Int32) (D : Mm) (H : Heap) (locs : List Loc) (ls : Array Slot), P_X8_dataOf_36 (gN MG) F n x1 x2 x3 x4 D = some (r0, D') → va_P dd vwCl (wW Y MG ad D) H → va_S (pA MG ad) s.heap H locs → lv_has ls 6 [(0, .ref (ad 0)), (1, .int x1), (2, .int x2), (3, .int x3), (4, .int x4)] → W p l e (headSpec wzX8_dataOf rm_X8_dataOf).room s m ([.ref (ad 0), .int a1].toArray) below meth c H locs 0 0 (MQ below (Qi dd Y MG ad .int r0 D') ([.ref (ad 0), .int a1].toArray) s 0 0 (pA MG ad)) (F0 m 36 ls []) := by
    intro n
    induction n with
    | zero =>
      intro x1 x2 x3 x4 D H locs ls h hP hS hl
      cases h
    | succ n ih =>
      intro x1 x2 x3 x4 D H locs ls h hP hS hl
      have h : ((if 65 ≤ x4 then (if x3 = 0 then (some (0, D)) else (some (23, D))) else (bi (P_X8_decoded (gN MG) F x1 (x2 + (10 * (x4 + 1))) D) (fun r3 D3 => if 0 ≤ r3 then (if 64 ≤ x4 then (P_X8_dataOf_36 (gN MG) F n x1 x2 (x3 ^^^ r3) (x4 + 1) D3) else (if inB x4 ((gN MG) 8) = true then (P_X8_dataOf_36 (gN MG) F n x1 x2 (x3 ^^^ r3) (x4 + 1) (up2 D3 8 (Int32.toNatClampNeg x4) r3)) else none)) else (some (24, D3))))) : Rs) = some (r0, D') := h
      refine lv_iload hx hb dX8_dataOf_36 (lv_at hl 4 rfl) ?_
      refine lv_bipush (v := 65) hx hb dX8_dataOf_38 (by decide) ?_
      refine lv_icmp_ge (tgt := 94) hx hb dX8_dataOf_40 (by decide) (fun c1 => ?_) (fun c1 => ?_)
      · have h := x_t (show 65 ≤ x4 from c1) h
        refine lv_iload_n hx hb dX8_dataOf_94 rfl (lv_at hl 3 rfl) ?_
        refine lv_if_ne (tgt := 102) hx hb dX8_dataOf_95 (by decide) (fun c2 => ?_) (fun c2 => ?_)
        · have h := x_f (show ¬ (x3 = 0) from c2) h
          refine lv_bipush (v := 23) hx hb dX8_dataOf_102 (by decide) ?_
          exact x_iret hx hb hr hlocks rfl hP hS h dX8_dataOf_104
        · have h := x_t (show x3 = 0 from c2) h
          refine lv_iconst (v := 0) hx hb dX8_dataOf_98 (by decide) ?_
          refine lv_goto (tgt := 104) hx hb dX8_dataOf_99 (by decide) ?_
          exact x_iret hx hb hr hlocks rfl hP hS h dX8_dataOf_104
      · have h := x_f (show ¬ (65 ≤ x4) from c1) h
        refine lv_aload_n hx hb dX8_dataOf_43 rfl (lv_at hl 0 rfl) ?_
        refine lv_iload_n hx hb dX8_dataOf_44 rfl (lv_at hl 1 rfl) ?_
        refine lv_iload_n hx hb dX8_dataOf_45 rfl (lv_at hl 2 rfl) ?_
        refine lv_bipush (v := 10) hx hb dX8_dataOf_46 (by decide) ?_
        refine lv_iload hx hb dX8_dataOf_48 (lv_at hl 4 rfl) ?_
        refine lv_iconst (v := 1) hx hb dX8_dataOf_50 (by decide) ?_
        refine lv_iadd hx hb dX8_dataOf_51 ?_
        refine lv_imul hx hb dX8_dataOf_52 ?_
        refine lv_iadd hx hb dX8_dataOf_53 ?_
        obtain ⟨r3, D3, hc3, h⟩ := bi_some h
        refine x_callVi (As := [.int x1, .int (x2 + (10 * (x4 + 1)))]) ⟨hx, hb, hml, hown, ht0⟩ hK hT hP hS (c_X8_decoded l dd Y t ad ij F x1 (x2 + (10 * (x4 + 1))) _ _ _ hc3) m_ML_X8_103 sv_X8_decoded hd_X8_decoded rfl rfl ⟨Nat.le_of_ble_eq_true rfl, Nat.le_of_ble_eq_true rfl⟩ (mk_0).1 (ce8 (mk_0).2) rfl rfl hl.1 rfl (Nat.le_of_ble_eq_true rfl) dX8_dataOf_54 ⟨Nat.zero_le _, Nat.zero_le _⟩ (fun H locs hn_r3 hP hS => ?_)
        refine lv_istore (lv' := [(5, .int r3), (0, .ref (ad 0)), (1, .int x1), (2, .int x2), (3, .int x3), (4, .int x4)]) hx hb dX8_dataOf_57 hl (by decide) rfl (fun ls hl => ?_)
        refine lv_iload hx hb dX8_dataOf_59 (lv_at hl 0 rfl) ?_
        refine lv_if_ge (tgt := 67) hx hb dX8_dataOf_61 (by decide) (fun c4 => ?_) (fun c4 => ?_)
        · have h := x_t (show 0 ≤ r3 from c4) h
          refine lv_iload_n hx hb dX8_dataOf_67 rfl (lv_at hl 4 rfl) ?_
          refine lv_iload hx hb dX8_dataOf_68 (lv_at hl 0 rfl) ?_
          refine lv_ixor hx hb dX8_dataOf_70 ?_
          refine lv_istore_n (lv' := [(3, .int (x3 ^^^ r3)), (5, .int r3), (0, .ref (ad 0)), (1, .int x1), (2, .int x2), (4, .int x4)]) hx hb dX8_dataOf_71 rfl hl (by decide) rfl (fun ls hl => ?_)
          refine lv_iload hx hb dX8_dataOf_72 (lv_at hl 5 rfl) ?_
          refine lv_bipush (v := 64) hx hb dX8_dataOf_74 (by decide) ?_
          refine lv_icmp_ge (tgt := 88) hx hb dX8_dataOf_76 (by decide) (fun c5 => ?_) (fun c5 => ?_)
          · have h := x_t (show 64 ≤ x4 from c5) h
            refine lv_iinc (v := x4 + 1) (lv' := [(4, .int (x4 + 1)), (3, .int (x3 ^^^ r3)), (5, .int r3), (0, .ref (ad 0)), (1, .int x1), (2, .int x2)]) hx hb dX8_dataOf_88 hl (k := 5) rfl rfl (by decide) rfl (fun ls hl => ?_)
            refine lv_goto (tgt := 36) hx hb dX8_dataOf_91 (by decide) ?_
            exact ih x1 x2 (x3 ^^^ r3) (x4 + 1) D3 _ _ _ h hP hS (lv_sub hl [3, 4, 5, 1, 0] rfl)
          · have h := x_f (show ¬ (64 ≤ x4) from c5) h
            refine lv_aload_n hx hb dX8_dataOf_79 rfl (lv_at hl 2 rfl) ?_
            refine x_get hx hb ht0 u_X8 hown hK hP (mk_0).1 (ce8 (mk_0).2) rfl 18 (by decide) (ht0 _ m_FL_X8_37) rfl (rfv (G := MG) (c := 0) (k := 18) (c' := 8) rfl) dX8_dataOf_80 ?_
            refine lv_iload hx hb dX8_dataOf_83 (lv_at hl 5 rfl) ?_
            refine lv_iload hx hb dX8_dataOf_85 (lv_at hl 1 rfl) ?_
            obtain ⟨b6, h⟩ := x_if h
            refine x_ast hx hb hK ij hP hS mk_8 b6 dX8_dataOf_87 (fun H locs hP hS => ?_)
            refine lv_iinc (v := x4 + 1) (lv' := [(4, .int (x4 + 1)), (3, .int (x3 ^^^ r3)), (5, .int r3), (0, .ref (ad 0)), (1, .int x1), (2, .int x2)]) hx hb dX8_dataOf_88 hl (k := 5) rfl rfl (by decide) rfl (fun ls hl => ?_)
            refine lv_goto (tgt := 36) hx hb dX8_dataOf_91 (by decide) ?_
            exact ih x1 x2 (x3 ^^^ r3) (x4 + 1) (up2 D3 8 (Int32.toNatClampNeg x4) r3) _ _ _ h hP hS (lv_sub hl [3, 4, 5, 1, 0] rfl)
        · have h := x_f (show ¬ (0 ≤ r3) from c4) h
          refine lv_bipush (v := 24) hx hb dX8_dataOf_64 (by decide) ?_
          exact x_iret hx hb hr hlocks rfl hP hS h dX8_dataOf_66
  have L17 : ∀ (x1 x2 : Int32) (D : Mm) (H : Heap) (locs : List Loc) (ls : Array Slot), P_X8_dataOf_17 (gN MG) F x1 x2 D = some (r0, D') → va_P dd vwCl (wW Y MG ad D) H → va_S (pA MG ad) s.heap H locs → lv_has ls 6 [(0, .ref (ad 0)), (1, .int x1), (2, .int x2)] → W p l e (headSpec wzX8_dataOf rm_X8_dataOf).room s m ([.ref (ad 0), .int a1].toArray) below meth c H locs 0 0 (MQ below (Qi dd Y MG ad .int r0 D') ([.ref (ad 0), .int a1].toArray) s 0 0 (pA MG ad)) (F0 m 17 ls []) := by
    intro x1 x2 D H locs ls h hP hS hl
    have h : ((bi (P_X8_decoded (gN MG) F x1 x2 D) (fun r7 D7 => if r7 = 7 then (P_X8_dataOf_36 (gN MG) F F x1 x2 0 0 D7) else (some (22, D7)))) : Rs) = some (r0, D') := h
    refine lv_aload_n hx hb dX8_dataOf_17 rfl (lv_at hl 0 rfl) ?_
    refine lv_iload_n hx hb dX8_dataOf_18 rfl (lv_at hl 1 rfl) ?_
    refine lv_iload_n hx hb dX8_dataOf_19 rfl (lv_at hl 2 rfl) ?_
    obtain ⟨r7, D7, hc7, h⟩ := bi_some h
    refine x_callVi (As := [.int x1, .int x2]) ⟨hx, hb, hml, hown, ht0⟩ hK hT hP hS (c_X8_decoded l dd Y t ad ij F x1 x2 _ _ _ hc7) m_ML_X8_103 sv_X8_decoded hd_X8_decoded rfl rfl ⟨Nat.le_of_ble_eq_true rfl, Nat.le_of_ble_eq_true rfl⟩ (mk_0).1 (ce8 (mk_0).2) rfl rfl hl.1 rfl (Nat.le_of_ble_eq_true rfl) dX8_dataOf_20 ⟨Nat.zero_le _, Nat.zero_le _⟩ (fun H locs hn_r7 hP hS => ?_)
    refine lv_bipush (v := 7) hx hb dX8_dataOf_23 (by decide) ?_
    refine lv_icmp_eq (tgt := 31) hx hb dX8_dataOf_25 (by decide) (fun c8 => ?_) (fun c8 => ?_)
    · have h := x_t (show r7 = 7 from c8) h
      refine lv_iconst (v := 0) hx hb dX8_dataOf_31 (by decide) ?_
      refine lv_istore_n (lv' := [(3, .int 0), (0, .ref (ad 0)), (1, .int x1), (2, .int x2)]) hx hb dX8_dataOf_32 rfl hl (by decide) rfl (fun ls hl => ?_)
      refine lv_iconst (v := 0) hx hb dX8_dataOf_33 (by decide) ?_
      refine lv_istore (lv' := [(4, .int 0), (3, .int 0), (0, .ref (ad 0)), (1, .int x1), (2, .int x2)]) hx hb dX8_dataOf_34 hl (by decide) rfl (fun ls hl => ?_)
      exact L36 F x1 x2 0 0 D7 _ _ _ h hP hS (lv_sub hl [2, 3, 4, 1, 0] rfl)
    · have h := x_f (show ¬ (r7 = 7) from c8) h
      refine lv_bipush (v := 22) hx hb dX8_dataOf_28 (by decide) ?_
      exact x_iret hx hb hr hlocks rfl hP hS h dX8_dataOf_30
  have hl := lv_entry ([.ref (ad 0), .int a1]) (n := 6) (Nat.le_of_ble_eq_true rfl)
  rw [lg_entry_eq]
  generalize (lg_sl ([.ref (ad 0), .int a1]) ++ List.replicate (6 - (lg_sl ([.ref (ad 0), .int a1])).length) Slot.unset).toArray = ls at hl ⊢
  have hl : lv_has ls 6 [(0, .ref (ad 0)), (1, .int a1)] := hl
  have hP : va_P dd vwCl (wW Y MG ad D0) s.heap := hP
  generalize D0 = D at h hP
  have h : ((if D 0 16 = 0 then none else (if inB (jrem ((D 0 17) + 1) (D 0 16)) ((gN MG) 7) = true then (P_X8_dataOf_17 (gN MG) F a1 (D 7 (Int32.toNatClampNeg (jrem ((D 0 17) + 1) (D 0 16)))) D) else none)) : Rs) = some (r0, D') := h
  refine lv_aload_n hx hb dX8_dataOf_0 rfl (lv_at hl 0 rfl) ?_
  refine x_get hx hb ht0 u_X8 hown hK hP (mk_0).1 (ce8 (mk_0).2) rfl 15 (by decide) (ht0 _ m_FL_X8_34) rfl (rfv (G := MG) (c := 0) (k := 15) (c' := 7) rfl) dX8_dataOf_1 ?_
  refine lv_aload_n hx hb dX8_dataOf_4 rfl (lv_at hl 0 rfl) ?_
  refine x_get hx hb ht0 u_X8 hown hK hP (mk_0).1 (ce8 (mk_0).2) rfl 17 (by decide) (ht0 _ m_FL_X8_110) rfl rfl dX8_dataOf_5 ?_
  refine lv_iconst (v := 1) hx hb dX8_dataOf_8 (by decide) ?_
  refine lv_iadd hx hb dX8_dataOf_9 ?_
  refine lv_aload_n hx hb dX8_dataOf_10 rfl (lv_at hl 0 rfl) ?_
  refine x_get hx hb ht0 u_X8 hown hK hP (mk_0).1 (ce8 (mk_0).2) rfl 16 (by decide) (ht0 _ m_FL_X8_83) rfl rfl dX8_dataOf_11 ?_
  obtain ⟨z9, h⟩ := x_ifn h
  refine lv_irem hx hb dX8_dataOf_14 z9 ?_
  obtain ⟨b10, h⟩ := x_if h
  refine x_ald hx hb hK hP mk_7 b10 dX8_dataOf_15 ?_
  refine lv_istore_n (lv' := [(2, .int (D 7 (Int32.toNatClampNeg (jrem ((D 0 17) + 1) (D 0 16))))), (0, .ref (ad 0)), (1, .int a1)]) hx hb dX8_dataOf_16 rfl hl (by decide) rfl (fun ls hl => ?_)
  exact L17 a1 (D 7 (Int32.toNatClampNeg (jrem ((D 0 17) + 1) (D 0 16)))) D _ _ _ h hP hS (lv_sub hl [1, 2, 0] rfl)
abbrev rm_X8_readBlock : Room := { frames := 6, cells := 0, slots := 0, locals := 139 }
set_option maxHeartbeats 4000000 in
set_option maxRecDepth 100000 in
theorem c_X8_readBlock (l : Launch) (dd : Dd) (Y : Yc) (t : Ts3) (ad : Nat → Nat) (ij : Ij MG ad) (F : Nat) (a1 a2 : Int32) (D0 D' : Mm) (r0 : Int32) (h : P_X8_readBlock (gN MG) F a1 a2 D0 = some (r0, D')) : Met l yX8_readBlock wzX8_readBlock rm_X8_readBlock (va_Pc [.ref (ad 0), .int a1, .int a2] (Wd dd Y t MG ad D0)) (Qi dd Y MG ad .int r0 D') 0 0 (pA MG ad) := by
  refine Met.ofW (cc := cX8_readBlock) (maxL := 4) (ret := (some .int)) (by decide) rfl ?_
  intro p e s m args below meth c s₁ B hml hv
  obtain ⟨rfl, hP, hK, hT⟩ := hv
  have hx := B.exec
  have hb := B.bytes
  have hr := B.returns
  have ht0 : ∀ w ∈ W0, w.before _ s = true := fun w h => atoms_spec (ws := wzX8_readBlock) B.pre w (List.mem_cons_of_mem _ h)
  have hown : s.vm.findClass RX8 = some m.cls := findClass_of_methodNamed B.named
  have hlocks := B.notSynchronized
  have hS : va_S (pA MG ad) s.heap s.heap [] := va_S.rf
  have L57 : ∀ (x3 : Int32) (D : Mm) (H : Heap) (locs : List Loc) (ls : Array Slot), P_X8_readBlock_57 (gN MG) F x3 D = some (r0, D') → va_P dd vwCl (wW Y MG ad D) H → va_S (pA MG ad) s.heap H locs → lv_has ls 4 [(3, .int x3)] → W p l e (headSpec wzX8_readBlock rm_X8_readBlock).room s m ([.ref (ad 0), .int a1, .int a2].toArray) below meth c H locs 0 0 (MQ below (Qi dd Y MG ad .int r0 D') ([.ref (ad 0), .int a1, .int a2].toArray) s 0 0 (pA MG ad)) (F0 m 57 ls []) := by
    intro x3 D H locs ls h hP hS hl
    have h : ((some (x3, D)) : Rs) = some (r0, D') := h
    refine lv_iload_n hx hb dX8_readBlock_57 rfl (lv_at hl 0 rfl) ?_
    exact x_iret hx hb hr hlocks rfl hP hS h dX8_readBlock_58
  have L20 : ∀ (s0 : Int32) (D : Mm) (H : Heap) (locs : List Loc) (ls : Array Slot), P_X8_readBlock_20 (gN MG) F s0 D = some (r0, D') → va_P dd vwCl (wW Y MG ad D) H → va_S (pA MG ad) s.heap H locs → lv_has ls 4 [(0, .ref (ad 0))] → W p l e (headSpec wzX8_readBlock rm_X8_readBlock).room s m ([.ref (ad 0), .int a1, .int a2].toArray) below meth c H locs 0 0 (MQ below (Qi dd Y MG ad .int r0 D') ([.ref (ad 0), .int a1, .int a2].toArray) s 0 0 (pA MG ad)) (F0 m 20 ls [.int s0]) := by
    intro s0 D H locs ls h hP hS hl
    have h : ((if s0 = 0 then (if s0 = 0 then (P_X8_readBlock_57 (gN MG) F s0 (up2 (up2 D 0 12 ((D 0 12) + 1)) 0 14 (((up2 D 0 12 ((D 0 12) + 1)) 0 14) + 0))) else (P_X8_readBlock_57 (gN MG) F s0 (up2 (up2 D 0 12 ((D 0 12) + 1)) 0 14 (((up2 D 0 12 ((D 0 12) + 1)) 0 14) + 1)))) else (if s0 = 0 then (P_X8_readBlock_57 (gN MG) F s0 (up2 (up2 D 0 12 ((D 0 12) + 0)) 0 14 (((up2 D 0 12 ((D 0 12) + 0)) 0 14) + 0))) else (P_X8_readBlock_57 (gN MG) F s0 (up2 (up2 D 0 12 ((D 0 12) + 0)) 0 14 (((up2 D 0 12 ((D 0 12) + 0)) 0 14) + 1))))) : Rs) = some (r0, D') := h
    refine lv_istore_n (lv' := [(3, .int s0), (0, .ref (ad 0))]) hx hb dX8_readBlock_20 rfl hl (by decide) rfl (fun ls hl => ?_)
    refine lv_aload_n hx hb dX8_readBlock_21 rfl (lv_at hl 1 rfl) ?_
    refine lv_dup hx hb dX8_readBlock_22 rfl ?_
    refine x_get hx hb ht0 u_X8 hown hK hP (mk_0).1 (ce8 (mk_0).2) rfl 12 (by decide) (ht0 _ m_FL_X8_122) rfl rfl dX8_readBlock_23 ?_
    refine lv_iload_n hx hb dX8_readBlock_26 rfl (lv_at hl 0 rfl) ?_
    refine lv_if_ne (tgt := 34) hx hb dX8_readBlock_27 (by decide) (fun c1 => ?_) (fun c1 => ?_)
    · have h := x_f (show ¬ (s0 = 0) from c1) h
      refine lv_iconst (v := 0) hx hb dX8_readBlock_34 (by decide) ?_
      refine lv_iadd hx hb dX8_readBlock_35 ?_
      refine x_put (ty := .int) hx hb ht0 u_X8 tyX8 tyX8_ok nmX8 hown hK ij hP hS (mk_0).1 (ce8 (mk_0).2) rfl 12 (by decide) (ht0 _ m_FL_X8_122) rfl rfl (by decide +kernel) rfl rfl (Nat.le_of_ble_eq_true rfl) (by rw [(mk_0).2]; rfl) dX8_readBlock_36 (fun H locs hP hS => ?_)
      refine lv_aload_n hx hb dX8_readBlock_39 rfl (lv_at hl 1 rfl) ?_
      refine lv_dup hx hb dX8_readBlock_40 rfl ?_
      refine x_get hx hb ht0 u_X8 hown hK hP (mk_0).1 (ce8 (mk_0).2) rfl 14 (by decide) (ht0 _ m_FL_X8_125) rfl rfl dX8_readBlock_41 ?_
      refine lv_iload_n hx hb dX8_readBlock_44 rfl (lv_at hl 0 rfl) ?_
      refine lv_if_ne (tgt := 52) hx hb dX8_readBlock_45 (by decide) (fun c2 => ?_) (fun c2 => ?_)
      · have h := x_f (show ¬ (s0 = 0) from c2) h
        refine lv_iconst (v := 1) hx hb dX8_readBlock_52 (by decide) ?_
        refine lv_iadd hx hb dX8_readBlock_53 ?_
        refine x_put (ty := .int) hx hb ht0 u_X8 tyX8 tyX8_ok nmX8 hown hK ij hP hS (mk_0).1 (ce8 (mk_0).2) rfl 14 (by decide) (ht0 _ m_FL_X8_125) rfl rfl (by decide +kernel) rfl rfl (Nat.le_of_ble_eq_true rfl) (by rw [(mk_0).2]; rfl) dX8_readBlock_54 (fun H locs hP hS => ?_)
        exact L57 s0 (up2 (up2 D 0 12 ((D 0 12) + 0)) 0 14 (((up2 D 0 12 ((D 0 12) + 0)) 0 14) + 1)) _ _ _ h hP hS (lv_sub hl [0] rfl)
      · have h := x_t (show s0 = 0 from c2) h
        refine lv_iconst (v := 0) hx hb dX8_readBlock_48 (by decide) ?_
        refine lv_goto (tgt := 53) hx hb dX8_readBlock_49 (by decide) ?_
        refine lv_iadd hx hb dX8_readBlock_53 ?_
        refine x_put (ty := .int) hx hb ht0 u_X8 tyX8 tyX8_ok nmX8 hown hK ij hP hS (mk_0).1 (ce8 (mk_0).2) rfl 14 (by decide) (ht0 _ m_FL_X8_125) rfl rfl (by decide +kernel) rfl rfl (Nat.le_of_ble_eq_true rfl) (by rw [(mk_0).2]; rfl) dX8_readBlock_54 (fun H locs hP hS => ?_)
        exact L57 s0 (up2 (up2 D 0 12 ((D 0 12) + 0)) 0 14 (((up2 D 0 12 ((D 0 12) + 0)) 0 14) + 0)) _ _ _ h hP hS (lv_sub hl [0] rfl)
    · have h := x_t (show s0 = 0 from c1) h
      refine lv_iconst (v := 1) hx hb dX8_readBlock_30 (by decide) ?_
      refine lv_goto (tgt := 35) hx hb dX8_readBlock_31 (by decide) ?_
      refine lv_iadd hx hb dX8_readBlock_35 ?_
      refine x_put (ty := .int) hx hb ht0 u_X8 tyX8 tyX8_ok nmX8 hown hK ij hP hS (mk_0).1 (ce8 (mk_0).2) rfl 12 (by decide) (ht0 _ m_FL_X8_122) rfl rfl (by decide +kernel) rfl rfl (Nat.le_of_ble_eq_true rfl) (by rw [(mk_0).2]; rfl) dX8_readBlock_36 (fun H locs hP hS => ?_)
      refine lv_aload_n hx hb dX8_readBlock_39 rfl (lv_at hl 1 rfl) ?_
      refine lv_dup hx hb dX8_readBlock_40 rfl ?_
      refine x_get hx hb ht0 u_X8 hown hK hP (mk_0).1 (ce8 (mk_0).2) rfl 14 (by decide) (ht0 _ m_FL_X8_125) rfl rfl dX8_readBlock_41 ?_
      refine lv_iload_n hx hb dX8_readBlock_44 rfl (lv_at hl 0 rfl) ?_
      refine lv_if_ne (tgt := 52) hx hb dX8_readBlock_45 (by decide) (fun c3 => ?_) (fun c3 => ?_)
      · have h := x_f (show ¬ (s0 = 0) from c3) h
        refine lv_iconst (v := 1) hx hb dX8_readBlock_52 (by decide) ?_
        refine lv_iadd hx hb dX8_readBlock_53 ?_
        refine x_put (ty := .int) hx hb ht0 u_X8 tyX8 tyX8_ok nmX8 hown hK ij hP hS (mk_0).1 (ce8 (mk_0).2) rfl 14 (by decide) (ht0 _ m_FL_X8_125) rfl rfl (by decide +kernel) rfl rfl (Nat.le_of_ble_eq_true rfl) (by rw [(mk_0).2]; rfl) dX8_readBlock_54 (fun H locs hP hS => ?_)
        exact L57 s0 (up2 (up2 D 0 12 ((D 0 12) + 1)) 0 14 (((up2 D 0 12 ((D 0 12) + 1)) 0 14) + 1)) _ _ _ h hP hS (lv_sub hl [0] rfl)
      · have h := x_t (show s0 = 0 from c3) h
        refine lv_iconst (v := 0) hx hb dX8_readBlock_48 (by decide) ?_
        refine lv_goto (tgt := 53) hx hb dX8_readBlock_49 (by decide) ?_
        refine lv_iadd hx hb dX8_readBlock_53 ?_
        refine x_put (ty := .int) hx hb ht0 u_X8 tyX8 tyX8_ok nmX8 hown hK ij hP hS (mk_0).1 (ce8 (mk_0).2) rfl 14 (by decide) (ht0 _ m_FL_X8_125) rfl rfl (by decide +kernel) rfl rfl (Nat.le_of_ble_eq_true rfl) (by rw [(mk_0).2]; rfl) dX8_readBlock_54 (fun H locs hP hS => ?_)
        exact L57 s0 (up2 (up2 D 0 12 ((D 0 12) + 1)) 0 14 (((up2 D 0 12 ((D 0 12) + 1)) 0 14) + 0)) _ _ _ h hP hS (lv_sub hl [0] rfl)
  have hl := lv_entry ([.ref (ad 0), .int a1, .int a2]) (n := 4) (Nat.le_of_ble_eq_true rfl)
  rw [lg_entry_eq]
  generalize (lg_sl ([.ref (ad 0), .int a1, .int a2]) ++ List.replicate (4 - (lg_sl ([.ref (ad 0), .int a1, .int a2])).length) Slot.unset).toArray = ls at hl ⊢
  have hl : lv_has ls 4 [(0, .ref (ad 0)), (1, .int a1), (2, .int a2)] := hl
  have hP : va_P dd vwCl (wW Y MG ad D0) s.heap := hP
  generalize D0 = D at h hP
  have h : ((bi (P_X8_seek (gN MG) F a1 a2 D) (fun r4 D4 => if r4 = 0 then (bi (P_X8_dataOf (gN MG) F a1 D4) (fun r6 D6 => P_X8_readBlock_20 (gN MG) F r6 D6)) else (P_X8_readBlock_20 (gN MG) F r4 D4))) : Rs) = some (r0, D') := h
  refine lv_aload_n hx hb dX8_readBlock_0 rfl (lv_at hl 0 rfl) ?_
  refine lv_iload_n hx hb dX8_readBlock_1 rfl (lv_at hl 1 rfl) ?_
  refine lv_iload_n hx hb dX8_readBlock_2 rfl (lv_at hl 2 rfl) ?_
  obtain ⟨r4, D4, hc4, h⟩ := bi_some h
  refine x_callVi (As := [.int a1, .int a2]) ⟨hx, hb, hml, hown, ht0⟩ hK hT hP hS (c_X8_seek l dd Y t ad ij F a1 a2 _ _ _ hc4) m_ML_X8_116 sv_X8_seek hd_X8_seek rfl rfl ⟨Nat.le_of_ble_eq_true rfl, Nat.le_of_ble_eq_true rfl⟩ (mk_0).1 (ce8 (mk_0).2) rfl rfl hl.1 rfl (Nat.le_of_ble_eq_true rfl) dX8_readBlock_3 ⟨Nat.zero_le _, Nat.zero_le _⟩ (fun H locs hn_r4 hP hS => ?_)
  refine lv_istore_n (lv' := [(3, .int r4), (0, .ref (ad 0)), (1, .int a1), (2, .int a2)]) hx hb dX8_readBlock_6 rfl hl (by decide) rfl (fun ls hl => ?_)
  refine lv_iload_n hx hb dX8_readBlock_7 rfl (lv_at hl 0 rfl) ?_
  refine lv_if_ne (tgt := 19) hx hb dX8_readBlock_8 (by decide) (fun c5 => ?_) (fun c5 => ?_)
  · have h := x_f (show ¬ (r4 = 0) from c5) h
    refine lv_iload_n hx hb dX8_readBlock_19 rfl (lv_at hl 0 rfl) ?_
    exact L20 r4 D4 _ _ _ h hP hS (lv_sub hl [1] rfl)
  · have h := x_t (show r4 = 0 from c5) h
    refine lv_aload_n hx hb dX8_readBlock_11 rfl (lv_at hl 1 rfl) ?_
    refine lv_iload_n hx hb dX8_readBlock_12 rfl (lv_at hl 2 rfl) ?_
    obtain ⟨r6, D6, hc6, h⟩ := bi_some h
    refine x_callVi (As := [.int a1]) ⟨hx, hb, hml, hown, ht0⟩ hK hT hP hS (c_X8_dataOf l dd Y t ad ij F a1 _ _ _ hc6) m_ML_X8_119 sv_X8_dataOf hd_X8_dataOf rfl rfl ⟨Nat.le_of_ble_eq_true rfl, Nat.le_of_ble_eq_true rfl⟩ (mk_0).1 (ce8 (mk_0).2) rfl rfl hl.1 rfl (Nat.le_of_ble_eq_true rfl) dX8_readBlock_13 ⟨Nat.zero_le _, Nat.zero_le _⟩ (fun H locs hn_r6 hP hS => ?_)
    refine lv_goto (tgt := 20) hx hb dX8_readBlock_16 (by decide) ?_
    exact L20 r6 D6 _ _ _ h hP hS (lv_sub hl [1] rfl)
abbrev rm_X8_writeBlock : Room := { frames := 6, cells := 0, slots := 0, locals := 139 }
set_option maxHeartbeats 4000000 in
set_option maxRecDepth 100000 in
theorem c_X8_writeBlock (l : Launch) (dd : Dd) (Y : Yc) (t : Ts3) (ad : Nat → Nat) (ij : Ij MG ad) (F : Nat) (a1 a2 : Int32) (D0 D' : Mm) (r0 : Int32) (h : P_X8_writeBlock (gN MG) F a1 a2 D0 = some (r0, D')) : Met l yX8_writeBlock wzX8_writeBlock rm_X8_writeBlock (va_Pc [.ref (ad 0), .int a1, .int a2] (Wd dd Y t MG ad D0)) (Qi dd Y MG ad .int r0 D') 0 0 (pA MG ad) := by
  refine Met.ofW (cc := cX8_writeBlock) (maxL := 4) (ret := (some .int)) (by decide) rfl ?_
  intro p e s m args below meth c s₁ B hml hv
  obtain ⟨rfl, hP, hK, hT⟩ := hv
  have hx := B.exec
  have hb := B.bytes
  have hr := B.returns
  have ht0 : ∀ w ∈ W0, w.before _ s = true := fun w h => atoms_spec (ws := wzX8_writeBlock) B.pre w (List.mem_cons_of_mem _ h)
  have hown : s.vm.findClass RX8 = some m.cls := findClass_of_methodNamed B.named
  have hlocks := B.notSynchronized
  have hS : va_S (pA MG ad) s.heap s.heap [] := va_S.rf
  have L52 : ∀ (D : Mm) (H : Heap) (locs : List Loc) (ls : Array Slot), P_X8_writeBlock_52 (gN MG) F D = some (r0, D') → va_P dd vwCl (wW Y MG ad D) H → va_S (pA MG ad) s.heap H locs → lv_has ls 4 [(0, .ref (ad 0))] → W p l e (headSpec wzX8_writeBlock rm_X8_writeBlock).room s m ([.ref (ad 0), .int a1, .int a2].toArray) below meth c H locs 0 0 (MQ below (Qi dd Y MG ad .int r0 D') ([.ref (ad 0), .int a1, .int a2].toArray) s 0 0 (pA MG ad)) (F0 m 52 ls []) := by
    intro D H locs ls h hP hS hl
    have h : ((bi (P_X8_putData (gN MG) F D) (fun r1 D1 => bi (P_X8_putBits (gN MG) F 85 8 D1) (fun r2 D2 => some (0, up2 D2 0 13 ((D2 0 13) + 1))))) : Rs) = some (r0, D') := h
    refine lv_aload_n hx hb dX8_writeBlock_52 rfl (lv_at hl 0 rfl) ?_
    obtain ⟨r1, D1, hc1, h⟩ := bi_some h
    refine x_callVv (As := []) ⟨hx, hb, hml, hown, ht0⟩ hK hT hP hS (c_X8_putData l dd Y t ad ij F  _ _ _ hc1) m_ML_X8_128 sv_X8_putData hd_X8_putData rfl rfl ⟨Nat.le_of_ble_eq_true rfl, Nat.le_of_ble_eq_true rfl⟩ (mk_0).1 (ce8 (mk_0).2) rfl rfl hl.1 rfl (Nat.le_of_ble_eq_true rfl) dX8_writeBlock_53 ⟨Nat.zero_le _, Nat.zero_le _⟩ (fun H locs hP hS => ?_)
    refine lv_aload_n hx hb dX8_writeBlock_56 rfl (lv_at hl 0 rfl) ?_
    refine lv_bipush (v := 85) hx hb dX8_writeBlock_57 (by decide) ?_
    refine lv_bipush (v := 8) hx hb dX8_writeBlock_59 (by decide) ?_
    obtain ⟨r2, D2, hc2, h⟩ := bi_some h
    refine x_callVv (As := [.int 85, .int 8]) ⟨hx, hb, hml, hown, ht0⟩ hK hT hP hS (c_X8_putBits l dd Y t ad ij F 85 8 _ _ _ hc2) m_ML_X8_92 sv_X8_putBits hd_X8_putBits rfl rfl ⟨Nat.le_of_ble_eq_true rfl, Nat.le_of_ble_eq_true rfl⟩ (mk_0).1 (ce8 (mk_0).2) rfl rfl hl.1 rfl (Nat.le_of_ble_eq_true rfl) dX8_writeBlock_61 ⟨Nat.zero_le _, Nat.zero_le _⟩ (fun H locs hP hS => ?_)
    refine lv_aload_n hx hb dX8_writeBlock_64 rfl (lv_at hl 0 rfl) ?_
    refine lv_dup hx hb dX8_writeBlock_65 rfl ?_
    refine x_get hx hb ht0 u_X8 hown hK hP (mk_0).1 (ce8 (mk_0).2) rfl 13 (by decide) (ht0 _ m_FL_X8_131) rfl rfl dX8_writeBlock_66 ?_
    refine lv_iconst (v := 1) hx hb dX8_writeBlock_69 (by decide) ?_
    refine lv_iadd hx hb dX8_writeBlock_70 ?_
    refine x_put (ty := .int) hx hb ht0 u_X8 tyX8 tyX8_ok nmX8 hown hK ij hP hS (mk_0).1 (ce8 (mk_0).2) rfl 13 (by decide) (ht0 _ m_FL_X8_131) rfl rfl (by decide +kernel) rfl rfl (Nat.le_of_ble_eq_true rfl) (by rw [(mk_0).2]; rfl) dX8_writeBlock_71 (fun H locs hP hS => ?_)
    refine lv_iconst (v := 0) hx hb dX8_writeBlock_74 (by decide) ?_
    exact x_iret hx hb hr hlocks rfl hP hS h dX8_writeBlock_75
  have L21 : ∀ (x1 x3 s1 s2 : Int32) (D : Mm) (H : Heap) (locs : List Loc) (ls : Array Slot), P_X8_writeBlock_21 (gN MG) F x1 x3 s1 s2 D = some (r0, D') → va_P dd vwCl (wW Y MG ad D) H → va_S (pA MG ad) s.heap H locs → lv_has ls 4 [(0, .ref (ad 0)), (1, .int x1), (3, .int x3)] → W p l e (headSpec wzX8_writeBlock rm_X8_writeBlock).room s m ([.ref (ad 0), .int a1, .int a2].toArray) below meth c H locs 0 0 (MQ below (Qi dd Y MG ad .int r0 D') ([.ref (ad 0), .int a1, .int a2].toArray) s 0 0 (pA MG ad)) (F0 m 21 ls [.int s2, .int s1, .ref (ad 0)]) := by
    intro x1 x3 s1 s2 D H locs ls h hP hS hl
    have h : ((if x3 ≤ 0 then (if inB ((up2 (up2 D 0 14 (s1 + s2)) 0 29 x1) 0 17) ((gN MG) 7) = true then (P_X8_writeBlock_52 (gN MG) F (up2 (up2 (up2 D 0 14 (s1 + s2)) 0 29 x1) 0 30 (((up2 (up2 D 0 14 (s1 + s2)) 0 29 x1) 7 (Int32.toNatClampNeg ((up2 (up2 D 0 14 (s1 + s2)) 0 29 x1) 0 17))) + 108))) else none) else (some (x3, up2 D 0 14 (s1 + s2)))) : Rs) = some (r0, D') := h
    refine lv_iadd hx hb dX8_writeBlock_21 ?_
    refine x_put (ty := .int) hx hb ht0 u_X8 tyX8 tyX8_ok nmX8 hown hK ij hP hS (mk_0).1 (ce8 (mk_0).2) rfl 14 (by decide) (ht0 _ m_FL_X8_125) rfl rfl (by decide +kernel) rfl rfl (Nat.le_of_ble_eq_true rfl) (by rw [(mk_0).2]; rfl) dX8_writeBlock_22 (fun H locs hP hS => ?_)
    refine lv_iload_n hx hb dX8_writeBlock_25 rfl (lv_at hl 2 rfl) ?_
    refine lv_if_le (tgt := 31) hx hb dX8_writeBlock_26 (by decide) (fun c3 => ?_) (fun c3 => ?_)
    · have h := x_t (show x3 ≤ 0 from c3) h
      refine lv_aload_n hx hb dX8_writeBlock_31 rfl (lv_at hl 0 rfl) ?_
      refine lv_iload_n hx hb dX8_writeBlock_32 rfl (lv_at hl 1 rfl) ?_
      refine x_put (ty := .int) hx hb ht0 u_X8 tyX8 tyX8_ok nmX8 hown hK ij hP hS (mk_0).1 (ce8 (mk_0).2) rfl 29 (by decide) (ht0 _ m_FL_X8_86) rfl rfl (by decide +kernel) rfl rfl (Nat.le_of_ble_eq_true rfl) (by rw [(mk_0).2]; rfl) dX8_writeBlock_33 (fun H locs hP hS => ?_)
      refine lv_aload_n hx hb dX8_writeBlock_36 rfl (lv_at hl 0 rfl) ?_
      refine lv_aload_n hx hb dX8_writeBlock_37 rfl (lv_at hl 0 rfl) ?_
      refine x_get hx hb ht0 u_X8 hown hK hP (mk_0).1 (ce8 (mk_0).2) rfl 15 (by decide) (ht0 _ m_FL_X8_34) rfl (rfv (G := MG) (c := 0) (k := 15) (c' := 7) rfl) dX8_writeBlock_38 ?_
      refine lv_aload_n hx hb dX8_writeBlock_41 rfl (lv_at hl 0 rfl) ?_
      refine x_get hx hb ht0 u_X8 hown hK hP (mk_0).1 (ce8 (mk_0).2) rfl 17 (by decide) (ht0 _ m_FL_X8_110) rfl rfl dX8_writeBlock_42 ?_
      obtain ⟨b4, h⟩ := x_if h
      refine x_ald hx hb hK hP mk_7 b4 dX8_writeBlock_45 ?_
      refine lv_bipush (v := 108) hx hb dX8_writeBlock_46 (by decide) ?_
      refine lv_iadd hx hb dX8_writeBlock_48 ?_
      refine x_put (ty := .int) hx hb ht0 u_X8 tyX8 tyX8_ok nmX8 hown hK ij hP hS (mk_0).1 (ce8 (mk_0).2) rfl 30 (by decide) (ht0 _ m_FL_X8_89) rfl rfl (by decide +kernel) rfl rfl (Nat.le_of_ble_eq_true rfl) (by rw [(mk_0).2]; rfl) dX8_writeBlock_49 (fun H locs hP hS => ?_)
      exact L52 (up2 (up2 (up2 D 0 14 (s1 + s2)) 0 29 x1) 0 30 (((up2 (up2 D 0 14 (s1 + s2)) 0 29 x1) 7 (Int32.toNatClampNeg ((up2 (up2 D 0 14 (s1 + s2)) 0 29 x1) 0 17))) + 108)) _ _ _ h hP hS (lv_sub hl [0] rfl)
    · have h := x_f (show ¬ (x3 ≤ 0) from c3) h
      refine lv_iload_n hx hb dX8_writeBlock_29 rfl (lv_at hl 2 rfl) ?_
      exact x_iret hx hb hr hlocks rfl hP hS h dX8_writeBlock_30
  have hl := lv_entry ([.ref (ad 0), .int a1, .int a2]) (n := 4) (Nat.le_of_ble_eq_true rfl)
  rw [lg_entry_eq]
  generalize (lg_sl ([.ref (ad 0), .int a1, .int a2]) ++ List.replicate (4 - (lg_sl ([.ref (ad 0), .int a1, .int a2])).length) Slot.unset).toArray = ls at hl ⊢
  have hl : lv_has ls 4 [(0, .ref (ad 0)), (1, .int a1), (2, .int a2)] := hl
  have hP : va_P dd vwCl (wW Y MG ad D0) s.heap := hP
  generalize D0 = D at h hP
  have h : ((bi (P_X8_seek (gN MG) F a1 a2 D) (fun r5 D5 => if r5 = 0 then (P_X8_writeBlock_21 (gN MG) F a1 r5 (D5 0 14) 0 D5) else (P_X8_writeBlock_21 (gN MG) F a1 r5 (D5 0 14) 1 D5))) : Rs) = some (r0, D') := h
  refine lv_aload_n hx hb dX8_writeBlock_0 rfl (lv_at hl 0 rfl) ?_
  refine lv_iload_n hx hb dX8_writeBlock_1 rfl (lv_at hl 1 rfl) ?_
  refine lv_iload_n hx hb dX8_writeBlock_2 rfl (lv_at hl 2 rfl) ?_
  obtain ⟨r5, D5, hc5, h⟩ := bi_some h
  refine x_callVi (As := [.int a1, .int a2]) ⟨hx, hb, hml, hown, ht0⟩ hK hT hP hS (c_X8_seek l dd Y t ad ij F a1 a2 _ _ _ hc5) m_ML_X8_116 sv_X8_seek hd_X8_seek rfl rfl ⟨Nat.le_of_ble_eq_true rfl, Nat.le_of_ble_eq_true rfl⟩ (mk_0).1 (ce8 (mk_0).2) rfl rfl hl.1 rfl (Nat.le_of_ble_eq_true rfl) dX8_writeBlock_3 ⟨Nat.zero_le _, Nat.zero_le _⟩ (fun H locs hn_r5 hP hS => ?_)
  refine lv_istore_n (lv' := [(3, .int r5), (0, .ref (ad 0)), (1, .int a1), (2, .int a2)]) hx hb dX8_writeBlock_6 rfl hl (by decide) rfl (fun ls hl => ?_)
  refine lv_aload_n hx hb dX8_writeBlock_7 rfl (lv_at hl 1 rfl) ?_
  refine lv_dup hx hb dX8_writeBlock_8 rfl ?_
  refine x_get hx hb ht0 u_X8 hown hK hP (mk_0).1 (ce8 (mk_0).2) rfl 14 (by decide) (ht0 _ m_FL_X8_125) rfl rfl dX8_writeBlock_9 ?_
  refine lv_iload_n hx hb dX8_writeBlock_12 rfl (lv_at hl 0 rfl) ?_
  refine lv_if_ne (tgt := 20) hx hb dX8_writeBlock_13 (by decide) (fun c6 => ?_) (fun c6 => ?_)
  · have h := x_f (show ¬ (r5 = 0) from c6) h
    refine lv_iconst (v := 1) hx hb dX8_writeBlock_20 (by decide) ?_
    exact L21 a1 r5 (D5 0 14) 1 D5 _ _ _ h hP hS (lv_sub hl [1, 2, 0] rfl)
  · have h := x_t (show r5 = 0 from c6) h
    refine lv_iconst (v := 0) hx hb dX8_writeBlock_16 (by decide) ?_
    refine lv_goto (tgt := 21) hx hb dX8_writeBlock_17 (by decide) ?_
    exact L21 a1 r5 (D5 0 14) 0 D5 _ _ _ h hP hS (lv_sub hl [1, 2, 0] rfl)
abbrev rm_X8_ends : Room := { frames := 0, cells := 0, slots := 0, locals := 0 }
set_option maxHeartbeats 4000000 in
set_option maxRecDepth 100000 in
theorem c_X8_ends (l : Launch) (dd : Dd) (Y : Yc) (t : Ts3) (ad : Nat → Nat) (ij : Ij MG ad) (F : Nat) (a1 a2 a3 : Int32) (D0 D' : Mm) (r0 : Int32) (h : P_X8_ends (gN MG) F a1 a2 a3 D0 = some (r0, D')) : Met l yX8_ends wzX8_ends rm_X8_ends (va_Pc [.ref (ad 0), .int a1, .int a2, .int a3] (Wd dd Y t MG ad D0)) (Qi dd Y MG ad .int r0 D') 0 0 (pA MG ad) := by
  refine Met.ofW (cc := cX8_ends) (maxL := 4) (ret := (some .int)) (by decide) rfl ?_
  intro p e s m args below meth c s₁ B hml hv
  obtain ⟨rfl, hP, hK, hT⟩ := hv
  have hx := B.exec
  have hb := B.bytes
  have hr := B.returns
  have ht0 : ∀ w ∈ W0, w.before _ s = true := fun w h => atoms_spec (ws := wzX8_ends) B.pre w (List.mem_cons_of_mem _ h)
  have hown : s.vm.findClass RX8 = some m.cls := findClass_of_methodNamed B.named
  have hlocks := B.notSynchronized
  have hS : va_S (pA MG ad) s.heap s.heap [] := va_S.rf
  have hl := lv_entry ([.ref (ad 0), .int a1, .int a2, .int a3]) (n := 4) (Nat.le_of_ble_eq_true rfl)
  rw [lg_entry_eq]
  generalize (lg_sl ([.ref (ad 0), .int a1, .int a2, .int a3]) ++ List.replicate (4 - (lg_sl ([.ref (ad 0), .int a1, .int a2, .int a3])).length) Slot.unset).toArray = ls at hl ⊢
  have hl : lv_has ls 4 [(0, .ref (ad 0)), (1, .int a1), (2, .int a2), (3, .int a3)] := hl
  have hP : va_P dd vwCl (wW Y MG ad D0) s.heap := hP
  generalize D0 = D at h hP
  have h : ((some (a1, up2 (up2 (up2 D 0 9 a1) 0 10 a2) 0 11 a3)) : Rs) = some (r0, D') := h
  refine lv_aload_n hx hb dX8_ends_0 rfl (lv_at hl 0 rfl) ?_
  refine lv_iload_n hx hb dX8_ends_1 rfl (lv_at hl 1 rfl) ?_
  refine x_put (ty := .int) hx hb ht0 u_X8 tyX8 tyX8_ok nmX8 hown hK ij hP hS (mk_0).1 (ce8 (mk_0).2) rfl 9 (by decide) (ht0 _ m_FL_X8_134) rfl rfl (by decide +kernel) rfl rfl (Nat.le_of_ble_eq_true rfl) (by rw [(mk_0).2]; rfl) dX8_ends_2 (fun H locs hP hS => ?_)
  refine lv_aload_n hx hb dX8_ends_5 rfl (lv_at hl 0 rfl) ?_
  refine lv_iload_n hx hb dX8_ends_6 rfl (lv_at hl 2 rfl) ?_
  refine x_put (ty := .int) hx hb ht0 u_X8 tyX8 tyX8_ok nmX8 hown hK ij hP hS (mk_0).1 (ce8 (mk_0).2) rfl 10 (by decide) (ht0 _ m_FL_X8_137) rfl rfl (by decide +kernel) rfl rfl (Nat.le_of_ble_eq_true rfl) (by rw [(mk_0).2]; rfl) dX8_ends_7 (fun H locs hP hS => ?_)
  refine lv_aload_n hx hb dX8_ends_10 rfl (lv_at hl 0 rfl) ?_
  refine lv_iload_n hx hb dX8_ends_11 rfl (lv_at hl 3 rfl) ?_
  refine x_put (ty := .int) hx hb ht0 u_X8 tyX8 tyX8_ok nmX8 hown hK ij hP hS (mk_0).1 (ce8 (mk_0).2) rfl 11 (by decide) (ht0 _ m_FL_X8_140) rfl rfl (by decide +kernel) rfl rfl (Nat.le_of_ble_eq_true rfl) (by rw [(mk_0).2]; rfl) dX8_ends_12 (fun H locs hP hS => ?_)
  refine lv_iload_n hx hb dX8_ends_15 rfl (lv_at hl 1 rfl) ?_
  exact x_iret hx hb hr hlocks rfl hP hS h dX8_ends_16
abbrev rm_X8_begins : Room := { frames := 7, cells := 0, slots := 0, locals := 162 }
set_option maxHeartbeats 4000000 in
set_option maxRecDepth 100000 in
theorem c_X8_begins (l : Launch) (dd : Dd) (Y : Yc) (t : Ts3) (ad : Nat → Nat) (ij : Ij MG ad) (F : Nat) (D0 D' : Mm) (r0 : Int32) (h : P_X8_begins (gN MG) F D0 = some (r0, D')) : Met l yX8_begins wzX8_begins rm_X8_begins (va_Pc [.ref (ad 0)] (Wd dd Y t MG ad D0)) (Qi dd Y MG ad .boolean r0 D') 0 0 (pA MG ad) := by
  refine Met.ofW (cc := cX8_begins) (maxL := 4) (ret := (some .boolean)) (by decide) rfl ?_
  intro p e s m args below meth c s₁ B hml hv
  obtain ⟨rfl, hP, hK, hT⟩ := hv
  have hx := B.exec
  have hb := B.bytes
  have hr := B.returns
  have ht0 : ∀ w ∈ W0, w.before _ s = true := fun w h => atoms_spec (ws := wzX8_begins) B.pre w (List.mem_cons_of_mem _ h)
  have hown : s.vm.findClass RX8 = some m.cls := findClass_of_methodNamed B.named
  have hlocks := B.notSynchronized
  have hS : va_S (pA MG ad) s.heap s.heap [] := va_S.rf
  have L63 : ∀ (n : Nat), ∀ (x3 : Int32) (D : Mm) (H : Heap) (locs : List Loc) (ls : Array Slot), P_X8_begins_63 (gN MG) F n x3 D = some (r0, D') → va_P dd vwCl (wW Y MG ad D) H → va_S (pA MG ad) s.heap H locs → lv_has ls 4 [(0, .ref (ad 0)), (3, .int x3)] → W p l e (headSpec wzX8_begins rm_X8_begins).room s m ([.ref (ad 0)].toArray) below meth c H locs 0 0 (MQ below (Qi dd Y MG ad .boolean r0 D') ([.ref (ad 0)].toArray) s 0 0 (pA MG ad)) (F0 m 63 ls []) := by
    intro n
    induction n with
    | zero =>
      intro x3 D H locs ls h hP hS hl
      cases h
    | succ n ih =>
      intro x3 D H locs ls h hP hS hl
      have h : ((if 64 ≤ x3 then (some (1, D)) else (if inB x3 ((gN MG) 8) = true then (if inB x3 ((gN MG) 9) = true then (P_X8_begins_63 (gN MG) F n (x3 + 1) (up2 D 9 (Int32.toNatClampNeg x3) (D 8 (Int32.toNatClampNeg x3)))) else none) else none)) : Rs) = some (r0, D') := h
      refine lv_iload_n hx hb dX8_begins_63 rfl (lv_at hl 1 rfl) ?_
      refine lv_bipush (v := 64) hx hb dX8_begins_64 (by decide) ?_
      refine lv_icmp_ge (tgt := 87) hx hb dX8_begins_66 (by decide) (fun c1 => ?_) (fun c1 => ?_)
      · have h := x_t (show 64 ≤ x3 from c1) h
        refine lv_iconst (v := 1) hx hb dX8_begins_87 (by decide) ?_
        exact x_iret hx hb hr hlocks rfl hP hS h dX8_begins_88
      · have h := x_f (show ¬ (64 ≤ x3) from c1) h
        refine lv_aload_n hx hb dX8_begins_69 rfl (lv_at hl 0 rfl) ?_
        refine x_get hx hb ht0 u_X8 hown hK hP (mk_0).1 (ce8 (mk_0).2) rfl 19 (by decide) (ht0 _ m_FL_X8_40) rfl (rfv (G := MG) (c := 0) (k := 19) (c' := 9) rfl) dX8_begins_70 ?_
        refine lv_iload_n hx hb dX8_begins_73 rfl (lv_at hl 1 rfl) ?_
        refine lv_aload_n hx hb dX8_begins_74 rfl (lv_at hl 0 rfl) ?_
        refine x_get hx hb ht0 u_X8 hown hK hP (mk_0).1 (ce8 (mk_0).2) rfl 18 (by decide) (ht0 _ m_FL_X8_37) rfl (rfv (G := MG) (c := 0) (k := 18) (c' := 8) rfl) dX8_begins_75 ?_
        refine lv_iload_n hx hb dX8_begins_78 rfl (lv_at hl 1 rfl) ?_
        obtain ⟨b2, h⟩ := x_if h
        refine x_ald hx hb hK hP mk_8 b2 dX8_begins_79 ?_
        obtain ⟨b3, h⟩ := x_if h
        refine x_ast hx hb hK ij hP hS mk_9 b3 dX8_begins_80 (fun H locs hP hS => ?_)
        refine lv_iinc (v := x3 + 1) (lv' := [(3, .int (x3 + 1)), (0, .ref (ad 0))]) hx hb dX8_begins_81 hl (k := 1) rfl rfl (by decide) rfl (fun ls hl => ?_)
        refine lv_goto (tgt := 63) hx hb dX8_begins_84 (by decide) ?_
        exact ih (x3 + 1) (up2 D 9 (Int32.toNatClampNeg x3) (D 8 (Int32.toNatClampNeg x3))) _ _ _ h hP hS (lv_sub hl [1, 0] rfl)
  have hl := lv_entry ([.ref (ad 0)]) (n := 4) (Nat.le_of_ble_eq_true rfl)
  rw [lg_entry_eq]
  generalize (lg_sl ([.ref (ad 0)]) ++ List.replicate (4 - (lg_sl ([.ref (ad 0)])).length) Slot.unset).toArray = ls at hl ⊢
  have hl : lv_has ls 4 [(0, .ref (ad 0))] := hl
  have hP : va_P dd vwCl (wW Y MG ad D0) s.heap := hP
  generalize D0 = D at h hP
  have h : ((bi (P_X8_ends (gN MG) F 0 0 0 D) (fun r4 D4 => if 0 ≤ (D4 0 4) then (bi (P_X8_readBlock (gN MG) F 9 0 D4) (fun r6 D6 => if r6 ≤ 0 then (P_X8_begins_63 (gN MG) F F 0 D6) else (bi (P_X8_ends (gN MG) F r6 9 0 D6) (fun r8 D8 => if r8 = 0 then (some (1, D8)) else (some (0, D8)))))) else (bi (P_X8_ends (gN MG) F 74 0 0 D4) (fun r10 D10 => if r10 = 0 then (some (1, D10)) else (some (0, D10)))))) : Rs) = some (r0, D') := h
  refine lv_aload_n hx hb dX8_begins_0 rfl (lv_at hl 0 rfl) ?_
  refine lv_iconst (v := 0) hx hb dX8_begins_1 (by decide) ?_
  refine lv_iconst (v := 0) hx hb dX8_begins_2 (by decide) ?_
  refine lv_iconst (v := 0) hx hb dX8_begins_3 (by decide) ?_
  obtain ⟨r4, D4, hc4, h⟩ := bi_some h
  refine x_callVi (As := [.int 0, .int 0, .int 0]) ⟨hx, hb, hml, hown, ht0⟩ hK hT hP hS (c_X8_ends l dd Y t ad ij F 0 0 0 _ _ _ hc4) m_ML_X8_143 sv_X8_ends hd_X8_ends rfl rfl ⟨Nat.le_of_ble_eq_true rfl, Nat.le_of_ble_eq_true rfl⟩ (mk_0).1 (ce8 (mk_0).2) rfl rfl hl.1 rfl (Nat.le_of_ble_eq_true rfl) dX8_begins_4 ⟨Nat.zero_le _, Nat.zero_le _⟩ (fun H locs hn_r4 hP hS => ?_)
  refine lv_istore_n (lv' := [(1, .int r4), (0, .ref (ad 0))]) hx hb dX8_begins_7 rfl hl (by decide) rfl (fun ls hl => ?_)
  refine lv_aload_n hx hb dX8_begins_8 rfl (lv_at hl 1 rfl) ?_
  refine x_get hx hb ht0 u_X8 hown hK hP (mk_0).1 (ce8 (mk_0).2) rfl 4 (by decide) (ht0 _ m_FL_X8_24) rfl rfl dX8_begins_9 ?_
  refine lv_if_ge (tgt := 32) hx hb dX8_begins_12 (by decide) (fun c5 => ?_) (fun c5 => ?_)
  · have h := x_t (show 0 ≤ (D4 0 4) from c5) h
    refine lv_aload_n hx hb dX8_begins_32 rfl (lv_at hl 1 rfl) ?_
    refine lv_bipush (v := 9) hx hb dX8_begins_33 (by decide) ?_
    refine lv_iconst (v := 0) hx hb dX8_begins_35 (by decide) ?_
    obtain ⟨r6, D6, hc6, h⟩ := bi_some h
    refine x_callVi (As := [.int 9, .int 0]) ⟨hx, hb, hml, hown, ht0⟩ hK hT hP hS (c_X8_readBlock l dd Y t ad ij F 9 0 _ _ _ hc6) m_ML_X8_147 sv_X8_readBlock hd_X8_readBlock rfl rfl ⟨Nat.le_of_ble_eq_true rfl, Nat.le_of_ble_eq_true rfl⟩ (mk_0).1 (ce8 (mk_0).2) rfl rfl hl.1 rfl (Nat.le_of_ble_eq_true rfl) dX8_begins_36 ⟨Nat.zero_le _, Nat.zero_le _⟩ (fun H locs hn_r6 hP hS => ?_)
    refine lv_istore_n (lv' := [(2, .int r6), (1, .int r4), (0, .ref (ad 0))]) hx hb dX8_begins_39 rfl hl (by decide) rfl (fun ls hl => ?_)
    refine lv_iload_n hx hb dX8_begins_40 rfl (lv_at hl 0 rfl) ?_
    refine lv_if_le (tgt := 61) hx hb dX8_begins_41 (by decide) (fun c7 => ?_) (fun c7 => ?_)
    · have h := x_t (show r6 ≤ 0 from c7) h
      refine lv_iconst (v := 0) hx hb dX8_begins_61 (by decide) ?_
      refine lv_istore_n (lv' := [(3, .int 0), (2, .int r6), (1, .int r4), (0, .ref (ad 0))]) hx hb dX8_begins_62 rfl hl (by decide) rfl (fun ls hl => ?_)
      exact L63 F 0 D6 _ _ _ h hP hS (lv_sub hl [3, 0] rfl)
    · have h := x_f (show ¬ (r6 ≤ 0) from c7) h
      refine lv_aload_n hx hb dX8_begins_44 rfl (lv_at hl 2 rfl) ?_
      refine lv_iload_n hx hb dX8_begins_45 rfl (lv_at hl 0 rfl) ?_
      refine lv_bipush (v := 9) hx hb dX8_begins_46 (by decide) ?_
      refine lv_iconst (v := 0) hx hb dX8_begins_48 (by decide) ?_
      obtain ⟨r8, D8, hc8, h⟩ := bi_some h
      refine x_callVi (As := [.int r6, .int 9, .int 0]) ⟨hx, hb, hml, hown, ht0⟩ hK hT hP hS (c_X8_ends l dd Y t ad ij F r6 9 0 _ _ _ hc8) m_ML_X8_143 sv_X8_ends hd_X8_ends rfl rfl ⟨Nat.le_of_ble_eq_true rfl, Nat.le_of_ble_eq_true rfl⟩ (mk_0).1 (ce8 (mk_0).2) rfl rfl hl.1 rfl (Nat.le_of_ble_eq_true rfl) dX8_begins_49 ⟨Nat.zero_le _, Nat.zero_le _⟩ (fun H locs hn_r8 hP hS => ?_)
      refine lv_if_ne (tgt := 59) hx hb dX8_begins_52 (by decide) (fun c9 => ?_) (fun c9 => ?_)
      · have h := x_f (show ¬ (r8 = 0) from c9) h
        refine lv_iconst (v := 0) hx hb dX8_begins_59 (by decide) ?_
        exact x_iret hx hb hr hlocks rfl hP hS h dX8_begins_60
      · have h := x_t (show r8 = 0 from c9) h
        refine lv_iconst (v := 1) hx hb dX8_begins_55 (by decide) ?_
        refine lv_goto (tgt := 60) hx hb dX8_begins_56 (by decide) ?_
        exact x_iret hx hb hr hlocks rfl hP hS h dX8_begins_60
  · have h := x_f (show ¬ (0 ≤ (D4 0 4)) from c5) h
    refine lv_aload_n hx hb dX8_begins_15 rfl (lv_at hl 1 rfl) ?_
    refine lv_bipush (v := 74) hx hb dX8_begins_16 (by decide) ?_
    refine lv_iconst (v := 0) hx hb dX8_begins_18 (by decide) ?_
    refine lv_iconst (v := 0) hx hb dX8_begins_19 (by decide) ?_
    obtain ⟨r10, D10, hc10, h⟩ := bi_some h
    refine x_callVi (As := [.int 74, .int 0, .int 0]) ⟨hx, hb, hml, hown, ht0⟩ hK hT hP hS (c_X8_ends l dd Y t ad ij F 74 0 0 _ _ _ hc10) m_ML_X8_143 sv_X8_ends hd_X8_ends rfl rfl ⟨Nat.le_of_ble_eq_true rfl, Nat.le_of_ble_eq_true rfl⟩ (mk_0).1 (ce8 (mk_0).2) rfl rfl hl.1 rfl (Nat.le_of_ble_eq_true rfl) dX8_begins_20 ⟨Nat.zero_le _, Nat.zero_le _⟩ (fun H locs hn_r10 hP hS => ?_)
    refine lv_if_ne (tgt := 30) hx hb dX8_begins_23 (by decide) (fun c11 => ?_) (fun c11 => ?_)
    · have h := x_f (show ¬ (r10 = 0) from c11) h
      refine lv_iconst (v := 0) hx hb dX8_begins_30 (by decide) ?_
      exact x_iret hx hb hr hlocks rfl hP hS h dX8_begins_31
    · have h := x_t (show r10 = 0 from c11) h
      refine lv_iconst (v := 1) hx hb dX8_begins_26 (by decide) ?_
      refine lv_goto (tgt := 31) hx hb dX8_begins_27 (by decide) ?_
      exact x_iret hx hb hr hlocks rfl hP hS h dX8_begins_31
