abbrev rm_X4_freeBlocks : Room := { frames := 3, cells := 0, slots := 0, locals := 63 }
set_option maxHeartbeats 4000000 in
set_option maxRecDepth 100000 in
theorem c_X4_freeBlocks (l : Launch) (dd : Dd) (Y : Yc) (t : Ts3) (ad : Nat → Nat) (ij : Ij XG ad) (F : Nat) (D0 D' : Mm) (r0 : Int32) (h : P_X4_freeBlocks (gN XG) F D0 = some (r0, D')) : Met l yX4_freeBlocks wzX4_freeBlocks rm_X4_freeBlocks (va_Pc [.ref (ad 56)] (Wd dd Y t XG ad D0)) (Qi dd Y XG ad .int r0 D') 0 0 (pA XG ad) := by
  refine Met.ofW (cc := cX4_freeBlocks) (maxL := 8) (ret := (some .int)) (by decide) rfl ?_
  intro p e s m args below meth c s₁ B hml hv
  obtain ⟨rfl, hP, hK, hT⟩ := hv
  have hx := B.exec
  have hb := B.bytes
  have hr := B.returns
  have ht0 : ∀ w ∈ W0, w.before _ s = true := fun w h => atoms_spec (ws := wzX4_freeBlocks) B.pre w (List.mem_cons_of_mem _ h)
  have hown : s.vm.findClass RX4 = some m.cls := findClass_of_methodNamed B.named
  have hlocks := B.notSynchronized
  have hS : va_S (pA XG ad) s.heap s.heap [] := va_S.rf
  have L34 : ∀ (k12 : Int32 → Int32 → Int32 → Mm → Rs) (hk12 : ∀ (x1 x3 x4 : Int32) (D : Mm) (H : Heap) (locs : List Loc) (ls : Array Slot), k12 x1 x3 x4 D = some (r0, D') → va_P dd vwCl (wW Y XG ad D) H → va_S (pA XG ad) s.heap H locs → lv_has ls 8 [(0, .ref (ad 56)), (1, .int x1), (2, .ref t.2.2), (3, .int x3), (4, .int x4)] → W p l e (headSpec wzX4_freeBlocks rm_X4_freeBlocks).room s m ([.ref (ad 56)].toArray) below meth c H locs 0 0 (MQ below (Qi dd Y XG ad .int r0 D') ([.ref (ad 56)].toArray) s 0 0 (pA XG ad)) (F0 m 12 ls [])), ∀ (n : Nat), ∀ (x1 x3 x4 x5 x6 x7 : Int32) (D : Mm) (H : Heap) (locs : List Loc) (ls : Array Slot), P_X4_freeBlocks_34 (gN XG) F k12 n x1 x3 x4 x5 x6 x7 D = some (r0, D') → va_P dd vwCl (wW Y XG ad D) H → va_S (pA XG ad) s.heap H locs → lv_has ls 8 [(0, .ref (ad 56)), (1, .int x1), (2, .ref t.2.2), (3, .int x3), (4, .int x4), (5, .int x5), (6, .int x6), (7, .int x7)] → W p l e (headSpec wzX4_freeBlocks rm_X4_freeBlocks).room s m ([.ref (ad 56)].toArray) below meth c H locs 0 0 (MQ below (Qi dd Y XG ad .int r0 D') ([.ref (ad 56)].toArray) s 0 0 (pA XG ad)) (F0 m 34 ls []) := by
    intro k12 hk12 n
    induction n with
    | zero =>
      intro x1 x3 x4 x5 x6 x7 D H locs ls h hP hS hl
      cases h
    | succ n ih =>
      intro x1 x3 x4 x5 x6 x7 D H locs ls h hP hS hl
      have h : ((if x6 ≤ x7 then (k12 x1 x3 (x4 + 1) D) else (bi (P_X4_isFree (gN XG) F x5 x7 D) (fun r2 D2 => if r2 = 0 then (P_X4_freeBlocks_34 (gN XG) F k12 n (x1 + 0) x3 x4 x5 x6 (x7 + 1) D2) else (P_X4_freeBlocks_34 (gN XG) F k12 n (x1 + 1) x3 x4 x5 x6 (x7 + 1) D2)))) : Rs) = some (r0, D') := h
      refine lv_iload hx hb dX4_freeBlocks_34 (lv_at hl 7 rfl) ?_
      refine lv_iload hx hb dX4_freeBlocks_36 (lv_at hl 6 rfl) ?_
      refine lv_icmp_ge (tgt := 66) hx hb dX4_freeBlocks_38 (by decide) (fun c1 => ?_) (fun c1 => ?_)
      · have h := x_t (show x6 ≤ x7 from c1) h
        refine lv_iinc (v := x4 + 1) (lv' := [(4, .int (x4 + 1)), (0, .ref (ad 56)), (1, .int x1), (2, .ref t.2.2), (3, .int x3), (5, .int x5), (6, .int x6), (7, .int x7)]) hx hb dX4_freeBlocks_66 hl (k := 4) rfl rfl (by decide) rfl (fun ls hl => ?_)
        refine lv_goto (tgt := 12) hx hb dX4_freeBlocks_69 (by decide) ?_
        exact hk12 x1 x3 (x4 + 1) D _ _ _ h hP hS (lv_sub hl [1, 2, 3, 4, 0] rfl)
      · have h := x_f (show ¬ (x6 ≤ x7) from c1) h
        refine lv_iload_n hx hb dX4_freeBlocks_41 rfl (lv_at hl 1 rfl) ?_
        refine lv_aload_n hx hb dX4_freeBlocks_42 rfl (lv_at hl 0 rfl) ?_
        refine lv_iload hx hb dX4_freeBlocks_43 (lv_at hl 5 rfl) ?_
        refine lv_iload hx hb dX4_freeBlocks_45 (lv_at hl 7 rfl) ?_
        obtain ⟨r2, D2, hc2, h⟩ := bi_some h
        refine x_callVi (As := [.int x5, .int x7]) ⟨hx, hb, hml, hown, ht0⟩ hK hT hP hS (c_X4_isFree l dd Y t ad ij F x5 x7 _ _ _ hc2) m_ML_X4_37 sv_X4_isFree hd_X4_isFree rfl rfl ⟨Nat.le_of_ble_eq_true rfl, Nat.le_of_ble_eq_true rfl⟩ (xk_56).1 (ce4 (xk_56).2) rfl rfl hl.1 rfl (Nat.le_of_ble_eq_true rfl) dX4_freeBlocks_47 ⟨Nat.zero_le _, Nat.zero_le _⟩ (fun H locs hn_r2 hP hS => ?_)
        refine lv_if_eq (tgt := 57) hx hb dX4_freeBlocks_50 (by decide) (fun c3 => ?_) (fun c3 => ?_)
        · have h := x_t (show r2 = 0 from c3) h
          refine lv_iconst (v := 0) hx hb dX4_freeBlocks_57 (by decide) ?_
          refine lv_iadd hx hb dX4_freeBlocks_58 ?_
          refine lv_istore_n (lv' := [(1, .int (x1 + 0)), (0, .ref (ad 56)), (2, .ref t.2.2), (3, .int x3), (4, .int x4), (5, .int x5), (6, .int x6), (7, .int x7)]) hx hb dX4_freeBlocks_59 rfl hl (by decide) rfl (fun ls hl => ?_)
          refine lv_iinc (v := x7 + 1) (lv' := [(7, .int (x7 + 1)), (1, .int (x1 + 0)), (0, .ref (ad 56)), (2, .ref t.2.2), (3, .int x3), (4, .int x4), (5, .int x5), (6, .int x6)]) hx hb dX4_freeBlocks_60 hl (k := 7) rfl rfl (by decide) rfl (fun ls hl => ?_)
          refine lv_goto (tgt := 34) hx hb dX4_freeBlocks_63 (by decide) ?_
          exact ih (x1 + 0) x3 x4 x5 x6 (x7 + 1) D2 _ _ _ h hP hS (lv_sub hl [2, 1, 3, 4, 5, 6, 7, 0] rfl)
        · have h := x_f (show ¬ (r2 = 0) from c3) h
          refine lv_iconst (v := 1) hx hb dX4_freeBlocks_53 (by decide) ?_
          refine lv_goto (tgt := 58) hx hb dX4_freeBlocks_54 (by decide) ?_
          refine lv_iadd hx hb dX4_freeBlocks_58 ?_
          refine lv_istore_n (lv' := [(1, .int (x1 + 1)), (0, .ref (ad 56)), (2, .ref t.2.2), (3, .int x3), (4, .int x4), (5, .int x5), (6, .int x6), (7, .int x7)]) hx hb dX4_freeBlocks_59 rfl hl (by decide) rfl (fun ls hl => ?_)
          refine lv_iinc (v := x7 + 1) (lv' := [(7, .int (x7 + 1)), (1, .int (x1 + 1)), (0, .ref (ad 56)), (2, .ref t.2.2), (3, .int x3), (4, .int x4), (5, .int x5), (6, .int x6)]) hx hb dX4_freeBlocks_60 hl (k := 7) rfl rfl (by decide) rfl (fun ls hl => ?_)
          refine lv_goto (tgt := 34) hx hb dX4_freeBlocks_63 (by decide) ?_
          exact ih (x1 + 1) x3 x4 x5 x6 (x7 + 1) D2 _ _ _ h hP hS (lv_sub hl [2, 1, 3, 4, 5, 6, 7, 0] rfl)
  have L24 : ∀ (k12 : Int32 → Int32 → Int32 → Mm → Rs) (hk12 : ∀ (x1 x3 x4 : Int32) (D : Mm) (H : Heap) (locs : List Loc) (ls : Array Slot), k12 x1 x3 x4 D = some (r0, D') → va_P dd vwCl (wW Y XG ad D) H → va_S (pA XG ad) s.heap H locs → lv_has ls 8 [(0, .ref (ad 56)), (1, .int x1), (2, .ref t.2.2), (3, .int x3), (4, .int x4)] → W p l e (headSpec wzX4_freeBlocks rm_X4_freeBlocks).room s m ([.ref (ad 56)].toArray) below meth c H locs 0 0 (MQ below (Qi dd Y XG ad .int r0 D') ([.ref (ad 56)].toArray) s 0 0 (pA XG ad)) (F0 m 12 ls [])), ∀ (x1 x3 x4 x5 : Int32) (D : Mm) (H : Heap) (locs : List Loc) (ls : Array Slot), P_X4_freeBlocks_24 (gN XG) F k12 x1 x3 x4 x5 D = some (r0, D') → va_P dd vwCl (wW Y XG ad D) H → va_S (pA XG ad) s.heap H locs → lv_has ls 8 [(0, .ref (ad 56)), (1, .int x1), (2, .ref t.2.2), (3, .int x3), (4, .int x4), (5, .int x5)] → W p l e (headSpec wzX4_freeBlocks rm_X4_freeBlocks).room s m ([.ref (ad 56)].toArray) below meth c H locs 0 0 (MQ below (Qi dd Y XG ad .int r0 D') ([.ref (ad 56)].toArray) s 0 0 (pA XG ad)) (F0 m 24 ls []) := by
    intro k12 hk12 x1 x3 x4 x5 D H locs ls h hP hS hl
    have h : ((bi (P_X0_sectorsOf (gN XG) F x5 D) (fun r4 D4 => P_X4_freeBlocks_34 (gN XG) F k12 F x1 x3 x4 x5 r4 0 D4)) : Rs) = some (r0, D') := h
    refine lv_iload hx hb dX4_freeBlocks_24 (lv_at hl 5 rfl) ?_
    obtain ⟨r4, D4, hc4, h⟩ := bi_some h
    refine x_callSi (As := [.int x5]) ⟨hx, hb, hml, hown, ht0⟩ hK hT hP hS (c_X0_sectorsOf l dd Y t ad ij F x5 _ _ _ hc4) m_ML_X4_19 ss_X0_sectorsOf hd_X0_sectorsOf rfl rfl ⟨Nat.le_of_ble_eq_true rfl, Nat.le_of_ble_eq_true rfl⟩ rfl hl.1 rfl (Nat.le_of_ble_eq_true rfl) dX4_freeBlocks_26 ⟨Nat.zero_le _, Nat.zero_le _⟩ (fun H locs hn_r4 hP hS => ?_)
    refine lv_istore (lv' := [(6, .int r4), (0, .ref (ad 56)), (1, .int x1), (2, .ref t.2.2), (3, .int x3), (4, .int x4), (5, .int x5)]) hx hb dX4_freeBlocks_29 hl (by decide) rfl (fun ls hl => ?_)
    refine lv_iconst (v := 0) hx hb dX4_freeBlocks_31 (by decide) ?_
    refine lv_istore (lv' := [(7, .int 0), (6, .int r4), (0, .ref (ad 56)), (1, .int x1), (2, .ref t.2.2), (3, .int x3), (4, .int x4), (5, .int x5)]) hx hb dX4_freeBlocks_32 hl (by decide) rfl (fun ls hl => ?_)
    exact L34 k12 hk12 F x1 x3 x4 x5 r4 0 D4 _ _ _ h hP hS (lv_sub hl [2, 3, 4, 5, 6, 7, 1, 0] rfl)
  have L12 : ∀ (n : Nat), ∀ (x1 x3 x4 : Int32) (D : Mm) (H : Heap) (locs : List Loc) (ls : Array Slot), P_X4_freeBlocks_12 (gN XG) F n x1 x3 x4 D = some (r0, D') → va_P dd vwCl (wW Y XG ad D) H → va_S (pA XG ad) s.heap H locs → lv_has ls 8 [(0, .ref (ad 56)), (1, .int x1), (2, .ref t.2.2), (3, .int x3), (4, .int x4)] → W p l e (headSpec wzX4_freeBlocks rm_X4_freeBlocks).room s m ([.ref (ad 56)].toArray) below meth c H locs 0 0 (MQ below (Qi dd Y XG ad .int r0 D') ([.ref (ad 56)].toArray) s 0 0 (pA XG ad)) (F0 m 12 ls []) := by
    intro n
    induction n with
    | zero =>
      intro x1 x3 x4 D H locs ls h hP hS hl
      cases h
    | succ n ih =>
      intro x1 x3 x4 D H locs ls h hP hS hl
      have h : ((if x3 ≤ x4 then (some (x1, D)) else (if inB x4 15 = true then (P_X4_freeBlocks_24 (gN XG) F (fun x1 x3 x4 D => P_X4_freeBlocks_12 (gN XG) F n x1 x3 x4 D) x1 x3 x4 (tFILES (Int32.toNatClampNeg x4)) D) else none)) : Rs) = some (r0, D') := h
      refine lv_iload hx hb dX4_freeBlocks_12 (lv_at hl 4 rfl) ?_
      refine lv_iload_n hx hb dX4_freeBlocks_14 rfl (lv_at hl 3 rfl) ?_
      refine lv_icmp_ge (tgt := 72) hx hb dX4_freeBlocks_15 (by decide) (fun c5 => ?_) (fun c5 => ?_)
      · have h := x_t (show x3 ≤ x4 from c5) h
        refine lv_iload_n hx hb dX4_freeBlocks_72 rfl (lv_at hl 1 rfl) ?_
        exact x_iret hx hb hr hlocks rfl hP hS h dX4_freeBlocks_73
      · have h := x_f (show ¬ (x3 ≤ x4) from c5) h
        refine lv_aload_n hx hb dX4_freeBlocks_18 rfl (lv_at hl 2 rfl) ?_
        refine lv_iload hx hb dX4_freeBlocks_19 (lv_at hl 4 rfl) ?_
        obtain ⟨b6, h⟩ := x_if h
        refine va_ti hx hb hT.2.2.2.2.2.1 hS (inB_in b6) rfl dX4_freeBlocks_21 ?_
        refine lv_istore (lv' := [(5, .int (tFILES (Int32.toNatClampNeg x4))), (0, .ref (ad 56)), (1, .int x1), (2, .ref t.2.2), (3, .int x3), (4, .int x4)]) hx hb dX4_freeBlocks_22 hl (by decide) rfl (fun ls hl => ?_)
        exact L24 (fun x1 x3 x4 D => P_X4_freeBlocks_12 (gN XG) F n x1 x3 x4 D) ih x1 x3 x4 (tFILES (Int32.toNatClampNeg x4)) D _ _ _ h hP hS (lv_sub hl [1, 2, 3, 4, 5, 0] rfl)
  have hl := lv_entry ([.ref (ad 56)]) (n := 8) (Nat.le_of_ble_eq_true rfl)
  rw [lg_entry_eq]
  generalize (lg_sl ([.ref (ad 56)]) ++ List.replicate (8 - (lg_sl ([.ref (ad 56)])).length) Slot.unset).toArray = ls at hl ⊢
  have hl : lv_has ls 8 [(0, .ref (ad 56))] := hl
  have hP : va_P dd vwCl (wW Y XG ad D0) s.heap := hP
  generalize D0 = D at h hP
  have h : ((P_X4_freeBlocks_12 (gN XG) F F 0 15 0 D) : Rs) = some (r0, D') := h
  refine lv_iconst (v := 0) hx hb dX4_freeBlocks_0 (by decide) ?_
  refine lv_istore_n (lv' := [(1, .int 0), (0, .ref (ad 56))]) hx hb dX4_freeBlocks_1 rfl hl (by decide) rfl (fun ls hl => ?_)
  refine va_getsN hx hb hT.2.2.2.2.1 hS hown (va_Nw.use rfl hT.2.2.2.2.2.2.2.2.2.1) (fun _ h9 => h9) dX4_freeBlocks_2 ?_
  refine lv_astore_n (lv' := [(2, .ref t.2.2), (1, .int 0), (0, .ref (ad 56))]) hx hb dX4_freeBlocks_5 rfl hl (by decide) rfl (fun ls hl => ?_)
  refine lv_aload_n hx hb dX4_freeBlocks_6 rfl (lv_at hl 0 rfl) ?_
  refine va_tlen (v := 15) hx hb hT.2.2.2.2.2.1 hS rfl dX4_freeBlocks_7 ?_
  refine lv_istore_n (lv' := [(3, .int 15), (2, .ref t.2.2), (1, .int 0), (0, .ref (ad 56))]) hx hb dX4_freeBlocks_8 rfl hl (by decide) rfl (fun ls hl => ?_)
  refine lv_iconst (v := 0) hx hb dX4_freeBlocks_9 (by decide) ?_
  refine lv_istore (lv' := [(4, .int 0), (3, .int 15), (2, .ref t.2.2), (1, .int 0), (0, .ref (ad 56))]) hx hb dX4_freeBlocks_10 hl (by decide) rfl (fun ls hl => ?_)
  exact L12 F 0 15 0 D _ _ _ h hP hS (lv_sub hl [4, 3, 2, 1, 0] rfl)
abbrev rm_X5_sizeOf : Room := { frames := 0, cells := 0, slots := 0, locals := 0 }
set_option maxHeartbeats 4000000 in
set_option maxRecDepth 100000 in
theorem c_X5_sizeOf (l : Launch) (dd : Dd) (Y : Yc) (t : Ts3) (G : Gr) (ad : Nat → Nat) (ij : Ij G ad) (F : Nat) (a0 : Int32) (D0 D' : Mm) (r0 : Int32) (h : P_X5_sizeOf (gN G) F a0 D0 = some (r0, D')) : Met l yX5_sizeOf wzX5_sizeOf rm_X5_sizeOf (va_Pc [.int a0] (Wd dd Y t G ad D0)) (Qi dd Y G ad .int r0 D') 0 0 (pA G ad) := by
  refine Met.ofW (cc := cX5_sizeOf) (maxL := 1) (ret := (some .int)) (by decide) rfl ?_
  intro p e s m args below meth c s₁ B hml hv
  obtain ⟨rfl, hP, hK, hT⟩ := hv
  have hx := B.exec
  have hb := B.bytes
  have hr := B.returns
  have ht0 : ∀ w ∈ W0, w.before _ s = true := fun w h => atoms_spec (ws := wzX5_sizeOf) B.pre w (List.mem_cons_of_mem _ h)
  have hown : s.vm.findClass RX5 = some m.cls := findClass_of_methodNamed B.named
  have hlocks := B.notSynchronized
  have hS : va_S (pA G ad) s.heap s.heap [] := va_S.rf
  have hl := lv_entry ([.int a0]) (n := 1) (Nat.le_of_ble_eq_true rfl)
  rw [lg_entry_eq]
  generalize (lg_sl ([.int a0]) ++ List.replicate (1 - (lg_sl ([.int a0])).length) Slot.unset).toArray = ls at hl ⊢
  have hl : lv_has ls 1 [(0, .int a0)] := hl
  have hP : va_P dd vwCl (wW Y G ad D0) s.heap := hP
  generalize D0 = D at h hP
  have h : ((if 8 < a0 then (if 12 < a0 then (some (830, D)) else (some (940, D))) else (some (1060, D))) : Rs) = some (r0, D') := h
  refine lv_iload_n hx hb dX5_sizeOf_0 rfl (lv_at hl 0 rfl) ?_
  refine lv_bipush (v := 8) hx hb dX5_sizeOf_1 (by decide) ?_
  refine lv_icmp_gt (tgt := 12) hx hb dX5_sizeOf_3 (by decide) (fun c1 => ?_) (fun c1 => ?_)
  · have h := x_t (show 8 < a0 from c1) h
    refine lv_iload_n hx hb dX5_sizeOf_12 rfl (lv_at hl 0 rfl) ?_
    refine lv_bipush (v := 12) hx hb dX5_sizeOf_13 (by decide) ?_
    refine lv_icmp_gt (tgt := 24) hx hb dX5_sizeOf_15 (by decide) (fun c2 => ?_) (fun c2 => ?_)
    · have h := x_t (show 12 < a0 from c2) h
      refine lv_sipush (v := 830) hx hb dX5_sizeOf_24 (by decide) ?_
      exact x_iret hx hb hr hlocks rfl hP hS h dX5_sizeOf_27
    · have h := x_f (show ¬ (12 < a0) from c2) h
      refine lv_sipush (v := 940) hx hb dX5_sizeOf_18 (by decide) ?_
      refine lv_goto (tgt := 27) hx hb dX5_sizeOf_21 (by decide) ?_
      exact x_iret hx hb hr hlocks rfl hP hS h dX5_sizeOf_27
  · have h := x_f (show ¬ (8 < a0) from c1) h
    refine lv_sipush (v := 1060) hx hb dX5_sizeOf_6 (by decide) ?_
    refine lv_goto (tgt := 27) hx hb dX5_sizeOf_9 (by decide) ?_
    exact x_iret hx hb hr hlocks rfl hP hS h dX5_sizeOf_27
abbrev rm_X5_hasByte : Room := { frames := 0, cells := 0, slots := 0, locals := 0 }
set_option maxHeartbeats 4000000 in
set_option maxRecDepth 100000 in
theorem c_X5_hasByte (l : Launch) (dd : Dd) (Y : Yc) (t : Ts3) (G : Gr) (ad : Nat → Nat) (ij : Ij G ad) (F : Nat) (th : Nat) (g_th : RingAt G th) (a1 : Int32) (D0 D' : Mm) (r0 : Int32) (h : P_X5_hasByte (gN G) F th a1 D0 = some (r0, D')) : Met l yX5_hasByte wzX5_hasByte rm_X5_hasByte (va_Pc [.ref (ad th), .int a1] (Wd dd Y t G ad D0)) (Qi dd Y G ad .boolean r0 D') 0 0 (pA G ad) := by
  refine Met.ofW (cc := cX5_hasByte) (maxL := 2) (ret := (some .boolean)) (by decide) rfl ?_
  intro p e s m args below meth c s₁ B hml hv
  obtain ⟨rfl, hP, hK, hT⟩ := hv
  have hx := B.exec
  have hb := B.bytes
  have hr := B.returns
  have ht0 : ∀ w ∈ W0, w.before _ s = true := fun w h => atoms_spec (ws := wzX5_hasByte) B.pre w (List.mem_cons_of_mem _ h)
  have hown : s.vm.findClass RX5 = some m.cls := findClass_of_methodNamed B.named
  have hlocks := B.notSynchronized
  have hS : va_S (pA G ad) s.heap s.heap [] := va_S.rf
  obtain ⟨k_th, p_th_0, p_th_2, k_th1, k_th2⟩ := id g_th
  have hl := lv_entry ([.ref (ad th), .int a1]) (n := 2) (Nat.le_of_ble_eq_true rfl)
  rw [lg_entry_eq]
  generalize (lg_sl ([.ref (ad th), .int a1]) ++ List.replicate (2 - (lg_sl ([.ref (ad th), .int a1])).length) Slot.unset).toArray = ls at hl ⊢
  have hl : lv_has ls 2 [(0, .ref (ad th)), (1, .int a1)] := hl
  have hP : va_P dd vwCl (wW Y G ad D0) s.heap := hP
  generalize D0 = D at h hP
  have h : ((if a1 < 0 then (some (0, D)) else (if (nI ((gN G) (th + 1))) ≤ a1 then (some (0, D)) else (some (1, D)))) : Rs) = some (r0, D') := h
  refine lv_iload_n hx hb dX5_hasByte_0 rfl (lv_at hl 1 rfl) ?_
  refine lv_if_lt (tgt := 17) hx hb dX5_hasByte_1 (by decide) (fun c1 => ?_) (fun c1 => ?_)
  · have h := x_t (show a1 < 0 from c1) h
    refine lv_iconst (v := 0) hx hb dX5_hasByte_17 (by decide) ?_
    exact x_iret hx hb hr hlocks rfl hP hS h dX5_hasByte_18
  · have h := x_f (show ¬ (a1 < 0) from c1) h
    refine lv_iload_n hx hb dX5_hasByte_4 rfl (lv_at hl 1 rfl) ?_
    refine lv_aload_n hx hb dX5_hasByte_5 rfl (lv_at hl 0 rfl) ?_
    refine x_get hx hb ht0 u_X5 hown hK hP (k_th).1 (ce5 (k_th).2) rfl 0 (by decide) (ht0 _ m_FL_X5_15) rfl (rfv p_th_0) dX5_hasByte_6 ?_
    refine x_len hx hb hK hP k_th1 dX5_hasByte_9 ?_
    refine lv_icmp_ge (tgt := 17) hx hb dX5_hasByte_10 (by decide) (fun c2 => ?_) (fun c2 => ?_)
    · have h := x_t (show (nI ((gN G) (th + 1))) ≤ a1 from c2) h
      refine lv_iconst (v := 0) hx hb dX5_hasByte_17 (by decide) ?_
      exact x_iret hx hb hr hlocks rfl hP hS h dX5_hasByte_18
    · have h := x_f (show ¬ ((nI ((gN G) (th + 1))) ≤ a1) from c2) h
      refine lv_iconst (v := 1) hx hb dX5_hasByte_13 (by decide) ?_
      refine lv_goto (tgt := 18) hx hb dX5_hasByte_14 (by decide) ?_
      exact x_iret hx hb hr hlocks rfl hP hS h dX5_hasByte_18
abbrev rm_X5_byteAt : Room := { frames := 1, cells := 0, slots := 0, locals := 21 }
set_option maxHeartbeats 4000000 in
set_option maxRecDepth 100000 in
theorem c_X5_byteAt (l : Launch) (dd : Dd) (Y : Yc) (t : Ts3) (G : Gr) (ad : Nat → Nat) (ij : Ij G ad) (F : Nat) (th : Nat) (g_th : RingAt G th) (a1 : Int32) (D0 D' : Mm) (r0 : Int32) (h : P_X5_byteAt (gN G) F th a1 D0 = some (r0, D')) : Met l yX5_byteAt wzX5_byteAt rm_X5_byteAt (va_Pc [.ref (ad th), .int a1] (Wd dd Y t G ad D0)) (Qi dd Y G ad .int r0 D') 0 0 (pA G ad) := by
  refine Met.ofW (cc := cX5_byteAt) (maxL := 2) (ret := (some .int)) (by decide) rfl ?_
  intro p e s m args below meth c s₁ B hml hv
  obtain ⟨rfl, hP, hK, hT⟩ := hv
  have hx := B.exec
  have hb := B.bytes
  have hr := B.returns
  have ht0 : ∀ w ∈ W0, w.before _ s = true := fun w h => atoms_spec (ws := wzX5_byteAt) B.pre w (List.mem_cons_of_mem _ h)
  have hown : s.vm.findClass RX5 = some m.cls := findClass_of_methodNamed B.named
  have hlocks := B.notSynchronized
  have hS : va_S (pA G ad) s.heap s.heap [] := va_S.rf
  obtain ⟨k_th, p_th_0, p_th_2, k_th1, k_th2⟩ := id g_th
  have hl := lv_entry ([.ref (ad th), .int a1]) (n := 2) (Nat.le_of_ble_eq_true rfl)
  rw [lg_entry_eq]
  generalize (lg_sl ([.ref (ad th), .int a1]) ++ List.replicate (2 - (lg_sl ([.ref (ad th), .int a1])).length) Slot.unset).toArray = ls at hl ⊢
  have hl : lv_has ls 2 [(0, .ref (ad th)), (1, .int a1)] := hl
  have hP : va_P dd vwCl (wW Y G ad D0) s.heap := hP
  generalize D0 = D at h hP
  have h : ((bi (P_X5_hasByte (gN G) F th a1 D) (fun r1 D1 => if r1 = 0 then (some (0, D1)) else (if inB a1 ((gN G) (th + 1)) = true then (some (D1 (th + 1) (Int32.toNatClampNeg a1), D1)) else none))) : Rs) = some (r0, D') := h
  refine lv_aload_n hx hb dX5_byteAt_0 rfl (lv_at hl 0 rfl) ?_
  refine lv_iload_n hx hb dX5_byteAt_1 rfl (lv_at hl 1 rfl) ?_
  obtain ⟨r1, D1, hc1, h⟩ := bi_some h
  refine x_callVi (As := [.int a1]) ⟨hx, hb, hml, hown, ht0⟩ hK hT hP hS (c_X5_hasByte l dd Y t G ad ij F th g_th a1 _ _ _ hc1) m_ML_X5_28 sv_X5_hasByte hd_X5_hasByte rfl rfl ⟨Nat.le_of_ble_eq_true rfl, Nat.le_of_ble_eq_true rfl⟩ (k_th).1 (ce5 (k_th).2) rfl rfl hl.1 rfl (Nat.le_of_ble_eq_true rfl) dX5_byteAt_2 ⟨Nat.zero_le _, Nat.zero_le _⟩ (fun H locs hn_r1 hP hS => ?_)
  refine lv_if_eq (tgt := 17) hx hb dX5_byteAt_5 (by decide) (fun c2 => ?_) (fun c2 => ?_)
  · have h := x_t (show r1 = 0 from c2) h
    refine lv_iconst (v := 0) hx hb dX5_byteAt_17 (by decide) ?_
    exact x_iret hx hb hr hlocks rfl hP hS h dX5_byteAt_18
  · have h := x_f (show ¬ (r1 = 0) from c2) h
    refine lv_aload_n hx hb dX5_byteAt_8 rfl (lv_at hl 0 rfl) ?_
    refine x_get hx hb ht0 u_X5 hown hK hP (k_th).1 (ce5 (k_th).2) rfl 0 (by decide) (ht0 _ m_FL_X5_15) rfl (rfv p_th_0) dX5_byteAt_9 ?_
    refine lv_iload_n hx hb dX5_byteAt_12 rfl (lv_at hl 1 rfl) ?_
    obtain ⟨b3, h⟩ := x_if h
    refine x_ald hx hb hK hP k_th1 b3 dX5_byteAt_13 ?_
    refine lv_goto (tgt := 18) hx hb dX5_byteAt_14 (by decide) ?_
    exact x_iret hx hb hr hlocks rfl hP hS h dX5_byteAt_18
abbrev rm_J9_floorMod_7cf53 : Room := { frames := 0, cells := 0, slots := 0, locals := 0 }
set_option maxHeartbeats 4000000 in
set_option maxRecDepth 100000 in
theorem c_J9_floorMod_7cf53 (l : Launch) (dd : Dd) (Y : Yc) (t : Ts3) (G : Gr) (ad : Nat → Nat) (ij : Ij G ad) (F : Nat) (a0 a1 : Int32) (D0 D' : Mm) (r0 : Int32) (h : P_J9_floorMod_7cf53 (gN G) F a0 a1 D0 = some (r0, D')) : Met l yJ9_floorMod_7cf53 wzJ9_floorMod_7cf53 rm_J9_floorMod_7cf53 (va_Pc [.int a0, .int a1] (Wd dd Y t G ad D0)) (Qi dd Y G ad .int r0 D') 0 0 (pA G ad) := by
  refine va_MetF (cc := cJ9_floorMod_7cf53) (maxL := 3) (ret := (some .int)) (by decide +kernel) rfl ?_
  intro p e s m args below meth c s₁ B hml hv
  obtain ⟨rfl, hP, hK, hT⟩ := hv
  have hx := B.exec
  have hb := B.bytes
  have hr := B.returns
  have ht0 : ∀ w ∈ W0, w.before _ s = true := fun w h => atoms_spec (ws := wzJ9_floorMod_7cf53) B.pre w (List.mem_cons_of_mem _ h)
  have hown : s.vm.findClass RJ9 = some m.cls := findClass_of_methodNamed B.named
  have hlocks := B.notSynchronized
  have hS : va_S (pA G ad) s.heap s.heap [] := va_S.rf
  have hl := lv_entry ([.int a0, .int a1]) (n := 3) (Nat.le_of_ble_eq_true rfl)
  rw [lg_entry_eq]
  generalize (lg_sl ([.int a0, .int a1]) ++ List.replicate (3 - (lg_sl ([.int a0, .int a1])).length) Slot.unset).toArray = ls at hl ⊢
  have hl : lv_has ls 3 [(0, .int a0), (1, .int a1)] := hl
  have hP : va_P dd vwCl (wW Y G ad D0) s.heap := hP
  generalize D0 = D at h hP
  have h : ((if a1 = 0 then none else (if 0 ≤ (a0 ^^^ a1) then (some (jrem a0 a1, D)) else (if (jrem a0 a1) = 0 then (some (jrem a0 a1, D)) else (some ((jrem a0 a1) + a1, D))))) : Rs) = some (r0, D') := h
  refine lv_iload_n hx hb dJ9_floorMod_7cf53_0 rfl (lv_at hl 0 rfl) ?_
  refine lv_iload_n hx hb dJ9_floorMod_7cf53_1 rfl (lv_at hl 1 rfl) ?_
  obtain ⟨z1, h⟩ := x_ifn h
  refine lv_irem hx hb dJ9_floorMod_7cf53_2 z1 ?_
  refine lv_istore_n (lv' := [(2, .int (jrem a0 a1)), (0, .int a0), (1, .int a1)]) hx hb dJ9_floorMod_7cf53_3 rfl hl (by decide) rfl (fun ls hl => ?_)
  refine lv_iload_n hx hb dJ9_floorMod_7cf53_4 rfl (lv_at hl 1 rfl) ?_
  refine lv_iload_n hx hb dJ9_floorMod_7cf53_5 rfl (lv_at hl 2 rfl) ?_
  refine lv_ixor hx hb dJ9_floorMod_7cf53_6 ?_
  refine lv_if_ge (tgt := 18) hx hb dJ9_floorMod_7cf53_7 (by decide) (fun c2 => ?_) (fun c2 => ?_)
  · have h := x_t (show 0 ≤ (a0 ^^^ a1) from c2) h
    refine lv_iload_n hx hb dJ9_floorMod_7cf53_18 rfl (lv_at hl 0 rfl) ?_
    exact x_iret hx hb hr hlocks rfl hP hS h dJ9_floorMod_7cf53_19
  · have h := x_f (show ¬ (0 ≤ (a0 ^^^ a1)) from c2) h
    refine lv_iload_n hx hb dJ9_floorMod_7cf53_10 rfl (lv_at hl 0 rfl) ?_
    refine lv_if_eq (tgt := 18) hx hb dJ9_floorMod_7cf53_11 (by decide) (fun c3 => ?_) (fun c3 => ?_)
    · have h := x_t (show (jrem a0 a1) = 0 from c3) h
      refine lv_iload_n hx hb dJ9_floorMod_7cf53_18 rfl (lv_at hl 0 rfl) ?_
      exact x_iret hx hb hr hlocks rfl hP hS h dJ9_floorMod_7cf53_19
    · have h := x_f (show ¬ ((jrem a0 a1) = 0) from c3) h
      refine lv_iload_n hx hb dJ9_floorMod_7cf53_14 rfl (lv_at hl 0 rfl) ?_
      refine lv_iload_n hx hb dJ9_floorMod_7cf53_15 rfl (lv_at hl 2 rfl) ?_
      refine lv_iadd hx hb dJ9_floorMod_7cf53_16 ?_
      exact x_iret hx hb hr hlocks rfl hP hS h dJ9_floorMod_7cf53_17
abbrev rm_X5_rotate : Room := { frames := 1, cells := 0, slots := 0, locals := 26 }
set_option maxHeartbeats 4000000 in
set_option maxRecDepth 100000 in
theorem c_X5_rotate (l : Launch) (dd : Dd) (Y : Yc) (t : Ts3) (G : Gr) (ad : Nat → Nat) (ij : Ij G ad) (F : Nat) (th : Nat) (u2 : Nat) (g_th : RingAt G th) (g_u2 : IArr G u2) (a1 : Int32) (D0 D' : Mm) (r0 : Int32) (h : P_X5_rotate (gN G) F th u2 a1 D0 = some (r0, D')) : Met l yX5_rotate wzX5_rotate rm_X5_rotate (va_Pc [.ref (ad th), .int a1, .ref (ad u2)] (Wd dd Y t G ad D0)) (Qv dd Y G ad D') 0 0 (pA G ad) := by
  refine Met.ofW (cc := cX5_rotate) (maxL := 10) (ret := none) (by decide) rfl ?_
  intro p e s m args below meth c s₁ B hml hv
  obtain ⟨rfl, hP, hK, hT⟩ := hv
  have hx := B.exec
  have hb := B.bytes
  have hr := B.returns
  have ht0 : ∀ w ∈ W0, w.before _ s = true := fun w h => atoms_spec (ws := wzX5_rotate) B.pre w (List.mem_cons_of_mem _ h)
  have hown : s.vm.findClass RX5 = some m.cls := findClass_of_methodNamed B.named
  have hlocks := B.notSynchronized
  have hS : va_S (pA G ad) s.heap s.heap [] := va_S.rf
  obtain ⟨k_th, p_th_0, p_th_2, k_th1, k_th2⟩ := id g_th
  have L105 : ∀ (k53 : Int32 → Int32 → Int32 → Int32 → Mm → Rs) (hk53 : ∀ (x3 x5 x6 x7 : Int32) (D : Mm) (H : Heap) (locs : List Loc) (ls : Array Slot), k53 x3 x5 x6 x7 D = some (r0, D') → va_P dd vwCl (wW Y G ad D) H → va_S (pA G ad) s.heap H locs → lv_has ls 10 [(0, .ref (ad th)), (2, .ref (ad u2)), (3, .int x3), (5, .int x5), (6, .int x6), (7, .int x7)] → W p l e (headSpec wzX5_rotate rm_X5_rotate).room s m ([.ref (ad th), .int a1, .ref (ad u2)].toArray) below meth c H locs 0 0 (MQ below (Qv dd Y G ad D') ([.ref (ad th), .int a1, .ref (ad u2)].toArray) s 0 0 (pA G ad)) (F0 m 53 ls [])), ∀ (x3 x5 x6 x7 : Int32) (D : Mm) (H : Heap) (locs : List Loc) (ls : Array Slot), P_X5_rotate_105 (gN G) F th u2 k53 x3 x5 x6 x7 D = some (r0, D') → va_P dd vwCl (wW Y G ad D) H → va_S (pA G ad) s.heap H locs → lv_has ls 10 [(0, .ref (ad th)), (2, .ref (ad u2)), (3, .int x3), (5, .int x5), (6, .int x6), (7, .int x7)] → W p l e (headSpec wzX5_rotate rm_X5_rotate).room s m ([.ref (ad th), .int a1, .ref (ad u2)].toArray) below meth c H locs 0 0 (MQ below (Qv dd Y G ad D') ([.ref (ad th), .int a1, .ref (ad u2)].toArray) s 0 0 (pA G ad)) (F0 m 105 ls []) := by
    intro k53 hk53 x3 x5 x6 x7 D H locs ls h hP hS hl
    have h : ((k53 x3 x5 x6 (x7 + 1) D) : Rs) = some (r0, D') := h
    refine lv_iinc (v := x7 + 1) (lv' := [(7, .int (x7 + 1)), (0, .ref (ad th)), (2, .ref (ad u2)), (3, .int x3), (5, .int x5), (6, .int x6)]) hx hb dX5_rotate_105 hl (k := 5) rfl rfl (by decide) rfl (fun ls hl => ?_)
    refine lv_goto (tgt := 53) hx hb dX5_rotate_108 (by decide) ?_
    exact hk53 x3 x5 x6 (x7 + 1) D _ _ _ h hP hS (lv_sub hl [1, 2, 3, 4, 5, 0] rfl)
  have L83 : ∀ (k53 : Int32 → Int32 → Int32 → Int32 → Mm → Rs) (hk53 : ∀ (x3 x5 x6 x7 : Int32) (D : Mm) (H : Heap) (locs : List Loc) (ls : Array Slot), k53 x3 x5 x6 x7 D = some (r0, D') → va_P dd vwCl (wW Y G ad D) H → va_S (pA G ad) s.heap H locs → lv_has ls 10 [(0, .ref (ad th)), (2, .ref (ad u2)), (3, .int x3), (5, .int x5), (6, .int x6), (7, .int x7)] → W p l e (headSpec wzX5_rotate rm_X5_rotate).room s m ([.ref (ad th), .int a1, .ref (ad u2)].toArray) below meth c H locs 0 0 (MQ below (Qv dd Y G ad D') ([.ref (ad th), .int a1, .ref (ad u2)].toArray) s 0 0 (pA G ad)) (F0 m 53 ls [])), ∀ (x3 x5 x6 x7 x8 x9 : Int32) (D : Mm) (H : Heap) (locs : List Loc) (ls : Array Slot), P_X5_rotate_83 (gN G) F th u2 k53 x3 x5 x6 x7 x8 x9 D = some (r0, D') → va_P dd vwCl (wW Y G ad D) H → va_S (pA G ad) s.heap H locs → lv_has ls 10 [(0, .ref (ad th)), (2, .ref (ad u2)), (3, .int x3), (5, .int x5), (6, .int x6), (7, .int x7), (8, .int x8), (9, .int x9)] → W p l e (headSpec wzX5_rotate rm_X5_rotate).room s m ([.ref (ad th), .int a1, .ref (ad u2)].toArray) below meth c H locs 0 0 (MQ below (Qv dd Y G ad D') ([.ref (ad th), .int a1, .ref (ad u2)].toArray) s 0 0 (pA G ad)) (F0 m 83 ls []) := by
    intro k53 hk53 x3 x5 x6 x7 x8 x9 D H locs ls h hP hS hl
    have h : ((if inB x7 ((gN G) (th + 1)) = true then (P_X5_rotate_105 (gN G) F th u2 k53 x3 x5 x6 x7 (up2 D (th + 1) (Int32.toNatClampNeg x7) ((((x8 <<< (8 &&& 31)) ||| x9) >>> (x6 &&& 31)) &&& 255))) else none) : Rs) = some (r0, D') := h
    refine lv_aload_n hx hb dX5_rotate_83 rfl (lv_at hl 0 rfl) ?_
    refine x_get hx hb ht0 u_X5 hown hK hP (k_th).1 (ce5 (k_th).2) rfl 0 (by decide) (ht0 _ m_FL_X5_15) rfl (rfv p_th_0) dX5_rotate_84 ?_
    refine lv_iload hx hb dX5_rotate_87 (lv_at hl 5 rfl) ?_
    refine lv_iload hx hb dX5_rotate_89 (lv_at hl 6 rfl) ?_
    refine lv_bipush (v := 8) hx hb dX5_rotate_91 (by decide) ?_
    refine lv_ishl hx hb dX5_rotate_93 ?_
    refine lv_iload hx hb dX5_rotate_94 (lv_at hl 7 rfl) ?_
    refine lv_ior hx hb dX5_rotate_96 ?_
    refine lv_iload hx hb dX5_rotate_97 (lv_at hl 4 rfl) ?_
    refine lv_ishr hx hb dX5_rotate_99 ?_
    refine lv_sipush (v := 255) hx hb dX5_rotate_100 (by decide) ?_
    refine lv_iand hx hb dX5_rotate_103 ?_
    obtain ⟨b1, h⟩ := x_if h
    refine x_ast hx hb hK ij hP hS k_th1 b1 dX5_rotate_104 (fun H locs hP hS => ?_)
    exact L105 k53 hk53 x3 x5 x6 x7 (up2 D (th + 1) (Int32.toNatClampNeg x7) ((((x8 <<< (8 &&& 31)) ||| x9) >>> (x6 &&& 31)) &&& 255)) _ _ _ h hP hS (lv_sub hl [0, 1, 2, 3, 4, 5] rfl)
  have L72 : ∀ (k53 : Int32 → Int32 → Int32 → Int32 → Mm → Rs) (hk53 : ∀ (x3 x5 x6 x7 : Int32) (D : Mm) (H : Heap) (locs : List Loc) (ls : Array Slot), k53 x3 x5 x6 x7 D = some (r0, D') → va_P dd vwCl (wW Y G ad D) H → va_S (pA G ad) s.heap H locs → lv_has ls 10 [(0, .ref (ad th)), (2, .ref (ad u2)), (3, .int x3), (5, .int x5), (6, .int x6), (7, .int x7)] → W p l e (headSpec wzX5_rotate rm_X5_rotate).room s m ([.ref (ad th), .int a1, .ref (ad u2)].toArray) below meth c H locs 0 0 (MQ below (Qv dd Y G ad D') ([.ref (ad th), .int a1, .ref (ad u2)].toArray) s 0 0 (pA G ad)) (F0 m 53 ls [])), ∀ (x3 x5 x6 x7 x8 : Int32) (D : Mm) (H : Heap) (locs : List Loc) (ls : Array Slot), P_X5_rotate_72 (gN G) F th u2 k53 x3 x5 x6 x7 x8 D = some (r0, D') → va_P dd vwCl (wW Y G ad D) H → va_S (pA G ad) s.heap H locs → lv_has ls 10 [(0, .ref (ad th)), (2, .ref (ad u2)), (3, .int x3), (5, .int x5), (6, .int x6), (7, .int x7), (8, .int x8)] → W p l e (headSpec wzX5_rotate rm_X5_rotate).room s m ([.ref (ad th), .int a1, .ref (ad u2)].toArray) below meth c H locs 0 0 (MQ below (Qv dd Y G ad D') ([.ref (ad th), .int a1, .ref (ad u2)].toArray) s 0 0 (pA G ad)) (F0 m 72 ls []) := by
    intro k53 hk53 x3 x5 x6 x7 x8 D H locs ls h hP hS hl
    have h : ((if x3 = 0 then none else (if inB (jrem (x5 + x7) x3) ((gN G) u2) = true then (P_X5_rotate_83 (gN G) F th u2 k53 x3 x5 x6 x7 x8 (D u2 (Int32.toNatClampNeg (jrem (x5 + x7) x3))) D) else none)) : Rs) = some (r0, D') := h
    refine lv_aload_n hx hb dX5_rotate_72 rfl (lv_at hl 1 rfl) ?_
    refine lv_iload hx hb dX5_rotate_73 (lv_at hl 3 rfl) ?_
    refine lv_iload hx hb dX5_rotate_75 (lv_at hl 5 rfl) ?_
    refine lv_iadd hx hb dX5_rotate_77 ?_
    refine lv_iload_n hx hb dX5_rotate_78 rfl (lv_at hl 2 rfl) ?_
    obtain ⟨z2, h⟩ := x_ifn h
    refine lv_irem hx hb dX5_rotate_79 z2 ?_
    obtain ⟨b3, h⟩ := x_if h
    refine x_ald hx hb hK hP g_u2 b3 dX5_rotate_80 ?_
    refine lv_istore (lv' := [(9, .int (D u2 (Int32.toNatClampNeg (jrem (x5 + x7) x3)))), (0, .ref (ad th)), (2, .ref (ad u2)), (3, .int x3), (5, .int x5), (6, .int x6), (7, .int x7), (8, .int x8)]) hx hb dX5_rotate_81 hl (by decide) rfl (fun ls hl => ?_)
    exact L83 k53 hk53 x3 x5 x6 x7 x8 (D u2 (Int32.toNatClampNeg (jrem (x5 + x7) x3))) D _ _ _ h hP hS (lv_sub hl [1, 2, 3, 4, 5, 6, 7, 0] rfl)
  have L53 : ∀ (n : Nat), ∀ (x3 x5 x6 x7 : Int32) (D : Mm) (H : Heap) (locs : List Loc) (ls : Array Slot), P_X5_rotate_53 (gN G) F th u2 n x3 x5 x6 x7 D = some (r0, D') → va_P dd vwCl (wW Y G ad D) H → va_S (pA G ad) s.heap H locs → lv_has ls 10 [(0, .ref (ad th)), (2, .ref (ad u2)), (3, .int x3), (5, .int x5), (6, .int x6), (7, .int x7)] → W p l e (headSpec wzX5_rotate rm_X5_rotate).room s m ([.ref (ad th), .int a1, .ref (ad u2)].toArray) below meth c H locs 0 0 (MQ below (Qv dd Y G ad D') ([.ref (ad th), .int a1, .ref (ad u2)].toArray) s 0 0 (pA G ad)) (F0 m 53 ls []) := by
    intro n
    induction n with
    | zero =>
      intro x3 x5 x6 x7 D H locs ls h hP hS hl
      cases h
    | succ n ih =>
      intro x3 x5 x6 x7 D H locs ls h hP hS hl
      have h : ((if x3 ≤ x7 then (some (0, up2 D th 4 0)) else (if x3 = 0 then none else (if inB (jrem ((x5 + x7) - 1) x3) ((gN G) u2) = true then (P_X5_rotate_72 (gN G) F th u2 (fun x3 x5 x6 x7 D => P_X5_rotate_53 (gN G) F th u2 n x3 x5 x6 x7 D) x3 x5 x6 x7 (D u2 (Int32.toNatClampNeg (jrem ((x5 + x7) - 1) x3))) D) else none))) : Rs) = some (r0, D') := h
      refine lv_iload hx hb dX5_rotate_53 (lv_at hl 5 rfl) ?_
      refine lv_iload_n hx hb dX5_rotate_55 rfl (lv_at hl 2 rfl) ?_
      refine lv_icmp_ge (tgt := 111) hx hb dX5_rotate_56 (by decide) (fun c4 => ?_) (fun c4 => ?_)
      · have h := x_t (show x3 ≤ x7 from c4) h
        refine lv_aload_n hx hb dX5_rotate_111 rfl (lv_at hl 0 rfl) ?_
        refine lv_iconst (v := 0) hx hb dX5_rotate_112 (by decide) ?_
        refine x_put (ty := .boolean) hx hb ht0 u_X5 tyX5 tyX5_ok nmX5 hown hK ij hP hS (k_th).1 (ce5 (k_th).2) rfl 4 (by decide) (ht0 _ m_FL_X5_35) rfl rfl (by decide +kernel) rfl rfl (Nat.le_of_ble_eq_true rfl) (by rw [(k_th).2]; rfl) dX5_rotate_113 (fun H locs hP hS => ?_)
        exact x_vret hx hb hr hlocks hP hS h dX5_rotate_116
      · have h := x_f (show ¬ (x3 ≤ x7) from c4) h
        refine lv_aload_n hx hb dX5_rotate_59 rfl (lv_at hl 1 rfl) ?_
        refine lv_iload hx hb dX5_rotate_60 (lv_at hl 3 rfl) ?_
        refine lv_iload hx hb dX5_rotate_62 (lv_at hl 5 rfl) ?_
        refine lv_iadd hx hb dX5_rotate_64 ?_
        refine lv_iconst (v := 1) hx hb dX5_rotate_65 (by decide) ?_
        refine lv_isub hx hb dX5_rotate_66 ?_
        refine lv_iload_n hx hb dX5_rotate_67 rfl (lv_at hl 2 rfl) ?_
        obtain ⟨z5, h⟩ := x_ifn h
        refine lv_irem hx hb dX5_rotate_68 z5 ?_
        obtain ⟨b6, h⟩ := x_if h
        refine x_ald hx hb hK hP g_u2 b6 dX5_rotate_69 ?_
        refine lv_istore (lv' := [(8, .int (D u2 (Int32.toNatClampNeg (jrem ((x5 + x7) - 1) x3)))), (0, .ref (ad th)), (2, .ref (ad u2)), (3, .int x3), (5, .int x5), (6, .int x6), (7, .int x7)]) hx hb dX5_rotate_70 hl (by decide) rfl (fun ls hl => ?_)
        exact L72 (fun x3 x5 x6 x7 D => P_X5_rotate_53 (gN G) F th u2 n x3 x5 x6 x7 D) ih x3 x5 x6 x7 (D u2 (Int32.toNatClampNeg (jrem ((x5 + x7) - 1) x3))) D _ _ _ h hP hS (lv_sub hl [1, 2, 3, 4, 5, 6, 0] rfl)
  have L50 : ∀ (x3 x5 x6 : Int32) (D : Mm) (H : Heap) (locs : List Loc) (ls : Array Slot), P_X5_rotate_50 (gN G) F th u2 x3 x5 x6 D = some (r0, D') → va_P dd vwCl (wW Y G ad D) H → va_S (pA G ad) s.heap H locs → lv_has ls 10 [(0, .ref (ad th)), (2, .ref (ad u2)), (3, .int x3), (5, .int x5), (6, .int x6)] → W p l e (headSpec wzX5_rotate rm_X5_rotate).room s m ([.ref (ad th), .int a1, .ref (ad u2)].toArray) below meth c H locs 0 0 (MQ below (Qv dd Y G ad D') ([.ref (ad th), .int a1, .ref (ad u2)].toArray) s 0 0 (pA G ad)) (F0 m 50 ls []) := by
    intro x3 x5 x6 D H locs ls h hP hS hl
    have h : ((P_X5_rotate_53 (gN G) F th u2 F x3 x5 x6 0 D) : Rs) = some (r0, D') := h
    refine lv_iconst (v := 0) hx hb dX5_rotate_50 (by decide) ?_
    refine lv_istore (lv' := [(7, .int 0), (0, .ref (ad th)), (2, .ref (ad u2)), (3, .int x3), (5, .int x5), (6, .int x6)]) hx hb dX5_rotate_51 hl (by decide) rfl (fun ls hl => ?_)
    exact L53 F x3 x5 x6 0 D _ _ _ h hP hS (lv_sub hl [1, 2, 3, 4, 5, 0] rfl)
  have L32 : ∀ (x3 x4 x5 : Int32) (D : Mm) (H : Heap) (locs : List Loc) (ls : Array Slot), P_X5_rotate_32 (gN G) F th u2 x3 x4 x5 D = some (r0, D') → va_P dd vwCl (wW Y G ad D) H → va_S (pA G ad) s.heap H locs → lv_has ls 10 [(0, .ref (ad th)), (2, .ref (ad u2)), (3, .int x3), (4, .int x4), (5, .int x5)] → W p l e (headSpec wzX5_rotate rm_X5_rotate).room s m ([.ref (ad th), .int a1, .ref (ad u2)].toArray) below meth c H locs 0 0 (MQ below (Qv dd Y G ad D') ([.ref (ad th), .int a1, .ref (ad u2)].toArray) s 0 0 (pA G ad)) (F0 m 32 ls []) := by
    intro x3 x4 x5 D H locs ls h hP hS hl
    have h : ((if decide (¬ (0 : Int32) < 0 ∧ ¬ (0 : Int32) < 0 ∧ ¬ (x3 : Int32) < 0 ∧ Int32.toNatClampNeg 0 + Int32.toNatClampNeg x3 ≤ (gN G) (th + 1) ∧ Int32.toNatClampNeg 0 + Int32.toNatClampNeg x3 ≤ (gN G) u2) = true then (P_X5_rotate_50 (gN G) F th u2 x3 x5 (jrem x4 8) (upA D u2 (va_cpy (D (th + 1)) (D u2) (Int32.toNatClampNeg 0) (Int32.toNatClampNeg 0) (Int32.toNatClampNeg x3)))) else none) : Rs) = some (r0, D') := h
    refine lv_iload hx hb dX5_rotate_32 (lv_at hl 3 rfl) ?_
    refine lv_bipush (v := 8) hx hb dX5_rotate_34 (by decide) ?_
    refine lv_irem hx hb dX5_rotate_36 (by decide) ?_
    refine lv_istore (lv' := [(6, .int (jrem x4 8)), (0, .ref (ad th)), (2, .ref (ad u2)), (3, .int x3), (4, .int x4), (5, .int x5)]) hx hb dX5_rotate_37 hl (by decide) rfl (fun ls hl => ?_)
    refine lv_aload_n hx hb dX5_rotate_39 rfl (lv_at hl 1 rfl) ?_
    refine x_get hx hb ht0 u_X5 hown hK hP (k_th).1 (ce5 (k_th).2) rfl 0 (by decide) (ht0 _ m_FL_X5_15) rfl (rfv p_th_0) dX5_rotate_40 ?_
    refine lv_iconst (v := 0) hx hb dX5_rotate_43 (by decide) ?_
    refine lv_aload_n hx hb dX5_rotate_44 rfl (lv_at hl 2 rfl) ?_
    refine lv_iconst (v := 0) hx hb dX5_rotate_45 (by decide) ?_
    refine lv_iload_n hx hb dX5_rotate_46 rfl (lv_at hl 3 rfl) ?_
    obtain ⟨b7, h⟩ := x_if h
    refine x_cpy hx hb (hml.trans hl.1.symm) hown (ht0 _ m_ML_X5_52) (ht0 _ m_native_cpy) (ht0 _ m_static_cpy) (ht0 _ m_IN_J10) hK ij hP hS k_th1 g_u2 b7 (Nat.le_of_ble_eq_true rfl) (Nat.le_of_ble_eq_true rfl) dX5_rotate_47 (fun H locs hP hS => ?_)
    exact L50 x3 x5 (jrem x4 8) (upA D u2 (va_cpy (D (th + 1)) (D u2) (Int32.toNatClampNeg 0) (Int32.toNatClampNeg 0) (Int32.toNatClampNeg x3))) _ _ _ h hP hS (lv_sub hl [1, 2, 3, 5, 0] rfl)
  have hl := lv_entry ([.ref (ad th), .int a1, .ref (ad u2)]) (n := 10) (Nat.le_of_ble_eq_true rfl)
  rw [lg_entry_eq]
  generalize (lg_sl ([.ref (ad th), .int a1, .ref (ad u2)]) ++ List.replicate (10 - (lg_sl ([.ref (ad th), .int a1, .ref (ad u2)])).length) Slot.unset).toArray = ls at hl ⊢
  have hl : lv_has ls 10 [(0, .ref (ad th)), (1, .int a1), (2, .ref (ad u2))] := hl
  have hP : va_P dd vwCl (wW Y G ad D0) s.heap := hP
  generalize D0 = D at h hP
  have h : ((if (nI ((gN G) (th + 1))) ≤ (nI ((gN G) u2)) then (bi (P_J9_floorMod_7cf53 (gN G) F a1 (D th 1) D) (fun r9 D9 => P_X5_rotate_32 (gN G) F th u2 (nI ((gN G) (th + 1))) r9 ((nI ((gN G) (th + 1))) - (r9 / 8)) D9)) else (some (0, D))) : Rs) = some (r0, D') := h
  refine lv_aload_n hx hb dX5_rotate_0 rfl (lv_at hl 0 rfl) ?_
  refine x_get hx hb ht0 u_X5 hown hK hP (k_th).1 (ce5 (k_th).2) rfl 0 (by decide) (ht0 _ m_FL_X5_15) rfl (rfv p_th_0) dX5_rotate_1 ?_
  refine x_len hx hb hK hP k_th1 dX5_rotate_4 ?_
  refine lv_istore_n (lv' := [(3, .int (nI ((gN G) (th + 1)))), (0, .ref (ad th)), (1, .int a1), (2, .ref (ad u2))]) hx hb dX5_rotate_5 rfl hl (by decide) rfl (fun ls hl => ?_)
  refine lv_aload_n hx hb dX5_rotate_6 rfl (lv_at hl 3 rfl) ?_
  refine x_len hx hb hK hP g_u2 dX5_rotate_7 ?_
  refine lv_iload_n hx hb dX5_rotate_8 rfl (lv_at hl 0 rfl) ?_
  refine lv_icmp_ge (tgt := 13) hx hb dX5_rotate_9 (by decide) (fun c8 => ?_) (fun c8 => ?_)
  · have h := x_t (show (nI ((gN G) (th + 1))) ≤ (nI ((gN G) u2)) from c8) h
    refine lv_iload_n hx hb dX5_rotate_13 rfl (lv_at hl 2 rfl) ?_
    refine lv_aload_n hx hb dX5_rotate_14 rfl (lv_at hl 1 rfl) ?_
    refine x_get hx hb ht0 u_X5 hown hK hP (k_th).1 (ce5 (k_th).2) rfl 1 (by decide) (ht0 _ m_FL_X5_21) rfl rfl dX5_rotate_15 ?_
    obtain ⟨r9, D9, hc9, h⟩ := bi_some h
    refine x_callSi (As := [.int a1, .int (D th 1)]) ⟨hx, hb, hml, hown, ht0⟩ hK hT hP hS (c_J9_floorMod_7cf53 l dd Y t G ad ij F a1 (D th 1) _ _ _ hc9) m_ML_X5_49 ss_J9_floorMod_7cf53 hd_J9_floorMod_7cf53 rfl rfl ⟨Nat.le_of_ble_eq_true rfl, Nat.le_of_ble_eq_true rfl⟩ rfl hl.1 rfl (Nat.le_of_ble_eq_true rfl) dX5_rotate_18 ⟨Nat.zero_le _, Nat.zero_le _⟩ (fun H locs hn_r9 hP hS => ?_)
    refine lv_istore (lv' := [(4, .int r9), (3, .int (nI ((gN G) (th + 1)))), (0, .ref (ad th)), (1, .int a1), (2, .ref (ad u2))]) hx hb dX5_rotate_21 hl (by decide) rfl (fun ls hl => ?_)
    refine lv_iload_n hx hb dX5_rotate_23 rfl (lv_at hl 1 rfl) ?_
    refine lv_iload hx hb dX5_rotate_24 (lv_at hl 0 rfl) ?_
    refine lv_bipush (v := 8) hx hb dX5_rotate_26 (by decide) ?_
    refine lv_idiv hx hb dX5_rotate_28 (by decide) ?_
    refine lv_isub hx hb dX5_rotate_29 ?_
    refine lv_istore (lv' := [(5, .int ((nI ((gN G) (th + 1))) - (r9 / 8))), (4, .int r9), (3, .int (nI ((gN G) (th + 1)))), (0, .ref (ad th)), (1, .int a1), (2, .ref (ad u2))]) hx hb dX5_rotate_30 hl (by decide) rfl (fun ls hl => ?_)
    exact L32 (nI ((gN G) (th + 1))) r9 ((nI ((gN G) (th + 1))) - (r9 / 8)) D9 _ _ _ h hP hS (lv_sub hl [3, 5, 2, 1, 0] rfl)
  · have h := x_f (show ¬ ((nI ((gN G) (th + 1))) ≤ (nI ((gN G) u2))) from c8) h
    exact x_vret hx hb hr hlocks hP hS h dX5_rotate_12
abbrev rm_X7_feed : Room := { frames := 2, cells := 0, slots := 0, locals := 42 }
set_option maxHeartbeats 4000000 in
set_option maxRecDepth 100000 in
theorem c_X7_feed (l : Launch) (dd : Dd) (Y : Yc) (t : Ts3) (ad : Nat → Nat) (ij : Ij XG ad) (F : Nat) (a1 a2 a3 a4 a5 : Int32) (D0 D' : Mm) (r0 : Int32) (h : P_X7_feed (gN XG) F a1 a2 a3 a4 a5 D0 = some (r0, D')) : Met l yX7_feed wzX7_feed rm_X7_feed (va_Pc [.ref (ad 0), .int a1, .int a2, .int a3, .int a4, .int a5] (Wd dd Y t XG ad D0)) (Qi dd Y XG ad .int r0 D') 0 0 (pA XG ad) := by
  refine Met.ofW (cc := cX7_feed) (maxL := 6) (ret := (some .int)) (by decide) rfl ?_
  intro p e s m args below meth c s₁ B hml hv
  obtain ⟨rfl, hP, hK, hT⟩ := hv
  have hx := B.exec
  have hb := B.bytes
  have hr := B.returns
  have ht0 : ∀ w ∈ W0, w.before _ s = true := fun w h => atoms_spec (ws := wzX7_feed) B.pre w (List.mem_cons_of_mem _ h)
  have hown : s.vm.findClass RX7 = some m.cls := findClass_of_methodNamed B.named
  have hlocks := B.notSynchronized
  have hS : va_S (pA XG ad) s.heap s.heap [] := va_S.rf
  have hl := lv_entry ([.ref (ad 0), .int a1, .int a2, .int a3, .int a4, .int a5]) (n := 6) (Nat.le_of_ble_eq_true rfl)
  rw [lg_entry_eq]
  generalize (lg_sl ([.ref (ad 0), .int a1, .int a2, .int a3, .int a4, .int a5]) ++ List.replicate (6 - (lg_sl ([.ref (ad 0), .int a1, .int a2, .int a3, .int a4, .int a5])).length) Slot.unset).toArray = ls at hl ⊢
  have hl : lv_has ls 6 [(0, .ref (ad 0)), (1, .int a1), (2, .int a2), (3, .int a3), (4, .int a4), (5, .int a5)] := hl
  have hP : va_P dd vwCl (wW Y XG ad D0) s.heap := hP
  generalize D0 = D at h hP
  have h : ((if ((D 65 1) + 20) ≤ 2480 then (bi (P_X1_addNumber (gN XG) F 65 a1 D) (fun r2 D2 => bi (P_X1_addNumber (gN XG) F 65 a2 D2) (fun r3 D3 => bi (P_X1_addNumber (gN XG) F 65 a3 D3) (fun r4 D4 => bi (P_X1_addNumber (gN XG) F 65 a4 D4) (fun r5 D5 => bi (P_X1_addNumber (gN XG) F 65 a5 D5) (fun r6 D6 => some (D6 65 1, D6))))))) else (some ((-1), D))) : Rs) = some (r0, D') := h
  refine lv_aload_n hx hb dX7_feed_0 rfl (lv_at hl 0 rfl) ?_
  refine x_get hx hb ht0 u_X7 hown hK hP (xk_0).1 (ce7 (xk_0).2) rfl 5 (by decide) (ht0 _ m_FL_X7_53) rfl (rfv (G := XG) (c := 0) (k := 5) (c' := 65) rfl) dX7_feed_1 ?_
  refine x_get hx hb ht0 u_X1 hown hK hP (xk_65).1 (ce1 (xk_65).2) rfl 1 (by decide) (ht0 _ m_FL_X7_76) rfl rfl dX7_feed_4 ?_
  refine lv_bipush (v := 20) hx hb dX7_feed_7 (by decide) ?_
  refine lv_iadd hx hb dX7_feed_9 ?_
  refine lv_sipush (v := 2480) hx hb dX7_feed_10 (by decide) ?_
  refine lv_icmp_le (tgt := 18) hx hb dX7_feed_13 (by decide) (fun c1 => ?_) (fun c1 => ?_)
  · have h := x_t (show ((D 65 1) + 20) ≤ 2480 from c1) h
    refine lv_aload_n hx hb dX7_feed_18 rfl (lv_at hl 0 rfl) ?_
    refine x_get hx hb ht0 u_X7 hown hK hP (xk_0).1 (ce7 (xk_0).2) rfl 5 (by decide) (ht0 _ m_FL_X7_53) rfl (rfv (G := XG) (c := 0) (k := 5) (c' := 65) rfl) dX7_feed_19 ?_
    refine lv_iload_n hx hb dX7_feed_22 rfl (lv_at hl 1 rfl) ?_
    obtain ⟨r2, D2, hc2, h⟩ := bi_some h
    refine x_callVv (As := [.int a1]) ⟨hx, hb, hml, hown, ht0⟩ hK hT hP hS (c_X1_addNumber l dd Y t XG ad ij F 65 xb_65 a1 _ _ _ hc2) m_ML_X7_80 sv_X1_addNumber hd_X1_addNumber rfl rfl ⟨Nat.le_of_ble_eq_true rfl, Nat.le_of_ble_eq_true rfl⟩ (xk_65).1 (ce1 (xk_65).2) rfl rfl hl.1 rfl (Nat.le_of_ble_eq_true rfl) dX7_feed_23 ⟨Nat.zero_le _, Nat.zero_le _⟩ (fun H locs hP hS => ?_)
    refine lv_aload_n hx hb dX7_feed_26 rfl (lv_at hl 0 rfl) ?_
    refine x_get hx hb ht0 u_X7 hown hK hP (xk_0).1 (ce7 (xk_0).2) rfl 5 (by decide) (ht0 _ m_FL_X7_53) rfl (rfv (G := XG) (c := 0) (k := 5) (c' := 65) rfl) dX7_feed_27 ?_
    refine lv_iload_n hx hb dX7_feed_30 rfl (lv_at hl 2 rfl) ?_
    obtain ⟨r3, D3, hc3, h⟩ := bi_some h
    refine x_callVv (As := [.int a2]) ⟨hx, hb, hml, hown, ht0⟩ hK hT hP hS (c_X1_addNumber l dd Y t XG ad ij F 65 xb_65 a2 _ _ _ hc3) m_ML_X7_80 sv_X1_addNumber hd_X1_addNumber rfl rfl ⟨Nat.le_of_ble_eq_true rfl, Nat.le_of_ble_eq_true rfl⟩ (xk_65).1 (ce1 (xk_65).2) rfl rfl hl.1 rfl (Nat.le_of_ble_eq_true rfl) dX7_feed_31 ⟨Nat.zero_le _, Nat.zero_le _⟩ (fun H locs hP hS => ?_)
    refine lv_aload_n hx hb dX7_feed_34 rfl (lv_at hl 0 rfl) ?_
    refine x_get hx hb ht0 u_X7 hown hK hP (xk_0).1 (ce7 (xk_0).2) rfl 5 (by decide) (ht0 _ m_FL_X7_53) rfl (rfv (G := XG) (c := 0) (k := 5) (c' := 65) rfl) dX7_feed_35 ?_
    refine lv_iload_n hx hb dX7_feed_38 rfl (lv_at hl 3 rfl) ?_
    obtain ⟨r4, D4, hc4, h⟩ := bi_some h
    refine x_callVv (As := [.int a3]) ⟨hx, hb, hml, hown, ht0⟩ hK hT hP hS (c_X1_addNumber l dd Y t XG ad ij F 65 xb_65 a3 _ _ _ hc4) m_ML_X7_80 sv_X1_addNumber hd_X1_addNumber rfl rfl ⟨Nat.le_of_ble_eq_true rfl, Nat.le_of_ble_eq_true rfl⟩ (xk_65).1 (ce1 (xk_65).2) rfl rfl hl.1 rfl (Nat.le_of_ble_eq_true rfl) dX7_feed_39 ⟨Nat.zero_le _, Nat.zero_le _⟩ (fun H locs hP hS => ?_)
    refine lv_aload_n hx hb dX7_feed_42 rfl (lv_at hl 0 rfl) ?_
    refine x_get hx hb ht0 u_X7 hown hK hP (xk_0).1 (ce7 (xk_0).2) rfl 5 (by decide) (ht0 _ m_FL_X7_53) rfl (rfv (G := XG) (c := 0) (k := 5) (c' := 65) rfl) dX7_feed_43 ?_
    refine lv_iload hx hb dX7_feed_46 (lv_at hl 4 rfl) ?_
    obtain ⟨r5, D5, hc5, h⟩ := bi_some h
    refine x_callVv (As := [.int a4]) ⟨hx, hb, hml, hown, ht0⟩ hK hT hP hS (c_X1_addNumber l dd Y t XG ad ij F 65 xb_65 a4 _ _ _ hc5) m_ML_X7_80 sv_X1_addNumber hd_X1_addNumber rfl rfl ⟨Nat.le_of_ble_eq_true rfl, Nat.le_of_ble_eq_true rfl⟩ (xk_65).1 (ce1 (xk_65).2) rfl rfl hl.1 rfl (Nat.le_of_ble_eq_true rfl) dX7_feed_48 ⟨Nat.zero_le _, Nat.zero_le _⟩ (fun H locs hP hS => ?_)
    refine lv_aload_n hx hb dX7_feed_51 rfl (lv_at hl 0 rfl) ?_
    refine x_get hx hb ht0 u_X7 hown hK hP (xk_0).1 (ce7 (xk_0).2) rfl 5 (by decide) (ht0 _ m_FL_X7_53) rfl (rfv (G := XG) (c := 0) (k := 5) (c' := 65) rfl) dX7_feed_52 ?_
    refine lv_iload hx hb dX7_feed_55 (lv_at hl 5 rfl) ?_
    obtain ⟨r6, D6, hc6, h⟩ := bi_some h
    refine x_callVv (As := [.int a5]) ⟨hx, hb, hml, hown, ht0⟩ hK hT hP hS (c_X1_addNumber l dd Y t XG ad ij F 65 xb_65 a5 _ _ _ hc6) m_ML_X7_80 sv_X1_addNumber hd_X1_addNumber rfl rfl ⟨Nat.le_of_ble_eq_true rfl, Nat.le_of_ble_eq_true rfl⟩ (xk_65).1 (ce1 (xk_65).2) rfl rfl hl.1 rfl (Nat.le_of_ble_eq_true rfl) dX7_feed_57 ⟨Nat.zero_le _, Nat.zero_le _⟩ (fun H locs hP hS => ?_)
    refine lv_aload_n hx hb dX7_feed_60 rfl (lv_at hl 0 rfl) ?_
    refine x_get hx hb ht0 u_X7 hown hK hP (xk_0).1 (ce7 (xk_0).2) rfl 5 (by decide) (ht0 _ m_FL_X7_53) rfl (rfv (G := XG) (c := 0) (k := 5) (c' := 65) rfl) dX7_feed_61 ?_
    refine x_get hx hb ht0 u_X1 hown hK hP (xk_65).1 (ce1 (xk_65).2) rfl 1 (by decide) (ht0 _ m_FL_X7_76) rfl rfl dX7_feed_64 ?_
    exact x_iret hx hb hr hlocks rfl hP hS h dX7_feed_67
  · have h := x_f (show ¬ (((D 65 1) + 20) ≤ 2480) from c1) h
    refine lv_iconst (v := (-1)) hx hb dX7_feed_16 (by decide) ?_
    exact x_iret hx hb hr hlocks rfl hP hS h dX7_feed_17
abbrev rm_X7_end : Room := { frames := 0, cells := 0, slots := 0, locals := 0 }
set_option maxHeartbeats 4000000 in
set_option maxRecDepth 100000 in
theorem c_X7_end (l : Launch) (dd : Dd) (Y : Yc) (t : Ts3) (ad : Nat → Nat) (ij : Ij XG ad) (F : Nat) (a1 : Int32) (D0 D' : Mm) (r0 : Int32) (h : P_X7_end (gN XG) F a1 D0 = some (r0, D')) : Met l yX7_end wzX7_end rm_X7_end (va_Pc [.ref (ad 0), .int a1] (Wd dd Y t XG ad D0)) (Qi dd Y XG ad .int r0 D') 0 0 (pA XG ad) := by
  refine Met.ofW (cc := cX7_end) (maxL := 2) (ret := (some .int)) (by decide) rfl ?_
  intro p e s m args below meth c s₁ B hml hv
  obtain ⟨rfl, hP, hK, hT⟩ := hv
  have hx := B.exec
  have hb := B.bytes
  have hr := B.returns
  have ht0 : ∀ w ∈ W0, w.before _ s = true := fun w h => atoms_spec (ws := wzX7_end) B.pre w (List.mem_cons_of_mem _ h)
  have hown : s.vm.findClass RX7 = some m.cls := findClass_of_methodNamed B.named
  have hlocks := B.notSynchronized
  have hS : va_S (pA XG ad) s.heap s.heap [] := va_S.rf
  have hl := lv_entry ([.ref (ad 0), .int a1]) (n := 2) (Nat.le_of_ble_eq_true rfl)
  rw [lg_entry_eq]
  generalize (lg_sl ([.ref (ad 0), .int a1]) ++ List.replicate (2 - (lg_sl ([.ref (ad 0), .int a1])).length) Slot.unset).toArray = ls at hl ⊢
  have hl : lv_has ls 2 [(0, .ref (ad 0)), (1, .int a1)] := hl
  have hP : va_P dd vwCl (wW Y XG ad D0) s.heap := hP
  generalize D0 = D at h hP
  have h : ((if a1 < 0 then (some ((-1), D)) else (if a1 ≤ (D 65 1) then (some (a1, up2 D 65 1 a1)) else (some ((-1), D)))) : Rs) = some (r0, D') := h
  refine lv_iload_n hx hb dX7_end_0 rfl (lv_at hl 1 rfl) ?_
  refine lv_if_lt (tgt := 15) hx hb dX7_end_1 (by decide) (fun c1 => ?_) (fun c1 => ?_)
  · have h := x_t (show a1 < 0 from c1) h
    refine lv_iconst (v := (-1)) hx hb dX7_end_15 (by decide) ?_
    exact x_iret hx hb hr hlocks rfl hP hS h dX7_end_16
  · have h := x_f (show ¬ (a1 < 0) from c1) h
    refine lv_iload_n hx hb dX7_end_4 rfl (lv_at hl 1 rfl) ?_
    refine lv_aload_n hx hb dX7_end_5 rfl (lv_at hl 0 rfl) ?_
    refine x_get hx hb ht0 u_X7 hown hK hP (xk_0).1 (ce7 (xk_0).2) rfl 5 (by decide) (ht0 _ m_FL_X7_53) rfl (rfv (G := XG) (c := 0) (k := 5) (c' := 65) rfl) dX7_end_6 ?_
    refine x_get hx hb ht0 u_X1 hown hK hP (xk_65).1 (ce1 (xk_65).2) rfl 1 (by decide) (ht0 _ m_FL_X7_76) rfl rfl dX7_end_9 ?_
    refine lv_icmp_le (tgt := 17) hx hb dX7_end_12 (by decide) (fun c2 => ?_) (fun c2 => ?_)
    · have h := x_t (show a1 ≤ (D 65 1) from c2) h
      refine lv_aload_n hx hb dX7_end_17 rfl (lv_at hl 0 rfl) ?_
      refine x_get hx hb ht0 u_X7 hown hK hP (xk_0).1 (ce7 (xk_0).2) rfl 5 (by decide) (ht0 _ m_FL_X7_53) rfl (rfv (G := XG) (c := 0) (k := 5) (c' := 65) rfl) dX7_end_18 ?_
      refine lv_iload_n hx hb dX7_end_21 rfl (lv_at hl 1 rfl) ?_
      refine x_put (ty := .int) hx hb ht0 u_X1 tyX1 tyX1_ok nmX1 hown hK ij hP hS (xk_65).1 (ce1 (xk_65).2) rfl 1 (by decide) (ht0 _ m_FL_X7_76) rfl rfl (by decide +kernel) rfl rfl (Nat.le_of_ble_eq_true rfl) (by rw [(xk_65).2]; rfl) dX7_end_22 (fun H locs hP hS => ?_)
      refine lv_iload_n hx hb dX7_end_25 rfl (lv_at hl 1 rfl) ?_
      exact x_iret hx hb hr hlocks rfl hP hS h dX7_end_26
    · have h := x_f (show ¬ (a1 ≤ (D 65 1)) from c2) h
      refine lv_iconst (v := (-1)) hx hb dX7_end_15 (by decide) ?_
      exact x_iret hx hb hr hlocks rfl hP hS h dX7_end_16
abbrev rm_X7_format : Room := { frames := 5, cells := 0, slots := 0, locals := 124 }
set_option maxHeartbeats 4000000 in
set_option maxRecDepth 100000 in
theorem c_X7_format (l : Launch) (dd : Dd) (Y : Yc) (t : Ts3) (ad : Nat → Nat) (ij : Ij XG ad) (F : Nat) (a1 a2 a3 : Int32) (D0 D' : Mm) (r0 : Int32) (h : P_X7_format (gN XG) F a1 a2 a3 D0 = some (r0, D')) : Met l yX7_format wzX7_format rm_X7_format (va_Pc [.ref (ad 0), .int a1, .int a2, .int a3] (Wd dd Y t XG ad D0)) (Qi dd Y XG ad .int r0 D') 0 0 (pA XG ad) := by
  refine Met.ofW (cc := cX7_format) (maxL := 4) (ret := (some .int)) (by decide) rfl ?_
  intro p e s m args below meth c s₁ B hml hv
  obtain ⟨rfl, hP, hK, hT⟩ := hv
  have hx := B.exec
  have hb := B.bytes
  have hr := B.returns
  have ht0 : ∀ w ∈ W0, w.before _ s = true := fun w h => atoms_spec (ws := wzX7_format) B.pre w (List.mem_cons_of_mem _ h)
  have hown : s.vm.findClass RX7 = some m.cls := findClass_of_methodNamed B.named
  have hlocks := B.notSynchronized
  have hS : va_S (pA XG ad) s.heap s.heap [] := va_S.rf
  have hl := lv_entry ([.ref (ad 0), .int a1, .int a2, .int a3]) (n := 4) (Nat.le_of_ble_eq_true rfl)
  rw [lg_entry_eq]
  generalize (lg_sl ([.ref (ad 0), .int a1, .int a2, .int a3]) ++ List.replicate (4 - (lg_sl ([.ref (ad 0), .int a1, .int a2, .int a3])).length) Slot.unset).toArray = ls at hl ⊢
  have hl : lv_has ls 4 [(0, .ref (ad 0)), (1, .int a1), (2, .int a2), (3, .int a3)] := hl
  have hP : va_P dd vwCl (wW Y XG ad D0) s.heap := hP
  generalize D0 = D at h hP
  have h : ((bi (P_X0_formatTracks (gN XG) F (up2 D 2 3 (a1 &&& 65535))) (fun r1 D1 => bi (P_X4_fillNew (gN XG) F (D1 2 3) a2 a3 D1) (fun r2 D2 => bi (P_X0_layFormatted (gN XG) F 57 9 0 D2) (fun r3 D3 => bi (P_X6_tell (gN XG) F 0 0 0 D3) (fun r4 D4 => some (r4, D4)))))) : Rs) = some (r0, D') := h
  refine lv_aload_n hx hb dX7_format_0 rfl (lv_at hl 0 rfl) ?_
  refine x_get hx hb ht0 u_X7 hown hK hP (xk_0).1 (ce7 (xk_0).2) rfl 1 (by decide) (ht0 _ m_FL_X7_21) rfl (rfv (G := XG) (c := 0) (k := 1) (c' := 2) rfl) dX7_format_1 ?_
  refine lv_iload_n hx hb dX7_format_4 rfl (lv_at hl 1 rfl) ?_
  refine lv_ldc hx hb hown (ht0 _ m_KO_X7_83) dX7_format_5 ?_
  refine lv_iand hx hb dX7_format_7 ?_
  refine x_put (ty := .int) hx hb ht0 u_X0 tyX0 tyX0_ok nmX0 hown hK ij hP hS (xk_2).1 (ce0 (xk_2).2) rfl 3 (by decide) (ht0 _ m_FL_X7_84) rfl rfl (by decide +kernel) rfl rfl (Nat.le_of_ble_eq_true rfl) (by rw [(xk_2).2]; rfl) dX7_format_8 (fun H locs hP hS => ?_)
  refine lv_aload_n hx hb dX7_format_11 rfl (lv_at hl 0 rfl) ?_
  refine x_get hx hb ht0 u_X7 hown hK hP (xk_0).1 (ce7 (xk_0).2) rfl 1 (by decide) (ht0 _ m_FL_X7_21) rfl (rfv (G := XG) (c := 0) (k := 1) (c' := 2) rfl) dX7_format_12 ?_
  obtain ⟨r1, D1, hc1, h⟩ := bi_some h
  refine x_callVv (As := []) ⟨hx, hb, hml, hown, ht0⟩ hK hT hP hS (c_X0_formatTracks l dd Y t ad ij F  _ _ _ hc1) m_ML_X7_87 sv_X0_formatTracks hd_X0_formatTracks rfl rfl ⟨Nat.le_of_ble_eq_true rfl, Nat.le_of_ble_eq_true rfl⟩ (xk_2).1 (ce0 (xk_2).2) rfl rfl hl.1 rfl (Nat.le_of_ble_eq_true rfl) dX7_format_15 ⟨Nat.zero_le _, Nat.zero_le _⟩ (fun H locs hP hS => ?_)
  refine lv_aload_n hx hb dX7_format_18 rfl (lv_at hl 0 rfl) ?_
  refine x_get hx hb ht0 u_X7 hown hK hP (xk_0).1 (ce7 (xk_0).2) rfl 2 (by decide) (ht0 _ m_FL_X7_28) rfl (rfv (G := XG) (c := 0) (k := 2) (c' := 56) rfl) dX7_format_19 ?_
  refine lv_aload_n hx hb dX7_format_22 rfl (lv_at hl 0 rfl) ?_
  refine x_get hx hb ht0 u_X7 hown hK hP (xk_0).1 (ce7 (xk_0).2) rfl 1 (by decide) (ht0 _ m_FL_X7_21) rfl (rfv (G := XG) (c := 0) (k := 1) (c' := 2) rfl) dX7_format_23 ?_
  refine x_get hx hb ht0 u_X0 hown hK hP (xk_2).1 (ce0 (xk_2).2) rfl 3 (by decide) (ht0 _ m_FL_X7_84) rfl rfl dX7_format_26 ?_
  refine lv_iload_n hx hb dX7_format_29 rfl (lv_at hl 2 rfl) ?_
  refine lv_iload_n hx hb dX7_format_30 rfl (lv_at hl 3 rfl) ?_
  obtain ⟨r2, D2, hc2, h⟩ := bi_some h
  refine x_callVv (As := [.int (D1 2 3), .int a2, .int a3]) ⟨hx, hb, hml, hown, ht0⟩ hK hT hP hS (c_X4_fillNew l dd Y t ad ij F (D1 2 3) a2 a3 _ _ _ hc2) m_ML_X7_90 sv_X4_fillNew hd_X4_fillNew rfl rfl ⟨Nat.le_of_ble_eq_true rfl, Nat.le_of_ble_eq_true rfl⟩ (xk_56).1 (ce4 (xk_56).2) rfl rfl hl.1 rfl (Nat.le_of_ble_eq_true rfl) dX7_format_31 ⟨Nat.zero_le _, Nat.zero_le _⟩ (fun H locs hP hS => ?_)
  refine lv_aload_n hx hb dX7_format_34 rfl (lv_at hl 0 rfl) ?_
  refine x_get hx hb ht0 u_X7 hown hK hP (xk_0).1 (ce7 (xk_0).2) rfl 1 (by decide) (ht0 _ m_FL_X7_21) rfl (rfv (G := XG) (c := 0) (k := 1) (c' := 2) rfl) dX7_format_35 ?_
  refine lv_bipush (v := 9) hx hb dX7_format_38 (by decide) ?_
  refine lv_iconst (v := 0) hx hb dX7_format_40 (by decide) ?_
  refine lv_aload_n hx hb dX7_format_41 rfl (lv_at hl 0 rfl) ?_
  refine x_get hx hb ht0 u_X7 hown hK hP (xk_0).1 (ce7 (xk_0).2) rfl 2 (by decide) (ht0 _ m_FL_X7_28) rfl (rfv (G := XG) (c := 0) (k := 2) (c' := 56) rfl) dX7_format_42 ?_
  refine x_get hx hb ht0 u_X4 hown hK hP (xk_56).1 (ce4 (xk_56).2) rfl 0 (by decide) (ht0 _ m_FL_X7_94) rfl (rfv (G := XG) (c := 56) (k := 0) (c' := 57) rfl) dX7_format_45 ?_
  obtain ⟨r3, D3, hc3, h⟩ := bi_some h
  refine x_callVv (As := [.int 9, .int 0, .ref (ad 57)]) ⟨hx, hb, hml, hown, ht0⟩ hK hT hP hS (c_X0_layFormatted l dd Y t ad ij F 57 xk_57 9 0 _ _ _ hc3) m_ML_X7_97 sv_X0_layFormatted hd_X0_layFormatted rfl rfl ⟨Nat.le_of_ble_eq_true rfl, Nat.le_of_ble_eq_true rfl⟩ (xk_2).1 (ce0 (xk_2).2) rfl rfl hl.1 rfl (Nat.le_of_ble_eq_true rfl) dX7_format_48 ⟨Nat.zero_le _, Nat.zero_le _⟩ (fun H locs hP hS => ?_)
  refine lv_aload_n hx hb dX7_format_51 rfl (lv_at hl 0 rfl) ?_
  refine x_get hx hb ht0 u_X7 hown hK hP (xk_0).1 (ce7 (xk_0).2) rfl 0 (by decide) (ht0 _ m_FL_X7_12) rfl (rfv (G := XG) (c := 0) (k := 0) (c' := 1) rfl) dX7_format_52 ?_
  refine lv_iconst (v := 0) hx hb dX7_format_55 (by decide) ?_
  refine lv_iconst (v := 0) hx hb dX7_format_56 (by decide) ?_
  refine lv_iconst (v := 0) hx hb dX7_format_57 (by decide) ?_
  obtain ⟨r4, D4, hc4, h⟩ := bi_some h
  refine x_callVi (As := [.int 0, .int 0, .int 0]) ⟨hx, hb, hml, hown, ht0⟩ hK hT hP hS (c_X6_tell l dd Y t ad ij F 0 0 0 _ _ _ hc4) m_ML_X7_101 sv_X6_tell hd_X6_tell rfl rfl ⟨Nat.le_of_ble_eq_true rfl, Nat.le_of_ble_eq_true rfl⟩ (xk_1).1 (ce6 (xk_1).2) rfl rfl hl.1 rfl (Nat.le_of_ble_eq_true rfl) dX7_format_58 ⟨Nat.zero_le _, Nat.zero_le _⟩ (fun H locs hn_r4 hP hS => ?_)
  exact x_iret hx hb hr hlocks rfl hP hS h dX7_format_61
abbrev rm_X7_mount : Room := { frames := 1, cells := 0, slots := 0, locals := 23 }
set_option maxHeartbeats 4000000 in
set_option maxRecDepth 100000 in
theorem c_X7_mount (l : Launch) (dd : Dd) (Y : Yc) (t : Ts3) (ad : Nat → Nat) (ij : Ij XG ad) (F : Nat) (a1 : Int32) (D0 D' : Mm) (r0 : Int32) (h : P_X7_mount (gN XG) F a1 D0 = some (r0, D')) : Met l yX7_mount wzX7_mount rm_X7_mount (va_Pc [.ref (ad 0), .int a1] (Wd dd Y t XG ad D0)) (Qi dd Y XG ad .int r0 D') 0 0 (pA XG ad) := by
  refine Met.ofW (cc := cX7_mount) (maxL := 2) (ret := (some .int)) (by decide) rfl ?_
  intro p e s m args below meth c s₁ B hml hv
  obtain ⟨rfl, hP, hK, hT⟩ := hv
  have hx := B.exec
  have hb := B.bytes
  have hr := B.returns
  have ht0 : ∀ w ∈ W0, w.before _ s = true := fun w h => atoms_spec (ws := wzX7_mount) B.pre w (List.mem_cons_of_mem _ h)
  have hown : s.vm.findClass RX7 = some m.cls := findClass_of_methodNamed B.named
  have hlocks := B.notSynchronized
  have hS : va_S (pA XG ad) s.heap s.heap [] := va_S.rf
  have hl := lv_entry ([.ref (ad 0), .int a1]) (n := 2) (Nat.le_of_ble_eq_true rfl)
  rw [lg_entry_eq]
  generalize (lg_sl ([.ref (ad 0), .int a1]) ++ List.replicate (2 - (lg_sl ([.ref (ad 0), .int a1])).length) Slot.unset).toArray = ls at hl ⊢
  have hl : lv_has ls 2 [(0, .ref (ad 0)), (1, .int a1)] := hl
  have hP : va_P dd vwCl (wW Y XG ad D0) s.heap := hP
  generalize D0 = D at h hP
  have h : ((bi (P_X6_tell (gN XG) F 0 0 0 (up2 D 2 3 (a1 &&& 65535))) (fun r1 D1 => some (r1, D1))) : Rs) = some (r0, D') := h
  refine lv_aload_n hx hb dX7_mount_0 rfl (lv_at hl 0 rfl) ?_
  refine x_get hx hb ht0 u_X7 hown hK hP (xk_0).1 (ce7 (xk_0).2) rfl 1 (by decide) (ht0 _ m_FL_X7_21) rfl (rfv (G := XG) (c := 0) (k := 1) (c' := 2) rfl) dX7_mount_1 ?_
  refine lv_iload_n hx hb dX7_mount_4 rfl (lv_at hl 1 rfl) ?_
  refine lv_ldc hx hb hown (ht0 _ m_KO_X7_83) dX7_mount_5 ?_
  refine lv_iand hx hb dX7_mount_7 ?_
  refine x_put (ty := .int) hx hb ht0 u_X0 tyX0 tyX0_ok nmX0 hown hK ij hP hS (xk_2).1 (ce0 (xk_2).2) rfl 3 (by decide) (ht0 _ m_FL_X7_84) rfl rfl (by decide +kernel) rfl rfl (Nat.le_of_ble_eq_true rfl) (by rw [(xk_2).2]; rfl) dX7_mount_8 (fun H locs hP hS => ?_)
  refine lv_aload_n hx hb dX7_mount_11 rfl (lv_at hl 0 rfl) ?_
  refine x_get hx hb ht0 u_X7 hown hK hP (xk_0).1 (ce7 (xk_0).2) rfl 0 (by decide) (ht0 _ m_FL_X7_12) rfl (rfv (G := XG) (c := 0) (k := 0) (c' := 1) rfl) dX7_mount_12 ?_
  refine lv_iconst (v := 0) hx hb dX7_mount_15 (by decide) ?_
  refine lv_iconst (v := 0) hx hb dX7_mount_16 (by decide) ?_
  refine lv_iconst (v := 0) hx hb dX7_mount_17 (by decide) ?_
  obtain ⟨r1, D1, hc1, h⟩ := bi_some h
  refine x_callVi (As := [.int 0, .int 0, .int 0]) ⟨hx, hb, hml, hown, ht0⟩ hK hT hP hS (c_X6_tell l dd Y t ad ij F 0 0 0 _ _ _ hc1) m_ML_X7_101 sv_X6_tell hd_X6_tell rfl rfl ⟨Nat.le_of_ble_eq_true rfl, Nat.le_of_ble_eq_true rfl⟩ (xk_1).1 (ce6 (xk_1).2) rfl rfl hl.1 rfl (Nat.le_of_ble_eq_true rfl) dX7_mount_18 ⟨Nat.zero_le _, Nat.zero_le _⟩ (fun H locs hn_r1 hP hS => ?_)
  exact x_iret hx hb hr hlocks rfl hP hS h dX7_mount_21
abbrev rm_X7_openDisk : Room := { frames := 5, cells := 0, slots := 0, locals := 133 }
set_option maxHeartbeats 4000000 in
set_option maxRecDepth 100000 in
theorem c_X7_openDisk (l : Launch) (dd : Dd) (Y : Yc) (t : Ts3) (ad : Nat → Nat) (ij : Ij XG ad) (F : Nat) (D0 D' : Mm) (r0 : Int32) (h : P_X7_openDisk (gN XG) F D0 = some (r0, D')) : Met l yX7_openDisk wzX7_openDisk rm_X7_openDisk (va_Pc [.ref (ad 0)] (Wd dd Y t XG ad D0)) (Qi dd Y XG ad .int r0 D') 0 0 (pA XG ad) := by
  refine Met.ofW (cc := cX7_openDisk) (maxL := 1) (ret := (some .int)) (by decide) rfl ?_
  intro p e s m args below meth c s₁ B hml hv
  obtain ⟨rfl, hP, hK, hT⟩ := hv
  have hx := B.exec
  have hb := B.bytes
  have hr := B.returns
  have ht0 : ∀ w ∈ W0, w.before _ s = true := fun w h => atoms_spec (ws := wzX7_openDisk) B.pre w (List.mem_cons_of_mem _ h)
  have hown : s.vm.findClass RX7 = some m.cls := findClass_of_methodNamed B.named
  have hlocks := B.notSynchronized
  have hS : va_S (pA XG ad) s.heap s.heap [] := va_S.rf
  have hl := lv_entry ([.ref (ad 0)]) (n := 1) (Nat.le_of_ble_eq_true rfl)
  rw [lg_entry_eq]
  generalize (lg_sl ([.ref (ad 0)]) ++ List.replicate (1 - (lg_sl ([.ref (ad 0)])).length) Slot.unset).toArray = ls at hl ⊢
  have hl : lv_has ls 1 [(0, .ref (ad 0))] := hl
  have hP : va_P dd vwCl (wW Y XG ad D0) s.heap := hP
  generalize D0 = D at h hP
  have h : ((bi (P_X6_tell (gN XG) F 0 0 0 D) (fun r1 D1 => if (D1 2 3) = (-1) then (bi (P_X6_tell (gN XG) F 74 0 0 D1) (fun r4 D4 => some (r4, D4))) else (bi (P_X0_fetch (gN XG) F 57 9 0 D1) (fun r3 D3 => some (r3, D3))))) : Rs) = some (r0, D') := h
  refine lv_aload_n hx hb dX7_openDisk_0 rfl (lv_at hl 0 rfl) ?_
  refine x_get hx hb ht0 u_X7 hown hK hP (xk_0).1 (ce7 (xk_0).2) rfl 0 (by decide) (ht0 _ m_FL_X7_12) rfl (rfv (G := XG) (c := 0) (k := 0) (c' := 1) rfl) dX7_openDisk_1 ?_
  refine lv_iconst (v := 0) hx hb dX7_openDisk_4 (by decide) ?_
  refine lv_iconst (v := 0) hx hb dX7_openDisk_5 (by decide) ?_
  refine lv_iconst (v := 0) hx hb dX7_openDisk_6 (by decide) ?_
  obtain ⟨r1, D1, hc1, h⟩ := bi_some h
  refine x_callVi (As := [.int 0, .int 0, .int 0]) ⟨hx, hb, hml, hown, ht0⟩ hK hT hP hS (c_X6_tell l dd Y t ad ij F 0 0 0 _ _ _ hc1) m_ML_X7_101 sv_X6_tell hd_X6_tell rfl rfl ⟨Nat.le_of_ble_eq_true rfl, Nat.le_of_ble_eq_true rfl⟩ (xk_1).1 (ce6 (xk_1).2) rfl rfl hl.1 rfl (Nat.le_of_ble_eq_true rfl) dX7_openDisk_7 ⟨Nat.zero_le _, Nat.zero_le _⟩ (fun H locs hn_r1 hP hS => ?_)
  refine lv_pop hx hb dX7_openDisk_10 rfl ?_
  refine lv_aload_n hx hb dX7_openDisk_11 rfl (lv_at hl 0 rfl) ?_
  refine x_get hx hb ht0 u_X7 hown hK hP (xk_0).1 (ce7 (xk_0).2) rfl 1 (by decide) (ht0 _ m_FL_X7_21) rfl (rfv (G := XG) (c := 0) (k := 1) (c' := 2) rfl) dX7_openDisk_12 ?_
  refine x_get hx hb ht0 u_X0 hown hK hP (xk_2).1 (ce0 (xk_2).2) rfl 3 (by decide) (ht0 _ m_FL_X7_84) rfl rfl dX7_openDisk_15 ?_
  refine lv_iconst (v := (-1)) hx hb dX7_openDisk_18 (by decide) ?_
  refine lv_icmp_ne (tgt := 34) hx hb dX7_openDisk_19 (by decide) (fun c2 => ?_) (fun c2 => ?_)
  · have h := x_f (show ¬ ((D1 2 3) = (-1)) from c2) h
    refine lv_aload_n hx hb dX7_openDisk_34 rfl (lv_at hl 0 rfl) ?_
    refine x_get hx hb ht0 u_X7 hown hK hP (xk_0).1 (ce7 (xk_0).2) rfl 1 (by decide) (ht0 _ m_FL_X7_21) rfl (rfv (G := XG) (c := 0) (k := 1) (c' := 2) rfl) dX7_openDisk_35 ?_
    refine lv_bipush (v := 9) hx hb dX7_openDisk_38 (by decide) ?_
    refine lv_iconst (v := 0) hx hb dX7_openDisk_40 (by decide) ?_
    refine lv_aload_n hx hb dX7_openDisk_41 rfl (lv_at hl 0 rfl) ?_
    refine x_get hx hb ht0 u_X7 hown hK hP (xk_0).1 (ce7 (xk_0).2) rfl 2 (by decide) (ht0 _ m_FL_X7_28) rfl (rfv (G := XG) (c := 0) (k := 2) (c' := 56) rfl) dX7_openDisk_42 ?_
    refine x_get hx hb ht0 u_X4 hown hK hP (xk_56).1 (ce4 (xk_56).2) rfl 0 (by decide) (ht0 _ m_FL_X7_94) rfl (rfv (G := XG) (c := 56) (k := 0) (c' := 57) rfl) dX7_openDisk_45 ?_
    obtain ⟨r3, D3, hc3, h⟩ := bi_some h
    refine x_callVi (As := [.int 9, .int 0, .ref (ad 57)]) ⟨hx, hb, hml, hown, ht0⟩ hK hT hP hS (c_X0_fetch l dd Y t ad ij F 57 xk_57 9 0 _ _ _ hc3) m_ML_X7_221 sv_X0_fetch hd_X0_fetch rfl rfl ⟨Nat.le_of_ble_eq_true rfl, Nat.le_of_ble_eq_true rfl⟩ (xk_2).1 (ce0 (xk_2).2) rfl rfl hl.1 rfl (Nat.le_of_ble_eq_true rfl) dX7_openDisk_48 ⟨Nat.zero_le _, Nat.zero_le _⟩ (fun H locs hn_r3 hP hS => ?_)
    exact x_iret hx hb hr hlocks rfl hP hS h dX7_openDisk_51
  · have h := x_t (show (D1 2 3) = (-1) from c2) h
    refine lv_aload_n hx hb dX7_openDisk_22 rfl (lv_at hl 0 rfl) ?_
    refine x_get hx hb ht0 u_X7 hown hK hP (xk_0).1 (ce7 (xk_0).2) rfl 0 (by decide) (ht0 _ m_FL_X7_12) rfl (rfv (G := XG) (c := 0) (k := 0) (c' := 1) rfl) dX7_openDisk_23 ?_
    refine lv_bipush (v := 74) hx hb dX7_openDisk_26 (by decide) ?_
    refine lv_iconst (v := 0) hx hb dX7_openDisk_28 (by decide) ?_
    refine lv_iconst (v := 0) hx hb dX7_openDisk_29 (by decide) ?_
    obtain ⟨r4, D4, hc4, h⟩ := bi_some h
    refine x_callVi (As := [.int 74, .int 0, .int 0]) ⟨hx, hb, hml, hown, ht0⟩ hK hT hP hS (c_X6_tell l dd Y t ad ij F 74 0 0 _ _ _ hc4) m_ML_X7_101 sv_X6_tell hd_X6_tell rfl rfl ⟨Nat.le_of_ble_eq_true rfl, Nat.le_of_ble_eq_true rfl⟩ (xk_1).1 (ce6 (xk_1).2) rfl rfl hl.1 rfl (Nat.le_of_ble_eq_true rfl) dX7_openDisk_30 ⟨Nat.zero_le _, Nat.zero_le _⟩ (fun H locs hn_r4 hP hS => ?_)
    exact x_iret hx hb hr hlocks rfl hP hS h dX7_openDisk_33
abbrev rm_X7_lookFor : Room := { frames := 6, cells := 0, slots := 0, locals := 153 }
set_option maxHeartbeats 4000000 in
set_option maxRecDepth 100000 in
theorem c_X7_lookFor (l : Launch) (dd : Dd) (Y : Yc) (t : Ts3) (ad : Nat → Nat) (ij : Ij XG ad) (F : Nat) (a1 a2 : Int32) (D0 D' : Mm) (r0 : Int32) (h : P_X7_lookFor (gN XG) F a1 a2 D0 = some (r0, D')) : Met l yX7_lookFor wzX7_lookFor rm_X7_lookFor (va_Pc [.ref (ad 0), .int a1, .int a2] (Wd dd Y t XG ad D0)) (Qi dd Y XG ad .int r0 D') 0 0 (pA XG ad) := by
  refine Met.ofW (cc := cX7_lookFor) (maxL := 5) (ret := (some .int)) (by decide) rfl ?_
  intro p e s m args below meth c s₁ B hml hv
  obtain ⟨rfl, hP, hK, hT⟩ := hv
  have hx := B.exec
  have hb := B.bytes
  have hr := B.returns
  have ht0 : ∀ w ∈ W0, w.before _ s = true := fun w h => atoms_spec (ws := wzX7_lookFor) B.pre w (List.mem_cons_of_mem _ h)
  have hown : s.vm.findClass RX7 = some m.cls := findClass_of_methodNamed B.named
  have hlocks := B.notSynchronized
  have hS : va_S (pA XG ad) s.heap s.heap [] := va_S.rf
  have L20 : ∀ (n : Nat), ∀ (x1 x2 x3 x4 : Int32) (D : Mm) (H : Heap) (locs : List Loc) (ls : Array Slot), P_X7_lookFor_20 (gN XG) F n x1 x2 x3 x4 D = some (r0, D') → va_P dd vwCl (wW Y XG ad D) H → va_S (pA XG ad) s.heap H locs → lv_has ls 5 [(0, .ref (ad 0)), (1, .int x1), (2, .int x2), (3, .int x3), (4, .int x4)] → W p l e (headSpec wzX7_lookFor rm_X7_lookFor).room s m ([.ref (ad 0), .int a1, .int a2].toArray) below meth c H locs 0 0 (MQ below (Qi dd Y XG ad .int r0 D') ([.ref (ad 0), .int a1, .int a2].toArray) s 0 0 (pA XG ad)) (F0 m 20 ls []) := by
    intro n
    induction n with
    | zero =>
      intro x1 x2 x3 x4 D H locs ls h hP hS hl
      cases h
    | succ n ih =>
      intro x1 x2 x3 x4 D H locs ls h hP hS hl
      have h : ((if 7 ≤ x4 then (some (x3, D)) else (if x3 = 0 then (bi (P_X3_findEntry (gN XG) F x1 x2 D) (fun r3 D3 => if r3 = 0 then (bi (P_X3_isLast (gN XG) F D3) (fun r5 D5 => if r5 = 0 then (bi (P_X3_step (gN XG) F D5) (fun r7 D7 => P_X7_lookFor_20 (gN XG) F n x1 x2 r7 (x4 + 1) D7)) else (some (0, D5)))) else (some (0, D3)))) else (some (x3, D)))) : Rs) = some (r0, D') := h
      refine lv_iload hx hb dX7_lookFor_20 (lv_at hl 4 rfl) ?_
      refine lv_bipush (v := 7) hx hb dX7_lookFor_22 (by decide) ?_
      refine lv_icmp_ge (tgt := 69) hx hb dX7_lookFor_24 (by decide) (fun c1 => ?_) (fun c1 => ?_)
      · have h := x_t (show 7 ≤ x4 from c1) h
        refine lv_iload_n hx hb dX7_lookFor_69 rfl (lv_at hl 3 rfl) ?_
        exact x_iret hx hb hr hlocks rfl hP hS h dX7_lookFor_70
      · have h := x_f (show ¬ (7 ≤ x4) from c1) h
        refine lv_iload_n hx hb dX7_lookFor_27 rfl (lv_at hl 3 rfl) ?_
        refine lv_if_ne (tgt := 69) hx hb dX7_lookFor_28 (by decide) (fun c2 => ?_) (fun c2 => ?_)
        · have h := x_f (show ¬ (x3 = 0) from c2) h
          refine lv_iload_n hx hb dX7_lookFor_69 rfl (lv_at hl 3 rfl) ?_
          exact x_iret hx hb hr hlocks rfl hP hS h dX7_lookFor_70
        · have h := x_t (show x3 = 0 from c2) h
          refine lv_aload_n hx hb dX7_lookFor_31 rfl (lv_at hl 0 rfl) ?_
          refine x_get hx hb ht0 u_X7 hown hK hP (xk_0).1 (ce7 (xk_0).2) rfl 3 (by decide) (ht0 _ m_FL_X7_37) rfl (rfv (G := XG) (c := 0) (k := 3) (c' := 58) rfl) dX7_lookFor_32 ?_
          refine lv_iload_n hx hb dX7_lookFor_35 rfl (lv_at hl 1 rfl) ?_
          refine lv_iload_n hx hb dX7_lookFor_36 rfl (lv_at hl 2 rfl) ?_
          obtain ⟨r3, D3, hc3, h⟩ := bi_some h
          refine x_callVi (As := [.int x1, .int x2]) ⟨hx, hb, hml, hown, ht0⟩ hK hT hP hS (c_X3_findEntry l dd Y t ad ij F x1 x2 _ _ _ hc3) m_ML_X7_224 sv_X3_findEntry hd_X3_findEntry rfl rfl ⟨Nat.le_of_ble_eq_true rfl, Nat.le_of_ble_eq_true rfl⟩ (xk_58).1 (ce3 (xk_58).2) rfl rfl hl.1 rfl (Nat.le_of_ble_eq_true rfl) dX7_lookFor_37 ⟨Nat.zero_le _, Nat.zero_le _⟩ (fun H locs hn_r3 hP hS => ?_)
          refine lv_if_ne (tgt := 53) hx hb dX7_lookFor_40 (by decide) (fun c4 => ?_) (fun c4 => ?_)
          · have h := x_f (show ¬ (r3 = 0) from c4) h
            refine lv_iconst (v := 0) hx hb dX7_lookFor_53 (by decide) ?_
            exact x_iret hx hb hr hlocks rfl hP hS h dX7_lookFor_54
          · have h := x_t (show r3 = 0 from c4) h
            refine lv_aload_n hx hb dX7_lookFor_43 rfl (lv_at hl 0 rfl) ?_
            refine x_get hx hb ht0 u_X7 hown hK hP (xk_0).1 (ce7 (xk_0).2) rfl 3 (by decide) (ht0 _ m_FL_X7_37) rfl (rfv (G := XG) (c := 0) (k := 3) (c' := 58) rfl) dX7_lookFor_44 ?_
            obtain ⟨r5, D5, hc5, h⟩ := bi_some h
            refine x_callVi (As := []) ⟨hx, hb, hml, hown, ht0⟩ hK hT hP hS (c_X3_isLast l dd Y t ad ij F  _ _ _ hc5) m_ML_X7_158 sv_X3_isLast hd_X3_isLast rfl rfl ⟨Nat.le_of_ble_eq_true rfl, Nat.le_of_ble_eq_true rfl⟩ (xk_58).1 (ce3 (xk_58).2) rfl rfl hl.1 rfl (Nat.le_of_ble_eq_true rfl) dX7_lookFor_47 ⟨Nat.zero_le _, Nat.zero_le _⟩ (fun H locs hn_r5 hP hS => ?_)
            refine lv_if_eq (tgt := 55) hx hb dX7_lookFor_50 (by decide) (fun c6 => ?_) (fun c6 => ?_)
            · have h := x_t (show r5 = 0 from c6) h
              refine lv_aload_n hx hb dX7_lookFor_55 rfl (lv_at hl 0 rfl) ?_
              refine x_get hx hb ht0 u_X7 hown hK hP (xk_0).1 (ce7 (xk_0).2) rfl 3 (by decide) (ht0 _ m_FL_X7_37) rfl (rfv (G := XG) (c := 0) (k := 3) (c' := 58) rfl) dX7_lookFor_56 ?_
              obtain ⟨r7, D7, hc7, h⟩ := bi_some h
              refine x_callVi (As := []) ⟨hx, hb, hml, hown, ht0⟩ hK hT hP hS (c_X3_step l dd Y t ad ij F  _ _ _ hc7) m_ML_X7_161 sv_X3_step hd_X3_step rfl rfl ⟨Nat.le_of_ble_eq_true rfl, Nat.le_of_ble_eq_true rfl⟩ (xk_58).1 (ce3 (xk_58).2) rfl rfl hl.1 rfl (Nat.le_of_ble_eq_true rfl) dX7_lookFor_59 ⟨Nat.zero_le _, Nat.zero_le _⟩ (fun H locs hn_r7 hP hS => ?_)
              refine lv_istore_n (lv' := [(3, .int r7), (0, .ref (ad 0)), (1, .int x1), (2, .int x2), (4, .int x4)]) hx hb dX7_lookFor_62 rfl hl (by decide) rfl (fun ls hl => ?_)
              refine lv_iinc (v := x4 + 1) (lv' := [(4, .int (x4 + 1)), (3, .int r7), (0, .ref (ad 0)), (1, .int x1), (2, .int x2)]) hx hb dX7_lookFor_63 hl (k := 4) rfl rfl (by decide) rfl (fun ls hl => ?_)
              refine lv_goto (tgt := 20) hx hb dX7_lookFor_66 (by decide) ?_
              exact ih x1 x2 r7 (x4 + 1) D7 _ _ _ h hP hS (lv_sub hl [2, 3, 4, 1, 0] rfl)
            · have h := x_f (show ¬ (r5 = 0) from c6) h
              refine lv_iconst (v := 0) hx hb dX7_lookFor_53 (by decide) ?_
              exact x_iret hx hb hr hlocks rfl hP hS h dX7_lookFor_54
  have hl := lv_entry ([.ref (ad 0), .int a1, .int a2]) (n := 5) (Nat.le_of_ble_eq_true rfl)
  rw [lg_entry_eq]
  generalize (lg_sl ([.ref (ad 0), .int a1, .int a2]) ++ List.replicate (5 - (lg_sl ([.ref (ad 0), .int a1, .int a2])).length) Slot.unset).toArray = ls at hl ⊢
  have hl : lv_has ls 5 [(0, .ref (ad 0)), (1, .int a1), (2, .int a2)] := hl
  have hP : va_P dd vwCl (wW Y XG ad D0) s.heap := hP
  generalize D0 = D at h hP
  have h : ((bi (P_X7_openDisk (gN XG) F D) (fun r8 D8 => if r8 = 0 then (bi (P_X3_begin (gN XG) F D8) (fun r10 D10 => P_X7_lookFor_20 (gN XG) F F a1 a2 r10 0 D10)) else (P_X7_lookFor_20 (gN XG) F F a1 a2 r8 0 D8))) : Rs) = some (r0, D') := h
  refine lv_aload_n hx hb dX7_lookFor_0 rfl (lv_at hl 0 rfl) ?_
  obtain ⟨r8, D8, hc8, h⟩ := bi_some h
  refine x_callVi (As := []) ⟨hx, hb, hml, hown, ht0⟩ hK hT hP hS (c_X7_openDisk l dd Y t ad ij F  _ _ _ hc8) m_ML_X7_148 sv_X7_openDisk hd_X7_openDisk rfl rfl ⟨Nat.le_of_ble_eq_true rfl, Nat.le_of_ble_eq_true rfl⟩ (xk_0).1 (ce7 (xk_0).2) rfl rfl hl.1 rfl (Nat.le_of_ble_eq_true rfl) dX7_lookFor_1 ⟨Nat.zero_le _, Nat.zero_le _⟩ (fun H locs hn_r8 hP hS => ?_)
  refine lv_istore_n (lv' := [(3, .int r8), (0, .ref (ad 0)), (1, .int a1), (2, .int a2)]) hx hb dX7_lookFor_4 rfl hl (by decide) rfl (fun ls hl => ?_)
  refine lv_iload_n hx hb dX7_lookFor_5 rfl (lv_at hl 0 rfl) ?_
  refine lv_if_ne (tgt := 17) hx hb dX7_lookFor_6 (by decide) (fun c9 => ?_) (fun c9 => ?_)
  · have h := x_f (show ¬ (r8 = 0) from c9) h
    refine lv_iconst (v := 0) hx hb dX7_lookFor_17 (by decide) ?_
    refine lv_istore (lv' := [(4, .int 0), (3, .int r8), (0, .ref (ad 0)), (1, .int a1), (2, .int a2)]) hx hb dX7_lookFor_18 hl (by decide) rfl (fun ls hl => ?_)
    exact L20 F a1 a2 r8 0 D8 _ _ _ h hP hS (lv_sub hl [2, 3, 4, 1, 0] rfl)
  · have h := x_t (show r8 = 0 from c9) h
    refine lv_aload_n hx hb dX7_lookFor_9 rfl (lv_at hl 1 rfl) ?_
    refine x_get hx hb ht0 u_X7 hown hK hP (xk_0).1 (ce7 (xk_0).2) rfl 3 (by decide) (ht0 _ m_FL_X7_37) rfl (rfv (G := XG) (c := 0) (k := 3) (c' := 58) rfl) dX7_lookFor_10 ?_
    obtain ⟨r10, D10, hc10, h⟩ := bi_some h
    refine x_callVi (As := []) ⟨hx, hb, hml, hown, ht0⟩ hK hT hP hS (c_X3_begin l dd Y t ad ij F  _ _ _ hc10) m_ML_X7_151 sv_X3_begin hd_X3_begin rfl rfl ⟨Nat.le_of_ble_eq_true rfl, Nat.le_of_ble_eq_true rfl⟩ (xk_58).1 (ce3 (xk_58).2) rfl rfl hl.1 rfl (Nat.le_of_ble_eq_true rfl) dX7_lookFor_13 ⟨Nat.zero_le _, Nat.zero_le _⟩ (fun H locs hn_r10 hP hS => ?_)
    refine lv_istore_n (lv' := [(3, .int r10), (0, .ref (ad 0)), (1, .int a1), (2, .int a2)]) hx hb dX7_lookFor_16 rfl hl (by decide) rfl (fun ls hl => ?_)
    refine lv_iconst (v := 0) hx hb dX7_lookFor_17 (by decide) ?_
    refine lv_istore (lv' := [(4, .int 0), (3, .int r10), (0, .ref (ad 0)), (1, .int a1), (2, .int a2)]) hx hb dX7_lookFor_18 hl (by decide) rfl (fun ls hl => ?_)
    exact L20 F a1 a2 r10 0 D10 _ _ _ h hP hS (lv_sub hl [2, 3, 4, 1, 0] rfl)
