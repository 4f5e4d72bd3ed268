abbrev rm_X2_release : Room := { frames := 3, cells := 0, slots := 0, locals := 66 }
set_option maxHeartbeats 4000000 in
set_option maxRecDepth 100000 in
theorem c_X2_release (l : Launch) (dd : Dd) (Y : Yc) (t : Ts3) (ad : Nat → Nat) (ij : Ij XG ad) (F : Nat) (D0 D' : Mm) (r0 : Int32) (h : P_X2_release (gN XG) F D0 = some (r0, D')) : Met l yX2_release wzX2_release rm_X2_release (va_Pc [.ref (ad 61), .ref (ad 56)] (Wd dd Y t XG ad D0)) (Qv dd Y XG ad D') 0 0 (pA XG ad) := by
  refine Met.ofW (cc := cX2_release) (maxL := 3) (ret := none) (by decide) rfl ?_
  intro p e s m args below meth c s₁ B hml hv
  obtain ⟨rfl, hP, hK, hT⟩ := hv
  have hx := B.exec
  have hb := B.bytes
  have hr := B.returns
  have ht0 : ∀ w ∈ W0, w.before _ s = true := fun w h => atoms_spec (ws := wzX2_release) B.pre w (List.mem_cons_of_mem _ h)
  have hown : s.vm.findClass RX2 = some m.cls := findClass_of_methodNamed B.named
  have hlocks := B.notSynchronized
  have hS : va_S (pA XG ad) s.heap s.heap [] := va_S.rf
  have L2 : ∀ (n : Nat), ∀ (x2 : Int32) (D : Mm) (H : Heap) (locs : List Loc) (ls : Array Slot), P_X2_release_2 (gN XG) F n x2 D = some (r0, D') → va_P dd vwCl (wW Y XG ad D) H → va_S (pA XG ad) s.heap H locs → lv_has ls 3 [(0, .ref (ad 61)), (1, .ref (ad 56)), (2, .int x2)] → W p l e (headSpec wzX2_release rm_X2_release).room s m ([.ref (ad 61), .ref (ad 56)].toArray) below meth c H locs 0 0 (MQ below (Qv dd Y XG ad D') ([.ref (ad 61), .ref (ad 56)].toArray) s 0 0 (pA XG ad)) (F0 m 2 ls []) := by
    intro n
    induction n with
    | zero =>
      intro x2 D H locs ls h hP hS hl
      cases h
    | succ n ih =>
      intro x2 D H locs ls h hP hS hl
      have h : ((if (D 61 4) ≤ x2 then (some (0, D)) else (if inB x2 ((gN XG) 62) = true then (if (D 62 (Int32.toNatClampNeg x2)) = 9 then (P_X2_release_2 (gN XG) F n (x2 + 1) D) else (if inB x2 ((gN XG) 62) = true then (if inB x2 ((gN XG) 63) = true then (bi (P_X4_setFree (gN XG) F (D 62 (Int32.toNatClampNeg x2)) (D 63 (Int32.toNatClampNeg x2)) 1 D) (fun r6 D6 => P_X2_release_2 (gN XG) F n (x2 + 1) D6)) else none) else none)) else none)) : Rs) = some (r0, D') := h
      refine lv_iload_n hx hb dX2_release_2 rfl (lv_at hl 2 rfl) ?_
      refine lv_aload_n hx hb dX2_release_3 rfl (lv_at hl 0 rfl) ?_
      refine x_get hx hb ht0 u_X2 hown hK hP (xk_61).1 (ce2 (xk_61).2) rfl 4 (by decide) (ht0 _ m_FL_X2_29) rfl rfl dX2_release_4 ?_
      refine lv_icmp_ge (tgt := 44) hx hb dX2_release_7 (by decide) (fun c1 => ?_) (fun c1 => ?_)
      · have h := x_t (show (D 61 4) ≤ x2 from c1) h
        exact x_vret hx hb hr hlocks hP hS h dX2_release_44
      · have h := x_f (show ¬ ((D 61 4) ≤ x2) from c1) h
        refine lv_aload_n hx hb dX2_release_10 rfl (lv_at hl 0 rfl) ?_
        refine x_get hx hb ht0 u_X2 hown hK hP (xk_61).1 (ce2 (xk_61).2) rfl 2 (by decide) (ht0 _ m_FL_X2_9) rfl (rfv (G := XG) (c := 61) (k := 2) (c' := 62) rfl) dX2_release_11 ?_
        refine lv_iload_n hx hb dX2_release_14 rfl (lv_at hl 2 rfl) ?_
        obtain ⟨b2, h⟩ := x_if h
        refine x_ald hx hb hK hP xk_62 b2 dX2_release_15 ?_
        refine lv_bipush (v := 9) hx hb dX2_release_16 (by decide) ?_
        refine lv_icmp_eq (tgt := 38) hx hb dX2_release_18 (by decide) (fun c3 => ?_) (fun c3 => ?_)
        · have h := x_t (show (D 62 (Int32.toNatClampNeg x2)) = 9 from c3) h
          refine lv_iinc (v := x2 + 1) (lv' := [(2, .int (x2 + 1)), (0, .ref (ad 61)), (1, .ref (ad 56))]) hx hb dX2_release_38 hl (k := 2) rfl rfl (by decide) rfl (fun ls hl => ?_)
          refine lv_goto (tgt := 2) hx hb dX2_release_41 (by decide) ?_
          exact ih (x2 + 1) D _ _ _ h hP hS (lv_sub hl [1, 2, 0] rfl)
        · have h := x_f (show ¬ ((D 62 (Int32.toNatClampNeg x2)) = 9) from c3) h
          refine lv_aload_n hx hb dX2_release_21 rfl (lv_at hl 1 rfl) ?_
          refine lv_aload_n hx hb dX2_release_22 rfl (lv_at hl 0 rfl) ?_
          refine x_get hx hb ht0 u_X2 hown hK hP (xk_61).1 (ce2 (xk_61).2) rfl 2 (by decide) (ht0 _ m_FL_X2_9) rfl (rfv (G := XG) (c := 61) (k := 2) (c' := 62) rfl) dX2_release_23 ?_
          refine lv_iload_n hx hb dX2_release_26 rfl (lv_at hl 2 rfl) ?_
          obtain ⟨b4, h⟩ := x_if h
          refine x_ald hx hb hK hP xk_62 b4 dX2_release_27 ?_
          refine lv_aload_n hx hb dX2_release_28 rfl (lv_at hl 0 rfl) ?_
          refine x_get hx hb ht0 u_X2 hown hK hP (xk_61).1 (ce2 (xk_61).2) rfl 3 (by decide) (ht0 _ m_FL_X2_15) rfl (rfv (G := XG) (c := 61) (k := 3) (c' := 63) rfl) dX2_release_29 ?_
          refine lv_iload_n hx hb dX2_release_32 rfl (lv_at hl 2 rfl) ?_
          obtain ⟨b5, h⟩ := x_if h
          refine x_ald hx hb hK hP xk_63 b5 dX2_release_33 ?_
          refine lv_iconst (v := 1) hx hb dX2_release_34 (by decide) ?_
          obtain ⟨r6, D6, hc6, h⟩ := bi_some h
          refine x_callVv (As := [.int (D 62 (Int32.toNatClampNeg x2)), .int (D 63 (Int32.toNatClampNeg x2)), .int 1]) ⟨hx, hb, hml, hown, ht0⟩ hK hT hP hS (c_X4_setFree l dd Y t ad ij F (D 62 (Int32.toNatClampNeg x2)) (D 63 (Int32.toNatClampNeg x2)) 1 _ _ _ hc6) m_ML_X2_48 sv_X4_setFree hd_X4_setFree rfl rfl ⟨Nat.le_of_ble_eq_true rfl, Nat.le_of_ble_eq_true rfl⟩ (xk_56).1 (ce4 (xk_56).2) rfl rfl hl.1 rfl (Nat.le_of_ble_eq_true rfl) dX2_release_35 ⟨Nat.zero_le _, Nat.zero_le _⟩ (fun H locs hP hS => ?_)
          refine lv_iinc (v := x2 + 1) (lv' := [(2, .int (x2 + 1)), (0, .ref (ad 61)), (1, .ref (ad 56))]) hx hb dX2_release_38 hl (k := 2) rfl rfl (by decide) rfl (fun ls hl => ?_)
          refine lv_goto (tgt := 2) hx hb dX2_release_41 (by decide) ?_
          exact ih (x2 + 1) D6 _ _ _ h hP hS (lv_sub hl [1, 2, 0] rfl)
  have hl := lv_entry ([.ref (ad 61), .ref (ad 56)]) (n := 3) (Nat.le_of_ble_eq_true rfl)
  rw [lg_entry_eq]
  generalize (lg_sl ([.ref (ad 61), .ref (ad 56)]) ++ List.replicate (3 - (lg_sl ([.ref (ad 61), .ref (ad 56)])).length) Slot.unset).toArray = ls at hl ⊢
  have hl : lv_has ls 3 [(0, .ref (ad 61)), (1, .ref (ad 56))] := hl
  have hP : va_P dd vwCl (wW Y XG ad D0) s.heap := hP
  generalize D0 = D at h hP
  have h : ((P_X2_release_2 (gN XG) F F 0 D) : Rs) = some (r0, D') := h
  refine lv_iconst (v := 0) hx hb dX2_release_0 (by decide) ?_
  refine lv_istore_n (lv' := [(2, .int 0), (0, .ref (ad 61)), (1, .ref (ad 56))]) hx hb dX2_release_1 rfl hl (by decide) rfl (fun ls hl => ?_)
  exact L2 F 0 D _ _ _ h hP hS (lv_sub hl [1, 2, 0] rfl)
abbrev rm_X2_fillBlock : Room := { frames := 1, cells := 0, slots := 0, locals := 21 }
set_option maxHeartbeats 4000000 in
set_option maxRecDepth 100000 in
theorem c_X2_fillBlock (l : Launch) (dd : Dd) (Y : Yc) (t : Ts3) (ad : Nat → Nat) (ij : Ij XG ad) (F : Nat) (a2 : Int32) (D0 D' : Mm) (r0 : Int32) (h : P_X2_fillBlock (gN XG) F a2 D0 = some (r0, D')) : Met l yX2_fillBlock wzX2_fillBlock rm_X2_fillBlock (va_Pc [.ref (ad 61), .ref (ad 65), .int a2] (Wd dd Y t XG ad D0)) (Qv dd Y XG ad D') 0 0 (pA XG ad) := by
  refine Met.ofW (cc := cX2_fillBlock) (maxL := 6) (ret := none) (by decide) rfl ?_
  intro p e s m args below meth c s₁ B hml hv
  obtain ⟨rfl, hP, hK, hT⟩ := hv
  have hx := B.exec
  have hb := B.bytes
  have hr := B.returns
  have ht0 : ∀ w ∈ W0, w.before _ s = true := fun w h => atoms_spec (ws := wzX2_fillBlock) B.pre w (List.mem_cons_of_mem _ h)
  have hown : s.vm.findClass RX2 = some m.cls := findClass_of_methodNamed B.named
  have hlocks := B.notSynchronized
  have hS : va_S (pA XG ad) s.heap s.heap [] := va_S.rf
  have L76 : ∀ (n : Nat), ∀ (x3 x5 : Int32) (D : Mm) (H : Heap) (locs : List Loc) (ls : Array Slot), P_X2_fillBlock_76 (gN XG) F n x3 x5 D = some (r0, D') → va_P dd vwCl (wW Y XG ad D) H → va_S (pA XG ad) s.heap H locs → lv_has ls 6 [(0, .ref (ad 61)), (1, .ref (ad 65)), (3, .int x3), (5, .int x5)] → W p l e (headSpec wzX2_fillBlock rm_X2_fillBlock).room s m ([.ref (ad 61), .ref (ad 65), .int a2].toArray) below meth c H locs 0 0 (MQ below (Qv dd Y XG ad D') ([.ref (ad 61), .ref (ad 65), .int a2].toArray) s 0 0 (pA XG ad)) (F0 m 76 ls []) := by
    intro n
    induction n with
    | zero =>
      intro x3 x5 D H locs ls h hP hS hl
      cases h
    | succ n ih =>
      intro x3 x5 D H locs ls h hP hS hl
      have h : ((if 62 ≤ x5 then (some (0, D)) else (bi (P_X1_byteAt (gN XG) F 65 (x3 + x5) D) (fun r2 D2 => if inB (x5 + 2) ((gN XG) 64) = true then (P_X2_fillBlock_76 (gN XG) F n x3 (x5 + 1) (up2 D2 64 (Int32.toNatClampNeg (x5 + 2)) (if 0 < r2 then r2 else 0))) else none))) : Rs) = some (r0, D') := h
      refine lv_iload hx hb dX2_fillBlock_76 (lv_at hl 3 rfl) ?_
      refine lv_bipush (v := 62) hx hb dX2_fillBlock_78 (by decide) ?_
      refine lv_icmp_ge (tgt := 110) hx hb dX2_fillBlock_80 (by decide) (fun c1 => ?_) (fun c1 => ?_)
      · have h := x_t (show 62 ≤ x5 from c1) h
        exact x_vret hx hb hr hlocks hP hS h dX2_fillBlock_110
      · have h := x_f (show ¬ (62 ≤ x5) from c1) h
        refine lv_aload_n hx hb dX2_fillBlock_83 rfl (lv_at hl 0 rfl) ?_
        refine x_get hx hb ht0 u_X2 hown hK hP (xk_61).1 (ce2 (xk_61).2) rfl 5 (by decide) (ht0 _ m_FL_X2_18) rfl (rfv (G := XG) (c := 61) (k := 5) (c' := 64) rfl) dX2_fillBlock_84 ?_
        refine lv_iload hx hb dX2_fillBlock_87 (lv_at hl 3 rfl) ?_
        refine lv_iconst (v := 2) hx hb dX2_fillBlock_89 (by decide) ?_
        refine lv_iadd hx hb dX2_fillBlock_90 ?_
        refine lv_iconst (v := 0) hx hb dX2_fillBlock_91 (by decide) ?_
        refine lv_aload_n hx hb dX2_fillBlock_92 rfl (lv_at hl 1 rfl) ?_
        refine lv_iload_n hx hb dX2_fillBlock_93 rfl (lv_at hl 2 rfl) ?_
        refine lv_iload hx hb dX2_fillBlock_94 (lv_at hl 3 rfl) ?_
        refine lv_iadd hx hb dX2_fillBlock_96 ?_
        obtain ⟨r2, D2, hc2, h⟩ := bi_some h
        refine x_callVi (As := [.int (x3 + x5)]) ⟨hx, hb, hml, hown, ht0⟩ hK hT hP hS (c_X1_byteAt l dd Y t XG ad ij F 65 xb_65 (x3 + x5) _ _ _ hc2) m_ML_X2_67 sv_X1_byteAt hd_X1_byteAt rfl rfl ⟨Nat.le_of_ble_eq_true rfl, Nat.le_of_ble_eq_true rfl⟩ (xk_65).1 (ce1 (xk_65).2) rfl rfl hl.1 rfl (Nat.le_of_ble_eq_true rfl) dX2_fillBlock_97 ⟨Nat.zero_le _, Nat.zero_le _⟩ (fun H locs hn_r2 hP hS => ?_)
        refine va_mmax hx hb (hml.trans hl.1.symm) hown (ht0 _ m_ML_X2_70) (ht0 _ m_ST_max) (ht0 _ m_IN_J9) (ht0 _ m_CO_max) (Nat.le_of_ble_eq_true rfl) (Nat.le_of_ble_eq_true rfl) (Nat.zero_le _) (Nat.zero_le _) dX2_fillBlock_100 ?_
        obtain ⟨b3, h⟩ := x_if h
        refine x_ast hx hb hK ij hP hS xk_64 b3 dX2_fillBlock_103 (fun H locs hP hS => ?_)
        refine lv_iinc (v := x5 + 1) (lv' := [(5, .int (x5 + 1)), (0, .ref (ad 61)), (1, .ref (ad 65)), (3, .int x3)]) hx hb dX2_fillBlock_104 hl (k := 3) rfl rfl (by decide) rfl (fun ls hl => ?_)
        refine lv_goto (tgt := 76) hx hb dX2_fillBlock_107 (by decide) ?_
        exact ih x3 (x5 + 1) (up2 D2 64 (Int32.toNatClampNeg (x5 + 2)) (if 0 < r2 then r2 else 0)) _ _ _ h hP hS (lv_sub hl [1, 2, 3, 0] rfl)
  have L73 : ∀ (x3 : Int32) (D : Mm) (H : Heap) (locs : List Loc) (ls : Array Slot), P_X2_fillBlock_73 (gN XG) F x3 D = some (r0, D') → va_P dd vwCl (wW Y XG ad D) H → va_S (pA XG ad) s.heap H locs → lv_has ls 6 [(0, .ref (ad 61)), (1, .ref (ad 65)), (3, .int x3)] → W p l e (headSpec wzX2_fillBlock rm_X2_fillBlock).room s m ([.ref (ad 61), .ref (ad 65), .int a2].toArray) below meth c H locs 0 0 (MQ below (Qv dd Y XG ad D') ([.ref (ad 61), .ref (ad 65), .int a2].toArray) s 0 0 (pA XG ad)) (F0 m 73 ls []) := by
    intro x3 D H locs ls h hP hS hl
    have h : ((P_X2_fillBlock_76 (gN XG) F F x3 0 D) : Rs) = some (r0, D') := h
    refine lv_iconst (v := 0) hx hb dX2_fillBlock_73 (by decide) ?_
    refine lv_istore (lv' := [(5, .int 0), (0, .ref (ad 61)), (1, .ref (ad 65)), (3, .int x3)]) hx hb dX2_fillBlock_74 hl (by decide) rfl (fun ls hl => ?_)
    exact L76 F x3 0 D _ _ _ h hP hS (lv_sub hl [1, 2, 3, 0] rfl)
  have L44 : ∀ (x2 x3 x4 s1 s2 : Int32) (D : Mm) (H : Heap) (locs : List Loc) (ls : Array Slot), P_X2_fillBlock_44 (gN XG) F x2 x3 x4 s1 s2 D = some (r0, D') → va_P dd vwCl (wW Y XG ad D) H → va_S (pA XG ad) s.heap H locs → lv_has ls 6 [(0, .ref (ad 61)), (1, .ref (ad 65)), (2, .int x2), (3, .int x3), (4, .int x4)] → W p l e (headSpec wzX2_fillBlock rm_X2_fillBlock).room s m ([.ref (ad 61), .ref (ad 65), .int a2].toArray) below meth c H locs 0 0 (MQ below (Qv dd Y XG ad D') ([.ref (ad 61), .ref (ad 65), .int a2].toArray) s 0 0 (pA XG ad)) (F0 m 44 ls [.int s2, .int s1, .ref (ad 64)]) := by
    intro x2 x3 x4 s1 s2 D H locs ls h hP hS hl
    have h : ((if inB s1 ((gN XG) 64) = true then (if x4 = 0 then (if inB (x2 + 1) ((gN XG) 63) = true then (if inB 1 ((gN XG) 64) = true then (P_X2_fillBlock_73 (gN XG) F x3 (up2 (up2 D 64 (Int32.toNatClampNeg s1) s2) 64 (Int32.toNatClampNeg 1) ((up2 D 64 (Int32.toNatClampNeg s1) s2) 63 (Int32.toNatClampNeg (x2 + 1))))) else none) else none) else (if inB 1 ((gN XG) 64) = true then (P_X2_fillBlock_73 (gN XG) F x3 (up2 (up2 D 64 (Int32.toNatClampNeg s1) s2) 64 (Int32.toNatClampNeg 1) (((up2 D 64 (Int32.toNatClampNeg s1) s2) 65 1) - x3))) else none)) else none) : Rs) = some (r0, D') := h
    obtain ⟨b4, h⟩ := x_if h
    refine x_ast hx hb hK ij hP hS xk_64 b4 dX2_fillBlock_44 (fun H locs hP hS => ?_)
    refine lv_aload_n hx hb dX2_fillBlock_45 rfl (lv_at hl 0 rfl) ?_
    refine x_get hx hb ht0 u_X2 hown hK hP (xk_61).1 (ce2 (xk_61).2) rfl 5 (by decide) (ht0 _ m_FL_X2_18) rfl (rfv (G := XG) (c := 61) (k := 5) (c' := 64) rfl) dX2_fillBlock_46 ?_
    refine lv_iconst (v := 1) hx hb dX2_fillBlock_49 (by decide) ?_
    refine lv_iload hx hb dX2_fillBlock_50 (lv_at hl 4 rfl) ?_
    refine lv_if_eq (tgt := 64) hx hb dX2_fillBlock_52 (by decide) (fun c5 => ?_) (fun c5 => ?_)
    · have h := x_t (show x4 = 0 from c5) h
      refine lv_aload_n hx hb dX2_fillBlock_64 rfl (lv_at hl 0 rfl) ?_
      refine x_get hx hb ht0 u_X2 hown hK hP (xk_61).1 (ce2 (xk_61).2) rfl 3 (by decide) (ht0 _ m_FL_X2_15) rfl (rfv (G := XG) (c := 61) (k := 3) (c' := 63) rfl) dX2_fillBlock_65 ?_
      refine lv_iload_n hx hb dX2_fillBlock_68 rfl (lv_at hl 2 rfl) ?_
      refine lv_iconst (v := 1) hx hb dX2_fillBlock_69 (by decide) ?_
      refine lv_iadd hx hb dX2_fillBlock_70 ?_
      obtain ⟨b6, h⟩ := x_if h
      refine x_ald hx hb hK hP xk_63 b6 dX2_fillBlock_71 ?_
      obtain ⟨b7, h⟩ := x_if h
      refine x_ast hx hb hK ij hP hS xk_64 b7 dX2_fillBlock_72 (fun H locs hP hS => ?_)
      exact L73 x3 (up2 (up2 D 64 (Int32.toNatClampNeg s1) s2) 64 (Int32.toNatClampNeg 1) ((up2 D 64 (Int32.toNatClampNeg s1) s2) 63 (Int32.toNatClampNeg (x2 + 1)))) _ _ _ h hP hS (lv_sub hl [0, 1, 3] rfl)
    · have h := x_f (show ¬ (x4 = 0) from c5) h
      refine lv_aload_n hx hb dX2_fillBlock_55 rfl (lv_at hl 1 rfl) ?_
      refine x_get hx hb ht0 u_X1 hown hK hP (xk_65).1 (ce1 (xk_65).2) rfl 1 (by decide) (ht0 _ m_FL_X2_64) rfl rfl dX2_fillBlock_56 ?_
      refine lv_iload_n hx hb dX2_fillBlock_59 rfl (lv_at hl 3 rfl) ?_
      refine lv_isub hx hb dX2_fillBlock_60 ?_
      refine lv_goto (tgt := 72) hx hb dX2_fillBlock_61 (by decide) ?_
      obtain ⟨b8, h⟩ := x_if h
      refine x_ast hx hb hK ij hP hS xk_64 b8 dX2_fillBlock_72 (fun H locs hP hS => ?_)
      exact L73 x3 (up2 (up2 D 64 (Int32.toNatClampNeg s1) s2) 64 (Int32.toNatClampNeg 1) (((up2 D 64 (Int32.toNatClampNeg s1) s2) 65 1) - x3)) _ _ _ h hP hS (lv_sub hl [0, 1, 3] rfl)
  have hl := lv_entry ([.ref (ad 61), .ref (ad 65), .int a2]) (n := 6) (Nat.le_of_ble_eq_true rfl)
  rw [lg_entry_eq]
  generalize (lg_sl ([.ref (ad 61), .ref (ad 65), .int a2]) ++ List.replicate (6 - (lg_sl ([.ref (ad 61), .ref (ad 65), .int a2])).length) Slot.unset).toArray = ls at hl ⊢
  have hl : lv_has ls 6 [(0, .ref (ad 61)), (1, .ref (ad 65)), (2, .int a2)] := hl
  have hP : va_P dd vwCl (wW Y XG ad D0) s.heap := hP
  generalize D0 = D at h hP
  have h : ((if (a2 + 1) < (D 61 4) then (if inB (a2 + 1) ((gN XG) 62) = true then (P_X2_fillBlock_44 (gN XG) F a2 (62 * a2) 0 0 (D 62 (Int32.toNatClampNeg (a2 + 1))) D) else none) else (P_X2_fillBlock_44 (gN XG) F a2 (62 * a2) 1 0 0 D)) : Rs) = some (r0, D') := h
  refine lv_bipush (v := 62) hx hb dX2_fillBlock_0 (by decide) ?_
  refine lv_iload_n hx hb dX2_fillBlock_2 rfl (lv_at hl 2 rfl) ?_
  refine lv_imul hx hb dX2_fillBlock_3 ?_
  refine lv_istore_n (lv' := [(3, .int (62 * a2)), (0, .ref (ad 61)), (1, .ref (ad 65)), (2, .int a2)]) hx hb dX2_fillBlock_4 rfl hl (by decide) rfl (fun ls hl => ?_)
  refine lv_iload_n hx hb dX2_fillBlock_5 rfl (lv_at hl 3 rfl) ?_
  refine lv_iconst (v := 1) hx hb dX2_fillBlock_6 (by decide) ?_
  refine lv_iadd hx hb dX2_fillBlock_7 ?_
  refine lv_aload_n hx hb dX2_fillBlock_8 rfl (lv_at hl 1 rfl) ?_
  refine x_get hx hb ht0 u_X2 hown hK hP (xk_61).1 (ce2 (xk_61).2) rfl 4 (by decide) (ht0 _ m_FL_X2_29) rfl rfl dX2_fillBlock_9 ?_
  refine lv_icmp_lt (tgt := 19) hx hb dX2_fillBlock_12 (by decide) (fun c9 => ?_) (fun c9 => ?_)
  · have h := x_t (show (a2 + 1) < (D 61 4) from c9) h
    refine lv_iconst (v := 0) hx hb dX2_fillBlock_19 (by decide) ?_
    refine lv_istore (lv' := [(4, .int 0), (3, .int (62 * a2)), (0, .ref (ad 61)), (1, .ref (ad 65)), (2, .int a2)]) hx hb dX2_fillBlock_20 hl (by decide) rfl (fun ls hl => ?_)
    refine lv_aload_n hx hb dX2_fillBlock_22 rfl (lv_at hl 2 rfl) ?_
    refine x_get hx hb ht0 u_X2 hown hK hP (xk_61).1 (ce2 (xk_61).2) rfl 5 (by decide) (ht0 _ m_FL_X2_18) rfl (rfv (G := XG) (c := 61) (k := 5) (c' := 64) rfl) dX2_fillBlock_23 ?_
    refine lv_iconst (v := 0) hx hb dX2_fillBlock_26 (by decide) ?_
    refine lv_iload hx hb dX2_fillBlock_27 (lv_at hl 0 rfl) ?_
    refine lv_if_eq (tgt := 36) hx hb dX2_fillBlock_29 (by decide) (fun c10 => ?_) (fun c10 => ?_)
    · have h := h
      refine lv_aload_n hx hb dX2_fillBlock_36 rfl (lv_at hl 2 rfl) ?_
      refine x_get hx hb ht0 u_X2 hown hK hP (xk_61).1 (ce2 (xk_61).2) rfl 2 (by decide) (ht0 _ m_FL_X2_9) rfl (rfv (G := XG) (c := 61) (k := 2) (c' := 62) rfl) dX2_fillBlock_37 ?_
      refine lv_iload_n hx hb dX2_fillBlock_40 rfl (lv_at hl 4 rfl) ?_
      refine lv_iconst (v := 1) hx hb dX2_fillBlock_41 (by decide) ?_
      refine lv_iadd hx hb dX2_fillBlock_42 ?_
      obtain ⟨b11, h⟩ := x_if h
      refine x_ald hx hb hK hP xk_62 b11 dX2_fillBlock_43 ?_
      exact L44 a2 (62 * a2) 0 0 (D 62 (Int32.toNatClampNeg (a2 + 1))) D _ _ _ h hP hS (lv_sub hl [2, 3, 4, 1, 0] rfl)
    · exact absurd c10 (by decide)
  · have h := x_f (show ¬ ((a2 + 1) < (D 61 4)) from c9) h
    refine lv_iconst (v := 1) hx hb dX2_fillBlock_15 (by decide) ?_
    refine lv_goto (tgt := 20) hx hb dX2_fillBlock_16 (by decide) ?_
    refine lv_istore (lv' := [(4, .int 1), (3, .int (62 * a2)), (0, .ref (ad 61)), (1, .ref (ad 65)), (2, .int a2)]) hx hb dX2_fillBlock_20 hl (by decide) rfl (fun ls hl => ?_)
    refine lv_aload_n hx hb dX2_fillBlock_22 rfl (lv_at hl 2 rfl) ?_
    refine x_get hx hb ht0 u_X2 hown hK hP (xk_61).1 (ce2 (xk_61).2) rfl 5 (by decide) (ht0 _ m_FL_X2_18) rfl (rfv (G := XG) (c := 61) (k := 5) (c' := 64) rfl) dX2_fillBlock_23 ?_
    refine lv_iconst (v := 0) hx hb dX2_fillBlock_26 (by decide) ?_
    refine lv_iload hx hb dX2_fillBlock_27 (lv_at hl 0 rfl) ?_
    refine lv_if_eq (tgt := 36) hx hb dX2_fillBlock_29 (by decide) (fun c12 => ?_) (fun c12 => ?_)
    · exact absurd c12 (by decide)
    · have h := h
      refine lv_iconst (v := 0) hx hb dX2_fillBlock_32 (by decide) ?_
      refine lv_goto (tgt := 44) hx hb dX2_fillBlock_33 (by decide) ?_
      exact L44 a2 (62 * a2) 1 0 0 D _ _ _ h hP hS (lv_sub hl [2, 3, 4, 1, 0] rfl)
abbrev rm_X2_store : Room := { frames := 5, cells := 0, slots := 0, locals := 131 }
set_option maxHeartbeats 4000000 in
set_option maxRecDepth 100000 in
theorem c_X2_store (l : Launch) (dd : Dd) (Y : Yc) (t : Ts3) (ad : Nat → Nat) (ij : Ij XG ad) (F : Nat) (D0 D' : Mm) (r0 : Int32) (h : P_X2_store (gN XG) F D0 = some (r0, D')) : Met l yX2_store wzX2_store rm_X2_store (va_Pc [.ref (ad 61), .ref (ad 65)] (Wd dd Y t XG ad D0)) (Qi dd Y XG ad .int r0 D') 0 0 (pA XG ad) := by
  refine Met.ofW (cc := cX2_store) (maxL := 4) (ret := (some .int)) (by decide) rfl ?_
  intro p e s m args below meth c s₁ B hml hv
  obtain ⟨rfl, hP, hK, hT⟩ := hv
  have hx := B.exec
  have hb := B.bytes
  have hr := B.returns
  have ht0 : ∀ w ∈ W0, w.before _ s = true := fun w h => atoms_spec (ws := wzX2_store) B.pre w (List.mem_cons_of_mem _ h)
  have hown : s.vm.findClass RX2 = some m.cls := findClass_of_methodNamed B.named
  have hlocks := B.notSynchronized
  have hS : va_S (pA XG ad) s.heap s.heap [] := va_S.rf
  have L4 : ∀ (n : Nat), ∀ (x2 x3 : Int32) (D : Mm) (H : Heap) (locs : List Loc) (ls : Array Slot), P_X2_store_4 (gN XG) F n x2 x3 D = some (r0, D') → va_P dd vwCl (wW Y XG ad D) H → va_S (pA XG ad) s.heap H locs → lv_has ls 4 [(0, .ref (ad 61)), (1, .ref (ad 65)), (2, .int x2), (3, .int x3)] → W p l e (headSpec wzX2_store rm_X2_store).room s m ([.ref (ad 61), .ref (ad 65)].toArray) below meth c H locs 0 0 (MQ below (Qi dd Y XG ad .int r0 D') ([.ref (ad 61), .ref (ad 65)].toArray) s 0 0 (pA XG ad)) (F0 m 4 ls []) := by
    intro n
    induction n with
    | zero =>
      intro x2 x3 D H locs ls h hP hS hl
      cases h
    | succ n ih =>
      intro x2 x3 D H locs ls h hP hS hl
      have h : ((if (D 61 4) ≤ x3 then (some (x2, D)) else (if x2 = 0 then (bi (P_X2_fillBlock (gN XG) F x3 D) (fun r3 D3 => if inB x3 ((gN XG) 62) = true then (if inB x3 ((gN XG) 63) = true then (bi (P_X0_store (gN XG) F 64 (D3 62 (Int32.toNatClampNeg x3)) (D3 63 (Int32.toNatClampNeg x3)) D3) (fun r6 D6 => P_X2_store_4 (gN XG) F n r6 (x3 + 1) D6)) else none) else none)) else (some (x2, D)))) : Rs) = some (r0, D') := h
      refine lv_iload_n hx hb dX2_store_4 rfl (lv_at hl 3 rfl) ?_
      refine lv_aload_n hx hb dX2_store_5 rfl (lv_at hl 0 rfl) ?_
      refine x_get hx hb ht0 u_X2 hown hK hP (xk_61).1 (ce2 (xk_61).2) rfl 4 (by decide) (ht0 _ m_FL_X2_29) rfl rfl dX2_store_6 ?_
      refine lv_icmp_ge (tgt := 52) hx hb dX2_store_9 (by decide) (fun c1 => ?_) (fun c1 => ?_)
      · have h := x_t (show (D 61 4) ≤ x3 from c1) h
        refine lv_iload_n hx hb dX2_store_52 rfl (lv_at hl 2 rfl) ?_
        exact x_iret hx hb hr hlocks rfl hP hS h dX2_store_53
      · have h := x_f (show ¬ ((D 61 4) ≤ x3) from c1) h
        refine lv_iload_n hx hb dX2_store_12 rfl (lv_at hl 2 rfl) ?_
        refine lv_if_ne (tgt := 52) hx hb dX2_store_13 (by decide) (fun c2 => ?_) (fun c2 => ?_)
        · have h := x_f (show ¬ (x2 = 0) from c2) h
          refine lv_iload_n hx hb dX2_store_52 rfl (lv_at hl 2 rfl) ?_
          exact x_iret hx hb hr hlocks rfl hP hS h dX2_store_53
        · have h := x_t (show x2 = 0 from c2) h
          refine lv_aload_n hx hb dX2_store_16 rfl (lv_at hl 0 rfl) ?_
          refine lv_aload_n hx hb dX2_store_17 rfl (lv_at hl 1 rfl) ?_
          refine lv_iload_n hx hb dX2_store_18 rfl (lv_at hl 3 rfl) ?_
          obtain ⟨r3, D3, hc3, h⟩ := bi_some h
          refine x_callVv (As := [.ref (ad 65), .int x3]) ⟨hx, hb, hml, hown, ht0⟩ hK hT hP hS (c_X2_fillBlock l dd Y t ad ij F x3 _ _ _ hc3) m_ML_X2_56 sv_X2_fillBlock hd_X2_fillBlock rfl rfl ⟨Nat.le_of_ble_eq_true rfl, Nat.le_of_ble_eq_true rfl⟩ (xk_61).1 (ce2 (xk_61).2) rfl rfl hl.1 rfl (Nat.le_of_ble_eq_true rfl) dX2_store_19 ⟨Nat.zero_le _, Nat.zero_le _⟩ (fun H locs hP hS => ?_)
          refine lv_aload_n hx hb dX2_store_22 rfl (lv_at hl 0 rfl) ?_
          refine x_get hx hb ht0 u_X2 hown hK hP (xk_61).1 (ce2 (xk_61).2) rfl 0 (by decide) (ht0 _ m_FL_X2_21) rfl (rfv (G := XG) (c := 61) (k := 0) (c' := 2) rfl) dX2_store_23 ?_
          refine lv_aload_n hx hb dX2_store_26 rfl (lv_at hl 0 rfl) ?_
          refine x_get hx hb ht0 u_X2 hown hK hP (xk_61).1 (ce2 (xk_61).2) rfl 2 (by decide) (ht0 _ m_FL_X2_9) rfl (rfv (G := XG) (c := 61) (k := 2) (c' := 62) rfl) dX2_store_27 ?_
          refine lv_iload_n hx hb dX2_store_30 rfl (lv_at hl 3 rfl) ?_
          obtain ⟨b4, h⟩ := x_if h
          refine x_ald hx hb hK hP xk_62 b4 dX2_store_31 ?_
          refine lv_aload_n hx hb dX2_store_32 rfl (lv_at hl 0 rfl) ?_
          refine x_get hx hb ht0 u_X2 hown hK hP (xk_61).1 (ce2 (xk_61).2) rfl 3 (by decide) (ht0 _ m_FL_X2_15) rfl (rfv (G := XG) (c := 61) (k := 3) (c' := 63) rfl) dX2_store_33 ?_
          refine lv_iload_n hx hb dX2_store_36 rfl (lv_at hl 3 rfl) ?_
          obtain ⟨b5, h⟩ := x_if h
          refine x_ald hx hb hK hP xk_63 b5 dX2_store_37 ?_
          refine lv_aload_n hx hb dX2_store_38 rfl (lv_at hl 0 rfl) ?_
          refine x_get hx hb ht0 u_X2 hown hK hP (xk_61).1 (ce2 (xk_61).2) rfl 5 (by decide) (ht0 _ m_FL_X2_18) rfl (rfv (G := XG) (c := 61) (k := 5) (c' := 64) rfl) dX2_store_39 ?_
          obtain ⟨r6, D6, hc6, h⟩ := bi_some h
          refine x_callVi (As := [.int (D3 62 (Int32.toNatClampNeg x3)), .int (D3 63 (Int32.toNatClampNeg x3)), .ref (ad 64)]) ⟨hx, hb, hml, hown, ht0⟩ hK hT hP hS (c_X0_store l dd Y t ad ij F 64 xk_64 (D3 62 (Int32.toNatClampNeg x3)) (D3 63 (Int32.toNatClampNeg x3)) _ _ _ hc6) m_ML_X2_60 sv_X0_store hd_X0_store rfl rfl ⟨Nat.le_of_ble_eq_true rfl, Nat.le_of_ble_eq_true rfl⟩ (xk_2).1 (ce0 (xk_2).2) rfl rfl hl.1 rfl (Nat.le_of_ble_eq_true rfl) dX2_store_42 ⟨Nat.zero_le _, Nat.zero_le _⟩ (fun H locs hn_r6 hP hS => ?_)
          refine lv_istore_n (lv' := [(2, .int r6), (0, .ref (ad 61)), (1, .ref (ad 65)), (3, .int x3)]) hx hb dX2_store_45 rfl hl (by decide) rfl (fun ls hl => ?_)
          refine lv_iinc (v := x3 + 1) (lv' := [(3, .int (x3 + 1)), (2, .int r6), (0, .ref (ad 61)), (1, .ref (ad 65))]) hx hb dX2_store_46 hl (k := 3) rfl rfl (by decide) rfl (fun ls hl => ?_)
          refine lv_goto (tgt := 4) hx hb dX2_store_49 (by decide) ?_
          exact ih r6 (x3 + 1) D6 _ _ _ h hP hS (lv_sub hl [2, 3, 1, 0] rfl)
  have hl := lv_entry ([.ref (ad 61), .ref (ad 65)]) (n := 4) (Nat.le_of_ble_eq_true rfl)
  rw [lg_entry_eq]
  generalize (lg_sl ([.ref (ad 61), .ref (ad 65)]) ++ List.replicate (4 - (lg_sl ([.ref (ad 61), .ref (ad 65)])).length) Slot.unset).toArray = ls at hl ⊢
  have hl : lv_has ls 4 [(0, .ref (ad 61)), (1, .ref (ad 65))] := hl
  have hP : va_P dd vwCl (wW Y XG ad D0) s.heap := hP
  generalize D0 = D at h hP
  have h : ((P_X2_store_4 (gN XG) F F 0 0 D) : Rs) = some (r0, D') := h
  refine lv_iconst (v := 0) hx hb dX2_store_0 (by decide) ?_
  refine lv_istore_n (lv' := [(2, .int 0), (0, .ref (ad 61)), (1, .ref (ad 65))]) hx hb dX2_store_1 rfl hl (by decide) rfl (fun ls hl => ?_)
  refine lv_iconst (v := 0) hx hb dX2_store_2 (by decide) ?_
  refine lv_istore_n (lv' := [(3, .int 0), (2, .int 0), (0, .ref (ad 61)), (1, .ref (ad 65))]) hx hb dX2_store_3 rfl hl (by decide) rfl (fun ls hl => ?_)
  exact L4 F 0 0 D _ _ _ h hP hS (lv_sub hl [2, 3, 1, 0] rfl)
abbrev rm_X2_follow : Room := { frames := 5, cells := 0, slots := 0, locals := 133 }
set_option maxHeartbeats 4000000 in
set_option maxRecDepth 100000 in
theorem c_X2_follow (l : Launch) (dd : Dd) (Y : Yc) (t : Ts3) (ad : Nat → Nat) (ij : Ij XG ad) (F : Nat) (u2 : Nat) (g_u2 : BytesAt XG u2) (D0 D' : Mm) (r0 : Int32) (h : P_X2_follow (gN XG) F u2 D0 = some (r0, D')) : Met l yX2_follow wzX2_follow rm_X2_follow (va_Pc [.ref (ad 61), .ref (ad 58), .ref (ad u2)] (Wd dd Y t XG ad D0)) (Qi dd Y XG ad .int r0 D') 0 0 (pA XG ad) := by
  refine Met.ofW (cc := cX2_follow) (maxL := 8) (ret := (some .int)) (by decide) rfl ?_
  intro p e s m args below meth c s₁ B hml hv
  obtain ⟨rfl, hP, hK, hT⟩ := hv
  have hx := B.exec
  have hb := B.bytes
  have hr := B.returns
  have ht0 : ∀ w ∈ W0, w.before _ s = true := fun w h => atoms_spec (ws := wzX2_follow) B.pre w (List.mem_cons_of_mem _ h)
  have hown : s.vm.findClass RX2 = some m.cls := findClass_of_methodNamed B.named
  have hlocks := B.notSynchronized
  have hS : va_S (pA XG ad) s.heap s.heap [] := va_S.rf
  obtain ⟨k_u2, p_u2_0, k_u21⟩ := id g_u2
  have L230 : ∀ (k80 : Int32 → Int32 → Int32 → Mm → Rs) (hk80 : ∀ (x3 x4 x5 : Int32) (D : Mm) (H : Heap) (locs : List Loc) (ls : Array Slot), k80 x3 x4 x5 D = some (r0, D') → va_P dd vwCl (wW Y XG ad D) H → va_S (pA XG ad) s.heap H locs → lv_has ls 8 [(0, .ref (ad 61)), (2, .ref (ad u2)), (3, .int x3), (4, .int x4), (5, .int x5)] → W p l e (headSpec wzX2_follow rm_X2_follow).room s m ([.ref (ad 61), .ref (ad 58), .ref (ad u2)].toArray) below meth c H locs 0 0 (MQ below (Qi dd Y XG ad .int r0 D') ([.ref (ad 61), .ref (ad 58), .ref (ad u2)].toArray) s 0 0 (pA XG ad)) (F0 m 80 ls [])), ∀ (x3 x4 x5 : Int32) (D : Mm) (H : Heap) (locs : List Loc) (ls : Array Slot), P_X2_follow_230 (gN XG) F u2 k80 x3 x4 x5 D = some (r0, D') → va_P dd vwCl (wW Y XG ad D) H → va_S (pA XG ad) s.heap H locs → lv_has ls 8 [(0, .ref (ad 61)), (2, .ref (ad u2)), (3, .int x3), (4, .int x4), (5, .int x5)] → W p l e (headSpec wzX2_follow rm_X2_follow).room s m ([.ref (ad 61), .ref (ad 58), .ref (ad u2)].toArray) below meth c H locs 0 0 (MQ below (Qi dd Y XG ad .int r0 D') ([.ref (ad 61), .ref (ad 58), .ref (ad u2)].toArray) s 0 0 (pA XG ad)) (F0 m 230 ls []) := by
    intro k80 hk80 x3 x4 x5 D H locs ls h hP hS hl
    have h : ((k80 x3 x4 (x5 + 1) D) : Rs) = some (r0, D') := h
    refine lv_iinc (v := x5 + 1) (lv' := [(5, .int (x5 + 1)), (0, .ref (ad 61)), (2, .ref (ad u2)), (3, .int x3), (4, .int x4)]) hx hb dX2_follow_230 hl (k := 4) rfl rfl (by decide) rfl (fun ls hl => ?_)
    refine lv_goto (tgt := 80) hx hb dX2_follow_233 (by decide) ?_
    exact hk80 x3 x4 (x5 + 1) D _ _ _ h hP hS (lv_sub hl [1, 2, 3, 4, 0] rfl)
  have L222 : ∀ (k80 : Int32 → Int32 → Int32 → Mm → Rs) (hk80 : ∀ (x3 x4 x5 : Int32) (D : Mm) (H : Heap) (locs : List Loc) (ls : Array Slot), k80 x3 x4 x5 D = some (r0, D') → va_P dd vwCl (wW Y XG ad D) H → va_S (pA XG ad) s.heap H locs → lv_has ls 8 [(0, .ref (ad 61)), (2, .ref (ad u2)), (3, .int x3), (4, .int x4), (5, .int x5)] → W p l e (headSpec wzX2_follow rm_X2_follow).room s m ([.ref (ad 61), .ref (ad 58), .ref (ad u2)].toArray) below meth c H locs 0 0 (MQ below (Qi dd Y XG ad .int r0 D') ([.ref (ad 61), .ref (ad 58), .ref (ad u2)].toArray) s 0 0 (pA XG ad)) (F0 m 80 ls [])), ∀ (x3 x5 : Int32) (D : Mm) (H : Heap) (locs : List Loc) (ls : Array Slot), P_X2_follow_222 (gN XG) F u2 k80 x3 x5 D = some (r0, D') → va_P dd vwCl (wW Y XG ad D) H → va_S (pA XG ad) s.heap H locs → lv_has ls 8 [(0, .ref (ad 61)), (2, .ref (ad u2)), (3, .int x3), (5, .int x5)] → W p l e (headSpec wzX2_follow rm_X2_follow).room s m ([.ref (ad 61), .ref (ad 58), .ref (ad u2)].toArray) below meth c H locs 0 0 (MQ below (Qi dd Y XG ad .int r0 D') ([.ref (ad 61), .ref (ad 58), .ref (ad u2)].toArray) s 0 0 (pA XG ad)) (F0 m 222 ls []) := by
    intro k80 hk80 x3 x5 D H locs ls h hP hS hl
    have h : ((if inB 1 ((gN XG) 64) = true then (P_X2_follow_230 (gN XG) F u2 k80 x3 (D 64 (Int32.toNatClampNeg 1)) x5 D) else none) : Rs) = some (r0, D') := h
    refine lv_aload_n hx hb dX2_follow_222 rfl (lv_at hl 0 rfl) ?_
    refine x_get hx hb ht0 u_X2 hown hK hP (xk_61).1 (ce2 (xk_61).2) rfl 5 (by decide) (ht0 _ m_FL_X2_18) rfl (rfv (G := XG) (c := 61) (k := 5) (c' := 64) rfl) dX2_follow_223 ?_
    refine lv_iconst (v := 1) hx hb dX2_follow_226 (by decide) ?_
    obtain ⟨b1, h⟩ := x_if h
    refine x_ald hx hb hK hP xk_64 b1 dX2_follow_227 ?_
    refine lv_istore (lv' := [(4, .int (D 64 (Int32.toNatClampNeg 1))), (0, .ref (ad 61)), (2, .ref (ad u2)), (3, .int x3), (5, .int x5)]) hx hb dX2_follow_228 hl (by decide) rfl (fun ls hl => ?_)
    exact L230 k80 hk80 x3 (D 64 (Int32.toNatClampNeg 1)) x5 D _ _ _ h hP hS (lv_sub hl [1, 2, 3, 0, 4] rfl)
  have L196 : ∀ (k80 : Int32 → Int32 → Int32 → Mm → Rs) (hk80 : ∀ (x3 x4 x5 : Int32) (D : Mm) (H : Heap) (locs : List Loc) (ls : Array Slot), k80 x3 x4 x5 D = some (r0, D') → va_P dd vwCl (wW Y XG ad D) H → va_S (pA XG ad) s.heap H locs → lv_has ls 8 [(0, .ref (ad 61)), (2, .ref (ad u2)), (3, .int x3), (4, .int x4), (5, .int x5)] → W p l e (headSpec wzX2_follow rm_X2_follow).room s m ([.ref (ad 61), .ref (ad 58), .ref (ad u2)].toArray) below meth c H locs 0 0 (MQ below (Qi dd Y XG ad .int r0 D') ([.ref (ad 61), .ref (ad 58), .ref (ad u2)].toArray) s 0 0 (pA XG ad)) (F0 m 80 ls [])), ∀ (x3 x4 x5 x7 s2 s3 : Int32) (D : Mm) (H : Heap) (locs : List Loc) (ls : Array Slot), P_X2_follow_196 (gN XG) F u2 k80 x3 x4 x5 x7 s2 s3 D = some (r0, D') → va_P dd vwCl (wW Y XG ad D) H → va_S (pA XG ad) s.heap H locs → lv_has ls 8 [(0, .ref (ad 61)), (2, .ref (ad u2)), (3, .int x3), (4, .int x4), (5, .int x5), (7, .int x7)] → W p l e (headSpec wzX2_follow rm_X2_follow).room s m ([.ref (ad 61), .ref (ad 58), .ref (ad u2)].toArray) below meth c H locs 0 0 (MQ below (Qi dd Y XG ad .int r0 D') ([.ref (ad 61), .ref (ad 58), .ref (ad u2)].toArray) s 0 0 (pA XG ad)) (F0 m 196 ls [.int s3, .int s2, .ref (ad 64), .ref (ad u2)]) := by
    intro k80 hk80 x3 x4 x5 x7 s2 s3 D H locs ls h hP hS hl
    have h : ((bi (P_X1_addRow (gN XG) F u2 64 s2 s3 D) (fun r2 D2 => if x7 = 0 then (if 40 ≤ (x5 + 1) then (P_X2_follow_230 (gN XG) F u2 k80 x3 x4 x5 D2) else (if inB 0 ((gN XG) 64) = true then (P_X2_follow_222 (gN XG) F u2 k80 (D2 64 (Int32.toNatClampNeg 0)) x5 D2) else none)) else (some (0, D2)))) : Rs) = some (r0, D') := h
    obtain ⟨r2, D2, hc2, h⟩ := bi_some h
    refine x_callVv (As := [.ref (ad 64), .int s2, .int s3]) ⟨hx, hb, hml, hown, ht0⟩ hK hT hP hS (c_X1_addRow l dd Y t XG ad ij F u2 64 g_u2 xk_64 s2 s3 _ _ _ hc2) m_ML_X2_100 sv_X1_addRow hd_X1_addRow rfl rfl ⟨Nat.le_of_ble_eq_true rfl, Nat.le_of_ble_eq_true rfl⟩ (k_u2).1 (ce1 (k_u2).2) rfl rfl hl.1 rfl (Nat.le_of_ble_eq_true rfl) dX2_follow_196 ⟨Nat.zero_le _, Nat.zero_le _⟩ (fun H locs hP hS => ?_)
    refine lv_iload hx hb dX2_follow_199 (lv_at hl 5 rfl) ?_
    refine lv_if_eq (tgt := 206) hx hb dX2_follow_201 (by decide) (fun c3 => ?_) (fun c3 => ?_)
    · have h := x_t (show x7 = 0 from c3) h
      refine lv_iload hx hb dX2_follow_206 (lv_at hl 4 rfl) ?_
      refine lv_iconst (v := 1) hx hb dX2_follow_208 (by decide) ?_
      refine lv_iadd hx hb dX2_follow_209 ?_
      refine lv_bipush (v := 40) hx hb dX2_follow_210 (by decide) ?_
      refine lv_icmp_ge (tgt := 230) hx hb dX2_follow_212 (by decide) (fun c4 => ?_) (fun c4 => ?_)
      · have h := x_t (show 40 ≤ (x5 + 1) from c4) h
        exact L230 k80 hk80 x3 x4 x5 D2 _ _ _ h hP hS (lv_sub hl [0, 1, 2, 3, 4] rfl)
      · have h := x_f (show ¬ (40 ≤ (x5 + 1)) from c4) h
        refine lv_aload_n hx hb dX2_follow_215 rfl (lv_at hl 0 rfl) ?_
        refine x_get hx hb ht0 u_X2 hown hK hP (xk_61).1 (ce2 (xk_61).2) rfl 5 (by decide) (ht0 _ m_FL_X2_18) rfl (rfv (G := XG) (c := 61) (k := 5) (c' := 64) rfl) dX2_follow_216 ?_
        refine lv_iconst (v := 0) hx hb dX2_follow_219 (by decide) ?_
        obtain ⟨b5, h⟩ := x_if h
        refine x_ald hx hb hK hP xk_64 b5 dX2_follow_220 ?_
        refine lv_istore_n (lv' := [(3, .int (D2 64 (Int32.toNatClampNeg 0))), (0, .ref (ad 61)), (2, .ref (ad u2)), (4, .int x4), (5, .int x5), (7, .int x7)]) hx hb dX2_follow_221 rfl hl (by decide) rfl (fun ls hl => ?_)
        exact L222 k80 hk80 (D2 64 (Int32.toNatClampNeg 0)) x5 D2 _ _ _ h hP hS (lv_sub hl [1, 2, 0, 4] rfl)
    · have h := x_f (show ¬ (x7 = 0) from c3) h
      refine lv_iconst (v := 0) hx hb dX2_follow_204 (by decide) ?_
      exact x_iret hx hb hr hlocks rfl hP hS h dX2_follow_205
  have L174 : ∀ (k80 : Int32 → Int32 → Int32 → Mm → Rs) (hk80 : ∀ (x3 x4 x5 : Int32) (D : Mm) (H : Heap) (locs : List Loc) (ls : Array Slot), k80 x3 x4 x5 D = some (r0, D') → va_P dd vwCl (wW Y XG ad D) H → va_S (pA XG ad) s.heap H locs → lv_has ls 8 [(0, .ref (ad 61)), (2, .ref (ad u2)), (3, .int x3), (4, .int x4), (5, .int x5)] → W p l e (headSpec wzX2_follow rm_X2_follow).room s m ([.ref (ad 61), .ref (ad 58), .ref (ad u2)].toArray) below meth c H locs 0 0 (MQ below (Qi dd Y XG ad .int r0 D') ([.ref (ad 61), .ref (ad 58), .ref (ad u2)].toArray) s 0 0 (pA XG ad)) (F0 m 80 ls [])), ∀ (x3 x4 x5 x7 : Int32) (D : Mm) (H : Heap) (locs : List Loc) (ls : Array Slot), P_X2_follow_174 (gN XG) F u2 k80 x3 x4 x5 x7 D = some (r0, D') → va_P dd vwCl (wW Y XG ad D) H → va_S (pA XG ad) s.heap H locs → lv_has ls 8 [(0, .ref (ad 61)), (2, .ref (ad u2)), (3, .int x3), (4, .int x4), (5, .int x5), (7, .int x7)] → W p l e (headSpec wzX2_follow rm_X2_follow).room s m ([.ref (ad 61), .ref (ad 58), .ref (ad u2)].toArray) below meth c H locs 0 0 (MQ below (Qi dd Y XG ad .int r0 D') ([.ref (ad 61), .ref (ad 58), .ref (ad u2)].toArray) s 0 0 (pA XG ad)) (F0 m 174 ls []) := by
    intro k80 hk80 x3 x4 x5 x7 D H locs ls h hP hS hl
    have h : ((if x7 = 0 then (P_X2_follow_196 (gN XG) F u2 k80 x3 x4 x5 x7 2 62 D) else (if inB 1 ((gN XG) 64) = true then (P_X2_follow_196 (gN XG) F u2 k80 x3 x4 x5 x7 2 (D 64 (Int32.toNatClampNeg 1)) D) else none)) : Rs) = some (r0, D') := h
    refine lv_aload_n hx hb dX2_follow_174 rfl (lv_at hl 1 rfl) ?_
    refine lv_aload_n hx hb dX2_follow_175 rfl (lv_at hl 0 rfl) ?_
    refine x_get hx hb ht0 u_X2 hown hK hP (xk_61).1 (ce2 (xk_61).2) rfl 5 (by decide) (ht0 _ m_FL_X2_18) rfl (rfv (G := XG) (c := 61) (k := 5) (c' := 64) rfl) dX2_follow_176 ?_
    refine lv_iconst (v := 2) hx hb dX2_follow_179 (by decide) ?_
    refine lv_iload hx hb dX2_follow_180 (lv_at hl 5 rfl) ?_
    refine lv_if_eq (tgt := 194) hx hb dX2_follow_182 (by decide) (fun c6 => ?_) (fun c6 => ?_)
    · have h := x_t (show x7 = 0 from c6) h
      refine lv_bipush (v := 62) hx hb dX2_follow_194 (by decide) ?_
      exact L196 k80 hk80 x3 x4 x5 x7 2 62 D _ _ _ h hP hS (lv_sub hl [0, 1, 2, 3, 4, 5] rfl)
    · have h := x_f (show ¬ (x7 = 0) from c6) h
      refine lv_aload_n hx hb dX2_follow_185 rfl (lv_at hl 0 rfl) ?_
      refine x_get hx hb ht0 u_X2 hown hK hP (xk_61).1 (ce2 (xk_61).2) rfl 5 (by decide) (ht0 _ m_FL_X2_18) rfl (rfv (G := XG) (c := 61) (k := 5) (c' := 64) rfl) dX2_follow_186 ?_
      refine lv_iconst (v := 1) hx hb dX2_follow_189 (by decide) ?_
      obtain ⟨b7, h⟩ := x_if h
      refine x_ald hx hb hK hP xk_64 b7 dX2_follow_190 ?_
      refine lv_goto (tgt := 196) hx hb dX2_follow_191 (by decide) ?_
      exact L196 k80 hk80 x3 x4 x5 x7 2 (D 64 (Int32.toNatClampNeg 1)) D _ _ _ h hP hS (lv_sub hl [0, 1, 2, 3, 4, 5] rfl)
  have L132 : ∀ (k80 : Int32 → Int32 → Int32 → Mm → Rs) (hk80 : ∀ (x3 x4 x5 : Int32) (D : Mm) (H : Heap) (locs : List Loc) (ls : Array Slot), k80 x3 x4 x5 D = some (r0, D') → va_P dd vwCl (wW Y XG ad D) H → va_S (pA XG ad) s.heap H locs → lv_has ls 8 [(0, .ref (ad 61)), (2, .ref (ad u2)), (3, .int x3), (4, .int x4), (5, .int x5)] → W p l e (headSpec wzX2_follow rm_X2_follow).room s m ([.ref (ad 61), .ref (ad 58), .ref (ad u2)].toArray) below meth c H locs 0 0 (MQ below (Qi dd Y XG ad .int r0 D') ([.ref (ad 61), .ref (ad 58), .ref (ad u2)].toArray) s 0 0 (pA XG ad)) (F0 m 80 ls [])), ∀ (x3 x4 x5 s0 : Int32) (D : Mm) (H : Heap) (locs : List Loc) (ls : Array Slot), P_X2_follow_132 (gN XG) F u2 k80 x3 x4 x5 s0 D = some (r0, D') → va_P dd vwCl (wW Y XG ad D) H → va_S (pA XG ad) s.heap H locs → lv_has ls 8 [(0, .ref (ad 61)), (2, .ref (ad u2)), (3, .int x3), (4, .int x4), (5, .int x5)] → W p l e (headSpec wzX2_follow rm_X2_follow).room s m ([.ref (ad 61), .ref (ad 58), .ref (ad u2)].toArray) below meth c H locs 0 0 (MQ below (Qi dd Y XG ad .int r0 D') ([.ref (ad 61), .ref (ad 58), .ref (ad u2)].toArray) s 0 0 (pA XG ad)) (F0 m 132 ls [.int s0]) := by
    intro k80 hk80 x3 x4 x5 s0 D H locs ls h hP hS hl
    have h : ((if s0 = 0 then (if inB 0 ((gN XG) 64) = true then (if inB 1 ((gN XG) 64) = true then (bi (P_X0_isBlock (gN XG) F (D 64 (Int32.toNatClampNeg 0)) (D 64 (Int32.toNatClampNeg 1)) D) (fun r11 D11 => if r11 = 0 then (bi (P_X6_tell (gN XG) F 66 x3 x4 D11) (fun r13 D13 => some (r13, D13))) else (P_X2_follow_174 (gN XG) F u2 k80 x3 x4 x5 s0 D11))) else none) else none) else (if inB 1 ((gN XG) 64) = true then (if (D 64 (Int32.toNatClampNeg 1)) ≤ 62 then (P_X2_follow_174 (gN XG) F u2 k80 x3 x4 x5 s0 D) else (bi (P_X6_tell (gN XG) F 66 x3 x4 D) (fun r16 D16 => some (r16, D16)))) else none)) : Rs) = some (r0, D') := h
    refine lv_istore (lv' := [(7, .int s0), (0, .ref (ad 61)), (2, .ref (ad u2)), (3, .int x3), (4, .int x4), (5, .int x5)]) hx hb dX2_follow_132 hl (by decide) rfl (fun ls hl => ?_)
    refine lv_iload hx hb dX2_follow_134 (lv_at hl 0 rfl) ?_
    refine lv_if_eq (tgt := 153) hx hb dX2_follow_136 (by decide) (fun c8 => ?_) (fun c8 => ?_)
    · have h := x_t (show s0 = 0 from c8) h
      refine lv_aload_n hx hb dX2_follow_153 rfl (lv_at hl 1 rfl) ?_
      refine x_get hx hb ht0 u_X2 hown hK hP (xk_61).1 (ce2 (xk_61).2) rfl 5 (by decide) (ht0 _ m_FL_X2_18) rfl (rfv (G := XG) (c := 61) (k := 5) (c' := 64) rfl) dX2_follow_154 ?_
      refine lv_iconst (v := 0) hx hb dX2_follow_157 (by decide) ?_
      obtain ⟨b9, h⟩ := x_if h
      refine x_ald hx hb hK hP xk_64 b9 dX2_follow_158 ?_
      refine lv_aload_n hx hb dX2_follow_159 rfl (lv_at hl 1 rfl) ?_
      refine x_get hx hb ht0 u_X2 hown hK hP (xk_61).1 (ce2 (xk_61).2) rfl 5 (by decide) (ht0 _ m_FL_X2_18) rfl (rfv (G := XG) (c := 61) (k := 5) (c' := 64) rfl) dX2_follow_160 ?_
      refine lv_iconst (v := 1) hx hb dX2_follow_163 (by decide) ?_
      obtain ⟨b10, h⟩ := x_if h
      refine x_ald hx hb hK hP xk_64 b10 dX2_follow_164 ?_
      obtain ⟨r11, D11, hc11, h⟩ := bi_some h
      refine x_callSi (As := [.int (D 64 (Int32.toNatClampNeg 0)), .int (D 64 (Int32.toNatClampNeg 1))]) ⟨hx, hb, hml, hown, ht0⟩ hK hT hP hS (c_X0_isBlock l dd Y t ad ij F (D 64 (Int32.toNatClampNeg 0)) (D 64 (Int32.toNatClampNeg 1)) _ _ _ hc11) m_ML_X2_88 ss_X0_isBlock hd_X0_isBlock rfl rfl ⟨Nat.le_of_ble_eq_true rfl, Nat.le_of_ble_eq_true rfl⟩ rfl hl.1 rfl (Nat.le_of_ble_eq_true rfl) dX2_follow_165 ⟨Nat.zero_le _, Nat.zero_le _⟩ (fun H locs hn_r11 hP hS => ?_)
      refine lv_if_ne (tgt := 174) hx hb dX2_follow_168 (by decide) (fun c12 => ?_) (fun c12 => ?_)
      · have h := x_f (show ¬ (r11 = 0) from c12) h
        exact L174 k80 hk80 x3 x4 x5 s0 D11 _ _ _ h hP hS (lv_sub hl [1, 2, 3, 4, 5, 0] rfl)
      · have h := x_t (show r11 = 0 from c12) h
        refine lv_goto (tgt := 236) hx hb dX2_follow_171 (by decide) ?_
        refine lv_aload_n hx hb dX2_follow_236 rfl (lv_at hl 1 rfl) ?_
        refine x_get hx hb ht0 u_X2 hown hK hP (xk_61).1 (ce2 (xk_61).2) rfl 1 (by decide) (ht0 _ m_FL_X2_25) rfl (rfv (G := XG) (c := 61) (k := 1) (c' := 1) rfl) dX2_follow_237 ?_
        refine lv_bipush (v := 66) hx hb dX2_follow_240 (by decide) ?_
        refine lv_iload_n hx hb dX2_follow_242 rfl (lv_at hl 3 rfl) ?_
        refine lv_iload hx hb dX2_follow_243 (lv_at hl 4 rfl) ?_
        obtain ⟨r13, D13, hc13, h⟩ := bi_some h
        refine x_callVi (As := [.int 66, .int x3, .int x4]) ⟨hx, hb, hml, hown, ht0⟩ hK hT hP hS (c_X6_tell l dd Y t ad ij F 66 x3 x4 _ _ _ hc13) m_ML_X2_81 sv_X6_tell hd_X6_tell rfl rfl ⟨Nat.le_of_ble_eq_true rfl, Nat.le_of_ble_eq_true rfl⟩ (xk_1).1 (ce6 (xk_1).2) rfl rfl hl.1 rfl (Nat.le_of_ble_eq_true rfl) dX2_follow_245 ⟨Nat.zero_le _, Nat.zero_le _⟩ (fun H locs hn_r13 hP hS => ?_)
        exact x_iret hx hb hr hlocks rfl hP hS h dX2_follow_248
    · have h := x_f (show ¬ (s0 = 0) from c8) h
      refine lv_aload_n hx hb dX2_follow_139 rfl (lv_at hl 1 rfl) ?_
      refine x_get hx hb ht0 u_X2 hown hK hP (xk_61).1 (ce2 (xk_61).2) rfl 5 (by decide) (ht0 _ m_FL_X2_18) rfl (rfv (G := XG) (c := 61) (k := 5) (c' := 64) rfl) dX2_follow_140 ?_
      refine lv_iconst (v := 1) hx hb dX2_follow_143 (by decide) ?_
      obtain ⟨b14, h⟩ := x_if h
      refine x_ald hx hb hK hP xk_64 b14 dX2_follow_144 ?_
      refine lv_bipush (v := 62) hx hb dX2_follow_145 (by decide) ?_
      refine lv_icmp_le (tgt := 174) hx hb dX2_follow_147 (by decide) (fun c15 => ?_) (fun c15 => ?_)
      · have h := x_t (show (D 64 (Int32.toNatClampNeg 1)) ≤ 62 from c15) h
        exact L174 k80 hk80 x3 x4 x5 s0 D _ _ _ h hP hS (lv_sub hl [1, 2, 3, 4, 5, 0] rfl)
      · have h := x_f (show ¬ ((D 64 (Int32.toNatClampNeg 1)) ≤ 62) from c15) h
        refine lv_goto (tgt := 236) hx hb dX2_follow_150 (by decide) ?_
        refine lv_aload_n hx hb dX2_follow_236 rfl (lv_at hl 1 rfl) ?_
        refine x_get hx hb ht0 u_X2 hown hK hP (xk_61).1 (ce2 (xk_61).2) rfl 1 (by decide) (ht0 _ m_FL_X2_25) rfl (rfv (G := XG) (c := 61) (k := 1) (c' := 1) rfl) dX2_follow_237 ?_
        refine lv_bipush (v := 66) hx hb dX2_follow_240 (by decide) ?_
        refine lv_iload_n hx hb dX2_follow_242 rfl (lv_at hl 3 rfl) ?_
        refine lv_iload hx hb dX2_follow_243 (lv_at hl 4 rfl) ?_
        obtain ⟨r16, D16, hc16, h⟩ := bi_some h
        refine x_callVi (As := [.int 66, .int x3, .int x4]) ⟨hx, hb, hml, hown, ht0⟩ hK hT hP hS (c_X6_tell l dd Y t ad ij F 66 x3 x4 _ _ _ hc16) m_ML_X2_81 sv_X6_tell hd_X6_tell rfl rfl ⟨Nat.le_of_ble_eq_true rfl, Nat.le_of_ble_eq_true rfl⟩ (xk_1).1 (ce6 (xk_1).2) rfl rfl hl.1 rfl (Nat.le_of_ble_eq_true rfl) dX2_follow_245 ⟨Nat.zero_le _, Nat.zero_le _⟩ (fun H locs hn_r16 hP hS => ?_)
        exact x_iret hx hb hr hlocks rfl hP hS h dX2_follow_248
  have L80 : ∀ (n : Nat), ∀ (x3 x4 x5 : Int32) (D : Mm) (H : Heap) (locs : List Loc) (ls : Array Slot), P_X2_follow_80 (gN XG) F u2 n x3 x4 x5 D = some (r0, D') → va_P dd vwCl (wW Y XG ad D) H → va_S (pA XG ad) s.heap H locs → lv_has ls 8 [(0, .ref (ad 61)), (2, .ref (ad u2)), (3, .int x3), (4, .int x4), (5, .int x5)] → W p l e (headSpec wzX2_follow rm_X2_follow).room s m ([.ref (ad 61), .ref (ad 58), .ref (ad u2)].toArray) below meth c H locs 0 0 (MQ below (Qi dd Y XG ad .int r0 D') ([.ref (ad 61), .ref (ad 58), .ref (ad u2)].toArray) s 0 0 (pA XG ad)) (F0 m 80 ls []) := by
    intro n
    induction n with
    | zero =>
      intro x3 x4 x5 D H locs ls h hP hS hl
      cases h
    | succ n ih =>
      intro x3 x4 x5 D H locs ls h hP hS hl
      have h : ((if 40 ≤ x5 then (bi (P_X6_tell (gN XG) F 66 x3 x4 D) (fun r18 D18 => some (r18, D18))) else (bi (P_X0_fetch (gN XG) F 64 x3 x4 D) (fun r19 D19 => if r19 = 0 then (bi (P_X2_addBlock (gN XG) F x3 x4 D19) (fun r21 D21 => if inB 0 ((gN XG) 64) = true then (if (D21 64 (Int32.toNatClampNeg 0)) = 0 then (P_X2_follow_132 (gN XG) F u2 (fun x3 x4 x5 D => P_X2_follow_80 (gN XG) F u2 n x3 x4 x5 D) x3 x4 x5 1 D21) else (P_X2_follow_132 (gN XG) F u2 (fun x3 x4 x5 D => P_X2_follow_80 (gN XG) F u2 n x3 x4 x5 D) x3 x4 x5 0 D21)) else none)) else (some (r19, D19))))) : Rs) = some (r0, D') := h
      refine lv_iload hx hb dX2_follow_80 (lv_at hl 4 rfl) ?_
      refine lv_bipush (v := 40) hx hb dX2_follow_82 (by decide) ?_
      refine lv_icmp_ge (tgt := 236) hx hb dX2_follow_84 (by decide) (fun c17 => ?_) (fun c17 => ?_)
      · have h := x_t (show 40 ≤ x5 from c17) h
        refine lv_aload_n hx hb dX2_follow_236 rfl (lv_at hl 0 rfl) ?_
        refine x_get hx hb ht0 u_X2 hown hK hP (xk_61).1 (ce2 (xk_61).2) rfl 1 (by decide) (ht0 _ m_FL_X2_25) rfl (rfv (G := XG) (c := 61) (k := 1) (c' := 1) rfl) dX2_follow_237 ?_
        refine lv_bipush (v := 66) hx hb dX2_follow_240 (by decide) ?_
        refine lv_iload_n hx hb dX2_follow_242 rfl (lv_at hl 2 rfl) ?_
        refine lv_iload hx hb dX2_follow_243 (lv_at hl 3 rfl) ?_
        obtain ⟨r18, D18, hc18, h⟩ := bi_some h
        refine x_callVi (As := [.int 66, .int x3, .int x4]) ⟨hx, hb, hml, hown, ht0⟩ hK hT hP hS (c_X6_tell l dd Y t ad ij F 66 x3 x4 _ _ _ hc18) m_ML_X2_81 sv_X6_tell hd_X6_tell rfl rfl ⟨Nat.le_of_ble_eq_true rfl, Nat.le_of_ble_eq_true rfl⟩ (xk_1).1 (ce6 (xk_1).2) rfl rfl hl.1 rfl (Nat.le_of_ble_eq_true rfl) dX2_follow_245 ⟨Nat.zero_le _, Nat.zero_le _⟩ (fun H locs hn_r18 hP hS => ?_)
        exact x_iret hx hb hr hlocks rfl hP hS h dX2_follow_248
      · have h := x_f (show ¬ (40 ≤ x5) from c17) h
        refine lv_aload_n hx hb dX2_follow_87 rfl (lv_at hl 0 rfl) ?_
        refine x_get hx hb ht0 u_X2 hown hK hP (xk_61).1 (ce2 (xk_61).2) rfl 0 (by decide) (ht0 _ m_FL_X2_21) rfl (rfv (G := XG) (c := 61) (k := 0) (c' := 2) rfl) dX2_follow_88 ?_
        refine lv_iload_n hx hb dX2_follow_91 rfl (lv_at hl 2 rfl) ?_
        refine lv_iload hx hb dX2_follow_92 (lv_at hl 3 rfl) ?_
        refine lv_aload_n hx hb dX2_follow_94 rfl (lv_at hl 0 rfl) ?_
        refine x_get hx hb ht0 u_X2 hown hK hP (xk_61).1 (ce2 (xk_61).2) rfl 5 (by decide) (ht0 _ m_FL_X2_18) rfl (rfv (G := XG) (c := 61) (k := 5) (c' := 64) rfl) dX2_follow_95 ?_
        obtain ⟨r19, D19, hc19, h⟩ := bi_some h
        refine x_callVi (As := [.int x3, .int x4, .ref (ad 64)]) ⟨hx, hb, hml, hown, ht0⟩ hK hT hP hS (c_X0_fetch l dd Y t ad ij F 64 xk_64 x3 x4 _ _ _ hc19) m_ML_X2_97 sv_X0_fetch hd_X0_fetch rfl rfl ⟨Nat.le_of_ble_eq_true rfl, Nat.le_of_ble_eq_true rfl⟩ (xk_2).1 (ce0 (xk_2).2) rfl rfl hl.1 rfl (Nat.le_of_ble_eq_true rfl) dX2_follow_98 ⟨Nat.zero_le _, Nat.zero_le _⟩ (fun H locs hn_r19 hP hS => ?_)
        refine lv_istore (lv' := [(6, .int r19), (0, .ref (ad 61)), (2, .ref (ad u2)), (3, .int x3), (4, .int x4), (5, .int x5)]) hx hb dX2_follow_101 hl (by decide) rfl (fun ls hl => ?_)
        refine lv_iload hx hb dX2_follow_103 (lv_at hl 0 rfl) ?_
        refine lv_if_eq (tgt := 111) hx hb dX2_follow_105 (by decide) (fun c20 => ?_) (fun c20 => ?_)
        · have h := x_t (show r19 = 0 from c20) h
          refine lv_aload_n hx hb dX2_follow_111 rfl (lv_at hl 1 rfl) ?_
          refine lv_iload_n hx hb dX2_follow_112 rfl (lv_at hl 3 rfl) ?_
          refine lv_iload hx hb dX2_follow_113 (lv_at hl 4 rfl) ?_
          obtain ⟨r21, D21, hc21, h⟩ := bi_some h
          refine x_callVv (As := [.int x3, .int x4]) ⟨hx, hb, hml, hown, ht0⟩ hK hT hP hS (c_X2_addBlock l dd Y t ad ij F x3 x4 _ _ _ hc21) m_ML_X2_52 sv_X2_addBlock hd_X2_addBlock rfl rfl ⟨Nat.le_of_ble_eq_true rfl, Nat.le_of_ble_eq_true rfl⟩ (xk_61).1 (ce2 (xk_61).2) rfl rfl hl.1 rfl (Nat.le_of_ble_eq_true rfl) dX2_follow_115 ⟨Nat.zero_le _, Nat.zero_le _⟩ (fun H locs hP hS => ?_)
          refine lv_aload_n hx hb dX2_follow_118 rfl (lv_at hl 1 rfl) ?_
          refine x_get hx hb ht0 u_X2 hown hK hP (xk_61).1 (ce2 (xk_61).2) rfl 5 (by decide) (ht0 _ m_FL_X2_18) rfl (rfv (G := XG) (c := 61) (k := 5) (c' := 64) rfl) dX2_follow_119 ?_
          refine lv_iconst (v := 0) hx hb dX2_follow_122 (by decide) ?_
          obtain ⟨b22, h⟩ := x_if h
          refine x_ald hx hb hK hP xk_64 b22 dX2_follow_123 ?_
          refine lv_if_ne (tgt := 131) hx hb dX2_follow_124 (by decide) (fun c23 => ?_) (fun c23 => ?_)
          · have h := x_f (show ¬ ((D21 64 (Int32.toNatClampNeg 0)) = 0) from c23) h
            refine lv_iconst (v := 0) hx hb dX2_follow_131 (by decide) ?_
            exact L132 (fun x3 x4 x5 D => P_X2_follow_80 (gN XG) F u2 n x3 x4 x5 D) ih x3 x4 x5 0 D21 _ _ _ h hP hS (lv_sub hl [1, 2, 3, 4, 5] rfl)
          · have h := x_t (show (D21 64 (Int32.toNatClampNeg 0)) = 0 from c23) h
            refine lv_iconst (v := 1) hx hb dX2_follow_127 (by decide) ?_
            refine lv_goto (tgt := 132) hx hb dX2_follow_128 (by decide) ?_
            exact L132 (fun x3 x4 x5 D => P_X2_follow_80 (gN XG) F u2 n x3 x4 x5 D) ih x3 x4 x5 1 D21 _ _ _ h hP hS (lv_sub hl [1, 2, 3, 4, 5] rfl)
        · have h := x_f (show ¬ (r19 = 0) from c20) h
          refine lv_iload hx hb dX2_follow_108 (lv_at hl 0 rfl) ?_
          exact x_iret hx hb hr hlocks rfl hP hS h dX2_follow_110
  have L50 : ∀ (x3 x4 : Int32) (D : Mm) (H : Heap) (locs : List Loc) (ls : Array Slot), P_X2_follow_50 (gN XG) F u2 x3 x4 D = some (r0, D') → va_P dd vwCl (wW Y XG ad D) H → va_S (pA XG ad) s.heap H locs → lv_has ls 8 [(0, .ref (ad 61)), (1, .ref (ad 58)), (2, .ref (ad u2)), (3, .int x3), (4, .int x4)] → W p l e (headSpec wzX2_follow rm_X2_follow).room s m ([.ref (ad 61), .ref (ad 58), .ref (ad u2)].toArray) below meth c H locs 0 0 (MQ below (Qi dd Y XG ad .int r0 D') ([.ref (ad 61), .ref (ad 58), .ref (ad u2)].toArray) s 0 0 (pA XG ad)) (F0 m 50 ls []) := by
    intro x3 x4 D H locs ls h hP hS hl
    have h : ((bi (P_X0_isBlock (gN XG) F x3 x4 D) (fun r24 D24 => if r24 = 0 then (bi (P_X6_tell (gN XG) F 66 (D24 58 3) (D24 58 4) D24) (fun r26 D26 => some (r26, D26))) else (P_X2_follow_80 (gN XG) F u2 F x3 x4 0 D24))) : Rs) = some (r0, D') := h
    refine lv_iload_n hx hb dX2_follow_50 rfl (lv_at hl 3 rfl) ?_
    refine lv_iload hx hb dX2_follow_51 (lv_at hl 4 rfl) ?_
    obtain ⟨r24, D24, hc24, h⟩ := bi_some h
    refine x_callSi (As := [.int x3, .int x4]) ⟨hx, hb, hml, hown, ht0⟩ hK hT hP hS (c_X0_isBlock l dd Y t ad ij F x3 x4 _ _ _ hc24) m_ML_X2_88 ss_X0_isBlock hd_X0_isBlock rfl rfl ⟨Nat.le_of_ble_eq_true rfl, Nat.le_of_ble_eq_true rfl⟩ rfl hl.1 rfl (Nat.le_of_ble_eq_true rfl) dX2_follow_53 ⟨Nat.zero_le _, Nat.zero_le _⟩ (fun H locs hn_r24 hP hS => ?_)
    refine lv_if_ne (tgt := 77) hx hb dX2_follow_56 (by decide) (fun c25 => ?_) (fun c25 => ?_)
    · have h := x_f (show ¬ (r24 = 0) from c25) h
      refine lv_iconst (v := 0) hx hb dX2_follow_77 (by decide) ?_
      refine lv_istore (lv' := [(5, .int 0), (0, .ref (ad 61)), (1, .ref (ad 58)), (2, .ref (ad u2)), (3, .int x3), (4, .int x4)]) hx hb dX2_follow_78 hl (by decide) rfl (fun ls hl => ?_)
      exact L80 F x3 x4 0 D24 _ _ _ h hP hS (lv_sub hl [1, 3, 4, 5, 0] rfl)
    · have h := x_t (show r24 = 0 from c25) h
      refine lv_aload_n hx hb dX2_follow_59 rfl (lv_at hl 0 rfl) ?_
      refine x_get hx hb ht0 u_X2 hown hK hP (xk_61).1 (ce2 (xk_61).2) rfl 1 (by decide) (ht0 _ m_FL_X2_25) rfl (rfv (G := XG) (c := 61) (k := 1) (c' := 1) rfl) dX2_follow_60 ?_
      refine lv_bipush (v := 66) hx hb dX2_follow_63 (by decide) ?_
      refine lv_aload_n hx hb dX2_follow_65 rfl (lv_at hl 1 rfl) ?_
      refine x_get hx hb ht0 u_X3 hown hK hP (xk_58).1 (ce3 (xk_58).2) rfl 3 (by decide) (ht0 _ m_FL_X2_91) rfl rfl dX2_follow_66 ?_
      refine lv_aload_n hx hb dX2_follow_69 rfl (lv_at hl 1 rfl) ?_
      refine x_get hx hb ht0 u_X3 hown hK hP (xk_58).1 (ce3 (xk_58).2) rfl 4 (by decide) (ht0 _ m_FL_X2_94) rfl rfl dX2_follow_70 ?_
      obtain ⟨r26, D26, hc26, h⟩ := bi_some h
      refine x_callVi (As := [.int 66, .int (D24 58 3), .int (D24 58 4)]) ⟨hx, hb, hml, hown, ht0⟩ hK hT hP hS (c_X6_tell l dd Y t ad ij F 66 (D24 58 3) (D24 58 4) _ _ _ hc26) m_ML_X2_81 sv_X6_tell hd_X6_tell rfl rfl ⟨Nat.le_of_ble_eq_true rfl, Nat.le_of_ble_eq_true rfl⟩ (xk_1).1 (ce6 (xk_1).2) rfl rfl hl.1 rfl (Nat.le_of_ble_eq_true rfl) dX2_follow_73 ⟨Nat.zero_le _, Nat.zero_le _⟩ (fun H locs hn_r26 hP hS => ?_)
      exact x_iret hx hb hr hlocks rfl hP hS h dX2_follow_76
  have L37 : ∀ (x3 : Int32) (D : Mm) (H : Heap) (locs : List Loc) (ls : Array Slot), P_X2_follow_37 (gN XG) F u2 x3 D = some (r0, D') → va_P dd vwCl (wW Y XG ad D) H → va_S (pA XG ad) s.heap H locs → lv_has ls 8 [(0, .ref (ad 61)), (1, .ref (ad 58)), (2, .ref (ad u2)), (3, .int x3)] → W p l e (headSpec wzX2_follow rm_X2_follow).room s m ([.ref (ad 61), .ref (ad 58), .ref (ad u2)].toArray) below meth c H locs 0 0 (MQ below (Qi dd Y XG ad .int r0 D') ([.ref (ad 61), .ref (ad 58), .ref (ad u2)].toArray) s 0 0 (pA XG ad)) (F0 m 37 ls []) := by
    intro x3 D H locs ls h hP hS hl
    have h : ((if inB ((D 58 6) + 2) ((gN XG) 59) = true then (P_X2_follow_50 (gN XG) F u2 x3 (D 59 (Int32.toNatClampNeg ((D 58 6) + 2))) D) else none) : Rs) = some (r0, D') := h
    refine lv_aload_n hx hb dX2_follow_37 rfl (lv_at hl 1 rfl) ?_
    refine x_get hx hb ht0 u_X3 hown hK hP (xk_58).1 (ce3 (xk_58).2) rfl 2 (by decide) (ht0 _ m_FL_X2_87) rfl (rfv (G := XG) (c := 58) (k := 2) (c' := 59) rfl) dX2_follow_38 ?_
    refine lv_aload_n hx hb dX2_follow_41 rfl (lv_at hl 1 rfl) ?_
    refine x_get hx hb ht0 u_X3 hown hK hP (xk_58).1 (ce3 (xk_58).2) rfl 6 (by decide) (ht0 _ m_FL_X2_76) rfl rfl dX2_follow_42 ?_
    refine lv_iconst (v := 2) hx hb dX2_follow_45 (by decide) ?_
    refine lv_iadd hx hb dX2_follow_46 ?_
    obtain ⟨b27, h⟩ := x_if h
    refine x_ald hx hb hK hP xk_59 b27 dX2_follow_47 ?_
    refine lv_istore (lv' := [(4, .int (D 59 (Int32.toNatClampNeg ((D 58 6) + 2)))), (0, .ref (ad 61)), (1, .ref (ad 58)), (2, .ref (ad u2)), (3, .int x3)]) hx hb dX2_follow_48 hl (by decide) rfl (fun ls hl => ?_)
    exact L50 x3 (D 59 (Int32.toNatClampNeg ((D 58 6) + 2))) D _ _ _ h hP hS (lv_sub hl [1, 2, 3, 4, 0] rfl)
  have hl := lv_entry ([.ref (ad 61), .ref (ad 58), .ref (ad u2)]) (n := 8) (Nat.le_of_ble_eq_true rfl)
  rw [lg_entry_eq]
  generalize (lg_sl ([.ref (ad 61), .ref (ad 58), .ref (ad u2)]) ++ List.replicate (8 - (lg_sl ([.ref (ad 61), .ref (ad 58), .ref (ad u2)])).length) Slot.unset).toArray = ls at hl ⊢
  have hl : lv_has ls 8 [(0, .ref (ad 61)), (1, .ref (ad 58)), (2, .ref (ad u2))] := hl
  have hP : va_P dd vwCl (wW Y XG ad D0) s.heap := hP
  generalize D0 = D at h hP
  have h : ((if ((up2 D 61 4 0) 58 6) = (-1) then (bi (P_X6_tell (gN XG) F 62 0 0 (up2 D 61 4 0)) (fun r30 D30 => some (r30, D30))) else (if inB (((up2 D 61 4 0) 58 6) + 1) ((gN XG) 59) = true then (P_X2_follow_37 (gN XG) F u2 ((up2 D 61 4 0) 59 (Int32.toNatClampNeg (((up2 D 61 4 0) 58 6) + 1))) (up2 D 61 4 0)) else none)) : Rs) = some (r0, D') := h
  refine lv_aload_n hx hb dX2_follow_0 rfl (lv_at hl 0 rfl) ?_
  refine lv_iconst (v := 0) hx hb dX2_follow_1 (by decide) ?_
  refine x_put (ty := .int) hx hb ht0 u_X2 tyX2 tyX2_ok nmX2 hown hK ij hP hS (xk_61).1 (ce2 (xk_61).2) rfl 4 (by decide) (ht0 _ m_FL_X2_29) rfl rfl (by decide +kernel) rfl rfl (Nat.le_of_ble_eq_true rfl) (by rw [(xk_61).2]; rfl) dX2_follow_2 (fun H locs hP hS => ?_)
  refine lv_aload_n hx hb dX2_follow_5 rfl (lv_at hl 1 rfl) ?_
  refine x_get hx hb ht0 u_X3 hown hK hP (xk_58).1 (ce3 (xk_58).2) rfl 6 (by decide) (ht0 _ m_FL_X2_76) rfl rfl dX2_follow_6 ?_
  refine lv_iconst (v := (-1)) hx hb dX2_follow_9 (by decide) ?_
  refine lv_icmp_ne (tgt := 25) hx hb dX2_follow_10 (by decide) (fun c28 => ?_) (fun c28 => ?_)
  · have h := x_f (show ¬ (((up2 D 61 4 0) 58 6) = (-1)) from c28) h
    refine lv_aload_n hx hb dX2_follow_25 rfl (lv_at hl 1 rfl) ?_
    refine x_get hx hb ht0 u_X3 hown hK hP (xk_58).1 (ce3 (xk_58).2) rfl 2 (by decide) (ht0 _ m_FL_X2_87) rfl (rfv (G := XG) (c := 58) (k := 2) (c' := 59) rfl) dX2_follow_26 ?_
    refine lv_aload_n hx hb dX2_follow_29 rfl (lv_at hl 1 rfl) ?_
    refine x_get hx hb ht0 u_X3 hown hK hP (xk_58).1 (ce3 (xk_58).2) rfl 6 (by decide) (ht0 _ m_FL_X2_76) rfl rfl dX2_follow_30 ?_
    refine lv_iconst (v := 1) hx hb dX2_follow_33 (by decide) ?_
    refine lv_iadd hx hb dX2_follow_34 ?_
    obtain ⟨b29, h⟩ := x_if h
    refine x_ald hx hb hK hP xk_59 b29 dX2_follow_35 ?_
    refine lv_istore_n (lv' := [(3, .int ((up2 D 61 4 0) 59 (Int32.toNatClampNeg (((up2 D 61 4 0) 58 6) + 1)))), (0, .ref (ad 61)), (1, .ref (ad 58)), (2, .ref (ad u2))]) hx hb dX2_follow_36 rfl hl (by decide) rfl (fun ls hl => ?_)
    exact L37 ((up2 D 61 4 0) 59 (Int32.toNatClampNeg (((up2 D 61 4 0) 58 6) + 1))) (up2 D 61 4 0) _ _ _ h hP hS (lv_sub hl [1, 2, 3, 0] rfl)
  · have h := x_t (show ((up2 D 61 4 0) 58 6) = (-1) from c28) h
    refine lv_aload_n hx hb dX2_follow_13 rfl (lv_at hl 0 rfl) ?_
    refine x_get hx hb ht0 u_X2 hown hK hP (xk_61).1 (ce2 (xk_61).2) rfl 1 (by decide) (ht0 _ m_FL_X2_25) rfl (rfv (G := XG) (c := 61) (k := 1) (c' := 1) rfl) dX2_follow_14 ?_
    refine lv_bipush (v := 62) hx hb dX2_follow_17 (by decide) ?_
    refine lv_iconst (v := 0) hx hb dX2_follow_19 (by decide) ?_
    refine lv_iconst (v := 0) hx hb dX2_follow_20 (by decide) ?_
    obtain ⟨r30, D30, hc30, h⟩ := bi_some h
    refine x_callVi (As := [.int 62, .int 0, .int 0]) ⟨hx, hb, hml, hown, ht0⟩ hK hT hP hS (c_X6_tell l dd Y t ad ij F 62 0 0 _ _ _ hc30) m_ML_X2_81 sv_X6_tell hd_X6_tell rfl rfl ⟨Nat.le_of_ble_eq_true rfl, Nat.le_of_ble_eq_true rfl⟩ (xk_1).1 (ce6 (xk_1).2) rfl rfl hl.1 rfl (Nat.le_of_ble_eq_true rfl) dX2_follow_21 ⟨Nat.zero_le _, Nat.zero_le _⟩ (fun H locs hn_r30 hP hS => ?_)
    exact x_iret hx hb hr hlocks rfl hP hS h dX2_follow_24
abbrev rm_X3_begin : Room := { frames := 5, cells := 0, slots := 0, locals := 133 }
set_option maxHeartbeats 4000000 in
set_option maxRecDepth 100000 in
theorem c_X3_begin (l : Launch) (dd : Dd) (Y : Yc) (t : Ts3) (ad : Nat → Nat) (ij : Ij XG ad) (F : Nat) (D0 D' : Mm) (r0 : Int32) (h : P_X3_begin (gN XG) F D0 = some (r0, D')) : Met l yX3_begin wzX3_begin rm_X3_begin (va_Pc [.ref (ad 58)] (Wd dd Y t XG ad D0)) (Qi dd Y XG ad .int r0 D') 0 0 (pA XG ad) := by
  refine Met.ofW (cc := cX3_begin) (maxL := 1) (ret := (some .int)) (by decide) rfl ?_
  intro p e s m args below meth c s₁ B hml hv
  obtain ⟨rfl, hP, hK, hT⟩ := hv
  have hx := B.exec
  have hb := B.bytes
  have hr := B.returns
  have ht0 : ∀ w ∈ W0, w.before _ s = true := fun w h => atoms_spec (ws := wzX3_begin) B.pre w (List.mem_cons_of_mem _ h)
  have hown : s.vm.findClass RX3 = some m.cls := findClass_of_methodNamed B.named
  have hlocks := B.notSynchronized
  have hS : va_S (pA XG ad) s.heap s.heap [] := va_S.rf
  have L26 : ∀ (D : Mm) (H : Heap) (locs : List Loc) (ls : Array Slot), P_X3_begin_26 (gN XG) F D = some (r0, D') → va_P dd vwCl (wW Y XG ad D) H → va_S (pA XG ad) s.heap H locs → lv_has ls 1 [(0, .ref (ad 58))] → W p l e (headSpec wzX3_begin rm_X3_begin).room s m ([.ref (ad 58)].toArray) below meth c H locs 0 0 (MQ below (Qi dd Y XG ad .int r0 D') ([.ref (ad 58)].toArray) s 0 0 (pA XG ad)) (F0 m 26 ls []) := by
    intro D H locs ls h hP hS hl
    have h : ((bi (P_X0_fetch (gN XG) F 59 ((up2 D 58 4 1) 58 3) ((up2 D 58 4 1) 58 4) (up2 D 58 4 1)) (fun r1 D1 => some (r1, D1))) : Rs) = some (r0, D') := h
    refine lv_aload_n hx hb dX3_begin_26 rfl (lv_at hl 0 rfl) ?_
    refine lv_iconst (v := 1) hx hb dX3_begin_27 (by decide) ?_
    refine x_put (ty := .int) hx hb ht0 u_X3 tyX3 tyX3_ok nmX3 hown hK ij hP hS (xk_58).1 (ce3 (xk_58).2) rfl 4 (by decide) (ht0 _ m_FL_X3_43) rfl rfl (by decide +kernel) rfl rfl (Nat.le_of_ble_eq_true rfl) (by rw [(xk_58).2]; rfl) dX3_begin_28 (fun H locs hP hS => ?_)
    refine lv_aload_n hx hb dX3_begin_31 rfl (lv_at hl 0 rfl) ?_
    refine x_get hx hb ht0 u_X3 hown hK hP (xk_58).1 (ce3 (xk_58).2) rfl 0 (by decide) (ht0 _ m_FL_X3_18) rfl (rfv (G := XG) (c := 58) (k := 0) (c' := 2) rfl) dX3_begin_32 ?_
    refine lv_aload_n hx hb dX3_begin_35 rfl (lv_at hl 0 rfl) ?_
    refine x_get hx hb ht0 u_X3 hown hK hP (xk_58).1 (ce3 (xk_58).2) rfl 3 (by decide) (ht0 _ m_FL_X3_40) rfl rfl dX3_begin_36 ?_
    refine lv_aload_n hx hb dX3_begin_39 rfl (lv_at hl 0 rfl) ?_
    refine x_get hx hb ht0 u_X3 hown hK hP (xk_58).1 (ce3 (xk_58).2) rfl 4 (by decide) (ht0 _ m_FL_X3_43) rfl rfl dX3_begin_40 ?_
    refine lv_aload_n hx hb dX3_begin_43 rfl (lv_at hl 0 rfl) ?_
    refine x_get hx hb ht0 u_X3 hown hK hP (xk_58).1 (ce3 (xk_58).2) rfl 2 (by decide) (ht0 _ m_FL_X3_9) rfl (rfv (G := XG) (c := 58) (k := 2) (c' := 59) rfl) dX3_begin_44 ?_
    obtain ⟨r1, D1, hc1, h⟩ := bi_some h
    refine x_callVi (As := [.int ((up2 D 58 4 1) 58 3), .int ((up2 D 58 4 1) 58 4), .ref (ad 59)]) ⟨hx, hb, hml, hown, ht0⟩ hK hT hP hS (c_X0_fetch l dd Y t ad ij F 59 xk_59 ((up2 D 58 4 1) 58 3) ((up2 D 58 4 1) 58 4) _ _ _ hc1) m_ML_X3_46 sv_X0_fetch hd_X0_fetch rfl rfl ⟨Nat.le_of_ble_eq_true rfl, Nat.le_of_ble_eq_true rfl⟩ (xk_2).1 (ce0 (xk_2).2) rfl rfl hl.1 rfl (Nat.le_of_ble_eq_true rfl) dX3_begin_47 ⟨Nat.zero_le _, Nat.zero_le _⟩ (fun H locs hn_r1 hP hS => ?_)
    exact x_iret hx hb hr hlocks rfl hP hS h dX3_begin_50
  have hl := lv_entry ([.ref (ad 58)]) (n := 1) (Nat.le_of_ble_eq_true rfl)
  rw [lg_entry_eq]
  generalize (lg_sl ([.ref (ad 58)]) ++ List.replicate (1 - (lg_sl ([.ref (ad 58)])).length) Slot.unset).toArray = ls at hl ⊢
  have hl : lv_has ls 1 [(0, .ref (ad 58))] := hl
  have hP : va_P dd vwCl (wW Y XG ad D0) s.heap := hP
  generalize D0 = D at h hP
  have h : ((P_X3_begin_26 (gN XG) F (up2 (up2 (up2 (up2 (up2 D 58 6 (-1)) 58 7 (-1)) 58 11 0) 58 5 1) 58 3 9)) : Rs) = some (r0, D') := h
  refine lv_aload_n hx hb dX3_begin_0 rfl (lv_at hl 0 rfl) ?_
  refine lv_iconst (v := (-1)) hx hb dX3_begin_1 (by decide) ?_
  refine x_put (ty := .int) hx hb ht0 u_X3 tyX3 tyX3_ok nmX3 hown hK ij hP hS (xk_58).1 (ce3 (xk_58).2) rfl 6 (by decide) (ht0 _ m_FL_X3_26) rfl rfl (by decide +kernel) rfl rfl (Nat.le_of_ble_eq_true rfl) (by rw [(xk_58).2]; rfl) dX3_begin_2 (fun H locs hP hS => ?_)
  refine lv_aload_n hx hb dX3_begin_5 rfl (lv_at hl 0 rfl) ?_
  refine lv_iconst (v := (-1)) hx hb dX3_begin_6 (by decide) ?_
  refine x_put (ty := .int) hx hb ht0 u_X3 tyX3 tyX3_ok nmX3 hown hK ij hP hS (xk_58).1 (ce3 (xk_58).2) rfl 7 (by decide) (ht0 _ m_FL_X3_30) rfl rfl (by decide +kernel) rfl rfl (Nat.le_of_ble_eq_true rfl) (by rw [(xk_58).2]; rfl) dX3_begin_7 (fun H locs hP hS => ?_)
  refine lv_aload_n hx hb dX3_begin_10 rfl (lv_at hl 0 rfl) ?_
  refine lv_iconst (v := 0) hx hb dX3_begin_11 (by decide) ?_
  refine x_put (ty := .boolean) hx hb ht0 u_X3 tyX3 tyX3_ok nmX3 hown hK ij hP hS (xk_58).1 (ce3 (xk_58).2) rfl 11 (by decide) (ht0 _ m_FL_X3_33) rfl rfl (by decide +kernel) rfl rfl (Nat.le_of_ble_eq_true rfl) (by rw [(xk_58).2]; rfl) dX3_begin_12 (fun H locs hP hS => ?_)
  refine lv_aload_n hx hb dX3_begin_15 rfl (lv_at hl 0 rfl) ?_
  refine lv_iconst (v := 1) hx hb dX3_begin_16 (by decide) ?_
  refine x_put (ty := .int) hx hb ht0 u_X3 tyX3 tyX3_ok nmX3 hown hK ij hP hS (xk_58).1 (ce3 (xk_58).2) rfl 5 (by decide) (ht0 _ m_FL_X3_37) rfl rfl (by decide +kernel) rfl rfl (Nat.le_of_ble_eq_true rfl) (by rw [(xk_58).2]; rfl) dX3_begin_17 (fun H locs hP hS => ?_)
  refine lv_aload_n hx hb dX3_begin_20 rfl (lv_at hl 0 rfl) ?_
  refine lv_bipush (v := 9) hx hb dX3_begin_21 (by decide) ?_
  refine x_put (ty := .int) hx hb ht0 u_X3 tyX3 tyX3_ok nmX3 hown hK ij hP hS (xk_58).1 (ce3 (xk_58).2) rfl 3 (by decide) (ht0 _ m_FL_X3_40) rfl rfl (by decide +kernel) rfl rfl (Nat.le_of_ble_eq_true rfl) (by rw [(xk_58).2]; rfl) dX3_begin_23 (fun H locs hP hS => ?_)
  exact L26 (up2 (up2 (up2 (up2 (up2 D 58 6 (-1)) 58 7 (-1)) 58 11 0) 58 5 1) 58 3 9) _ _ _ h hP hS (lv_sub hl [0] rfl)
abbrev rm_X3_isLast : Room := { frames := 0, cells := 0, slots := 0, locals := 0 }
set_option maxHeartbeats 4000000 in
set_option maxRecDepth 100000 in
theorem c_X3_isLast (l : Launch) (dd : Dd) (Y : Yc) (t : Ts3) (ad : Nat → Nat) (ij : Ij XG ad) (F : Nat) (D0 D' : Mm) (r0 : Int32) (h : P_X3_isLast (gN XG) F D0 = some (r0, D')) : Met l yX3_isLast wzX3_isLast rm_X3_isLast (va_Pc [.ref (ad 58)] (Wd dd Y t XG ad D0)) (Qi dd Y XG ad .boolean r0 D') 0 0 (pA XG ad) := by
  refine Met.ofW (cc := cX3_isLast) (maxL := 1) (ret := (some .boolean)) (by decide) rfl ?_
  intro p e s m args below meth c s₁ B hml hv
  obtain ⟨rfl, hP, hK, hT⟩ := hv
  have hx := B.exec
  have hb := B.bytes
  have hr := B.returns
  have ht0 : ∀ w ∈ W0, w.before _ s = true := fun w h => atoms_spec (ws := wzX3_isLast) B.pre w (List.mem_cons_of_mem _ h)
  have hown : s.vm.findClass RX3 = some m.cls := findClass_of_methodNamed B.named
  have hlocks := B.notSynchronized
  have hS : va_S (pA XG ad) s.heap s.heap [] := va_S.rf
  have hl := lv_entry ([.ref (ad 58)]) (n := 1) (Nat.le_of_ble_eq_true rfl)
  rw [lg_entry_eq]
  generalize (lg_sl ([.ref (ad 58)]) ++ List.replicate (1 - (lg_sl ([.ref (ad 58)])).length) Slot.unset).toArray = ls at hl ⊢
  have hl : lv_has ls 1 [(0, .ref (ad 58))] := hl
  have hP : va_P dd vwCl (wW Y XG ad D0) s.heap := hP
  generalize D0 = D at h hP
  have h : ((if inB 0 ((gN XG) 59) = true then (if (D 59 (Int32.toNatClampNeg 0)) = 0 then (if inB 1 ((gN XG) 59) = true then (if (D 59 (Int32.toNatClampNeg 1)) = 0 then (some (1, D)) else (some (0, D))) else none) else (some (0, D))) else none) : Rs) = some (r0, D') := h
  refine lv_aload_n hx hb dX3_isLast_0 rfl (lv_at hl 0 rfl) ?_
  refine x_get hx hb ht0 u_X3 hown hK hP (xk_58).1 (ce3 (xk_58).2) rfl 2 (by decide) (ht0 _ m_FL_X3_9) rfl (rfv (G := XG) (c := 58) (k := 2) (c' := 59) rfl) dX3_isLast_1 ?_
  refine lv_iconst (v := 0) hx hb dX3_isLast_4 (by decide) ?_
  obtain ⟨b1, h⟩ := x_if h
  refine x_ald hx hb hK hP xk_59 b1 dX3_isLast_5 ?_
  refine lv_if_ne (tgt := 22) hx hb dX3_isLast_6 (by decide) (fun c2 => ?_) (fun c2 => ?_)
  · have h := x_f (show ¬ ((D 59 (Int32.toNatClampNeg 0)) = 0) from c2) h
    refine lv_iconst (v := 0) hx hb dX3_isLast_22 (by decide) ?_
    exact x_iret hx hb hr hlocks rfl hP hS h dX3_isLast_23
  · have h := x_t (show (D 59 (Int32.toNatClampNeg 0)) = 0 from c2) h
    refine lv_aload_n hx hb dX3_isLast_9 rfl (lv_at hl 0 rfl) ?_
    refine x_get hx hb ht0 u_X3 hown hK hP (xk_58).1 (ce3 (xk_58).2) rfl 2 (by decide) (ht0 _ m_FL_X3_9) rfl (rfv (G := XG) (c := 58) (k := 2) (c' := 59) rfl) dX3_isLast_10 ?_
    refine lv_iconst (v := 1) hx hb dX3_isLast_13 (by decide) ?_
    obtain ⟨b3, h⟩ := x_if h
    refine x_ald hx hb hK hP xk_59 b3 dX3_isLast_14 ?_
    refine lv_if_ne (tgt := 22) hx hb dX3_isLast_15 (by decide) (fun c4 => ?_) (fun c4 => ?_)
    · have h := x_f (show ¬ ((D 59 (Int32.toNatClampNeg 1)) = 0) from c4) h
      refine lv_iconst (v := 0) hx hb dX3_isLast_22 (by decide) ?_
      exact x_iret hx hb hr hlocks rfl hP hS h dX3_isLast_23
    · have h := x_t (show (D 59 (Int32.toNatClampNeg 1)) = 0 from c4) h
      refine lv_iconst (v := 1) hx hb dX3_isLast_18 (by decide) ?_
      refine lv_goto (tgt := 23) hx hb dX3_isLast_19 (by decide) ?_
      exact x_iret hx hb hr hlocks rfl hP hS h dX3_isLast_23
abbrev rm_X3_step : Room := { frames := 5, cells := 0, slots := 0, locals := 133 }
set_option maxHeartbeats 4000000 in
set_option maxRecDepth 100000 in
theorem c_X3_step (l : Launch) (dd : Dd) (Y : Yc) (t : Ts3) (ad : Nat → Nat) (ij : Ij XG ad) (F : Nat) (D0 D' : Mm) (r0 : Int32) (h : P_X3_step (gN XG) F D0 = some (r0, D')) : Met l yX3_step wzX3_step rm_X3_step (va_Pc [.ref (ad 58)] (Wd dd Y t XG ad D0)) (Qi dd Y XG ad .int r0 D') 0 0 (pA XG ad) := by
  refine Met.ofW (cc := cX3_step) (maxL := 1) (ret := (some .int)) (by decide) rfl ?_
  intro p e s m args below meth c s₁ B hml hv
  obtain ⟨rfl, hP, hK, hT⟩ := hv
  have hx := B.exec
  have hb := B.bytes
  have hr := B.returns
  have ht0 : ∀ w ∈ W0, w.before _ s = true := fun w h => atoms_spec (ws := wzX3_step) B.pre w (List.mem_cons_of_mem _ h)
  have hown : s.vm.findClass RX3 = some m.cls := findClass_of_methodNamed B.named
  have hlocks := B.notSynchronized
  have hS : va_S (pA XG ad) s.heap s.heap [] := va_S.rf
  have L65 : ∀ (D : Mm) (H : Heap) (locs : List Loc) (ls : Array Slot), P_X3_step_65 (gN XG) F D = some (r0, D') → va_P dd vwCl (wW Y XG ad D) H → va_S (pA XG ad) s.heap H locs → lv_has ls 1 [(0, .ref (ad 58))] → W p l e (headSpec wzX3_step rm_X3_step).room s m ([.ref (ad 58)].toArray) below meth c H locs 0 0 (MQ below (Qi dd Y XG ad .int r0 D') ([.ref (ad 58)].toArray) s 0 0 (pA XG ad)) (F0 m 65 ls []) := by
    intro D H locs ls h hP hS hl
    have h : ((if inB 1 ((gN XG) 59) = true then (bi (P_X0_fetch (gN XG) F 59 ((up2 D 58 4 (D 59 (Int32.toNatClampNeg 1))) 58 3) ((up2 D 58 4 (D 59 (Int32.toNatClampNeg 1))) 58 4) (up2 D 58 4 (D 59 (Int32.toNatClampNeg 1)))) (fun r2 D2 => some (r2, D2))) else none) : Rs) = some (r0, D') := h
    refine lv_aload_n hx hb dX3_step_65 rfl (lv_at hl 0 rfl) ?_
    refine lv_aload_n hx hb dX3_step_66 rfl (lv_at hl 0 rfl) ?_
    refine x_get hx hb ht0 u_X3 hown hK hP (xk_58).1 (ce3 (xk_58).2) rfl 2 (by decide) (ht0 _ m_FL_X3_9) rfl (rfv (G := XG) (c := 58) (k := 2) (c' := 59) rfl) dX3_step_67 ?_
    refine lv_iconst (v := 1) hx hb dX3_step_70 (by decide) ?_
    obtain ⟨b1, h⟩ := x_if h
    refine x_ald hx hb hK hP xk_59 b1 dX3_step_71 ?_
    refine x_put (ty := .int) hx hb ht0 u_X3 tyX3 tyX3_ok nmX3 hown hK ij hP hS (xk_58).1 (ce3 (xk_58).2) rfl 4 (by decide) (ht0 _ m_FL_X3_43) rfl rfl (by decide +kernel) rfl rfl (Nat.le_of_ble_eq_true rfl) (by rw [(xk_58).2]; rfl) dX3_step_72 (fun H locs hP hS => ?_)
    refine lv_aload_n hx hb dX3_step_75 rfl (lv_at hl 0 rfl) ?_
    refine x_get hx hb ht0 u_X3 hown hK hP (xk_58).1 (ce3 (xk_58).2) rfl 0 (by decide) (ht0 _ m_FL_X3_18) rfl (rfv (G := XG) (c := 58) (k := 0) (c' := 2) rfl) dX3_step_76 ?_
    refine lv_aload_n hx hb dX3_step_79 rfl (lv_at hl 0 rfl) ?_
    refine x_get hx hb ht0 u_X3 hown hK hP (xk_58).1 (ce3 (xk_58).2) rfl 3 (by decide) (ht0 _ m_FL_X3_40) rfl rfl dX3_step_80 ?_
    refine lv_aload_n hx hb dX3_step_83 rfl (lv_at hl 0 rfl) ?_
    refine x_get hx hb ht0 u_X3 hown hK hP (xk_58).1 (ce3 (xk_58).2) rfl 4 (by decide) (ht0 _ m_FL_X3_43) rfl rfl dX3_step_84 ?_
    refine lv_aload_n hx hb dX3_step_87 rfl (lv_at hl 0 rfl) ?_
    refine x_get hx hb ht0 u_X3 hown hK hP (xk_58).1 (ce3 (xk_58).2) rfl 2 (by decide) (ht0 _ m_FL_X3_9) rfl (rfv (G := XG) (c := 58) (k := 2) (c' := 59) rfl) dX3_step_88 ?_
    obtain ⟨r2, D2, hc2, h⟩ := bi_some h
    refine x_callVi (As := [.int ((up2 D 58 4 (D 59 (Int32.toNatClampNeg 1))) 58 3), .int ((up2 D 58 4 (D 59 (Int32.toNatClampNeg 1))) 58 4), .ref (ad 59)]) ⟨hx, hb, hml, hown, ht0⟩ hK hT hP hS (c_X0_fetch l dd Y t ad ij F 59 xk_59 ((up2 D 58 4 (D 59 (Int32.toNatClampNeg 1))) 58 3) ((up2 D 58 4 (D 59 (Int32.toNatClampNeg 1))) 58 4) _ _ _ hc2) m_ML_X3_46 sv_X0_fetch hd_X0_fetch rfl rfl ⟨Nat.le_of_ble_eq_true rfl, Nat.le_of_ble_eq_true rfl⟩ (xk_2).1 (ce0 (xk_2).2) rfl rfl hl.1 rfl (Nat.le_of_ble_eq_true rfl) dX3_step_91 ⟨Nat.zero_le _, Nat.zero_le _⟩ (fun H locs hn_r2 hP hS => ?_)
    exact x_iret hx hb hr hlocks rfl hP hS h dX3_step_94
  have hl := lv_entry ([.ref (ad 58)]) (n := 1) (Nat.le_of_ble_eq_true rfl)
  rw [lg_entry_eq]
  generalize (lg_sl ([.ref (ad 58)]) ++ List.replicate (1 - (lg_sl ([.ref (ad 58)])).length) Slot.unset).toArray = ls at hl ⊢
  have hl : lv_has ls 1 [(0, .ref (ad 58))] := hl
  have hP : va_P dd vwCl (wW Y XG ad D0) s.heap := hP
  generalize D0 = D at h hP
  have h : ((if 7 ≤ (D 58 5) then (bi (P_X6_tell (gN XG) F 66 (D 58 3) (D 58 4) D) (fun r4 D4 => some (r4, D4))) else (if inB 0 ((gN XG) 59) = true then (if inB 1 ((gN XG) 59) = true then (bi (P_X0_isBlock (gN XG) F (D 59 (Int32.toNatClampNeg 0)) (D 59 (Int32.toNatClampNeg 1)) D) (fun r7 D7 => if r7 = 0 then (bi (P_X6_tell (gN XG) F 66 (D7 58 3) (D7 58 4) D7) (fun r10 D10 => some (r10, D10))) else (if inB 0 ((gN XG) 59) = true then (P_X3_step_65 (gN XG) F (up2 (up2 D7 58 5 ((D7 58 5) + 1)) 58 3 ((up2 D7 58 5 ((D7 58 5) + 1)) 59 (Int32.toNatClampNeg 0)))) else none))) else none) else none)) : Rs) = some (r0, D') := h
  refine lv_aload_n hx hb dX3_step_0 rfl (lv_at hl 0 rfl) ?_
  refine x_get hx hb ht0 u_X3 hown hK hP (xk_58).1 (ce3 (xk_58).2) rfl 5 (by decide) (ht0 _ m_FL_X3_37) rfl rfl dX3_step_1 ?_
  refine lv_bipush (v := 7) hx hb dX3_step_4 (by decide) ?_
  refine lv_icmp_ge (tgt := 27) hx hb dX3_step_6 (by decide) (fun c3 => ?_) (fun c3 => ?_)
  · have h := x_t (show 7 ≤ (D 58 5) from c3) h
    refine lv_aload_n hx hb dX3_step_27 rfl (lv_at hl 0 rfl) ?_
    refine x_get hx hb ht0 u_X3 hown hK hP (xk_58).1 (ce3 (xk_58).2) rfl 1 (by decide) (ht0 _ m_FL_X3_22) rfl (rfv (G := XG) (c := 58) (k := 1) (c' := 1) rfl) dX3_step_28 ?_
    refine lv_bipush (v := 66) hx hb dX3_step_31 (by decide) ?_
    refine lv_aload_n hx hb dX3_step_33 rfl (lv_at hl 0 rfl) ?_
    refine x_get hx hb ht0 u_X3 hown hK hP (xk_58).1 (ce3 (xk_58).2) rfl 3 (by decide) (ht0 _ m_FL_X3_40) rfl rfl dX3_step_34 ?_
    refine lv_aload_n hx hb dX3_step_37 rfl (lv_at hl 0 rfl) ?_
    refine x_get hx hb ht0 u_X3 hown hK hP (xk_58).1 (ce3 (xk_58).2) rfl 4 (by decide) (ht0 _ m_FL_X3_43) rfl rfl dX3_step_38 ?_
    obtain ⟨r4, D4, hc4, h⟩ := bi_some h
    refine x_callVi (As := [.int 66, .int (D 58 3), .int (D 58 4)]) ⟨hx, hb, hml, hown, ht0⟩ hK hT hP hS (c_X6_tell l dd Y t ad ij F 66 (D 58 3) (D 58 4) _ _ _ hc4) m_ML_X3_56 sv_X6_tell hd_X6_tell rfl rfl ⟨Nat.le_of_ble_eq_true rfl, Nat.le_of_ble_eq_true rfl⟩ (xk_1).1 (ce6 (xk_1).2) rfl rfl hl.1 rfl (Nat.le_of_ble_eq_true rfl) dX3_step_41 ⟨Nat.zero_le _, Nat.zero_le _⟩ (fun H locs hn_r4 hP hS => ?_)
    exact x_iret hx hb hr hlocks rfl hP hS h dX3_step_44
  · have h := x_f (show ¬ (7 ≤ (D 58 5)) from c3) h
    refine lv_aload_n hx hb dX3_step_9 rfl (lv_at hl 0 rfl) ?_
    refine x_get hx hb ht0 u_X3 hown hK hP (xk_58).1 (ce3 (xk_58).2) rfl 2 (by decide) (ht0 _ m_FL_X3_9) rfl (rfv (G := XG) (c := 58) (k := 2) (c' := 59) rfl) dX3_step_10 ?_
    refine lv_iconst (v := 0) hx hb dX3_step_13 (by decide) ?_
    obtain ⟨b5, h⟩ := x_if h
    refine x_ald hx hb hK hP xk_59 b5 dX3_step_14 ?_
    refine lv_aload_n hx hb dX3_step_15 rfl (lv_at hl 0 rfl) ?_
    refine x_get hx hb ht0 u_X3 hown hK hP (xk_58).1 (ce3 (xk_58).2) rfl 2 (by decide) (ht0 _ m_FL_X3_9) rfl (rfv (G := XG) (c := 58) (k := 2) (c' := 59) rfl) dX3_step_16 ?_
    refine lv_iconst (v := 1) hx hb dX3_step_19 (by decide) ?_
    obtain ⟨b6, h⟩ := x_if h
    refine x_ald hx hb hK hP xk_59 b6 dX3_step_20 ?_
    obtain ⟨r7, D7, hc7, h⟩ := bi_some h
    refine x_callSi (As := [.int (D 59 (Int32.toNatClampNeg 0)), .int (D 59 (Int32.toNatClampNeg 1))]) ⟨hx, hb, hml, hown, ht0⟩ hK hT hP hS (c_X0_isBlock l dd Y t ad ij F (D 59 (Int32.toNatClampNeg 0)) (D 59 (Int32.toNatClampNeg 1)) _ _ _ hc7) m_ML_X3_52 ss_X0_isBlock hd_X0_isBlock rfl rfl ⟨Nat.le_of_ble_eq_true rfl, Nat.le_of_ble_eq_true rfl⟩ rfl hl.1 rfl (Nat.le_of_ble_eq_true rfl) dX3_step_21 ⟨Nat.zero_le _, Nat.zero_le _⟩ (fun H locs hn_r7 hP hS => ?_)
    refine lv_if_ne (tgt := 45) hx hb dX3_step_24 (by decide) (fun c8 => ?_) (fun c8 => ?_)
    · have h := x_f (show ¬ (r7 = 0) from c8) h
      refine lv_aload_n hx hb dX3_step_45 rfl (lv_at hl 0 rfl) ?_
      refine lv_dup hx hb dX3_step_46 rfl ?_
      refine x_get hx hb ht0 u_X3 hown hK hP (xk_58).1 (ce3 (xk_58).2) rfl 5 (by decide) (ht0 _ m_FL_X3_37) rfl rfl dX3_step_47 ?_
      refine lv_iconst (v := 1) hx hb dX3_step_50 (by decide) ?_
      refine lv_iadd hx hb dX3_step_51 ?_
      refine x_put (ty := .int) hx hb ht0 u_X3 tyX3 tyX3_ok nmX3 hown hK ij hP hS (xk_58).1 (ce3 (xk_58).2) rfl 5 (by decide) (ht0 _ m_FL_X3_37) rfl rfl (by decide +kernel) rfl rfl (Nat.le_of_ble_eq_true rfl) (by rw [(xk_58).2]; rfl) dX3_step_52 (fun H locs hP hS => ?_)
      refine lv_aload_n hx hb dX3_step_55 rfl (lv_at hl 0 rfl) ?_
      refine lv_aload_n hx hb dX3_step_56 rfl (lv_at hl 0 rfl) ?_
      refine x_get hx hb ht0 u_X3 hown hK hP (xk_58).1 (ce3 (xk_58).2) rfl 2 (by decide) (ht0 _ m_FL_X3_9) rfl (rfv (G := XG) (c := 58) (k := 2) (c' := 59) rfl) dX3_step_57 ?_
      refine lv_iconst (v := 0) hx hb dX3_step_60 (by decide) ?_
      obtain ⟨b9, h⟩ := x_if h
      refine x_ald hx hb hK hP xk_59 b9 dX3_step_61 ?_
      refine x_put (ty := .int) hx hb ht0 u_X3 tyX3 tyX3_ok nmX3 hown hK ij hP hS (xk_58).1 (ce3 (xk_58).2) rfl 3 (by decide) (ht0 _ m_FL_X3_40) rfl rfl (by decide +kernel) rfl rfl (Nat.le_of_ble_eq_true rfl) (by rw [(xk_58).2]; rfl) dX3_step_62 (fun H locs hP hS => ?_)
      exact L65 (up2 (up2 D7 58 5 ((D7 58 5) + 1)) 58 3 ((up2 D7 58 5 ((D7 58 5) + 1)) 59 (Int32.toNatClampNeg 0))) _ _ _ h hP hS (lv_sub hl [0] rfl)
    · have h := x_t (show r7 = 0 from c8) h
      refine lv_aload_n hx hb dX3_step_27 rfl (lv_at hl 0 rfl) ?_
      refine x_get hx hb ht0 u_X3 hown hK hP (xk_58).1 (ce3 (xk_58).2) rfl 1 (by decide) (ht0 _ m_FL_X3_22) rfl (rfv (G := XG) (c := 58) (k := 1) (c' := 1) rfl) dX3_step_28 ?_
      refine lv_bipush (v := 66) hx hb dX3_step_31 (by decide) ?_
      refine lv_aload_n hx hb dX3_step_33 rfl (lv_at hl 0 rfl) ?_
      refine x_get hx hb ht0 u_X3 hown hK hP (xk_58).1 (ce3 (xk_58).2) rfl 3 (by decide) (ht0 _ m_FL_X3_40) rfl rfl dX3_step_34 ?_
      refine lv_aload_n hx hb dX3_step_37 rfl (lv_at hl 0 rfl) ?_
      refine x_get hx hb ht0 u_X3 hown hK hP (xk_58).1 (ce3 (xk_58).2) rfl 4 (by decide) (ht0 _ m_FL_X3_43) rfl rfl dX3_step_38 ?_
      obtain ⟨r10, D10, hc10, h⟩ := bi_some h
      refine x_callVi (As := [.int 66, .int (D7 58 3), .int (D7 58 4)]) ⟨hx, hb, hml, hown, ht0⟩ hK hT hP hS (c_X6_tell l dd Y t ad ij F 66 (D7 58 3) (D7 58 4) _ _ _ hc10) m_ML_X3_56 sv_X6_tell hd_X6_tell rfl rfl ⟨Nat.le_of_ble_eq_true rfl, Nat.le_of_ble_eq_true rfl⟩ (xk_1).1 (ce6 (xk_1).2) rfl rfl hl.1 rfl (Nat.le_of_ble_eq_true rfl) dX3_step_41 ⟨Nat.zero_le _, Nat.zero_le _⟩ (fun H locs hn_r10 hP hS => ?_)
      exact x_iret hx hb hr hlocks rfl hP hS h dX3_step_44
