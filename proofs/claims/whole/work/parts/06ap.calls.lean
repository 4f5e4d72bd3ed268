abbrev rm_X8_read : Room := { frames := 7, cells := 0, slots := 0, locals := 162 }
set_option maxHeartbeats 4000000 in
set_option maxRecDepth 100000 in
theorem c_X8_read (l : Launch) (dd : Dd) (Y : Yc) (t : Ts3) (ad : Nat → Nat) (ij : Ij MG ad) (F : Nat) (a1 a2 : Int32) (D0 D' : Mm) (r0 : Int32) (h : P_X8_read (gN MG) F a1 a2 D0 = some (r0, D')) : Met l yX8_read wzX8_read rm_X8_read (va_Pc [.ref (ad 0), .int a1, .int a2] (Wd dd Y t MG ad D0)) (Qi dd Y MG ad .int r0 D') 0 0 (pA MG ad) := by
  refine Met.ofW (cc := cX8_read) (maxL := 5) (ret := (some .int)) (by decide) rfl ?_
  intro p e s m args below meth c s₁ B hml hv
  obtain ⟨rfl, hP, hK, hT⟩ := hv
  have hx := B.exec
  have hb := B.bytes
  have hr := B.returns
  have ht0 : ∀ w ∈ W0, w.before _ s = true := fun w h => atoms_spec (ws := wzX8_read) B.pre w (List.mem_cons_of_mem _ h)
  have hown : s.vm.findClass RX8 = some m.cls := findClass_of_methodNamed B.named
  have hlocks := B.notSynchronized
  have hS : va_S (pA MG ad) s.heap s.heap [] := va_S.rf
  have L36 : ∀ (n : Nat), ∀ (x3 x4 : Int32) (D : Mm) (H : Heap) (locs : List Loc) (ls : Array Slot), P_X8_read_36 (gN MG) F n x3 x4 D = some (r0, D') → va_P dd vwCl (wW Y MG ad D) H → va_S (pA MG ad) s.heap H locs → lv_has ls 5 [(0, .ref (ad 0)), (3, .int x3), (4, .int x4)] → W p l e (headSpec wzX8_read rm_X8_read).room s m ([.ref (ad 0), .int a1, .int a2].toArray) below meth c H locs 0 0 (MQ below (Qi dd Y MG ad .int r0 D') ([.ref (ad 0), .int a1, .int a2].toArray) s 0 0 (pA MG ad)) (F0 m 36 ls []) := by
    intro n
    induction n with
    | zero =>
      intro x3 x4 D H locs ls h hP hS hl
      cases h
    | succ n ih =>
      intro x3 x4 D H locs ls h hP hS hl
      have h : ((if 64 ≤ x4 then (some (x3, D)) else (if x3 = 0 then (if inB x4 ((gN MG) 8) = true then (bi (P_X8_tell (gN MG) F (D 8 (Int32.toNatClampNeg x4)) D) (fun r4 D4 => P_X8_read_36 (gN MG) F n x3 (x4 + 1) D4)) else none) else (some (x3, D)))) : Rs) = some (r0, D') := h
      refine lv_iload hx hb dX8_read_36 (lv_at hl 2 rfl) ?_
      refine lv_bipush (v := 64) hx hb dX8_read_38 (by decide) ?_
      refine lv_icmp_ge (tgt := 64) hx hb dX8_read_40 (by decide) (fun c1 => ?_) (fun c1 => ?_)
      · have h := x_t (show 64 ≤ x4 from c1) h
        refine lv_iload_n hx hb dX8_read_64 rfl (lv_at hl 1 rfl) ?_
        exact x_iret hx hb hr hlocks rfl hP hS h dX8_read_65
      · have h := x_f (show ¬ (64 ≤ x4) from c1) h
        refine lv_iload_n hx hb dX8_read_43 rfl (lv_at hl 1 rfl) ?_
        refine lv_if_ne (tgt := 64) hx hb dX8_read_44 (by decide) (fun c2 => ?_) (fun c2 => ?_)
        · have h := x_f (show ¬ (x3 = 0) from c2) h
          refine lv_iload_n hx hb dX8_read_64 rfl (lv_at hl 1 rfl) ?_
          exact x_iret hx hb hr hlocks rfl hP hS h dX8_read_65
        · have h := x_t (show x3 = 0 from c2) h
          refine lv_aload_n hx hb dX8_read_47 rfl (lv_at hl 0 rfl) ?_
          refine lv_aload_n hx hb dX8_read_48 rfl (lv_at hl 0 rfl) ?_
          refine x_get hx hb ht0 u_X8 hown hK hP (mk_0).1 (ce8 (mk_0).2) rfl 18 (by decide) (ht0 _ m_FL_X8_37) rfl (rfv (G := MG) (c := 0) (k := 18) (c' := 8) rfl) dX8_read_49 ?_
          refine lv_iload hx hb dX8_read_52 (lv_at hl 2 rfl) ?_
          obtain ⟨b3, h⟩ := x_if h
          refine x_ald hx hb hK hP mk_8 b3 dX8_read_54 ?_
          obtain ⟨r4, D4, hc4, h⟩ := bi_some h
          refine x_callVv (As := [.int (D 8 (Int32.toNatClampNeg x4))]) ⟨hx, hb, hml, hown, ht0⟩ hK hT hP hS (c_X8_tell l dd Y t ad ij F (D 8 (Int32.toNatClampNeg x4)) _ _ _ hc4) m_ML_X8_217 sv_X8_tell hd_X8_tell rfl rfl ⟨Nat.le_of_ble_eq_true rfl, Nat.le_of_ble_eq_true rfl⟩ (mk_0).1 (ce8 (mk_0).2) rfl rfl hl.1 rfl (Nat.le_of_ble_eq_true rfl) dX8_read_55 ⟨Nat.zero_le _, Nat.zero_le _⟩ (fun H locs hP hS => ?_)
          refine lv_iinc (v := x4 + 1) (lv' := [(4, .int (x4 + 1)), (0, .ref (ad 0)), (3, .int x3)]) hx hb dX8_read_58 hl (k := 2) rfl rfl (by decide) rfl (fun ls hl => ?_)
          refine lv_goto (tgt := 36) hx hb dX8_read_61 (by decide) ?_
          exact ih x3 (x4 + 1) D4 _ _ _ h hP hS (lv_sub hl [1, 2, 0] rfl)
  have hl := lv_entry ([.ref (ad 0), .int a1, .int a2]) (n := 5) (Nat.le_of_ble_eq_true rfl)
  rw [lg_entry_eq]
  generalize (lg_sl ([.ref (ad 0), .int a1, .int a2]) ++ List.replicate (5 - (lg_sl ([.ref (ad 0), .int a1, .int a2])).length) Slot.unset).toArray = ls at hl ⊢
  have hl : lv_has ls 5 [(0, .ref (ad 0)), (1, .int a1), (2, .int a2)] := hl
  have hP : va_P dd vwCl (wW Y MG ad D0) s.heap := hP
  generalize D0 = D at h hP
  have h : ((if 0 ≤ ((up2 D 0 8 0) 0 4) then (bi (P_X8_isBlock (gN MG) F a1 a2 (up2 D 0 8 0)) (fun r6 D6 => if r6 = 0 then (some (66, D6)) else (bi (P_X8_readBlock (gN MG) F a1 a2 D6) (fun r8 D8 => P_X8_read_36 (gN MG) F F r8 0 D8)))) else (some (74, up2 D 0 8 0))) : Rs) = some (r0, D') := h
  refine lv_aload_n hx hb dX8_read_0 rfl (lv_at hl 0 rfl) ?_
  refine lv_iconst (v := 0) hx hb dX8_read_1 (by decide) ?_
  refine x_put (ty := .int) hx hb ht0 u_X8 tyX8 tyX8_ok nmX8 hown hK ij hP hS (mk_0).1 (ce8 (mk_0).2) rfl 8 (by decide) (ht0 _ m_FL_X8_220) rfl rfl (by decide +kernel) rfl rfl (Nat.le_of_ble_eq_true rfl) (by rw [(mk_0).2]; rfl) dX8_read_2 (fun H locs hP hS => ?_)
  refine lv_aload_n hx hb dX8_read_5 rfl (lv_at hl 0 rfl) ?_
  refine x_get hx hb ht0 u_X8 hown hK hP (mk_0).1 (ce8 (mk_0).2) rfl 4 (by decide) (ht0 _ m_FL_X8_24) rfl rfl dX8_read_6 ?_
  refine lv_if_ge (tgt := 15) hx hb dX8_read_9 (by decide) (fun c5 => ?_) (fun c5 => ?_)
  · have h := x_t (show 0 ≤ ((up2 D 0 8 0) 0 4) from c5) h
    refine lv_iload_n hx hb dX8_read_15 rfl (lv_at hl 1 rfl) ?_
    refine lv_iload_n hx hb dX8_read_16 rfl (lv_at hl 2 rfl) ?_
    obtain ⟨r6, D6, hc6, h⟩ := bi_some h
    refine x_callSi (As := [.int a1, .int a2]) ⟨hx, hb, hml, hown, ht0⟩ hK hT hP hS (c_X8_isBlock l dd Y t ad ij F a1 a2 _ _ _ hc6) m_ML_X8_168 ss_X8_isBlock hd_X8_isBlock rfl rfl ⟨Nat.le_of_ble_eq_true rfl, Nat.le_of_ble_eq_true rfl⟩ rfl hl.1 rfl (Nat.le_of_ble_eq_true rfl) dX8_read_17 ⟨Nat.zero_le _, Nat.zero_le _⟩ (fun H locs hn_r6 hP hS => ?_)
    refine lv_if_ne (tgt := 26) hx hb dX8_read_20 (by decide) (fun c7 => ?_) (fun c7 => ?_)
    · have h := x_f (show ¬ (r6 = 0) from c7) h
      refine lv_aload_n hx hb dX8_read_26 rfl (lv_at hl 0 rfl) ?_
      refine lv_iload_n hx hb dX8_read_27 rfl (lv_at hl 1 rfl) ?_
      refine lv_iload_n hx hb dX8_read_28 rfl (lv_at hl 2 rfl) ?_
      obtain ⟨r8, D8, hc8, h⟩ := bi_some h
      refine x_callVi (As := [.int a1, .int a2]) ⟨hx, hb, hml, hown, ht0⟩ hK hT hP hS (c_X8_readBlock l dd Y t ad ij F a1 a2 _ _ _ hc8) m_ML_X8_147 sv_X8_readBlock hd_X8_readBlock rfl rfl ⟨Nat.le_of_ble_eq_true rfl, Nat.le_of_ble_eq_true rfl⟩ (mk_0).1 (ce8 (mk_0).2) rfl rfl hl.1 rfl (Nat.le_of_ble_eq_true rfl) dX8_read_29 ⟨Nat.zero_le _, Nat.zero_le _⟩ (fun H locs hn_r8 hP hS => ?_)
      refine lv_istore_n (lv' := [(3, .int r8), (0, .ref (ad 0)), (1, .int a1), (2, .int a2)]) hx hb dX8_read_32 rfl hl (by decide) rfl (fun ls hl => ?_)
      refine lv_iconst (v := 0) hx hb dX8_read_33 (by decide) ?_
      refine lv_istore (lv' := [(4, .int 0), (3, .int r8), (0, .ref (ad 0)), (1, .int a1), (2, .int a2)]) hx hb dX8_read_34 hl (by decide) rfl (fun ls hl => ?_)
      exact L36 F r8 0 D8 _ _ _ h hP hS (lv_sub hl [2, 1, 0] rfl)
    · have h := x_t (show r6 = 0 from c7) h
      refine lv_bipush (v := 66) hx hb dX8_read_23 (by decide) ?_
      exact x_iret hx hb hr hlocks rfl hP hS h dX8_read_25
  · have h := x_f (show ¬ (0 ≤ ((up2 D 0 8 0) 0 4)) from c5) h
    refine lv_bipush (v := 74) hx hb dX8_read_12 (by decide) ?_
    exact x_iret hx hb hr hlocks rfl hP hS h dX8_read_14
abbrev rm_X8_write : Room := { frames := 7, cells := 0, slots := 0, locals := 162 }
set_option maxHeartbeats 4000000 in
set_option maxRecDepth 100000 in
theorem c_X8_write (l : Launch) (dd : Dd) (Y : Yc) (t : Ts3) (ad : Nat → Nat) (ij : Ij MG ad) (F : Nat) (a1 a2 : Int32) (D0 D' : Mm) (r0 : Int32) (h : P_X8_write (gN MG) F a1 a2 D0 = some (r0, D')) : Met l yX8_write wzX8_write rm_X8_write (va_Pc [.ref (ad 0), .int a1, .int a2] (Wd dd Y t MG ad D0)) (Qi dd Y MG ad .int r0 D') 0 0 (pA MG ad) := by
  refine Met.ofW (cc := cX8_write) (maxL := 5) (ret := (some .int)) (by decide) rfl ?_
  intro p e s m args below meth c s₁ B hml hv
  obtain ⟨rfl, hP, hK, hT⟩ := hv
  have hx := B.exec
  have hb := B.bytes
  have hr := B.returns
  have ht0 : ∀ w ∈ W0, w.before _ s = true := fun w h => atoms_spec (ws := wzX8_write) B.pre w (List.mem_cons_of_mem _ h)
  have hown : s.vm.findClass RX8 = some m.cls := findClass_of_methodNamed B.named
  have hlocks := B.notSynchronized
  have hS : va_S (pA MG ad) s.heap s.heap [] := va_S.rf
  have L34 : ∀ (n : Nat), ∀ (x1 x2 x3 x4 : Int32) (D : Mm) (H : Heap) (locs : List Loc) (ls : Array Slot), P_X8_write_34 (gN MG) F n x1 x2 x3 x4 D = some (r0, D') → va_P dd vwCl (wW Y MG ad D) H → va_S (pA MG ad) s.heap H locs → lv_has ls 5 [(0, .ref (ad 0)), (1, .int x1), (2, .int x2), (3, .int x3), (4, .int x4)] → W p l e (headSpec wzX8_write rm_X8_write).room s m ([.ref (ad 0), .int a1, .int a2].toArray) below meth c H locs 0 0 (MQ below (Qi dd Y MG ad .int r0 D') ([.ref (ad 0), .int a1, .int a2].toArray) s 0 0 (pA MG ad)) (F0 m 34 ls []) := by
    intro n
    induction n with
    | zero =>
      intro x1 x2 x3 x4 D H locs ls h hP hS hl
      cases h
    | succ n ih =>
      intro x1 x2 x3 x4 D H locs ls h hP hS hl
      have h : ((if 64 ≤ x4 then (bi (P_X8_writeBlock (gN MG) F x1 x2 D) (fun r2 D2 => some (r2, D2))) else (if x3 ≤ x4 then (if inB x4 ((gN MG) 8) = true then (P_X8_write_34 (gN MG) F n x1 x2 x3 (x4 + 1) (up2 D 8 (Int32.toNatClampNeg x4) 0)) else none) else (if inB x4 ((gN MG) 5) = true then (if inB x4 ((gN MG) 8) = true then (P_X8_write_34 (gN MG) F n x1 x2 x3 (x4 + 1) (up2 D 8 (Int32.toNatClampNeg x4) (D 5 (Int32.toNatClampNeg x4)))) else none) else none))) : Rs) = some (r0, D') := h
      refine lv_iload hx hb dX8_write_34 (lv_at hl 4 rfl) ?_
      refine lv_bipush (v := 64) hx hb dX8_write_36 (by decide) ?_
      refine lv_icmp_ge (tgt := 71) hx hb dX8_write_38 (by decide) (fun c1 => ?_) (fun c1 => ?_)
      · have h := x_t (show 64 ≤ x4 from c1) h
        refine lv_aload_n hx hb dX8_write_71 rfl (lv_at hl 0 rfl) ?_
        refine lv_iload_n hx hb dX8_write_72 rfl (lv_at hl 1 rfl) ?_
        refine lv_iload_n hx hb dX8_write_73 rfl (lv_at hl 2 rfl) ?_
        obtain ⟨r2, D2, hc2, h⟩ := bi_some h
        refine x_callVi (As := [.int x1, .int x2]) ⟨hx, hb, hml, hown, ht0⟩ hK hT hP hS (c_X8_writeBlock l dd Y t ad ij F x1 x2 _ _ _ hc2) m_ML_X8_150 sv_X8_writeBlock hd_X8_writeBlock rfl rfl ⟨Nat.le_of_ble_eq_true rfl, Nat.le_of_ble_eq_true rfl⟩ (mk_0).1 (ce8 (mk_0).2) rfl rfl hl.1 rfl (Nat.le_of_ble_eq_true rfl) dX8_write_74 ⟨Nat.zero_le _, Nat.zero_le _⟩ (fun H locs hn_r2 hP hS => ?_)
        exact x_iret hx hb hr hlocks rfl hP hS h dX8_write_77
      · have h := x_f (show ¬ (64 ≤ x4) from c1) h
        refine lv_aload_n hx hb dX8_write_41 rfl (lv_at hl 0 rfl) ?_
        refine x_get hx hb ht0 u_X8 hown hK hP (mk_0).1 (ce8 (mk_0).2) rfl 18 (by decide) (ht0 _ m_FL_X8_37) rfl (rfv (G := MG) (c := 0) (k := 18) (c' := 8) rfl) dX8_write_42 ?_
        refine lv_iload hx hb dX8_write_45 (lv_at hl 4 rfl) ?_
        refine lv_iload hx hb dX8_write_47 (lv_at hl 4 rfl) ?_
        refine lv_iload_n hx hb dX8_write_49 rfl (lv_at hl 3 rfl) ?_
        refine lv_icmp_ge (tgt := 63) hx hb dX8_write_50 (by decide) (fun c3 => ?_) (fun c3 => ?_)
        · have h := x_t (show x3 ≤ x4 from c3) h
          refine lv_iconst (v := 0) hx hb dX8_write_63 (by decide) ?_
          obtain ⟨b4, h⟩ := x_if h
          refine x_ast hx hb hK ij hP hS mk_8 b4 dX8_write_64 (fun H locs hP hS => ?_)
          refine lv_iinc (v := x4 + 1) (lv' := [(4, .int (x4 + 1)), (0, .ref (ad 0)), (1, .int x1), (2, .int x2), (3, .int x3)]) hx hb dX8_write_65 hl (k := 4) rfl rfl (by decide) rfl (fun ls hl => ?_)
          refine lv_goto (tgt := 34) hx hb dX8_write_68 (by decide) ?_
          exact ih x1 x2 x3 (x4 + 1) (up2 D 8 (Int32.toNatClampNeg x4) 0) _ _ _ h hP hS (lv_sub hl [1, 2, 3, 4, 0] rfl)
        · have h := x_f (show ¬ (x3 ≤ x4) from c3) h
          refine lv_aload_n hx hb dX8_write_53 rfl (lv_at hl 0 rfl) ?_
          refine x_get hx hb ht0 u_X8 hown hK hP (mk_0).1 (ce8 (mk_0).2) rfl 5 (by decide) (ht0 _ m_FL_X8_28) rfl (rfv (G := MG) (c := 0) (k := 5) (c' := 5) rfl) dX8_write_54 ?_
          refine lv_iload hx hb dX8_write_57 (lv_at hl 4 rfl) ?_
          obtain ⟨b5, h⟩ := x_if h
          refine x_ald hx hb hK hP mk_5 b5 dX8_write_59 ?_
          refine lv_goto (tgt := 64) hx hb dX8_write_60 (by decide) ?_
          obtain ⟨b6, h⟩ := x_if h
          refine x_ast hx hb hK ij hP hS mk_8 b6 dX8_write_64 (fun H locs hP hS => ?_)
          refine lv_iinc (v := x4 + 1) (lv' := [(4, .int (x4 + 1)), (0, .ref (ad 0)), (1, .int x1), (2, .int x2), (3, .int x3)]) hx hb dX8_write_65 hl (k := 4) rfl rfl (by decide) rfl (fun ls hl => ?_)
          refine lv_goto (tgt := 34) hx hb dX8_write_68 (by decide) ?_
          exact ih x1 x2 x3 (x4 + 1) (up2 D 8 (Int32.toNatClampNeg x4) (D 5 (Int32.toNatClampNeg x4))) _ _ _ h hP hS (lv_sub hl [1, 2, 3, 4, 0] rfl)
  have hl := lv_entry ([.ref (ad 0), .int a1, .int a2]) (n := 5) (Nat.le_of_ble_eq_true rfl)
  rw [lg_entry_eq]
  generalize (lg_sl ([.ref (ad 0), .int a1, .int a2]) ++ List.replicate (5 - (lg_sl ([.ref (ad 0), .int a1, .int a2])).length) Slot.unset).toArray = ls at hl ⊢
  have hl : lv_has ls 5 [(0, .ref (ad 0)), (1, .int a1), (2, .int a2)] := hl
  have hP : va_P dd vwCl (wW Y MG ad D0) s.heap := hP
  generalize D0 = D at h hP
  have h : ((if 0 ≤ ((up2 D 0 6 0) 0 4) then (bi (P_X8_isBlock (gN MG) F a1 a2 (up2 D 0 6 0)) (fun r8 D8 => if r8 = 0 then (some (66, D8)) else (P_X8_write_34 (gN MG) F F a1 a2 (D 0 6) 0 D8))) else (some (74, up2 D 0 6 0))) : Rs) = some (r0, D') := h
  refine lv_aload_n hx hb dX8_write_0 rfl (lv_at hl 0 rfl) ?_
  refine x_get hx hb ht0 u_X8 hown hK hP (mk_0).1 (ce8 (mk_0).2) rfl 6 (by decide) (ht0 _ m_FL_X8_172) rfl rfl dX8_write_1 ?_
  refine lv_istore_n (lv' := [(3, .int (D 0 6)), (0, .ref (ad 0)), (1, .int a1), (2, .int a2)]) hx hb dX8_write_4 rfl hl (by decide) rfl (fun ls hl => ?_)
  refine lv_aload_n hx hb dX8_write_5 rfl (lv_at hl 1 rfl) ?_
  refine lv_iconst (v := 0) hx hb dX8_write_6 (by decide) ?_
  refine x_put (ty := .int) hx hb ht0 u_X8 tyX8 tyX8_ok nmX8 hown hK ij hP hS (mk_0).1 (ce8 (mk_0).2) rfl 6 (by decide) (ht0 _ m_FL_X8_172) rfl rfl (by decide +kernel) rfl rfl (Nat.le_of_ble_eq_true rfl) (by rw [(mk_0).2]; rfl) dX8_write_7 (fun H locs hP hS => ?_)
  refine lv_aload_n hx hb dX8_write_10 rfl (lv_at hl 1 rfl) ?_
  refine x_get hx hb ht0 u_X8 hown hK hP (mk_0).1 (ce8 (mk_0).2) rfl 4 (by decide) (ht0 _ m_FL_X8_24) rfl rfl dX8_write_11 ?_
  refine lv_if_ge (tgt := 20) hx hb dX8_write_14 (by decide) (fun c7 => ?_) (fun c7 => ?_)
  · have h := x_t (show 0 ≤ ((up2 D 0 6 0) 0 4) from c7) h
    refine lv_iload_n hx hb dX8_write_20 rfl (lv_at hl 2 rfl) ?_
    refine lv_iload_n hx hb dX8_write_21 rfl (lv_at hl 3 rfl) ?_
    obtain ⟨r8, D8, hc8, h⟩ := bi_some h
    refine x_callSi (As := [.int a1, .int a2]) ⟨hx, hb, hml, hown, ht0⟩ hK hT hP hS (c_X8_isBlock l dd Y t ad ij F a1 a2 _ _ _ hc8) m_ML_X8_168 ss_X8_isBlock hd_X8_isBlock rfl rfl ⟨Nat.le_of_ble_eq_true rfl, Nat.le_of_ble_eq_true rfl⟩ rfl hl.1 rfl (Nat.le_of_ble_eq_true rfl) dX8_write_22 ⟨Nat.zero_le _, Nat.zero_le _⟩ (fun H locs hn_r8 hP hS => ?_)
    refine lv_if_ne (tgt := 31) hx hb dX8_write_25 (by decide) (fun c9 => ?_) (fun c9 => ?_)
    · have h := x_f (show ¬ (r8 = 0) from c9) h
      refine lv_iconst (v := 0) hx hb dX8_write_31 (by decide) ?_
      refine lv_istore (lv' := [(4, .int 0), (3, .int (D 0 6)), (0, .ref (ad 0)), (1, .int a1), (2, .int a2)]) hx hb dX8_write_32 hl (by decide) rfl (fun ls hl => ?_)
      exact L34 F a1 a2 (D 0 6) 0 D8 _ _ _ h hP hS (lv_sub hl [2, 3, 4, 1, 0] rfl)
    · have h := x_t (show r8 = 0 from c9) h
      refine lv_bipush (v := 66) hx hb dX8_write_28 (by decide) ?_
      exact x_iret hx hb hr hlocks rfl hP hS h dX8_write_30
  · have h := x_f (show ¬ (0 ≤ ((up2 D 0 6 0) 0 4)) from c7) h
    refine lv_bipush (v := 74) hx hb dX8_write_17 (by decide) ?_
    exact x_iret hx hb hr hlocks rfl hP hS h dX8_write_19
abbrev rm_X8_count : Room := { frames := 0, cells := 0, slots := 0, locals := 0 }
set_option maxHeartbeats 4000000 in
set_option maxRecDepth 100000 in
theorem c_X8_count (l : Launch) (dd : Dd) (Y : Yc) (t : Ts3) (ad : Nat → Nat) (ij : Ij MG ad) (F : Nat) (a1 : Int32) (D0 D' : Mm) (r0 : Int32) (h : P_X8_count (gN MG) F a1 D0 = some (r0, D')) : Met l yX8_count wzX8_count rm_X8_count (va_Pc [.ref (ad 0), .int a1] (Wd dd Y t MG ad D0)) (Qi dd Y MG ad .int r0 D') 0 0 (pA MG ad) := by
  refine Met.ofW (cc := cX8_count) (maxL := 2) (ret := (some .int)) (by decide) rfl ?_
  intro p e s m args below meth c s₁ B hml hv
  obtain ⟨rfl, hP, hK, hT⟩ := hv
  have hx := B.exec
  have hb := B.bytes
  have hr := B.returns
  have ht0 : ∀ w ∈ W0, w.before _ s = true := fun w h => atoms_spec (ws := wzX8_count) B.pre w (List.mem_cons_of_mem _ h)
  have hown : s.vm.findClass RX8 = some m.cls := findClass_of_methodNamed B.named
  have hlocks := B.notSynchronized
  have hS : va_S (pA MG ad) s.heap s.heap [] := va_S.rf
  have hl := lv_entry ([.ref (ad 0), .int a1]) (n := 2) (Nat.le_of_ble_eq_true rfl)
  rw [lg_entry_eq]
  generalize (lg_sl ([.ref (ad 0), .int a1]) ++ List.replicate (2 - (lg_sl ([.ref (ad 0), .int a1])).length) Slot.unset).toArray = ls at hl ⊢
  have hl : lv_has ls 2 [(0, .ref (ad 0)), (1, .int a1)] := hl
  have hP : va_P dd vwCl (wW Y MG ad D0) s.heap := hP
  generalize D0 = D at h hP
  have h : ((if a1 = 0 then (some (D 0 12, D)) else (if a1 = 1 then (some (D 0 13, D)) else (if a1 = 2 then (some (D 0 14, D)) else (if a1 = 3 then (some (D 0 6, D)) else (some ((-1), D)))))) : Rs) = some (r0, D') := h
  refine lv_iload_n hx hb dX8_count_0 rfl (lv_at hl 1 rfl) ?_
  by_cases c1 : a1 = 0
  · have h := x_t c1 h
    refine lv_tableIn (tgt := 32) hx hb dX8_count_1 (by rw [c1]; decide) (by rw [c1]; decide) (by rw [c1]; rfl) (by decide) ?_
    refine lv_aload_n hx hb dX8_count_32 rfl (lv_at hl 0 rfl) ?_
    refine x_get hx hb ht0 u_X8 hown hK hP (mk_0).1 (ce8 (mk_0).2) rfl 12 (by decide) (ht0 _ m_FL_X8_122) rfl rfl dX8_count_33 ?_
    exact x_iret hx hb hr hlocks rfl hP hS h dX8_count_36
  have h := x_f c1 h
  by_cases c2 : a1 = 1
  · have h := x_t c2 h
    refine lv_tableIn (tgt := 37) hx hb dX8_count_1 (by rw [c2]; decide) (by rw [c2]; decide) (by rw [c2]; rfl) (by decide) ?_
    refine lv_aload_n hx hb dX8_count_37 rfl (lv_at hl 0 rfl) ?_
    refine x_get hx hb ht0 u_X8 hown hK hP (mk_0).1 (ce8 (mk_0).2) rfl 13 (by decide) (ht0 _ m_FL_X8_131) rfl rfl dX8_count_38 ?_
    exact x_iret hx hb hr hlocks rfl hP hS h dX8_count_41
  have h := x_f c2 h
  by_cases c3 : a1 = 2
  · have h := x_t c3 h
    refine lv_tableIn (tgt := 42) hx hb dX8_count_1 (by rw [c3]; decide) (by rw [c3]; decide) (by rw [c3]; rfl) (by decide) ?_
    refine lv_aload_n hx hb dX8_count_42 rfl (lv_at hl 0 rfl) ?_
    refine x_get hx hb ht0 u_X8 hown hK hP (mk_0).1 (ce8 (mk_0).2) rfl 14 (by decide) (ht0 _ m_FL_X8_125) rfl rfl dX8_count_43 ?_
    exact x_iret hx hb hr hlocks rfl hP hS h dX8_count_46
  have h := x_f c3 h
  by_cases c4 : a1 = 3
  · have h := x_t c4 h
    refine lv_tableIn (tgt := 47) hx hb dX8_count_1 (by rw [c4]; decide) (by rw [c4]; decide) (by rw [c4]; rfl) (by decide) ?_
    refine lv_aload_n hx hb dX8_count_47 rfl (lv_at hl 0 rfl) ?_
    refine x_get hx hb ht0 u_X8 hown hK hP (mk_0).1 (ce8 (mk_0).2) rfl 6 (by decide) (ht0 _ m_FL_X8_172) rfl rfl dX8_count_48 ?_
    exact x_iret hx hb hr hlocks rfl hP hS h dX8_count_51
  have h := x_f c4 h
  have ec1 : (a1).toInt ≠ 0 := x_sw c1
  have ec2 : (a1).toInt ≠ 1 := x_sw c2
  have ec3 : (a1).toInt ≠ 2 := x_sw c3
  have ec4 : (a1).toInt ≠ 3 := x_sw c4
  refine lv_tableOut (tgt := 52) hx hb dX8_count_1 (by omega) (by decide) ?_
  refine lv_iconst (v := (-1)) hx hb dX8_count_52 (by decide) ?_
  exact x_iret hx hb hr hlocks rfl hP hS h dX8_count_53
