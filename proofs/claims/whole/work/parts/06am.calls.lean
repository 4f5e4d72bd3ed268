abbrev rm_X8_writeFile : Room := { frames := 7, cells := 0, slots := 0, locals := 162 }
set_option maxHeartbeats 4000000 in
set_option maxRecDepth 100000 in
theorem c_X8_writeFile (l : Launch) (dd : Dd) (Y : Yc) (t : Ts3) (ad : Nat → Nat) (ij : Ij MG ad) (F : Nat) (a1 : Int32) (D0 D' : Mm) (r0 : Int32) (h : P_X8_writeFile (gN MG) F a1 D0 = some (r0, D')) : Met l yX8_writeFile wzX8_writeFile rm_X8_writeFile (va_Pc [.ref (ad 0), .int a1] (Wd dd Y t MG ad D0)) (Qi dd Y MG ad .boolean r0 D') 0 0 (pA MG ad) := by
  refine Met.ofW (cc := cX8_writeFile) (maxL := 6) (ret := (some .boolean)) (by decide) rfl ?_
  intro p e s m args below meth c s₁ B hml hv
  obtain ⟨rfl, hP, hK, hT⟩ := hv
  have hx := B.exec
  have hb := B.bytes
  have hr := B.returns
  have ht0 : ∀ w ∈ W0, w.before _ s = true := fun w h => atoms_spec (ws := wzX8_writeFile) B.pre w (List.mem_cons_of_mem _ h)
  have hown : s.vm.findClass RX8 = some m.cls := findClass_of_methodNamed B.named
  have hlocks := B.notSynchronized
  have hS : va_S (pA MG ad) s.heap s.heap [] := va_S.rf
  have L121 : ∀ (k2 : Int32 → Int32 → Mm → Rs) (hk2 : ∀ (x1 x2 : Int32) (D : Mm) (H : Heap) (locs : List Loc) (ls : Array Slot), k2 x1 x2 D = some (r0, D') → va_P dd vwCl (wW Y MG ad D) H → va_S (pA MG ad) s.heap H locs → lv_has ls 6 [(0, .ref (ad 0)), (1, .int x1), (2, .int x2)] → W p l e (headSpec wzX8_writeFile rm_X8_writeFile).room s m ([.ref (ad 0), .int a1].toArray) below meth c H locs 0 0 (MQ below (Qi dd Y MG ad .boolean r0 D') ([.ref (ad 0), .int a1].toArray) s 0 0 (pA MG ad)) (F0 m 2 ls [])) (k82 : Int32 → Int32 → Int32 → Int32 → Mm → Rs) (hk82 : ∀ (x1 x2 x4 x5 : Int32) (D : Mm) (H : Heap) (locs : List Loc) (ls : Array Slot), k82 x1 x2 x4 x5 D = some (r0, D') → va_P dd vwCl (wW Y MG ad D) H → va_S (pA MG ad) s.heap H locs → lv_has ls 6 [(0, .ref (ad 0)), (1, .int x1), (2, .int x2), (4, .int x4), (5, .int x5)] → W p l e (headSpec wzX8_writeFile rm_X8_writeFile).room s m ([.ref (ad 0), .int a1].toArray) below meth c H locs 0 0 (MQ below (Qi dd Y MG ad .boolean r0 D') ([.ref (ad 0), .int a1].toArray) s 0 0 (pA MG ad)) (F0 m 82 ls [])), ∀ (x1 x2 x4 x5 : Int32) (D : Mm) (H : Heap) (locs : List Loc) (ls : Array Slot), P_X8_writeFile_121 (gN MG) F k2 k82 x1 x2 x4 x5 D = some (r0, D') → va_P dd vwCl (wW Y MG ad D) H → va_S (pA MG ad) s.heap H locs → lv_has ls 6 [(0, .ref (ad 0)), (1, .int x1), (2, .int x2), (4, .int x4), (5, .int x5)] → W p l e (headSpec wzX8_writeFile rm_X8_writeFile).room s m ([.ref (ad 0), .int a1].toArray) below meth c H locs 0 0 (MQ below (Qi dd Y MG ad .boolean r0 D') ([.ref (ad 0), .int a1].toArray) s 0 0 (pA MG ad)) (F0 m 121 ls []) := by
    intro k2 hk2 k82 hk82 x1 x2 x4 x5 D H locs ls h hP hS hl
    have h : ((k82 x1 x2 x4 (x5 + 1) D) : Rs) = some (r0, D') := h
    refine lv_iinc (v := x5 + 1) (lv' := [(5, .int (x5 + 1)), (0, .ref (ad 0)), (1, .int x1), (2, .int x2), (4, .int x4)]) hx hb dX8_writeFile_121 hl (k := 4) rfl rfl (by decide) rfl (fun ls hl => ?_)
    refine lv_goto (tgt := 82) hx hb dX8_writeFile_124 (by decide) ?_
    exact hk82 x1 x2 x4 (x5 + 1) D _ _ _ h hP hS (lv_sub hl [1, 2, 3, 4, 0] rfl)
  have L82 : ∀ (k2 : Int32 → Int32 → Mm → Rs) (hk2 : ∀ (x1 x2 : Int32) (D : Mm) (H : Heap) (locs : List Loc) (ls : Array Slot), k2 x1 x2 D = some (r0, D') → va_P dd vwCl (wW Y MG ad D) H → va_S (pA MG ad) s.heap H locs → lv_has ls 6 [(0, .ref (ad 0)), (1, .int x1), (2, .int x2)] → W p l e (headSpec wzX8_writeFile rm_X8_writeFile).room s m ([.ref (ad 0), .int a1].toArray) below meth c H locs 0 0 (MQ below (Qi dd Y MG ad .boolean r0 D') ([.ref (ad 0), .int a1].toArray) s 0 0 (pA MG ad)) (F0 m 2 ls [])), ∀ (n : Nat), ∀ (x1 x2 x4 x5 : Int32) (D : Mm) (H : Heap) (locs : List Loc) (ls : Array Slot), P_X8_writeFile_82 (gN MG) F k2 n x1 x2 x4 x5 D = some (r0, D') → va_P dd vwCl (wW Y MG ad D) H → va_S (pA MG ad) s.heap H locs → lv_has ls 6 [(0, .ref (ad 0)), (1, .int x1), (2, .int x2), (4, .int x4), (5, .int x5)] → W p l e (headSpec wzX8_writeFile rm_X8_writeFile).room s m ([.ref (ad 0), .int a1].toArray) below meth c H locs 0 0 (MQ below (Qi dd Y MG ad .boolean r0 D') ([.ref (ad 0), .int a1].toArray) s 0 0 (pA MG ad)) (F0 m 82 ls []) := by
    intro k2 hk2 n
    induction n with
    | zero =>
      intro x1 x2 x4 x5 D H locs ls h hP hS hl
      cases h
    | succ n ih =>
      intro x1 x2 x4 x5 D H locs ls h hP hS hl
      have h : ((if 62 ≤ x5 then (if inB x2 ((gN MG) 13) = true then (if inB x2 ((gN MG) 14) = true then (bi (P_X8_writeBlock (gN MG) F (D 13 (Int32.toNatClampNeg x2)) (D 14 (Int32.toNatClampNeg x2)) D) (fun r4 D4 => if r4 ≤ 0 then (k2 x1 (x2 + 1) D4) else (if inB x2 ((gN MG) 13) = true then (if inB x2 ((gN MG) 14) = true then (bi (P_X8_ends (gN MG) F r4 (D4 13 (Int32.toNatClampNeg x2)) (D4 14 (Int32.toNatClampNeg x2)) D4) (fun r8 D8 => if r8 = 0 then (some (1, D8)) else (some (0, D8)))) else none) else none))) else none) else none) else (if x4 ≤ x5 then (if inB (2 + x5) ((gN MG) 8) = true then (P_X8_writeFile_121 (gN MG) F k2 (fun x1 x2 x4 x5 D => P_X8_writeFile_82 (gN MG) F k2 n x1 x2 x4 x5 D) x1 x2 x4 x5 (up2 D 8 (Int32.toNatClampNeg (2 + x5)) 0)) else none) else (if inB ((62 * x2) + x5) ((gN MG) 5) = true then (if inB (2 + x5) ((gN MG) 8) = true then (P_X8_writeFile_121 (gN MG) F k2 (fun x1 x2 x4 x5 D => P_X8_writeFile_82 (gN MG) F k2 n x1 x2 x4 x5 D) x1 x2 x4 x5 (up2 D 8 (Int32.toNatClampNeg (2 + x5)) (D 5 (Int32.toNatClampNeg ((62 * x2) + x5))))) else none) else none))) : Rs) = some (r0, D') := h
      refine lv_iload hx hb dX8_writeFile_82 (lv_at hl 4 rfl) ?_
      refine lv_bipush (v := 62) hx hb dX8_writeFile_84 (by decide) ?_
      refine lv_icmp_ge (tgt := 127) hx hb dX8_writeFile_86 (by decide) (fun c1 => ?_) (fun c1 => ?_)
      · have h := x_t (show 62 ≤ x5 from c1) h
        refine lv_aload_n hx hb dX8_writeFile_127 rfl (lv_at hl 0 rfl) ?_
        refine lv_aload_n hx hb dX8_writeFile_128 rfl (lv_at hl 0 rfl) ?_
        refine x_get hx hb ht0 u_X8 hown hK hP (mk_0).1 (ce8 (mk_0).2) rfl 26 (by decide) (ht0 _ m_FL_X8_52) rfl (rfv (G := MG) (c := 0) (k := 26) (c' := 13) rfl) dX8_writeFile_129 ?_
        refine lv_iload_n hx hb dX8_writeFile_132 rfl (lv_at hl 2 rfl) ?_
        obtain ⟨b2, h⟩ := x_if h
        refine x_ald hx hb hK hP mk_13 b2 dX8_writeFile_133 ?_
        refine lv_aload_n hx hb dX8_writeFile_134 rfl (lv_at hl 0 rfl) ?_
        refine x_get hx hb ht0 u_X8 hown hK hP (mk_0).1 (ce8 (mk_0).2) rfl 27 (by decide) (ht0 _ m_FL_X8_55) rfl (rfv (G := MG) (c := 0) (k := 27) (c' := 14) rfl) dX8_writeFile_135 ?_
        refine lv_iload_n hx hb dX8_writeFile_138 rfl (lv_at hl 2 rfl) ?_
        obtain ⟨b3, h⟩ := x_if h
        refine x_ald hx hb hK hP mk_14 b3 dX8_writeFile_139 ?_
        obtain ⟨r4, D4, hc4, h⟩ := bi_some h
        refine x_callVi (As := [.int (D 13 (Int32.toNatClampNeg x2)), .int (D 14 (Int32.toNatClampNeg x2))]) ⟨hx, hb, hml, hown, ht0⟩ hK hT hP hS (c_X8_writeBlock l dd Y t ad ij F (D 13 (Int32.toNatClampNeg x2)) (D 14 (Int32.toNatClampNeg x2)) _ _ _ hc4) m_ML_X8_150 sv_X8_writeBlock hd_X8_writeBlock rfl rfl ⟨Nat.le_of_ble_eq_true rfl, Nat.le_of_ble_eq_true rfl⟩ (mk_0).1 (ce8 (mk_0).2) rfl rfl hl.1 rfl (Nat.le_of_ble_eq_true rfl) dX8_writeFile_140 ⟨Nat.zero_le _, Nat.zero_le _⟩ (fun H locs hn_r4 hP hS => ?_)
        refine lv_istore (lv' := [(5, .int r4), (0, .ref (ad 0)), (1, .int x1), (2, .int x2), (4, .int x4)]) hx hb dX8_writeFile_143 hl (by decide) rfl (fun ls hl => ?_)
        refine lv_iload hx hb dX8_writeFile_145 (lv_at hl 0 rfl) ?_
        refine lv_if_le (tgt := 177) hx hb dX8_writeFile_147 (by decide) (fun c5 => ?_) (fun c5 => ?_)
        · have h := x_t (show r4 ≤ 0 from c5) h
          refine lv_iinc (v := x2 + 1) (lv' := [(2, .int (x2 + 1)), (5, .int r4), (0, .ref (ad 0)), (1, .int x1), (4, .int x4)]) hx hb dX8_writeFile_177 hl (k := 3) rfl rfl (by decide) rfl (fun ls hl => ?_)
          refine lv_goto (tgt := 2) hx hb dX8_writeFile_180 (by decide) ?_
          exact hk2 x1 (x2 + 1) D4 _ _ _ h hP hS (lv_sub hl [2, 3, 0] rfl)
        · have h := x_f (show ¬ (r4 ≤ 0) from c5) h
          refine lv_aload_n hx hb dX8_writeFile_150 rfl (lv_at hl 1 rfl) ?_
          refine lv_iload hx hb dX8_writeFile_151 (lv_at hl 0 rfl) ?_
          refine lv_aload_n hx hb dX8_writeFile_153 rfl (lv_at hl 1 rfl) ?_
          refine x_get hx hb ht0 u_X8 hown hK hP (mk_0).1 (ce8 (mk_0).2) rfl 26 (by decide) (ht0 _ m_FL_X8_52) rfl (rfv (G := MG) (c := 0) (k := 26) (c' := 13) rfl) dX8_writeFile_154 ?_
          refine lv_iload_n hx hb dX8_writeFile_157 rfl (lv_at hl 3 rfl) ?_
          obtain ⟨b6, h⟩ := x_if h
          refine x_ald hx hb hK hP mk_13 b6 dX8_writeFile_158 ?_
          refine lv_aload_n hx hb dX8_writeFile_159 rfl (lv_at hl 1 rfl) ?_
          refine x_get hx hb ht0 u_X8 hown hK hP (mk_0).1 (ce8 (mk_0).2) rfl 27 (by decide) (ht0 _ m_FL_X8_55) rfl (rfv (G := MG) (c := 0) (k := 27) (c' := 14) rfl) dX8_writeFile_160 ?_
          refine lv_iload_n hx hb dX8_writeFile_163 rfl (lv_at hl 3 rfl) ?_
          obtain ⟨b7, h⟩ := x_if h
          refine x_ald hx hb hK hP mk_14 b7 dX8_writeFile_164 ?_
          obtain ⟨r8, D8, hc8, h⟩ := bi_some h
          refine x_callVi (As := [.int r4, .int (D4 13 (Int32.toNatClampNeg x2)), .int (D4 14 (Int32.toNatClampNeg x2))]) ⟨hx, hb, hml, hown, ht0⟩ hK hT hP hS (c_X8_ends l dd Y t ad ij F r4 (D4 13 (Int32.toNatClampNeg x2)) (D4 14 (Int32.toNatClampNeg x2)) _ _ _ hc8) m_ML_X8_143 sv_X8_ends hd_X8_ends rfl rfl ⟨Nat.le_of_ble_eq_true rfl, Nat.le_of_ble_eq_true rfl⟩ (mk_0).1 (ce8 (mk_0).2) rfl rfl hl.1 rfl (Nat.le_of_ble_eq_true rfl) dX8_writeFile_165 ⟨Nat.zero_le _, Nat.zero_le _⟩ (fun H locs hn_r8 hP hS => ?_)
          refine lv_if_ne (tgt := 175) hx hb dX8_writeFile_168 (by decide) (fun c9 => ?_) (fun c9 => ?_)
          · have h := x_f (show ¬ (r8 = 0) from c9) h
            refine lv_iconst (v := 0) hx hb dX8_writeFile_175 (by decide) ?_
            exact x_iret hx hb hr hlocks rfl hP hS h dX8_writeFile_176
          · have h := x_t (show r8 = 0 from c9) h
            refine lv_iconst (v := 1) hx hb dX8_writeFile_171 (by decide) ?_
            refine lv_goto (tgt := 176) hx hb dX8_writeFile_172 (by decide) ?_
            exact x_iret hx hb hr hlocks rfl hP hS h dX8_writeFile_176
      · have h := x_f (show ¬ (62 ≤ x5) from c1) h
        refine lv_aload_n hx hb dX8_writeFile_89 rfl (lv_at hl 0 rfl) ?_
        refine x_get hx hb ht0 u_X8 hown hK hP (mk_0).1 (ce8 (mk_0).2) rfl 18 (by decide) (ht0 _ m_FL_X8_37) rfl (rfv (G := MG) (c := 0) (k := 18) (c' := 8) rfl) dX8_writeFile_90 ?_
        refine lv_iconst (v := 2) hx hb dX8_writeFile_93 (by decide) ?_
        refine lv_iload hx hb dX8_writeFile_94 (lv_at hl 4 rfl) ?_
        refine lv_iadd hx hb dX8_writeFile_96 ?_
        refine lv_iload hx hb dX8_writeFile_97 (lv_at hl 4 rfl) ?_
        refine lv_iload hx hb dX8_writeFile_99 (lv_at hl 3 rfl) ?_
        refine lv_icmp_ge (tgt := 119) hx hb dX8_writeFile_101 (by decide) (fun c10 => ?_) (fun c10 => ?_)
        · have h := x_t (show x4 ≤ x5 from c10) h
          refine lv_iconst (v := 0) hx hb dX8_writeFile_119 (by decide) ?_
          obtain ⟨b11, h⟩ := x_if h
          refine x_ast hx hb hK ij hP hS mk_8 b11 dX8_writeFile_120 (fun H locs hP hS => ?_)
          exact L121 k2 hk2 (fun x1 x2 x4 x5 D => P_X8_writeFile_82 (gN MG) F k2 n x1 x2 x4 x5 D) ih x1 x2 x4 x5 (up2 D 8 (Int32.toNatClampNeg (2 + x5)) 0) _ _ _ h hP hS (lv_sub hl [0, 1, 2, 3, 4] rfl)
        · have h := x_f (show ¬ (x4 ≤ x5) from c10) h
          refine lv_aload_n hx hb dX8_writeFile_104 rfl (lv_at hl 0 rfl) ?_
          refine x_get hx hb ht0 u_X8 hown hK hP (mk_0).1 (ce8 (mk_0).2) rfl 5 (by decide) (ht0 _ m_FL_X8_28) rfl (rfv (G := MG) (c := 0) (k := 5) (c' := 5) rfl) dX8_writeFile_105 ?_
          refine lv_bipush (v := 62) hx hb dX8_writeFile_108 (by decide) ?_
          refine lv_iload_n hx hb dX8_writeFile_110 rfl (lv_at hl 2 rfl) ?_
          refine lv_imul hx hb dX8_writeFile_111 ?_
          refine lv_iload hx hb dX8_writeFile_112 (lv_at hl 4 rfl) ?_
          refine lv_iadd hx hb dX8_writeFile_114 ?_
          obtain ⟨b12, h⟩ := x_if h
          refine x_ald hx hb hK hP mk_5 b12 dX8_writeFile_115 ?_
          refine lv_goto (tgt := 120) hx hb dX8_writeFile_116 (by decide) ?_
          obtain ⟨b13, h⟩ := x_if h
          refine x_ast hx hb hK ij hP hS mk_8 b13 dX8_writeFile_120 (fun H locs hP hS => ?_)
          exact L121 k2 hk2 (fun x1 x2 x4 x5 D => P_X8_writeFile_82 (gN MG) F k2 n x1 x2 x4 x5 D) ih x1 x2 x4 x5 (up2 D 8 (Int32.toNatClampNeg (2 + x5)) (D 5 (Int32.toNatClampNeg ((62 * x2) + x5)))) _ _ _ h hP hS (lv_sub hl [0, 1, 2, 3, 4] rfl)
  have L79 : ∀ (k2 : Int32 → Int32 → Mm → Rs) (hk2 : ∀ (x1 x2 : Int32) (D : Mm) (H : Heap) (locs : List Loc) (ls : Array Slot), k2 x1 x2 D = some (r0, D') → va_P dd vwCl (wW Y MG ad D) H → va_S (pA MG ad) s.heap H locs → lv_has ls 6 [(0, .ref (ad 0)), (1, .int x1), (2, .int x2)] → W p l e (headSpec wzX8_writeFile rm_X8_writeFile).room s m ([.ref (ad 0), .int a1].toArray) below meth c H locs 0 0 (MQ below (Qi dd Y MG ad .boolean r0 D') ([.ref (ad 0), .int a1].toArray) s 0 0 (pA MG ad)) (F0 m 2 ls [])), ∀ (x1 x2 x4 : Int32) (D : Mm) (H : Heap) (locs : List Loc) (ls : Array Slot), P_X8_writeFile_79 (gN MG) F k2 x1 x2 x4 D = some (r0, D') → va_P dd vwCl (wW Y MG ad D) H → va_S (pA MG ad) s.heap H locs → lv_has ls 6 [(0, .ref (ad 0)), (1, .int x1), (2, .int x2), (4, .int x4)] → W p l e (headSpec wzX8_writeFile rm_X8_writeFile).room s m ([.ref (ad 0), .int a1].toArray) below meth c H locs 0 0 (MQ below (Qi dd Y MG ad .boolean r0 D') ([.ref (ad 0), .int a1].toArray) s 0 0 (pA MG ad)) (F0 m 79 ls []) := by
    intro k2 hk2 x1 x2 x4 D H locs ls h hP hS hl
    have h : ((P_X8_writeFile_82 (gN MG) F k2 F x1 x2 x4 0 D) : Rs) = some (r0, D') := h
    refine lv_iconst (v := 0) hx hb dX8_writeFile_79 (by decide) ?_
    refine lv_istore (lv' := [(5, .int 0), (0, .ref (ad 0)), (1, .int x1), (2, .int x2), (4, .int x4)]) hx hb dX8_writeFile_80 hl (by decide) rfl (fun ls hl => ?_)
    exact L82 k2 hk2 F x1 x2 x4 0 D _ _ _ h hP hS (lv_sub hl [1, 2, 3, 4, 0] rfl)
  have L25 : ∀ (k2 : Int32 → Int32 → Mm → Rs) (hk2 : ∀ (x1 x2 : Int32) (D : Mm) (H : Heap) (locs : List Loc) (ls : Array Slot), k2 x1 x2 D = some (r0, D') → va_P dd vwCl (wW Y MG ad D) H → va_S (pA MG ad) s.heap H locs → lv_has ls 6 [(0, .ref (ad 0)), (1, .int x1), (2, .int x2)] → W p l e (headSpec wzX8_writeFile rm_X8_writeFile).room s m ([.ref (ad 0), .int a1].toArray) below meth c H locs 0 0 (MQ below (Qi dd Y MG ad .boolean r0 D') ([.ref (ad 0), .int a1].toArray) s 0 0 (pA MG ad)) (F0 m 2 ls [])), ∀ (x1 x2 s0 : Int32) (D : Mm) (H : Heap) (locs : List Loc) (ls : Array Slot), P_X8_writeFile_25 (gN MG) F k2 x1 x2 s0 D = some (r0, D') → va_P dd vwCl (wW Y MG ad D) H → va_S (pA MG ad) s.heap H locs → lv_has ls 6 [(0, .ref (ad 0)), (1, .int x1), (2, .int x2)] → W p l e (headSpec wzX8_writeFile rm_X8_writeFile).room s m ([.ref (ad 0), .int a1].toArray) below meth c H locs 0 0 (MQ below (Qi dd Y MG ad .boolean r0 D') ([.ref (ad 0), .int a1].toArray) s 0 0 (pA MG ad)) (F0 m 25 ls [.int s0]) := by
    intro k2 hk2 x1 x2 s0 D H locs ls h hP hS hl
    have h : ((if s0 = 0 then (if inB (x2 + 1) ((gN MG) 13) = true then (if inB 0 ((gN MG) 8) = true then (if s0 = 0 then (if inB (x2 + 1) ((gN MG) 14) = true then (if inB 1 ((gN MG) 8) = true then (P_X8_writeFile_79 (gN MG) F k2 x1 x2 (x1 - (62 * x2)) (up2 (up2 D 8 (Int32.toNatClampNeg 0) (D 13 (Int32.toNatClampNeg (x2 + 1)))) 8 (Int32.toNatClampNeg 1) ((up2 D 8 (Int32.toNatClampNeg 0) (D 13 (Int32.toNatClampNeg (x2 + 1)))) 14 (Int32.toNatClampNeg (x2 + 1))))) else none) else none) else (if inB 1 ((gN MG) 8) = true then (P_X8_writeFile_79 (gN MG) F k2 x1 x2 (x1 - (62 * x2)) (up2 (up2 D 8 (Int32.toNatClampNeg 0) (D 13 (Int32.toNatClampNeg (x2 + 1)))) 8 (Int32.toNatClampNeg 1) (x1 - (62 * x2)))) else none)) else none) else none) else (if inB 0 ((gN MG) 8) = true then (if s0 = 0 then (if inB (x2 + 1) ((gN MG) 14) = true then (if inB 1 ((gN MG) 8) = true then (P_X8_writeFile_79 (gN MG) F k2 x1 x2 (x1 - (62 * x2)) (up2 (up2 D 8 (Int32.toNatClampNeg 0) 0) 8 (Int32.toNatClampNeg 1) ((up2 D 8 (Int32.toNatClampNeg 0) 0) 14 (Int32.toNatClampNeg (x2 + 1))))) else none) else none) else (if inB 1 ((gN MG) 8) = true then (P_X8_writeFile_79 (gN MG) F k2 x1 x2 (x1 - (62 * x2)) (up2 (up2 D 8 (Int32.toNatClampNeg 0) 0) 8 (Int32.toNatClampNeg 1) (x1 - (62 * x2)))) else none)) else none)) : Rs) = some (r0, D') := h
    refine lv_istore_n (lv' := [(3, .int s0), (0, .ref (ad 0)), (1, .int x1), (2, .int x2)]) hx hb dX8_writeFile_25 rfl hl (by decide) rfl (fun ls hl => ?_)
    refine lv_iload_n hx hb dX8_writeFile_26 rfl (lv_at hl 2 rfl) ?_
    refine lv_bipush (v := 62) hx hb dX8_writeFile_27 (by decide) ?_
    refine lv_iload_n hx hb dX8_writeFile_29 rfl (lv_at hl 3 rfl) ?_
    refine lv_imul hx hb dX8_writeFile_30 ?_
    refine lv_isub hx hb dX8_writeFile_31 ?_
    refine lv_istore (lv' := [(4, .int (x1 - (62 * x2))), (3, .int s0), (0, .ref (ad 0)), (1, .int x1), (2, .int x2)]) hx hb dX8_writeFile_32 hl (by decide) rfl (fun ls hl => ?_)
    refine lv_aload_n hx hb dX8_writeFile_34 rfl (lv_at hl 2 rfl) ?_
    refine x_get hx hb ht0 u_X8 hown hK hP (mk_0).1 (ce8 (mk_0).2) rfl 18 (by decide) (ht0 _ m_FL_X8_37) rfl (rfv (G := MG) (c := 0) (k := 18) (c' := 8) rfl) dX8_writeFile_35 ?_
    refine lv_iconst (v := 0) hx hb dX8_writeFile_38 (by decide) ?_
    refine lv_iload_n hx hb dX8_writeFile_39 rfl (lv_at hl 1 rfl) ?_
    refine lv_if_eq (tgt := 47) hx hb dX8_writeFile_40 (by decide) (fun c14 => ?_) (fun c14 => ?_)
    · have h := x_t (show s0 = 0 from c14) h
      refine lv_aload_n hx hb dX8_writeFile_47 rfl (lv_at hl 2 rfl) ?_
      refine x_get hx hb ht0 u_X8 hown hK hP (mk_0).1 (ce8 (mk_0).2) rfl 26 (by decide) (ht0 _ m_FL_X8_52) rfl (rfv (G := MG) (c := 0) (k := 26) (c' := 13) rfl) dX8_writeFile_48 ?_
      refine lv_iload_n hx hb dX8_writeFile_51 rfl (lv_at hl 4 rfl) ?_
      refine lv_iconst (v := 1) hx hb dX8_writeFile_52 (by decide) ?_
      refine lv_iadd hx hb dX8_writeFile_53 ?_
      obtain ⟨b15, h⟩ := x_if h
      refine x_ald hx hb hK hP mk_13 b15 dX8_writeFile_54 ?_
      obtain ⟨b16, h⟩ := x_if h
      refine x_ast hx hb hK ij hP hS mk_8 b16 dX8_writeFile_55 (fun H locs hP hS => ?_)
      refine lv_aload_n hx hb dX8_writeFile_56 rfl (lv_at hl 2 rfl) ?_
      refine x_get hx hb ht0 u_X8 hown hK hP (mk_0).1 (ce8 (mk_0).2) rfl 18 (by decide) (ht0 _ m_FL_X8_37) rfl (rfv (G := MG) (c := 0) (k := 18) (c' := 8) rfl) dX8_writeFile_57 ?_
      refine lv_iconst (v := 1) hx hb dX8_writeFile_60 (by decide) ?_
      refine lv_iload_n hx hb dX8_writeFile_61 rfl (lv_at hl 1 rfl) ?_
      refine lv_if_eq (tgt := 70) hx hb dX8_writeFile_62 (by decide) (fun c17 => ?_) (fun c17 => ?_)
      · have h := x_t (show s0 = 0 from c17) h
        refine lv_aload_n hx hb dX8_writeFile_70 rfl (lv_at hl 2 rfl) ?_
        refine x_get hx hb ht0 u_X8 hown hK hP (mk_0).1 (ce8 (mk_0).2) rfl 27 (by decide) (ht0 _ m_FL_X8_55) rfl (rfv (G := MG) (c := 0) (k := 27) (c' := 14) rfl) dX8_writeFile_71 ?_
        refine lv_iload_n hx hb dX8_writeFile_74 rfl (lv_at hl 4 rfl) ?_
        refine lv_iconst (v := 1) hx hb dX8_writeFile_75 (by decide) ?_
        refine lv_iadd hx hb dX8_writeFile_76 ?_
        obtain ⟨b18, h⟩ := x_if h
        refine x_ald hx hb hK hP mk_14 b18 dX8_writeFile_77 ?_
        obtain ⟨b19, h⟩ := x_if h
        refine x_ast hx hb hK ij hP hS mk_8 b19 dX8_writeFile_78 (fun H locs hP hS => ?_)
        exact L79 k2 hk2 x1 x2 (x1 - (62 * x2)) (up2 (up2 D 8 (Int32.toNatClampNeg 0) (D 13 (Int32.toNatClampNeg (x2 + 1)))) 8 (Int32.toNatClampNeg 1) ((up2 D 8 (Int32.toNatClampNeg 0) (D 13 (Int32.toNatClampNeg (x2 + 1)))) 14 (Int32.toNatClampNeg (x2 + 1)))) _ _ _ h hP hS (lv_sub hl [2, 3, 4, 0] rfl)
      · have h := x_f (show ¬ (s0 = 0) from c17) h
        refine lv_iload hx hb dX8_writeFile_65 (lv_at hl 0 rfl) ?_
        refine lv_goto (tgt := 78) hx hb dX8_writeFile_67 (by decide) ?_
        obtain ⟨b20, h⟩ := x_if h
        refine x_ast hx hb hK ij hP hS mk_8 b20 dX8_writeFile_78 (fun H locs hP hS => ?_)
        exact L79 k2 hk2 x1 x2 (x1 - (62 * x2)) (up2 (up2 D 8 (Int32.toNatClampNeg 0) (D 13 (Int32.toNatClampNeg (x2 + 1)))) 8 (Int32.toNatClampNeg 1) (x1 - (62 * x2))) _ _ _ h hP hS (lv_sub hl [2, 3, 4, 0] rfl)
    · have h := x_f (show ¬ (s0 = 0) from c14) h
      refine lv_iconst (v := 0) hx hb dX8_writeFile_43 (by decide) ?_
      refine lv_goto (tgt := 55) hx hb dX8_writeFile_44 (by decide) ?_
      obtain ⟨b21, h⟩ := x_if h
      refine x_ast hx hb hK ij hP hS mk_8 b21 dX8_writeFile_55 (fun H locs hP hS => ?_)
      refine lv_aload_n hx hb dX8_writeFile_56 rfl (lv_at hl 2 rfl) ?_
      refine x_get hx hb ht0 u_X8 hown hK hP (mk_0).1 (ce8 (mk_0).2) rfl 18 (by decide) (ht0 _ m_FL_X8_37) rfl (rfv (G := MG) (c := 0) (k := 18) (c' := 8) rfl) dX8_writeFile_57 ?_
      refine lv_iconst (v := 1) hx hb dX8_writeFile_60 (by decide) ?_
      refine lv_iload_n hx hb dX8_writeFile_61 rfl (lv_at hl 1 rfl) ?_
      refine lv_if_eq (tgt := 70) hx hb dX8_writeFile_62 (by decide) (fun c22 => ?_) (fun c22 => ?_)
      · have h := x_t (show s0 = 0 from c22) h
        refine lv_aload_n hx hb dX8_writeFile_70 rfl (lv_at hl 2 rfl) ?_
        refine x_get hx hb ht0 u_X8 hown hK hP (mk_0).1 (ce8 (mk_0).2) rfl 27 (by decide) (ht0 _ m_FL_X8_55) rfl (rfv (G := MG) (c := 0) (k := 27) (c' := 14) rfl) dX8_writeFile_71 ?_
        refine lv_iload_n hx hb dX8_writeFile_74 rfl (lv_at hl 4 rfl) ?_
        refine lv_iconst (v := 1) hx hb dX8_writeFile_75 (by decide) ?_
        refine lv_iadd hx hb dX8_writeFile_76 ?_
        obtain ⟨b23, h⟩ := x_if h
        refine x_ald hx hb hK hP mk_14 b23 dX8_writeFile_77 ?_
        obtain ⟨b24, h⟩ := x_if h
        refine x_ast hx hb hK ij hP hS mk_8 b24 dX8_writeFile_78 (fun H locs hP hS => ?_)
        exact L79 k2 hk2 x1 x2 (x1 - (62 * x2)) (up2 (up2 D 8 (Int32.toNatClampNeg 0) 0) 8 (Int32.toNatClampNeg 1) ((up2 D 8 (Int32.toNatClampNeg 0) 0) 14 (Int32.toNatClampNeg (x2 + 1)))) _ _ _ h hP hS (lv_sub hl [2, 3, 4, 0] rfl)
      · have h := x_f (show ¬ (s0 = 0) from c22) h
        refine lv_iload hx hb dX8_writeFile_65 (lv_at hl 0 rfl) ?_
        refine lv_goto (tgt := 78) hx hb dX8_writeFile_67 (by decide) ?_
        obtain ⟨b25, h⟩ := x_if h
        refine x_ast hx hb hK ij hP hS mk_8 b25 dX8_writeFile_78 (fun H locs hP hS => ?_)
        exact L79 k2 hk2 x1 x2 (x1 - (62 * x2)) (up2 (up2 D 8 (Int32.toNatClampNeg 0) 0) 8 (Int32.toNatClampNeg 1) (x1 - (62 * x2))) _ _ _ h hP hS (lv_sub hl [2, 3, 4, 0] rfl)
  have L2 : ∀ (n : Nat), ∀ (x1 x2 : Int32) (D : Mm) (H : Heap) (locs : List Loc) (ls : Array Slot), P_X8_writeFile_2 (gN MG) F n x1 x2 D = some (r0, D') → va_P dd vwCl (wW Y MG ad D) H → va_S (pA MG ad) s.heap H locs → lv_has ls 6 [(0, .ref (ad 0)), (1, .int x1), (2, .int x2)] → W p l e (headSpec wzX8_writeFile rm_X8_writeFile).room s m ([.ref (ad 0), .int a1].toArray) below meth c H locs 0 0 (MQ below (Qi dd Y MG ad .boolean r0 D') ([.ref (ad 0), .int a1].toArray) s 0 0 (pA MG ad)) (F0 m 2 ls []) := by
    intro n
    induction n with
    | zero =>
      intro x1 x2 D H locs ls h hP hS hl
      cases h
    | succ n ih =>
      intro x1 x2 D H locs ls h hP hS hl
      have h : ((if (D 0 28) ≤ x2 then (some (1, D)) else (if (x2 + 1) = (D 0 28) then (P_X8_writeFile_25 (gN MG) F (fun x1 x2 D => P_X8_writeFile_2 (gN MG) F n x1 x2 D) x1 x2 1 D) else (P_X8_writeFile_25 (gN MG) F (fun x1 x2 D => P_X8_writeFile_2 (gN MG) F n x1 x2 D) x1 x2 0 D))) : Rs) = some (r0, D') := h
      refine lv_iload_n hx hb dX8_writeFile_2 rfl (lv_at hl 2 rfl) ?_
      refine lv_aload_n hx hb dX8_writeFile_3 rfl (lv_at hl 0 rfl) ?_
      refine x_get hx hb ht0 u_X8 hown hK hP (mk_0).1 (ce8 (mk_0).2) rfl 28 (by decide) (ht0 _ m_FL_X8_180) rfl rfl dX8_writeFile_4 ?_
      refine lv_icmp_ge (tgt := 183) hx hb dX8_writeFile_7 (by decide) (fun c26 => ?_) (fun c26 => ?_)
      · have h := x_t (show (D 0 28) ≤ x2 from c26) h
        refine lv_iconst (v := 1) hx hb dX8_writeFile_183 (by decide) ?_
        exact x_iret hx hb hr hlocks rfl hP hS h dX8_writeFile_184
      · have h := x_f (show ¬ ((D 0 28) ≤ x2) from c26) h
        refine lv_iload_n hx hb dX8_writeFile_10 rfl (lv_at hl 2 rfl) ?_
        refine lv_iconst (v := 1) hx hb dX8_writeFile_11 (by decide) ?_
        refine lv_iadd hx hb dX8_writeFile_12 ?_
        refine lv_aload_n hx hb dX8_writeFile_13 rfl (lv_at hl 0 rfl) ?_
        refine x_get hx hb ht0 u_X8 hown hK hP (mk_0).1 (ce8 (mk_0).2) rfl 28 (by decide) (ht0 _ m_FL_X8_180) rfl rfl dX8_writeFile_14 ?_
        refine lv_icmp_ne (tgt := 24) hx hb dX8_writeFile_17 (by decide) (fun c27 => ?_) (fun c27 => ?_)
        · have h := x_f (show ¬ ((x2 + 1) = (D 0 28)) from c27) h
          refine lv_iconst (v := 0) hx hb dX8_writeFile_24 (by decide) ?_
          exact L25 (fun x1 x2 D => P_X8_writeFile_2 (gN MG) F n x1 x2 D) ih x1 x2 0 D _ _ _ h hP hS (lv_sub hl [0, 1, 2] rfl)
        · have h := x_t (show (x2 + 1) = (D 0 28) from c27) h
          refine lv_iconst (v := 1) hx hb dX8_writeFile_20 (by decide) ?_
          refine lv_goto (tgt := 25) hx hb dX8_writeFile_21 (by decide) ?_
          exact L25 (fun x1 x2 D => P_X8_writeFile_2 (gN MG) F n x1 x2 D) ih x1 x2 1 D _ _ _ h hP hS (lv_sub hl [0, 1, 2] rfl)
  have hl := lv_entry ([.ref (ad 0), .int a1]) (n := 6) (Nat.le_of_ble_eq_true rfl)
  rw [lg_entry_eq]
  generalize (lg_sl ([.ref (ad 0), .int a1]) ++ List.replicate (6 - (lg_sl ([.ref (ad 0), .int a1])).length) Slot.unset).toArray = ls at hl ⊢
  have hl : lv_has ls 6 [(0, .ref (ad 0)), (1, .int a1)] := hl
  have hP : va_P dd vwCl (wW Y MG ad D0) s.heap := hP
  generalize D0 = D at h hP
  have h : ((P_X8_writeFile_2 (gN MG) F F a1 0 D) : Rs) = some (r0, D') := h
  refine lv_iconst (v := 0) hx hb dX8_writeFile_0 (by decide) ?_
  refine lv_istore_n (lv' := [(2, .int 0), (0, .ref (ad 0)), (1, .int a1)]) hx hb dX8_writeFile_1 rfl hl (by decide) rfl (fun ls hl => ?_)
  exact L2 F a1 0 D _ _ _ h hP hS (lv_sub hl [1, 2, 0] rfl)
abbrev rm_X8_emptyEntry : Room := { frames := 0, cells := 0, slots := 0, locals := 0 }
set_option maxHeartbeats 4000000 in
set_option maxRecDepth 100000 in
theorem c_X8_emptyEntry (l : Launch) (dd : Dd) (Y : Yc) (t : Ts3) (ad : Nat → Nat) (ij : Ij MG ad) (F : Nat) (D0 D' : Mm) (r0 : Int32) (h : P_X8_emptyEntry (gN MG) F D0 = some (r0, D')) : Met l yX8_emptyEntry wzX8_emptyEntry rm_X8_emptyEntry (va_Pc [.ref (ad 0)] (Wd dd Y t MG ad D0)) (Qi dd Y MG ad .int r0 D') 0 0 (pA MG ad) := by
  refine Met.ofW (cc := cX8_emptyEntry) (maxL := 3) (ret := (some .int)) (by decide) rfl ?_
  intro p e s m args below meth c s₁ B hml hv
  obtain ⟨rfl, hP, hK, hT⟩ := hv
  have hx := B.exec
  have hb := B.bytes
  have hr := B.returns
  have ht0 : ∀ w ∈ W0, w.before _ s = true := fun w h => atoms_spec (ws := wzX8_emptyEntry) B.pre w (List.mem_cons_of_mem _ h)
  have hown : s.vm.findClass RX8 = some m.cls := findClass_of_methodNamed B.named
  have hlocks := B.notSynchronized
  have hS : va_S (pA MG ad) s.heap s.heap [] := va_S.rf
  have L12 : ∀ (k2 : Int32 → Mm → Rs) (hk2 : ∀ (x1 : Int32) (D : Mm) (H : Heap) (locs : List Loc) (ls : Array Slot), k2 x1 D = some (r0, D') → va_P dd vwCl (wW Y MG ad D) H → va_S (pA MG ad) s.heap H locs → lv_has ls 3 [(0, .ref (ad 0)), (1, .int x1)] → W p l e (headSpec wzX8_emptyEntry rm_X8_emptyEntry).room s m ([.ref (ad 0)].toArray) below meth c H locs 0 0 (MQ below (Qi dd Y MG ad .int r0 D') ([.ref (ad 0)].toArray) s 0 0 (pA MG ad)) (F0 m 2 ls [])), ∀ (n : Nat), ∀ (x1 x2 : Int32) (D : Mm) (H : Heap) (locs : List Loc) (ls : Array Slot), P_X8_emptyEntry_12 (gN MG) F k2 n x1 x2 D = some (r0, D') → va_P dd vwCl (wW Y MG ad D) H → va_S (pA MG ad) s.heap H locs → lv_has ls 3 [(0, .ref (ad 0)), (1, .int x1), (2, .int x2)] → W p l e (headSpec wzX8_emptyEntry rm_X8_emptyEntry).room s m ([.ref (ad 0)].toArray) below meth c H locs 0 0 (MQ below (Qi dd Y MG ad .int r0 D') ([.ref (ad 0)].toArray) s 0 0 (pA MG ad)) (F0 m 12 ls []) := by
    intro k2 hk2 n
    induction n with
    | zero =>
      intro x1 x2 D H locs ls h hP hS hl
      cases h
    | succ n ih =>
      intro x1 x2 D H locs ls h hP hS hl
      have h : ((if 62 ≤ x2 then (k2 (x1 + 1) D) else (if inB ((64 * x1) + x2) ((gN MG) 10) = true then (if (D 10 (Int32.toNatClampNeg ((64 * x1) + x2))) = 0 then (some ((64 * x1) + x2, D)) else (P_X8_emptyEntry_12 (gN MG) F k2 n x1 (x2 + 12) D)) else none)) : Rs) = some (r0, D') := h
      refine lv_iload_n hx hb dX8_emptyEntry_12 rfl (lv_at hl 2 rfl) ?_
      refine lv_bipush (v := 62) hx hb dX8_emptyEntry_13 (by decide) ?_
      refine lv_icmp_ge (tgt := 45) hx hb dX8_emptyEntry_15 (by decide) (fun c1 => ?_) (fun c1 => ?_)
      · have h := x_t (show 62 ≤ x2 from c1) h
        refine lv_iinc (v := x1 + 1) (lv' := [(1, .int (x1 + 1)), (0, .ref (ad 0)), (2, .int x2)]) hx hb dX8_emptyEntry_45 hl (k := 1) rfl rfl (by decide) rfl (fun ls hl => ?_)
        refine lv_goto (tgt := 2) hx hb dX8_emptyEntry_48 (by decide) ?_
        exact hk2 (x1 + 1) D _ _ _ h hP hS (lv_sub hl [1, 0] rfl)
      · have h := x_f (show ¬ (62 ≤ x2) from c1) h
        refine lv_aload_n hx hb dX8_emptyEntry_18 rfl (lv_at hl 0 rfl) ?_
        refine x_get hx hb ht0 u_X8 hown hK hP (mk_0).1 (ce8 (mk_0).2) rfl 20 (by decide) (ht0 _ m_FL_X8_43) rfl (rfv (G := MG) (c := 0) (k := 20) (c' := 10) rfl) dX8_emptyEntry_19 ?_
        refine lv_bipush (v := 64) hx hb dX8_emptyEntry_22 (by decide) ?_
        refine lv_iload_n hx hb dX8_emptyEntry_24 rfl (lv_at hl 1 rfl) ?_
        refine lv_imul hx hb dX8_emptyEntry_25 ?_
        refine lv_iload_n hx hb dX8_emptyEntry_26 rfl (lv_at hl 2 rfl) ?_
        refine lv_iadd hx hb dX8_emptyEntry_27 ?_
        obtain ⟨b2, h⟩ := x_if h
        refine x_ald hx hb hK hP mk_10 b2 dX8_emptyEntry_28 ?_
        refine lv_if_ne (tgt := 39) hx hb dX8_emptyEntry_29 (by decide) (fun c3 => ?_) (fun c3 => ?_)
        · have h := x_f (show ¬ ((D 10 (Int32.toNatClampNeg ((64 * x1) + x2))) = 0) from c3) h
          refine lv_iinc (v := x2 + 12) (lv' := [(2, .int (x2 + 12)), (0, .ref (ad 0)), (1, .int x1)]) hx hb dX8_emptyEntry_39 hl (k := 2) rfl rfl (by decide) rfl (fun ls hl => ?_)
          refine lv_goto (tgt := 12) hx hb dX8_emptyEntry_42 (by decide) ?_
          exact ih x1 (x2 + 12) D _ _ _ h hP hS (lv_sub hl [1, 2, 0] rfl)
        · have h := x_t (show (D 10 (Int32.toNatClampNeg ((64 * x1) + x2))) = 0 from c3) h
          refine lv_bipush (v := 64) hx hb dX8_emptyEntry_32 (by decide) ?_
          refine lv_iload_n hx hb dX8_emptyEntry_34 rfl (lv_at hl 1 rfl) ?_
          refine lv_imul hx hb dX8_emptyEntry_35 ?_
          refine lv_iload_n hx hb dX8_emptyEntry_36 rfl (lv_at hl 2 rfl) ?_
          refine lv_iadd hx hb dX8_emptyEntry_37 ?_
          exact x_iret hx hb hr hlocks rfl hP hS h dX8_emptyEntry_38
  have L2 : ∀ (n : Nat), ∀ (x1 : Int32) (D : Mm) (H : Heap) (locs : List Loc) (ls : Array Slot), P_X8_emptyEntry_2 (gN MG) F n x1 D = some (r0, D') → va_P dd vwCl (wW Y MG ad D) H → va_S (pA MG ad) s.heap H locs → lv_has ls 3 [(0, .ref (ad 0)), (1, .int x1)] → W p l e (headSpec wzX8_emptyEntry rm_X8_emptyEntry).room s m ([.ref (ad 0)].toArray) below meth c H locs 0 0 (MQ below (Qi dd Y MG ad .int r0 D') ([.ref (ad 0)].toArray) s 0 0 (pA MG ad)) (F0 m 2 ls []) := by
    intro n
    induction n with
    | zero =>
      intro x1 D H locs ls h hP hS hl
      cases h
    | succ n ih =>
      intro x1 D H locs ls h hP hS hl
      have h : ((if (D 0 23) ≤ x1 then (some ((-1), D)) else (P_X8_emptyEntry_12 (gN MG) F (fun x1 D => P_X8_emptyEntry_2 (gN MG) F n x1 D) F x1 2 D)) : Rs) = some (r0, D') := h
      refine lv_iload_n hx hb dX8_emptyEntry_2 rfl (lv_at hl 1 rfl) ?_
      refine lv_aload_n hx hb dX8_emptyEntry_3 rfl (lv_at hl 0 rfl) ?_
      refine x_get hx hb ht0 u_X8 hown hK hP (mk_0).1 (ce8 (mk_0).2) rfl 23 (by decide) (ht0 _ m_FL_X8_156) rfl rfl dX8_emptyEntry_4 ?_
      refine lv_icmp_ge (tgt := 51) hx hb dX8_emptyEntry_7 (by decide) (fun c4 => ?_) (fun c4 => ?_)
      · have h := x_t (show (D 0 23) ≤ x1 from c4) h
        refine lv_iconst (v := (-1)) hx hb dX8_emptyEntry_51 (by decide) ?_
        exact x_iret hx hb hr hlocks rfl hP hS h dX8_emptyEntry_52
      · have h := x_f (show ¬ ((D 0 23) ≤ x1) from c4) h
        refine lv_iconst (v := 2) hx hb dX8_emptyEntry_10 (by decide) ?_
        refine lv_istore_n (lv' := [(2, .int 2), (0, .ref (ad 0)), (1, .int x1)]) hx hb dX8_emptyEntry_11 rfl hl (by decide) rfl (fun ls hl => ?_)
        exact L12 (fun x1 D => P_X8_emptyEntry_2 (gN MG) F n x1 D) ih F x1 2 D _ _ _ h hP hS (lv_sub hl [1, 2, 0] rfl)
  have hl := lv_entry ([.ref (ad 0)]) (n := 3) (Nat.le_of_ble_eq_true rfl)
  rw [lg_entry_eq]
  generalize (lg_sl ([.ref (ad 0)]) ++ List.replicate (3 - (lg_sl ([.ref (ad 0)])).length) Slot.unset).toArray = ls at hl ⊢
  have hl : lv_has ls 3 [(0, .ref (ad 0))] := hl
  have hP : va_P dd vwCl (wW Y MG ad D0) s.heap := hP
  generalize D0 = D at h hP
  have h : ((P_X8_emptyEntry_2 (gN MG) F F 0 D) : Rs) = some (r0, D') := h
  refine lv_iconst (v := 0) hx hb dX8_emptyEntry_0 (by decide) ?_
  refine lv_istore_n (lv' := [(1, .int 0), (0, .ref (ad 0))]) hx hb dX8_emptyEntry_1 rfl hl (by decide) rfl (fun ls hl => ?_)
  exact L2 F 0 D _ _ _ h hP hS (lv_sub hl [1, 0] rfl)
abbrev rm_X8_freeOfDirectory : Room := { frames := 1, cells := 0, slots := 0, locals := 22 }
set_option maxHeartbeats 4000000 in
set_option maxRecDepth 100000 in
theorem c_X8_freeOfDirectory (l : Launch) (dd : Dd) (Y : Yc) (t : Ts3) (ad : Nat → Nat) (ij : Ij MG ad) (F : Nat) (D0 D' : Mm) (r0 : Int32) (h : P_X8_freeOfDirectory (gN MG) F D0 = some (r0, D')) : Met l yX8_freeOfDirectory wzX8_freeOfDirectory rm_X8_freeOfDirectory (va_Pc [.ref (ad 0)] (Wd dd Y t MG ad D0)) (Qi dd Y MG ad .int r0 D') 0 0 (pA MG ad) := by
  refine Met.ofW (cc := cX8_freeOfDirectory) (maxL := 3) (ret := (some .int)) (by decide) rfl ?_
  intro p e s m args below meth c s₁ B hml hv
  obtain ⟨rfl, hP, hK, hT⟩ := hv
  have hx := B.exec
  have hb := B.bytes
  have hr := B.returns
  have ht0 : ∀ w ∈ W0, w.before _ s = true := fun w h => atoms_spec (ws := wzX8_freeOfDirectory) B.pre w (List.mem_cons_of_mem _ h)
  have hown : s.vm.findClass RX8 = some m.cls := findClass_of_methodNamed B.named
  have hlocks := B.notSynchronized
  have hS : va_S (pA MG ad) s.heap s.heap [] := va_S.rf
  have L10 : ∀ (n : Nat), ∀ (x1 x2 : Int32) (D : Mm) (H : Heap) (locs : List Loc) (ls : Array Slot), P_X8_freeOfDirectory_10 (gN MG) F n x1 x2 D = some (r0, D') → va_P dd vwCl (wW Y MG ad D) H → va_S (pA MG ad) s.heap H locs → lv_has ls 3 [(0, .ref (ad 0)), (1, .int x1), (2, .int x2)] → W p l e (headSpec wzX8_freeOfDirectory rm_X8_freeOfDirectory).room s m ([.ref (ad 0)].toArray) below meth c H locs 0 0 (MQ below (Qi dd Y MG ad .int r0 D') ([.ref (ad 0)].toArray) s 0 0 (pA MG ad)) (F0 m 10 ls []) := by
    intro n
    induction n with
    | zero =>
      intro x1 x2 D H locs ls h hP hS hl
      cases h
    | succ n ih =>
      intro x1 x2 D H locs ls h hP hS hl
      have h : ((if x2 < 0 then (some (x1, D)) else (bi (P_X8_isFree (gN MG) F 9 x2 D) (fun r2 D2 => if r2 = 0 then (P_X8_freeOfDirectory_10 (gN MG) F n x1 (x2 + (-1)) D2) else (P_X8_freeOfDirectory_10 (gN MG) F n x2 (x2 + (-1)) D2)))) : Rs) = some (r0, D') := h
      refine lv_iload_n hx hb dX8_freeOfDirectory_10 rfl (lv_at hl 2 rfl) ?_
      refine lv_if_lt (tgt := 36) hx hb dX8_freeOfDirectory_11 (by decide) (fun c1 => ?_) (fun c1 => ?_)
      · have h := x_t (show x2 < 0 from c1) h
        refine lv_iload_n hx hb dX8_freeOfDirectory_36 rfl (lv_at hl 1 rfl) ?_
        exact x_iret hx hb hr hlocks rfl hP hS h dX8_freeOfDirectory_37
      · have h := x_f (show ¬ (x2 < 0) from c1) h
        refine lv_aload_n hx hb dX8_freeOfDirectory_14 rfl (lv_at hl 0 rfl) ?_
        refine lv_bipush (v := 9) hx hb dX8_freeOfDirectory_15 (by decide) ?_
        refine lv_iload_n hx hb dX8_freeOfDirectory_17 rfl (lv_at hl 2 rfl) ?_
        obtain ⟨r2, D2, hc2, h⟩ := bi_some h
        refine x_callVi (As := [.int 9, .int x2]) ⟨hx, hb, hml, hown, ht0⟩ hK hT hP hS (c_X8_isFree l dd Y t ad ij F 9 x2 _ _ _ hc2) m_ML_X8_183 sv_X8_isFree hd_X8_isFree rfl rfl ⟨Nat.le_of_ble_eq_true rfl, Nat.le_of_ble_eq_true rfl⟩ (mk_0).1 (ce8 (mk_0).2) rfl rfl hl.1 rfl (Nat.le_of_ble_eq_true rfl) dX8_freeOfDirectory_18 ⟨Nat.zero_le _, Nat.zero_le _⟩ (fun H locs hn_r2 hP hS => ?_)
        refine lv_if_eq (tgt := 28) hx hb dX8_freeOfDirectory_21 (by decide) (fun c3 => ?_) (fun c3 => ?_)
        · have h := x_t (show r2 = 0 from c3) h
          refine lv_iload_n hx hb dX8_freeOfDirectory_28 rfl (lv_at hl 1 rfl) ?_
          refine lv_istore_n (lv' := [(1, .int x1), (0, .ref (ad 0)), (2, .int x2)]) hx hb dX8_freeOfDirectory_29 rfl hl (by decide) rfl (fun ls hl => ?_)
          refine lv_iinc (v := x2 + (-1)) (lv' := [(2, .int (x2 + (-1))), (1, .int x1), (0, .ref (ad 0))]) hx hb dX8_freeOfDirectory_30 hl (k := 2) rfl rfl (by decide) rfl (fun ls hl => ?_)
          refine lv_goto (tgt := 10) hx hb dX8_freeOfDirectory_33 (by decide) ?_
          exact ih x1 (x2 + (-1)) D2 _ _ _ h hP hS (lv_sub hl [2, 1, 0] rfl)
        · have h := x_f (show ¬ (r2 = 0) from c3) h
          refine lv_iload_n hx hb dX8_freeOfDirectory_24 rfl (lv_at hl 2 rfl) ?_
          refine lv_goto (tgt := 29) hx hb dX8_freeOfDirectory_25 (by decide) ?_
          refine lv_istore_n (lv' := [(1, .int x2), (0, .ref (ad 0)), (2, .int x2)]) hx hb dX8_freeOfDirectory_29 rfl hl (by decide) rfl (fun ls hl => ?_)
          refine lv_iinc (v := x2 + (-1)) (lv' := [(2, .int (x2 + (-1))), (1, .int x2), (0, .ref (ad 0))]) hx hb dX8_freeOfDirectory_30 hl (k := 2) rfl rfl (by decide) rfl (fun ls hl => ?_)
          refine lv_goto (tgt := 10) hx hb dX8_freeOfDirectory_33 (by decide) ?_
          exact ih x2 (x2 + (-1)) D2 _ _ _ h hP hS (lv_sub hl [2, 1, 0] rfl)
  have hl := lv_entry ([.ref (ad 0)]) (n := 3) (Nat.le_of_ble_eq_true rfl)
  rw [lg_entry_eq]
  generalize (lg_sl ([.ref (ad 0)]) ++ List.replicate (3 - (lg_sl ([.ref (ad 0)])).length) Slot.unset).toArray = ls at hl ⊢
  have hl : lv_has ls 3 [(0, .ref (ad 0))] := hl
  have hP : va_P dd vwCl (wW Y MG ad D0) s.heap := hP
  generalize D0 = D at h hP
  have h : ((bi (P_X8_sectorsOf (gN MG) F 9 D) (fun r4 D4 => P_X8_freeOfDirectory_10 (gN MG) F F (-1) (r4 - 1) D4)) : Rs) = some (r0, D') := h
  refine lv_iconst (v := (-1)) hx hb dX8_freeOfDirectory_0 (by decide) ?_
  refine lv_istore_n (lv' := [(1, .int ((-1))), (0, .ref (ad 0))]) hx hb dX8_freeOfDirectory_1 rfl hl (by decide) rfl (fun ls hl => ?_)
  refine lv_bipush (v := 9) hx hb dX8_freeOfDirectory_2 (by decide) ?_
  obtain ⟨r4, D4, hc4, h⟩ := bi_some h
  refine x_callSi (As := [.int 9]) ⟨hx, hb, hml, hown, ht0⟩ hK hT hP hS (c_X8_sectorsOf l dd Y t ad ij F 9 _ _ _ hc4) m_ML_X8_77 ss_X8_sectorsOf hd_X8_sectorsOf rfl rfl ⟨Nat.le_of_ble_eq_true rfl, Nat.le_of_ble_eq_true rfl⟩ rfl hl.1 rfl (Nat.le_of_ble_eq_true rfl) dX8_freeOfDirectory_4 ⟨Nat.zero_le _, Nat.zero_le _⟩ (fun H locs hn_r4 hP hS => ?_)
  refine lv_iconst (v := 1) hx hb dX8_freeOfDirectory_7 (by decide) ?_
  refine lv_isub hx hb dX8_freeOfDirectory_8 ?_
  refine lv_istore_n (lv' := [(2, .int (r4 - 1)), (1, .int ((-1))), (0, .ref (ad 0))]) hx hb dX8_freeOfDirectory_9 rfl hl (by decide) rfl (fun ls hl => ?_)
  exact L10 F (-1) (r4 - 1) D4 _ _ _ h hP hS (lv_sub hl [2, 1, 0] rfl)
abbrev rm_X8_saves : Room := { frames := 8, cells := 0, slots := 0, locals := 190 }
set_option maxHeartbeats 4000000 in
set_option maxRecDepth 100000 in
theorem c_X8_saves (l : Launch) (dd : Dd) (Y : Yc) (t : Ts3) (ad : Nat → Nat) (ij : Ij MG ad) (F : Nat) (a1 a2 a3 a4 : Int32) (D0 D' : Mm) (r0 : Int32) (h : P_X8_saves (gN MG) F a1 a2 a3 a4 D0 = some (r0, D')) : Met l yX8_saves wzX8_saves rm_X8_saves (va_Pc [.ref (ad 0), .int a1, .int a2, .int a3, .int a4] (Wd dd Y t MG ad D0)) (Qi dd Y MG ad .boolean r0 D') 0 0 (pA MG ad) := by
  refine Met.ofW (cc := cX8_saves) (maxL := 10) (ret := (some .boolean)) (by decide) rfl ?_
  intro p e s m args below meth c s₁ B hml hv
  obtain ⟨rfl, hP, hK, hT⟩ := hv
  have hx := B.exec
  have hb := B.bytes
  have hr := B.returns
  have ht0 : ∀ w ∈ W0, w.before _ s = true := fun w h => atoms_spec (ws := wzX8_saves) B.pre w (List.mem_cons_of_mem _ h)
  have hown : s.vm.findClass RX8 = some m.cls := findClass_of_methodNamed B.named
  have hlocks := B.notSynchronized
  have hS : va_S (pA MG ad) s.heap s.heap [] := va_S.rf
  have L409 : ∀ (n : Nat), ∀ (x8 : Int32) (D : Mm) (H : Heap) (locs : List Loc) (ls : Array Slot), P_X8_saves_409 (gN MG) F n x8 D = some (r0, D') → va_P dd vwCl (wW Y MG ad D) H → va_S (pA MG ad) s.heap H locs → lv_has ls 10 [(0, .ref (ad 0)), (8, .int x8)] → W p l e (headSpec wzX8_saves rm_X8_saves).room s m ([.ref (ad 0), .int a1, .int a2, .int a3, .int a4].toArray) below meth c H locs 0 0 (MQ below (Qi dd Y MG ad .boolean r0 D') ([.ref (ad 0), .int a1, .int a2, .int a3, .int a4].toArray) s 0 0 (pA MG ad)) (F0 m 409 ls []) := by
    intro n
    induction n with
    | zero =>
      intro x8 D H locs ls h hP hS hl
      cases h
    | succ n ih =>
      intro x8 D H locs ls h hP hS hl
      have h : ((if (D 0 28) ≤ x8 then (bi (P_X8_writeMap (gN MG) F D) (fun r2 D2 => some (r2, D2))) else (if inB x8 ((gN MG) 13) = true then (if inB x8 ((gN MG) 14) = true then (bi (P_X8_setFree (gN MG) F (D 13 (Int32.toNatClampNeg x8)) (D 14 (Int32.toNatClampNeg x8)) 0 D) (fun r5 D5 => P_X8_saves_409 (gN MG) F n (x8 + 1) D5)) else none) else none)) : Rs) = some (r0, D') := h
      refine lv_iload hx hb dX8_saves_409 (lv_at hl 1 rfl) ?_
      refine lv_aload_n hx hb dX8_saves_411 rfl (lv_at hl 0 rfl) ?_
      refine x_get hx hb ht0 u_X8 hown hK hP (mk_0).1 (ce8 (mk_0).2) rfl 28 (by decide) (ht0 _ m_FL_X8_180) rfl rfl dX8_saves_412 ?_
      refine lv_icmp_ge (tgt := 443) hx hb dX8_saves_415 (by decide) (fun c1 => ?_) (fun c1 => ?_)
      · have h := x_t (show (D 0 28) ≤ x8 from c1) h
        refine lv_aload_n hx hb dX8_saves_443 rfl (lv_at hl 0 rfl) ?_
        obtain ⟨r2, D2, hc2, h⟩ := bi_some h
        refine x_callVi (As := []) ⟨hx, hb, hml, hown, ht0⟩ hK hT hP hS (c_X8_writeMap l dd Y t ad ij F  _ _ _ hc2) m_ML_X8_210 sv_X8_writeMap hd_X8_writeMap rfl rfl ⟨Nat.le_of_ble_eq_true rfl, Nat.le_of_ble_eq_true rfl⟩ (mk_0).1 (ce8 (mk_0).2) rfl rfl hl.1 rfl (Nat.le_of_ble_eq_true rfl) dX8_saves_444 ⟨Nat.zero_le _, Nat.zero_le _⟩ (fun H locs hn_r2 hP hS => ?_)
        exact x_iret hx hb hr hlocks hn_r2 hP hS h dX8_saves_447
      · have h := x_f (show ¬ ((D 0 28) ≤ x8) from c1) h
        refine lv_aload_n hx hb dX8_saves_418 rfl (lv_at hl 0 rfl) ?_
        refine lv_aload_n hx hb dX8_saves_419 rfl (lv_at hl 0 rfl) ?_
        refine x_get hx hb ht0 u_X8 hown hK hP (mk_0).1 (ce8 (mk_0).2) rfl 26 (by decide) (ht0 _ m_FL_X8_52) rfl (rfv (G := MG) (c := 0) (k := 26) (c' := 13) rfl) dX8_saves_420 ?_
        refine lv_iload hx hb dX8_saves_423 (lv_at hl 1 rfl) ?_
        obtain ⟨b3, h⟩ := x_if h
        refine x_ald hx hb hK hP mk_13 b3 dX8_saves_425 ?_
        refine lv_aload_n hx hb dX8_saves_426 rfl (lv_at hl 0 rfl) ?_
        refine x_get hx hb ht0 u_X8 hown hK hP (mk_0).1 (ce8 (mk_0).2) rfl 27 (by decide) (ht0 _ m_FL_X8_55) rfl (rfv (G := MG) (c := 0) (k := 27) (c' := 14) rfl) dX8_saves_427 ?_
        refine lv_iload hx hb dX8_saves_430 (lv_at hl 1 rfl) ?_
        obtain ⟨b4, h⟩ := x_if h
        refine x_ald hx hb hK hP mk_14 b4 dX8_saves_432 ?_
        refine lv_iconst (v := 0) hx hb dX8_saves_433 (by decide) ?_
        obtain ⟨r5, D5, hc5, h⟩ := bi_some h
        refine x_callVv (As := [.int (D 13 (Int32.toNatClampNeg x8)), .int (D 14 (Int32.toNatClampNeg x8)), .int 0]) ⟨hx, hb, hml, hown, ht0⟩ hK hT hP hS (c_X8_setFree l dd Y t ad ij F (D 13 (Int32.toNatClampNeg x8)) (D 14 (Int32.toNatClampNeg x8)) 0 _ _ _ hc5) m_ML_X8_176 sv_X8_setFree hd_X8_setFree rfl rfl ⟨Nat.le_of_ble_eq_true rfl, Nat.le_of_ble_eq_true rfl⟩ (mk_0).1 (ce8 (mk_0).2) rfl rfl hl.1 rfl (Nat.le_of_ble_eq_true rfl) dX8_saves_434 ⟨Nat.zero_le _, Nat.zero_le _⟩ (fun H locs hP hS => ?_)
        refine lv_iinc (v := x8 + 1) (lv' := [(8, .int (x8 + 1)), (0, .ref (ad 0))]) hx hb dX8_saves_437 hl (k := 1) rfl rfl (by decide) rfl (fun ls hl => ?_)
        refine lv_goto (tgt := 409) hx hb dX8_saves_440 (by decide) ?_
        exact ih (x8 + 1) D5 _ _ _ h hP hS (lv_sub hl [1, 0] rfl)
  have L342 : ∀ (n : Nat), ∀ (x2 x3 x5 x6 x8 : Int32) (D : Mm) (H : Heap) (locs : List Loc) (ls : Array Slot), P_X8_saves_342 (gN MG) F n x2 x3 x5 x6 x8 D = some (r0, D') → va_P dd vwCl (wW Y MG ad D) H → va_S (pA MG ad) s.heap H locs → lv_has ls 10 [(0, .ref (ad 0)), (2, .int x2), (3, .int x3), (5, .int x5), (6, .int x6), (8, .int x8)] → W p l e (headSpec wzX8_saves rm_X8_saves).room s m ([.ref (ad 0), .int a1, .int a2, .int a3, .int a4].toArray) below meth c H locs 0 0 (MQ below (Qi dd Y MG ad .boolean r0 D') ([.ref (ad 0), .int a1, .int a2, .int a3, .int a4].toArray) s 0 0 (pA MG ad)) (F0 m 342 ls []) := by
    intro n
    induction n with
    | zero =>
      intro x2 x3 x5 x6 x8 D H locs ls h hP hS hl
      cases h
    | succ n ih =>
      intro x2 x3 x5 x6 x8 D H locs ls h hP hS hl
      have h : ((if 8 ≤ x8 then (bi (P_X8_writeDirectory (gN MG) F (x5 / 64) D) (fun r7 D7 => if r7 = 0 then (some (0, D7)) else (if x6 = 0 then (P_X8_saves_409 (gN MG) F F 0 D7) else (bi (P_X8_writeDirectory (gN MG) F ((D7 0 23) - 2) D7) (fun r10 D10 => if r10 = 0 then (some (0, D10)) else (P_X8_saves_409 (gN MG) F F 0 D10)))))) else (bi (P_X8_nameByte (gN MG) F x2 x3 x8 D) (fun r12 D12 => if inB ((x5 + 4) + x8) ((gN MG) 10) = true then (P_X8_saves_342 (gN MG) F n x2 x3 x5 x6 (x8 + 1) (up2 D12 10 (Int32.toNatClampNeg ((x5 + 4) + x8)) r12)) else none))) : Rs) = some (r0, D') := h
      refine lv_iload hx hb dX8_saves_342 (lv_at hl 5 rfl) ?_
      refine lv_bipush (v := 8) hx hb dX8_saves_344 (by decide) ?_
      refine lv_icmp_ge (tgt := 374) hx hb dX8_saves_346 (by decide) (fun c6 => ?_) (fun c6 => ?_)
      · have h := x_t (show 8 ≤ x8 from c6) h
        refine lv_aload_n hx hb dX8_saves_374 rfl (lv_at hl 0 rfl) ?_
        refine lv_iload hx hb dX8_saves_375 (lv_at hl 3 rfl) ?_
        refine lv_bipush (v := 64) hx hb dX8_saves_377 (by decide) ?_
        refine lv_idiv hx hb dX8_saves_379 (by decide) ?_
        obtain ⟨r7, D7, hc7, h⟩ := bi_some h
        refine x_callVi (As := [.int (x5 / 64)]) ⟨hx, hb, hml, hown, ht0⟩ hK hT hP hS (c_X8_writeDirectory l dd Y t ad ij F (x5 / 64) _ _ _ hc7) m_ML_X8_207 sv_X8_writeDirectory hd_X8_writeDirectory rfl rfl ⟨Nat.le_of_ble_eq_true rfl, Nat.le_of_ble_eq_true rfl⟩ (mk_0).1 (ce8 (mk_0).2) rfl rfl hl.1 rfl (Nat.le_of_ble_eq_true rfl) dX8_saves_380 ⟨Nat.zero_le _, Nat.zero_le _⟩ (fun H locs hn_r7 hP hS => ?_)
        refine lv_if_eq (tgt := 404) hx hb dX8_saves_383 (by decide) (fun c8 => ?_) (fun c8 => ?_)
        · have h := x_t (show r7 = 0 from c8) h
          refine lv_iconst (v := 0) hx hb dX8_saves_404 (by decide) ?_
          exact x_iret hx hb hr hlocks rfl hP hS h dX8_saves_405
        · have h := x_f (show ¬ (r7 = 0) from c8) h
          refine lv_iload hx hb dX8_saves_386 (lv_at hl 4 rfl) ?_
          refine lv_if_eq (tgt := 406) hx hb dX8_saves_388 (by decide) (fun c9 => ?_) (fun c9 => ?_)
          · have h := x_t (show x6 = 0 from c9) h
            refine lv_iconst (v := 0) hx hb dX8_saves_406 (by decide) ?_
            refine lv_istore (lv' := [(8, .int 0), (0, .ref (ad 0)), (2, .int x2), (3, .int x3), (5, .int x5), (6, .int x6)]) hx hb dX8_saves_407 hl (by decide) rfl (fun ls hl => ?_)
            exact L409 F 0 D7 _ _ _ h hP hS (lv_sub hl [1, 0] rfl)
          · have h := x_f (show ¬ (x6 = 0) from c9) h
            refine lv_aload_n hx hb dX8_saves_391 rfl (lv_at hl 0 rfl) ?_
            refine lv_aload_n hx hb dX8_saves_392 rfl (lv_at hl 0 rfl) ?_
            refine x_get hx hb ht0 u_X8 hown hK hP (mk_0).1 (ce8 (mk_0).2) rfl 23 (by decide) (ht0 _ m_FL_X8_156) rfl rfl dX8_saves_393 ?_
            refine lv_iconst (v := 2) hx hb dX8_saves_396 (by decide) ?_
            refine lv_isub hx hb dX8_saves_397 ?_
            obtain ⟨r10, D10, hc10, h⟩ := bi_some h
            refine x_callVi (As := [.int ((D7 0 23) - 2)]) ⟨hx, hb, hml, hown, ht0⟩ hK hT hP hS (c_X8_writeDirectory l dd Y t ad ij F ((D7 0 23) - 2) _ _ _ hc10) m_ML_X8_207 sv_X8_writeDirectory hd_X8_writeDirectory rfl rfl ⟨Nat.le_of_ble_eq_true rfl, Nat.le_of_ble_eq_true rfl⟩ (mk_0).1 (ce8 (mk_0).2) rfl rfl hl.1 rfl (Nat.le_of_ble_eq_true rfl) dX8_saves_398 ⟨Nat.zero_le _, Nat.zero_le _⟩ (fun H locs hn_r10 hP hS => ?_)
            refine lv_if_ne (tgt := 406) hx hb dX8_saves_401 (by decide) (fun c11 => ?_) (fun c11 => ?_)
            · have h := x_f (show ¬ (r10 = 0) from c11) h
              refine lv_iconst (v := 0) hx hb dX8_saves_406 (by decide) ?_
              refine lv_istore (lv' := [(8, .int 0), (0, .ref (ad 0)), (2, .int x2), (3, .int x3), (5, .int x5), (6, .int x6)]) hx hb dX8_saves_407 hl (by decide) rfl (fun ls hl => ?_)
              exact L409 F 0 D10 _ _ _ h hP hS (lv_sub hl [1, 0] rfl)
            · have h := x_t (show r10 = 0 from c11) h
              refine lv_iconst (v := 0) hx hb dX8_saves_404 (by decide) ?_
              exact x_iret hx hb hr hlocks rfl hP hS h dX8_saves_405
      · have h := x_f (show ¬ (8 ≤ x8) from c6) h
        refine lv_aload_n hx hb dX8_saves_349 rfl (lv_at hl 0 rfl) ?_
        refine x_get hx hb ht0 u_X8 hown hK hP (mk_0).1 (ce8 (mk_0).2) rfl 20 (by decide) (ht0 _ m_FL_X8_43) rfl (rfv (G := MG) (c := 0) (k := 20) (c' := 10) rfl) dX8_saves_350 ?_
        refine lv_iload hx hb dX8_saves_353 (lv_at hl 3 rfl) ?_
        refine lv_iconst (v := 4) hx hb dX8_saves_355 (by decide) ?_
        refine lv_iadd hx hb dX8_saves_356 ?_
        refine lv_iload hx hb dX8_saves_357 (lv_at hl 5 rfl) ?_
        refine lv_iadd hx hb dX8_saves_359 ?_
        refine lv_iload_n hx hb dX8_saves_360 rfl (lv_at hl 1 rfl) ?_
        refine lv_iload_n hx hb dX8_saves_361 rfl (lv_at hl 2 rfl) ?_
        refine lv_iload hx hb dX8_saves_362 (lv_at hl 5 rfl) ?_
        obtain ⟨r12, D12, hc12, h⟩ := bi_some h
        refine x_callSi (As := [.int x2, .int x3, .int x8]) ⟨hx, hb, hml, hown, ht0⟩ hK hT hP hS (c_X8_nameByte l dd Y t ad ij F x2 x3 x8 _ _ _ hc12) m_ML_X8_153 ss_X8_nameByte hd_X8_nameByte rfl rfl ⟨Nat.le_of_ble_eq_true rfl, Nat.le_of_ble_eq_true rfl⟩ rfl hl.1 rfl (Nat.le_of_ble_eq_true rfl) dX8_saves_364 ⟨Nat.zero_le _, Nat.zero_le _⟩ (fun H locs hn_r12 hP hS => ?_)
        obtain ⟨b13, h⟩ := x_if h
        refine x_ast hx hb hK ij hP hS mk_10 b13 dX8_saves_367 (fun H locs hP hS => ?_)
        refine lv_iinc (v := x8 + 1) (lv' := [(8, .int (x8 + 1)), (0, .ref (ad 0)), (2, .int x2), (3, .int x3), (5, .int x5), (6, .int x6)]) hx hb dX8_saves_368 hl (k := 5) rfl rfl (by decide) rfl (fun ls hl => ?_)
        refine lv_goto (tgt := 342) hx hb dX8_saves_371 (by decide) ?_
        exact ih x2 x3 x5 x6 (x8 + 1) (up2 D12 10 (Int32.toNatClampNeg ((x5 + 4) + x8)) r12) _ _ _ h hP hS (lv_sub hl [1, 2, 3, 4, 5, 0] rfl)
  have L339 : ∀ (x2 x3 x5 x6 : Int32) (D : Mm) (H : Heap) (locs : List Loc) (ls : Array Slot), P_X8_saves_339 (gN MG) F x2 x3 x5 x6 D = some (r0, D') → va_P dd vwCl (wW Y MG ad D) H → va_S (pA MG ad) s.heap H locs → lv_has ls 10 [(0, .ref (ad 0)), (2, .int x2), (3, .int x3), (5, .int x5), (6, .int x6)] → W p l e (headSpec wzX8_saves rm_X8_saves).room s m ([.ref (ad 0), .int a1, .int a2, .int a3, .int a4].toArray) below meth c H locs 0 0 (MQ below (Qi dd Y MG ad .boolean r0 D') ([.ref (ad 0), .int a1, .int a2, .int a3, .int a4].toArray) s 0 0 (pA MG ad)) (F0 m 339 ls []) := by
    intro x2 x3 x5 x6 D H locs ls h hP hS hl
    have h : ((P_X8_saves_342 (gN MG) F F x2 x3 x5 x6 0 D) : Rs) = some (r0, D') := h
    refine lv_iconst (v := 0) hx hb dX8_saves_339 (by decide) ?_
    refine lv_istore (lv' := [(8, .int 0), (0, .ref (ad 0)), (2, .int x2), (3, .int x3), (5, .int x5), (6, .int x6)]) hx hb dX8_saves_340 hl (by decide) rfl (fun ls hl => ?_)
    exact L342 F x2 x3 x5 x6 0 D _ _ _ h hP hS (lv_sub hl [1, 2, 3, 4, 5, 0] rfl)
  have L311 : ∀ (x2 x3 x5 x6 : Int32) (D : Mm) (H : Heap) (locs : List Loc) (ls : Array Slot), P_X8_saves_311 (gN MG) F x2 x3 x5 x6 D = some (r0, D') → va_P dd vwCl (wW Y MG ad D) H → va_S (pA MG ad) s.heap H locs → lv_has ls 10 [(0, .ref (ad 0)), (2, .int x2), (3, .int x3), (5, .int x5), (6, .int x6)] → W p l e (headSpec wzX8_saves rm_X8_saves).room s m ([.ref (ad 0), .int a1, .int a2, .int a3, .int a4].toArray) below meth c H locs 0 0 (MQ below (Qi dd Y MG ad .boolean r0 D') ([.ref (ad 0), .int a1, .int a2, .int a3, .int a4].toArray) s 0 0 (pA MG ad)) (F0 m 311 ls []) := by
    intro x2 x3 x5 x6 D H locs ls h hP hS hl
    have h : ((if inB 0 ((gN MG) 14) = true then (if inB (x5 + 2) ((gN MG) 10) = true then (if inB (x5 + 3) ((gN MG) 10) = true then (P_X8_saves_339 (gN MG) F x2 x3 x5 x6 (up2 (up2 D 10 (Int32.toNatClampNeg (x5 + 2)) (D 14 (Int32.toNatClampNeg 0))) 10 (Int32.toNatClampNeg (x5 + 3)) ((up2 D 10 (Int32.toNatClampNeg (x5 + 2)) (D 14 (Int32.toNatClampNeg 0))) 0 28))) else none) else none) else none) : Rs) = some (r0, D') := h
    refine lv_aload_n hx hb dX8_saves_311 rfl (lv_at hl 0 rfl) ?_
    refine x_get hx hb ht0 u_X8 hown hK hP (mk_0).1 (ce8 (mk_0).2) rfl 20 (by decide) (ht0 _ m_FL_X8_43) rfl (rfv (G := MG) (c := 0) (k := 20) (c' := 10) rfl) dX8_saves_312 ?_
    refine lv_iload hx hb dX8_saves_315 (lv_at hl 3 rfl) ?_
    refine lv_iconst (v := 2) hx hb dX8_saves_317 (by decide) ?_
    refine lv_iadd hx hb dX8_saves_318 ?_
    refine lv_aload_n hx hb dX8_saves_319 rfl (lv_at hl 0 rfl) ?_
    refine x_get hx hb ht0 u_X8 hown hK hP (mk_0).1 (ce8 (mk_0).2) rfl 27 (by decide) (ht0 _ m_FL_X8_55) rfl (rfv (G := MG) (c := 0) (k := 27) (c' := 14) rfl) dX8_saves_320 ?_
    refine lv_iconst (v := 0) hx hb dX8_saves_323 (by decide) ?_
    obtain ⟨b14, h⟩ := x_if h
    refine x_ald hx hb hK hP mk_14 b14 dX8_saves_324 ?_
    obtain ⟨b15, h⟩ := x_if h
    refine x_ast hx hb hK ij hP hS mk_10 b15 dX8_saves_325 (fun H locs hP hS => ?_)
    refine lv_aload_n hx hb dX8_saves_326 rfl (lv_at hl 0 rfl) ?_
    refine x_get hx hb ht0 u_X8 hown hK hP (mk_0).1 (ce8 (mk_0).2) rfl 20 (by decide) (ht0 _ m_FL_X8_43) rfl (rfv (G := MG) (c := 0) (k := 20) (c' := 10) rfl) dX8_saves_327 ?_
    refine lv_iload hx hb dX8_saves_330 (lv_at hl 3 rfl) ?_
    refine lv_iconst (v := 3) hx hb dX8_saves_332 (by decide) ?_
    refine lv_iadd hx hb dX8_saves_333 ?_
    refine lv_aload_n hx hb dX8_saves_334 rfl (lv_at hl 0 rfl) ?_
    refine x_get hx hb ht0 u_X8 hown hK hP (mk_0).1 (ce8 (mk_0).2) rfl 28 (by decide) (ht0 _ m_FL_X8_180) rfl rfl dX8_saves_335 ?_
    obtain ⟨b16, h⟩ := x_if h
    refine x_ast hx hb hK ij hP hS mk_10 b16 dX8_saves_338 (fun H locs hP hS => ?_)
    exact L339 x2 x3 x5 x6 (up2 (up2 D 10 (Int32.toNatClampNeg (x5 + 2)) (D 14 (Int32.toNatClampNeg 0))) 10 (Int32.toNatClampNeg (x5 + 3)) ((up2 D 10 (Int32.toNatClampNeg (x5 + 2)) (D 14 (Int32.toNatClampNeg 0))) 0 28)) _ _ _ h hP hS (lv_sub hl [0, 1, 2, 3, 4] rfl)
  have L288 : ∀ (x1 x2 x3 x5 x6 : Int32) (D : Mm) (H : Heap) (locs : List Loc) (ls : Array Slot), P_X8_saves_288 (gN MG) F x1 x2 x3 x5 x6 D = some (r0, D') → va_P dd vwCl (wW Y MG ad D) H → va_S (pA MG ad) s.heap H locs → lv_has ls 10 [(0, .ref (ad 0)), (1, .int x1), (2, .int x2), (3, .int x3), (5, .int x5), (6, .int x6)] → W p l e (headSpec wzX8_saves rm_X8_saves).room s m ([.ref (ad 0), .int a1, .int a2, .int a3, .int a4].toArray) below meth c H locs 0 0 (MQ below (Qi dd Y MG ad .boolean r0 D') ([.ref (ad 0), .int a1, .int a2, .int a3, .int a4].toArray) s 0 0 (pA MG ad)) (F0 m 288 ls []) := by
    intro x1 x2 x3 x5 x6 D H locs ls h hP hS hl
    have h : ((if inB x5 ((gN MG) 10) = true then (if inB 0 ((gN MG) 13) = true then (if inB (x5 + 1) ((gN MG) 10) = true then (P_X8_saves_311 (gN MG) F x2 x3 x5 x6 (up2 (up2 D 10 (Int32.toNatClampNeg x5) x1) 10 (Int32.toNatClampNeg (x5 + 1)) ((up2 D 10 (Int32.toNatClampNeg x5) x1) 13 (Int32.toNatClampNeg 0)))) else none) else none) else none) : Rs) = some (r0, D') := h
    refine lv_aload_n hx hb dX8_saves_288 rfl (lv_at hl 0 rfl) ?_
    refine x_get hx hb ht0 u_X8 hown hK hP (mk_0).1 (ce8 (mk_0).2) rfl 20 (by decide) (ht0 _ m_FL_X8_43) rfl (rfv (G := MG) (c := 0) (k := 20) (c' := 10) rfl) dX8_saves_289 ?_
    refine lv_iload hx hb dX8_saves_292 (lv_at hl 4 rfl) ?_
    refine lv_iload_n hx hb dX8_saves_294 rfl (lv_at hl 1 rfl) ?_
    obtain ⟨b17, h⟩ := x_if h
    refine x_ast hx hb hK ij hP hS mk_10 b17 dX8_saves_295 (fun H locs hP hS => ?_)
    refine lv_aload_n hx hb dX8_saves_296 rfl (lv_at hl 0 rfl) ?_
    refine x_get hx hb ht0 u_X8 hown hK hP (mk_0).1 (ce8 (mk_0).2) rfl 20 (by decide) (ht0 _ m_FL_X8_43) rfl (rfv (G := MG) (c := 0) (k := 20) (c' := 10) rfl) dX8_saves_297 ?_
    refine lv_iload hx hb dX8_saves_300 (lv_at hl 4 rfl) ?_
    refine lv_iconst (v := 1) hx hb dX8_saves_302 (by decide) ?_
    refine lv_iadd hx hb dX8_saves_303 ?_
    refine lv_aload_n hx hb dX8_saves_304 rfl (lv_at hl 0 rfl) ?_
    refine x_get hx hb ht0 u_X8 hown hK hP (mk_0).1 (ce8 (mk_0).2) rfl 26 (by decide) (ht0 _ m_FL_X8_52) rfl (rfv (G := MG) (c := 0) (k := 26) (c' := 13) rfl) dX8_saves_305 ?_
    refine lv_iconst (v := 0) hx hb dX8_saves_308 (by decide) ?_
    obtain ⟨b18, h⟩ := x_if h
    refine x_ald hx hb hK hP mk_13 b18 dX8_saves_309 ?_
    obtain ⟨b19, h⟩ := x_if h
    refine x_ast hx hb hK ij hP hS mk_10 b19 dX8_saves_310 (fun H locs hP hS => ?_)
    exact L311 x2 x3 x5 x6 (up2 (up2 D 10 (Int32.toNatClampNeg x5) x1) 10 (Int32.toNatClampNeg (x5 + 1)) ((up2 D 10 (Int32.toNatClampNeg x5) x1) 13 (Int32.toNatClampNeg 0))) _ _ _ h hP hS (lv_sub hl [0, 2, 3, 4, 5] rfl)
  have L258 : ∀ (x1 x2 x3 x6 x7 : Int32) (D : Mm) (H : Heap) (locs : List Loc) (ls : Array Slot), P_X8_saves_258 (gN MG) F x1 x2 x3 x6 x7 D = some (r0, D') → va_P dd vwCl (wW Y MG ad D) H → va_S (pA MG ad) s.heap H locs → lv_has ls 10 [(0, .ref (ad 0)), (1, .int x1), (2, .int x2), (3, .int x3), (6, .int x6), (7, .int x7)] → W p l e (headSpec wzX8_saves rm_X8_saves).room s m ([.ref (ad 0), .int a1, .int a2, .int a3, .int a4].toArray) below meth c H locs 0 0 (MQ below (Qi dd Y MG ad .boolean r0 D') ([.ref (ad 0), .int a1, .int a2, .int a3, .int a4].toArray) s 0 0 (pA MG ad)) (F0 m 258 ls []) := by
    intro x1 x2 x3 x6 x7 D H locs ls h hP hS hl
    have h : ((bi (P_X8_setFree (gN MG) F 9 x7 0 D) (fun r20 D20 => P_X8_saves_288 (gN MG) F x1 x2 x3 ((64 * (D 0 23)) + 2) x6 (up2 D20 0 23 ((D20 0 23) + 1)))) : Rs) = some (r0, D') := h
    refine lv_bipush (v := 64) hx hb dX8_saves_258 (by decide) ?_
    refine lv_aload_n hx hb dX8_saves_260 rfl (lv_at hl 0 rfl) ?_
    refine x_get hx hb ht0 u_X8 hown hK hP (mk_0).1 (ce8 (mk_0).2) rfl 23 (by decide) (ht0 _ m_FL_X8_156) rfl rfl dX8_saves_261 ?_
    refine lv_imul hx hb dX8_saves_264 ?_
    refine lv_iconst (v := 2) hx hb dX8_saves_265 (by decide) ?_
    refine lv_iadd hx hb dX8_saves_266 ?_
    refine lv_istore (lv' := [(5, .int ((64 * (D 0 23)) + 2)), (0, .ref (ad 0)), (1, .int x1), (2, .int x2), (3, .int x3), (6, .int x6), (7, .int x7)]) hx hb dX8_saves_267 hl (by decide) rfl (fun ls hl => ?_)
    refine lv_aload_n hx hb dX8_saves_269 rfl (lv_at hl 1 rfl) ?_
    refine lv_bipush (v := 9) hx hb dX8_saves_270 (by decide) ?_
    refine lv_iload hx hb dX8_saves_272 (lv_at hl 6 rfl) ?_
    refine lv_iconst (v := 0) hx hb dX8_saves_274 (by decide) ?_
    obtain ⟨r20, D20, hc20, h⟩ := bi_some h
    refine x_callVv (As := [.int 9, .int x7, .int 0]) ⟨hx, hb, hml, hown, ht0⟩ hK hT hP hS (c_X8_setFree l dd Y t ad ij F 9 x7 0 _ _ _ hc20) m_ML_X8_176 sv_X8_setFree hd_X8_setFree rfl rfl ⟨Nat.le_of_ble_eq_true rfl, Nat.le_of_ble_eq_true rfl⟩ (mk_0).1 (ce8 (mk_0).2) rfl rfl hl.1 rfl (Nat.le_of_ble_eq_true rfl) dX8_saves_275 ⟨Nat.zero_le _, Nat.zero_le _⟩ (fun H locs hP hS => ?_)
    refine lv_aload_n hx hb dX8_saves_278 rfl (lv_at hl 1 rfl) ?_
    refine lv_dup hx hb dX8_saves_279 rfl ?_
    refine x_get hx hb ht0 u_X8 hown hK hP (mk_0).1 (ce8 (mk_0).2) rfl 23 (by decide) (ht0 _ m_FL_X8_156) rfl rfl dX8_saves_280 ?_
    refine lv_iconst (v := 1) hx hb dX8_saves_283 (by decide) ?_
    refine lv_iadd hx hb dX8_saves_284 ?_
    refine x_put (ty := .int) hx hb ht0 u_X8 tyX8 tyX8_ok nmX8 hown hK ij hP hS (mk_0).1 (ce8 (mk_0).2) rfl 23 (by decide) (ht0 _ m_FL_X8_156) rfl rfl (by decide +kernel) rfl rfl (Nat.le_of_ble_eq_true rfl) (by rw [(mk_0).2]; rfl) dX8_saves_285 (fun H locs hP hS => ?_)
    exact L288 x1 x2 x3 ((64 * (D 0 23)) + 2) x6 (up2 D20 0 23 ((D20 0 23) + 1)) _ _ _ h hP hS (lv_sub hl [1, 2, 3, 4, 0, 5] rfl)
  have L207 : ∀ (n : Nat), ∀ (x1 x2 x3 x6 x7 x9 : Int32) (D : Mm) (H : Heap) (locs : List Loc) (ls : Array Slot), P_X8_saves_207 (gN MG) F n x1 x2 x3 x6 x7 x9 D = some (r0, D') → va_P dd vwCl (wW Y MG ad D) H → va_S (pA MG ad) s.heap H locs → lv_has ls 10 [(0, .ref (ad 0)), (1, .int x1), (2, .int x2), (3, .int x3), (6, .int x6), (7, .int x7), (9, .int x9)] → W p l e (headSpec wzX8_saves rm_X8_saves).room s m ([.ref (ad 0), .int a1, .int a2, .int a3, .int a4].toArray) below meth c H locs 0 0 (MQ below (Qi dd Y MG ad .boolean r0 D') ([.ref (ad 0), .int a1, .int a2, .int a3, .int a4].toArray) s 0 0 (pA MG ad)) (F0 m 207 ls []) := by
    intro n
    induction n with
    | zero =>
      intro x1 x2 x3 x6 x7 x9 D H locs ls h hP hS hl
      cases h
    | succ n ih =>
      intro x1 x2 x3 x6 x7 x9 D H locs ls h hP hS hl
      have h : ((if 64 ≤ x9 then (if inB (D 0 23) ((gN MG) 11) = true then (if inB ((up2 D 11 (Int32.toNatClampNeg (D 0 23)) 9) 0 23) ((gN MG) 12) = true then (P_X8_saves_258 (gN MG) F x1 x2 x3 x6 x7 (up2 (up2 D 11 (Int32.toNatClampNeg (D 0 23)) 9) 12 (Int32.toNatClampNeg ((up2 D 11 (Int32.toNatClampNeg (D 0 23)) 9) 0 23)) x7)) else none) else none) else (if inB ((64 * (D 0 23)) + x9) ((gN MG) 10) = true then (P_X8_saves_207 (gN MG) F n x1 x2 x3 x6 x7 (x9 + 1) (up2 D 10 (Int32.toNatClampNeg ((64 * (D 0 23)) + x9)) 0)) else none)) : Rs) = some (r0, D') := h
      refine lv_iload hx hb dX8_saves_207 (lv_at hl 6 rfl) ?_
      refine lv_bipush (v := 64) hx hb dX8_saves_209 (by decide) ?_
      refine lv_icmp_ge (tgt := 236) hx hb dX8_saves_211 (by decide) (fun c21 => ?_) (fun c21 => ?_)
      · have h := x_t (show 64 ≤ x9 from c21) h
        refine lv_aload_n hx hb dX8_saves_236 rfl (lv_at hl 0 rfl) ?_
        refine x_get hx hb ht0 u_X8 hown hK hP (mk_0).1 (ce8 (mk_0).2) rfl 21 (by decide) (ht0 _ m_FL_X8_46) rfl (rfv (G := MG) (c := 0) (k := 21) (c' := 11) rfl) dX8_saves_237 ?_
        refine lv_aload_n hx hb dX8_saves_240 rfl (lv_at hl 0 rfl) ?_
        refine x_get hx hb ht0 u_X8 hown hK hP (mk_0).1 (ce8 (mk_0).2) rfl 23 (by decide) (ht0 _ m_FL_X8_156) rfl rfl dX8_saves_241 ?_
        refine lv_bipush (v := 9) hx hb dX8_saves_244 (by decide) ?_
        obtain ⟨b22, h⟩ := x_if h
        refine x_ast hx hb hK ij hP hS mk_11 b22 dX8_saves_246 (fun H locs hP hS => ?_)
        refine lv_aload_n hx hb dX8_saves_247 rfl (lv_at hl 0 rfl) ?_
        refine x_get hx hb ht0 u_X8 hown hK hP (mk_0).1 (ce8 (mk_0).2) rfl 22 (by decide) (ht0 _ m_FL_X8_49) rfl (rfv (G := MG) (c := 0) (k := 22) (c' := 12) rfl) dX8_saves_248 ?_
        refine lv_aload_n hx hb dX8_saves_251 rfl (lv_at hl 0 rfl) ?_
        refine x_get hx hb ht0 u_X8 hown hK hP (mk_0).1 (ce8 (mk_0).2) rfl 23 (by decide) (ht0 _ m_FL_X8_156) rfl rfl dX8_saves_252 ?_
        refine lv_iload hx hb dX8_saves_255 (lv_at hl 5 rfl) ?_
        obtain ⟨b23, h⟩ := x_if h
        refine x_ast hx hb hK ij hP hS mk_12 b23 dX8_saves_257 (fun H locs hP hS => ?_)
        exact L258 x1 x2 x3 x6 x7 (up2 (up2 D 11 (Int32.toNatClampNeg (D 0 23)) 9) 12 (Int32.toNatClampNeg ((up2 D 11 (Int32.toNatClampNeg (D 0 23)) 9) 0 23)) x7) _ _ _ h hP hS (lv_sub hl [0, 1, 2, 3, 4, 5] rfl)
      · have h := x_f (show ¬ (64 ≤ x9) from c21) h
        refine lv_aload_n hx hb dX8_saves_214 rfl (lv_at hl 0 rfl) ?_
        refine x_get hx hb ht0 u_X8 hown hK hP (mk_0).1 (ce8 (mk_0).2) rfl 20 (by decide) (ht0 _ m_FL_X8_43) rfl (rfv (G := MG) (c := 0) (k := 20) (c' := 10) rfl) dX8_saves_215 ?_
        refine lv_bipush (v := 64) hx hb dX8_saves_218 (by decide) ?_
        refine lv_aload_n hx hb dX8_saves_220 rfl (lv_at hl 0 rfl) ?_
        refine x_get hx hb ht0 u_X8 hown hK hP (mk_0).1 (ce8 (mk_0).2) rfl 23 (by decide) (ht0 _ m_FL_X8_156) rfl rfl dX8_saves_221 ?_
        refine lv_imul hx hb dX8_saves_224 ?_
        refine lv_iload hx hb dX8_saves_225 (lv_at hl 6 rfl) ?_
        refine lv_iadd hx hb dX8_saves_227 ?_
        refine lv_iconst (v := 0) hx hb dX8_saves_228 (by decide) ?_
        obtain ⟨b24, h⟩ := x_if h
        refine x_ast hx hb hK ij hP hS mk_10 b24 dX8_saves_229 (fun H locs hP hS => ?_)
        refine lv_iinc (v := x9 + 1) (lv' := [(9, .int (x9 + 1)), (0, .ref (ad 0)), (1, .int x1), (2, .int x2), (3, .int x3), (6, .int x6), (7, .int x7)]) hx hb dX8_saves_230 hl (k := 6) rfl rfl (by decide) rfl (fun ls hl => ?_)
        refine lv_goto (tgt := 207) hx hb dX8_saves_233 (by decide) ?_
        exact ih x1 x2 x3 x6 x7 (x9 + 1) (up2 D 10 (Int32.toNatClampNeg ((64 * (D 0 23)) + x9)) 0) _ _ _ h hP hS (lv_sub hl [1, 2, 3, 4, 5, 6, 0] rfl)
  have L204 : ∀ (x1 x2 x3 x6 x7 : Int32) (D : Mm) (H : Heap) (locs : List Loc) (ls : Array Slot), P_X8_saves_204 (gN MG) F x1 x2 x3 x6 x7 D = some (r0, D') → va_P dd vwCl (wW Y MG ad D) H → va_S (pA MG ad) s.heap H locs → lv_has ls 10 [(0, .ref (ad 0)), (1, .int x1), (2, .int x2), (3, .int x3), (6, .int x6), (7, .int x7)] → W p l e (headSpec wzX8_saves rm_X8_saves).room s m ([.ref (ad 0), .int a1, .int a2, .int a3, .int a4].toArray) below meth c H locs 0 0 (MQ below (Qi dd Y MG ad .boolean r0 D') ([.ref (ad 0), .int a1, .int a2, .int a3, .int a4].toArray) s 0 0 (pA MG ad)) (F0 m 204 ls []) := by
    intro x1 x2 x3 x6 x7 D H locs ls h hP hS hl
    have h : ((P_X8_saves_207 (gN MG) F F x1 x2 x3 x6 x7 0 D) : Rs) = some (r0, D') := h
    refine lv_iconst (v := 0) hx hb dX8_saves_204 (by decide) ?_
    refine lv_istore (lv' := [(9, .int 0), (0, .ref (ad 0)), (1, .int x1), (2, .int x2), (3, .int x3), (6, .int x6), (7, .int x7)]) hx hb dX8_saves_205 hl (by decide) rfl (fun ls hl => ?_)
    exact L207 F x1 x2 x3 x6 x7 0 D _ _ _ h hP hS (lv_sub hl [1, 2, 3, 4, 5, 6, 0] rfl)
  have L137 : ∀ (D : Mm) (H : Heap) (locs : List Loc) (ls : Array Slot), P_X8_saves_137 (gN MG) F D = some (r0, D') → va_P dd vwCl (wW Y MG ad D) H → va_S (pA MG ad) s.heap H locs → lv_has ls 10 [(0, .ref (ad 0))] → W p l e (headSpec wzX8_saves rm_X8_saves).room s m ([.ref (ad 0), .int a1, .int a2, .int a3, .int a4].toArray) below meth c H locs 0 0 (MQ below (Qi dd Y MG ad .boolean r0 D') ([.ref (ad 0), .int a1, .int a2, .int a3, .int a4].toArray) s 0 0 (pA MG ad)) (F0 m 137 ls []) := by
    intro D H locs ls h hP hS hl
    have h : ((bi (P_X8_ends (gN MG) F 72 0 0 D) (fun r25 D25 => if r25 = 0 then (some (1, D25)) else (some (0, D25)))) : Rs) = some (r0, D') := h
    refine lv_aload_n hx hb dX8_saves_137 rfl (lv_at hl 0 rfl) ?_
    refine lv_bipush (v := 72) hx hb dX8_saves_138 (by decide) ?_
    refine lv_iconst (v := 0) hx hb dX8_saves_140 (by decide) ?_
    refine lv_iconst (v := 0) hx hb dX8_saves_141 (by decide) ?_
    obtain ⟨r25, D25, hc25, h⟩ := bi_some h
    refine x_callVi (As := [.int 72, .int 0, .int 0]) ⟨hx, hb, hml, hown, ht0⟩ hK hT hP hS (c_X8_ends l dd Y t ad ij F 72 0 0 _ _ _ hc25) m_ML_X8_143 sv_X8_ends hd_X8_ends rfl rfl ⟨Nat.le_of_ble_eq_true rfl, Nat.le_of_ble_eq_true rfl⟩ (mk_0).1 (ce8 (mk_0).2) rfl rfl hl.1 rfl (Nat.le_of_ble_eq_true rfl) dX8_saves_142 ⟨Nat.zero_le _, Nat.zero_le _⟩ (fun H locs hn_r25 hP hS => ?_)
    refine lv_if_ne (tgt := 152) hx hb dX8_saves_145 (by decide) (fun c26 => ?_) (fun c26 => ?_)
    · have h := x_f (show ¬ (r25 = 0) from c26) h
      refine lv_iconst (v := 0) hx hb dX8_saves_152 (by decide) ?_
      exact x_iret hx hb hr hlocks rfl hP hS h dX8_saves_153
    · have h := x_t (show r25 = 0 from c26) h
      refine lv_iconst (v := 1) hx hb dX8_saves_148 (by decide) ?_
      refine lv_goto (tgt := 153) hx hb dX8_saves_149 (by decide) ?_
      exact x_iret hx hb hr hlocks rfl hP hS h dX8_saves_153
  have L131 : ∀ (x1 x2 x3 x4 x5 x6 x7 s1 : Int32) (D : Mm) (H : Heap) (locs : List Loc) (ls : Array Slot), P_X8_saves_131 (gN MG) F x1 x2 x3 x4 x5 x6 x7 s1 D = some (r0, D') → va_P dd vwCl (wW Y MG ad D) H → va_S (pA MG ad) s.heap H locs → lv_has ls 10 [(0, .ref (ad 0)), (1, .int x1), (2, .int x2), (3, .int x3), (4, .int x4), (5, .int x5), (6, .int x6), (7, .int x7)] → W p l e (headSpec wzX8_saves rm_X8_saves).room s m ([.ref (ad 0), .int a1, .int a2, .int a3, .int a4].toArray) below meth c H locs 0 0 (MQ below (Qi dd Y MG ad .boolean r0 D') ([.ref (ad 0), .int a1, .int a2, .int a3, .int a4].toArray) s 0 0 (pA MG ad)) (F0 m 131 ls [.int s1, .ref (ad 0)]) := by
    intro x1 x2 x3 x4 x5 x6 x7 s1 D H locs ls h hP hS hl
    have h : ((bi (P_X8_takes (gN MG) F s1 D) (fun r27 D27 => if r27 = 0 then (P_X8_saves_137 (gN MG) F D27) else (bi (P_X8_writeFile (gN MG) F x4 D27) (fun r29 D29 => if r29 = 0 then (some (0, D29)) else (if x6 = 0 then (P_X8_saves_288 (gN MG) F x1 x2 x3 x5 x6 D29) else (if inB (64 * ((D29 0 23) - 1)) ((gN MG) 10) = true then (if inB ((64 * ((D29 0 23) - 1)) + 1) ((gN MG) 10) = true then (P_X8_saves_204 (gN MG) F x1 x2 x3 x6 x7 (up2 (up2 D29 10 (Int32.toNatClampNeg (64 * ((D29 0 23) - 1))) 9) 10 (Int32.toNatClampNeg ((64 * ((D29 0 23) - 1)) + 1)) x7)) else none) else none)))))) : Rs) = some (r0, D') := h
    obtain ⟨r27, D27, hc27, h⟩ := bi_some h
    refine x_callVi (As := [.int s1]) ⟨hx, hb, hml, hown, ht0⟩ hK hT hP hS (c_X8_takes l dd Y t ad ij F s1 _ _ _ hc27) m_ML_X8_201 sv_X8_takes hd_X8_takes rfl rfl ⟨Nat.le_of_ble_eq_true rfl, Nat.le_of_ble_eq_true rfl⟩ (mk_0).1 (ce8 (mk_0).2) rfl rfl hl.1 rfl (Nat.le_of_ble_eq_true rfl) dX8_saves_131 ⟨Nat.zero_le _, Nat.zero_le _⟩ (fun H locs hn_r27 hP hS => ?_)
    refine lv_if_ne (tgt := 154) hx hb dX8_saves_134 (by decide) (fun c28 => ?_) (fun c28 => ?_)
    · have h := x_f (show ¬ (r27 = 0) from c28) h
      refine lv_aload_n hx hb dX8_saves_154 rfl (lv_at hl 0 rfl) ?_
      refine lv_iload hx hb dX8_saves_155 (lv_at hl 4 rfl) ?_
      obtain ⟨r29, D29, hc29, h⟩ := bi_some h
      refine x_callVi (As := [.int x4]) ⟨hx, hb, hml, hown, ht0⟩ hK hT hP hS (c_X8_writeFile l dd Y t ad ij F x4 _ _ _ hc29) m_ML_X8_204 sv_X8_writeFile hd_X8_writeFile rfl rfl ⟨Nat.le_of_ble_eq_true rfl, Nat.le_of_ble_eq_true rfl⟩ (mk_0).1 (ce8 (mk_0).2) rfl rfl hl.1 rfl (Nat.le_of_ble_eq_true rfl) dX8_saves_157 ⟨Nat.zero_le _, Nat.zero_le _⟩ (fun H locs hn_r29 hP hS => ?_)
      refine lv_if_ne (tgt := 165) hx hb dX8_saves_160 (by decide) (fun c30 => ?_) (fun c30 => ?_)
      · have h := x_f (show ¬ (r29 = 0) from c30) h
        refine lv_iload hx hb dX8_saves_165 (lv_at hl 6 rfl) ?_
        refine lv_if_eq (tgt := 288) hx hb dX8_saves_167 (by decide) (fun c31 => ?_) (fun c31 => ?_)
        · have h := x_t (show x6 = 0 from c31) h
          exact L288 x1 x2 x3 x5 x6 D29 _ _ _ h hP hS (lv_sub hl [0, 1, 2, 3, 5, 6] rfl)
        · have h := x_f (show ¬ (x6 = 0) from c31) h
          refine lv_aload_n hx hb dX8_saves_170 rfl (lv_at hl 0 rfl) ?_
          refine x_get hx hb ht0 u_X8 hown hK hP (mk_0).1 (ce8 (mk_0).2) rfl 23 (by decide) (ht0 _ m_FL_X8_156) rfl rfl dX8_saves_171 ?_
          refine lv_iconst (v := 1) hx hb dX8_saves_174 (by decide) ?_
          refine lv_isub hx hb dX8_saves_175 ?_
          refine lv_istore (lv' := [(8, .int ((D29 0 23) - 1)), (0, .ref (ad 0)), (1, .int x1), (2, .int x2), (3, .int x3), (4, .int x4), (5, .int x5), (6, .int x6), (7, .int x7)]) hx hb dX8_saves_176 hl (by decide) rfl (fun ls hl => ?_)
          refine lv_aload_n hx hb dX8_saves_178 rfl (lv_at hl 1 rfl) ?_
          refine x_get hx hb ht0 u_X8 hown hK hP (mk_0).1 (ce8 (mk_0).2) rfl 20 (by decide) (ht0 _ m_FL_X8_43) rfl (rfv (G := MG) (c := 0) (k := 20) (c' := 10) rfl) dX8_saves_179 ?_
          refine lv_bipush (v := 64) hx hb dX8_saves_182 (by decide) ?_
          refine lv_iload hx hb dX8_saves_184 (lv_at hl 0 rfl) ?_
          refine lv_imul hx hb dX8_saves_186 ?_
          refine lv_bipush (v := 9) hx hb dX8_saves_187 (by decide) ?_
          obtain ⟨b32, h⟩ := x_if h
          refine x_ast hx hb hK ij hP hS mk_10 b32 dX8_saves_189 (fun H locs hP hS => ?_)
          refine lv_aload_n hx hb dX8_saves_190 rfl (lv_at hl 1 rfl) ?_
          refine x_get hx hb ht0 u_X8 hown hK hP (mk_0).1 (ce8 (mk_0).2) rfl 20 (by decide) (ht0 _ m_FL_X8_43) rfl (rfv (G := MG) (c := 0) (k := 20) (c' := 10) rfl) dX8_saves_191 ?_
          refine lv_bipush (v := 64) hx hb dX8_saves_194 (by decide) ?_
          refine lv_iload hx hb dX8_saves_196 (lv_at hl 0 rfl) ?_
          refine lv_imul hx hb dX8_saves_198 ?_
          refine lv_iconst (v := 1) hx hb dX8_saves_199 (by decide) ?_
          refine lv_iadd hx hb dX8_saves_200 ?_
          refine lv_iload hx hb dX8_saves_201 (lv_at hl 8 rfl) ?_
          obtain ⟨b33, h⟩ := x_if h
          refine x_ast hx hb hK ij hP hS mk_10 b33 dX8_saves_203 (fun H locs hP hS => ?_)
          exact L204 x1 x2 x3 x6 x7 (up2 (up2 D29 10 (Int32.toNatClampNeg (64 * ((D29 0 23) - 1))) 9) 10 (Int32.toNatClampNeg ((64 * ((D29 0 23) - 1)) + 1)) x7) _ _ _ h hP hS (lv_sub hl [1, 2, 3, 4, 7, 8] rfl)
      · have h := x_t (show r29 = 0 from c30) h
        refine lv_iconst (v := 0) hx hb dX8_saves_163 (by decide) ?_
        exact x_iret hx hb hr hlocks rfl hP hS h dX8_saves_164
    · have h := x_t (show r27 = 0 from c28) h
      exact L137 D27 _ _ _ h hP hS (lv_sub hl [0] rfl)
  have L111 : ∀ (x1 x2 x3 x4 x5 x6 x7 : Int32) (D : Mm) (H : Heap) (locs : List Loc) (ls : Array Slot), P_X8_saves_111 (gN MG) F x1 x2 x3 x4 x5 x6 x7 D = some (r0, D') → va_P dd vwCl (wW Y MG ad D) H → va_S (pA MG ad) s.heap H locs → lv_has ls 10 [(0, .ref (ad 0)), (1, .int x1), (2, .int x2), (3, .int x3), (4, .int x4), (5, .int x5), (6, .int x6), (7, .int x7)] → W p l e (headSpec wzX8_saves rm_X8_saves).room s m ([.ref (ad 0), .int a1, .int a2, .int a3, .int a4].toArray) below meth c H locs 0 0 (MQ below (Qi dd Y MG ad .boolean r0 D') ([.ref (ad 0), .int a1, .int a2, .int a3, .int a4].toArray) s 0 0 (pA MG ad)) (F0 m 111 ls []) := by
    intro x1 x2 x3 x4 x5 x6 x7 D H locs ls h hP hS hl
    have h : ((if x4 = 0 then (P_X8_saves_131 (gN MG) F x1 x2 x3 x4 x5 x6 x7 1 D) else (P_X8_saves_131 (gN MG) F x1 x2 x3 x4 x5 x6 x7 (((x4 + 62) - 1) / 62) D)) : Rs) = some (r0, D') := h
    refine lv_aload_n hx hb dX8_saves_111 rfl (lv_at hl 0 rfl) ?_
    refine lv_iload hx hb dX8_saves_112 (lv_at hl 4 rfl) ?_
    refine lv_if_ne (tgt := 121) hx hb dX8_saves_114 (by decide) (fun c34 => ?_) (fun c34 => ?_)
    · have h := x_f (show ¬ (x4 = 0) from c34) h
      refine lv_iload hx hb dX8_saves_121 (lv_at hl 4 rfl) ?_
      refine lv_bipush (v := 62) hx hb dX8_saves_123 (by decide) ?_
      refine lv_iadd hx hb dX8_saves_125 ?_
      refine lv_iconst (v := 1) hx hb dX8_saves_126 (by decide) ?_
      refine lv_isub hx hb dX8_saves_127 ?_
      refine lv_bipush (v := 62) hx hb dX8_saves_128 (by decide) ?_
      refine lv_idiv hx hb dX8_saves_130 (by decide) ?_
      exact L131 x1 x2 x3 x4 x5 x6 x7 (((x4 + 62) - 1) / 62) D _ _ _ h hP hS (lv_sub hl [0, 1, 2, 3, 4, 5, 6, 7] rfl)
    · have h := x_t (show x4 = 0 from c34) h
      refine lv_iconst (v := 1) hx hb dX8_saves_117 (by decide) ?_
      refine lv_goto (tgt := 131) hx hb dX8_saves_118 (by decide) ?_
      exact L131 x1 x2 x3 x4 x5 x6 x7 1 D _ _ _ h hP hS (lv_sub hl [0, 1, 2, 3, 4, 5, 6, 7] rfl)
  have L75 : ∀ (x1 x2 x3 x4 x5 s0 : Int32) (D : Mm) (H : Heap) (locs : List Loc) (ls : Array Slot), P_X8_saves_75 (gN MG) F x1 x2 x3 x4 x5 s0 D = some (r0, D') → va_P dd vwCl (wW Y MG ad D) H → va_S (pA MG ad) s.heap H locs → lv_has ls 10 [(0, .ref (ad 0)), (1, .int x1), (2, .int x2), (3, .int x3), (4, .int x4), (5, .int x5)] → W p l e (headSpec wzX8_saves rm_X8_saves).room s m ([.ref (ad 0), .int a1, .int a2, .int a3, .int a4].toArray) below meth c H locs 0 0 (MQ below (Qi dd Y MG ad .boolean r0 D') ([.ref (ad 0), .int a1, .int a2, .int a3, .int a4].toArray) s 0 0 (pA MG ad)) (F0 m 75 ls [.int s0]) := by
    intro x1 x2 x3 x4 x5 s0 D H locs ls h hP hS hl
    have h : ((if s0 = 0 then (if s0 = 0 then (P_X8_saves_111 (gN MG) F x1 x2 x3 x4 x5 s0 0 D) else (if (D 0 23) = 7 then (P_X8_saves_137 (gN MG) F D) else (P_X8_saves_111 (gN MG) F x1 x2 x3 x4 x5 s0 0 D))) else (bi (P_X8_freeOfDirectory (gN MG) F D) (fun r39 D39 => if s0 = 0 then (P_X8_saves_111 (gN MG) F x1 x2 x3 x4 x5 s0 r39 D39) else (if r39 < 0 then (P_X8_saves_137 (gN MG) F D39) else (if (D39 0 23) = 7 then (P_X8_saves_137 (gN MG) F D39) else (P_X8_saves_111 (gN MG) F x1 x2 x3 x4 x5 s0 r39 D39)))))) : Rs) = some (r0, D') := h
    refine lv_istore (lv' := [(6, .int s0), (0, .ref (ad 0)), (1, .int x1), (2, .int x2), (3, .int x3), (4, .int x4), (5, .int x5)]) hx hb dX8_saves_75 hl (by decide) rfl (fun ls hl => ?_)
    refine lv_iload hx hb dX8_saves_77 (lv_at hl 0 rfl) ?_
    refine lv_if_eq (tgt := 89) hx hb dX8_saves_79 (by decide) (fun c35 => ?_) (fun c35 => ?_)
    · have h := x_t (show s0 = 0 from c35) h
      refine lv_iconst (v := 0) hx hb dX8_saves_89 (by decide) ?_
      refine lv_istore (lv' := [(7, .int 0), (6, .int s0), (0, .ref (ad 0)), (1, .int x1), (2, .int x2), (3, .int x3), (4, .int x4), (5, .int x5)]) hx hb dX8_saves_90 hl (by decide) rfl (fun ls hl => ?_)
      refine lv_iload hx hb dX8_saves_92 (lv_at hl 1 rfl) ?_
      refine lv_if_eq (tgt := 111) hx hb dX8_saves_94 (by decide) (fun c36 => ?_) (fun c36 => ?_)
      · have h := x_t (show s0 = 0 from c36) h
        exact L111 x1 x2 x3 x4 x5 s0 0 D _ _ _ h hP hS (lv_sub hl [2, 3, 4, 5, 6, 7, 1, 0] rfl)
      · have h := x_f (show ¬ (s0 = 0) from c36) h
        refine lv_iload hx hb dX8_saves_97 (lv_at hl 0 rfl) ?_
        refine lv_if_lt (tgt := 137) hx hb dX8_saves_99 (by decide) (fun c37 => ?_) (fun c37 => ?_)
        · exact absurd c37 (by decide)
        · have h := h
          refine lv_aload_n hx hb dX8_saves_102 rfl (lv_at hl 2 rfl) ?_
          refine x_get hx hb ht0 u_X8 hown hK hP (mk_0).1 (ce8 (mk_0).2) rfl 23 (by decide) (ht0 _ m_FL_X8_156) rfl rfl dX8_saves_103 ?_
          refine lv_bipush (v := 7) hx hb dX8_saves_106 (by decide) ?_
          refine lv_icmp_eq (tgt := 137) hx hb dX8_saves_108 (by decide) (fun c38 => ?_) (fun c38 => ?_)
          · have h := x_t (show (D 0 23) = 7 from c38) h
            exact L137 D _ _ _ h hP hS (lv_sub hl [2] rfl)
          · have h := x_f (show ¬ ((D 0 23) = 7) from c38) h
            exact L111 x1 x2 x3 x4 x5 s0 0 D _ _ _ h hP hS (lv_sub hl [2, 3, 4, 5, 6, 7, 1, 0] rfl)
    · have h := x_f (show ¬ (s0 = 0) from c35) h
      refine lv_aload_n hx hb dX8_saves_82 rfl (lv_at hl 1 rfl) ?_
      obtain ⟨r39, D39, hc39, h⟩ := bi_some h
      refine x_callVi (As := []) ⟨hx, hb, hml, hown, ht0⟩ hK hT hP hS (c_X8_freeOfDirectory l dd Y t ad ij F  _ _ _ hc39) m_ML_X8_198 sv_X8_freeOfDirectory hd_X8_freeOfDirectory rfl rfl ⟨Nat.le_of_ble_eq_true rfl, Nat.le_of_ble_eq_true rfl⟩ (mk_0).1 (ce8 (mk_0).2) rfl rfl hl.1 rfl (Nat.le_of_ble_eq_true rfl) dX8_saves_83 ⟨Nat.zero_le _, Nat.zero_le _⟩ (fun H locs hn_r39 hP hS => ?_)
      refine lv_goto (tgt := 90) hx hb dX8_saves_86 (by decide) ?_
      refine lv_istore (lv' := [(7, .int r39), (6, .int s0), (0, .ref (ad 0)), (1, .int x1), (2, .int x2), (3, .int x3), (4, .int x4), (5, .int x5)]) hx hb dX8_saves_90 hl (by decide) rfl (fun ls hl => ?_)
      refine lv_iload hx hb dX8_saves_92 (lv_at hl 1 rfl) ?_
      refine lv_if_eq (tgt := 111) hx hb dX8_saves_94 (by decide) (fun c40 => ?_) (fun c40 => ?_)
      · have h := x_t (show s0 = 0 from c40) h
        exact L111 x1 x2 x3 x4 x5 s0 r39 D39 _ _ _ h hP hS (lv_sub hl [2, 3, 4, 5, 6, 7, 1, 0] rfl)
      · have h := x_f (show ¬ (s0 = 0) from c40) h
        refine lv_iload hx hb dX8_saves_97 (lv_at hl 0 rfl) ?_
        refine lv_if_lt (tgt := 137) hx hb dX8_saves_99 (by decide) (fun c41 => ?_) (fun c41 => ?_)
        · have h := x_t (show r39 < 0 from c41) h
          exact L137 D39 _ _ _ h hP hS (lv_sub hl [2] rfl)
        · have h := x_f (show ¬ (r39 < 0) from c41) h
          refine lv_aload_n hx hb dX8_saves_102 rfl (lv_at hl 2 rfl) ?_
          refine x_get hx hb ht0 u_X8 hown hK hP (mk_0).1 (ce8 (mk_0).2) rfl 23 (by decide) (ht0 _ m_FL_X8_156) rfl rfl dX8_saves_103 ?_
          refine lv_bipush (v := 7) hx hb dX8_saves_106 (by decide) ?_
          refine lv_icmp_eq (tgt := 137) hx hb dX8_saves_108 (by decide) (fun c42 => ?_) (fun c42 => ?_)
          · have h := x_t (show (D39 0 23) = 7 from c42) h
            exact L137 D39 _ _ _ h hP hS (lv_sub hl [2] rfl)
          · have h := x_f (show ¬ ((D39 0 23) = 7) from c42) h
            exact L111 x1 x2 x3 x4 x5 s0 r39 D39 _ _ _ h hP hS (lv_sub hl [2, 3, 4, 5, 6, 7, 1, 0] rfl)
  have hl := lv_entry ([.ref (ad 0), .int a1, .int a2, .int a3, .int a4]) (n := 10) (Nat.le_of_ble_eq_true rfl)
  rw [lg_entry_eq]
  generalize (lg_sl ([.ref (ad 0), .int a1, .int a2, .int a3, .int a4]) ++ List.replicate (10 - (lg_sl ([.ref (ad 0), .int a1, .int a2, .int a3, .int a4])).length) Slot.unset).toArray = ls at hl ⊢
  have hl : lv_has ls 10 [(0, .ref (ad 0)), (1, .int a1), (2, .int a2), (3, .int a3), (4, .int a4)] := hl
  have hP : va_P dd vwCl (wW Y MG ad D0) s.heap := hP
  generalize D0 = D at h hP
  have h : ((bi (P_X8_begins (gN MG) F D) (fun r43 D43 => if r43 = 0 then (some (0, D43)) else (bi (P_X8_readDirectory (gN MG) F 1 a2 a3 D43) (fun r45 D45 => if r45 = 0 then (some (0, D45)) else (if (D45 0 24) < 0 then (bi (P_X8_emptyEntry (gN MG) F D45) (fun r48 D48 => if 0 ≤ r48 then (P_X8_saves_75 (gN MG) F a1 a2 a3 a4 r48 0 D48) else (P_X8_saves_75 (gN MG) F a1 a2 a3 a4 r48 1 D48))) else (if inB (D45 0 24) ((gN MG) 11) = true then (if inB (D45 0 24) ((gN MG) 12) = true then (bi (P_X8_ends (gN MG) F 63 (D45 11 (Int32.toNatClampNeg (D45 0 24))) (D45 12 (Int32.toNatClampNeg (D45 0 24))) D45) (fun r52 D52 => if r52 = 0 then (some (1, D52)) else (some (0, D52)))) else none) else none)))))) : Rs) = some (r0, D') := h
  refine lv_aload_n hx hb dX8_saves_0 rfl (lv_at hl 0 rfl) ?_
  obtain ⟨r43, D43, hc43, h⟩ := bi_some h
  refine x_callVi (As := []) ⟨hx, hb, hml, hown, ht0⟩ hK hT hP hS (c_X8_begins l dd Y t ad ij F  _ _ _ hc43) m_ML_X8_186 sv_X8_begins hd_X8_begins rfl rfl ⟨Nat.le_of_ble_eq_true rfl, Nat.le_of_ble_eq_true rfl⟩ (mk_0).1 (ce8 (mk_0).2) rfl rfl hl.1 rfl (Nat.le_of_ble_eq_true rfl) dX8_saves_1 ⟨Nat.zero_le _, Nat.zero_le _⟩ (fun H locs hn_r43 hP hS => ?_)
  refine lv_if_eq (tgt := 17) hx hb dX8_saves_4 (by decide) (fun c44 => ?_) (fun c44 => ?_)
  · have h := x_t (show r43 = 0 from c44) h
    refine lv_iconst (v := 0) hx hb dX8_saves_17 (by decide) ?_
    exact x_iret hx hb hr hlocks rfl hP hS h dX8_saves_18
  · have h := x_f (show ¬ (r43 = 0) from c44) h
    refine lv_aload_n hx hb dX8_saves_7 rfl (lv_at hl 0 rfl) ?_
    refine lv_iconst (v := 1) hx hb dX8_saves_8 (by decide) ?_
    refine lv_iload_n hx hb dX8_saves_9 rfl (lv_at hl 2 rfl) ?_
    refine lv_iload_n hx hb dX8_saves_10 rfl (lv_at hl 3 rfl) ?_
    obtain ⟨r45, D45, hc45, h⟩ := bi_some h
    refine x_callVi (As := [.int 1, .int a2, .int a3]) ⟨hx, hb, hml, hown, ht0⟩ hK hT hP hS (c_X8_readDirectory l dd Y t ad ij F 1 a2 a3 _ _ _ hc45) m_ML_X8_190 sv_X8_readDirectory hd_X8_readDirectory rfl rfl ⟨Nat.le_of_ble_eq_true rfl, Nat.le_of_ble_eq_true rfl⟩ (mk_0).1 (ce8 (mk_0).2) rfl rfl hl.1 rfl (Nat.le_of_ble_eq_true rfl) dX8_saves_11 ⟨Nat.zero_le _, Nat.zero_le _⟩ (fun H locs hn_r45 hP hS => ?_)
    refine lv_if_ne (tgt := 19) hx hb dX8_saves_14 (by decide) (fun c46 => ?_) (fun c46 => ?_)
    · have h := x_f (show ¬ (r45 = 0) from c46) h
      refine lv_aload_n hx hb dX8_saves_19 rfl (lv_at hl 0 rfl) ?_
      refine x_get hx hb ht0 u_X8 hown hK hP (mk_0).1 (ce8 (mk_0).2) rfl 24 (by decide) (ht0 _ m_FL_X8_159) rfl rfl dX8_saves_20 ?_
      refine lv_if_lt (tgt := 59) hx hb dX8_saves_23 (by decide) (fun c47 => ?_) (fun c47 => ?_)
      · have h := x_t (show (D45 0 24) < 0 from c47) h
        refine lv_aload_n hx hb dX8_saves_59 rfl (lv_at hl 0 rfl) ?_
        obtain ⟨r48, D48, hc48, h⟩ := bi_some h
        refine x_callVi (As := []) ⟨hx, hb, hml, hown, ht0⟩ hK hT hP hS (c_X8_emptyEntry l dd Y t ad ij F  _ _ _ hc48) m_ML_X8_194 sv_X8_emptyEntry hd_X8_emptyEntry rfl rfl ⟨Nat.le_of_ble_eq_true rfl, Nat.le_of_ble_eq_true rfl⟩ (mk_0).1 (ce8 (mk_0).2) rfl rfl hl.1 rfl (Nat.le_of_ble_eq_true rfl) dX8_saves_60 ⟨Nat.zero_le _, Nat.zero_le _⟩ (fun H locs hn_r48 hP hS => ?_)
        refine lv_istore (lv' := [(5, .int r48), (0, .ref (ad 0)), (1, .int a1), (2, .int a2), (3, .int a3), (4, .int a4)]) hx hb dX8_saves_63 hl (by decide) rfl (fun ls hl => ?_)
        refine lv_iload hx hb dX8_saves_65 (lv_at hl 0 rfl) ?_
        refine lv_if_ge (tgt := 74) hx hb dX8_saves_67 (by decide) (fun c49 => ?_) (fun c49 => ?_)
        · have h := x_t (show 0 ≤ r48 from c49) h
          refine lv_iconst (v := 0) hx hb dX8_saves_74 (by decide) ?_
          exact L75 a1 a2 a3 a4 r48 0 D48 _ _ _ h hP hS (lv_sub hl [1, 2, 3, 4, 5, 0] rfl)
        · have h := x_f (show ¬ (0 ≤ r48) from c49) h
          refine lv_iconst (v := 1) hx hb dX8_saves_70 (by decide) ?_
          refine lv_goto (tgt := 75) hx hb dX8_saves_71 (by decide) ?_
          exact L75 a1 a2 a3 a4 r48 1 D48 _ _ _ h hP hS (lv_sub hl [1, 2, 3, 4, 5, 0] rfl)
      · have h := x_f (show ¬ ((D45 0 24) < 0) from c47) h
        refine lv_aload_n hx hb dX8_saves_26 rfl (lv_at hl 0 rfl) ?_
        refine lv_bipush (v := 63) hx hb dX8_saves_27 (by decide) ?_
        refine lv_aload_n hx hb dX8_saves_29 rfl (lv_at hl 0 rfl) ?_
        refine x_get hx hb ht0 u_X8 hown hK hP (mk_0).1 (ce8 (mk_0).2) rfl 21 (by decide) (ht0 _ m_FL_X8_46) rfl (rfv (G := MG) (c := 0) (k := 21) (c' := 11) rfl) dX8_saves_30 ?_
        refine lv_aload_n hx hb dX8_saves_33 rfl (lv_at hl 0 rfl) ?_
        refine x_get hx hb ht0 u_X8 hown hK hP (mk_0).1 (ce8 (mk_0).2) rfl 24 (by decide) (ht0 _ m_FL_X8_159) rfl rfl dX8_saves_34 ?_
        obtain ⟨b50, h⟩ := x_if h
        refine x_ald hx hb hK hP mk_11 b50 dX8_saves_37 ?_
        refine lv_aload_n hx hb dX8_saves_38 rfl (lv_at hl 0 rfl) ?_
        refine x_get hx hb ht0 u_X8 hown hK hP (mk_0).1 (ce8 (mk_0).2) rfl 22 (by decide) (ht0 _ m_FL_X8_49) rfl (rfv (G := MG) (c := 0) (k := 22) (c' := 12) rfl) dX8_saves_39 ?_
        refine lv_aload_n hx hb dX8_saves_42 rfl (lv_at hl 0 rfl) ?_
        refine x_get hx hb ht0 u_X8 hown hK hP (mk_0).1 (ce8 (mk_0).2) rfl 24 (by decide) (ht0 _ m_FL_X8_159) rfl rfl dX8_saves_43 ?_
        obtain ⟨b51, h⟩ := x_if h
        refine x_ald hx hb hK hP mk_12 b51 dX8_saves_46 ?_
        obtain ⟨r52, D52, hc52, h⟩ := bi_some h
        refine x_callVi (As := [.int 63, .int (D45 11 (Int32.toNatClampNeg (D45 0 24))), .int (D45 12 (Int32.toNatClampNeg (D45 0 24)))]) ⟨hx, hb, hml, hown, ht0⟩ hK hT hP hS (c_X8_ends l dd Y t ad ij F 63 (D45 11 (Int32.toNatClampNeg (D45 0 24))) (D45 12 (Int32.toNatClampNeg (D45 0 24))) _ _ _ hc52) m_ML_X8_143 sv_X8_ends hd_X8_ends rfl rfl ⟨Nat.le_of_ble_eq_true rfl, Nat.le_of_ble_eq_true rfl⟩ (mk_0).1 (ce8 (mk_0).2) rfl rfl hl.1 rfl (Nat.le_of_ble_eq_true rfl) dX8_saves_47 ⟨Nat.zero_le _, Nat.zero_le _⟩ (fun H locs hn_r52 hP hS => ?_)
        refine lv_if_ne (tgt := 57) hx hb dX8_saves_50 (by decide) (fun c53 => ?_) (fun c53 => ?_)
        · have h := x_f (show ¬ (r52 = 0) from c53) h
          refine lv_iconst (v := 0) hx hb dX8_saves_57 (by decide) ?_
          exact x_iret hx hb hr hlocks rfl hP hS h dX8_saves_58
        · have h := x_t (show r52 = 0 from c53) h
          refine lv_iconst (v := 1) hx hb dX8_saves_53 (by decide) ?_
          refine lv_goto (tgt := 58) hx hb dX8_saves_54 (by decide) ?_
          exact x_iret hx hb hr hlocks rfl hP hS h dX8_saves_58
    · have h := x_t (show r45 = 0 from c46) h
      refine lv_iconst (v := 0) hx hb dX8_saves_17 (by decide) ?_
      exact x_iret hx hb hr hlocks rfl hP hS h dX8_saves_18
