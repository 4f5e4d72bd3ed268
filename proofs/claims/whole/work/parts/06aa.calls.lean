abbrev rm_X0_sectorsOf : Room := { frames := 0, cells := 0, slots := 0, locals := 0 }
set_option maxHeartbeats 4000000 in
set_option maxRecDepth 100000 in
theorem c_X0_sectorsOf (l : Launch) (dd : Dd) (Y : Yc) (t : Ts3) (ad : Nat → Nat) (ij : Ij XG ad) (F : Nat) (a0 : Int32) (D0 D' : Mm) (r0 : Int32) (h : P_X0_sectorsOf (gN XG) F a0 D0 = some (r0, D')) : Met l yX0_sectorsOf wzX0_sectorsOf rm_X0_sectorsOf (va_Pc [.int a0] (Wd dd Y t XG ad D0)) (Qi dd Y XG ad .int r0 D') 0 0 (pA XG ad) := by
  refine Met.ofW (cc := cX0_sectorsOf) (maxL := 1) (ret := (some .int)) (by decide) rfl ?_
  intro p e s m args below meth c s₁ B hml hv
  obtain ⟨rfl, hP, hK, hT⟩ := hv
  have hx := B.exec
  have hb := B.bytes
  have hr := B.returns
  have ht0 : ∀ w ∈ W0, w.before _ s = true := fun w h => atoms_spec (ws := wzX0_sectorsOf) B.pre w (List.mem_cons_of_mem _ h)
  have hown : s.vm.findClass RX0 = some m.cls := findClass_of_methodNamed B.named
  have hlocks := B.notSynchronized
  have hS : va_S (pA XG ad) s.heap s.heap [] := va_S.rf
  have hl := lv_entry ([.int a0]) (n := 1) (Nat.le_of_ble_eq_true rfl)
  rw [lg_entry_eq]
  generalize (lg_sl ([.int a0]) ++ List.replicate (1 - (lg_sl ([.int a0])).length) Slot.unset).toArray = ls at hl ⊢
  have hl : lv_has ls 1 [(0, .int a0)] := hl
  have hP : va_P dd vwCl (wW Y XG ad D0) s.heap := hP
  generalize D0 = D at h hP
  have h : ((if a0 < 1 then (some (0, D)) else (if a0 ≤ 16 then (if 8 < a0 then (if 12 < a0 then (some (7, D)) else (some (8, D))) else (some (9, D))) else (some (0, D)))) : Rs) = some (r0, D') := h
  refine lv_iload_n hx hb dX0_sectorsOf_0 rfl (lv_at hl 0 rfl) ?_
  refine lv_iconst (v := 1) hx hb dX0_sectorsOf_1 (by decide) ?_
  refine lv_icmp_lt (tgt := 11) hx hb dX0_sectorsOf_2 (by decide) (fun c1 => ?_) (fun c1 => ?_)
  · have h := x_t (show a0 < 1 from c1) h
    refine lv_iconst (v := 0) hx hb dX0_sectorsOf_11 (by decide) ?_
    exact x_iret hx hb hr hlocks rfl hP hS h dX0_sectorsOf_12
  · have h := x_f (show ¬ (a0 < 1) from c1) h
    refine lv_iload_n hx hb dX0_sectorsOf_5 rfl (lv_at hl 0 rfl) ?_
    refine lv_bipush (v := 16) hx hb dX0_sectorsOf_6 (by decide) ?_
    refine lv_icmp_le (tgt := 13) hx hb dX0_sectorsOf_8 (by decide) (fun c2 => ?_) (fun c2 => ?_)
    · have h := x_t (show a0 ≤ 16 from c2) h
      refine lv_iload_n hx hb dX0_sectorsOf_13 rfl (lv_at hl 0 rfl) ?_
      refine lv_bipush (v := 8) hx hb dX0_sectorsOf_14 (by decide) ?_
      refine lv_icmp_gt (tgt := 24) hx hb dX0_sectorsOf_16 (by decide) (fun c3 => ?_) (fun c3 => ?_)
      · have h := x_t (show 8 < a0 from c3) h
        refine lv_iload_n hx hb dX0_sectorsOf_24 rfl (lv_at hl 0 rfl) ?_
        refine lv_bipush (v := 12) hx hb dX0_sectorsOf_25 (by decide) ?_
        refine lv_icmp_gt (tgt := 35) hx hb dX0_sectorsOf_27 (by decide) (fun c4 => ?_) (fun c4 => ?_)
        · have h := x_t (show 12 < a0 from c4) h
          refine lv_bipush (v := 7) hx hb dX0_sectorsOf_35 (by decide) ?_
          exact x_iret hx hb hr hlocks rfl hP hS h dX0_sectorsOf_37
        · have h := x_f (show ¬ (12 < a0) from c4) h
          refine lv_bipush (v := 8) hx hb dX0_sectorsOf_30 (by decide) ?_
          refine lv_goto (tgt := 37) hx hb dX0_sectorsOf_32 (by decide) ?_
          exact x_iret hx hb hr hlocks rfl hP hS h dX0_sectorsOf_37
      · have h := x_f (show ¬ (8 < a0) from c3) h
        refine lv_bipush (v := 9) hx hb dX0_sectorsOf_19 (by decide) ?_
        refine lv_goto (tgt := 37) hx hb dX0_sectorsOf_21 (by decide) ?_
        exact x_iret hx hb hr hlocks rfl hP hS h dX0_sectorsOf_37
    · have h := x_f (show ¬ (a0 ≤ 16) from c2) h
      refine lv_iconst (v := 0) hx hb dX0_sectorsOf_11 (by decide) ?_
      exact x_iret hx hb hr hlocks rfl hP hS h dX0_sectorsOf_12
abbrev rm_X0_isBlock : Room := { frames := 1, cells := 0, slots := 0, locals := 20 }
set_option maxHeartbeats 4000000 in
set_option maxRecDepth 100000 in
theorem c_X0_isBlock (l : Launch) (dd : Dd) (Y : Yc) (t : Ts3) (ad : Nat → Nat) (ij : Ij XG ad) (F : Nat) (a0 a1 : Int32) (D0 D' : Mm) (r0 : Int32) (h : P_X0_isBlock (gN XG) F a0 a1 D0 = some (r0, D')) : Met l yX0_isBlock wzX0_isBlock rm_X0_isBlock (va_Pc [.int a0, .int a1] (Wd dd Y t XG ad D0)) (Qi dd Y XG ad .boolean r0 D') 0 0 (pA XG ad) := by
  refine Met.ofW (cc := cX0_isBlock) (maxL := 2) (ret := (some .boolean)) (by decide) rfl ?_
  intro p e s m args below meth c s₁ B hml hv
  obtain ⟨rfl, hP, hK, hT⟩ := hv
  have hx := B.exec
  have hb := B.bytes
  have hr := B.returns
  have ht0 : ∀ w ∈ W0, w.before _ s = true := fun w h => atoms_spec (ws := wzX0_isBlock) B.pre w (List.mem_cons_of_mem _ h)
  have hown : s.vm.findClass RX0 = some m.cls := findClass_of_methodNamed B.named
  have hlocks := B.notSynchronized
  have hS : va_S (pA XG ad) s.heap s.heap [] := va_S.rf
  have hl := lv_entry ([.int a0, .int a1]) (n := 2) (Nat.le_of_ble_eq_true rfl)
  rw [lg_entry_eq]
  generalize (lg_sl ([.int a0, .int a1]) ++ List.replicate (2 - (lg_sl ([.int a0, .int a1])).length) Slot.unset).toArray = ls at hl ⊢
  have hl : lv_has ls 2 [(0, .int a0), (1, .int a1)] := hl
  have hP : va_P dd vwCl (wW Y XG ad D0) s.heap := hP
  generalize D0 = D at h hP
  have h : ((if a1 < 0 then (some (0, D)) else (bi (P_X0_sectorsOf (gN XG) F a0 D) (fun r2 D2 => if r2 ≤ a1 then (some (0, D2)) else (some (1, D2))))) : Rs) = some (r0, D') := h
  refine lv_iload_n hx hb dX0_isBlock_0 rfl (lv_at hl 1 rfl) ?_
  refine lv_if_lt (tgt := 16) hx hb dX0_isBlock_1 (by decide) (fun c1 => ?_) (fun c1 => ?_)
  · have h := x_t (show a1 < 0 from c1) h
    refine lv_iconst (v := 0) hx hb dX0_isBlock_16 (by decide) ?_
    exact x_iret hx hb hr hlocks rfl hP hS h dX0_isBlock_17
  · have h := x_f (show ¬ (a1 < 0) from c1) h
    refine lv_iload_n hx hb dX0_isBlock_4 rfl (lv_at hl 1 rfl) ?_
    refine lv_iload_n hx hb dX0_isBlock_5 rfl (lv_at hl 0 rfl) ?_
    obtain ⟨r2, D2, hc2, h⟩ := bi_some h
    refine x_callSi (As := [.int a0]) ⟨hx, hb, hml, hown, ht0⟩ hK hT hP hS (c_X0_sectorsOf l dd Y t ad ij F a0 _ _ _ hc2) m_ML_X0_46 ss_X0_sectorsOf hd_X0_sectorsOf rfl rfl ⟨Nat.le_of_ble_eq_true rfl, Nat.le_of_ble_eq_true rfl⟩ rfl hl.1 rfl (Nat.le_of_ble_eq_true rfl) dX0_isBlock_6 ⟨Nat.zero_le _, Nat.zero_le _⟩ (fun H locs hn_r2 hP hS => ?_)
    refine lv_icmp_ge (tgt := 16) hx hb dX0_isBlock_9 (by decide) (fun c3 => ?_) (fun c3 => ?_)
    · have h := x_t (show r2 ≤ a1 from c3) h
      refine lv_iconst (v := 0) hx hb dX0_isBlock_16 (by decide) ?_
      exact x_iret hx hb hr hlocks rfl hP hS h dX0_isBlock_17
    · have h := x_f (show ¬ (r2 ≤ a1) from c3) h
      refine lv_iconst (v := 1) hx hb dX0_isBlock_12 (by decide) ?_
      refine lv_goto (tgt := 17) hx hb dX0_isBlock_13 (by decide) ?_
      exact x_iret hx hb hr hlocks rfl hP hS h dX0_isBlock_17
abbrev rm_X5_fillGap : Room := { frames := 0, cells := 0, slots := 0, locals := 0 }
set_option maxHeartbeats 4000000 in
set_option maxRecDepth 100000 in
theorem c_X5_fillGap (l : Launch) (dd : Dd) (Y : Yc) (t : Ts3) (G : Gr) (ad : Nat → Nat) (ij : Ij G ad) (F : Nat) (th : Nat) (g_th : RingAt G th) (D0 D' : Mm) (r0 : Int32) (h : P_X5_fillGap (gN G) F th D0 = some (r0, D')) : Met l yX5_fillGap wzX5_fillGap rm_X5_fillGap (va_Pc [.ref (ad th)] (Wd dd Y t G ad D0)) (Qv dd Y G ad D') 0 0 (pA G ad) := by
  refine Met.ofW (cc := cX5_fillGap) (maxL := 2) (ret := none) (by decide) rfl ?_
  intro p e s m args below meth c s₁ B hml hv
  obtain ⟨rfl, hP, hK, hT⟩ := hv
  have hx := B.exec
  have hb := B.bytes
  have hr := B.returns
  have ht0 : ∀ w ∈ W0, w.before _ s = true := fun w h => atoms_spec (ws := wzX5_fillGap) B.pre w (List.mem_cons_of_mem _ h)
  have hown : s.vm.findClass RX5 = some m.cls := findClass_of_methodNamed B.named
  have hlocks := B.notSynchronized
  have hS : va_S (pA G ad) s.heap s.heap [] := va_S.rf
  obtain ⟨k_th, p_th_0, p_th_2, k_th1, k_th2⟩ := id g_th
  have L2 : ∀ (n : Nat), ∀ (x1 : Int32) (D : Mm) (H : Heap) (locs : List Loc) (ls : Array Slot), P_X5_fillGap_2 (gN G) F th n x1 D = some (r0, D') → va_P dd vwCl (wW Y G ad D) H → va_S (pA G ad) s.heap H locs → lv_has ls 2 [(0, .ref (ad th)), (1, .int x1)] → W p l e (headSpec wzX5_fillGap rm_X5_fillGap).room s m ([.ref (ad th)].toArray) below meth c H locs 0 0 (MQ below (Qv dd Y G ad D') ([.ref (ad th)].toArray) s 0 0 (pA G ad)) (F0 m 2 ls []) := by
    intro n
    induction n with
    | zero =>
      intro x1 D H locs ls h hP hS hl
      cases h
    | succ n ih =>
      intro x1 D H locs ls h hP hS hl
      have h : ((if (nI ((gN G) (th + 1))) ≤ x1 then (some (0, up2 D th 4 0)) else (if inB x1 ((gN G) (th + 1)) = true then (P_X5_fillGap_2 (gN G) F th n (x1 + 1) (up2 D (th + 1) (Int32.toNatClampNeg x1) 85)) else none)) : Rs) = some (r0, D') := h
      refine lv_iload_n hx hb dX5_fillGap_2 rfl (lv_at hl 1 rfl) ?_
      refine lv_aload_n hx hb dX5_fillGap_3 rfl (lv_at hl 0 rfl) ?_
      refine x_get hx hb ht0 u_X5 hown hK hP (k_th).1 (ce5 (k_th).2) rfl 0 (by decide) (ht0 _ m_FL_X5_15) rfl (rfv p_th_0) dX5_fillGap_4 ?_
      refine x_len hx hb hK hP k_th1 dX5_fillGap_7 ?_
      refine lv_icmp_ge (tgt := 25) hx hb dX5_fillGap_8 (by decide) (fun c1 => ?_) (fun c1 => ?_)
      · have h := x_t (show (nI ((gN G) (th + 1))) ≤ x1 from c1) h
        refine lv_aload_n hx hb dX5_fillGap_25 rfl (lv_at hl 0 rfl) ?_
        refine lv_iconst (v := 0) hx hb dX5_fillGap_26 (by decide) ?_
        refine x_put (ty := .boolean) hx hb ht0 u_X5 tyX5 tyX5_ok nmX5 hown hK ij hP hS (k_th).1 (ce5 (k_th).2) rfl 4 (by decide) (ht0 _ m_FL_X5_35) rfl rfl (by decide +kernel) rfl rfl (Nat.le_of_ble_eq_true rfl) (by rw [(k_th).2]; rfl) dX5_fillGap_27 (fun H locs hP hS => ?_)
        exact x_vret hx hb hr hlocks hP hS h dX5_fillGap_30
      · have h := x_f (show ¬ ((nI ((gN G) (th + 1))) ≤ x1) from c1) h
        refine lv_aload_n hx hb dX5_fillGap_11 rfl (lv_at hl 0 rfl) ?_
        refine x_get hx hb ht0 u_X5 hown hK hP (k_th).1 (ce5 (k_th).2) rfl 0 (by decide) (ht0 _ m_FL_X5_15) rfl (rfv p_th_0) dX5_fillGap_12 ?_
        refine lv_iload_n hx hb dX5_fillGap_15 rfl (lv_at hl 1 rfl) ?_
        refine lv_bipush (v := 85) hx hb dX5_fillGap_16 (by decide) ?_
        obtain ⟨b2, h⟩ := x_if h
        refine x_ast hx hb hK ij hP hS k_th1 b2 dX5_fillGap_18 (fun H locs hP hS => ?_)
        refine lv_iinc (v := x1 + 1) (lv' := [(1, .int (x1 + 1)), (0, .ref (ad th))]) hx hb dX5_fillGap_19 hl (k := 1) rfl rfl (by decide) rfl (fun ls hl => ?_)
        refine lv_goto (tgt := 2) hx hb dX5_fillGap_22 (by decide) ?_
        exact ih (x1 + 1) (up2 D (th + 1) (Int32.toNatClampNeg x1) 85) _ _ _ h hP hS (lv_sub hl [1, 0] rfl)
  have hl := lv_entry ([.ref (ad th)]) (n := 2) (Nat.le_of_ble_eq_true rfl)
  rw [lg_entry_eq]
  generalize (lg_sl ([.ref (ad th)]) ++ List.replicate (2 - (lg_sl ([.ref (ad th)])).length) Slot.unset).toArray = ls at hl ⊢
  have hl : lv_has ls 2 [(0, .ref (ad th))] := hl
  have hP : va_P dd vwCl (wW Y G ad D0) s.heap := hP
  generalize D0 = D at h hP
  have h : ((P_X5_fillGap_2 (gN G) F th F 0 D) : Rs) = some (r0, D') := h
  refine lv_iconst (v := 0) hx hb dX5_fillGap_0 (by decide) ?_
  refine lv_istore_n (lv' := [(1, .int 0), (0, .ref (ad th))]) hx hb dX5_fillGap_1 rfl hl (by decide) rfl (fun ls hl => ?_)
  exact L2 F 0 D _ _ _ h hP hS (lv_sub hl [1, 0] rfl)
abbrev rm_X5_putBits : Room := { frames := 0, cells := 0, slots := 0, locals := 0 }
set_option maxHeartbeats 4000000 in
set_option maxRecDepth 100000 in
theorem c_X5_putBits (l : Launch) (dd : Dd) (Y : Yc) (t : Ts3) (G : Gr) (ad : Nat → Nat) (ij : Ij G ad) (F : Nat) (th : Nat) (g_th : RingAt G th) (a1 a2 a3 : Int32) (D0 D' : Mm) (r0 : Int32) (h : P_X5_putBits (gN G) F th a1 a2 a3 D0 = some (r0, D')) : Met l yX5_putBits wzX5_putBits rm_X5_putBits (va_Pc [.ref (ad th), .int a1, .int a2, .int a3] (Wd dd Y t G ad D0)) (Qv dd Y G ad D') 0 0 (pA G ad) := by
  refine Met.ofW (cc := cX5_putBits) (maxL := 11) (ret := none) (by decide) rfl ?_
  intro p e s m args below meth c s₁ B hml hv
  obtain ⟨rfl, hP, hK, hT⟩ := hv
  have hx := B.exec
  have hb := B.bytes
  have hr := B.returns
  have ht0 : ∀ w ∈ W0, w.before _ s = true := fun w h => atoms_spec (ws := wzX5_putBits) B.pre w (List.mem_cons_of_mem _ h)
  have hown : s.vm.findClass RX5 = some m.cls := findClass_of_methodNamed B.named
  have hlocks := B.notSynchronized
  have hS : va_S (pA G ad) s.heap s.heap [] := va_S.rf
  obtain ⟨k_th, p_th_0, p_th_2, k_th1, k_th2⟩ := id g_th
  have L150 : ∀ (D : Mm) (H : Heap) (locs : List Loc) (ls : Array Slot), P_X5_putBits_150 (gN G) F th D = some (r0, D') → va_P dd vwCl (wW Y G ad D) H → va_S (pA G ad) s.heap H locs → lv_has ls 11 [(0, .ref (ad th))] → W p l e (headSpec wzX5_putBits rm_X5_putBits).room s m ([.ref (ad th), .int a1, .int a2, .int a3].toArray) below meth c H locs 0 0 (MQ below (Qv dd Y G ad D') ([.ref (ad th), .int a1, .int a2, .int a3].toArray) s 0 0 (pA G ad)) (F0 m 150 ls []) := by
    intro D H locs ls h hP hS hl
    have h : ((some (0, up2 D th 4 0)) : Rs) = some (r0, D') := h
    refine lv_aload_n hx hb dX5_putBits_150 rfl (lv_at hl 0 rfl) ?_
    refine lv_iconst (v := 0) hx hb dX5_putBits_151 (by decide) ?_
    refine x_put (ty := .boolean) hx hb ht0 u_X5 tyX5 tyX5_ok nmX5 hown hK ij hP hS (k_th).1 (ce5 (k_th).2) rfl 4 (by decide) (ht0 _ m_FL_X5_35) rfl rfl (by decide +kernel) rfl rfl (Nat.le_of_ble_eq_true rfl) (by rw [(k_th).2]; rfl) dX5_putBits_152 (fun H locs hP hS => ?_)
    exact x_vret hx hb hr hlocks hP hS h dX5_putBits_155
  have L121 : ∀ (x6 x7 x10 : Int32) (D : Mm) (H : Heap) (locs : List Loc) (ls : Array Slot), P_X5_putBits_121 (gN G) F th x6 x7 x10 D = some (r0, D') → va_P dd vwCl (wW Y G ad D) H → va_S (pA G ad) s.heap H locs → lv_has ls 11 [(0, .ref (ad th)), (6, .int x6), (7, .int x7), (10, .int x10)] → W p l e (headSpec wzX5_putBits rm_X5_putBits).room s m ([.ref (ad th), .int a1, .int a2, .int a3].toArray) below meth c H locs 0 0 (MQ below (Qv dd Y G ad D') ([.ref (ad th), .int a1, .int a2, .int a3].toArray) s 0 0 (pA G ad)) (F0 m 121 ls []) := by
    intro x6 x7 x10 D H locs ls h hP hS hl
    have h : ((if inB x6 ((gN G) (th + 1)) = true then (if inB x7 ((gN G) (th + 1)) = true then (P_X5_putBits_150 (gN G) F th (up2 (up2 D (th + 1) (Int32.toNatClampNeg x6) ((x10 >>> (8 &&& 31)) &&& 255)) (th + 1) (Int32.toNatClampNeg x7) (x10 &&& 255))) else none) else none) : Rs) = some (r0, D') := h
    refine lv_aload_n hx hb dX5_putBits_121 rfl (lv_at hl 0 rfl) ?_
    refine x_get hx hb ht0 u_X5 hown hK hP (k_th).1 (ce5 (k_th).2) rfl 0 (by decide) (ht0 _ m_FL_X5_15) rfl (rfv p_th_0) dX5_putBits_122 ?_
    refine lv_iload hx hb dX5_putBits_125 (lv_at hl 1 rfl) ?_
    refine lv_iload hx hb dX5_putBits_127 (lv_at hl 3 rfl) ?_
    refine lv_bipush (v := 8) hx hb dX5_putBits_129 (by decide) ?_
    refine lv_ishr hx hb dX5_putBits_131 ?_
    refine lv_sipush (v := 255) hx hb dX5_putBits_132 (by decide) ?_
    refine lv_iand hx hb dX5_putBits_135 ?_
    obtain ⟨b1, h⟩ := x_if h
    refine x_ast hx hb hK ij hP hS k_th1 b1 dX5_putBits_136 (fun H locs hP hS => ?_)
    refine lv_aload_n hx hb dX5_putBits_137 rfl (lv_at hl 0 rfl) ?_
    refine x_get hx hb ht0 u_X5 hown hK hP (k_th).1 (ce5 (k_th).2) rfl 0 (by decide) (ht0 _ m_FL_X5_15) rfl (rfv p_th_0) dX5_putBits_138 ?_
    refine lv_iload hx hb dX5_putBits_141 (lv_at hl 2 rfl) ?_
    refine lv_iload hx hb dX5_putBits_143 (lv_at hl 3 rfl) ?_
    refine lv_sipush (v := 255) hx hb dX5_putBits_145 (by decide) ?_
    refine lv_iand hx hb dX5_putBits_148 ?_
    obtain ⟨b2, h⟩ := x_if h
    refine x_ast hx hb hK ij hP hS k_th1 b2 dX5_putBits_149 (fun H locs hP hS => ?_)
    exact L150 (up2 (up2 D (th + 1) (Int32.toNatClampNeg x6) ((x10 >>> (8 &&& 31)) &&& 255)) (th + 1) (Int32.toNatClampNeg x7) (x10 &&& 255)) _ _ _ h hP hS (lv_sub hl [0] rfl)
  have L105 : ∀ (x5 x6 x7 x10 : Int32) (D : Mm) (H : Heap) (locs : List Loc) (ls : Array Slot), P_X5_putBits_105 (gN G) F th x5 x6 x7 x10 D = some (r0, D') → va_P dd vwCl (wW Y G ad D) H → va_S (pA G ad) s.heap H locs → lv_has ls 11 [(0, .ref (ad th)), (5, .int x5), (6, .int x6), (7, .int x7), (10, .int x10)] → W p l e (headSpec wzX5_putBits rm_X5_putBits).room s m ([.ref (ad th), .int a1, .int a2, .int a3].toArray) below meth c H locs 0 0 (MQ below (Qv dd Y G ad D') ([.ref (ad th), .int a1, .int a2, .int a3].toArray) s 0 0 (pA G ad)) (F0 m 105 ls []) := by
    intro x5 x6 x7 x10 D H locs ls h hP hS hl
    have h : ((if inB x5 ((gN G) (th + 1)) = true then (P_X5_putBits_121 (gN G) F th x6 x7 x10 (up2 D (th + 1) (Int32.toNatClampNeg x5) ((x10 >>> (16 &&& 31)) &&& 255))) else none) : Rs) = some (r0, D') := h
    refine lv_aload_n hx hb dX5_putBits_105 rfl (lv_at hl 0 rfl) ?_
    refine x_get hx hb ht0 u_X5 hown hK hP (k_th).1 (ce5 (k_th).2) rfl 0 (by decide) (ht0 _ m_FL_X5_15) rfl (rfv p_th_0) dX5_putBits_106 ?_
    refine lv_iload hx hb dX5_putBits_109 (lv_at hl 1 rfl) ?_
    refine lv_iload hx hb dX5_putBits_111 (lv_at hl 4 rfl) ?_
    refine lv_bipush (v := 16) hx hb dX5_putBits_113 (by decide) ?_
    refine lv_ishr hx hb dX5_putBits_115 ?_
    refine lv_sipush (v := 255) hx hb dX5_putBits_116 (by decide) ?_
    refine lv_iand hx hb dX5_putBits_119 ?_
    obtain ⟨b3, h⟩ := x_if h
    refine x_ast hx hb hK ij hP hS k_th1 b3 dX5_putBits_120 (fun H locs hP hS => ?_)
    exact L121 x6 x7 x10 (up2 D (th + 1) (Int32.toNatClampNeg x5) ((x10 >>> (16 &&& 31)) &&& 255)) _ _ _ h hP hS (lv_sub hl [0, 2, 3, 4] rfl)
  have L61 : ∀ (x3 x5 x6 x7 x8 x9 : Int32) (D : Mm) (H : Heap) (locs : List Loc) (ls : Array Slot), P_X5_putBits_61 (gN G) F th x3 x5 x6 x7 x8 x9 D = some (r0, D') → va_P dd vwCl (wW Y G ad D) H → va_S (pA G ad) s.heap H locs → lv_has ls 11 [(0, .ref (ad th)), (3, .int x3), (5, .int x5), (6, .int x6), (7, .int x7), (8, .int x8), (9, .int x9)] → W p l e (headSpec wzX5_putBits rm_X5_putBits).room s m ([.ref (ad th), .int a1, .int a2, .int a3].toArray) below meth c H locs 0 0 (MQ below (Qv dd Y G ad D') ([.ref (ad th), .int a1, .int a2, .int a3].toArray) s 0 0 (pA G ad)) (F0 m 61 ls []) := by
    intro x3 x5 x6 x7 x8 x9 D H locs ls h hP hS hl
    have h : ((if inB x5 ((gN G) (th + 1)) = true then (if inB x6 ((gN G) (th + 1)) = true then (if inB x7 ((gN G) (th + 1)) = true then (P_X5_putBits_105 (gN G) F th x5 x6 x7 ((((((D (th + 1) (Int32.toNatClampNeg x5)) <<< (16 &&& 31)) ||| ((D (th + 1) (Int32.toNatClampNeg x6)) <<< (8 &&& 31))) ||| (D (th + 1) (Int32.toNatClampNeg x7))) &&& (x9 ^^^ (-1))) ||| ((x3 <<< (x8 &&& 31)) &&& x9)) D) else none) else none) else none) : Rs) = some (r0, D') := h
    refine lv_aload_n hx hb dX5_putBits_61 rfl (lv_at hl 0 rfl) ?_
    refine x_get hx hb ht0 u_X5 hown hK hP (k_th).1 (ce5 (k_th).2) rfl 0 (by decide) (ht0 _ m_FL_X5_15) rfl (rfv p_th_0) dX5_putBits_62 ?_
    refine lv_iload hx hb dX5_putBits_65 (lv_at hl 2 rfl) ?_
    obtain ⟨b4, h⟩ := x_if h
    refine x_ald hx hb hK hP k_th1 b4 dX5_putBits_67 ?_
    refine lv_bipush (v := 16) hx hb dX5_putBits_68 (by decide) ?_
    refine lv_ishl hx hb dX5_putBits_70 ?_
    refine lv_aload_n hx hb dX5_putBits_71 rfl (lv_at hl 0 rfl) ?_
    refine x_get hx hb ht0 u_X5 hown hK hP (k_th).1 (ce5 (k_th).2) rfl 0 (by decide) (ht0 _ m_FL_X5_15) rfl (rfv p_th_0) dX5_putBits_72 ?_
    refine lv_iload hx hb dX5_putBits_75 (lv_at hl 3 rfl) ?_
    obtain ⟨b5, h⟩ := x_if h
    refine x_ald hx hb hK hP k_th1 b5 dX5_putBits_77 ?_
    refine lv_bipush (v := 8) hx hb dX5_putBits_78 (by decide) ?_
    refine lv_ishl hx hb dX5_putBits_80 ?_
    refine lv_ior hx hb dX5_putBits_81 ?_
    refine lv_aload_n hx hb dX5_putBits_82 rfl (lv_at hl 0 rfl) ?_
    refine x_get hx hb ht0 u_X5 hown hK hP (k_th).1 (ce5 (k_th).2) rfl 0 (by decide) (ht0 _ m_FL_X5_15) rfl (rfv p_th_0) dX5_putBits_83 ?_
    refine lv_iload hx hb dX5_putBits_86 (lv_at hl 4 rfl) ?_
    obtain ⟨b6, h⟩ := x_if h
    refine x_ald hx hb hK hP k_th1 b6 dX5_putBits_88 ?_
    refine lv_ior hx hb dX5_putBits_89 ?_
    refine lv_iload hx hb dX5_putBits_90 (lv_at hl 6 rfl) ?_
    refine lv_iconst (v := (-1)) hx hb dX5_putBits_92 (by decide) ?_
    refine lv_ixor hx hb dX5_putBits_93 ?_
    refine lv_iand hx hb dX5_putBits_94 ?_
    refine lv_iload_n hx hb dX5_putBits_95 rfl (lv_at hl 1 rfl) ?_
    refine lv_iload hx hb dX5_putBits_96 (lv_at hl 5 rfl) ?_
    refine lv_ishl hx hb dX5_putBits_98 ?_
    refine lv_iload hx hb dX5_putBits_99 (lv_at hl 6 rfl) ?_
    refine lv_iand hx hb dX5_putBits_101 ?_
    refine lv_ior hx hb dX5_putBits_102 ?_
    refine lv_istore (lv' := [(10, .int ((((((D (th + 1) (Int32.toNatClampNeg x5)) <<< (16 &&& 31)) ||| ((D (th + 1) (Int32.toNatClampNeg x6)) <<< (8 &&& 31))) ||| (D (th + 1) (Int32.toNatClampNeg x7))) &&& (x9 ^^^ (-1))) ||| ((x3 <<< (x8 &&& 31)) &&& x9))), (0, .ref (ad th)), (3, .int x3), (5, .int x5), (6, .int x6), (7, .int x7), (8, .int x8), (9, .int x9)]) hx hb dX5_putBits_103 hl (by decide) rfl (fun ls hl => ?_)
    exact L105 x5 x6 x7 ((((((D (th + 1) (Int32.toNatClampNeg x5)) <<< (16 &&& 31)) ||| ((D (th + 1) (Int32.toNatClampNeg x6)) <<< (8 &&& 31))) ||| (D (th + 1) (Int32.toNatClampNeg x7))) &&& (x9 ^^^ (-1))) ||| ((x3 <<< (x8 &&& 31)) &&& x9)) D _ _ _ h hP hS (lv_sub hl [1, 3, 4, 5, 0] rfl)
  have L51 : ∀ (x2 x3 x5 x6 x7 x8 : Int32) (D : Mm) (H : Heap) (locs : List Loc) (ls : Array Slot), P_X5_putBits_51 (gN G) F th x2 x3 x5 x6 x7 x8 D = some (r0, D') → va_P dd vwCl (wW Y G ad D) H → va_S (pA G ad) s.heap H locs → lv_has ls 11 [(0, .ref (ad th)), (2, .int x2), (3, .int x3), (5, .int x5), (6, .int x6), (7, .int x7), (8, .int x8)] → W p l e (headSpec wzX5_putBits rm_X5_putBits).room s m ([.ref (ad th), .int a1, .int a2, .int a3].toArray) below meth c H locs 0 0 (MQ below (Qv dd Y G ad D') ([.ref (ad th), .int a1, .int a2, .int a3].toArray) s 0 0 (pA G ad)) (F0 m 51 ls []) := by
    intro x2 x3 x5 x6 x7 x8 D H locs ls h hP hS hl
    have h : ((P_X5_putBits_61 (gN G) F th x3 x5 x6 x7 x8 (((1 <<< (x2 &&& 31)) - 1) <<< (x8 &&& 31)) D) : Rs) = some (r0, D') := h
    refine lv_iconst (v := 1) hx hb dX5_putBits_51 (by decide) ?_
    refine lv_iload_n hx hb dX5_putBits_52 rfl (lv_at hl 1 rfl) ?_
    refine lv_ishl hx hb dX5_putBits_53 ?_
    refine lv_iconst (v := 1) hx hb dX5_putBits_54 (by decide) ?_
    refine lv_isub hx hb dX5_putBits_55 ?_
    refine lv_iload hx hb dX5_putBits_56 (lv_at hl 6 rfl) ?_
    refine lv_ishl hx hb dX5_putBits_58 ?_
    refine lv_istore (lv' := [(9, .int (((1 <<< (x2 &&& 31)) - 1) <<< (x8 &&& 31))), (0, .ref (ad th)), (2, .int x2), (3, .int x3), (5, .int x5), (6, .int x6), (7, .int x7), (8, .int x8)]) hx hb dX5_putBits_59 hl (by decide) rfl (fun ls hl => ?_)
    exact L61 x3 x5 x6 x7 x8 (((1 <<< (x2 &&& 31)) - 1) <<< (x8 &&& 31)) D _ _ _ h hP hS (lv_sub hl [1, 3, 4, 5, 6, 7, 0] rfl)
  have L39 : ∀ (x2 x3 x4 x5 x6 x7 : Int32) (D : Mm) (H : Heap) (locs : List Loc) (ls : Array Slot), P_X5_putBits_39 (gN G) F th x2 x3 x4 x5 x6 x7 D = some (r0, D') → va_P dd vwCl (wW Y G ad D) H → va_S (pA G ad) s.heap H locs → lv_has ls 11 [(0, .ref (ad th)), (2, .int x2), (3, .int x3), (4, .int x4), (5, .int x5), (6, .int x6), (7, .int x7)] → W p l e (headSpec wzX5_putBits rm_X5_putBits).room s m ([.ref (ad th), .int a1, .int a2, .int a3].toArray) below meth c H locs 0 0 (MQ below (Qv dd Y G ad D') ([.ref (ad th), .int a1, .int a2, .int a3].toArray) s 0 0 (pA G ad)) (F0 m 39 ls []) := by
    intro x2 x3 x4 x5 x6 x7 D H locs ls h hP hS hl
    have h : ((P_X5_putBits_51 (gN G) F th x2 x3 x5 x6 x7 ((24 - (jrem x4 8)) - x2) D) : Rs) = some (r0, D') := h
    refine lv_bipush (v := 24) hx hb dX5_putBits_39 (by decide) ?_
    refine lv_iload hx hb dX5_putBits_41 (lv_at hl 3 rfl) ?_
    refine lv_bipush (v := 8) hx hb dX5_putBits_43 (by decide) ?_
    refine lv_irem hx hb dX5_putBits_45 (by decide) ?_
    refine lv_isub hx hb dX5_putBits_46 ?_
    refine lv_iload_n hx hb dX5_putBits_47 rfl (lv_at hl 1 rfl) ?_
    refine lv_isub hx hb dX5_putBits_48 ?_
    refine lv_istore (lv' := [(8, .int ((24 - (jrem x4 8)) - x2)), (0, .ref (ad th)), (2, .int x2), (3, .int x3), (4, .int x4), (5, .int x5), (6, .int x6), (7, .int x7)]) hx hb dX5_putBits_49 hl (by decide) rfl (fun ls hl => ?_)
    exact L51 x2 x3 x5 x6 x7 ((24 - (jrem x4 8)) - x2) D _ _ _ h hP hS (lv_sub hl [1, 2, 3, 5, 6, 7, 0] rfl)
  have L27 : ∀ (x2 x3 x4 x5 x6 : Int32) (D : Mm) (H : Heap) (locs : List Loc) (ls : Array Slot), P_X5_putBits_27 (gN G) F th x2 x3 x4 x5 x6 D = some (r0, D') → va_P dd vwCl (wW Y G ad D) H → va_S (pA G ad) s.heap H locs → lv_has ls 11 [(0, .ref (ad th)), (2, .int x2), (3, .int x3), (4, .int x4), (5, .int x5), (6, .int x6)] → W p l e (headSpec wzX5_putBits rm_X5_putBits).room s m ([.ref (ad th), .int a1, .int a2, .int a3].toArray) below meth c H locs 0 0 (MQ below (Qv dd Y G ad D') ([.ref (ad th), .int a1, .int a2, .int a3].toArray) s 0 0 (pA G ad)) (F0 m 27 ls []) := by
    intro x2 x3 x4 x5 x6 D H locs ls h hP hS hl
    have h : ((if nI ((gN G) (th + 1)) = 0 then none else (P_X5_putBits_39 (gN G) F th x2 x3 x4 x5 x6 (jrem (x5 + 2) (nI ((gN G) (th + 1)))) D)) : Rs) = some (r0, D') := h
    refine lv_iload hx hb dX5_putBits_27 (lv_at hl 4 rfl) ?_
    refine lv_iconst (v := 2) hx hb dX5_putBits_29 (by decide) ?_
    refine lv_iadd hx hb dX5_putBits_30 ?_
    refine lv_aload_n hx hb dX5_putBits_31 rfl (lv_at hl 0 rfl) ?_
    refine x_get hx hb ht0 u_X5 hown hK hP (k_th).1 (ce5 (k_th).2) rfl 0 (by decide) (ht0 _ m_FL_X5_15) rfl (rfv p_th_0) dX5_putBits_32 ?_
    refine x_len hx hb hK hP k_th1 dX5_putBits_35 ?_
    obtain ⟨z7, h⟩ := x_ifn h
    refine lv_irem hx hb dX5_putBits_36 z7 ?_
    refine lv_istore (lv' := [(7, .int (jrem (x5 + 2) (nI ((gN G) (th + 1))))), (0, .ref (ad th)), (2, .int x2), (3, .int x3), (4, .int x4), (5, .int x5), (6, .int x6)]) hx hb dX5_putBits_37 hl (by decide) rfl (fun ls hl => ?_)
    exact L39 x2 x3 x4 x5 x6 (jrem (x5 + 2) (nI ((gN G) (th + 1)))) D _ _ _ h hP hS (lv_sub hl [1, 2, 3, 4, 5, 6, 0] rfl)
  have hl := lv_entry ([.ref (ad th), .int a1, .int a2, .int a3]) (n := 11) (Nat.le_of_ble_eq_true rfl)
  rw [lg_entry_eq]
  generalize (lg_sl ([.ref (ad th), .int a1, .int a2, .int a3]) ++ List.replicate (11 - (lg_sl ([.ref (ad th), .int a1, .int a2, .int a3])).length) Slot.unset).toArray = ls at hl ⊢
  have hl : lv_has ls 11 [(0, .ref (ad th)), (1, .int a1), (2, .int a2), (3, .int a3)] := hl
  have hP : va_P dd vwCl (wW Y G ad D0) s.heap := hP
  generalize D0 = D at h hP
  have h : ((if D th 1 = 0 then none else (if nI ((gN G) (th + 1)) = 0 then none else (P_X5_putBits_27 (gN G) F th a2 a3 (jrem a1 (D th 1)) ((jrem a1 (D th 1)) / 8) (jrem (((jrem a1 (D th 1)) / 8) + 1) (nI ((gN G) (th + 1)))) D))) : Rs) = some (r0, D') := h
  refine lv_iload_n hx hb dX5_putBits_0 rfl (lv_at hl 1 rfl) ?_
  refine lv_aload_n hx hb dX5_putBits_1 rfl (lv_at hl 0 rfl) ?_
  refine x_get hx hb ht0 u_X5 hown hK hP (k_th).1 (ce5 (k_th).2) rfl 1 (by decide) (ht0 _ m_FL_X5_21) rfl rfl dX5_putBits_2 ?_
  obtain ⟨z8, h⟩ := x_ifn h
  refine lv_irem hx hb dX5_putBits_5 z8 ?_
  refine lv_istore (lv' := [(4, .int (jrem a1 (D th 1))), (0, .ref (ad th)), (1, .int a1), (2, .int a2), (3, .int a3)]) hx hb dX5_putBits_6 hl (by decide) rfl (fun ls hl => ?_)
  refine lv_iload hx hb dX5_putBits_8 (lv_at hl 0 rfl) ?_
  refine lv_bipush (v := 8) hx hb dX5_putBits_10 (by decide) ?_
  refine lv_idiv hx hb dX5_putBits_12 (by decide) ?_
  refine lv_istore (lv' := [(5, .int ((jrem a1 (D th 1)) / 8)), (4, .int (jrem a1 (D th 1))), (0, .ref (ad th)), (1, .int a1), (2, .int a2), (3, .int a3)]) hx hb dX5_putBits_13 hl (by decide) rfl (fun ls hl => ?_)
  refine lv_iload hx hb dX5_putBits_15 (lv_at hl 0 rfl) ?_
  refine lv_iconst (v := 1) hx hb dX5_putBits_17 (by decide) ?_
  refine lv_iadd hx hb dX5_putBits_18 ?_
  refine lv_aload_n hx hb dX5_putBits_19 rfl (lv_at hl 2 rfl) ?_
  refine x_get hx hb ht0 u_X5 hown hK hP (k_th).1 (ce5 (k_th).2) rfl 0 (by decide) (ht0 _ m_FL_X5_15) rfl (rfv p_th_0) dX5_putBits_20 ?_
  refine x_len hx hb hK hP k_th1 dX5_putBits_23 ?_
  obtain ⟨z9, h⟩ := x_ifn h
  refine lv_irem hx hb dX5_putBits_24 z9 ?_
  refine lv_istore (lv' := [(6, .int (jrem (((jrem a1 (D th 1)) / 8) + 1) (nI ((gN G) (th + 1))))), (5, .int ((jrem a1 (D th 1)) / 8)), (4, .int (jrem a1 (D th 1))), (0, .ref (ad th)), (1, .int a1), (2, .int a2), (3, .int a3)]) hx hb dX5_putBits_25 hl (by decide) rfl (fun ls hl => ?_)
  exact L27 a2 a3 (jrem a1 (D th 1)) ((jrem a1 (D th 1)) / 8) (jrem (((jrem a1 (D th 1)) / 8) + 1) (nI ((gN G) (th + 1)))) D _ _ _ h hP hS (lv_sub hl [3, 5, 6, 2, 1, 0] rfl)
abbrev rm_X5_putCoded : Room := { frames := 1, cells := 0, slots := 0, locals := 30 }
set_option maxHeartbeats 4000000 in
set_option maxRecDepth 100000 in
theorem c_X5_putCoded (l : Launch) (dd : Dd) (Y : Yc) (t : Ts3) (G : Gr) (ad : Nat → Nat) (ij : Ij G ad) (F : Nat) (th : Nat) (g_th : RingAt G th) (a1 a2 : Int32) (D0 D' : Mm) (r0 : Int32) (h : P_X5_putCoded (gN G) F th a1 a2 D0 = some (r0, D')) : Met l yX5_putCoded wzX5_putCoded rm_X5_putCoded (va_Pc [.ref (ad th), .int a1, .int a2] (Wd dd Y t G ad D0)) (Qv dd Y G ad D') 0 0 (pA G ad) := by
  refine Met.ofW (cc := cX5_putCoded) (maxL := 3) (ret := none) (by decide) rfl ?_
  intro p e s m args below meth c s₁ B hml hv
  obtain ⟨rfl, hP, hK, hT⟩ := hv
  have hx := B.exec
  have hb := B.bytes
  have hr := B.returns
  have ht0 : ∀ w ∈ W0, w.before _ s = true := fun w h => atoms_spec (ws := wzX5_putCoded) B.pre w (List.mem_cons_of_mem _ h)
  have hown : s.vm.findClass RX5 = some m.cls := findClass_of_methodNamed B.named
  have hlocks := B.notSynchronized
  have hS : va_S (pA G ad) s.heap s.heap [] := va_S.rf
  obtain ⟨k_th, p_th_0, p_th_2, k_th1, k_th2⟩ := id g_th
  have hl := lv_entry ([.ref (ad th), .int a1, .int a2]) (n := 3) (Nat.le_of_ble_eq_true rfl)
  rw [lg_entry_eq]
  generalize (lg_sl ([.ref (ad th), .int a1, .int a2]) ++ List.replicate (3 - (lg_sl ([.ref (ad th), .int a1, .int a2])).length) Slot.unset).toArray = ls at hl ⊢
  have hl : lv_has ls 3 [(0, .ref (ad th)), (1, .int a1), (2, .int a2)] := hl
  have hP : va_P dd vwCl (wW Y G ad D0) s.heap := hP
  generalize D0 = D at h hP
  have h : ((if inB ((a2 >>> (4 &&& 31)) &&& 15) 16 = true then (if inB (a2 &&& 15) 16 = true then (bi (P_X5_putBits (gN G) F th a1 10 (((tFIVES (Int32.toNatClampNeg ((a2 >>> (4 &&& 31)) &&& 15))) <<< (5 &&& 31)) ||| (tFIVES (Int32.toNatClampNeg (a2 &&& 15)))) D) (fun r3 D3 => some (0, D3))) else none) else none) : Rs) = some (r0, D') := h
  refine lv_aload_n hx hb dX5_putCoded_0 rfl (lv_at hl 0 rfl) ?_
  refine lv_iload_n hx hb dX5_putCoded_1 rfl (lv_at hl 1 rfl) ?_
  refine lv_bipush (v := 10) hx hb dX5_putCoded_2 (by decide) ?_
  refine va_getsN hx hb hT.1 hS hown (va_Nw.use rfl hT.2.2.2.2.2.2.1) (fun _ h9 => h9) dX5_putCoded_4 ?_
  refine lv_iload_n hx hb dX5_putCoded_7 rfl (lv_at hl 2 rfl) ?_
  refine lv_iconst (v := 4) hx hb dX5_putCoded_8 (by decide) ?_
  refine lv_ishr hx hb dX5_putCoded_9 ?_
  refine lv_bipush (v := 15) hx hb dX5_putCoded_10 (by decide) ?_
  refine lv_iand hx hb dX5_putCoded_12 ?_
  obtain ⟨b1, h⟩ := x_if h
  refine va_ti hx hb hT.2.1 hS (inB_in b1) rfl dX5_putCoded_13 ?_
  refine lv_iconst (v := 5) hx hb dX5_putCoded_14 (by decide) ?_
  refine lv_ishl hx hb dX5_putCoded_15 ?_
  refine va_getsN hx hb hT.1 hS hown (va_Nw.use rfl hT.2.2.2.2.2.2.1) (fun _ h9 => h9) dX5_putCoded_16 ?_
  refine lv_iload_n hx hb dX5_putCoded_19 rfl (lv_at hl 2 rfl) ?_
  refine lv_bipush (v := 15) hx hb dX5_putCoded_20 (by decide) ?_
  refine lv_iand hx hb dX5_putCoded_22 ?_
  obtain ⟨b2, h⟩ := x_if h
  refine va_ti hx hb hT.2.1 hS (inB_in b2) rfl dX5_putCoded_23 ?_
  refine lv_ior hx hb dX5_putCoded_24 ?_
  obtain ⟨r3, D3, hc3, h⟩ := bi_some h
  refine x_callVv (As := [.int a1, .int 10, .int (((tFIVES (Int32.toNatClampNeg ((a2 >>> (4 &&& 31)) &&& 15))) <<< (5 &&& 31)) ||| (tFIVES (Int32.toNatClampNeg (a2 &&& 15))))]) ⟨hx, hb, hml, hown, ht0⟩ hK hT hP hS (c_X5_putBits l dd Y t G ad ij F th g_th a1 10 (((tFIVES (Int32.toNatClampNeg ((a2 >>> (4 &&& 31)) &&& 15))) <<< (5 &&& 31)) ||| (tFIVES (Int32.toNatClampNeg (a2 &&& 15)))) _ _ _ hc3) m_ML_X5_42 sv_X5_putBits hd_X5_putBits rfl rfl ⟨Nat.le_of_ble_eq_true rfl, Nat.le_of_ble_eq_true rfl⟩ (k_th).1 (ce5 (k_th).2) rfl rfl hl.1 rfl (Nat.le_of_ble_eq_true rfl) dX5_putCoded_25 ⟨Nat.zero_le _, Nat.zero_le _⟩ (fun H locs hP hS => ?_)
  exact x_vret hx hb hr hlocks hP hS h dX5_putCoded_28
abbrev rm_X5_putHeader : Room := { frames := 2, cells := 0, slots := 0, locals := 52 }
set_option maxHeartbeats 4000000 in
set_option maxRecDepth 100000 in
theorem c_X5_putHeader (l : Launch) (dd : Dd) (Y : Yc) (t : Ts3) (G : Gr) (ad : Nat → Nat) (ij : Ij G ad) (F : Nat) (th : Nat) (g_th : RingAt G th) (a1 a2 a3 a4 : Int32) (D0 D' : Mm) (r0 : Int32) (h : P_X5_putHeader (gN G) F th a1 a2 a3 a4 D0 = some (r0, D')) : Met l yX5_putHeader wzX5_putHeader rm_X5_putHeader (va_Pc [.ref (ad th), .int a1, .int a2, .int a3, .int a4] (Wd dd Y t G ad D0)) (Qv dd Y G ad D') 0 0 (pA G ad) := by
  refine Met.ofW (cc := cX5_putHeader) (maxL := 7) (ret := none) (by decide) rfl ?_
  intro p e s m args below meth c s₁ B hml hv
  obtain ⟨rfl, hP, hK, hT⟩ := hv
  have hx := B.exec
  have hb := B.bytes
  have hr := B.returns
  have ht0 : ∀ w ∈ W0, w.before _ s = true := fun w h => atoms_spec (ws := wzX5_putHeader) B.pre w (List.mem_cons_of_mem _ h)
  have hown : s.vm.findClass RX5 = some m.cls := findClass_of_methodNamed B.named
  have hlocks := B.notSynchronized
  have hS : va_S (pA G ad) s.heap s.heap [] := va_S.rf
  obtain ⟨k_th, p_th_0, p_th_2, k_th1, k_th2⟩ := id g_th
  have L11 : ∀ (x1 x2 x3 x4 x5 : Int32) (D : Mm) (H : Heap) (locs : List Loc) (ls : Array Slot), P_X5_putHeader_11 (gN G) F th x1 x2 x3 x4 x5 D = some (r0, D') → va_P dd vwCl (wW Y G ad D) H → va_S (pA G ad) s.heap H locs → lv_has ls 7 [(0, .ref (ad th)), (1, .int x1), (2, .int x2), (3, .int x3), (4, .int x4), (5, .int x5)] → W p l e (headSpec wzX5_putHeader rm_X5_putHeader).room s m ([.ref (ad th), .int a1, .int a2, .int a3, .int a4].toArray) below meth c H locs 0 0 (MQ below (Qv dd Y G ad D') ([.ref (ad th), .int a1, .int a2, .int a3, .int a4].toArray) s 0 0 (pA G ad)) (F0 m 11 ls []) := by
    intro x1 x2 x3 x4 x5 D H locs ls h hP hS hl
    have h : ((bi (P_X5_putCoded (gN G) F th x1 8 D) (fun r1 D1 => bi (P_X5_putCoded (gN G) F th (x1 + 10) (((x3 ^^^ x2) ^^^ x5) ^^^ (x4 &&& 255)) D1) (fun r2 D2 => bi (P_X5_putCoded (gN G) F th (x1 + 20) x3 D2) (fun r3 D3 => bi (P_X5_putCoded (gN G) F th (x1 + 30) x2 D3) (fun r4 D4 => bi (P_X5_putCoded (gN G) F th (x1 + 40) x5 D4) (fun r5 D5 => bi (P_X5_putCoded (gN G) F th (x1 + 50) (x4 &&& 255) D5) (fun r6 D6 => some (0, D6)))))))) : Rs) = some (r0, D') := h
    refine lv_iload hx hb dX5_putHeader_11 (lv_at hl 4 rfl) ?_
    refine lv_sipush (v := 255) hx hb dX5_putHeader_13 (by decide) ?_
    refine lv_iand hx hb dX5_putHeader_16 ?_
    refine lv_istore (lv' := [(6, .int (x4 &&& 255)), (0, .ref (ad th)), (1, .int x1), (2, .int x2), (3, .int x3), (4, .int x4), (5, .int x5)]) hx hb dX5_putHeader_17 hl (by decide) rfl (fun ls hl => ?_)
    refine lv_aload_n hx hb dX5_putHeader_19 rfl (lv_at hl 1 rfl) ?_
    refine lv_iload_n hx hb dX5_putHeader_20 rfl (lv_at hl 2 rfl) ?_
    refine lv_bipush (v := 8) hx hb dX5_putHeader_21 (by decide) ?_
    obtain ⟨r1, D1, hc1, h⟩ := bi_some h
    refine x_callVv (As := [.int x1, .int 8]) ⟨hx, hb, hml, hown, ht0⟩ hK hT hP hS (c_X5_putCoded l dd Y t G ad ij F th g_th x1 8 _ _ _ hc1) m_ML_X5_58 sv_X5_putCoded hd_X5_putCoded rfl rfl ⟨Nat.le_of_ble_eq_true rfl, Nat.le_of_ble_eq_true rfl⟩ (k_th).1 (ce5 (k_th).2) rfl rfl hl.1 rfl (Nat.le_of_ble_eq_true rfl) dX5_putHeader_23 ⟨Nat.zero_le _, Nat.zero_le _⟩ (fun H locs hP hS => ?_)
    refine lv_aload_n hx hb dX5_putHeader_26 rfl (lv_at hl 1 rfl) ?_
    refine lv_iload_n hx hb dX5_putHeader_27 rfl (lv_at hl 2 rfl) ?_
    refine lv_bipush (v := 10) hx hb dX5_putHeader_28 (by decide) ?_
    refine lv_iadd hx hb dX5_putHeader_30 ?_
    refine lv_iload_n hx hb dX5_putHeader_31 rfl (lv_at hl 4 rfl) ?_
    refine lv_iload_n hx hb dX5_putHeader_32 rfl (lv_at hl 3 rfl) ?_
    refine lv_ixor hx hb dX5_putHeader_33 ?_
    refine lv_iload hx hb dX5_putHeader_34 (lv_at hl 6 rfl) ?_
    refine lv_ixor hx hb dX5_putHeader_36 ?_
    refine lv_iload hx hb dX5_putHeader_37 (lv_at hl 0 rfl) ?_
    refine lv_ixor hx hb dX5_putHeader_39 ?_
    obtain ⟨r2, D2, hc2, h⟩ := bi_some h
    refine x_callVv (As := [.int (x1 + 10), .int (((x3 ^^^ x2) ^^^ x5) ^^^ (x4 &&& 255))]) ⟨hx, hb, hml, hown, ht0⟩ hK hT hP hS (c_X5_putCoded l dd Y t G ad ij F th g_th (x1 + 10) (((x3 ^^^ x2) ^^^ x5) ^^^ (x4 &&& 255)) _ _ _ hc2) m_ML_X5_58 sv_X5_putCoded hd_X5_putCoded rfl rfl ⟨Nat.le_of_ble_eq_true rfl, Nat.le_of_ble_eq_true rfl⟩ (k_th).1 (ce5 (k_th).2) rfl rfl hl.1 rfl (Nat.le_of_ble_eq_true rfl) dX5_putHeader_40 ⟨Nat.zero_le _, Nat.zero_le _⟩ (fun H locs hP hS => ?_)
    refine lv_aload_n hx hb dX5_putHeader_43 rfl (lv_at hl 1 rfl) ?_
    refine lv_iload_n hx hb dX5_putHeader_44 rfl (lv_at hl 2 rfl) ?_
    refine lv_bipush (v := 20) hx hb dX5_putHeader_45 (by decide) ?_
    refine lv_iadd hx hb dX5_putHeader_47 ?_
    refine lv_iload_n hx hb dX5_putHeader_48 rfl (lv_at hl 4 rfl) ?_
    obtain ⟨r3, D3, hc3, h⟩ := bi_some h
    refine x_callVv (As := [.int (x1 + 20), .int x3]) ⟨hx, hb, hml, hown, ht0⟩ hK hT hP hS (c_X5_putCoded l dd Y t G ad ij F th g_th (x1 + 20) x3 _ _ _ hc3) m_ML_X5_58 sv_X5_putCoded hd_X5_putCoded rfl rfl ⟨Nat.le_of_ble_eq_true rfl, Nat.le_of_ble_eq_true rfl⟩ (k_th).1 (ce5 (k_th).2) rfl rfl hl.1 rfl (Nat.le_of_ble_eq_true rfl) dX5_putHeader_49 ⟨Nat.zero_le _, Nat.zero_le _⟩ (fun H locs hP hS => ?_)
    refine lv_aload_n hx hb dX5_putHeader_52 rfl (lv_at hl 1 rfl) ?_
    refine lv_iload_n hx hb dX5_putHeader_53 rfl (lv_at hl 2 rfl) ?_
    refine lv_bipush (v := 30) hx hb dX5_putHeader_54 (by decide) ?_
    refine lv_iadd hx hb dX5_putHeader_56 ?_
    refine lv_iload_n hx hb dX5_putHeader_57 rfl (lv_at hl 3 rfl) ?_
    obtain ⟨r4, D4, hc4, h⟩ := bi_some h
    refine x_callVv (As := [.int (x1 + 30), .int x2]) ⟨hx, hb, hml, hown, ht0⟩ hK hT hP hS (c_X5_putCoded l dd Y t G ad ij F th g_th (x1 + 30) x2 _ _ _ hc4) m_ML_X5_58 sv_X5_putCoded hd_X5_putCoded rfl rfl ⟨Nat.le_of_ble_eq_true rfl, Nat.le_of_ble_eq_true rfl⟩ (k_th).1 (ce5 (k_th).2) rfl rfl hl.1 rfl (Nat.le_of_ble_eq_true rfl) dX5_putHeader_58 ⟨Nat.zero_le _, Nat.zero_le _⟩ (fun H locs hP hS => ?_)
    refine lv_aload_n hx hb dX5_putHeader_61 rfl (lv_at hl 1 rfl) ?_
    refine lv_iload_n hx hb dX5_putHeader_62 rfl (lv_at hl 2 rfl) ?_
    refine lv_bipush (v := 40) hx hb dX5_putHeader_63 (by decide) ?_
    refine lv_iadd hx hb dX5_putHeader_65 ?_
    refine lv_iload hx hb dX5_putHeader_66 (lv_at hl 6 rfl) ?_
    obtain ⟨r5, D5, hc5, h⟩ := bi_some h
    refine x_callVv (As := [.int (x1 + 40), .int x5]) ⟨hx, hb, hml, hown, ht0⟩ hK hT hP hS (c_X5_putCoded l dd Y t G ad ij F th g_th (x1 + 40) x5 _ _ _ hc5) m_ML_X5_58 sv_X5_putCoded hd_X5_putCoded rfl rfl ⟨Nat.le_of_ble_eq_true rfl, Nat.le_of_ble_eq_true rfl⟩ (k_th).1 (ce5 (k_th).2) rfl rfl hl.1 rfl (Nat.le_of_ble_eq_true rfl) dX5_putHeader_68 ⟨Nat.zero_le _, Nat.zero_le _⟩ (fun H locs hP hS => ?_)
    refine lv_aload_n hx hb dX5_putHeader_71 rfl (lv_at hl 1 rfl) ?_
    refine lv_iload_n hx hb dX5_putHeader_72 rfl (lv_at hl 2 rfl) ?_
    refine lv_bipush (v := 50) hx hb dX5_putHeader_73 (by decide) ?_
    refine lv_iadd hx hb dX5_putHeader_75 ?_
    refine lv_iload hx hb dX5_putHeader_76 (lv_at hl 0 rfl) ?_
    obtain ⟨r6, D6, hc6, h⟩ := bi_some h
    refine x_callVv (As := [.int (x1 + 50), .int (x4 &&& 255)]) ⟨hx, hb, hml, hown, ht0⟩ hK hT hP hS (c_X5_putCoded l dd Y t G ad ij F th g_th (x1 + 50) (x4 &&& 255) _ _ _ hc6) m_ML_X5_58 sv_X5_putCoded hd_X5_putCoded rfl rfl ⟨Nat.le_of_ble_eq_true rfl, Nat.le_of_ble_eq_true rfl⟩ (k_th).1 (ce5 (k_th).2) rfl rfl hl.1 rfl (Nat.le_of_ble_eq_true rfl) dX5_putHeader_78 ⟨Nat.zero_le _, Nat.zero_le _⟩ (fun H locs hP hS => ?_)
    exact x_vret hx hb hr hlocks hP hS h dX5_putHeader_81
  have hl := lv_entry ([.ref (ad th), .int a1, .int a2, .int a3, .int a4]) (n := 7) (Nat.le_of_ble_eq_true rfl)
  rw [lg_entry_eq]
  generalize (lg_sl ([.ref (ad th), .int a1, .int a2, .int a3, .int a4]) ++ List.replicate (7 - (lg_sl ([.ref (ad th), .int a1, .int a2, .int a3, .int a4])).length) Slot.unset).toArray = ls at hl ⊢
  have hl : lv_has ls 7 [(0, .ref (ad th)), (1, .int a1), (2, .int a2), (3, .int a3), (4, .int a4)] := hl
  have hP : va_P dd vwCl (wW Y G ad D0) s.heap := hP
  generalize D0 = D at h hP
  have h : ((P_X5_putHeader_11 (gN G) F th a1 a2 a3 a4 ((a4 >>> (8 &&& 31)) &&& 255) D) : Rs) = some (r0, D') := h
  refine lv_iload hx hb dX5_putHeader_0 (lv_at hl 4 rfl) ?_
  refine lv_bipush (v := 8) hx hb dX5_putHeader_2 (by decide) ?_
  refine lv_ishr hx hb dX5_putHeader_4 ?_
  refine lv_sipush (v := 255) hx hb dX5_putHeader_5 (by decide) ?_
  refine lv_iand hx hb dX5_putHeader_8 ?_
  refine lv_istore (lv' := [(5, .int ((a4 >>> (8 &&& 31)) &&& 255)), (0, .ref (ad th)), (1, .int a1), (2, .int a2), (3, .int a3), (4, .int a4)]) hx hb dX5_putHeader_9 hl (by decide) rfl (fun ls hl => ?_)
  exact L11 a1 a2 a3 a4 ((a4 >>> (8 &&& 31)) &&& 255) D _ _ _ h hP hS (lv_sub hl [1, 2, 3, 4, 5, 0] rfl)
abbrev rm_X5_layRing : Room := { frames := 1, cells := 0, slots := 0, locals := 26 }
set_option maxHeartbeats 4000000 in
set_option maxRecDepth 100000 in
theorem c_X5_layRing (l : Launch) (dd : Dd) (Y : Yc) (t : Ts3) (G : Gr) (ad : Nat → Nat) (ij : Ij G ad) (F : Nat) (th : Nat) (u1 : Nat) (g_th : RingAt G th) (g_u1 : RingAt G u1) (a2 : Int32) (D0 D' : Mm) (r0 : Int32) (h : P_X5_layRing (gN G) F th u1 a2 D0 = some (r0, D')) : Met l yX5_layRing wzX5_layRing rm_X5_layRing (va_Pc [.ref (ad th), .ref (ad u1), .int a2] (Wd dd Y t G ad D0)) (Qv dd Y G ad D') 0 0 (pA G ad) := by
  refine Met.ofW (cc := cX5_layRing) (maxL := 3) (ret := none) (by decide) rfl ?_
  intro p e s m args below meth c s₁ B hml hv
  obtain ⟨rfl, hP, hK, hT⟩ := hv
  have hx := B.exec
  have hb := B.bytes
  have hr := B.returns
  have ht0 : ∀ w ∈ W0, w.before _ s = true := fun w h => atoms_spec (ws := wzX5_layRing) B.pre w (List.mem_cons_of_mem _ h)
  have hown : s.vm.findClass RX5 = some m.cls := findClass_of_methodNamed B.named
  have hlocks := B.notSynchronized
  have hS : va_S (pA G ad) s.heap s.heap [] := va_S.rf
  obtain ⟨k_th, p_th_0, p_th_2, k_th1, k_th2⟩ := id g_th
  obtain ⟨k_u1, p_u1_0, p_u1_2, k_u11, k_u12⟩ := id g_u1
  have L37 : ∀ (D : Mm) (H : Heap) (locs : List Loc) (ls : Array Slot), P_X5_layRing_37 (gN G) F th u1 D = some (r0, D') → va_P dd vwCl (wW Y G ad D) H → va_S (pA G ad) s.heap H locs → lv_has ls 3 [(0, .ref (ad th))] → W p l e (headSpec wzX5_layRing rm_X5_layRing).room s m ([.ref (ad th), .ref (ad u1), .int a2].toArray) below meth c H locs 0 0 (MQ below (Qv dd Y G ad D') ([.ref (ad th), .ref (ad u1), .int a2].toArray) s 0 0 (pA G ad)) (F0 m 37 ls []) := by
    intro D H locs ls h hP hS hl
    have h : ((some (0, up2 D th 4 0)) : Rs) = some (r0, D') := h
    refine lv_aload_n hx hb dX5_layRing_37 rfl (lv_at hl 0 rfl) ?_
    refine lv_iconst (v := 0) hx hb dX5_layRing_38 (by decide) ?_
    refine x_put (ty := .boolean) hx hb ht0 u_X5 tyX5 tyX5_ok nmX5 hown hK ij hP hS (k_th).1 (ce5 (k_th).2) rfl 4 (by decide) (ht0 _ m_FL_X5_35) rfl rfl (by decide +kernel) rfl rfl (Nat.le_of_ble_eq_true rfl) (by rw [(k_th).2]; rfl) dX5_layRing_39 (fun H locs hP hS => ?_)
    exact x_vret hx hb hr hlocks hP hS h dX5_layRing_42
  have hl := lv_entry ([.ref (ad th), .ref (ad u1), .int a2]) (n := 3) (Nat.le_of_ble_eq_true rfl)
  rw [lg_entry_eq]
  generalize (lg_sl ([.ref (ad th), .ref (ad u1), .int a2]) ++ List.replicate (3 - (lg_sl ([.ref (ad th), .ref (ad u1), .int a2])).length) Slot.unset).toArray = ls at hl ⊢
  have hl : lv_has ls 3 [(0, .ref (ad th)), (1, .ref (ad u1)), (2, .int a2)] := hl
  have hP : va_P dd vwCl (wW Y G ad D0) s.heap := hP
  generalize D0 = D at h hP
  have h : ((if a2 < 0 then (some (0, D)) else (if (nI ((gN G) (th + 1))) < (a2 + (nI ((gN G) (u1 + 1)))) then (some (0, D)) else (if decide (¬ (0 : Int32) < 0 ∧ ¬ (a2 : Int32) < 0 ∧ ¬ ((nI ((gN G) (u1 + 1))) : Int32) < 0 ∧ Int32.toNatClampNeg 0 + Int32.toNatClampNeg (nI ((gN G) (u1 + 1))) ≤ (gN G) (u1 + 1) ∧ Int32.toNatClampNeg a2 + Int32.toNatClampNeg (nI ((gN G) (u1 + 1))) ≤ (gN G) (th + 1)) = true then (P_X5_layRing_37 (gN G) F th u1 (upA D (th + 1) (va_cpy (D (u1 + 1)) (D (th + 1)) (Int32.toNatClampNeg 0) (Int32.toNatClampNeg a2) (Int32.toNatClampNeg (nI ((gN G) (u1 + 1))))))) else none))) : Rs) = some (r0, D') := h
  refine lv_iload_n hx hb dX5_layRing_0 rfl (lv_at hl 2 rfl) ?_
  refine lv_if_lt (tgt := 42) hx hb dX5_layRing_1 (by decide) (fun c1 => ?_) (fun c1 => ?_)
  · have h := x_t (show a2 < 0 from c1) h
    exact x_vret hx hb hr hlocks hP hS h dX5_layRing_42
  · have h := x_f (show ¬ (a2 < 0) from c1) h
    refine lv_iload_n hx hb dX5_layRing_4 rfl (lv_at hl 2 rfl) ?_
    refine lv_aload_n hx hb dX5_layRing_5 rfl (lv_at hl 1 rfl) ?_
    refine x_get hx hb ht0 u_X5 hown hK hP (k_u1).1 (ce5 (k_u1).2) rfl 0 (by decide) (ht0 _ m_FL_X5_15) rfl (rfv p_u1_0) dX5_layRing_6 ?_
    refine x_len hx hb hK hP k_u11 dX5_layRing_9 ?_
    refine lv_iadd hx hb dX5_layRing_10 ?_
    refine lv_aload_n hx hb dX5_layRing_11 rfl (lv_at hl 0 rfl) ?_
    refine x_get hx hb ht0 u_X5 hown hK hP (k_th).1 (ce5 (k_th).2) rfl 0 (by decide) (ht0 _ m_FL_X5_15) rfl (rfv p_th_0) dX5_layRing_12 ?_
    refine x_len hx hb hK hP k_th1 dX5_layRing_15 ?_
    refine lv_icmp_gt (tgt := 42) hx hb dX5_layRing_16 (by decide) (fun c2 => ?_) (fun c2 => ?_)
    · have h := x_t (show (nI ((gN G) (th + 1))) < (a2 + (nI ((gN G) (u1 + 1)))) from c2) h
      exact x_vret hx hb hr hlocks hP hS h dX5_layRing_42
    · have h := x_f (show ¬ ((nI ((gN G) (th + 1))) < (a2 + (nI ((gN G) (u1 + 1))))) from c2) h
      refine lv_aload_n hx hb dX5_layRing_19 rfl (lv_at hl 1 rfl) ?_
      refine x_get hx hb ht0 u_X5 hown hK hP (k_u1).1 (ce5 (k_u1).2) rfl 0 (by decide) (ht0 _ m_FL_X5_15) rfl (rfv p_u1_0) dX5_layRing_20 ?_
      refine lv_iconst (v := 0) hx hb dX5_layRing_23 (by decide) ?_
      refine lv_aload_n hx hb dX5_layRing_24 rfl (lv_at hl 0 rfl) ?_
      refine x_get hx hb ht0 u_X5 hown hK hP (k_th).1 (ce5 (k_th).2) rfl 0 (by decide) (ht0 _ m_FL_X5_15) rfl (rfv p_th_0) dX5_layRing_25 ?_
      refine lv_iload_n hx hb dX5_layRing_28 rfl (lv_at hl 2 rfl) ?_
      refine lv_aload_n hx hb dX5_layRing_29 rfl (lv_at hl 1 rfl) ?_
      refine x_get hx hb ht0 u_X5 hown hK hP (k_u1).1 (ce5 (k_u1).2) rfl 0 (by decide) (ht0 _ m_FL_X5_15) rfl (rfv p_u1_0) dX5_layRing_30 ?_
      refine x_len hx hb hK hP k_u11 dX5_layRing_33 ?_
      obtain ⟨b3, h⟩ := x_if h
      refine x_cpy hx hb (hml.trans hl.1.symm) hown (ht0 _ m_ML_X5_52) (ht0 _ m_native_cpy) (ht0 _ m_static_cpy) (ht0 _ m_IN_J10) hK ij hP hS k_u11 k_th1 b3 (Nat.le_of_ble_eq_true rfl) (Nat.le_of_ble_eq_true rfl) dX5_layRing_34 (fun H locs hP hS => ?_)
      exact L37 (upA D (th + 1) (va_cpy (D (u1 + 1)) (D (th + 1)) (Int32.toNatClampNeg 0) (Int32.toNatClampNeg a2) (Int32.toNatClampNeg (nI ((gN G) (u1 + 1)))))) _ _ _ h hP hS (lv_sub hl [0] rfl)
abbrev rm_X0_formatTrack : Room := { frames := 3, cells := 0, slots := 0, locals := 78 }
set_option maxHeartbeats 4000000 in
set_option maxRecDepth 100000 in
theorem c_X0_formatTrack (l : Launch) (dd : Dd) (Y : Yc) (t : Ts3) (ad : Nat → Nat) (ij : Ij XG ad) (F : Nat) (u1 : Nat) (g_u1 : RingAt XG u1) (a2 : Int32) (D0 D' : Mm) (r0 : Int32) (h : P_X0_formatTrack (gN XG) F u1 a2 D0 = some (r0, D')) : Met l yX0_formatTrack wzX0_formatTrack rm_X0_formatTrack (va_Pc [.ref (ad 2), .ref (ad u1), .int a2] (Wd dd Y t XG ad D0)) (Qv dd Y XG ad D') 0 0 (pA XG ad) := by
  refine Met.ofW (cc := cX0_formatTrack) (maxL := 5) (ret := none) (by decide) rfl ?_
  intro p e s m args below meth c s₁ B hml hv
  obtain ⟨rfl, hP, hK, hT⟩ := hv
  have hx := B.exec
  have hb := B.bytes
  have hr := B.returns
  have ht0 : ∀ w ∈ W0, w.before _ s = true := fun w h => atoms_spec (ws := wzX0_formatTrack) B.pre w (List.mem_cons_of_mem _ h)
  have hown : s.vm.findClass RX0 = some m.cls := findClass_of_methodNamed B.named
  have hlocks := B.notSynchronized
  have hS : va_S (pA XG ad) s.heap s.heap [] := va_S.rf
  obtain ⟨k_u1, p_u1_0, p_u1_2, k_u11, k_u12⟩ := id g_u1
  have L12 : ∀ (n : Nat), ∀ (x2 x3 x4 : Int32) (D : Mm) (H : Heap) (locs : List Loc) (ls : Array Slot), P_X0_formatTrack_12 (gN XG) F u1 n x2 x3 x4 D = some (r0, D') → va_P dd vwCl (wW Y XG ad D) H → va_S (pA XG ad) s.heap H locs → lv_has ls 5 [(0, .ref (ad 2)), (1, .ref (ad u1)), (2, .int x2), (3, .int x3), (4, .int x4)] → W p l e (headSpec wzX0_formatTrack rm_X0_formatTrack).room s m ([.ref (ad 2), .ref (ad u1), .int a2].toArray) below meth c H locs 0 0 (MQ below (Qv dd Y XG ad D') ([.ref (ad 2), .ref (ad u1), .int a2].toArray) s 0 0 (pA XG ad)) (F0 m 12 ls []) := by
    intro n
    induction n with
    | zero =>
      intro x2 x3 x4 D H locs ls h hP hS hl
      cases h
    | succ n ih =>
      intro x2 x3 x4 D H locs ls h hP hS hl
      have h : ((if x3 ≤ x4 then (some (0, D)) else (bi (P_X5_putHeader (gN XG) F 52 40 x2 x4 (D 2 3) D) (fun r2 D2 => bi (P_X5_layRing (gN XG) F u1 52 (114 * x4) D2) (fun r3 D3 => P_X0_formatTrack_12 (gN XG) F u1 n x2 x3 (x4 + 1) D3)))) : Rs) = some (r0, D') := h
      refine lv_iload hx hb dX0_formatTrack_12 (lv_at hl 4 rfl) ?_
      refine lv_iload_n hx hb dX0_formatTrack_14 rfl (lv_at hl 3 rfl) ?_
      refine lv_icmp_ge (tgt := 53) hx hb dX0_formatTrack_15 (by decide) (fun c1 => ?_) (fun c1 => ?_)
      · have h := x_t (show x3 ≤ x4 from c1) h
        exact x_vret hx hb hr hlocks hP hS h dX0_formatTrack_53
      · have h := x_f (show ¬ (x3 ≤ x4) from c1) h
        refine lv_aload_n hx hb dX0_formatTrack_18 rfl (lv_at hl 0 rfl) ?_
        refine x_get hx hb ht0 u_X0 hown hK hP (xk_2).1 (ce0 (xk_2).2) rfl 2 (by decide) (ht0 _ m_FL_X0_32) rfl (rfv (G := XG) (c := 2) (k := 2) (c' := 52) rfl) dX0_formatTrack_19 ?_
        refine lv_bipush (v := 40) hx hb dX0_formatTrack_22 (by decide) ?_
        refine lv_iload_n hx hb dX0_formatTrack_24 rfl (lv_at hl 2 rfl) ?_
        refine lv_iload hx hb dX0_formatTrack_25 (lv_at hl 4 rfl) ?_
        refine lv_aload_n hx hb dX0_formatTrack_27 rfl (lv_at hl 0 rfl) ?_
        refine x_get hx hb ht0 u_X0 hown hK hP (xk_2).1 (ce0 (xk_2).2) rfl 3 (by decide) (ht0 _ m_FL_X0_15) rfl rfl dX0_formatTrack_28 ?_
        obtain ⟨r2, D2, hc2, h⟩ := bi_some h
        refine x_callVv (As := [.int 40, .int x2, .int x4, .int (D 2 3)]) ⟨hx, hb, hml, hown, ht0⟩ hK hT hP hS (c_X5_putHeader l dd Y t XG ad ij F 52 xr_52 40 x2 x4 (D 2 3) _ _ _ hc2) m_ML_X0_57 sv_X5_putHeader hd_X5_putHeader rfl rfl ⟨Nat.le_of_ble_eq_true rfl, Nat.le_of_ble_eq_true rfl⟩ (xk_52).1 (ce5 (xk_52).2) rfl rfl hl.1 rfl (Nat.le_of_ble_eq_true rfl) dX0_formatTrack_31 ⟨Nat.zero_le _, Nat.zero_le _⟩ (fun H locs hP hS => ?_)
        refine lv_aload_n hx hb dX0_formatTrack_34 rfl (lv_at hl 1 rfl) ?_
        refine lv_aload_n hx hb dX0_formatTrack_35 rfl (lv_at hl 0 rfl) ?_
        refine x_get hx hb ht0 u_X0 hown hK hP (xk_2).1 (ce0 (xk_2).2) rfl 2 (by decide) (ht0 _ m_FL_X0_32) rfl (rfv (G := XG) (c := 2) (k := 2) (c' := 52) rfl) dX0_formatTrack_36 ?_
        refine lv_bipush (v := 114) hx hb dX0_formatTrack_39 (by decide) ?_
        refine lv_iload hx hb dX0_formatTrack_41 (lv_at hl 4 rfl) ?_
        refine lv_imul hx hb dX0_formatTrack_43 ?_
        obtain ⟨r3, D3, hc3, h⟩ := bi_some h
        refine x_callVv (As := [.ref (ad 52), .int (114 * x4)]) ⟨hx, hb, hml, hown, ht0⟩ hK hT hP hS (c_X5_layRing l dd Y t XG ad ij F u1 52 g_u1 xr_52 (114 * x4) _ _ _ hc3) m_ML_X0_61 sv_X5_layRing hd_X5_layRing rfl rfl ⟨Nat.le_of_ble_eq_true rfl, Nat.le_of_ble_eq_true rfl⟩ (k_u1).1 (ce5 (k_u1).2) rfl rfl hl.1 rfl (Nat.le_of_ble_eq_true rfl) dX0_formatTrack_44 ⟨Nat.zero_le _, Nat.zero_le _⟩ (fun H locs hP hS => ?_)
        refine lv_iinc (v := x4 + 1) (lv' := [(4, .int (x4 + 1)), (0, .ref (ad 2)), (1, .ref (ad u1)), (2, .int x2), (3, .int x3)]) hx hb dX0_formatTrack_47 hl (k := 4) rfl rfl (by decide) rfl (fun ls hl => ?_)
        refine lv_goto (tgt := 12) hx hb dX0_formatTrack_50 (by decide) ?_
        exact ih x2 x3 (x4 + 1) D3 _ _ _ h hP hS (lv_sub hl [1, 2, 3, 4, 0] rfl)
  have hl := lv_entry ([.ref (ad 2), .ref (ad u1), .int a2]) (n := 5) (Nat.le_of_ble_eq_true rfl)
  rw [lg_entry_eq]
  generalize (lg_sl ([.ref (ad 2), .ref (ad u1), .int a2]) ++ List.replicate (5 - (lg_sl ([.ref (ad 2), .ref (ad u1), .int a2])).length) Slot.unset).toArray = ls at hl ⊢
  have hl : lv_has ls 5 [(0, .ref (ad 2)), (1, .ref (ad u1)), (2, .int a2)] := hl
  have hP : va_P dd vwCl (wW Y XG ad D0) s.heap := hP
  generalize D0 = D at h hP
  have h : ((bi (P_X5_fillGap (gN XG) F u1 D) (fun r4 D4 => bi (P_X0_sectorsOf (gN XG) F a2 D4) (fun r5 D5 => P_X0_formatTrack_12 (gN XG) F u1 F a2 r5 0 D5))) : Rs) = some (r0, D') := h
  refine lv_aload_n hx hb dX0_formatTrack_0 rfl (lv_at hl 1 rfl) ?_
  obtain ⟨r4, D4, hc4, h⟩ := bi_some h
  refine x_callVv (As := []) ⟨hx, hb, hml, hown, ht0⟩ hK hT hP hS (c_X5_fillGap l dd Y t XG ad ij F u1 g_u1 _ _ _ hc4) m_ML_X0_36 sv_X5_fillGap hd_X5_fillGap rfl rfl ⟨Nat.le_of_ble_eq_true rfl, Nat.le_of_ble_eq_true rfl⟩ (k_u1).1 (ce5 (k_u1).2) rfl rfl hl.1 rfl (Nat.le_of_ble_eq_true rfl) dX0_formatTrack_1 ⟨Nat.zero_le _, Nat.zero_le _⟩ (fun H locs hP hS => ?_)
  refine lv_iload_n hx hb dX0_formatTrack_4 rfl (lv_at hl 2 rfl) ?_
  obtain ⟨r5, D5, hc5, h⟩ := bi_some h
  refine x_callSi (As := [.int a2]) ⟨hx, hb, hml, hown, ht0⟩ hK hT hP hS (c_X0_sectorsOf l dd Y t ad ij F a2 _ _ _ hc5) m_ML_X0_46 ss_X0_sectorsOf hd_X0_sectorsOf rfl rfl ⟨Nat.le_of_ble_eq_true rfl, Nat.le_of_ble_eq_true rfl⟩ rfl hl.1 rfl (Nat.le_of_ble_eq_true rfl) dX0_formatTrack_5 ⟨Nat.zero_le _, Nat.zero_le _⟩ (fun H locs hn_r5 hP hS => ?_)
  refine lv_istore_n (lv' := [(3, .int r5), (0, .ref (ad 2)), (1, .ref (ad u1)), (2, .int a2)]) hx hb dX0_formatTrack_8 rfl hl (by decide) rfl (fun ls hl => ?_)
  refine lv_iconst (v := 0) hx hb dX0_formatTrack_9 (by decide) ?_
  refine lv_istore (lv' := [(4, .int 0), (3, .int r5), (0, .ref (ad 2)), (1, .ref (ad u1)), (2, .int a2)]) hx hb dX0_formatTrack_10 hl (by decide) rfl (fun ls hl => ?_)
  exact L12 F a2 r5 0 D5 _ _ _ h hP hS (lv_sub hl [2, 3, 4, 1, 0] rfl)
abbrev rm_X0_formatTracks : Room := { frames := 4, cells := 0, slots := 0, locals := 102 }
set_option maxHeartbeats 4000000 in
set_option maxRecDepth 100000 in
theorem c_X0_formatTracks (l : Launch) (dd : Dd) (Y : Yc) (t : Ts3) (ad : Nat → Nat) (ij : Ij XG ad) (F : Nat) (D0 D' : Mm) (r0 : Int32) (h : P_X0_formatTracks (gN XG) F D0 = some (r0, D')) : Met l yX0_formatTracks wzX0_formatTracks rm_X0_formatTracks (va_Pc [.ref (ad 2)] (Wd dd Y t XG ad D0)) (Qv dd Y XG ad D') 0 0 (pA XG ad) := by
  refine Met.ofW (cc := cX0_formatTracks) (maxL := 3) (ret := none) (by decide) rfl ?_
  intro p e s m args below meth c s₁ B hml hv
  obtain ⟨rfl, hP, hK, hT⟩ := hv
  have hx := B.exec
  have hb := B.bytes
  have hr := B.returns
  have ht0 : ∀ w ∈ W0, w.before _ s = true := fun w h => atoms_spec (ws := wzX0_formatTracks) B.pre w (List.mem_cons_of_mem _ h)
  have hown : s.vm.findClass RX0 = some m.cls := findClass_of_methodNamed B.named
  have hlocks := B.notSynchronized
  have hS : va_S (pA XG ad) s.heap s.heap [] := va_S.rf
  have L2 : ∀ (n : Nat), ∀ (x1 : Int32) (D : Mm) (H : Heap) (locs : List Loc) (ls : Array Slot), P_X0_formatTracks_2 (gN XG) F n x1 D = some (r0, D') → va_P dd vwCl (wW Y XG ad D) H → va_S (pA XG ad) s.heap H locs → lv_has ls 3 [(0, .ref (ad 2)), (1, .int x1)] → W p l e (headSpec wzX0_formatTracks rm_X0_formatTracks).room s m ([.ref (ad 2)].toArray) below meth c H locs 0 0 (MQ below (Qv dd Y XG ad D') ([.ref (ad 2)].toArray) s 0 0 (pA XG ad)) (F0 m 2 ls []) := by
    intro n
    induction n with
    | zero =>
      intro x1 D H locs ls h hP hS hl
      cases h
    | succ n ih =>
      intro x1 D H locs ls h hP hS hl
      have h : ((if 16 < x1 then (some (0, D)) else (bq (P_X0_ringOf x1) (P_X0_formatTracks_2 (gN XG) F n (x1 + 1) D) (fun w2 => bi (P_X0_formatTrack (gN XG) F w2 x1 D) (fun r3 D3 => P_X0_formatTracks_2 (gN XG) F n (x1 + 1) D3)))) : Rs) = some (r0, D') := h
      refine lv_iload_n hx hb dX0_formatTracks_2 rfl (lv_at hl 1 rfl) ?_
      refine lv_bipush (v := 16) hx hb dX0_formatTracks_3 (by decide) ?_
      refine lv_icmp_gt (tgt := 30) hx hb dX0_formatTracks_5 (by decide) (fun c1 => ?_) (fun c1 => ?_)
      · have h := x_t (show 16 < x1 from c1) h
        exact x_vret hx hb hr hlocks hP hS h dX0_formatTracks_30
      · have h := x_f (show ¬ (16 < x1) from c1) h
        refine lv_aload_n hx hb dX0_formatTracks_8 rfl (lv_at hl 0 rfl) ?_
        refine lv_iload_n hx hb dX0_formatTracks_9 rfl (lv_at hl 1 rfl) ?_
        refine x_callVq (As := [.int x1]) ⟨hx, hb, hml, hown, ht0⟩ hK hT hP hS (c_X0_ringOf l dd Y t ad ij x1 D) m_ML_X0_49 sv_X0_ringOf hd_X0_ringOf rfl rfl ⟨Nat.le_of_ble_eq_true rfl, Nat.le_of_ble_eq_true rfl⟩ (xk_2).1 (ce0 (xk_2).2) rfl rfl hl.1 rfl (Nat.le_of_ble_eq_true rfl) dX0_formatTracks_10 ⟨Nat.zero_le _, Nat.zero_le _⟩ (fun hq H locs hP hS => ?_) (fun w2 hq H locs hP hS => ?_)
        · have h := bq_n hq h
          refine lv_astore_nN (lv' := [(2, .null), (0, .ref (ad 2)), (1, .int x1)]) hx hb dX0_formatTracks_13 rfl hl (by decide) rfl (fun ls hl => ?_)
          refine lv_aload_nN hx hb dX0_formatTracks_14 rfl (lv_at hl 0 rfl) ?_
          refine lv_ifnullN (tgt := 24) hx hb dX0_formatTracks_15 (by decide) ?_
          refine lv_iinc (v := x1 + 1) (lv' := [(1, .int (x1 + 1)), (2, .null), (0, .ref (ad 2))]) hx hb dX0_formatTracks_24 hl (k := 2) rfl rfl (by decide) rfl (fun ls hl => ?_)
          refine lv_goto (tgt := 2) hx hb dX0_formatTracks_27 (by decide) ?_
          exact ih (x1 + 1) D _ _ _ h hP hS (lv_sub hl [2, 0] rfl)
        · have h := bq_s hq h
          have g_w2 : RingAt XG w2 := ringOf_at hq
          obtain ⟨k_w2, p_w2_0, p_w2_2, k_w21, k_w22⟩ := id g_w2
          refine lv_astore_n (lv' := [(2, .ref (ad w2)), (0, .ref (ad 2)), (1, .int x1)]) hx hb dX0_formatTracks_13 rfl hl (by decide) rfl (fun ls hl => ?_)
          refine lv_aload_n hx hb dX0_formatTracks_14 rfl (lv_at hl 0 rfl) ?_
          refine lv_ifnull hx hb dX0_formatTracks_15 ?_
          refine lv_aload_n hx hb dX0_formatTracks_18 rfl (lv_at hl 1 rfl) ?_
          refine lv_aload_n hx hb dX0_formatTracks_19 rfl (lv_at hl 0 rfl) ?_
          refine lv_iload_n hx hb dX0_formatTracks_20 rfl (lv_at hl 2 rfl) ?_
          obtain ⟨r3, D3, hc3, h⟩ := bi_some h
          refine x_callVv (As := [.ref (ad w2), .int x1]) ⟨hx, hb, hml, hown, ht0⟩ hK hT hP hS (c_X0_formatTrack l dd Y t ad ij F w2 g_w2 x1 _ _ _ hc3) m_ML_X0_53 sv_X0_formatTrack hd_X0_formatTrack rfl rfl ⟨Nat.le_of_ble_eq_true rfl, Nat.le_of_ble_eq_true rfl⟩ (xk_2).1 (ce0 (xk_2).2) rfl rfl hl.1 rfl (Nat.le_of_ble_eq_true rfl) dX0_formatTracks_21 ⟨Nat.zero_le _, Nat.zero_le _⟩ (fun H locs hP hS => ?_)
          refine lv_iinc (v := x1 + 1) (lv' := [(1, .int (x1 + 1)), (2, .ref (ad w2)), (0, .ref (ad 2))]) hx hb dX0_formatTracks_24 hl (k := 2) rfl rfl (by decide) rfl (fun ls hl => ?_)
          refine lv_goto (tgt := 2) hx hb dX0_formatTracks_27 (by decide) ?_
          exact ih (x1 + 1) D3 _ _ _ h hP hS (lv_sub hl [2, 0] rfl)
  have hl := lv_entry ([.ref (ad 2)]) (n := 3) (Nat.le_of_ble_eq_true rfl)
  rw [lg_entry_eq]
  generalize (lg_sl ([.ref (ad 2)]) ++ List.replicate (3 - (lg_sl ([.ref (ad 2)])).length) Slot.unset).toArray = ls at hl ⊢
  have hl : lv_has ls 3 [(0, .ref (ad 2))] := hl
  have hP : va_P dd vwCl (wW Y XG ad D0) s.heap := hP
  generalize D0 = D at h hP
  have h : ((P_X0_formatTracks_2 (gN XG) F F 1 D) : Rs) = some (r0, D') := h
  refine lv_iconst (v := 1) hx hb dX0_formatTracks_0 (by decide) ?_
  refine lv_istore_n (lv' := [(1, .int 1), (0, .ref (ad 2))]) hx hb dX0_formatTracks_1 rfl hl (by decide) rfl (fun ls hl => ?_)
  exact L2 F 1 D _ _ _ h hP hS (lv_sub hl [1, 0] rfl)
abbrev rm_X5_putSync : Room := { frames := 1, cells := 0, slots := 0, locals := 30 }
set_option maxHeartbeats 4000000 in
set_option maxRecDepth 100000 in
theorem c_X5_putSync (l : Launch) (dd : Dd) (Y : Yc) (t : Ts3) (G : Gr) (ad : Nat → Nat) (ij : Ij G ad) (F : Nat) (th : Nat) (g_th : RingAt G th) (a1 : Int32) (D0 D' : Mm) (r0 : Int32) (h : P_X5_putSync (gN G) F th a1 D0 = some (r0, D')) : Met l yX5_putSync wzX5_putSync rm_X5_putSync (va_Pc [.ref (ad th), .int a1] (Wd dd Y t G ad D0)) (Qv dd Y G ad D') 0 0 (pA G ad) := by
  refine Met.ofW (cc := cX5_putSync) (maxL := 3) (ret := none) (by decide) rfl ?_
  intro p e s m args below meth c s₁ B hml hv
  obtain ⟨rfl, hP, hK, hT⟩ := hv
  have hx := B.exec
  have hb := B.bytes
  have hr := B.returns
  have ht0 : ∀ w ∈ W0, w.before _ s = true := fun w h => atoms_spec (ws := wzX5_putSync) B.pre w (List.mem_cons_of_mem _ h)
  have hown : s.vm.findClass RX5 = some m.cls := findClass_of_methodNamed B.named
  have hlocks := B.notSynchronized
  have hS : va_S (pA G ad) s.heap s.heap [] := va_S.rf
  obtain ⟨k_th, p_th_0, p_th_2, k_th1, k_th2⟩ := id g_th
  have L2 : ∀ (n : Nat), ∀ (x1 x2 : Int32) (D : Mm) (H : Heap) (locs : List Loc) (ls : Array Slot), P_X5_putSync_2 (gN G) F th n x1 x2 D = some (r0, D') → va_P dd vwCl (wW Y G ad D) H → va_S (pA G ad) s.heap H locs → lv_has ls 3 [(0, .ref (ad th)), (1, .int x1), (2, .int x2)] → W p l e (headSpec wzX5_putSync rm_X5_putSync).room s m ([.ref (ad th), .int a1].toArray) below meth c H locs 0 0 (MQ below (Qv dd Y G ad D') ([.ref (ad th), .int a1].toArray) s 0 0 (pA G ad)) (F0 m 2 ls []) := by
    intro n
    induction n with
    | zero =>
      intro x1 x2 D H locs ls h hP hS hl
      cases h
    | succ n ih =>
      intro x1 x2 D H locs ls h hP hS hl
      have h : ((if 5 ≤ x2 then (some (0, D)) else (bi (P_X5_putBits (gN G) F th (x1 + (8 * x2)) 8 255 D) (fun r2 D2 => P_X5_putSync_2 (gN G) F th n x1 (x2 + 1) D2))) : Rs) = some (r0, D') := h
      refine lv_iload_n hx hb dX5_putSync_2 rfl (lv_at hl 2 rfl) ?_
      refine lv_iconst (v := 5) hx hb dX5_putSync_3 (by decide) ?_
      refine lv_icmp_ge (tgt := 28) hx hb dX5_putSync_4 (by decide) (fun c1 => ?_) (fun c1 => ?_)
      · have h := x_t (show 5 ≤ x2 from c1) h
        exact x_vret hx hb hr hlocks hP hS h dX5_putSync_28
      · have h := x_f (show ¬ (5 ≤ x2) from c1) h
        refine lv_aload_n hx hb dX5_putSync_7 rfl (lv_at hl 0 rfl) ?_
        refine lv_iload_n hx hb dX5_putSync_8 rfl (lv_at hl 1 rfl) ?_
        refine lv_bipush (v := 8) hx hb dX5_putSync_9 (by decide) ?_
        refine lv_iload_n hx hb dX5_putSync_11 rfl (lv_at hl 2 rfl) ?_
        refine lv_imul hx hb dX5_putSync_12 ?_
        refine lv_iadd hx hb dX5_putSync_13 ?_
        refine lv_bipush (v := 8) hx hb dX5_putSync_14 (by decide) ?_
        refine lv_sipush (v := 255) hx hb dX5_putSync_16 (by decide) ?_
        obtain ⟨r2, D2, hc2, h⟩ := bi_some h
        refine x_callVv (As := [.int (x1 + (8 * x2)), .int 8, .int 255]) ⟨hx, hb, hml, hown, ht0⟩ hK hT hP hS (c_X5_putBits l dd Y t G ad ij F th g_th (x1 + (8 * x2)) 8 255 _ _ _ hc2) m_ML_X5_42 sv_X5_putBits hd_X5_putBits rfl rfl ⟨Nat.le_of_ble_eq_true rfl, Nat.le_of_ble_eq_true rfl⟩ (k_th).1 (ce5 (k_th).2) rfl rfl hl.1 rfl (Nat.le_of_ble_eq_true rfl) dX5_putSync_19 ⟨Nat.zero_le _, Nat.zero_le _⟩ (fun H locs hP hS => ?_)
        refine lv_iinc (v := x2 + 1) (lv' := [(2, .int (x2 + 1)), (0, .ref (ad th)), (1, .int x1)]) hx hb dX5_putSync_22 hl (k := 2) rfl rfl (by decide) rfl (fun ls hl => ?_)
        refine lv_goto (tgt := 2) hx hb dX5_putSync_25 (by decide) ?_
        exact ih x1 (x2 + 1) D2 _ _ _ h hP hS (lv_sub hl [1, 2, 0] rfl)
  have hl := lv_entry ([.ref (ad th), .int a1]) (n := 3) (Nat.le_of_ble_eq_true rfl)
  rw [lg_entry_eq]
  generalize (lg_sl ([.ref (ad th), .int a1]) ++ List.replicate (3 - (lg_sl ([.ref (ad th), .int a1])).length) Slot.unset).toArray = ls at hl ⊢
  have hl : lv_has ls 3 [(0, .ref (ad th)), (1, .int a1)] := hl
  have hP : va_P dd vwCl (wW Y G ad D0) s.heap := hP
  generalize D0 = D at h hP
  have h : ((P_X5_putSync_2 (gN G) F th F a1 0 D) : Rs) = some (r0, D') := h
  refine lv_iconst (v := 0) hx hb dX5_putSync_0 (by decide) ?_
  refine lv_istore_n (lv' := [(2, .int 0), (0, .ref (ad th)), (1, .int a1)]) hx hb dX5_putSync_1 rfl hl (by decide) rfl (fun ls hl => ?_)
  exact L2 F a1 0 D _ _ _ h hP hS (lv_sub hl [1, 2, 0] rfl)
abbrev rm_X5_putData : Room := { frames := 2, cells := 0, slots := 0, locals := 52 }
set_option maxHeartbeats 4000000 in
set_option maxRecDepth 100000 in
theorem c_X5_putData (l : Launch) (dd : Dd) (Y : Yc) (t : Ts3) (G : Gr) (ad : Nat → Nat) (ij : Ij G ad) (F : Nat) (th : Nat) (u2 : Nat) (g_th : RingAt G th) (g_u2 : IArr G u2) (a1 : Int32) (D0 D' : Mm) (r0 : Int32) (h : P_X5_putData (gN G) F th u2 a1 D0 = some (r0, D')) : Met l yX5_putData wzX5_putData rm_X5_putData (va_Pc [.ref (ad th), .int a1, .ref (ad u2)] (Wd dd Y t G ad D0)) (Qv dd Y G ad D') 0 0 (pA G ad) := by
  refine Met.ofW (cc := cX5_putData) (maxL := 6) (ret := none) (by decide) rfl ?_
  intro p e s m args below meth c s₁ B hml hv
  obtain ⟨rfl, hP, hK, hT⟩ := hv
  have hx := B.exec
  have hb := B.bytes
  have hr := B.returns
  have ht0 : ∀ w ∈ W0, w.before _ s = true := fun w h => atoms_spec (ws := wzX5_putData) B.pre w (List.mem_cons_of_mem _ h)
  have hown : s.vm.findClass RX5 = some m.cls := findClass_of_methodNamed B.named
  have hlocks := B.notSynchronized
  have hS : va_S (pA G ad) s.heap s.heap [] := va_S.rf
  obtain ⟨k_th, p_th_0, p_th_2, k_th1, k_th2⟩ := id g_th
  have L67 : ∀ (x3 x4 : Int32) (D : Mm) (H : Heap) (locs : List Loc) (ls : Array Slot), P_X5_putData_67 (gN G) F th u2 x3 x4 D = some (r0, D') → va_P dd vwCl (wW Y G ad D) H → va_S (pA G ad) s.heap H locs → lv_has ls 6 [(0, .ref (ad th)), (3, .int x3), (4, .int x4)] → W p l e (headSpec wzX5_putData rm_X5_putData).room s m ([.ref (ad th), .int a1, .ref (ad u2)].toArray) below meth c H locs 0 0 (MQ below (Qv dd Y G ad D') ([.ref (ad th), .int a1, .ref (ad u2)].toArray) s 0 0 (pA G ad)) (F0 m 67 ls []) := by
    intro x3 x4 D H locs ls h hP hS hl
    have h : ((bi (P_X5_putCoded (gN G) F th (x3 + 10) x4 D) (fun r1 D1 => bi (P_X5_putBits (gN G) F th (x3 + 20) 8 85 D1) (fun r2 D2 => some (0, D2)))) : Rs) = some (r0, D') := h
    refine lv_aload_n hx hb dX5_putData_67 rfl (lv_at hl 0 rfl) ?_
    refine lv_iload_n hx hb dX5_putData_68 rfl (lv_at hl 1 rfl) ?_
    refine lv_bipush (v := 10) hx hb dX5_putData_69 (by decide) ?_
    refine lv_iadd hx hb dX5_putData_71 ?_
    refine lv_iload hx hb dX5_putData_72 (lv_at hl 2 rfl) ?_
    obtain ⟨r1, D1, hc1, h⟩ := bi_some h
    refine x_callVv (As := [.int (x3 + 10), .int x4]) ⟨hx, hb, hml, hown, ht0⟩ hK hT hP hS (c_X5_putCoded l dd Y t G ad ij F th g_th (x3 + 10) x4 _ _ _ hc1) m_ML_X5_58 sv_X5_putCoded hd_X5_putCoded rfl rfl ⟨Nat.le_of_ble_eq_true rfl, Nat.le_of_ble_eq_true rfl⟩ (k_th).1 (ce5 (k_th).2) rfl rfl hl.1 rfl (Nat.le_of_ble_eq_true rfl) dX5_putData_74 ⟨Nat.zero_le _, Nat.zero_le _⟩ (fun H locs hP hS => ?_)
    refine lv_aload_n hx hb dX5_putData_77 rfl (lv_at hl 0 rfl) ?_
    refine lv_iload_n hx hb dX5_putData_78 rfl (lv_at hl 1 rfl) ?_
    refine lv_bipush (v := 20) hx hb dX5_putData_79 (by decide) ?_
    refine lv_iadd hx hb dX5_putData_81 ?_
    refine lv_bipush (v := 8) hx hb dX5_putData_82 (by decide) ?_
    refine lv_bipush (v := 85) hx hb dX5_putData_84 (by decide) ?_
    obtain ⟨r2, D2, hc2, h⟩ := bi_some h
    refine x_callVv (As := [.int (x3 + 20), .int 8, .int 85]) ⟨hx, hb, hml, hown, ht0⟩ hK hT hP hS (c_X5_putBits l dd Y t G ad ij F th g_th (x3 + 20) 8 85 _ _ _ hc2) m_ML_X5_42 sv_X5_putBits hd_X5_putBits rfl rfl ⟨Nat.le_of_ble_eq_true rfl, Nat.le_of_ble_eq_true rfl⟩ (k_th).1 (ce5 (k_th).2) rfl rfl hl.1 rfl (Nat.le_of_ble_eq_true rfl) dX5_putData_86 ⟨Nat.zero_le _, Nat.zero_le _⟩ (fun H locs hP hS => ?_)
    exact x_vret hx hb hr hlocks hP hS h dX5_putData_89
  have L61 : ∀ (k26 : Int32 → Int32 → Int32 → Mm → Rs) (hk26 : ∀ (x3 x4 x5 : Int32) (D : Mm) (H : Heap) (locs : List Loc) (ls : Array Slot), k26 x3 x4 x5 D = some (r0, D') → va_P dd vwCl (wW Y G ad D) H → va_S (pA G ad) s.heap H locs → lv_has ls 6 [(0, .ref (ad th)), (2, .ref (ad u2)), (3, .int x3), (4, .int x4), (5, .int x5)] → W p l e (headSpec wzX5_putData rm_X5_putData).room s m ([.ref (ad th), .int a1, .ref (ad u2)].toArray) below meth c H locs 0 0 (MQ below (Qv dd Y G ad D') ([.ref (ad th), .int a1, .ref (ad u2)].toArray) s 0 0 (pA G ad)) (F0 m 26 ls [])), ∀ (x3 x4 x5 : Int32) (D : Mm) (H : Heap) (locs : List Loc) (ls : Array Slot), P_X5_putData_61 (gN G) F th u2 k26 x3 x4 x5 D = some (r0, D') → va_P dd vwCl (wW Y G ad D) H → va_S (pA G ad) s.heap H locs → lv_has ls 6 [(0, .ref (ad th)), (2, .ref (ad u2)), (3, .int x3), (4, .int x4), (5, .int x5)] → W p l e (headSpec wzX5_putData rm_X5_putData).room s m ([.ref (ad th), .int a1, .ref (ad u2)].toArray) below meth c H locs 0 0 (MQ below (Qv dd Y G ad D') ([.ref (ad th), .int a1, .ref (ad u2)].toArray) s 0 0 (pA G ad)) (F0 m 61 ls []) := by
    intro k26 hk26 x3 x4 x5 D H locs ls h hP hS hl
    have h : ((k26 x3 x4 (x5 + 1) D) : Rs) = some (r0, D') := h
    refine lv_iinc (v := x5 + 1) (lv' := [(5, .int (x5 + 1)), (0, .ref (ad th)), (2, .ref (ad u2)), (3, .int x3), (4, .int x4)]) hx hb dX5_putData_61 hl (k := 4) rfl rfl (by decide) rfl (fun ls hl => ?_)
    refine lv_goto (tgt := 26) hx hb dX5_putData_64 (by decide) ?_
    exact hk26 x3 x4 (x5 + 1) D _ _ _ h hP hS (lv_sub hl [1, 2, 3, 4, 0] rfl)
  have L26 : ∀ (n : Nat), ∀ (x3 x4 x5 : Int32) (D : Mm) (H : Heap) (locs : List Loc) (ls : Array Slot), P_X5_putData_26 (gN G) F th u2 n x3 x4 x5 D = some (r0, D') → va_P dd vwCl (wW Y G ad D) H → va_S (pA G ad) s.heap H locs → lv_has ls 6 [(0, .ref (ad th)), (2, .ref (ad u2)), (3, .int x3), (4, .int x4), (5, .int x5)] → W p l e (headSpec wzX5_putData rm_X5_putData).room s m ([.ref (ad th), .int a1, .ref (ad u2)].toArray) below meth c H locs 0 0 (MQ below (Qv dd Y G ad D') ([.ref (ad th), .int a1, .ref (ad u2)].toArray) s 0 0 (pA G ad)) (F0 m 26 ls []) := by
    intro n
    induction n with
    | zero =>
      intro x3 x4 x5 D H locs ls h hP hS hl
      cases h
    | succ n ih =>
      intro x3 x4 x5 D H locs ls h hP hS hl
      have h : ((if 64 ≤ x5 then (P_X5_putData_67 (gN G) F th u2 x3 x4 D) else (if (nI ((gN G) u2)) ≤ x5 then (P_X5_putData_67 (gN G) F th u2 x3 x4 D) else (if inB x5 ((gN G) u2) = true then (bi (P_X5_putCoded (gN G) F th (x3 + 10) (D u2 (Int32.toNatClampNeg x5)) D) (fun r6 D6 => if inB x5 ((gN G) u2) = true then (P_X5_putData_61 (gN G) F th u2 (fun x3 x4 x5 D => P_X5_putData_26 (gN G) F th u2 n x3 x4 x5 D) (x3 + 10) (x4 ^^^ (D6 u2 (Int32.toNatClampNeg x5))) x5 D6) else none)) else none))) : Rs) = some (r0, D') := h
      refine lv_iload hx hb dX5_putData_26 (lv_at hl 4 rfl) ?_
      refine lv_bipush (v := 64) hx hb dX5_putData_28 (by decide) ?_
      refine lv_icmp_ge (tgt := 67) hx hb dX5_putData_30 (by decide) (fun c3 => ?_) (fun c3 => ?_)
      · have h := x_t (show 64 ≤ x5 from c3) h
        exact L67 x3 x4 D _ _ _ h hP hS (lv_sub hl [0, 2, 3] rfl)
      · have h := x_f (show ¬ (64 ≤ x5) from c3) h
        refine lv_iload hx hb dX5_putData_33 (lv_at hl 4 rfl) ?_
        refine lv_aload_n hx hb dX5_putData_35 rfl (lv_at hl 1 rfl) ?_
        refine x_len hx hb hK hP g_u2 dX5_putData_36 ?_
        refine lv_icmp_ge (tgt := 67) hx hb dX5_putData_37 (by decide) (fun c4 => ?_) (fun c4 => ?_)
        · have h := x_t (show (nI ((gN G) u2)) ≤ x5 from c4) h
          exact L67 x3 x4 D _ _ _ h hP hS (lv_sub hl [0, 2, 3] rfl)
        · have h := x_f (show ¬ ((nI ((gN G) u2)) ≤ x5) from c4) h
          refine lv_iinc (v := x3 + 10) (lv' := [(3, .int (x3 + 10)), (0, .ref (ad th)), (2, .ref (ad u2)), (4, .int x4), (5, .int x5)]) hx hb dX5_putData_40 hl (k := 2) rfl rfl (by decide) rfl (fun ls hl => ?_)
          refine lv_aload_n hx hb dX5_putData_43 rfl (lv_at hl 1 rfl) ?_
          refine lv_iload_n hx hb dX5_putData_44 rfl (lv_at hl 0 rfl) ?_
          refine lv_aload_n hx hb dX5_putData_45 rfl (lv_at hl 2 rfl) ?_
          refine lv_iload hx hb dX5_putData_46 (lv_at hl 4 rfl) ?_
          obtain ⟨b5, h⟩ := x_if h
          refine x_ald hx hb hK hP g_u2 b5 dX5_putData_48 ?_
          obtain ⟨r6, D6, hc6, h⟩ := bi_some h
          refine x_callVv (As := [.int (x3 + 10), .int (D u2 (Int32.toNatClampNeg x5))]) ⟨hx, hb, hml, hown, ht0⟩ hK hT hP hS (c_X5_putCoded l dd Y t G ad ij F th g_th (x3 + 10) (D u2 (Int32.toNatClampNeg x5)) _ _ _ hc6) m_ML_X5_58 sv_X5_putCoded hd_X5_putCoded rfl rfl ⟨Nat.le_of_ble_eq_true rfl, Nat.le_of_ble_eq_true rfl⟩ (k_th).1 (ce5 (k_th).2) rfl rfl hl.1 rfl (Nat.le_of_ble_eq_true rfl) dX5_putData_49 ⟨Nat.zero_le _, Nat.zero_le _⟩ (fun H locs hP hS => ?_)
          refine lv_iload hx hb dX5_putData_52 (lv_at hl 3 rfl) ?_
          refine lv_aload_n hx hb dX5_putData_54 rfl (lv_at hl 2 rfl) ?_
          refine lv_iload hx hb dX5_putData_55 (lv_at hl 4 rfl) ?_
          obtain ⟨b7, h⟩ := x_if h
          refine x_ald hx hb hK hP g_u2 b7 dX5_putData_57 ?_
          refine lv_ixor hx hb dX5_putData_58 ?_
          refine lv_istore (lv' := [(4, .int (x4 ^^^ (D6 u2 (Int32.toNatClampNeg x5)))), (3, .int (x3 + 10)), (0, .ref (ad th)), (2, .ref (ad u2)), (5, .int x5)]) hx hb dX5_putData_59 hl (by decide) rfl (fun ls hl => ?_)
          exact L61 (fun x3 x4 x5 D => P_X5_putData_26 (gN G) F th u2 n x3 x4 x5 D) ih (x3 + 10) (x4 ^^^ (D6 u2 (Int32.toNatClampNeg x5))) x5 D6 _ _ _ h hP hS (lv_sub hl [2, 3, 1, 0, 4] rfl)
  have hl := lv_entry ([.ref (ad th), .int a1, .ref (ad u2)]) (n := 6) (Nat.le_of_ble_eq_true rfl)
  rw [lg_entry_eq]
  generalize (lg_sl ([.ref (ad th), .int a1, .ref (ad u2)]) ++ List.replicate (6 - (lg_sl ([.ref (ad th), .int a1, .ref (ad u2)])).length) Slot.unset).toArray = ls at hl ⊢
  have hl : lv_has ls 6 [(0, .ref (ad th)), (1, .int a1), (2, .ref (ad u2))] := hl
  have hP : va_P dd vwCl (wW Y G ad D0) s.heap := hP
  generalize D0 = D at h hP
  have h : ((bi (P_X5_putSync (gN G) F th (a1 + 108) D) (fun r8 D8 => bi (P_X5_putCoded (gN G) F th ((a1 + 108) + 40) 7 D8) (fun r9 D9 => P_X5_putData_26 (gN G) F th u2 F ((a1 + 108) + 40) 0 0 D9))) : Rs) = some (r0, D') := h
  refine lv_iload_n hx hb dX5_putData_0 rfl (lv_at hl 1 rfl) ?_
  refine lv_bipush (v := 108) hx hb dX5_putData_1 (by decide) ?_
  refine lv_iadd hx hb dX5_putData_3 ?_
  refine lv_istore_n (lv' := [(3, .int (a1 + 108)), (0, .ref (ad th)), (1, .int a1), (2, .ref (ad u2))]) hx hb dX5_putData_4 rfl hl (by decide) rfl (fun ls hl => ?_)
  refine lv_aload_n hx hb dX5_putData_5 rfl (lv_at hl 1 rfl) ?_
  refine lv_iload_n hx hb dX5_putData_6 rfl (lv_at hl 0 rfl) ?_
  obtain ⟨r8, D8, hc8, h⟩ := bi_some h
  refine x_callVv (As := [.int (a1 + 108)]) ⟨hx, hb, hml, hown, ht0⟩ hK hT hP hS (c_X5_putSync l dd Y t G ad ij F th g_th (a1 + 108) _ _ _ hc8) m_ML_X5_62 sv_X5_putSync hd_X5_putSync rfl rfl ⟨Nat.le_of_ble_eq_true rfl, Nat.le_of_ble_eq_true rfl⟩ (k_th).1 (ce5 (k_th).2) rfl rfl hl.1 rfl (Nat.le_of_ble_eq_true rfl) dX5_putData_7 ⟨Nat.zero_le _, Nat.zero_le _⟩ (fun H locs hP hS => ?_)
  refine lv_iinc (v := (a1 + 108) + 40) (lv' := [(3, .int ((a1 + 108) + 40)), (0, .ref (ad th)), (1, .int a1), (2, .ref (ad u2))]) hx hb dX5_putData_10 hl (k := 0) rfl rfl (by decide) rfl (fun ls hl => ?_)
  refine lv_aload_n hx hb dX5_putData_13 rfl (lv_at hl 1 rfl) ?_
  refine lv_iload_n hx hb dX5_putData_14 rfl (lv_at hl 0 rfl) ?_
  refine lv_bipush (v := 7) hx hb dX5_putData_15 (by decide) ?_
  obtain ⟨r9, D9, hc9, h⟩ := bi_some h
  refine x_callVv (As := [.int ((a1 + 108) + 40), .int 7]) ⟨hx, hb, hml, hown, ht0⟩ hK hT hP hS (c_X5_putCoded l dd Y t G ad ij F th g_th ((a1 + 108) + 40) 7 _ _ _ hc9) m_ML_X5_58 sv_X5_putCoded hd_X5_putCoded rfl rfl ⟨Nat.le_of_ble_eq_true rfl, Nat.le_of_ble_eq_true rfl⟩ (k_th).1 (ce5 (k_th).2) rfl rfl hl.1 rfl (Nat.le_of_ble_eq_true rfl) dX5_putData_17 ⟨Nat.zero_le _, Nat.zero_le _⟩ (fun H locs hP hS => ?_)
  refine lv_iconst (v := 0) hx hb dX5_putData_20 (by decide) ?_
  refine lv_istore (lv' := [(4, .int 0), (3, .int ((a1 + 108) + 40)), (0, .ref (ad th)), (1, .int a1), (2, .ref (ad u2))]) hx hb dX5_putData_21 hl (by decide) rfl (fun ls hl => ?_)
  refine lv_iconst (v := 0) hx hb dX5_putData_23 (by decide) ?_
  refine lv_istore (lv' := [(5, .int 0), (4, .int 0), (3, .int ((a1 + 108) + 40)), (0, .ref (ad th)), (1, .int a1), (2, .ref (ad u2))]) hx hb dX5_putData_24 hl (by decide) rfl (fun ls hl => ?_)
  exact L26 F ((a1 + 108) + 40) 0 0 D9 _ _ _ h hP hS (lv_sub hl [3, 5, 2, 1, 0] rfl)
