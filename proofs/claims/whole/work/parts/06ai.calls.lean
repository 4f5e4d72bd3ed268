abbrev rm_X8_startOf : Room := { frames := 2, cells := 0, slots := 0, locals := 40 }
set_option maxHeartbeats 4000000 in
set_option maxRecDepth 100000 in
theorem c_X8_startOf (l : Launch) (dd : Dd) (Y : Yc) (t : Ts3) (ad : Nat → Nat) (ij : Ij MG ad) (F : Nat) (a0 : Int32) (D0 D' : Mm) (r0 : Int32) (h : P_X8_startOf (gN MG) F a0 D0 = some (r0, D')) : Met l yX8_startOf wzX8_startOf rm_X8_startOf (va_Pc [.int a0] (Wd dd Y t MG ad D0)) (Qi dd Y MG ad .int r0 D') 0 0 (pA MG ad) := by
  refine Met.ofW (cc := cX8_startOf) (maxL := 3) (ret := (some .int)) (by decide) rfl ?_
  intro p e s m args below meth c s₁ B hml hv
  obtain ⟨rfl, hP, hK, hT⟩ := hv
  have hx := B.exec
  have hb := B.bytes
  have hr := B.returns
  have ht0 : ∀ w ∈ W0, w.before _ s = true := fun w h => atoms_spec (ws := wzX8_startOf) B.pre w (List.mem_cons_of_mem _ h)
  have hown : s.vm.findClass RX8 = some m.cls := findClass_of_methodNamed B.named
  have hlocks := B.notSynchronized
  have hS : va_S (pA MG ad) s.heap s.heap [] := va_S.rf
  have L4 : ∀ (n : Nat), ∀ (x0 x1 x2 : Int32) (D : Mm) (H : Heap) (locs : List Loc) (ls : Array Slot), P_X8_startOf_4 (gN MG) F n x0 x1 x2 D = some (r0, D') → va_P dd vwCl (wW Y MG ad D) H → va_S (pA MG ad) s.heap H locs → lv_has ls 3 [(0, .int x0), (1, .int x1), (2, .int x2)] → W p l e (headSpec wzX8_startOf rm_X8_startOf).room s m ([.int a0].toArray) below meth c H locs 0 0 (MQ below (Qi dd Y MG ad .int r0 D') ([.int a0].toArray) s 0 0 (pA MG ad)) (F0 m 4 ls []) := by
    intro n
    induction n with
    | zero =>
      intro x0 x1 x2 D H locs ls h hP hS hl
      cases h
    | succ n ih =>
      intro x0 x1 x2 D H locs ls h hP hS hl
      have h : ((if x0 ≤ x2 then (some (x1, D)) else (bi (P_X8_lengthOf (gN MG) F x2 D) (fun r2 D2 => P_X8_startOf_4 (gN MG) F n x0 (x1 + r2) (x2 + 1) D2))) : Rs) = some (r0, D') := h
      refine lv_iload_n hx hb dX8_startOf_4 rfl (lv_at hl 2 rfl) ?_
      refine lv_iload_n hx hb dX8_startOf_5 rfl (lv_at hl 0 rfl) ?_
      refine lv_icmp_ge (tgt := 22) hx hb dX8_startOf_6 (by decide) (fun c1 => ?_) (fun c1 => ?_)
      · have h := x_t (show x0 ≤ x2 from c1) h
        refine lv_iload_n hx hb dX8_startOf_22 rfl (lv_at hl 1 rfl) ?_
        exact x_iret hx hb hr hlocks rfl hP hS h dX8_startOf_23
      · have h := x_f (show ¬ (x0 ≤ x2) from c1) h
        refine lv_iload_n hx hb dX8_startOf_9 rfl (lv_at hl 1 rfl) ?_
        refine lv_iload_n hx hb dX8_startOf_10 rfl (lv_at hl 2 rfl) ?_
        obtain ⟨r2, D2, hc2, h⟩ := bi_some h
        refine x_callSi (As := [.int x2]) ⟨hx, hb, hml, hown, ht0⟩ hK hT hP hS (c_X8_lengthOf l dd Y t ad ij F x2 _ _ _ hc2) m_ML_X8_66 ss_X8_lengthOf hd_X8_lengthOf rfl rfl ⟨Nat.le_of_ble_eq_true rfl, Nat.le_of_ble_eq_true rfl⟩ rfl hl.1 rfl (Nat.le_of_ble_eq_true rfl) dX8_startOf_11 ⟨Nat.zero_le _, Nat.zero_le _⟩ (fun H locs hn_r2 hP hS => ?_)
        refine lv_iadd hx hb dX8_startOf_14 ?_
        refine lv_istore_n (lv' := [(1, .int (x1 + r2)), (0, .int x0), (2, .int x2)]) hx hb dX8_startOf_15 rfl hl (by decide) rfl (fun ls hl => ?_)
        refine lv_iinc (v := x2 + 1) (lv' := [(2, .int (x2 + 1)), (1, .int (x1 + r2)), (0, .int x0)]) hx hb dX8_startOf_16 hl (k := 2) rfl rfl (by decide) rfl (fun ls hl => ?_)
        refine lv_goto (tgt := 4) hx hb dX8_startOf_19 (by decide) ?_
        exact ih x0 (x1 + r2) (x2 + 1) D2 _ _ _ h hP hS (lv_sub hl [2, 1, 0] rfl)
  have hl := lv_entry ([.int a0]) (n := 3) (Nat.le_of_ble_eq_true rfl)
  rw [lg_entry_eq]
  generalize (lg_sl ([.int a0]) ++ List.replicate (3 - (lg_sl ([.int a0])).length) Slot.unset).toArray = ls at hl ⊢
  have hl : lv_has ls 3 [(0, .int a0)] := hl
  have hP : va_P dd vwCl (wW Y MG ad D0) s.heap := hP
  generalize D0 = D at h hP
  have h : ((P_X8_startOf_4 (gN MG) F F a0 0 1 D) : Rs) = some (r0, D') := h
  refine lv_iconst (v := 0) hx hb dX8_startOf_0 (by decide) ?_
  refine lv_istore_n (lv' := [(1, .int 0), (0, .int a0)]) hx hb dX8_startOf_1 rfl hl (by decide) rfl (fun ls hl => ?_)
  refine lv_iconst (v := 1) hx hb dX8_startOf_2 (by decide) ?_
  refine lv_istore_n (lv' := [(2, .int 1), (1, .int 0), (0, .int a0)]) hx hb dX8_startOf_3 rfl hl (by decide) rfl (fun ls hl => ?_)
  exact L4 F a0 0 1 D _ _ _ h hP hS (lv_sub hl [2, 1, 0] rfl)
abbrev rm_X8_isTrack : Room := { frames := 1, cells := 0, slots := 0, locals := 22 }
set_option maxHeartbeats 4000000 in
set_option maxRecDepth 100000 in
theorem c_X8_isTrack (l : Launch) (dd : Dd) (Y : Yc) (t : Ts3) (ad : Nat → Nat) (ij : Ij MG ad) (F : Nat) (a0 : Int32) (D0 D' : Mm) (r0 : Int32) (h : P_X8_isTrack (gN MG) F a0 D0 = some (r0, D')) : Met l yX8_isTrack wzX8_isTrack rm_X8_isTrack (va_Pc [.int a0] (Wd dd Y t MG ad D0)) (Qi dd Y MG ad .boolean r0 D') 0 0 (pA MG ad) := by
  refine Met.ofW (cc := cX8_isTrack) (maxL := 1) (ret := (some .boolean)) (by decide) rfl ?_
  intro p e s m args below meth c s₁ B hml hv
  obtain ⟨rfl, hP, hK, hT⟩ := hv
  have hx := B.exec
  have hb := B.bytes
  have hr := B.returns
  have ht0 : ∀ w ∈ W0, w.before _ s = true := fun w h => atoms_spec (ws := wzX8_isTrack) B.pre w (List.mem_cons_of_mem _ h)
  have hown : s.vm.findClass RX8 = some m.cls := findClass_of_methodNamed B.named
  have hlocks := B.notSynchronized
  have hS : va_S (pA MG ad) s.heap s.heap [] := va_S.rf
  have hl := lv_entry ([.int a0]) (n := 1) (Nat.le_of_ble_eq_true rfl)
  rw [lg_entry_eq]
  generalize (lg_sl ([.int a0]) ++ List.replicate (1 - (lg_sl ([.int a0])).length) Slot.unset).toArray = ls at hl ⊢
  have hl : lv_has ls 1 [(0, .int a0)] := hl
  have hP : va_P dd vwCl (wW Y MG ad D0) s.heap := hP
  generalize D0 = D at h hP
  have h : ((bi (P_X8_isIn (gN MG) F a0 1 16 D) (fun r1 D1 => some (r1, D1))) : Rs) = some (r0, D') := h
  refine lv_iload_n hx hb dX8_isTrack_0 rfl (lv_at hl 0 rfl) ?_
  refine lv_iconst (v := 1) hx hb dX8_isTrack_1 (by decide) ?_
  refine lv_bipush (v := 16) hx hb dX8_isTrack_2 (by decide) ?_
  obtain ⟨r1, D1, hc1, h⟩ := bi_some h
  refine x_callSi (As := [.int a0, .int 1, .int 16]) ⟨hx, hb, hml, hown, ht0⟩ hK hT hP hS (c_X8_isIn l dd Y t ad ij F a0 1 16 _ _ _ hc1) m_ML_X8_69 ss_X8_isIn hd_X8_isIn rfl rfl ⟨Nat.le_of_ble_eq_true rfl, Nat.le_of_ble_eq_true rfl⟩ rfl hl.1 rfl (Nat.le_of_ble_eq_true rfl) dX8_isTrack_4 ⟨Nat.zero_le _, Nat.zero_le _⟩ (fun H locs hn_r1 hP hS => ?_)
  exact x_iret hx hb hr hlocks hn_r1 hP hS h dX8_isTrack_7
abbrev rm_X8_isBlock : Room := { frames := 2, cells := 0, slots := 0, locals := 42 }
set_option maxHeartbeats 4000000 in
set_option maxRecDepth 100000 in
theorem c_X8_isBlock (l : Launch) (dd : Dd) (Y : Yc) (t : Ts3) (ad : Nat → Nat) (ij : Ij MG ad) (F : Nat) (a0 a1 : Int32) (D0 D' : Mm) (r0 : Int32) (h : P_X8_isBlock (gN MG) F a0 a1 D0 = some (r0, D')) : Met l yX8_isBlock wzX8_isBlock rm_X8_isBlock (va_Pc [.int a0, .int a1] (Wd dd Y t MG ad D0)) (Qi dd Y MG ad .boolean r0 D') 0 0 (pA MG ad) := by
  refine Met.ofW (cc := cX8_isBlock) (maxL := 2) (ret := (some .boolean)) (by decide) rfl ?_
  intro p e s m args below meth c s₁ B hml hv
  obtain ⟨rfl, hP, hK, hT⟩ := hv
  have hx := B.exec
  have hb := B.bytes
  have hr := B.returns
  have ht0 : ∀ w ∈ W0, w.before _ s = true := fun w h => atoms_spec (ws := wzX8_isBlock) B.pre w (List.mem_cons_of_mem _ h)
  have hown : s.vm.findClass RX8 = some m.cls := findClass_of_methodNamed B.named
  have hlocks := B.notSynchronized
  have hS : va_S (pA MG ad) s.heap s.heap [] := va_S.rf
  have hl := lv_entry ([.int a0, .int a1]) (n := 2) (Nat.le_of_ble_eq_true rfl)
  rw [lg_entry_eq]
  generalize (lg_sl ([.int a0, .int a1]) ++ List.replicate (2 - (lg_sl ([.int a0, .int a1])).length) Slot.unset).toArray = ls at hl ⊢
  have hl : lv_has ls 2 [(0, .int a0), (1, .int a1)] := hl
  have hP : va_P dd vwCl (wW Y MG ad D0) s.heap := hP
  generalize D0 = D at h hP
  have h : ((bi (P_X8_isTrack (gN MG) F a0 D) (fun r1 D1 => if r1 = 0 then (some (0, D1)) else (bi (P_X8_sectorsOf (gN MG) F a0 D1) (fun r3 D3 => bi (P_X8_isIn (gN MG) F a1 0 (r3 - 1) D3) (fun r4 D4 => if r4 = 0 then (some (0, D4)) else (some (1, D4))))))) : Rs) = some (r0, D') := h
  refine lv_iload_n hx hb dX8_isBlock_0 rfl (lv_at hl 0 rfl) ?_
  obtain ⟨r1, D1, hc1, h⟩ := bi_some h
  refine x_callSi (As := [.int a0]) ⟨hx, hb, hml, hown, ht0⟩ hK hT hP hS (c_X8_isTrack l dd Y t ad ij F a0 _ _ _ hc1) m_ML_X8_73 ss_X8_isTrack hd_X8_isTrack rfl rfl ⟨Nat.le_of_ble_eq_true rfl, Nat.le_of_ble_eq_true rfl⟩ rfl hl.1 rfl (Nat.le_of_ble_eq_true rfl) dX8_isBlock_1 ⟨Nat.zero_le _, Nat.zero_le _⟩ (fun H locs hn_r1 hP hS => ?_)
  refine lv_if_eq (tgt := 25) hx hb dX8_isBlock_4 (by decide) (fun c2 => ?_) (fun c2 => ?_)
  · have h := x_t (show r1 = 0 from c2) h
    refine lv_iconst (v := 0) hx hb dX8_isBlock_25 (by decide) ?_
    exact x_iret hx hb hr hlocks rfl hP hS h dX8_isBlock_26
  · have h := x_f (show ¬ (r1 = 0) from c2) h
    refine lv_iload_n hx hb dX8_isBlock_7 rfl (lv_at hl 1 rfl) ?_
    refine lv_iconst (v := 0) hx hb dX8_isBlock_8 (by decide) ?_
    refine lv_iload_n hx hb dX8_isBlock_9 rfl (lv_at hl 0 rfl) ?_
    obtain ⟨r3, D3, hc3, h⟩ := bi_some h
    refine x_callSi (As := [.int a0]) ⟨hx, hb, hml, hown, ht0⟩ hK hT hP hS (c_X8_sectorsOf l dd Y t ad ij F a0 _ _ _ hc3) m_ML_X8_77 ss_X8_sectorsOf hd_X8_sectorsOf rfl rfl ⟨Nat.le_of_ble_eq_true rfl, Nat.le_of_ble_eq_true rfl⟩ rfl hl.1 rfl (Nat.le_of_ble_eq_true rfl) dX8_isBlock_10 ⟨Nat.zero_le _, Nat.zero_le _⟩ (fun H locs hn_r3 hP hS => ?_)
    refine lv_iconst (v := 1) hx hb dX8_isBlock_13 (by decide) ?_
    refine lv_isub hx hb dX8_isBlock_14 ?_
    obtain ⟨r4, D4, hc4, h⟩ := bi_some h
    refine x_callSi (As := [.int a1, .int 0, .int (r3 - 1)]) ⟨hx, hb, hml, hown, ht0⟩ hK hT hP hS (c_X8_isIn l dd Y t ad ij F a1 0 (r3 - 1) _ _ _ hc4) m_ML_X8_69 ss_X8_isIn hd_X8_isIn rfl rfl ⟨Nat.le_of_ble_eq_true rfl, Nat.le_of_ble_eq_true rfl⟩ rfl hl.1 rfl (Nat.le_of_ble_eq_true rfl) dX8_isBlock_15 ⟨Nat.zero_le _, Nat.zero_le _⟩ (fun H locs hn_r4 hP hS => ?_)
    refine lv_if_eq (tgt := 25) hx hb dX8_isBlock_18 (by decide) (fun c5 => ?_) (fun c5 => ?_)
    · have h := x_t (show r4 = 0 from c5) h
      refine lv_iconst (v := 0) hx hb dX8_isBlock_25 (by decide) ?_
      exact x_iret hx hb hr hlocks rfl hP hS h dX8_isBlock_26
    · have h := x_f (show ¬ (r4 = 0) from c5) h
      refine lv_iconst (v := 1) hx hb dX8_isBlock_21 (by decide) ?_
      refine lv_goto (tgt := 26) hx hb dX8_isBlock_22 (by decide) ?_
      exact x_iret hx hb hr hlocks rfl hP hS h dX8_isBlock_26
abbrev rm_X8_isByte : Room := { frames := 2, cells := 0, slots := 0, locals := 42 }
set_option maxHeartbeats 4000000 in
set_option maxRecDepth 100000 in
theorem c_X8_isByte (l : Launch) (dd : Dd) (Y : Yc) (t : Ts3) (ad : Nat → Nat) (ij : Ij MG ad) (F : Nat) (a0 a1 : Int32) (D0 D' : Mm) (r0 : Int32) (h : P_X8_isByte (gN MG) F a0 a1 D0 = some (r0, D')) : Met l yX8_isByte wzX8_isByte rm_X8_isByte (va_Pc [.int a0, .int a1] (Wd dd Y t MG ad D0)) (Qi dd Y MG ad .boolean r0 D') 0 0 (pA MG ad) := by
  refine Met.ofW (cc := cX8_isByte) (maxL := 2) (ret := (some .boolean)) (by decide) rfl ?_
  intro p e s m args below meth c s₁ B hml hv
  obtain ⟨rfl, hP, hK, hT⟩ := hv
  have hx := B.exec
  have hb := B.bytes
  have hr := B.returns
  have ht0 : ∀ w ∈ W0, w.before _ s = true := fun w h => atoms_spec (ws := wzX8_isByte) B.pre w (List.mem_cons_of_mem _ h)
  have hown : s.vm.findClass RX8 = some m.cls := findClass_of_methodNamed B.named
  have hlocks := B.notSynchronized
  have hS : va_S (pA MG ad) s.heap s.heap [] := va_S.rf
  have hl := lv_entry ([.int a0, .int a1]) (n := 2) (Nat.le_of_ble_eq_true rfl)
  rw [lg_entry_eq]
  generalize (lg_sl ([.int a0, .int a1]) ++ List.replicate (2 - (lg_sl ([.int a0, .int a1])).length) Slot.unset).toArray = ls at hl ⊢
  have hl : lv_has ls 2 [(0, .int a0), (1, .int a1)] := hl
  have hP : va_P dd vwCl (wW Y MG ad D0) s.heap := hP
  generalize D0 = D at h hP
  have h : ((bi (P_X8_isTrack (gN MG) F a0 D) (fun r1 D1 => if r1 = 0 then (some (0, D1)) else (bi (P_X8_bytesOf (gN MG) F a0 D1) (fun r3 D3 => bi (P_X8_isIn (gN MG) F a1 0 (r3 - 1) D3) (fun r4 D4 => if r4 = 0 then (some (0, D4)) else (some (1, D4))))))) : Rs) = some (r0, D') := h
  refine lv_iload_n hx hb dX8_isByte_0 rfl (lv_at hl 0 rfl) ?_
  obtain ⟨r1, D1, hc1, h⟩ := bi_some h
  refine x_callSi (As := [.int a0]) ⟨hx, hb, hml, hown, ht0⟩ hK hT hP hS (c_X8_isTrack l dd Y t ad ij F a0 _ _ _ hc1) m_ML_X8_73 ss_X8_isTrack hd_X8_isTrack rfl rfl ⟨Nat.le_of_ble_eq_true rfl, Nat.le_of_ble_eq_true rfl⟩ rfl hl.1 rfl (Nat.le_of_ble_eq_true rfl) dX8_isByte_1 ⟨Nat.zero_le _, Nat.zero_le _⟩ (fun H locs hn_r1 hP hS => ?_)
  refine lv_if_eq (tgt := 25) hx hb dX8_isByte_4 (by decide) (fun c2 => ?_) (fun c2 => ?_)
  · have h := x_t (show r1 = 0 from c2) h
    refine lv_iconst (v := 0) hx hb dX8_isByte_25 (by decide) ?_
    exact x_iret hx hb hr hlocks rfl hP hS h dX8_isByte_26
  · have h := x_f (show ¬ (r1 = 0) from c2) h
    refine lv_iload_n hx hb dX8_isByte_7 rfl (lv_at hl 1 rfl) ?_
    refine lv_iconst (v := 0) hx hb dX8_isByte_8 (by decide) ?_
    refine lv_iload_n hx hb dX8_isByte_9 rfl (lv_at hl 0 rfl) ?_
    obtain ⟨r3, D3, hc3, h⟩ := bi_some h
    refine x_callSi (As := [.int a0]) ⟨hx, hb, hml, hown, ht0⟩ hK hT hP hS (c_X8_bytesOf l dd Y t ad ij F a0 _ _ _ hc3) m_ML_X8_62 ss_X8_bytesOf hd_X8_bytesOf rfl rfl ⟨Nat.le_of_ble_eq_true rfl, Nat.le_of_ble_eq_true rfl⟩ rfl hl.1 rfl (Nat.le_of_ble_eq_true rfl) dX8_isByte_10 ⟨Nat.zero_le _, Nat.zero_le _⟩ (fun H locs hn_r3 hP hS => ?_)
    refine lv_iconst (v := 1) hx hb dX8_isByte_13 (by decide) ?_
    refine lv_isub hx hb dX8_isByte_14 ?_
    obtain ⟨r4, D4, hc4, h⟩ := bi_some h
    refine x_callSi (As := [.int a1, .int 0, .int (r3 - 1)]) ⟨hx, hb, hml, hown, ht0⟩ hK hT hP hS (c_X8_isIn l dd Y t ad ij F a1 0 (r3 - 1) _ _ _ hc4) m_ML_X8_69 ss_X8_isIn hd_X8_isIn rfl rfl ⟨Nat.le_of_ble_eq_true rfl, Nat.le_of_ble_eq_true rfl⟩ rfl hl.1 rfl (Nat.le_of_ble_eq_true rfl) dX8_isByte_15 ⟨Nat.zero_le _, Nat.zero_le _⟩ (fun H locs hn_r4 hP hS => ?_)
    refine lv_if_eq (tgt := 25) hx hb dX8_isByte_18 (by decide) (fun c5 => ?_) (fun c5 => ?_)
    · have h := x_t (show r4 = 0 from c5) h
      refine lv_iconst (v := 0) hx hb dX8_isByte_25 (by decide) ?_
      exact x_iret hx hb hr hlocks rfl hP hS h dX8_isByte_26
    · have h := x_f (show ¬ (r4 = 0) from c5) h
      refine lv_iconst (v := 1) hx hb dX8_isByte_21 (by decide) ?_
      refine lv_goto (tgt := 26) hx hb dX8_isByte_22 (by decide) ?_
      exact x_iret hx hb hr hlocks rfl hP hS h dX8_isByte_26
abbrev rm_X8_byteAt : Room := { frames := 3, cells := 0, slots := 0, locals := 62 }
set_option maxHeartbeats 4000000 in
set_option maxRecDepth 100000 in
theorem c_X8_byteAt (l : Launch) (dd : Dd) (Y : Yc) (t : Ts3) (ad : Nat → Nat) (ij : Ij MG ad) (F : Nat) (a1 a2 : Int32) (D0 D' : Mm) (r0 : Int32) (h : P_X8_byteAt (gN MG) F a1 a2 D0 = some (r0, D')) : Met l yX8_byteAt wzX8_byteAt rm_X8_byteAt (va_Pc [.ref (ad 0), .int a1, .int a2] (Wd dd Y t MG ad D0)) (Qi dd Y MG ad .int r0 D') 0 0 (pA MG ad) := by
  refine Met.ofW (cc := cX8_byteAt) (maxL := 6) (ret := (some .int)) (by decide) rfl ?_
  intro p e s m args below meth c s₁ B hml hv
  obtain ⟨rfl, hP, hK, hT⟩ := hv
  have hx := B.exec
  have hb := B.bytes
  have hr := B.returns
  have ht0 : ∀ w ∈ W0, w.before _ s = true := fun w h => atoms_spec (ws := wzX8_byteAt) B.pre w (List.mem_cons_of_mem _ h)
  have hown : s.vm.findClass RX8 = some m.cls := findClass_of_methodNamed B.named
  have hlocks := B.notSynchronized
  have hS : va_S (pA MG ad) s.heap s.heap [] := va_S.rf
  have L16 : ∀ (n : Nat), ∀ (x3 x4 x5 : Int32) (D : Mm) (H : Heap) (locs : List Loc) (ls : Array Slot), P_X8_byteAt_16 (gN MG) F n x3 x4 x5 D = some (r0, D') → va_P dd vwCl (wW Y MG ad D) H → va_S (pA MG ad) s.heap H locs → lv_has ls 6 [(0, .ref (ad 0)), (3, .int x3), (4, .int x4), (5, .int x5)] → W p l e (headSpec wzX8_byteAt rm_X8_byteAt).room s m ([.ref (ad 0), .int a1, .int a2].toArray) below meth c H locs 0 0 (MQ below (Qi dd Y MG ad .int r0 D') ([.ref (ad 0), .int a1, .int a2].toArray) s 0 0 (pA MG ad)) (F0 m 16 ls []) := by
    intro n
    induction n with
    | zero =>
      intro x3 x4 x5 D H locs ls h hP hS hl
      cases h
    | succ n ih =>
      intro x3 x4 x5 D H locs ls h hP hS hl
      have h : ((if 8 ≤ x5 then (some (x3, D)) else (if inB (x4 + x5) ((gN MG) 1) = true then (if (D 1 (Int32.toNatClampNeg (x4 + x5))) = 0 then (P_X8_byteAt_16 (gN MG) F n ((2 * x3) + 0) x4 (x5 + 1) D) else (P_X8_byteAt_16 (gN MG) F n ((2 * x3) + 1) x4 (x5 + 1) D)) else none)) : Rs) = some (r0, D') := h
      refine lv_iload hx hb dX8_byteAt_16 (lv_at hl 3 rfl) ?_
      refine lv_bipush (v := 8) hx hb dX8_byteAt_18 (by decide) ?_
      refine lv_icmp_ge (tgt := 52) hx hb dX8_byteAt_20 (by decide) (fun c1 => ?_) (fun c1 => ?_)
      · have h := x_t (show 8 ≤ x5 from c1) h
        refine lv_iload_n hx hb dX8_byteAt_52 rfl (lv_at hl 1 rfl) ?_
        exact x_iret hx hb hr hlocks rfl hP hS h dX8_byteAt_53
      · have h := x_f (show ¬ (8 ≤ x5) from c1) h
        refine lv_iconst (v := 2) hx hb dX8_byteAt_23 (by decide) ?_
        refine lv_iload_n hx hb dX8_byteAt_24 rfl (lv_at hl 1 rfl) ?_
        refine lv_imul hx hb dX8_byteAt_25 ?_
        refine lv_aload_n hx hb dX8_byteAt_26 rfl (lv_at hl 0 rfl) ?_
        refine x_get hx hb ht0 u_X8 hown hK hP (mk_0).1 (ce8 (mk_0).2) rfl 0 (by decide) (ht0 _ m_FL_X8_8) rfl (rfv (G := MG) (c := 0) (k := 0) (c' := 1) rfl) dX8_byteAt_27 ?_
        refine lv_iload hx hb dX8_byteAt_30 (lv_at hl 2 rfl) ?_
        refine lv_iload hx hb dX8_byteAt_32 (lv_at hl 3 rfl) ?_
        refine lv_iadd hx hb dX8_byteAt_34 ?_
        obtain ⟨b2, h⟩ := x_if h
        refine x_zld hx hb hK hP mk_1 b2 dX8_byteAt_35 ?_
        refine lv_if_eq (tgt := 43) hx hb dX8_byteAt_36 (by decide) (fun c3 => ?_) (fun c3 => ?_)
        · have h := x_t (show (D 1 (Int32.toNatClampNeg (x4 + x5))) = 0 from c3) h
          refine lv_iconst (v := 0) hx hb dX8_byteAt_43 (by decide) ?_
          refine lv_iadd hx hb dX8_byteAt_44 ?_
          refine lv_istore_n (lv' := [(3, .int ((2 * x3) + 0)), (0, .ref (ad 0)), (4, .int x4), (5, .int x5)]) hx hb dX8_byteAt_45 rfl hl (by decide) rfl (fun ls hl => ?_)
          refine lv_iinc (v := x5 + 1) (lv' := [(5, .int (x5 + 1)), (3, .int ((2 * x3) + 0)), (0, .ref (ad 0)), (4, .int x4)]) hx hb dX8_byteAt_46 hl (k := 3) rfl rfl (by decide) rfl (fun ls hl => ?_)
          refine lv_goto (tgt := 16) hx hb dX8_byteAt_49 (by decide) ?_
          exact ih ((2 * x3) + 0) x4 (x5 + 1) D _ _ _ h hP hS (lv_sub hl [2, 1, 3, 0] rfl)
        · have h := x_f (show ¬ ((D 1 (Int32.toNatClampNeg (x4 + x5))) = 0) from c3) h
          refine lv_iconst (v := 1) hx hb dX8_byteAt_39 (by decide) ?_
          refine lv_goto (tgt := 44) hx hb dX8_byteAt_40 (by decide) ?_
          refine lv_iadd hx hb dX8_byteAt_44 ?_
          refine lv_istore_n (lv' := [(3, .int ((2 * x3) + 1)), (0, .ref (ad 0)), (4, .int x4), (5, .int x5)]) hx hb dX8_byteAt_45 rfl hl (by decide) rfl (fun ls hl => ?_)
          refine lv_iinc (v := x5 + 1) (lv' := [(5, .int (x5 + 1)), (3, .int ((2 * x3) + 1)), (0, .ref (ad 0)), (4, .int x4)]) hx hb dX8_byteAt_46 hl (k := 3) rfl rfl (by decide) rfl (fun ls hl => ?_)
          refine lv_goto (tgt := 16) hx hb dX8_byteAt_49 (by decide) ?_
          exact ih ((2 * x3) + 1) x4 (x5 + 1) D _ _ _ h hP hS (lv_sub hl [2, 1, 3, 0] rfl)
  have hl := lv_entry ([.ref (ad 0), .int a1, .int a2]) (n := 6) (Nat.le_of_ble_eq_true rfl)
  rw [lg_entry_eq]
  generalize (lg_sl ([.ref (ad 0), .int a1, .int a2]) ++ List.replicate (6 - (lg_sl ([.ref (ad 0), .int a1, .int a2])).length) Slot.unset).toArray = ls at hl ⊢
  have hl : lv_has ls 6 [(0, .ref (ad 0)), (1, .int a1), (2, .int a2)] := hl
  have hP : va_P dd vwCl (wW Y MG ad D0) s.heap := hP
  generalize D0 = D at h hP
  have h : ((bi (P_X8_startOf (gN MG) F a1 D) (fun r4 D4 => P_X8_byteAt_16 (gN MG) F F 0 (r4 + (8 * a2)) 0 D4)) : Rs) = some (r0, D') := h
  refine lv_iconst (v := 0) hx hb dX8_byteAt_0 (by decide) ?_
  refine lv_istore_n (lv' := [(3, .int 0), (0, .ref (ad 0)), (1, .int a1), (2, .int a2)]) hx hb dX8_byteAt_1 rfl hl (by decide) rfl (fun ls hl => ?_)
  refine lv_iload_n hx hb dX8_byteAt_2 rfl (lv_at hl 2 rfl) ?_
  obtain ⟨r4, D4, hc4, h⟩ := bi_some h
  refine x_callSi (As := [.int a1]) ⟨hx, hb, hml, hown, ht0⟩ hK hT hP hS (c_X8_startOf l dd Y t ad ij F a1 _ _ _ hc4) m_ML_X8_80 ss_X8_startOf hd_X8_startOf rfl rfl ⟨Nat.le_of_ble_eq_true rfl, Nat.le_of_ble_eq_true rfl⟩ rfl hl.1 rfl (Nat.le_of_ble_eq_true rfl) dX8_byteAt_3 ⟨Nat.zero_le _, Nat.zero_le _⟩ (fun H locs hn_r4 hP hS => ?_)
  refine lv_bipush (v := 8) hx hb dX8_byteAt_6 (by decide) ?_
  refine lv_iload_n hx hb dX8_byteAt_8 rfl (lv_at hl 3 rfl) ?_
  refine lv_imul hx hb dX8_byteAt_9 ?_
  refine lv_iadd hx hb dX8_byteAt_10 ?_
  refine lv_istore (lv' := [(4, .int (r4 + (8 * a2))), (3, .int 0), (0, .ref (ad 0)), (1, .int a1), (2, .int a2)]) hx hb dX8_byteAt_11 hl (by decide) rfl (fun ls hl => ?_)
  refine lv_iconst (v := 0) hx hb dX8_byteAt_13 (by decide) ?_
  refine lv_istore (lv' := [(5, .int 0), (4, .int (r4 + (8 * a2))), (3, .int 0), (0, .ref (ad 0)), (1, .int a1), (2, .int a2)]) hx hb dX8_byteAt_14 hl (by decide) rfl (fun ls hl => ?_)
  exact L16 F 0 (r4 + (8 * a2)) 0 D4 _ _ _ h hP hS (lv_sub hl [3, 2, 1, 0] rfl)
abbrev rm_X8_setByte : Room := { frames := 3, cells := 0, slots := 0, locals := 62 }
set_option maxHeartbeats 4000000 in
set_option maxRecDepth 100000 in
theorem c_X8_setByte (l : Launch) (dd : Dd) (Y : Yc) (t : Ts3) (ad : Nat → Nat) (ij : Ij MG ad) (F : Nat) (a1 a2 a3 : Int32) (D0 D' : Mm) (r0 : Int32) (h : P_X8_setByte (gN MG) F a1 a2 a3 D0 = some (r0, D')) : Met l yX8_setByte wzX8_setByte rm_X8_setByte (va_Pc [.ref (ad 0), .int a1, .int a2, .int a3] (Wd dd Y t MG ad D0)) (Qv dd Y MG ad D') 0 0 (pA MG ad) := by
  refine Met.ofW (cc := cX8_setByte) (maxL := 6) (ret := none) (by decide) rfl ?_
  intro p e s m args below meth c s₁ B hml hv
  obtain ⟨rfl, hP, hK, hT⟩ := hv
  have hx := B.exec
  have hb := B.bytes
  have hr := B.returns
  have ht0 : ∀ w ∈ W0, w.before _ s = true := fun w h => atoms_spec (ws := wzX8_setByte) B.pre w (List.mem_cons_of_mem _ h)
  have hown : s.vm.findClass RX8 = some m.cls := findClass_of_methodNamed B.named
  have hlocks := B.notSynchronized
  have hS : va_S (pA MG ad) s.heap s.heap [] := va_S.rf
  have L14 : ∀ (n : Nat), ∀ (x3 x4 x5 : Int32) (D : Mm) (H : Heap) (locs : List Loc) (ls : Array Slot), P_X8_setByte_14 (gN MG) F n x3 x4 x5 D = some (r0, D') → va_P dd vwCl (wW Y MG ad D) H → va_S (pA MG ad) s.heap H locs → lv_has ls 6 [(0, .ref (ad 0)), (3, .int x3), (4, .int x4), (5, .int x5)] → W p l e (headSpec wzX8_setByte rm_X8_setByte).room s m ([.ref (ad 0), .int a1, .int a2, .int a3].toArray) below meth c H locs 0 0 (MQ below (Qv dd Y MG ad D') ([.ref (ad 0), .int a1, .int a2, .int a3].toArray) s 0 0 (pA MG ad)) (F0 m 14 ls []) := by
    intro n
    induction n with
    | zero =>
      intro x3 x4 x5 D H locs ls h hP hS hl
      cases h
    | succ n ih =>
      intro x3 x4 x5 D H locs ls h hP hS hl
      have h : ((if 8 ≤ x5 then (some (0, D)) else (if ((x3 >>> ((7 - x5) &&& 31)) &&& 1) = 1 then (if inB (x4 + x5) ((gN MG) 1) = true then (P_X8_setByte_14 (gN MG) F n x3 x4 (x5 + 1) (up2 D 1 (Int32.toNatClampNeg (x4 + x5)) (vp_nar .boolean 1))) else none) else (if inB (x4 + x5) ((gN MG) 1) = true then (P_X8_setByte_14 (gN MG) F n x3 x4 (x5 + 1) (up2 D 1 (Int32.toNatClampNeg (x4 + x5)) (vp_nar .boolean 0))) else none))) : Rs) = some (r0, D') := h
      refine lv_iload hx hb dX8_setByte_14 (lv_at hl 3 rfl) ?_
      refine lv_bipush (v := 8) hx hb dX8_setByte_16 (by decide) ?_
      refine lv_icmp_ge (tgt := 55) hx hb dX8_setByte_18 (by decide) (fun c1 => ?_) (fun c1 => ?_)
      · have h := x_t (show 8 ≤ x5 from c1) h
        exact x_vret hx hb hr hlocks hP hS h dX8_setByte_55
      · have h := x_f (show ¬ (8 ≤ x5) from c1) h
        refine lv_aload_n hx hb dX8_setByte_21 rfl (lv_at hl 0 rfl) ?_
        refine x_get hx hb ht0 u_X8 hown hK hP (mk_0).1 (ce8 (mk_0).2) rfl 0 (by decide) (ht0 _ m_FL_X8_8) rfl (rfv (G := MG) (c := 0) (k := 0) (c' := 1) rfl) dX8_setByte_22 ?_
        refine lv_iload hx hb dX8_setByte_25 (lv_at hl 2 rfl) ?_
        refine lv_iload hx hb dX8_setByte_27 (lv_at hl 3 rfl) ?_
        refine lv_iadd hx hb dX8_setByte_29 ?_
        refine lv_iload_n hx hb dX8_setByte_30 rfl (lv_at hl 1 rfl) ?_
        refine lv_bipush (v := 7) hx hb dX8_setByte_31 (by decide) ?_
        refine lv_iload hx hb dX8_setByte_33 (lv_at hl 3 rfl) ?_
        refine lv_isub hx hb dX8_setByte_35 ?_
        refine lv_ishr hx hb dX8_setByte_36 ?_
        refine lv_iconst (v := 1) hx hb dX8_setByte_37 (by decide) ?_
        refine lv_iand hx hb dX8_setByte_38 ?_
        refine lv_iconst (v := 1) hx hb dX8_setByte_39 (by decide) ?_
        refine lv_icmp_ne (tgt := 47) hx hb dX8_setByte_40 (by decide) (fun c2 => ?_) (fun c2 => ?_)
        · have h := x_f (show ¬ (((x3 >>> ((7 - x5) &&& 31)) &&& 1) = 1) from c2) h
          refine lv_iconst (v := 0) hx hb dX8_setByte_47 (by decide) ?_
          obtain ⟨b3, h⟩ := x_if h
          refine x_zst hx hb hK ij hP hS mk_1 b3 dX8_setByte_48 (fun H locs hP hS => ?_)
          refine lv_iinc (v := x5 + 1) (lv' := [(5, .int (x5 + 1)), (0, .ref (ad 0)), (3, .int x3), (4, .int x4)]) hx hb dX8_setByte_49 hl (k := 3) rfl rfl (by decide) rfl (fun ls hl => ?_)
          refine lv_goto (tgt := 14) hx hb dX8_setByte_52 (by decide) ?_
          exact ih x3 x4 (x5 + 1) (up2 D 1 (Int32.toNatClampNeg (x4 + x5)) (vp_nar .boolean 0)) _ _ _ h hP hS (lv_sub hl [1, 2, 3, 0] rfl)
        · have h := x_t (show ((x3 >>> ((7 - x5) &&& 31)) &&& 1) = 1 from c2) h
          refine lv_iconst (v := 1) hx hb dX8_setByte_43 (by decide) ?_
          refine lv_goto (tgt := 48) hx hb dX8_setByte_44 (by decide) ?_
          obtain ⟨b4, h⟩ := x_if h
          refine x_zst hx hb hK ij hP hS mk_1 b4 dX8_setByte_48 (fun H locs hP hS => ?_)
          refine lv_iinc (v := x5 + 1) (lv' := [(5, .int (x5 + 1)), (0, .ref (ad 0)), (3, .int x3), (4, .int x4)]) hx hb dX8_setByte_49 hl (k := 3) rfl rfl (by decide) rfl (fun ls hl => ?_)
          refine lv_goto (tgt := 14) hx hb dX8_setByte_52 (by decide) ?_
          exact ih x3 x4 (x5 + 1) (up2 D 1 (Int32.toNatClampNeg (x4 + x5)) (vp_nar .boolean 1)) _ _ _ h hP hS (lv_sub hl [1, 2, 3, 0] rfl)
  have hl := lv_entry ([.ref (ad 0), .int a1, .int a2, .int a3]) (n := 6) (Nat.le_of_ble_eq_true rfl)
  rw [lg_entry_eq]
  generalize (lg_sl ([.ref (ad 0), .int a1, .int a2, .int a3]) ++ List.replicate (6 - (lg_sl ([.ref (ad 0), .int a1, .int a2, .int a3])).length) Slot.unset).toArray = ls at hl ⊢
  have hl : lv_has ls 6 [(0, .ref (ad 0)), (1, .int a1), (2, .int a2), (3, .int a3)] := hl
  have hP : va_P dd vwCl (wW Y MG ad D0) s.heap := hP
  generalize D0 = D at h hP
  have h : ((bi (P_X8_startOf (gN MG) F a1 D) (fun r5 D5 => P_X8_setByte_14 (gN MG) F F a3 (r5 + (8 * a2)) 0 D5)) : Rs) = some (r0, D') := h
  refine lv_iload_n hx hb dX8_setByte_0 rfl (lv_at hl 1 rfl) ?_
  obtain ⟨r5, D5, hc5, h⟩ := bi_some h
  refine x_callSi (As := [.int a1]) ⟨hx, hb, hml, hown, ht0⟩ hK hT hP hS (c_X8_startOf l dd Y t ad ij F a1 _ _ _ hc5) m_ML_X8_80 ss_X8_startOf hd_X8_startOf rfl rfl ⟨Nat.le_of_ble_eq_true rfl, Nat.le_of_ble_eq_true rfl⟩ rfl hl.1 rfl (Nat.le_of_ble_eq_true rfl) dX8_setByte_1 ⟨Nat.zero_le _, Nat.zero_le _⟩ (fun H locs hn_r5 hP hS => ?_)
  refine lv_bipush (v := 8) hx hb dX8_setByte_4 (by decide) ?_
  refine lv_iload_n hx hb dX8_setByte_6 rfl (lv_at hl 2 rfl) ?_
  refine lv_imul hx hb dX8_setByte_7 ?_
  refine lv_iadd hx hb dX8_setByte_8 ?_
  refine lv_istore (lv' := [(4, .int (r5 + (8 * a2))), (0, .ref (ad 0)), (1, .int a1), (2, .int a2), (3, .int a3)]) hx hb dX8_setByte_9 hl (by decide) rfl (fun ls hl => ?_)
  refine lv_iconst (v := 0) hx hb dX8_setByte_11 (by decide) ?_
  refine lv_istore (lv' := [(5, .int 0), (4, .int (r5 + (8 * a2))), (0, .ref (ad 0)), (1, .int a1), (2, .int a2), (3, .int a3)]) hx hb dX8_setByte_12 hl (by decide) rfl (fun ls hl => ?_)
  exact L14 F a3 (r5 + (8 * a2)) 0 D5 _ _ _ h hP hS (lv_sub hl [2, 5, 1, 0] rfl)
abbrev rm_X8_findSyncs : Room := { frames := 3, cells := 0, slots := 0, locals := 62 }
set_option maxHeartbeats 4000000 in
set_option maxRecDepth 100000 in
theorem c_X8_findSyncs (l : Launch) (dd : Dd) (Y : Yc) (t : Ts3) (ad : Nat → Nat) (ij : Ij MG ad) (F : Nat) (a1 : Int32) (D0 D' : Mm) (r0 : Int32) (h : P_X8_findSyncs (gN MG) F a1 D0 = some (r0, D')) : Met l yX8_findSyncs wzX8_findSyncs rm_X8_findSyncs (va_Pc [.ref (ad 0), .int a1] (Wd dd Y t MG ad D0)) (Qv dd Y MG ad D') 0 0 (pA MG ad) := by
  refine Met.ofW (cc := cX8_findSyncs) (maxL := 6) (ret := none) (by decide) rfl ?_
  intro p e s m args below meth c s₁ B hml hv
  obtain ⟨rfl, hP, hK, hT⟩ := hv
  have hx := B.exec
  have hb := B.bytes
  have hr := B.returns
  have ht0 : ∀ w ∈ W0, w.before _ s = true := fun w h => atoms_spec (ws := wzX8_findSyncs) B.pre w (List.mem_cons_of_mem _ h)
  have hown : s.vm.findClass RX8 = some m.cls := findClass_of_methodNamed B.named
  have hlocks := B.notSynchronized
  have hS : va_S (pA MG ad) s.heap s.heap [] := va_S.rf
  have L95 : ∀ (k49 : Int32 → Int32 → Int32 → Int32 → Mm → Rs) (hk49 : ∀ (x2 x3 x4 x5 : Int32) (D : Mm) (H : Heap) (locs : List Loc) (ls : Array Slot), k49 x2 x3 x4 x5 D = some (r0, D') → va_P dd vwCl (wW Y MG ad D) H → va_S (pA MG ad) s.heap H locs → lv_has ls 6 [(0, .ref (ad 0)), (2, .int x2), (3, .int x3), (4, .int x4), (5, .int x5)] → W p l e (headSpec wzX8_findSyncs rm_X8_findSyncs).room s m ([.ref (ad 0), .int a1].toArray) below meth c H locs 0 0 (MQ below (Qv dd Y MG ad D') ([.ref (ad 0), .int a1].toArray) s 0 0 (pA MG ad)) (F0 m 49 ls [])), ∀ (x2 x3 x4 x5 : Int32) (D : Mm) (H : Heap) (locs : List Loc) (ls : Array Slot), P_X8_findSyncs_95 (gN MG) F k49 x2 x3 x4 x5 D = some (r0, D') → va_P dd vwCl (wW Y MG ad D) H → va_S (pA MG ad) s.heap H locs → lv_has ls 6 [(0, .ref (ad 0)), (2, .int x2), (3, .int x3), (4, .int x4), (5, .int x5)] → W p l e (headSpec wzX8_findSyncs rm_X8_findSyncs).room s m ([.ref (ad 0), .int a1].toArray) below meth c H locs 0 0 (MQ below (Qv dd Y MG ad D') ([.ref (ad 0), .int a1].toArray) s 0 0 (pA MG ad)) (F0 m 95 ls []) := by
    intro k49 hk49 x2 x3 x4 x5 D H locs ls h hP hS hl
    have h : ((if inB (x2 + x5) ((gN MG) 1) = true then (if (D 1 (Int32.toNatClampNeg (x2 + x5))) = 0 then (k49 x2 x3 0 (x5 + 1) D) else (k49 x2 x3 (x4 + 1) (x5 + 1) D)) else none) : Rs) = some (r0, D') := h
    refine lv_aload_n hx hb dX8_findSyncs_95 rfl (lv_at hl 0 rfl) ?_
    refine x_get hx hb ht0 u_X8 hown hK hP (mk_0).1 (ce8 (mk_0).2) rfl 0 (by decide) (ht0 _ m_FL_X8_8) rfl (rfv (G := MG) (c := 0) (k := 0) (c' := 1) rfl) dX8_findSyncs_96 ?_
    refine lv_iload_n hx hb dX8_findSyncs_99 rfl (lv_at hl 1 rfl) ?_
    refine lv_iload hx hb dX8_findSyncs_100 (lv_at hl 4 rfl) ?_
    refine lv_iadd hx hb dX8_findSyncs_102 ?_
    obtain ⟨b1, h⟩ := x_if h
    refine x_zld hx hb hK hP mk_1 b1 dX8_findSyncs_103 ?_
    refine lv_if_eq (tgt := 114) hx hb dX8_findSyncs_104 (by decide) (fun c2 => ?_) (fun c2 => ?_)
    · have h := x_t (show (D 1 (Int32.toNatClampNeg (x2 + x5))) = 0 from c2) h
      refine lv_iconst (v := 0) hx hb dX8_findSyncs_114 (by decide) ?_
      refine lv_istore (lv' := [(4, .int 0), (0, .ref (ad 0)), (2, .int x2), (3, .int x3), (5, .int x5)]) hx hb dX8_findSyncs_115 hl (by decide) rfl (fun ls hl => ?_)
      refine lv_iinc (v := x5 + 1) (lv' := [(5, .int (x5 + 1)), (4, .int 0), (0, .ref (ad 0)), (2, .int x2), (3, .int x3)]) hx hb dX8_findSyncs_117 hl (k := 4) rfl rfl (by decide) rfl (fun ls hl => ?_)
      refine lv_goto (tgt := 49) hx hb dX8_findSyncs_120 (by decide) ?_
      exact hk49 x2 x3 0 (x5 + 1) D _ _ _ h hP hS (lv_sub hl [2, 3, 4, 1, 0] rfl)
    · have h := x_f (show ¬ ((D 1 (Int32.toNatClampNeg (x2 + x5))) = 0) from c2) h
      refine lv_iload hx hb dX8_findSyncs_107 (lv_at hl 3 rfl) ?_
      refine lv_iconst (v := 1) hx hb dX8_findSyncs_109 (by decide) ?_
      refine lv_iadd hx hb dX8_findSyncs_110 ?_
      refine lv_goto (tgt := 115) hx hb dX8_findSyncs_111 (by decide) ?_
      refine lv_istore (lv' := [(4, .int (x4 + 1)), (0, .ref (ad 0)), (2, .int x2), (3, .int x3), (5, .int x5)]) hx hb dX8_findSyncs_115 hl (by decide) rfl (fun ls hl => ?_)
      refine lv_iinc (v := x5 + 1) (lv' := [(5, .int (x5 + 1)), (4, .int (x4 + 1)), (0, .ref (ad 0)), (2, .int x2), (3, .int x3)]) hx hb dX8_findSyncs_117 hl (k := 4) rfl rfl (by decide) rfl (fun ls hl => ?_)
      refine lv_goto (tgt := 49) hx hb dX8_findSyncs_120 (by decide) ?_
      exact hk49 x2 x3 (x4 + 1) (x5 + 1) D _ _ _ h hP hS (lv_sub hl [2, 3, 4, 1, 0] rfl)
  have L49 : ∀ (n : Nat), ∀ (x2 x3 x4 x5 : Int32) (D : Mm) (H : Heap) (locs : List Loc) (ls : Array Slot), P_X8_findSyncs_49 (gN MG) F n x2 x3 x4 x5 D = some (r0, D') → va_P dd vwCl (wW Y MG ad D) H → va_S (pA MG ad) s.heap H locs → lv_has ls 6 [(0, .ref (ad 0)), (2, .int x2), (3, .int x3), (4, .int x4), (5, .int x5)] → W p l e (headSpec wzX8_findSyncs rm_X8_findSyncs).room s m ([.ref (ad 0), .int a1].toArray) below meth c H locs 0 0 (MQ below (Qv dd Y MG ad D') ([.ref (ad 0), .int a1].toArray) s 0 0 (pA MG ad)) (F0 m 49 ls []) := by
    intro n
    induction n with
    | zero =>
      intro x2 x3 x4 x5 D H locs ls h hP hS hl
      cases h
    | succ n ih =>
      intro x2 x3 x4 x5 D H locs ls h hP hS hl
      have h : ((if x3 ≤ x5 then (some (0, D)) else (if inB (x2 + x5) ((gN MG) 1) = true then (if (D 1 (Int32.toNatClampNeg (x2 + x5))) = 0 then (if x4 < 10 then (P_X8_findSyncs_95 (gN MG) F (fun x2 x3 x4 x5 D => P_X8_findSyncs_49 (gN MG) F n x2 x3 x4 x5 D) x2 x3 x4 x5 D) else (if inB (D 0 16) ((gN MG) 7) = true then (P_X8_findSyncs_95 (gN MG) F (fun x2 x3 x4 x5 D => P_X8_findSyncs_49 (gN MG) F n x2 x3 x4 x5 D) x2 x3 x4 x5 (up2 (up2 D 7 (Int32.toNatClampNeg (D 0 16)) x5) 0 16 (((up2 D 7 (Int32.toNatClampNeg (D 0 16)) x5) 0 16) + 1))) else none)) else (P_X8_findSyncs_95 (gN MG) F (fun x2 x3 x4 x5 D => P_X8_findSyncs_49 (gN MG) F n x2 x3 x4 x5 D) x2 x3 x4 x5 D)) else none)) : Rs) = some (r0, D') := h
      refine lv_iload hx hb dX8_findSyncs_49 (lv_at hl 4 rfl) ?_
      refine lv_iload_n hx hb dX8_findSyncs_51 rfl (lv_at hl 2 rfl) ?_
      refine lv_icmp_ge (tgt := 123) hx hb dX8_findSyncs_52 (by decide) (fun c3 => ?_) (fun c3 => ?_)
      · have h := x_t (show x3 ≤ x5 from c3) h
        exact x_vret hx hb hr hlocks hP hS h dX8_findSyncs_123
      · have h := x_f (show ¬ (x3 ≤ x5) from c3) h
        refine lv_aload_n hx hb dX8_findSyncs_55 rfl (lv_at hl 0 rfl) ?_
        refine x_get hx hb ht0 u_X8 hown hK hP (mk_0).1 (ce8 (mk_0).2) rfl 0 (by decide) (ht0 _ m_FL_X8_8) rfl (rfv (G := MG) (c := 0) (k := 0) (c' := 1) rfl) dX8_findSyncs_56 ?_
        refine lv_iload_n hx hb dX8_findSyncs_59 rfl (lv_at hl 1 rfl) ?_
        refine lv_iload hx hb dX8_findSyncs_60 (lv_at hl 4 rfl) ?_
        refine lv_iadd hx hb dX8_findSyncs_62 ?_
        obtain ⟨b4, h⟩ := x_if h
        refine x_zld hx hb hK hP mk_1 b4 dX8_findSyncs_63 ?_
        refine lv_if_ne (tgt := 95) hx hb dX8_findSyncs_64 (by decide) (fun c5 => ?_) (fun c5 => ?_)
        · have h := x_f (show ¬ ((D 1 (Int32.toNatClampNeg (x2 + x5))) = 0) from c5) h
          exact L95 (fun x2 x3 x4 x5 D => P_X8_findSyncs_49 (gN MG) F n x2 x3 x4 x5 D) ih x2 x3 x4 x5 D _ _ _ h hP hS (lv_sub hl [0, 1, 2, 3, 4] rfl)
        · have h := x_t (show (D 1 (Int32.toNatClampNeg (x2 + x5))) = 0 from c5) h
          refine lv_iload hx hb dX8_findSyncs_67 (lv_at hl 3 rfl) ?_
          refine lv_bipush (v := 10) hx hb dX8_findSyncs_69 (by decide) ?_
          refine lv_icmp_lt (tgt := 95) hx hb dX8_findSyncs_71 (by decide) (fun c6 => ?_) (fun c6 => ?_)
          · have h := x_t (show x4 < 10 from c6) h
            exact L95 (fun x2 x3 x4 x5 D => P_X8_findSyncs_49 (gN MG) F n x2 x3 x4 x5 D) ih x2 x3 x4 x5 D _ _ _ h hP hS (lv_sub hl [0, 1, 2, 3, 4] rfl)
          · have h := x_f (show ¬ (x4 < 10) from c6) h
            refine lv_aload_n hx hb dX8_findSyncs_74 rfl (lv_at hl 0 rfl) ?_
            refine x_get hx hb ht0 u_X8 hown hK hP (mk_0).1 (ce8 (mk_0).2) rfl 15 (by decide) (ht0 _ m_FL_X8_34) rfl (rfv (G := MG) (c := 0) (k := 15) (c' := 7) rfl) dX8_findSyncs_75 ?_
            refine lv_aload_n hx hb dX8_findSyncs_78 rfl (lv_at hl 0 rfl) ?_
            refine x_get hx hb ht0 u_X8 hown hK hP (mk_0).1 (ce8 (mk_0).2) rfl 16 (by decide) (ht0 _ m_FL_X8_83) rfl rfl dX8_findSyncs_79 ?_
            refine lv_iload hx hb dX8_findSyncs_82 (lv_at hl 4 rfl) ?_
            obtain ⟨b7, h⟩ := x_if h
            refine x_ast hx hb hK ij hP hS mk_7 b7 dX8_findSyncs_84 (fun H locs hP hS => ?_)
            refine lv_aload_n hx hb dX8_findSyncs_85 rfl (lv_at hl 0 rfl) ?_
            refine lv_dup hx hb dX8_findSyncs_86 rfl ?_
            refine x_get hx hb ht0 u_X8 hown hK hP (mk_0).1 (ce8 (mk_0).2) rfl 16 (by decide) (ht0 _ m_FL_X8_83) rfl rfl dX8_findSyncs_87 ?_
            refine lv_iconst (v := 1) hx hb dX8_findSyncs_90 (by decide) ?_
            refine lv_iadd hx hb dX8_findSyncs_91 ?_
            refine x_put (ty := .int) hx hb ht0 u_X8 tyX8 tyX8_ok nmX8 hown hK ij hP hS (mk_0).1 (ce8 (mk_0).2) rfl 16 (by decide) (ht0 _ m_FL_X8_83) rfl rfl (by decide +kernel) rfl rfl (Nat.le_of_ble_eq_true rfl) (by rw [(mk_0).2]; rfl) dX8_findSyncs_92 (fun H locs hP hS => ?_)
            exact L95 (fun x2 x3 x4 x5 D => P_X8_findSyncs_49 (gN MG) F n x2 x3 x4 x5 D) ih x2 x3 x4 x5 (up2 (up2 D 7 (Int32.toNatClampNeg (D 0 16)) x5) 0 16 (((up2 D 7 (Int32.toNatClampNeg (D 0 16)) x5) 0 16) + 1)) _ _ _ h hP hS (lv_sub hl [0, 1, 2, 3, 4] rfl)
  have L13 : ∀ (n : Nat), ∀ (x2 x3 x4 : Int32) (D : Mm) (H : Heap) (locs : List Loc) (ls : Array Slot), P_X8_findSyncs_13 (gN MG) F n x2 x3 x4 D = some (r0, D') → va_P dd vwCl (wW Y MG ad D) H → va_S (pA MG ad) s.heap H locs → lv_has ls 6 [(0, .ref (ad 0)), (2, .int x2), (3, .int x3), (4, .int x4)] → W p l e (headSpec wzX8_findSyncs rm_X8_findSyncs).room s m ([.ref (ad 0), .int a1].toArray) below meth c H locs 0 0 (MQ below (Qv dd Y MG ad D') ([.ref (ad 0), .int a1].toArray) s 0 0 (pA MG ad)) (F0 m 13 ls []) := by
    intro n
    induction n with
    | zero =>
      intro x2 x3 x4 D H locs ls h hP hS hl
      cases h
    | succ n ih =>
      intro x2 x3 x4 D H locs ls h hP hS hl
      have h : ((if x3 ≤ x4 then (P_X8_findSyncs_49 (gN MG) F F x2 x3 x4 0 (up2 D 0 16 0)) else (if inB (((x2 + x3) - 1) - x4) ((gN MG) 1) = true then (if (D 1 (Int32.toNatClampNeg (((x2 + x3) - 1) - x4))) = 0 then (P_X8_findSyncs_49 (gN MG) F F x2 x3 x4 0 (up2 D 0 16 0)) else (P_X8_findSyncs_13 (gN MG) F n x2 x3 (x4 + 1) D)) else none)) : Rs) = some (r0, D') := h
      refine lv_iload hx hb dX8_findSyncs_13 (lv_at hl 3 rfl) ?_
      refine lv_iload_n hx hb dX8_findSyncs_15 rfl (lv_at hl 2 rfl) ?_
      refine lv_icmp_ge (tgt := 41) hx hb dX8_findSyncs_16 (by decide) (fun c8 => ?_) (fun c8 => ?_)
      · have h := x_t (show x3 ≤ x4 from c8) h
        refine lv_aload_n hx hb dX8_findSyncs_41 rfl (lv_at hl 0 rfl) ?_
        refine lv_iconst (v := 0) hx hb dX8_findSyncs_42 (by decide) ?_
        refine x_put (ty := .int) hx hb ht0 u_X8 tyX8 tyX8_ok nmX8 hown hK ij hP hS (mk_0).1 (ce8 (mk_0).2) rfl 16 (by decide) (ht0 _ m_FL_X8_83) rfl rfl (by decide +kernel) rfl rfl (Nat.le_of_ble_eq_true rfl) (by rw [(mk_0).2]; rfl) dX8_findSyncs_43 (fun H locs hP hS => ?_)
        refine lv_iconst (v := 0) hx hb dX8_findSyncs_46 (by decide) ?_
        refine lv_istore (lv' := [(5, .int 0), (0, .ref (ad 0)), (2, .int x2), (3, .int x3), (4, .int x4)]) hx hb dX8_findSyncs_47 hl (by decide) rfl (fun ls hl => ?_)
        exact L49 F x2 x3 x4 0 (up2 D 0 16 0) _ _ _ h hP hS (lv_sub hl [1, 2, 3, 4, 0] rfl)
      · have h := x_f (show ¬ (x3 ≤ x4) from c8) h
        refine lv_aload_n hx hb dX8_findSyncs_19 rfl (lv_at hl 0 rfl) ?_
        refine x_get hx hb ht0 u_X8 hown hK hP (mk_0).1 (ce8 (mk_0).2) rfl 0 (by decide) (ht0 _ m_FL_X8_8) rfl (rfv (G := MG) (c := 0) (k := 0) (c' := 1) rfl) dX8_findSyncs_20 ?_
        refine lv_iload_n hx hb dX8_findSyncs_23 rfl (lv_at hl 1 rfl) ?_
        refine lv_iload_n hx hb dX8_findSyncs_24 rfl (lv_at hl 2 rfl) ?_
        refine lv_iadd hx hb dX8_findSyncs_25 ?_
        refine lv_iconst (v := 1) hx hb dX8_findSyncs_26 (by decide) ?_
        refine lv_isub hx hb dX8_findSyncs_27 ?_
        refine lv_iload hx hb dX8_findSyncs_28 (lv_at hl 3 rfl) ?_
        refine lv_isub hx hb dX8_findSyncs_30 ?_
        obtain ⟨b9, h⟩ := x_if h
        refine x_zld hx hb hK hP mk_1 b9 dX8_findSyncs_31 ?_
        refine lv_if_eq (tgt := 41) hx hb dX8_findSyncs_32 (by decide) (fun c10 => ?_) (fun c10 => ?_)
        · have h := x_t (show (D 1 (Int32.toNatClampNeg (((x2 + x3) - 1) - x4))) = 0 from c10) h
          refine lv_aload_n hx hb dX8_findSyncs_41 rfl (lv_at hl 0 rfl) ?_
          refine lv_iconst (v := 0) hx hb dX8_findSyncs_42 (by decide) ?_
          refine x_put (ty := .int) hx hb ht0 u_X8 tyX8 tyX8_ok nmX8 hown hK ij hP hS (mk_0).1 (ce8 (mk_0).2) rfl 16 (by decide) (ht0 _ m_FL_X8_83) rfl rfl (by decide +kernel) rfl rfl (Nat.le_of_ble_eq_true rfl) (by rw [(mk_0).2]; rfl) dX8_findSyncs_43 (fun H locs hP hS => ?_)
          refine lv_iconst (v := 0) hx hb dX8_findSyncs_46 (by decide) ?_
          refine lv_istore (lv' := [(5, .int 0), (0, .ref (ad 0)), (2, .int x2), (3, .int x3), (4, .int x4)]) hx hb dX8_findSyncs_47 hl (by decide) rfl (fun ls hl => ?_)
          exact L49 F x2 x3 x4 0 (up2 D 0 16 0) _ _ _ h hP hS (lv_sub hl [1, 2, 3, 4, 0] rfl)
        · have h := x_f (show ¬ ((D 1 (Int32.toNatClampNeg (((x2 + x3) - 1) - x4))) = 0) from c10) h
          refine lv_iinc (v := x4 + 1) (lv' := [(4, .int (x4 + 1)), (0, .ref (ad 0)), (2, .int x2), (3, .int x3)]) hx hb dX8_findSyncs_35 hl (k := 3) rfl rfl (by decide) rfl (fun ls hl => ?_)
          refine lv_goto (tgt := 13) hx hb dX8_findSyncs_38 (by decide) ?_
          exact ih x2 x3 (x4 + 1) D _ _ _ h hP hS (lv_sub hl [1, 2, 3, 0] rfl)
  have hl := lv_entry ([.ref (ad 0), .int a1]) (n := 6) (Nat.le_of_ble_eq_true rfl)
  rw [lg_entry_eq]
  generalize (lg_sl ([.ref (ad 0), .int a1]) ++ List.replicate (6 - (lg_sl ([.ref (ad 0), .int a1])).length) Slot.unset).toArray = ls at hl ⊢
  have hl : lv_has ls 6 [(0, .ref (ad 0)), (1, .int a1)] := hl
  have hP : va_P dd vwCl (wW Y MG ad D0) s.heap := hP
  generalize D0 = D at h hP
  have h : ((bi (P_X8_startOf (gN MG) F a1 D) (fun r11 D11 => bi (P_X8_lengthOf (gN MG) F a1 D11) (fun r12 D12 => P_X8_findSyncs_13 (gN MG) F F r11 r12 0 D12))) : Rs) = some (r0, D') := h
  refine lv_iload_n hx hb dX8_findSyncs_0 rfl (lv_at hl 1 rfl) ?_
  obtain ⟨r11, D11, hc11, h⟩ := bi_some h
  refine x_callSi (As := [.int a1]) ⟨hx, hb, hml, hown, ht0⟩ hK hT hP hS (c_X8_startOf l dd Y t ad ij F a1 _ _ _ hc11) m_ML_X8_80 ss_X8_startOf hd_X8_startOf rfl rfl ⟨Nat.le_of_ble_eq_true rfl, Nat.le_of_ble_eq_true rfl⟩ rfl hl.1 rfl (Nat.le_of_ble_eq_true rfl) dX8_findSyncs_1 ⟨Nat.zero_le _, Nat.zero_le _⟩ (fun H locs hn_r11 hP hS => ?_)
  refine lv_istore_n (lv' := [(2, .int r11), (0, .ref (ad 0)), (1, .int a1)]) hx hb dX8_findSyncs_4 rfl hl (by decide) rfl (fun ls hl => ?_)
  refine lv_iload_n hx hb dX8_findSyncs_5 rfl (lv_at hl 2 rfl) ?_
  obtain ⟨r12, D12, hc12, h⟩ := bi_some h
  refine x_callSi (As := [.int a1]) ⟨hx, hb, hml, hown, ht0⟩ hK hT hP hS (c_X8_lengthOf l dd Y t ad ij F a1 _ _ _ hc12) m_ML_X8_66 ss_X8_lengthOf hd_X8_lengthOf rfl rfl ⟨Nat.le_of_ble_eq_true rfl, Nat.le_of_ble_eq_true rfl⟩ rfl hl.1 rfl (Nat.le_of_ble_eq_true rfl) dX8_findSyncs_6 ⟨Nat.zero_le _, Nat.zero_le _⟩ (fun H locs hn_r12 hP hS => ?_)
  refine lv_istore_n (lv' := [(3, .int r12), (2, .int r11), (0, .ref (ad 0)), (1, .int a1)]) hx hb dX8_findSyncs_9 rfl hl (by decide) rfl (fun ls hl => ?_)
  refine lv_iconst (v := 0) hx hb dX8_findSyncs_10 (by decide) ?_
  refine lv_istore (lv' := [(4, .int 0), (3, .int r12), (2, .int r11), (0, .ref (ad 0)), (1, .int a1)]) hx hb dX8_findSyncs_11 hl (by decide) rfl (fun ls hl => ?_)
  exact L13 F r11 r12 0 D12 _ _ _ h hP hS (lv_sub hl [3, 2, 1, 0] rfl)
abbrev rm_X8_decoded : Room := { frames := 3, cells := 0, slots := 0, locals := 62 }
set_option maxHeartbeats 4000000 in
set_option maxRecDepth 100000 in
theorem c_X8_decoded (l : Launch) (dd : Dd) (Y : Yc) (t : Ts3) (ad : Nat → Nat) (ij : Ij MG ad) (F : Nat) (a1 a2 : Int32) (D0 D' : Mm) (r0 : Int32) (h : P_X8_decoded (gN MG) F a1 a2 D0 = some (r0, D')) : Met l yX8_decoded wzX8_decoded rm_X8_decoded (va_Pc [.ref (ad 0), .int a1, .int a2] (Wd dd Y t MG ad D0)) (Qi dd Y MG ad .int r0 D') 0 0 (pA MG ad) := by
  refine Met.ofW (cc := cX8_decoded) (maxL := 8) (ret := (some .int)) (by decide) rfl ?_
  intro p e s m args below meth c s₁ B hml hv
  obtain ⟨rfl, hP, hK, hT⟩ := hv
  have hx := B.exec
  have hb := B.bytes
  have hr := B.returns
  have ht0 : ∀ w ∈ W0, w.before _ s = true := fun w h => atoms_spec (ws := wzX8_decoded) B.pre w (List.mem_cons_of_mem _ h)
  have hown : s.vm.findClass RX8 = some m.cls := findClass_of_methodNamed B.named
  have hlocks := B.notSynchronized
  have hS : va_S (pA MG ad) s.heap s.heap [] := va_S.rf
  have L82 : ∀ (x6 x7 : Int32) (D : Mm) (H : Heap) (locs : List Loc) (ls : Array Slot), P_X8_decoded_82 (gN MG) F x6 x7 D = some (r0, D') → va_P dd vwCl (wW Y MG ad D) H → va_S (pA MG ad) s.heap H locs → lv_has ls 8 [(6, .int x6), (7, .int x7)] → W p l e (headSpec wzX8_decoded rm_X8_decoded).room s m ([.ref (ad 0), .int a1, .int a2].toArray) below meth c H locs 0 0 (MQ below (Qi dd Y MG ad .int r0 D') ([.ref (ad 0), .int a1, .int a2].toArray) s 0 0 (pA MG ad)) (F0 m 82 ls []) := by
    intro x6 x7 D H locs ls h hP hS hl
    have h : ((if x6 < 0 then (some ((-1), D)) else (if 0 ≤ x7 then (some ((16 * x6) + x7, D)) else (some ((-1), D)))) : Rs) = some (r0, D') := h
    refine lv_iload hx hb dX8_decoded_82 (lv_at hl 0 rfl) ?_
    refine lv_if_lt (tgt := 92) hx hb dX8_decoded_84 (by decide) (fun c1 => ?_) (fun c1 => ?_)
    · have h := x_t (show x6 < 0 from c1) h
      refine lv_iconst (v := (-1)) hx hb dX8_decoded_92 (by decide) ?_
      refine lv_goto (tgt := 104) hx hb dX8_decoded_93 (by decide) ?_
      exact x_iret hx hb hr hlocks rfl hP hS h dX8_decoded_104
    · have h := x_f (show ¬ (x6 < 0) from c1) h
      refine lv_iload hx hb dX8_decoded_87 (lv_at hl 1 rfl) ?_
      refine lv_if_ge (tgt := 96) hx hb dX8_decoded_89 (by decide) (fun c2 => ?_) (fun c2 => ?_)
      · have h := x_t (show 0 ≤ x7 from c2) h
        refine lv_bipush (v := 16) hx hb dX8_decoded_96 (by decide) ?_
        refine lv_iload hx hb dX8_decoded_98 (lv_at hl 0 rfl) ?_
        refine lv_imul hx hb dX8_decoded_100 ?_
        refine lv_iload hx hb dX8_decoded_101 (lv_at hl 1 rfl) ?_
        refine lv_iadd hx hb dX8_decoded_103 ?_
        exact x_iret hx hb hr hlocks rfl hP hS h dX8_decoded_104
      · have h := x_f (show ¬ (0 ≤ x7) from c2) h
        refine lv_iconst (v := (-1)) hx hb dX8_decoded_92 (by decide) ?_
        refine lv_goto (tgt := 104) hx hb dX8_decoded_93 (by decide) ?_
        exact x_iret hx hb hr hlocks rfl hP hS h dX8_decoded_104
  have L70 : ∀ (x5 x6 : Int32) (D : Mm) (H : Heap) (locs : List Loc) (ls : Array Slot), P_X8_decoded_70 (gN MG) F x5 x6 D = some (r0, D') → va_P dd vwCl (wW Y MG ad D) H → va_S (pA MG ad) s.heap H locs → lv_has ls 8 [(0, .ref (ad 0)), (5, .int x5), (6, .int x6)] → W p l e (headSpec wzX8_decoded rm_X8_decoded).room s m ([.ref (ad 0), .int a1, .int a2].toArray) below meth c H locs 0 0 (MQ below (Qi dd Y MG ad .int r0 D') ([.ref (ad 0), .int a1, .int a2].toArray) s 0 0 (pA MG ad)) (F0 m 70 ls []) := by
    intro x5 x6 D H locs ls h hP hS hl
    have h : ((if inB (x5 &&& 31) ((gN MG) 4) = true then (P_X8_decoded_82 (gN MG) F x6 (D 4 (Int32.toNatClampNeg (x5 &&& 31))) D) else none) : Rs) = some (r0, D') := h
    refine lv_aload_n hx hb dX8_decoded_70 rfl (lv_at hl 0 rfl) ?_
    refine x_get hx hb ht0 u_X8 hown hK hP (mk_0).1 (ce8 (mk_0).2) rfl 3 (by decide) (ht0 _ m_FL_X8_21) rfl (rfv (G := MG) (c := 0) (k := 3) (c' := 4) rfl) dX8_decoded_71 ?_
    refine lv_iload hx hb dX8_decoded_74 (lv_at hl 1 rfl) ?_
    refine lv_bipush (v := 31) hx hb dX8_decoded_76 (by decide) ?_
    refine lv_iand hx hb dX8_decoded_78 ?_
    obtain ⟨b3, h⟩ := x_if h
    refine x_ald hx hb hK hP mk_4 b3 dX8_decoded_79 ?_
    refine lv_istore (lv' := [(7, .int (D 4 (Int32.toNatClampNeg (x5 &&& 31)))), (0, .ref (ad 0)), (5, .int x5), (6, .int x6)]) hx hb dX8_decoded_80 hl (by decide) rfl (fun ls hl => ?_)
    exact L82 x6 (D 4 (Int32.toNatClampNeg (x5 &&& 31))) D _ _ _ h hP hS (lv_sub hl [3, 0] rfl)
  have L17 : ∀ (n : Nat), ∀ (x2 x3 x4 x5 x6 : Int32) (D : Mm) (H : Heap) (locs : List Loc) (ls : Array Slot), P_X8_decoded_17 (gN MG) F n x2 x3 x4 x5 x6 D = some (r0, D') → va_P dd vwCl (wW Y MG ad D) H → va_S (pA MG ad) s.heap H locs → lv_has ls 8 [(0, .ref (ad 0)), (2, .int x2), (3, .int x3), (4, .int x4), (5, .int x5), (6, .int x6)] → W p l e (headSpec wzX8_decoded rm_X8_decoded).room s m ([.ref (ad 0), .int a1, .int a2].toArray) below meth c H locs 0 0 (MQ below (Qi dd Y MG ad .int r0 D') ([.ref (ad 0), .int a1, .int a2].toArray) s 0 0 (pA MG ad)) (F0 m 17 ls []) := by
    intro n
    induction n with
    | zero =>
      intro x2 x3 x4 x5 x6 D H locs ls h hP hS hl
      cases h
    | succ n ih =>
      intro x2 x3 x4 x5 x6 D H locs ls h hP hS hl
      have h : ((if 10 ≤ x6 then (if inB (x5 >>> (5 &&& 31)) ((gN MG) 4) = true then (P_X8_decoded_70 (gN MG) F x5 (D 4 (Int32.toNatClampNeg (x5 >>> (5 &&& 31)))) D) else none) else (if x4 = 0 then none else (if inB (x3 + (jrem (x2 + x6) x4)) ((gN MG) 1) = true then (if (D 1 (Int32.toNatClampNeg (x3 + (jrem (x2 + x6) x4)))) = 0 then (P_X8_decoded_17 (gN MG) F n x2 x3 x4 ((2 * x5) + 0) (x6 + 1) D) else (P_X8_decoded_17 (gN MG) F n x2 x3 x4 ((2 * x5) + 1) (x6 + 1) D)) else none))) : Rs) = some (r0, D') := h
      refine lv_iload hx hb dX8_decoded_17 (lv_at hl 5 rfl) ?_
      refine lv_bipush (v := 10) hx hb dX8_decoded_19 (by decide) ?_
      refine lv_icmp_ge (tgt := 59) hx hb dX8_decoded_21 (by decide) (fun c4 => ?_) (fun c4 => ?_)
      · have h := x_t (show 10 ≤ x6 from c4) h
        refine lv_aload_n hx hb dX8_decoded_59 rfl (lv_at hl 0 rfl) ?_
        refine x_get hx hb ht0 u_X8 hown hK hP (mk_0).1 (ce8 (mk_0).2) rfl 3 (by decide) (ht0 _ m_FL_X8_21) rfl (rfv (G := MG) (c := 0) (k := 3) (c' := 4) rfl) dX8_decoded_60 ?_
        refine lv_iload hx hb dX8_decoded_63 (lv_at hl 4 rfl) ?_
        refine lv_iconst (v := 5) hx hb dX8_decoded_65 (by decide) ?_
        refine lv_ishr hx hb dX8_decoded_66 ?_
        obtain ⟨b5, h⟩ := x_if h
        refine x_ald hx hb hK hP mk_4 b5 dX8_decoded_67 ?_
        refine lv_istore (lv' := [(6, .int (D 4 (Int32.toNatClampNeg (x5 >>> (5 &&& 31))))), (0, .ref (ad 0)), (2, .int x2), (3, .int x3), (4, .int x4), (5, .int x5)]) hx hb dX8_decoded_68 hl (by decide) rfl (fun ls hl => ?_)
        exact L70 x5 (D 4 (Int32.toNatClampNeg (x5 >>> (5 &&& 31)))) D _ _ _ h hP hS (lv_sub hl [1, 5, 0] rfl)
      · have h := x_f (show ¬ (10 ≤ x6) from c4) h
        refine lv_iconst (v := 2) hx hb dX8_decoded_24 (by decide) ?_
        refine lv_iload hx hb dX8_decoded_25 (lv_at hl 4 rfl) ?_
        refine lv_imul hx hb dX8_decoded_27 ?_
        refine lv_aload_n hx hb dX8_decoded_28 rfl (lv_at hl 0 rfl) ?_
        refine x_get hx hb ht0 u_X8 hown hK hP (mk_0).1 (ce8 (mk_0).2) rfl 0 (by decide) (ht0 _ m_FL_X8_8) rfl (rfv (G := MG) (c := 0) (k := 0) (c' := 1) rfl) dX8_decoded_29 ?_
        refine lv_iload_n hx hb dX8_decoded_32 rfl (lv_at hl 2 rfl) ?_
        refine lv_iload_n hx hb dX8_decoded_33 rfl (lv_at hl 1 rfl) ?_
        refine lv_iload hx hb dX8_decoded_34 (lv_at hl 5 rfl) ?_
        refine lv_iadd hx hb dX8_decoded_36 ?_
        refine lv_iload hx hb dX8_decoded_37 (lv_at hl 3 rfl) ?_
        obtain ⟨z6, h⟩ := x_ifn h
        refine lv_irem hx hb dX8_decoded_39 z6 ?_
        refine lv_iadd hx hb dX8_decoded_40 ?_
        obtain ⟨b7, h⟩ := x_if h
        refine x_zld hx hb hK hP mk_1 b7 dX8_decoded_41 ?_
        refine lv_if_eq (tgt := 49) hx hb dX8_decoded_42 (by decide) (fun c8 => ?_) (fun c8 => ?_)
        · have h := x_t (show (D 1 (Int32.toNatClampNeg (x3 + (jrem (x2 + x6) x4)))) = 0 from c8) h
          refine lv_iconst (v := 0) hx hb dX8_decoded_49 (by decide) ?_
          refine lv_iadd hx hb dX8_decoded_50 ?_
          refine lv_istore (lv' := [(5, .int ((2 * x5) + 0)), (0, .ref (ad 0)), (2, .int x2), (3, .int x3), (4, .int x4), (6, .int x6)]) hx hb dX8_decoded_51 hl (by decide) rfl (fun ls hl => ?_)
          refine lv_iinc (v := x6 + 1) (lv' := [(6, .int (x6 + 1)), (5, .int ((2 * x5) + 0)), (0, .ref (ad 0)), (2, .int x2), (3, .int x3), (4, .int x4)]) hx hb dX8_decoded_53 hl (k := 5) rfl rfl (by decide) rfl (fun ls hl => ?_)
          refine lv_goto (tgt := 17) hx hb dX8_decoded_56 (by decide) ?_
          exact ih x2 x3 x4 ((2 * x5) + 0) (x6 + 1) D _ _ _ h hP hS (lv_sub hl [2, 3, 4, 5, 1, 0] rfl)
        · have h := x_f (show ¬ ((D 1 (Int32.toNatClampNeg (x3 + (jrem (x2 + x6) x4)))) = 0) from c8) h
          refine lv_iconst (v := 1) hx hb dX8_decoded_45 (by decide) ?_
          refine lv_goto (tgt := 50) hx hb dX8_decoded_46 (by decide) ?_
          refine lv_iadd hx hb dX8_decoded_50 ?_
          refine lv_istore (lv' := [(5, .int ((2 * x5) + 1)), (0, .ref (ad 0)), (2, .int x2), (3, .int x3), (4, .int x4), (6, .int x6)]) hx hb dX8_decoded_51 hl (by decide) rfl (fun ls hl => ?_)
          refine lv_iinc (v := x6 + 1) (lv' := [(6, .int (x6 + 1)), (5, .int ((2 * x5) + 1)), (0, .ref (ad 0)), (2, .int x2), (3, .int x3), (4, .int x4)]) hx hb dX8_decoded_53 hl (k := 5) rfl rfl (by decide) rfl (fun ls hl => ?_)
          refine lv_goto (tgt := 17) hx hb dX8_decoded_56 (by decide) ?_
          exact ih x2 x3 x4 ((2 * x5) + 1) (x6 + 1) D _ _ _ h hP hS (lv_sub hl [2, 3, 4, 5, 1, 0] rfl)
  have hl := lv_entry ([.ref (ad 0), .int a1, .int a2]) (n := 8) (Nat.le_of_ble_eq_true rfl)
  rw [lg_entry_eq]
  generalize (lg_sl ([.ref (ad 0), .int a1, .int a2]) ++ List.replicate (8 - (lg_sl ([.ref (ad 0), .int a1, .int a2])).length) Slot.unset).toArray = ls at hl ⊢
  have hl : lv_has ls 8 [(0, .ref (ad 0)), (1, .int a1), (2, .int a2)] := hl
  have hP : va_P dd vwCl (wW Y MG ad D0) s.heap := hP
  generalize D0 = D at h hP
  have h : ((bi (P_X8_startOf (gN MG) F a1 D) (fun r9 D9 => bi (P_X8_lengthOf (gN MG) F a1 D9) (fun r10 D10 => P_X8_decoded_17 (gN MG) F F a2 r9 r10 0 0 D10))) : Rs) = some (r0, D') := h
  refine lv_iload_n hx hb dX8_decoded_0 rfl (lv_at hl 1 rfl) ?_
  obtain ⟨r9, D9, hc9, h⟩ := bi_some h
  refine x_callSi (As := [.int a1]) ⟨hx, hb, hml, hown, ht0⟩ hK hT hP hS (c_X8_startOf l dd Y t ad ij F a1 _ _ _ hc9) m_ML_X8_80 ss_X8_startOf hd_X8_startOf rfl rfl ⟨Nat.le_of_ble_eq_true rfl, Nat.le_of_ble_eq_true rfl⟩ rfl hl.1 rfl (Nat.le_of_ble_eq_true rfl) dX8_decoded_1 ⟨Nat.zero_le _, Nat.zero_le _⟩ (fun H locs hn_r9 hP hS => ?_)
  refine lv_istore_n (lv' := [(3, .int r9), (0, .ref (ad 0)), (1, .int a1), (2, .int a2)]) hx hb dX8_decoded_4 rfl hl (by decide) rfl (fun ls hl => ?_)
  refine lv_iload_n hx hb dX8_decoded_5 rfl (lv_at hl 2 rfl) ?_
  obtain ⟨r10, D10, hc10, h⟩ := bi_some h
  refine x_callSi (As := [.int a1]) ⟨hx, hb, hml, hown, ht0⟩ hK hT hP hS (c_X8_lengthOf l dd Y t ad ij F a1 _ _ _ hc10) m_ML_X8_66 ss_X8_lengthOf hd_X8_lengthOf rfl rfl ⟨Nat.le_of_ble_eq_true rfl, Nat.le_of_ble_eq_true rfl⟩ rfl hl.1 rfl (Nat.le_of_ble_eq_true rfl) dX8_decoded_6 ⟨Nat.zero_le _, Nat.zero_le _⟩ (fun H locs hn_r10 hP hS => ?_)
  refine lv_istore (lv' := [(4, .int r10), (3, .int r9), (0, .ref (ad 0)), (1, .int a1), (2, .int a2)]) hx hb dX8_decoded_9 hl (by decide) rfl (fun ls hl => ?_)
  refine lv_iconst (v := 0) hx hb dX8_decoded_11 (by decide) ?_
  refine lv_istore (lv' := [(5, .int 0), (4, .int r10), (3, .int r9), (0, .ref (ad 0)), (1, .int a1), (2, .int a2)]) hx hb dX8_decoded_12 hl (by decide) rfl (fun ls hl => ?_)
  refine lv_iconst (v := 0) hx hb dX8_decoded_14 (by decide) ?_
  refine lv_istore (lv' := [(6, .int 0), (5, .int 0), (4, .int r10), (3, .int r9), (0, .ref (ad 0)), (1, .int a1), (2, .int a2)]) hx hb dX8_decoded_15 hl (by decide) rfl (fun ls hl => ?_)
  exact L17 F a2 r9 r10 0 0 D10 _ _ _ h hP hS (lv_sub hl [4, 6, 3, 2, 1, 0] rfl)
abbrev rm_X8_putBits : Room := { frames := 3, cells := 0, slots := 0, locals := 62 }
set_option maxHeartbeats 4000000 in
set_option maxRecDepth 100000 in
theorem c_X8_putBits (l : Launch) (dd : Dd) (Y : Yc) (t : Ts3) (ad : Nat → Nat) (ij : Ij MG ad) (F : Nat) (a1 a2 : Int32) (D0 D' : Mm) (r0 : Int32) (h : P_X8_putBits (gN MG) F a1 a2 D0 = some (r0, D')) : Met l yX8_putBits wzX8_putBits rm_X8_putBits (va_Pc [.ref (ad 0), .int a1, .int a2] (Wd dd Y t MG ad D0)) (Qv dd Y MG ad D') 0 0 (pA MG ad) := by
  refine Met.ofW (cc := cX8_putBits) (maxL := 6) (ret := none) (by decide) rfl ?_
  intro p e s m args below meth c s₁ B hml hv
  obtain ⟨rfl, hP, hK, hT⟩ := hv
  have hx := B.exec
  have hb := B.bytes
  have hr := B.returns
  have ht0 : ∀ w ∈ W0, w.before _ s = true := fun w h => atoms_spec (ws := wzX8_putBits) B.pre w (List.mem_cons_of_mem _ h)
  have hown : s.vm.findClass RX8 = some m.cls := findClass_of_methodNamed B.named
  have hlocks := B.notSynchronized
  have hS : va_S (pA MG ad) s.heap s.heap [] := va_S.rf
  have L56 : ∀ (k22 : Int32 → Int32 → Int32 → Int32 → Mm → Rs) (hk22 : ∀ (x1 x3 x4 x5 : Int32) (D : Mm) (H : Heap) (locs : List Loc) (ls : Array Slot), k22 x1 x3 x4 x5 D = some (r0, D') → va_P dd vwCl (wW Y MG ad D) H → va_S (pA MG ad) s.heap H locs → lv_has ls 6 [(0, .ref (ad 0)), (1, .int x1), (3, .int x3), (4, .int x4), (5, .int x5)] → W p l e (headSpec wzX8_putBits rm_X8_putBits).room s m ([.ref (ad 0), .int a1, .int a2].toArray) below meth c H locs 0 0 (MQ below (Qv dd Y MG ad D') ([.ref (ad 0), .int a1, .int a2].toArray) s 0 0 (pA MG ad)) (F0 m 22 ls [])), ∀ (x1 x3 x4 x5 : Int32) (D : Mm) (H : Heap) (locs : List Loc) (ls : Array Slot), P_X8_putBits_56 (gN MG) F k22 x1 x3 x4 x5 D = some (r0, D') → va_P dd vwCl (wW Y MG ad D) H → va_S (pA MG ad) s.heap H locs → lv_has ls 6 [(0, .ref (ad 0)), (1, .int x1), (3, .int x3), (4, .int x4), (5, .int x5)] → W p l e (headSpec wzX8_putBits rm_X8_putBits).room s m ([.ref (ad 0), .int a1, .int a2].toArray) below meth c H locs 0 0 (MQ below (Qv dd Y MG ad D') ([.ref (ad 0), .int a1, .int a2].toArray) s 0 0 (pA MG ad)) (F0 m 56 ls []) := by
    intro k22 hk22 x1 x3 x4 x5 D H locs ls h hP hS hl
    have h : ((k22 x1 x3 x4 (x5 + (-1)) (up2 D 0 30 ((D 0 30) + 1))) : Rs) = some (r0, D') := h
    refine lv_aload_n hx hb dX8_putBits_56 rfl (lv_at hl 0 rfl) ?_
    refine lv_dup hx hb dX8_putBits_57 rfl ?_
    refine x_get hx hb ht0 u_X8 hown hK hP (mk_0).1 (ce8 (mk_0).2) rfl 30 (by decide) (ht0 _ m_FL_X8_89) rfl rfl dX8_putBits_58 ?_
    refine lv_iconst (v := 1) hx hb dX8_putBits_61 (by decide) ?_
    refine lv_iadd hx hb dX8_putBits_62 ?_
    refine x_put (ty := .int) hx hb ht0 u_X8 tyX8 tyX8_ok nmX8 hown hK ij hP hS (mk_0).1 (ce8 (mk_0).2) rfl 30 (by decide) (ht0 _ m_FL_X8_89) rfl rfl (by decide +kernel) rfl rfl (Nat.le_of_ble_eq_true rfl) (by rw [(mk_0).2]; rfl) dX8_putBits_63 (fun H locs hP hS => ?_)
    refine lv_iinc (v := x5 + (-1)) (lv' := [(5, .int (x5 + (-1))), (0, .ref (ad 0)), (1, .int x1), (3, .int x3), (4, .int x4)]) hx hb dX8_putBits_66 hl (k := 4) rfl rfl (by decide) rfl (fun ls hl => ?_)
    refine lv_goto (tgt := 22) hx hb dX8_putBits_69 (by decide) ?_
    exact hk22 x1 x3 x4 (x5 + (-1)) (up2 D 0 30 ((D 0 30) + 1)) _ _ _ h hP hS (lv_sub hl [1, 2, 3, 4, 0] rfl)
  have L22 : ∀ (n : Nat), ∀ (x1 x3 x4 x5 : Int32) (D : Mm) (H : Heap) (locs : List Loc) (ls : Array Slot), P_X8_putBits_22 (gN MG) F n x1 x3 x4 x5 D = some (r0, D') → va_P dd vwCl (wW Y MG ad D) H → va_S (pA MG ad) s.heap H locs → lv_has ls 6 [(0, .ref (ad 0)), (1, .int x1), (3, .int x3), (4, .int x4), (5, .int x5)] → W p l e (headSpec wzX8_putBits rm_X8_putBits).room s m ([.ref (ad 0), .int a1, .int a2].toArray) below meth c H locs 0 0 (MQ below (Qv dd Y MG ad D') ([.ref (ad 0), .int a1, .int a2].toArray) s 0 0 (pA MG ad)) (F0 m 22 ls []) := by
    intro n
    induction n with
    | zero =>
      intro x1 x3 x4 x5 D H locs ls h hP hS hl
      cases h
    | succ n ih =>
      intro x1 x3 x4 x5 D H locs ls h hP hS hl
      have h : ((if x5 < 0 then (some (0, D)) else (if x4 = 0 then none else (if ((x1 >>> (x5 &&& 31)) &&& 1) = 1 then (if inB (x3 + (jrem (D 0 30) x4)) ((gN MG) 1) = true then (P_X8_putBits_56 (gN MG) F (fun x1 x3 x4 x5 D => P_X8_putBits_22 (gN MG) F n x1 x3 x4 x5 D) x1 x3 x4 x5 (up2 D 1 (Int32.toNatClampNeg (x3 + (jrem (D 0 30) x4))) (vp_nar .boolean 1))) else none) else (if inB (x3 + (jrem (D 0 30) x4)) ((gN MG) 1) = true then (P_X8_putBits_56 (gN MG) F (fun x1 x3 x4 x5 D => P_X8_putBits_22 (gN MG) F n x1 x3 x4 x5 D) x1 x3 x4 x5 (up2 D 1 (Int32.toNatClampNeg (x3 + (jrem (D 0 30) x4))) (vp_nar .boolean 0))) else none)))) : Rs) = some (r0, D') := h
      refine lv_iload hx hb dX8_putBits_22 (lv_at hl 4 rfl) ?_
      refine lv_if_lt (tgt := 72) hx hb dX8_putBits_24 (by decide) (fun c1 => ?_) (fun c1 => ?_)
      · have h := x_t (show x5 < 0 from c1) h
        exact x_vret hx hb hr hlocks hP hS h dX8_putBits_72
      · have h := x_f (show ¬ (x5 < 0) from c1) h
        refine lv_aload_n hx hb dX8_putBits_27 rfl (lv_at hl 0 rfl) ?_
        refine x_get hx hb ht0 u_X8 hown hK hP (mk_0).1 (ce8 (mk_0).2) rfl 0 (by decide) (ht0 _ m_FL_X8_8) rfl (rfv (G := MG) (c := 0) (k := 0) (c' := 1) rfl) dX8_putBits_28 ?_
        refine lv_iload_n hx hb dX8_putBits_31 rfl (lv_at hl 2 rfl) ?_
        refine lv_aload_n hx hb dX8_putBits_32 rfl (lv_at hl 0 rfl) ?_
        refine x_get hx hb ht0 u_X8 hown hK hP (mk_0).1 (ce8 (mk_0).2) rfl 30 (by decide) (ht0 _ m_FL_X8_89) rfl rfl dX8_putBits_33 ?_
        refine lv_iload hx hb dX8_putBits_36 (lv_at hl 3 rfl) ?_
        obtain ⟨z2, h⟩ := x_ifn h
        refine lv_irem hx hb dX8_putBits_38 z2 ?_
        refine lv_iadd hx hb dX8_putBits_39 ?_
        refine lv_iload_n hx hb dX8_putBits_40 rfl (lv_at hl 1 rfl) ?_
        refine lv_iload hx hb dX8_putBits_41 (lv_at hl 4 rfl) ?_
        refine lv_ishr hx hb dX8_putBits_43 ?_
        refine lv_iconst (v := 1) hx hb dX8_putBits_44 (by decide) ?_
        refine lv_iand hx hb dX8_putBits_45 ?_
        refine lv_iconst (v := 1) hx hb dX8_putBits_46 (by decide) ?_
        refine lv_icmp_ne (tgt := 54) hx hb dX8_putBits_47 (by decide) (fun c3 => ?_) (fun c3 => ?_)
        · have h := x_f (show ¬ (((x1 >>> (x5 &&& 31)) &&& 1) = 1) from c3) h
          refine lv_iconst (v := 0) hx hb dX8_putBits_54 (by decide) ?_
          obtain ⟨b4, h⟩ := x_if h
          refine x_zst hx hb hK ij hP hS mk_1 b4 dX8_putBits_55 (fun H locs hP hS => ?_)
          exact L56 (fun x1 x3 x4 x5 D => P_X8_putBits_22 (gN MG) F n x1 x3 x4 x5 D) ih x1 x3 x4 x5 (up2 D 1 (Int32.toNatClampNeg (x3 + (jrem (D 0 30) x4))) (vp_nar .boolean 0)) _ _ _ h hP hS (lv_sub hl [0, 1, 2, 3, 4] rfl)
        · have h := x_t (show ((x1 >>> (x5 &&& 31)) &&& 1) = 1 from c3) h
          refine lv_iconst (v := 1) hx hb dX8_putBits_50 (by decide) ?_
          refine lv_goto (tgt := 55) hx hb dX8_putBits_51 (by decide) ?_
          obtain ⟨b5, h⟩ := x_if h
          refine x_zst hx hb hK ij hP hS mk_1 b5 dX8_putBits_55 (fun H locs hP hS => ?_)
          exact L56 (fun x1 x3 x4 x5 D => P_X8_putBits_22 (gN MG) F n x1 x3 x4 x5 D) ih x1 x3 x4 x5 (up2 D 1 (Int32.toNatClampNeg (x3 + (jrem (D 0 30) x4))) (vp_nar .boolean 1)) _ _ _ h hP hS (lv_sub hl [0, 1, 2, 3, 4] rfl)
  have hl := lv_entry ([.ref (ad 0), .int a1, .int a2]) (n := 6) (Nat.le_of_ble_eq_true rfl)
  rw [lg_entry_eq]
  generalize (lg_sl ([.ref (ad 0), .int a1, .int a2]) ++ List.replicate (6 - (lg_sl ([.ref (ad 0), .int a1, .int a2])).length) Slot.unset).toArray = ls at hl ⊢
  have hl : lv_has ls 6 [(0, .ref (ad 0)), (1, .int a1), (2, .int a2)] := hl
  have hP : va_P dd vwCl (wW Y MG ad D0) s.heap := hP
  generalize D0 = D at h hP
  have h : ((bi (P_X8_startOf (gN MG) F (D 0 29) D) (fun r6 D6 => bi (P_X8_lengthOf (gN MG) F (D6 0 29) D6) (fun r7 D7 => P_X8_putBits_22 (gN MG) F F a1 r6 r7 (a2 - 1) D7))) : Rs) = some (r0, D') := h
  refine lv_aload_n hx hb dX8_putBits_0 rfl (lv_at hl 0 rfl) ?_
  refine x_get hx hb ht0 u_X8 hown hK hP (mk_0).1 (ce8 (mk_0).2) rfl 29 (by decide) (ht0 _ m_FL_X8_86) rfl rfl dX8_putBits_1 ?_
  obtain ⟨r6, D6, hc6, h⟩ := bi_some h
  refine x_callSi (As := [.int (D 0 29)]) ⟨hx, hb, hml, hown, ht0⟩ hK hT hP hS (c_X8_startOf l dd Y t ad ij F (D 0 29) _ _ _ hc6) m_ML_X8_80 ss_X8_startOf hd_X8_startOf rfl rfl ⟨Nat.le_of_ble_eq_true rfl, Nat.le_of_ble_eq_true rfl⟩ rfl hl.1 rfl (Nat.le_of_ble_eq_true rfl) dX8_putBits_4 ⟨Nat.zero_le _, Nat.zero_le _⟩ (fun H locs hn_r6 hP hS => ?_)
  refine lv_istore_n (lv' := [(3, .int r6), (0, .ref (ad 0)), (1, .int a1), (2, .int a2)]) hx hb dX8_putBits_7 rfl hl (by decide) rfl (fun ls hl => ?_)
  refine lv_aload_n hx hb dX8_putBits_8 rfl (lv_at hl 1 rfl) ?_
  refine x_get hx hb ht0 u_X8 hown hK hP (mk_0).1 (ce8 (mk_0).2) rfl 29 (by decide) (ht0 _ m_FL_X8_86) rfl rfl dX8_putBits_9 ?_
  obtain ⟨r7, D7, hc7, h⟩ := bi_some h
  refine x_callSi (As := [.int (D6 0 29)]) ⟨hx, hb, hml, hown, ht0⟩ hK hT hP hS (c_X8_lengthOf l dd Y t ad ij F (D6 0 29) _ _ _ hc7) m_ML_X8_66 ss_X8_lengthOf hd_X8_lengthOf rfl rfl ⟨Nat.le_of_ble_eq_true rfl, Nat.le_of_ble_eq_true rfl⟩ rfl hl.1 rfl (Nat.le_of_ble_eq_true rfl) dX8_putBits_12 ⟨Nat.zero_le _, Nat.zero_le _⟩ (fun H locs hn_r7 hP hS => ?_)
  refine lv_istore (lv' := [(4, .int r7), (3, .int r6), (0, .ref (ad 0)), (1, .int a1), (2, .int a2)]) hx hb dX8_putBits_15 hl (by decide) rfl (fun ls hl => ?_)
  refine lv_iload_n hx hb dX8_putBits_17 rfl (lv_at hl 4 rfl) ?_
  refine lv_iconst (v := 1) hx hb dX8_putBits_18 (by decide) ?_
  refine lv_isub hx hb dX8_putBits_19 ?_
  refine lv_istore (lv' := [(5, .int (a2 - 1)), (4, .int r7), (3, .int r6), (0, .ref (ad 0)), (1, .int a1), (2, .int a2)]) hx hb dX8_putBits_20 hl (by decide) rfl (fun ls hl => ?_)
  exact L22 F a1 r6 r7 (a2 - 1) D7 _ _ _ h hP hS (lv_sub hl [3, 4, 2, 1, 0] rfl)
abbrev rm_X8_putCoded : Room := { frames := 4, cells := 0, slots := 0, locals := 87 }
set_option maxHeartbeats 4000000 in
set_option maxRecDepth 100000 in
theorem c_X8_putCoded (l : Launch) (dd : Dd) (Y : Yc) (t : Ts3) (ad : Nat → Nat) (ij : Ij MG ad) (F : Nat) (a1 : Int32) (D0 D' : Mm) (r0 : Int32) (h : P_X8_putCoded (gN MG) F a1 D0 = some (r0, D')) : Met l yX8_putCoded wzX8_putCoded rm_X8_putCoded (va_Pc [.ref (ad 0), .int a1] (Wd dd Y t MG ad D0)) (Qv dd Y MG ad D') 0 0 (pA MG ad) := by
  refine Met.ofW (cc := cX8_putCoded) (maxL := 2) (ret := none) (by decide) rfl ?_
  intro p e s m args below meth c s₁ B hml hv
  obtain ⟨rfl, hP, hK, hT⟩ := hv
  have hx := B.exec
  have hb := B.bytes
  have hr := B.returns
  have ht0 : ∀ w ∈ W0, w.before _ s = true := fun w h => atoms_spec (ws := wzX8_putCoded) B.pre w (List.mem_cons_of_mem _ h)
  have hown : s.vm.findClass RX8 = some m.cls := findClass_of_methodNamed B.named
  have hlocks := B.notSynchronized
  have hS : va_S (pA MG ad) s.heap s.heap [] := va_S.rf
  have hl := lv_entry ([.ref (ad 0), .int a1]) (n := 2) (Nat.le_of_ble_eq_true rfl)
  rw [lg_entry_eq]
  generalize (lg_sl ([.ref (ad 0), .int a1]) ++ List.replicate (2 - (lg_sl ([.ref (ad 0), .int a1])).length) Slot.unset).toArray = ls at hl ⊢
  have hl : lv_has ls 2 [(0, .ref (ad 0)), (1, .int a1)] := hl
  have hP : va_P dd vwCl (wW Y MG ad D0) s.heap := hP
  generalize D0 = D at h hP
  have h : ((if inB ((a1 >>> (4 &&& 31)) &&& 15) ((gN MG) 3) = true then (bi (P_X8_putBits (gN MG) F (D 3 (Int32.toNatClampNeg ((a1 >>> (4 &&& 31)) &&& 15))) 5 D) (fun r2 D2 => if inB (a1 &&& 15) ((gN MG) 3) = true then (bi (P_X8_putBits (gN MG) F (D2 3 (Int32.toNatClampNeg (a1 &&& 15))) 5 D2) (fun r4 D4 => some (0, D4))) else none)) else none) : Rs) = some (r0, D') := h
  refine lv_aload_n hx hb dX8_putCoded_0 rfl (lv_at hl 0 rfl) ?_
  refine lv_aload_n hx hb dX8_putCoded_1 rfl (lv_at hl 0 rfl) ?_
  refine x_get hx hb ht0 u_X8 hown hK hP (mk_0).1 (ce8 (mk_0).2) rfl 2 (by decide) (ht0 _ m_FL_X8_17) rfl (rfv (G := MG) (c := 0) (k := 2) (c' := 3) rfl) dX8_putCoded_2 ?_
  refine lv_iload_n hx hb dX8_putCoded_5 rfl (lv_at hl 1 rfl) ?_
  refine lv_iconst (v := 4) hx hb dX8_putCoded_6 (by decide) ?_
  refine lv_ishr hx hb dX8_putCoded_7 ?_
  refine lv_bipush (v := 15) hx hb dX8_putCoded_8 (by decide) ?_
  refine lv_iand hx hb dX8_putCoded_10 ?_
  obtain ⟨b1, h⟩ := x_if h
  refine x_ald hx hb hK hP mk_3 b1 dX8_putCoded_11 ?_
  refine lv_iconst (v := 5) hx hb dX8_putCoded_12 (by decide) ?_
  obtain ⟨r2, D2, hc2, h⟩ := bi_some h
  refine x_callVv (As := [.int (D 3 (Int32.toNatClampNeg ((a1 >>> (4 &&& 31)) &&& 15))), .int 5]) ⟨hx, hb, hml, hown, ht0⟩ hK hT hP hS (c_X8_putBits l dd Y t ad ij F (D 3 (Int32.toNatClampNeg ((a1 >>> (4 &&& 31)) &&& 15))) 5 _ _ _ hc2) m_ML_X8_92 sv_X8_putBits hd_X8_putBits rfl rfl ⟨Nat.le_of_ble_eq_true rfl, Nat.le_of_ble_eq_true rfl⟩ (mk_0).1 (ce8 (mk_0).2) rfl rfl hl.1 rfl (Nat.le_of_ble_eq_true rfl) dX8_putCoded_13 ⟨Nat.zero_le _, Nat.zero_le _⟩ (fun H locs hP hS => ?_)
  refine lv_aload_n hx hb dX8_putCoded_16 rfl (lv_at hl 0 rfl) ?_
  refine lv_aload_n hx hb dX8_putCoded_17 rfl (lv_at hl 0 rfl) ?_
  refine x_get hx hb ht0 u_X8 hown hK hP (mk_0).1 (ce8 (mk_0).2) rfl 2 (by decide) (ht0 _ m_FL_X8_17) rfl (rfv (G := MG) (c := 0) (k := 2) (c' := 3) rfl) dX8_putCoded_18 ?_
  refine lv_iload_n hx hb dX8_putCoded_21 rfl (lv_at hl 1 rfl) ?_
  refine lv_bipush (v := 15) hx hb dX8_putCoded_22 (by decide) ?_
  refine lv_iand hx hb dX8_putCoded_24 ?_
  obtain ⟨b3, h⟩ := x_if h
  refine x_ald hx hb hK hP mk_3 b3 dX8_putCoded_25 ?_
  refine lv_iconst (v := 5) hx hb dX8_putCoded_26 (by decide) ?_
  obtain ⟨r4, D4, hc4, h⟩ := bi_some h
  refine x_callVv (As := [.int (D2 3 (Int32.toNatClampNeg (a1 &&& 15))), .int 5]) ⟨hx, hb, hml, hown, ht0⟩ hK hT hP hS (c_X8_putBits l dd Y t ad ij F (D2 3 (Int32.toNatClampNeg (a1 &&& 15))) 5 _ _ _ hc4) m_ML_X8_92 sv_X8_putBits hd_X8_putBits rfl rfl ⟨Nat.le_of_ble_eq_true rfl, Nat.le_of_ble_eq_true rfl⟩ (mk_0).1 (ce8 (mk_0).2) rfl rfl hl.1 rfl (Nat.le_of_ble_eq_true rfl) dX8_putCoded_27 ⟨Nat.zero_le _, Nat.zero_le _⟩ (fun H locs hP hS => ?_)
  exact x_vret hx hb hr hlocks hP hS h dX8_putCoded_30
abbrev rm_X8_putSync : Room := { frames := 4, cells := 0, slots := 0, locals := 87 }
set_option maxHeartbeats 4000000 in
set_option maxRecDepth 100000 in
theorem c_X8_putSync (l : Launch) (dd : Dd) (Y : Yc) (t : Ts3) (ad : Nat → Nat) (ij : Ij MG ad) (F : Nat) (D0 D' : Mm) (r0 : Int32) (h : P_X8_putSync (gN MG) F D0 = some (r0, D')) : Met l yX8_putSync wzX8_putSync rm_X8_putSync (va_Pc [.ref (ad 0)] (Wd dd Y t MG ad D0)) (Qv dd Y MG ad D') 0 0 (pA MG ad) := by
  refine Met.ofW (cc := cX8_putSync) (maxL := 1) (ret := none) (by decide) rfl ?_
  intro p e s m args below meth c s₁ B hml hv
  obtain ⟨rfl, hP, hK, hT⟩ := hv
  have hx := B.exec
  have hb := B.bytes
  have hr := B.returns
  have ht0 : ∀ w ∈ W0, w.before _ s = true := fun w h => atoms_spec (ws := wzX8_putSync) B.pre w (List.mem_cons_of_mem _ h)
  have hown : s.vm.findClass RX8 = some m.cls := findClass_of_methodNamed B.named
  have hlocks := B.notSynchronized
  have hS : va_S (pA MG ad) s.heap s.heap [] := va_S.rf
  have hl := lv_entry ([.ref (ad 0)]) (n := 1) (Nat.le_of_ble_eq_true rfl)
  rw [lg_entry_eq]
  generalize (lg_sl ([.ref (ad 0)]) ++ List.replicate (1 - (lg_sl ([.ref (ad 0)])).length) Slot.unset).toArray = ls at hl ⊢
  have hl : lv_has ls 1 [(0, .ref (ad 0))] := hl
  have hP : va_P dd vwCl (wW Y MG ad D0) s.heap := hP
  generalize D0 = D at h hP
  have h : ((bi (P_X8_putBits (gN MG) F 255 8 D) (fun r1 D1 => bi (P_X8_putBits (gN MG) F (-1) 32 D1) (fun r2 D2 => some (0, D2)))) : Rs) = some (r0, D') := h
  refine lv_aload_n hx hb dX8_putSync_0 rfl (lv_at hl 0 rfl) ?_
  refine lv_sipush (v := 255) hx hb dX8_putSync_1 (by decide) ?_
  refine lv_bipush (v := 8) hx hb dX8_putSync_4 (by decide) ?_
  obtain ⟨r1, D1, hc1, h⟩ := bi_some h
  refine x_callVv (As := [.int 255, .int 8]) ⟨hx, hb, hml, hown, ht0⟩ hK hT hP hS (c_X8_putBits l dd Y t ad ij F 255 8 _ _ _ hc1) m_ML_X8_92 sv_X8_putBits hd_X8_putBits rfl rfl ⟨Nat.le_of_ble_eq_true rfl, Nat.le_of_ble_eq_true rfl⟩ (mk_0).1 (ce8 (mk_0).2) rfl rfl hl.1 rfl (Nat.le_of_ble_eq_true rfl) dX8_putSync_6 ⟨Nat.zero_le _, Nat.zero_le _⟩ (fun H locs hP hS => ?_)
  refine lv_aload_n hx hb dX8_putSync_9 rfl (lv_at hl 0 rfl) ?_
  refine lv_iconst (v := (-1)) hx hb dX8_putSync_10 (by decide) ?_
  refine lv_bipush (v := 32) hx hb dX8_putSync_11 (by decide) ?_
  obtain ⟨r2, D2, hc2, h⟩ := bi_some h
  refine x_callVv (As := [.int ((-1)), .int 32]) ⟨hx, hb, hml, hown, ht0⟩ hK hT hP hS (c_X8_putBits l dd Y t ad ij F (-1) 32 _ _ _ hc2) m_ML_X8_92 sv_X8_putBits hd_X8_putBits rfl rfl ⟨Nat.le_of_ble_eq_true rfl, Nat.le_of_ble_eq_true rfl⟩ (mk_0).1 (ce8 (mk_0).2) rfl rfl hl.1 rfl (Nat.le_of_ble_eq_true rfl) dX8_putSync_13 ⟨Nat.zero_le _, Nat.zero_le _⟩ (fun H locs hP hS => ?_)
  exact x_vret hx hb hr hlocks hP hS h dX8_putSync_16
