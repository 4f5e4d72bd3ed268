abbrev rm_X0_layFormatted : Room := { frames := 3, cells := 0, slots := 0, locals := 77 }
set_option maxHeartbeats 4000000 in
set_option maxRecDepth 100000 in
theorem c_X0_layFormatted (l : Launch) (dd : Dd) (Y : Yc) (t : Ts3) (ad : Nat → Nat) (ij : Ij XG ad) (F : Nat) (u3 : Nat) (g_u3 : IArr XG u3) (a1 a2 : Int32) (D0 D' : Mm) (r0 : Int32) (h : P_X0_layFormatted (gN XG) F u3 a1 a2 D0 = some (r0, D')) : Met l yX0_layFormatted wzX0_layFormatted rm_X0_layFormatted (va_Pc [.ref (ad 2), .int a1, .int a2, .ref (ad u3)] (Wd dd Y t XG ad D0)) (Qv dd Y XG ad D') 0 0 (pA XG ad) := by
  refine Met.ofW (cc := cX0_layFormatted) (maxL := 5) (ret := none) (by decide) rfl ?_
  intro p e s m args below meth c s₁ B hml hv
  obtain ⟨rfl, hP, hK, hT⟩ := hv
  have hx := B.exec
  have hb := B.bytes
  have hr := B.returns
  have ht0 : ∀ w ∈ W0, w.before _ s = true := fun w h => atoms_spec (ws := wzX0_layFormatted) B.pre w (List.mem_cons_of_mem _ h)
  have hown : s.vm.findClass RX0 = some m.cls := findClass_of_methodNamed B.named
  have hlocks := B.notSynchronized
  have hS : va_S (pA XG ad) s.heap s.heap [] := va_S.rf
  have hl := lv_entry ([.ref (ad 2), .int a1, .int a2, .ref (ad u3)]) (n := 5) (Nat.le_of_ble_eq_true rfl)
  rw [lg_entry_eq]
  generalize (lg_sl ([.ref (ad 2), .int a1, .int a2, .ref (ad u3)]) ++ List.replicate (5 - (lg_sl ([.ref (ad 2), .int a1, .int a2, .ref (ad u3)])).length) Slot.unset).toArray = ls at hl ⊢
  have hl : lv_has ls 5 [(0, .ref (ad 2)), (1, .int a1), (2, .int a2), (3, .ref (ad u3))] := hl
  have hP : va_P dd vwCl (wW Y XG ad D0) s.heap := hP
  generalize D0 = D at h hP
  have h : ((bq (P_X0_ringOf a1) (some (0, D)) (fun w1 => bi (P_X5_putData (gN XG) F w1 u3 (8 * ((114 * a2) + 5)) D) (fun r2 D2 => some (0, D2)))) : Rs) = some (r0, D') := h
  refine lv_aload_n hx hb dX0_layFormatted_0 rfl (lv_at hl 0 rfl) ?_
  refine lv_iload_n hx hb dX0_layFormatted_1 rfl (lv_at hl 1 rfl) ?_
  refine x_callVq (As := [.int a1]) ⟨hx, hb, hml, hown, ht0⟩ hK hT hP hS (c_X0_ringOf l dd Y t ad ij a1 D) m_ML_X0_49 sv_X0_ringOf hd_X0_ringOf rfl rfl ⟨Nat.le_of_ble_eq_true rfl, Nat.le_of_ble_eq_true rfl⟩ (xk_2).1 (ce0 (xk_2).2) rfl rfl hl.1 rfl (Nat.le_of_ble_eq_true rfl) dX0_layFormatted_2 ⟨Nat.zero_le _, Nat.zero_le _⟩ (fun hq H locs hP hS => ?_) (fun w1 hq H locs hP hS => ?_)
  · have h := bq_n hq h
    refine lv_astoreN (lv' := [(4, .null), (0, .ref (ad 2)), (1, .int a1), (2, .int a2), (3, .ref (ad u3))]) hx hb dX0_layFormatted_5 hl (by decide) rfl (fun ls hl => ?_)
    refine lv_aloadN hx hb dX0_layFormatted_7 (lv_at hl 0 rfl) ?_
    refine lv_ifnullN (tgt := 27) hx hb dX0_layFormatted_9 (by decide) ?_
    exact x_vret hx hb hr hlocks hP hS h dX0_layFormatted_27
  · have h := bq_s hq h
    have g_w1 : RingAt XG w1 := ringOf_at hq
    obtain ⟨k_w1, p_w1_0, p_w1_2, k_w11, k_w12⟩ := id g_w1
    refine lv_astore (lv' := [(4, .ref (ad w1)), (0, .ref (ad 2)), (1, .int a1), (2, .int a2), (3, .ref (ad u3))]) hx hb dX0_layFormatted_5 hl (by decide) rfl (fun ls hl => ?_)
    refine lv_aload hx hb dX0_layFormatted_7 (lv_at hl 0 rfl) ?_
    refine lv_ifnull hx hb dX0_layFormatted_9 ?_
    refine lv_aload hx hb dX0_layFormatted_12 (lv_at hl 0 rfl) ?_
    refine lv_bipush (v := 8) hx hb dX0_layFormatted_14 (by decide) ?_
    refine lv_bipush (v := 114) hx hb dX0_layFormatted_16 (by decide) ?_
    refine lv_iload_n hx hb dX0_layFormatted_18 rfl (lv_at hl 3 rfl) ?_
    refine lv_imul hx hb dX0_layFormatted_19 ?_
    refine lv_iconst (v := 5) hx hb dX0_layFormatted_20 (by decide) ?_
    refine lv_iadd hx hb dX0_layFormatted_21 ?_
    refine lv_imul hx hb dX0_layFormatted_22 ?_
    refine lv_aload_n hx hb dX0_layFormatted_23 rfl (lv_at hl 4 rfl) ?_
    obtain ⟨r2, D2, hc2, h⟩ := bi_some h
    refine x_callVv (As := [.int (8 * ((114 * a2) + 5)), .ref (ad u3)]) ⟨hx, hb, hml, hown, ht0⟩ hK hT hP hS (c_X5_putData l dd Y t XG ad ij F w1 u3 g_w1 g_u3 (8 * ((114 * a2) + 5)) _ _ _ hc2) m_ML_X0_42 sv_X5_putData hd_X5_putData rfl rfl ⟨Nat.le_of_ble_eq_true rfl, Nat.le_of_ble_eq_true rfl⟩ (k_w1).1 (ce5 (k_w1).2) rfl rfl hl.1 rfl (Nat.le_of_ble_eq_true rfl) dX0_layFormatted_24 ⟨Nat.zero_le _, Nat.zero_le _⟩ (fun H locs hP hS => ?_)
    exact x_vret hx hb hr hlocks hP hS h dX0_layFormatted_27
abbrev rm_X5_findSyncs : Room := { frames := 0, cells := 0, slots := 0, locals := 0 }
set_option maxHeartbeats 4000000 in
set_option maxRecDepth 100000 in
theorem c_X5_findSyncs (l : Launch) (dd : Dd) (Y : Yc) (t : Ts3) (G : Gr) (ad : Nat → Nat) (ij : Ij G ad) (F : Nat) (th : Nat) (g_th : RingAt G th) (D0 D' : Mm) (r0 : Int32) (h : P_X5_findSyncs (gN G) F th D0 = some (r0, D')) : Met l yX5_findSyncs wzX5_findSyncs rm_X5_findSyncs (va_Pc [.ref (ad th)] (Wd dd Y t G ad D0)) (Qi dd Y G ad .int r0 D') 0 0 (pA G ad) := by
  refine Met.ofW (cc := cX5_findSyncs) (maxL := 6) (ret := (some .int)) (by decide) rfl ?_
  intro p e s m args below meth c s₁ B hml hv
  obtain ⟨rfl, hP, hK, hT⟩ := hv
  have hx := B.exec
  have hb := B.bytes
  have hr := B.returns
  have ht0 : ∀ w ∈ W0, w.before _ s = true := fun w h => atoms_spec (ws := wzX5_findSyncs) B.pre w (List.mem_cons_of_mem _ h)
  have hown : s.vm.findClass RX5 = some m.cls := findClass_of_methodNamed B.named
  have hlocks := B.notSynchronized
  have hS : va_S (pA G ad) s.heap s.heap [] := va_S.rf
  obtain ⟨k_th, p_th_0, p_th_2, k_th1, k_th2⟩ := id g_th
  have L179 : ∀ (k71 : Int32 → Int32 → Mm → Rs) (hk71 : ∀ (x2 x3 : Int32) (D : Mm) (H : Heap) (locs : List Loc) (ls : Array Slot), k71 x2 x3 D = some (r0, D') → va_P dd vwCl (wW Y G ad D) H → va_S (pA G ad) s.heap H locs → lv_has ls 6 [(0, .ref (ad th)), (2, .int x2), (3, .int x3)] → W p l e (headSpec wzX5_findSyncs rm_X5_findSyncs).room s m ([.ref (ad th)].toArray) below meth c H locs 0 0 (MQ below (Qi dd Y G ad .int r0 D') ([.ref (ad th)].toArray) s 0 0 (pA G ad)) (F0 m 71 ls [])), ∀ (n : Nat), ∀ (x2 x3 x4 : Int32) (D : Mm) (H : Heap) (locs : List Loc) (ls : Array Slot), P_X5_findSyncs_179 (gN G) F th k71 n x2 x3 x4 D = some (r0, D') → va_P dd vwCl (wW Y G ad D) H → va_S (pA G ad) s.heap H locs → lv_has ls 6 [(0, .ref (ad th)), (2, .int x2), (3, .int x3), (4, .int x4)] → W p l e (headSpec wzX5_findSyncs rm_X5_findSyncs).room s m ([.ref (ad th)].toArray) below meth c H locs 0 0 (MQ below (Qi dd Y G ad .int r0 D') ([.ref (ad th)].toArray) s 0 0 (pA G ad)) (F0 m 179 ls []) := by
    intro k71 hk71 n
    induction n with
    | zero =>
      intro x2 x3 x4 D H locs ls h hP hS hl
      cases h
    | succ n ih =>
      intro x2 x3 x4 D H locs ls h hP hS hl
      have h : ((if 8 ≤ x2 then (k71 x2 (x3 + 1) D) else (if ((x4 >>> (x2 &&& 31)) &&& 1) = 1 then (P_X5_findSyncs_179 (gN G) F th k71 n (x2 + 1) x3 x4 D) else (k71 x2 (x3 + 1) D))) : Rs) = some (r0, D') := h
      refine lv_iload_n hx hb dX5_findSyncs_179 rfl (lv_at hl 1 rfl) ?_
      refine lv_bipush (v := 8) hx hb dX5_findSyncs_180 (by decide) ?_
      refine lv_icmp_ge (tgt := 201) hx hb dX5_findSyncs_182 (by decide) (fun c1 => ?_) (fun c1 => ?_)
      · have h := x_t (show 8 ≤ x2 from c1) h
        refine lv_iinc (v := x3 + 1) (lv' := [(3, .int (x3 + 1)), (0, .ref (ad th)), (2, .int x2), (4, .int x4)]) hx hb dX5_findSyncs_201 hl (k := 2) rfl rfl (by decide) rfl (fun ls hl => ?_)
        refine lv_goto (tgt := 71) hx hb dX5_findSyncs_204 (by decide) ?_
        exact hk71 x2 (x3 + 1) D _ _ _ h hP hS (lv_sub hl [1, 2, 0] rfl)
      · have h := x_f (show ¬ (8 ≤ x2) from c1) h
        refine lv_iload hx hb dX5_findSyncs_185 (lv_at hl 3 rfl) ?_
        refine lv_iload_n hx hb dX5_findSyncs_187 rfl (lv_at hl 1 rfl) ?_
        refine lv_ishr hx hb dX5_findSyncs_188 ?_
        refine lv_iconst (v := 1) hx hb dX5_findSyncs_189 (by decide) ?_
        refine lv_iand hx hb dX5_findSyncs_190 ?_
        refine lv_iconst (v := 1) hx hb dX5_findSyncs_191 (by decide) ?_
        refine lv_icmp_ne (tgt := 201) hx hb dX5_findSyncs_192 (by decide) (fun c2 => ?_) (fun c2 => ?_)
        · have h := x_f (show ¬ (((x4 >>> (x2 &&& 31)) &&& 1) = 1) from c2) h
          refine lv_iinc (v := x3 + 1) (lv' := [(3, .int (x3 + 1)), (0, .ref (ad th)), (2, .int x2), (4, .int x4)]) hx hb dX5_findSyncs_201 hl (k := 2) rfl rfl (by decide) rfl (fun ls hl => ?_)
          refine lv_goto (tgt := 71) hx hb dX5_findSyncs_204 (by decide) ?_
          exact hk71 x2 (x3 + 1) D _ _ _ h hP hS (lv_sub hl [1, 2, 0] rfl)
        · have h := x_t (show ((x4 >>> (x2 &&& 31)) &&& 1) = 1 from c2) h
          refine lv_iinc (v := x2 + 1) (lv' := [(2, .int (x2 + 1)), (0, .ref (ad th)), (3, .int x3), (4, .int x4)]) hx hb dX5_findSyncs_195 hl (k := 1) rfl rfl (by decide) rfl (fun ls hl => ?_)
          refine lv_goto (tgt := 179) hx hb dX5_findSyncs_198 (by decide) ?_
          exact ih (x2 + 1) x3 x4 D _ _ _ h hP hS (lv_sub hl [1, 0, 2, 3] rfl)
  have L177 : ∀ (k71 : Int32 → Int32 → Mm → Rs) (hk71 : ∀ (x2 x3 : Int32) (D : Mm) (H : Heap) (locs : List Loc) (ls : Array Slot), k71 x2 x3 D = some (r0, D') → va_P dd vwCl (wW Y G ad D) H → va_S (pA G ad) s.heap H locs → lv_has ls 6 [(0, .ref (ad th)), (2, .int x2), (3, .int x3)] → W p l e (headSpec wzX5_findSyncs rm_X5_findSyncs).room s m ([.ref (ad th)].toArray) below meth c H locs 0 0 (MQ below (Qi dd Y G ad .int r0 D') ([.ref (ad th)].toArray) s 0 0 (pA G ad)) (F0 m 71 ls [])), ∀ (x3 x4 : Int32) (D : Mm) (H : Heap) (locs : List Loc) (ls : Array Slot), P_X5_findSyncs_177 (gN G) F th k71 x3 x4 D = some (r0, D') → va_P dd vwCl (wW Y G ad D) H → va_S (pA G ad) s.heap H locs → lv_has ls 6 [(0, .ref (ad th)), (3, .int x3), (4, .int x4)] → W p l e (headSpec wzX5_findSyncs rm_X5_findSyncs).room s m ([.ref (ad th)].toArray) below meth c H locs 0 0 (MQ below (Qi dd Y G ad .int r0 D') ([.ref (ad th)].toArray) s 0 0 (pA G ad)) (F0 m 177 ls []) := by
    intro k71 hk71 x3 x4 D H locs ls h hP hS hl
    have h : ((P_X5_findSyncs_179 (gN G) F th k71 F 0 x3 x4 D) : Rs) = some (r0, D') := h
    refine lv_iconst (v := 0) hx hb dX5_findSyncs_177 (by decide) ?_
    refine lv_istore_n (lv' := [(2, .int 0), (0, .ref (ad th)), (3, .int x3), (4, .int x4)]) hx hb dX5_findSyncs_178 rfl hl (by decide) rfl (fun ls hl => ?_)
    exact L179 k71 hk71 F 0 x3 x4 D _ _ _ h hP hS (lv_sub hl [1, 0, 2, 3] rfl)
  have L130 : ∀ (k71 : Int32 → Int32 → Mm → Rs) (hk71 : ∀ (x2 x3 : Int32) (D : Mm) (H : Heap) (locs : List Loc) (ls : Array Slot), k71 x2 x3 D = some (r0, D') → va_P dd vwCl (wW Y G ad D) H → va_S (pA G ad) s.heap H locs → lv_has ls 6 [(0, .ref (ad th)), (2, .int x2), (3, .int x3)] → W p l e (headSpec wzX5_findSyncs rm_X5_findSyncs).room s m ([.ref (ad th)].toArray) below meth c H locs 0 0 (MQ below (Qi dd Y G ad .int r0 D') ([.ref (ad th)].toArray) s 0 0 (pA G ad)) (F0 m 71 ls [])), ∀ (x2 x3 x4 x5 : Int32) (D : Mm) (H : Heap) (locs : List Loc) (ls : Array Slot), P_X5_findSyncs_130 (gN G) F th k71 x2 x3 x4 x5 D = some (r0, D') → va_P dd vwCl (wW Y G ad D) H → va_S (pA G ad) s.heap H locs → lv_has ls 6 [(0, .ref (ad th)), (2, .int x2), (3, .int x3), (4, .int x4), (5, .int x5)] → W p l e (headSpec wzX5_findSyncs rm_X5_findSyncs).room s m ([.ref (ad th)].toArray) below meth c H locs 0 0 (MQ below (Qi dd Y G ad .int r0 D') ([.ref (ad th)].toArray) s 0 0 (pA G ad)) (F0 m 130 ls []) := by
    intro k71 hk71 x2 x3 x4 x5 D H locs ls h hP hS hl
    have h : ((if (x2 + x5) < 10 then (P_X5_findSyncs_177 (gN G) F th k71 x3 x4 D) else (if (nI ((gN G) (th + 2))) ≤ (D th 3) then (P_X5_findSyncs_177 (gN G) F th k71 x3 x4 D) else (if inB (D th 3) ((gN G) (th + 2)) = true then (P_X5_findSyncs_177 (gN G) F th k71 x3 x4 (up2 (up2 D (th + 2) (Int32.toNatClampNeg (D th 3)) ((8 * x3) + x5)) th 3 (((up2 D (th + 2) (Int32.toNatClampNeg (D th 3)) ((8 * x3) + x5)) th 3) + 1))) else none))) : Rs) = some (r0, D') := h
    refine lv_iload_n hx hb dX5_findSyncs_130 rfl (lv_at hl 1 rfl) ?_
    refine lv_iload hx hb dX5_findSyncs_131 (lv_at hl 4 rfl) ?_
    refine lv_iadd hx hb dX5_findSyncs_133 ?_
    refine lv_bipush (v := 10) hx hb dX5_findSyncs_134 (by decide) ?_
    refine lv_icmp_lt (tgt := 177) hx hb dX5_findSyncs_136 (by decide) (fun c3 => ?_) (fun c3 => ?_)
    · have h := x_t (show (x2 + x5) < 10 from c3) h
      exact L177 k71 hk71 x3 x4 D _ _ _ h hP hS (lv_sub hl [0, 2, 3] rfl)
    · have h := x_f (show ¬ ((x2 + x5) < 10) from c3) h
      refine lv_aload_n hx hb dX5_findSyncs_139 rfl (lv_at hl 0 rfl) ?_
      refine x_get hx hb ht0 u_X5 hown hK hP (k_th).1 (ce5 (k_th).2) rfl 3 (by decide) (ht0 _ m_FL_X5_32) rfl rfl dX5_findSyncs_140 ?_
      refine lv_aload_n hx hb dX5_findSyncs_143 rfl (lv_at hl 0 rfl) ?_
      refine x_get hx hb ht0 u_X5 hown hK hP (k_th).1 (ce5 (k_th).2) rfl 2 (by decide) (ht0 _ m_FL_X5_25) rfl (rfv p_th_2) dX5_findSyncs_144 ?_
      refine x_len hx hb hK hP k_th2 dX5_findSyncs_147 ?_
      refine lv_icmp_ge (tgt := 177) hx hb dX5_findSyncs_148 (by decide) (fun c4 => ?_) (fun c4 => ?_)
      · have h := x_t (show (nI ((gN G) (th + 2))) ≤ (D th 3) from c4) h
        exact L177 k71 hk71 x3 x4 D _ _ _ h hP hS (lv_sub hl [0, 2, 3] rfl)
      · have h := x_f (show ¬ ((nI ((gN G) (th + 2))) ≤ (D th 3)) from c4) h
        refine lv_aload_n hx hb dX5_findSyncs_151 rfl (lv_at hl 0 rfl) ?_
        refine x_get hx hb ht0 u_X5 hown hK hP (k_th).1 (ce5 (k_th).2) rfl 2 (by decide) (ht0 _ m_FL_X5_25) rfl (rfv p_th_2) dX5_findSyncs_152 ?_
        refine lv_aload_n hx hb dX5_findSyncs_155 rfl (lv_at hl 0 rfl) ?_
        refine x_get hx hb ht0 u_X5 hown hK hP (k_th).1 (ce5 (k_th).2) rfl 3 (by decide) (ht0 _ m_FL_X5_32) rfl rfl dX5_findSyncs_156 ?_
        refine lv_bipush (v := 8) hx hb dX5_findSyncs_159 (by decide) ?_
        refine lv_iload_n hx hb dX5_findSyncs_161 rfl (lv_at hl 2 rfl) ?_
        refine lv_imul hx hb dX5_findSyncs_162 ?_
        refine lv_iload hx hb dX5_findSyncs_163 (lv_at hl 4 rfl) ?_
        refine lv_iadd hx hb dX5_findSyncs_165 ?_
        obtain ⟨b5, h⟩ := x_if h
        refine x_ast hx hb hK ij hP hS k_th2 b5 dX5_findSyncs_166 (fun H locs hP hS => ?_)
        refine lv_aload_n hx hb dX5_findSyncs_167 rfl (lv_at hl 0 rfl) ?_
        refine lv_dup hx hb dX5_findSyncs_168 rfl ?_
        refine x_get hx hb ht0 u_X5 hown hK hP (k_th).1 (ce5 (k_th).2) rfl 3 (by decide) (ht0 _ m_FL_X5_32) rfl rfl dX5_findSyncs_169 ?_
        refine lv_iconst (v := 1) hx hb dX5_findSyncs_172 (by decide) ?_
        refine lv_iadd hx hb dX5_findSyncs_173 ?_
        refine x_put (ty := .int) hx hb ht0 u_X5 tyX5 tyX5_ok nmX5 hown hK ij hP hS (k_th).1 (ce5 (k_th).2) rfl 3 (by decide) (ht0 _ m_FL_X5_32) rfl rfl (by decide +kernel) rfl rfl (Nat.le_of_ble_eq_true rfl) (by rw [(k_th).2]; rfl) dX5_findSyncs_174 (fun H locs hP hS => ?_)
        exact L177 k71 hk71 x3 x4 (up2 (up2 D (th + 2) (Int32.toNatClampNeg (D th 3)) ((8 * x3) + x5)) th 3 (((up2 D (th + 2) (Int32.toNatClampNeg (D th 3)) ((8 * x3) + x5)) th 3) + 1)) _ _ _ h hP hS (lv_sub hl [0, 2, 3] rfl)
  have L105 : ∀ (k71 : Int32 → Int32 → Mm → Rs) (hk71 : ∀ (x2 x3 : Int32) (D : Mm) (H : Heap) (locs : List Loc) (ls : Array Slot), k71 x2 x3 D = some (r0, D') → va_P dd vwCl (wW Y G ad D) H → va_S (pA G ad) s.heap H locs → lv_has ls 6 [(0, .ref (ad th)), (2, .int x2), (3, .int x3)] → W p l e (headSpec wzX5_findSyncs rm_X5_findSyncs).room s m ([.ref (ad th)].toArray) below meth c H locs 0 0 (MQ below (Qi dd Y G ad .int r0 D') ([.ref (ad th)].toArray) s 0 0 (pA G ad)) (F0 m 71 ls [])), ∀ (n : Nat), ∀ (x2 x3 x4 x5 : Int32) (D : Mm) (H : Heap) (locs : List Loc) (ls : Array Slot), P_X5_findSyncs_105 (gN G) F th k71 n x2 x3 x4 x5 D = some (r0, D') → va_P dd vwCl (wW Y G ad D) H → va_S (pA G ad) s.heap H locs → lv_has ls 6 [(0, .ref (ad th)), (2, .int x2), (3, .int x3), (4, .int x4), (5, .int x5)] → W p l e (headSpec wzX5_findSyncs rm_X5_findSyncs).room s m ([.ref (ad th)].toArray) below meth c H locs 0 0 (MQ below (Qi dd Y G ad .int r0 D') ([.ref (ad th)].toArray) s 0 0 (pA G ad)) (F0 m 105 ls []) := by
    intro k71 hk71 n
    induction n with
    | zero =>
      intro x2 x3 x4 x5 D H locs ls h hP hS hl
      cases h
    | succ n ih =>
      intro x2 x3 x4 x5 D H locs ls h hP hS hl
      have h : ((if 8 ≤ x5 then (P_X5_findSyncs_130 (gN G) F th k71 x2 x3 x4 x5 D) else (if ((x4 <<< (x5 &&& 31)) &&& 128) = 0 then (P_X5_findSyncs_130 (gN G) F th k71 x2 x3 x4 x5 D) else (P_X5_findSyncs_105 (gN G) F th k71 n x2 x3 x4 (x5 + 1) D))) : Rs) = some (r0, D') := h
      refine lv_iload hx hb dX5_findSyncs_105 (lv_at hl 4 rfl) ?_
      refine lv_bipush (v := 8) hx hb dX5_findSyncs_107 (by decide) ?_
      refine lv_icmp_ge (tgt := 130) hx hb dX5_findSyncs_109 (by decide) (fun c6 => ?_) (fun c6 => ?_)
      · have h := x_t (show 8 ≤ x5 from c6) h
        exact L130 k71 hk71 x2 x3 x4 x5 D _ _ _ h hP hS (lv_sub hl [0, 1, 2, 3, 4] rfl)
      · have h := x_f (show ¬ (8 ≤ x5) from c6) h
        refine lv_iload hx hb dX5_findSyncs_112 (lv_at hl 3 rfl) ?_
        refine lv_iload hx hb dX5_findSyncs_114 (lv_at hl 4 rfl) ?_
        refine lv_ishl hx hb dX5_findSyncs_116 ?_
        refine lv_sipush (v := 128) hx hb dX5_findSyncs_117 (by decide) ?_
        refine lv_iand hx hb dX5_findSyncs_120 ?_
        refine lv_if_eq (tgt := 130) hx hb dX5_findSyncs_121 (by decide) (fun c7 => ?_) (fun c7 => ?_)
        · have h := x_t (show ((x4 <<< (x5 &&& 31)) &&& 128) = 0 from c7) h
          exact L130 k71 hk71 x2 x3 x4 x5 D _ _ _ h hP hS (lv_sub hl [0, 1, 2, 3, 4] rfl)
        · have h := x_f (show ¬ (((x4 <<< (x5 &&& 31)) &&& 128) = 0) from c7) h
          refine lv_iinc (v := x5 + 1) (lv' := [(5, .int (x5 + 1)), (0, .ref (ad th)), (2, .int x2), (3, .int x3), (4, .int x4)]) hx hb dX5_findSyncs_124 hl (k := 4) rfl rfl (by decide) rfl (fun ls hl => ?_)
          refine lv_goto (tgt := 105) hx hb dX5_findSyncs_127 (by decide) ?_
          exact ih x2 x3 x4 (x5 + 1) D _ _ _ h hP hS (lv_sub hl [1, 2, 3, 4, 0] rfl)
  have L88 : ∀ (k71 : Int32 → Int32 → Mm → Rs) (hk71 : ∀ (x2 x3 : Int32) (D : Mm) (H : Heap) (locs : List Loc) (ls : Array Slot), k71 x2 x3 D = some (r0, D') → va_P dd vwCl (wW Y G ad D) H → va_S (pA G ad) s.heap H locs → lv_has ls 6 [(0, .ref (ad th)), (2, .int x2), (3, .int x3)] → W p l e (headSpec wzX5_findSyncs rm_X5_findSyncs).room s m ([.ref (ad th)].toArray) below meth c H locs 0 0 (MQ below (Qi dd Y G ad .int r0 D') ([.ref (ad th)].toArray) s 0 0 (pA G ad)) (F0 m 71 ls [])), ∀ (x2 x3 x4 : Int32) (D : Mm) (H : Heap) (locs : List Loc) (ls : Array Slot), P_X5_findSyncs_88 (gN G) F th k71 x2 x3 x4 D = some (r0, D') → va_P dd vwCl (wW Y G ad D) H → va_S (pA G ad) s.heap H locs → lv_has ls 6 [(0, .ref (ad th)), (2, .int x2), (3, .int x3), (4, .int x4)] → W p l e (headSpec wzX5_findSyncs rm_X5_findSyncs).room s m ([.ref (ad th)].toArray) below meth c H locs 0 0 (MQ below (Qi dd Y G ad .int r0 D') ([.ref (ad th)].toArray) s 0 0 (pA G ad)) (F0 m 88 ls []) := by
    intro k71 hk71 x2 x3 x4 D H locs ls h hP hS hl
    have h : ((if x4 = 255 then (k71 (x2 + 8) (x3 + 1) D) else (P_X5_findSyncs_105 (gN G) F th k71 F x2 x3 x4 0 D)) : Rs) = some (r0, D') := h
    refine lv_iload hx hb dX5_findSyncs_88 (lv_at hl 3 rfl) ?_
    refine lv_sipush (v := 255) hx hb dX5_findSyncs_90 (by decide) ?_
    refine lv_icmp_ne (tgt := 102) hx hb dX5_findSyncs_93 (by decide) (fun c8 => ?_) (fun c8 => ?_)
    · have h := x_f (show ¬ (x4 = 255) from c8) h
      refine lv_iconst (v := 0) hx hb dX5_findSyncs_102 (by decide) ?_
      refine lv_istore (lv' := [(5, .int 0), (0, .ref (ad th)), (2, .int x2), (3, .int x3), (4, .int x4)]) hx hb dX5_findSyncs_103 hl (by decide) rfl (fun ls hl => ?_)
      exact L105 k71 hk71 F x2 x3 x4 0 D _ _ _ h hP hS (lv_sub hl [1, 2, 3, 4, 0] rfl)
    · have h := x_t (show x4 = 255 from c8) h
      refine lv_iinc (v := x2 + 8) (lv' := [(2, .int (x2 + 8)), (0, .ref (ad th)), (3, .int x3), (4, .int x4)]) hx hb dX5_findSyncs_96 hl (k := 1) rfl rfl (by decide) rfl (fun ls hl => ?_)
      refine lv_goto (tgt := 201) hx hb dX5_findSyncs_99 (by decide) ?_
      refine lv_iinc (v := x3 + 1) (lv' := [(3, .int (x3 + 1)), (2, .int (x2 + 8)), (0, .ref (ad th)), (4, .int x4)]) hx hb dX5_findSyncs_201 hl (k := 2) rfl rfl (by decide) rfl (fun ls hl => ?_)
      refine lv_goto (tgt := 71) hx hb dX5_findSyncs_204 (by decide) ?_
      exact hk71 (x2 + 8) (x3 + 1) D _ _ _ h hP hS (lv_sub hl [2, 1, 0] rfl)
  have L71 : ∀ (n : Nat), ∀ (x2 x3 : Int32) (D : Mm) (H : Heap) (locs : List Loc) (ls : Array Slot), P_X5_findSyncs_71 (gN G) F th n x2 x3 D = some (r0, D') → va_P dd vwCl (wW Y G ad D) H → va_S (pA G ad) s.heap H locs → lv_has ls 6 [(0, .ref (ad th)), (2, .int x2), (3, .int x3)] → W p l e (headSpec wzX5_findSyncs rm_X5_findSyncs).room s m ([.ref (ad th)].toArray) below meth c H locs 0 0 (MQ below (Qi dd Y G ad .int r0 D') ([.ref (ad th)].toArray) s 0 0 (pA G ad)) (F0 m 71 ls []) := by
    intro n
    induction n with
    | zero =>
      intro x2 x3 D H locs ls h hP hS hl
      cases h
    | succ n ih =>
      intro x2 x3 D H locs ls h hP hS hl
      have h : ((if (nI ((gN G) (th + 1))) ≤ x3 then (some ((up2 D th 4 1) th 3, up2 D th 4 1)) else (if inB x3 ((gN G) (th + 1)) = true then (P_X5_findSyncs_88 (gN G) F th (fun x2 x3 D => P_X5_findSyncs_71 (gN G) F th n x2 x3 D) x2 x3 (D (th + 1) (Int32.toNatClampNeg x3)) D) else none)) : Rs) = some (r0, D') := h
      refine lv_iload_n hx hb dX5_findSyncs_71 rfl (lv_at hl 2 rfl) ?_
      refine lv_aload_n hx hb dX5_findSyncs_72 rfl (lv_at hl 0 rfl) ?_
      refine x_get hx hb ht0 u_X5 hown hK hP (k_th).1 (ce5 (k_th).2) rfl 0 (by decide) (ht0 _ m_FL_X5_15) rfl (rfv p_th_0) dX5_findSyncs_73 ?_
      refine x_len hx hb hK hP k_th1 dX5_findSyncs_76 ?_
      refine lv_icmp_ge (tgt := 207) hx hb dX5_findSyncs_77 (by decide) (fun c9 => ?_) (fun c9 => ?_)
      · have h := x_t (show (nI ((gN G) (th + 1))) ≤ x3 from c9) h
        refine lv_aload_n hx hb dX5_findSyncs_207 rfl (lv_at hl 0 rfl) ?_
        refine lv_iconst (v := 1) hx hb dX5_findSyncs_208 (by decide) ?_
        refine x_put (ty := .boolean) hx hb ht0 u_X5 tyX5 tyX5_ok nmX5 hown hK ij hP hS (k_th).1 (ce5 (k_th).2) rfl 4 (by decide) (ht0 _ m_FL_X5_35) rfl rfl (by decide +kernel) rfl rfl (Nat.le_of_ble_eq_true rfl) (by rw [(k_th).2]; rfl) dX5_findSyncs_209 (fun H locs hP hS => ?_)
        refine lv_aload_n hx hb dX5_findSyncs_212 rfl (lv_at hl 0 rfl) ?_
        refine x_get hx hb ht0 u_X5 hown hK hP (k_th).1 (ce5 (k_th).2) rfl 3 (by decide) (ht0 _ m_FL_X5_32) rfl rfl dX5_findSyncs_213 ?_
        exact x_iret hx hb hr hlocks rfl hP hS h dX5_findSyncs_216
      · have h := x_f (show ¬ ((nI ((gN G) (th + 1))) ≤ x3) from c9) h
        refine lv_aload_n hx hb dX5_findSyncs_80 rfl (lv_at hl 0 rfl) ?_
        refine x_get hx hb ht0 u_X5 hown hK hP (k_th).1 (ce5 (k_th).2) rfl 0 (by decide) (ht0 _ m_FL_X5_15) rfl (rfv p_th_0) dX5_findSyncs_81 ?_
        refine lv_iload_n hx hb dX5_findSyncs_84 rfl (lv_at hl 2 rfl) ?_
        obtain ⟨b10, h⟩ := x_if h
        refine x_ald hx hb hK hP k_th1 b10 dX5_findSyncs_85 ?_
        refine lv_istore (lv' := [(4, .int (D (th + 1) (Int32.toNatClampNeg x3))), (0, .ref (ad th)), (2, .int x2), (3, .int x3)]) hx hb dX5_findSyncs_86 hl (by decide) rfl (fun ls hl => ?_)
        exact L88 (fun x2 x3 D => P_X5_findSyncs_71 (gN G) F th n x2 x3 D) ih x2 x3 (D (th + 1) (Int32.toNatClampNeg x3)) D _ _ _ h hP hS (lv_sub hl [1, 2, 3, 0] rfl)
  have L48 : ∀ (n : Nat), ∀ (x1 x2 : Int32) (D : Mm) (H : Heap) (locs : List Loc) (ls : Array Slot), P_X5_findSyncs_48 (gN G) F th n x1 x2 D = some (r0, D') → va_P dd vwCl (wW Y G ad D) H → va_S (pA G ad) s.heap H locs → lv_has ls 6 [(0, .ref (ad th)), (1, .int x1), (2, .int x2)] → W p l e (headSpec wzX5_findSyncs rm_X5_findSyncs).room s m ([.ref (ad th)].toArray) below meth c H locs 0 0 (MQ below (Qi dd Y G ad .int r0 D') ([.ref (ad th)].toArray) s 0 0 (pA G ad)) (F0 m 48 ls []) := by
    intro n
    induction n with
    | zero =>
      intro x1 x2 D H locs ls h hP hS hl
      cases h
    | succ n ih =>
      intro x1 x2 D H locs ls h hP hS hl
      have h : ((if 16 ≤ x2 then (P_X5_findSyncs_71 (gN G) F th F x2 0 D) else (if ((x1 >>> (x2 &&& 31)) &&& 1) = 1 then (P_X5_findSyncs_48 (gN G) F th n x1 (x2 + 1) D) else (P_X5_findSyncs_71 (gN G) F th F x2 0 D))) : Rs) = some (r0, D') := h
      refine lv_iload_n hx hb dX5_findSyncs_48 rfl (lv_at hl 2 rfl) ?_
      refine lv_bipush (v := 16) hx hb dX5_findSyncs_49 (by decide) ?_
      refine lv_icmp_ge (tgt := 69) hx hb dX5_findSyncs_51 (by decide) (fun c11 => ?_) (fun c11 => ?_)
      · have h := x_t (show 16 ≤ x2 from c11) h
        refine lv_iconst (v := 0) hx hb dX5_findSyncs_69 (by decide) ?_
        refine lv_istore_n (lv' := [(3, .int 0), (0, .ref (ad th)), (1, .int x1), (2, .int x2)]) hx hb dX5_findSyncs_70 rfl hl (by decide) rfl (fun ls hl => ?_)
        exact L71 F x2 0 D _ _ _ h hP hS (lv_sub hl [1, 3, 0] rfl)
      · have h := x_f (show ¬ (16 ≤ x2) from c11) h
        refine lv_iload_n hx hb dX5_findSyncs_54 rfl (lv_at hl 1 rfl) ?_
        refine lv_iload_n hx hb dX5_findSyncs_55 rfl (lv_at hl 2 rfl) ?_
        refine lv_ishr hx hb dX5_findSyncs_56 ?_
        refine lv_iconst (v := 1) hx hb dX5_findSyncs_57 (by decide) ?_
        refine lv_iand hx hb dX5_findSyncs_58 ?_
        refine lv_iconst (v := 1) hx hb dX5_findSyncs_59 (by decide) ?_
        refine lv_icmp_ne (tgt := 69) hx hb dX5_findSyncs_60 (by decide) (fun c12 => ?_) (fun c12 => ?_)
        · have h := x_f (show ¬ (((x1 >>> (x2 &&& 31)) &&& 1) = 1) from c12) h
          refine lv_iconst (v := 0) hx hb dX5_findSyncs_69 (by decide) ?_
          refine lv_istore_n (lv' := [(3, .int 0), (0, .ref (ad th)), (1, .int x1), (2, .int x2)]) hx hb dX5_findSyncs_70 rfl hl (by decide) rfl (fun ls hl => ?_)
          exact L71 F x2 0 D _ _ _ h hP hS (lv_sub hl [1, 3, 0] rfl)
        · have h := x_t (show ((x1 >>> (x2 &&& 31)) &&& 1) = 1 from c12) h
          refine lv_iinc (v := x2 + 1) (lv' := [(2, .int (x2 + 1)), (0, .ref (ad th)), (1, .int x1)]) hx hb dX5_findSyncs_63 hl (k := 2) rfl rfl (by decide) rfl (fun ls hl => ?_)
          refine lv_goto (tgt := 48) hx hb dX5_findSyncs_66 (by decide) ?_
          exact ih x1 (x2 + 1) D _ _ _ h hP hS (lv_sub hl [1, 2, 0] rfl)
  have L46 : ∀ (x1 : Int32) (D : Mm) (H : Heap) (locs : List Loc) (ls : Array Slot), P_X5_findSyncs_46 (gN G) F th x1 D = some (r0, D') → va_P dd vwCl (wW Y G ad D) H → va_S (pA G ad) s.heap H locs → lv_has ls 6 [(0, .ref (ad th)), (1, .int x1)] → W p l e (headSpec wzX5_findSyncs rm_X5_findSyncs).room s m ([.ref (ad th)].toArray) below meth c H locs 0 0 (MQ below (Qi dd Y G ad .int r0 D') ([.ref (ad th)].toArray) s 0 0 (pA G ad)) (F0 m 46 ls []) := by
    intro x1 D H locs ls h hP hS hl
    have h : ((P_X5_findSyncs_48 (gN G) F th F x1 0 D) : Rs) = some (r0, D') := h
    refine lv_iconst (v := 0) hx hb dX5_findSyncs_46 (by decide) ?_
    refine lv_istore_n (lv' := [(2, .int 0), (0, .ref (ad th)), (1, .int x1)]) hx hb dX5_findSyncs_47 rfl hl (by decide) rfl (fun ls hl => ?_)
    exact L48 F x1 0 D _ _ _ h hP hS (lv_sub hl [1, 2, 0] rfl)
  have hl := lv_entry ([.ref (ad th)]) (n := 6) (Nat.le_of_ble_eq_true rfl)
  rw [lg_entry_eq]
  generalize (lg_sl ([.ref (ad th)]) ++ List.replicate (6 - (lg_sl ([.ref (ad th)])).length) Slot.unset).toArray = ls at hl ⊢
  have hl : lv_has ls 6 [(0, .ref (ad th))] := hl
  have hP : va_P dd vwCl (wW Y G ad D0) s.heap := hP
  generalize D0 = D at h hP
  have h : ((if (D th 4) = 0 then (if inB ((nI ((gN G) (th + 1))) - 2) ((gN G) (th + 1)) = true then (if inB ((nI ((gN G) (th + 1))) - 1) ((gN G) (th + 1)) = true then (P_X5_findSyncs_46 (gN G) F th ((((up2 D th 3 0) (th + 1) (Int32.toNatClampNeg ((nI ((gN G) (th + 1))) - 2))) <<< (8 &&& 31)) ||| ((up2 D th 3 0) (th + 1) (Int32.toNatClampNeg ((nI ((gN G) (th + 1))) - 1)))) (up2 D th 3 0)) else none) else none) else (some (D th 3, D))) : Rs) = some (r0, D') := h
  refine lv_aload_n hx hb dX5_findSyncs_0 rfl (lv_at hl 0 rfl) ?_
  refine x_get hx hb ht0 u_X5 hown hK hP (k_th).1 (ce5 (k_th).2) rfl 4 (by decide) (ht0 _ m_FL_X5_35) rfl rfl dX5_findSyncs_1 ?_
  refine lv_if_eq (tgt := 12) hx hb dX5_findSyncs_4 (by decide) (fun c13 => ?_) (fun c13 => ?_)
  · have h := x_t (show (D th 4) = 0 from c13) h
    refine lv_aload_n hx hb dX5_findSyncs_12 rfl (lv_at hl 0 rfl) ?_
    refine lv_iconst (v := 0) hx hb dX5_findSyncs_13 (by decide) ?_
    refine x_put (ty := .int) hx hb ht0 u_X5 tyX5 tyX5_ok nmX5 hown hK ij hP hS (k_th).1 (ce5 (k_th).2) rfl 3 (by decide) (ht0 _ m_FL_X5_32) rfl rfl (by decide +kernel) rfl rfl (Nat.le_of_ble_eq_true rfl) (by rw [(k_th).2]; rfl) dX5_findSyncs_14 (fun H locs hP hS => ?_)
    refine lv_aload_n hx hb dX5_findSyncs_17 rfl (lv_at hl 0 rfl) ?_
    refine x_get hx hb ht0 u_X5 hown hK hP (k_th).1 (ce5 (k_th).2) rfl 0 (by decide) (ht0 _ m_FL_X5_15) rfl (rfv p_th_0) dX5_findSyncs_18 ?_
    refine lv_aload_n hx hb dX5_findSyncs_21 rfl (lv_at hl 0 rfl) ?_
    refine x_get hx hb ht0 u_X5 hown hK hP (k_th).1 (ce5 (k_th).2) rfl 0 (by decide) (ht0 _ m_FL_X5_15) rfl (rfv p_th_0) dX5_findSyncs_22 ?_
    refine x_len hx hb hK hP k_th1 dX5_findSyncs_25 ?_
    refine lv_iconst (v := 2) hx hb dX5_findSyncs_26 (by decide) ?_
    refine lv_isub hx hb dX5_findSyncs_27 ?_
    obtain ⟨b14, h⟩ := x_if h
    refine x_ald hx hb hK hP k_th1 b14 dX5_findSyncs_28 ?_
    refine lv_bipush (v := 8) hx hb dX5_findSyncs_29 (by decide) ?_
    refine lv_ishl hx hb dX5_findSyncs_31 ?_
    refine lv_aload_n hx hb dX5_findSyncs_32 rfl (lv_at hl 0 rfl) ?_
    refine x_get hx hb ht0 u_X5 hown hK hP (k_th).1 (ce5 (k_th).2) rfl 0 (by decide) (ht0 _ m_FL_X5_15) rfl (rfv p_th_0) dX5_findSyncs_33 ?_
    refine lv_aload_n hx hb dX5_findSyncs_36 rfl (lv_at hl 0 rfl) ?_
    refine x_get hx hb ht0 u_X5 hown hK hP (k_th).1 (ce5 (k_th).2) rfl 0 (by decide) (ht0 _ m_FL_X5_15) rfl (rfv p_th_0) dX5_findSyncs_37 ?_
    refine x_len hx hb hK hP k_th1 dX5_findSyncs_40 ?_
    refine lv_iconst (v := 1) hx hb dX5_findSyncs_41 (by decide) ?_
    refine lv_isub hx hb dX5_findSyncs_42 ?_
    obtain ⟨b15, h⟩ := x_if h
    refine x_ald hx hb hK hP k_th1 b15 dX5_findSyncs_43 ?_
    refine lv_ior hx hb dX5_findSyncs_44 ?_
    refine lv_istore_n (lv' := [(1, .int ((((up2 D th 3 0) (th + 1) (Int32.toNatClampNeg ((nI ((gN G) (th + 1))) - 2))) <<< (8 &&& 31)) ||| ((up2 D th 3 0) (th + 1) (Int32.toNatClampNeg ((nI ((gN G) (th + 1))) - 1))))), (0, .ref (ad th))]) hx hb dX5_findSyncs_45 rfl hl (by decide) rfl (fun ls hl => ?_)
    exact L46 ((((up2 D th 3 0) (th + 1) (Int32.toNatClampNeg ((nI ((gN G) (th + 1))) - 2))) <<< (8 &&& 31)) ||| ((up2 D th 3 0) (th + 1) (Int32.toNatClampNeg ((nI ((gN G) (th + 1))) - 1)))) (up2 D th 3 0) _ _ _ h hP hS (lv_sub hl [1, 0] rfl)
  · have h := x_f (show ¬ ((D th 4) = 0) from c13) h
    refine lv_aload_n hx hb dX5_findSyncs_7 rfl (lv_at hl 0 rfl) ?_
    refine x_get hx hb ht0 u_X5 hown hK hP (k_th).1 (ce5 (k_th).2) rfl 3 (by decide) (ht0 _ m_FL_X5_32) rfl rfl dX5_findSyncs_8 ?_
    exact x_iret hx hb hr hlocks rfl hP hS h dX5_findSyncs_11
abbrev rm_X5_startOf : Room := { frames := 0, cells := 0, slots := 0, locals := 0 }
set_option maxHeartbeats 4000000 in
set_option maxRecDepth 100000 in
theorem c_X5_startOf (l : Launch) (dd : Dd) (Y : Yc) (t : Ts3) (G : Gr) (ad : Nat → Nat) (ij : Ij G ad) (F : Nat) (th : Nat) (g_th : RingAt G th) (a1 : Int32) (D0 D' : Mm) (r0 : Int32) (h : P_X5_startOf (gN G) F th a1 D0 = some (r0, D')) : Met l yX5_startOf wzX5_startOf rm_X5_startOf (va_Pc [.ref (ad th), .int a1] (Wd dd Y t G ad D0)) (Qi dd Y G ad .int r0 D') 0 0 (pA G ad) := by
  refine Met.ofW (cc := cX5_startOf) (maxL := 2) (ret := (some .int)) (by decide) rfl ?_
  intro p e s m args below meth c s₁ B hml hv
  obtain ⟨rfl, hP, hK, hT⟩ := hv
  have hx := B.exec
  have hb := B.bytes
  have hr := B.returns
  have ht0 : ∀ w ∈ W0, w.before _ s = true := fun w h => atoms_spec (ws := wzX5_startOf) B.pre w (List.mem_cons_of_mem _ h)
  have hown : s.vm.findClass RX5 = some m.cls := findClass_of_methodNamed B.named
  have hlocks := B.notSynchronized
  have hS : va_S (pA G ad) s.heap s.heap [] := va_S.rf
  obtain ⟨k_th, p_th_0, p_th_2, k_th1, k_th2⟩ := id g_th
  have hl := lv_entry ([.ref (ad th), .int a1]) (n := 2) (Nat.le_of_ble_eq_true rfl)
  rw [lg_entry_eq]
  generalize (lg_sl ([.ref (ad th), .int a1]) ++ List.replicate (2 - (lg_sl ([.ref (ad th), .int a1])).length) Slot.unset).toArray = ls at hl ⊢
  have hl : lv_has ls 2 [(0, .ref (ad th)), (1, .int a1)] := hl
  have hP : va_P dd vwCl (wW Y G ad D0) s.heap := hP
  generalize D0 = D at h hP
  have h : ((if a1 < 0 then (some (0, D)) else (if (D th 3) ≤ a1 then (some (0, D)) else (if inB a1 ((gN G) (th + 2)) = true then (some (D (th + 2) (Int32.toNatClampNeg a1), D)) else none))) : Rs) = some (r0, D') := h
  refine lv_iload_n hx hb dX5_startOf_0 rfl (lv_at hl 1 rfl) ?_
  refine lv_if_lt (tgt := 21) hx hb dX5_startOf_1 (by decide) (fun c1 => ?_) (fun c1 => ?_)
  · have h := x_t (show a1 < 0 from c1) h
    refine lv_iconst (v := 0) hx hb dX5_startOf_21 (by decide) ?_
    exact x_iret hx hb hr hlocks rfl hP hS h dX5_startOf_22
  · have h := x_f (show ¬ (a1 < 0) from c1) h
    refine lv_iload_n hx hb dX5_startOf_4 rfl (lv_at hl 1 rfl) ?_
    refine lv_aload_n hx hb dX5_startOf_5 rfl (lv_at hl 0 rfl) ?_
    refine x_get hx hb ht0 u_X5 hown hK hP (k_th).1 (ce5 (k_th).2) rfl 3 (by decide) (ht0 _ m_FL_X5_32) rfl rfl dX5_startOf_6 ?_
    refine lv_icmp_ge (tgt := 21) hx hb dX5_startOf_9 (by decide) (fun c2 => ?_) (fun c2 => ?_)
    · have h := x_t (show (D th 3) ≤ a1 from c2) h
      refine lv_iconst (v := 0) hx hb dX5_startOf_21 (by decide) ?_
      exact x_iret hx hb hr hlocks rfl hP hS h dX5_startOf_22
    · have h := x_f (show ¬ ((D th 3) ≤ a1) from c2) h
      refine lv_aload_n hx hb dX5_startOf_12 rfl (lv_at hl 0 rfl) ?_
      refine x_get hx hb ht0 u_X5 hown hK hP (k_th).1 (ce5 (k_th).2) rfl 2 (by decide) (ht0 _ m_FL_X5_25) rfl (rfv p_th_2) dX5_startOf_13 ?_
      refine lv_iload_n hx hb dX5_startOf_16 rfl (lv_at hl 1 rfl) ?_
      obtain ⟨b3, h⟩ := x_if h
      refine x_ald hx hb hK hP k_th2 b3 dX5_startOf_17 ?_
      refine lv_goto (tgt := 22) hx hb dX5_startOf_18 (by decide) ?_
      exact x_iret hx hb hr hlocks rfl hP hS h dX5_startOf_22
abbrev rm_X5_codedAt : Room := { frames := 0, cells := 0, slots := 0, locals := 0 }
set_option maxHeartbeats 4000000 in
set_option maxRecDepth 100000 in
theorem c_X5_codedAt (l : Launch) (dd : Dd) (Y : Yc) (t : Ts3) (G : Gr) (ad : Nat → Nat) (ij : Ij G ad) (F : Nat) (th : Nat) (g_th : RingAt G th) (a1 : Int32) (D0 D' : Mm) (r0 : Int32) (h : P_X5_codedAt (gN G) F th a1 D0 = some (r0, D')) : Met l yX5_codedAt wzX5_codedAt rm_X5_codedAt (va_Pc [.ref (ad th), .int a1] (Wd dd Y t G ad D0)) (Qi dd Y G ad .int r0 D') 0 0 (pA G ad) := by
  refine Met.ofW (cc := cX5_codedAt) (maxL := 10) (ret := (some .int)) (by decide) rfl ?_
  intro p e s m args below meth c s₁ B hml hv
  obtain ⟨rfl, hP, hK, hT⟩ := hv
  have hx := B.exec
  have hb := B.bytes
  have hr := B.returns
  have ht0 : ∀ w ∈ W0, w.before _ s = true := fun w h => atoms_spec (ws := wzX5_codedAt) B.pre w (List.mem_cons_of_mem _ h)
  have hown : s.vm.findClass RX5 = some m.cls := findClass_of_methodNamed B.named
  have hlocks := B.notSynchronized
  have hS : va_S (pA G ad) s.heap s.heap [] := va_S.rf
  obtain ⟨k_th, p_th_0, p_th_2, k_th1, k_th2⟩ := id g_th
  have L101 : ∀ (x8 x9 : Int32) (D : Mm) (H : Heap) (locs : List Loc) (ls : Array Slot), P_X5_codedAt_101 (gN G) F th x8 x9 D = some (r0, D') → va_P dd vwCl (wW Y G ad D) H → va_S (pA G ad) s.heap H locs → lv_has ls 10 [(8, .int x8), (9, .int x9)] → W p l e (headSpec wzX5_codedAt rm_X5_codedAt).room s m ([.ref (ad th), .int a1].toArray) below meth c H locs 0 0 (MQ below (Qi dd Y G ad .int r0 D') ([.ref (ad th), .int a1].toArray) s 0 0 (pA G ad)) (F0 m 101 ls []) := by
    intro x8 x9 D H locs ls h hP hS hl
    have h : ((if x8 = (-1) then (some ((-1), D)) else (if x9 = (-1) then (some ((-1), D)) else (some ((x8 <<< (4 &&& 31)) ||| x9, D)))) : Rs) = some (r0, D') := h
    refine lv_iload hx hb dX5_codedAt_101 (lv_at hl 0 rfl) ?_
    refine lv_iconst (v := (-1)) hx hb dX5_codedAt_103 (by decide) ?_
    refine lv_icmp_eq (tgt := 113) hx hb dX5_codedAt_104 (by decide) (fun c1 => ?_) (fun c1 => ?_)
    · have h := x_t (show x8 = (-1) from c1) h
      refine lv_iconst (v := (-1)) hx hb dX5_codedAt_113 (by decide) ?_
      refine lv_goto (tgt := 124) hx hb dX5_codedAt_114 (by decide) ?_
      exact x_iret hx hb hr hlocks rfl hP hS h dX5_codedAt_124
    · have h := x_f (show ¬ (x8 = (-1)) from c1) h
      refine lv_iload hx hb dX5_codedAt_107 (lv_at hl 1 rfl) ?_
      refine lv_iconst (v := (-1)) hx hb dX5_codedAt_109 (by decide) ?_
      refine lv_icmp_ne (tgt := 117) hx hb dX5_codedAt_110 (by decide) (fun c2 => ?_) (fun c2 => ?_)
      · have h := x_f (show ¬ (x9 = (-1)) from c2) h
        refine lv_iload hx hb dX5_codedAt_117 (lv_at hl 0 rfl) ?_
        refine lv_iconst (v := 4) hx hb dX5_codedAt_119 (by decide) ?_
        refine lv_ishl hx hb dX5_codedAt_120 ?_
        refine lv_iload hx hb dX5_codedAt_121 (lv_at hl 1 rfl) ?_
        refine lv_ior hx hb dX5_codedAt_123 ?_
        exact x_iret hx hb hr hlocks rfl hP hS h dX5_codedAt_124
      · have h := x_t (show x9 = (-1) from c2) h
        refine lv_iconst (v := (-1)) hx hb dX5_codedAt_113 (by decide) ?_
        refine lv_goto (tgt := 124) hx hb dX5_codedAt_114 (by decide) ?_
        exact x_iret hx hb hr hlocks rfl hP hS h dX5_codedAt_124
  have L90 : ∀ (x7 x8 : Int32) (D : Mm) (H : Heap) (locs : List Loc) (ls : Array Slot), P_X5_codedAt_90 (gN G) F th x7 x8 D = some (r0, D') → va_P dd vwCl (wW Y G ad D) H → va_S (pA G ad) s.heap H locs → lv_has ls 10 [(7, .int x7), (8, .int x8)] → W p l e (headSpec wzX5_codedAt rm_X5_codedAt).room s m ([.ref (ad th), .int a1].toArray) below meth c H locs 0 0 (MQ below (Qi dd Y G ad .int r0 D') ([.ref (ad th), .int a1].toArray) s 0 0 (pA G ad)) (F0 m 90 ls []) := by
    intro x7 x8 D H locs ls h hP hS hl
    have h : ((if inB (x7 &&& 31) 32 = true then (P_X5_codedAt_101 (gN G) F th x8 (tHALVES (Int32.toNatClampNeg (x7 &&& 31))) D) else none) : Rs) = some (r0, D') := h
    refine va_getsN hx hb hT.2.2.1 hS hown (va_Nw.use rfl hT.2.2.2.2.2.2.2.1) (fun _ h9 => h9) dX5_codedAt_90 ?_
    refine lv_iload hx hb dX5_codedAt_93 (lv_at hl 0 rfl) ?_
    refine lv_bipush (v := 31) hx hb dX5_codedAt_95 (by decide) ?_
    refine lv_iand hx hb dX5_codedAt_97 ?_
    obtain ⟨b3, h⟩ := x_if h
    refine va_ti hx hb hT.2.2.2.1 hS (inB_in b3) rfl dX5_codedAt_98 ?_
    refine lv_istore (lv' := [(9, .int (tHALVES (Int32.toNatClampNeg (x7 &&& 31)))), (7, .int x7), (8, .int x8)]) hx hb dX5_codedAt_99 hl (by decide) rfl (fun ls hl => ?_)
    exact L101 x8 (tHALVES (Int32.toNatClampNeg (x7 &&& 31))) D _ _ _ h hP hS (lv_sub hl [2, 0] rfl)
  have L80 : ∀ (x7 : Int32) (D : Mm) (H : Heap) (locs : List Loc) (ls : Array Slot), P_X5_codedAt_80 (gN G) F th x7 D = some (r0, D') → va_P dd vwCl (wW Y G ad D) H → va_S (pA G ad) s.heap H locs → lv_has ls 10 [(7, .int x7)] → W p l e (headSpec wzX5_codedAt rm_X5_codedAt).room s m ([.ref (ad th), .int a1].toArray) below meth c H locs 0 0 (MQ below (Qi dd Y G ad .int r0 D') ([.ref (ad th), .int a1].toArray) s 0 0 (pA G ad)) (F0 m 80 ls []) := by
    intro x7 D H locs ls h hP hS hl
    have h : ((if inB (x7 >>> (5 &&& 31)) 32 = true then (P_X5_codedAt_90 (gN G) F th x7 (tHALVES (Int32.toNatClampNeg (x7 >>> (5 &&& 31)))) D) else none) : Rs) = some (r0, D') := h
    refine va_getsN hx hb hT.2.2.1 hS hown (va_Nw.use rfl hT.2.2.2.2.2.2.2.1) (fun _ h9 => h9) dX5_codedAt_80 ?_
    refine lv_iload hx hb dX5_codedAt_83 (lv_at hl 0 rfl) ?_
    refine lv_iconst (v := 5) hx hb dX5_codedAt_85 (by decide) ?_
    refine lv_ishr hx hb dX5_codedAt_86 ?_
    obtain ⟨b4, h⟩ := x_if h
    refine va_ti hx hb hT.2.2.2.1 hS (inB_in b4) rfl dX5_codedAt_87 ?_
    refine lv_istore (lv' := [(8, .int (tHALVES (Int32.toNatClampNeg (x7 >>> (5 &&& 31))))), (7, .int x7)]) hx hb dX5_codedAt_88 hl (by decide) rfl (fun ls hl => ?_)
    exact L90 x7 (tHALVES (Int32.toNatClampNeg (x7 >>> (5 &&& 31)))) D _ _ _ h hP hS (lv_sub hl [1, 0] rfl)
  have L64 : ∀ (x2 x6 : Int32) (D : Mm) (H : Heap) (locs : List Loc) (ls : Array Slot), P_X5_codedAt_64 (gN G) F th x2 x6 D = some (r0, D') → va_P dd vwCl (wW Y G ad D) H → va_S (pA G ad) s.heap H locs → lv_has ls 10 [(2, .int x2), (6, .int x6)] → W p l e (headSpec wzX5_codedAt rm_X5_codedAt).room s m ([.ref (ad th), .int a1].toArray) below meth c H locs 0 0 (MQ below (Qi dd Y G ad .int r0 D') ([.ref (ad th), .int a1].toArray) s 0 0 (pA G ad)) (F0 m 64 ls []) := by
    intro x2 x6 D H locs ls h hP hS hl
    have h : ((P_X5_codedAt_80 (gN G) F th ((x6 >>> ((14 - (jrem x2 8)) &&& 31)) &&& 1023) D) : Rs) = some (r0, D') := h
    refine lv_iload hx hb dX5_codedAt_64 (lv_at hl 1 rfl) ?_
    refine lv_bipush (v := 14) hx hb dX5_codedAt_66 (by decide) ?_
    refine lv_iload_n hx hb dX5_codedAt_68 rfl (lv_at hl 0 rfl) ?_
    refine lv_bipush (v := 8) hx hb dX5_codedAt_69 (by decide) ?_
    refine lv_irem hx hb dX5_codedAt_71 (by decide) ?_
    refine lv_isub hx hb dX5_codedAt_72 ?_
    refine lv_ishr hx hb dX5_codedAt_73 ?_
    refine lv_sipush (v := 1023) hx hb dX5_codedAt_74 (by decide) ?_
    refine lv_iand hx hb dX5_codedAt_77 ?_
    refine lv_istore (lv' := [(7, .int ((x6 >>> ((14 - (jrem x2 8)) &&& 31)) &&& 1023)), (2, .int x2), (6, .int x6)]) hx hb dX5_codedAt_78 hl (by decide) rfl (fun ls hl => ?_)
    exact L80 ((x6 >>> ((14 - (jrem x2 8)) &&& 31)) &&& 1023) D _ _ _ h hP hS (lv_sub hl [0] rfl)
  have L34 : ∀ (x2 x3 x4 x5 : Int32) (D : Mm) (H : Heap) (locs : List Loc) (ls : Array Slot), P_X5_codedAt_34 (gN G) F th x2 x3 x4 x5 D = some (r0, D') → va_P dd vwCl (wW Y G ad D) H → va_S (pA G ad) s.heap H locs → lv_has ls 10 [(0, .ref (ad th)), (2, .int x2), (3, .int x3), (4, .int x4), (5, .int x5)] → W p l e (headSpec wzX5_codedAt rm_X5_codedAt).room s m ([.ref (ad th), .int a1].toArray) below meth c H locs 0 0 (MQ below (Qi dd Y G ad .int r0 D') ([.ref (ad th), .int a1].toArray) s 0 0 (pA G ad)) (F0 m 34 ls []) := by
    intro x2 x3 x4 x5 D H locs ls h hP hS hl
    have h : ((if inB x3 ((gN G) (th + 1)) = true then (if inB x4 ((gN G) (th + 1)) = true then (if inB x5 ((gN G) (th + 1)) = true then (P_X5_codedAt_64 (gN G) F th x2 ((((D (th + 1) (Int32.toNatClampNeg x3)) <<< (16 &&& 31)) ||| ((D (th + 1) (Int32.toNatClampNeg x4)) <<< (8 &&& 31))) ||| (D (th + 1) (Int32.toNatClampNeg x5))) D) else none) else none) else none) : Rs) = some (r0, D') := h
    refine lv_aload_n hx hb dX5_codedAt_34 rfl (lv_at hl 0 rfl) ?_
    refine x_get hx hb ht0 u_X5 hown hK hP (k_th).1 (ce5 (k_th).2) rfl 0 (by decide) (ht0 _ m_FL_X5_15) rfl (rfv p_th_0) dX5_codedAt_35 ?_
    refine lv_iload_n hx hb dX5_codedAt_38 rfl (lv_at hl 2 rfl) ?_
    obtain ⟨b5, h⟩ := x_if h
    refine x_ald hx hb hK hP k_th1 b5 dX5_codedAt_39 ?_
    refine lv_bipush (v := 16) hx hb dX5_codedAt_40 (by decide) ?_
    refine lv_ishl hx hb dX5_codedAt_42 ?_
    refine lv_aload_n hx hb dX5_codedAt_43 rfl (lv_at hl 0 rfl) ?_
    refine x_get hx hb ht0 u_X5 hown hK hP (k_th).1 (ce5 (k_th).2) rfl 0 (by decide) (ht0 _ m_FL_X5_15) rfl (rfv p_th_0) dX5_codedAt_44 ?_
    refine lv_iload hx hb dX5_codedAt_47 (lv_at hl 3 rfl) ?_
    obtain ⟨b6, h⟩ := x_if h
    refine x_ald hx hb hK hP k_th1 b6 dX5_codedAt_49 ?_
    refine lv_bipush (v := 8) hx hb dX5_codedAt_50 (by decide) ?_
    refine lv_ishl hx hb dX5_codedAt_52 ?_
    refine lv_ior hx hb dX5_codedAt_53 ?_
    refine lv_aload_n hx hb dX5_codedAt_54 rfl (lv_at hl 0 rfl) ?_
    refine x_get hx hb ht0 u_X5 hown hK hP (k_th).1 (ce5 (k_th).2) rfl 0 (by decide) (ht0 _ m_FL_X5_15) rfl (rfv p_th_0) dX5_codedAt_55 ?_
    refine lv_iload hx hb dX5_codedAt_58 (lv_at hl 4 rfl) ?_
    obtain ⟨b7, h⟩ := x_if h
    refine x_ald hx hb hK hP k_th1 b7 dX5_codedAt_60 ?_
    refine lv_ior hx hb dX5_codedAt_61 ?_
    refine lv_istore (lv' := [(6, .int ((((D (th + 1) (Int32.toNatClampNeg x3)) <<< (16 &&& 31)) ||| ((D (th + 1) (Int32.toNatClampNeg x4)) <<< (8 &&& 31))) ||| (D (th + 1) (Int32.toNatClampNeg x5)))), (0, .ref (ad th)), (2, .int x2), (3, .int x3), (4, .int x4), (5, .int x5)]) hx hb dX5_codedAt_62 hl (by decide) rfl (fun ls hl => ?_)
    exact L64 x2 ((((D (th + 1) (Int32.toNatClampNeg x3)) <<< (16 &&& 31)) ||| ((D (th + 1) (Int32.toNatClampNeg x4)) <<< (8 &&& 31))) ||| (D (th + 1) (Int32.toNatClampNeg x5))) D _ _ _ h hP hS (lv_sub hl [2, 0] rfl)
  have L23 : ∀ (x2 x3 x4 : Int32) (D : Mm) (H : Heap) (locs : List Loc) (ls : Array Slot), P_X5_codedAt_23 (gN G) F th x2 x3 x4 D = some (r0, D') → va_P dd vwCl (wW Y G ad D) H → va_S (pA G ad) s.heap H locs → lv_has ls 10 [(0, .ref (ad th)), (2, .int x2), (3, .int x3), (4, .int x4)] → W p l e (headSpec wzX5_codedAt rm_X5_codedAt).room s m ([.ref (ad th), .int a1].toArray) below meth c H locs 0 0 (MQ below (Qi dd Y G ad .int r0 D') ([.ref (ad th), .int a1].toArray) s 0 0 (pA G ad)) (F0 m 23 ls []) := by
    intro x2 x3 x4 D H locs ls h hP hS hl
    have h : ((if nI ((gN G) (th + 1)) = 0 then none else (P_X5_codedAt_34 (gN G) F th x2 x3 x4 (jrem (x3 + 2) (nI ((gN G) (th + 1)))) D)) : Rs) = some (r0, D') := h
    refine lv_iload_n hx hb dX5_codedAt_23 rfl (lv_at hl 2 rfl) ?_
    refine lv_iconst (v := 2) hx hb dX5_codedAt_24 (by decide) ?_
    refine lv_iadd hx hb dX5_codedAt_25 ?_
    refine lv_aload_n hx hb dX5_codedAt_26 rfl (lv_at hl 0 rfl) ?_
    refine x_get hx hb ht0 u_X5 hown hK hP (k_th).1 (ce5 (k_th).2) rfl 0 (by decide) (ht0 _ m_FL_X5_15) rfl (rfv p_th_0) dX5_codedAt_27 ?_
    refine x_len hx hb hK hP k_th1 dX5_codedAt_30 ?_
    obtain ⟨z8, h⟩ := x_ifn h
    refine lv_irem hx hb dX5_codedAt_31 z8 ?_
    refine lv_istore (lv' := [(5, .int (jrem (x3 + 2) (nI ((gN G) (th + 1))))), (0, .ref (ad th)), (2, .int x2), (3, .int x3), (4, .int x4)]) hx hb dX5_codedAt_32 hl (by decide) rfl (fun ls hl => ?_)
    exact L34 x2 x3 x4 (jrem (x3 + 2) (nI ((gN G) (th + 1)))) D _ _ _ h hP hS (lv_sub hl [1, 2, 3, 4, 0] rfl)
  have hl := lv_entry ([.ref (ad th), .int a1]) (n := 10) (Nat.le_of_ble_eq_true rfl)
  rw [lg_entry_eq]
  generalize (lg_sl ([.ref (ad th), .int a1]) ++ List.replicate (10 - (lg_sl ([.ref (ad th), .int a1])).length) Slot.unset).toArray = ls at hl ⊢
  have hl : lv_has ls 10 [(0, .ref (ad th)), (1, .int a1)] := hl
  have hP : va_P dd vwCl (wW Y G ad D0) s.heap := hP
  generalize D0 = D at h hP
  have h : ((if D th 1 = 0 then none else (if nI ((gN G) (th + 1)) = 0 then none else (P_X5_codedAt_23 (gN G) F th (jrem a1 (D th 1)) ((jrem a1 (D th 1)) / 8) (jrem (((jrem a1 (D th 1)) / 8) + 1) (nI ((gN G) (th + 1)))) D))) : Rs) = some (r0, D') := h
  refine lv_iload_n hx hb dX5_codedAt_0 rfl (lv_at hl 1 rfl) ?_
  refine lv_aload_n hx hb dX5_codedAt_1 rfl (lv_at hl 0 rfl) ?_
  refine x_get hx hb ht0 u_X5 hown hK hP (k_th).1 (ce5 (k_th).2) rfl 1 (by decide) (ht0 _ m_FL_X5_21) rfl rfl dX5_codedAt_2 ?_
  obtain ⟨z9, h⟩ := x_ifn h
  refine lv_irem hx hb dX5_codedAt_5 z9 ?_
  refine lv_istore_n (lv' := [(2, .int (jrem a1 (D th 1))), (0, .ref (ad th)), (1, .int a1)]) hx hb dX5_codedAt_6 rfl hl (by decide) rfl (fun ls hl => ?_)
  refine lv_iload_n hx hb dX5_codedAt_7 rfl (lv_at hl 0 rfl) ?_
  refine lv_bipush (v := 8) hx hb dX5_codedAt_8 (by decide) ?_
  refine lv_idiv hx hb dX5_codedAt_10 (by decide) ?_
  refine lv_istore_n (lv' := [(3, .int ((jrem a1 (D th 1)) / 8)), (2, .int (jrem a1 (D th 1))), (0, .ref (ad th)), (1, .int a1)]) hx hb dX5_codedAt_11 rfl hl (by decide) rfl (fun ls hl => ?_)
  refine lv_iload_n hx hb dX5_codedAt_12 rfl (lv_at hl 0 rfl) ?_
  refine lv_iconst (v := 1) hx hb dX5_codedAt_13 (by decide) ?_
  refine lv_iadd hx hb dX5_codedAt_14 ?_
  refine lv_aload_n hx hb dX5_codedAt_15 rfl (lv_at hl 2 rfl) ?_
  refine x_get hx hb ht0 u_X5 hown hK hP (k_th).1 (ce5 (k_th).2) rfl 0 (by decide) (ht0 _ m_FL_X5_15) rfl (rfv p_th_0) dX5_codedAt_16 ?_
  refine x_len hx hb hK hP k_th1 dX5_codedAt_19 ?_
  obtain ⟨z10, h⟩ := x_ifn h
  refine lv_irem hx hb dX5_codedAt_20 z10 ?_
  refine lv_istore (lv' := [(4, .int (jrem (((jrem a1 (D th 1)) / 8) + 1) (nI ((gN G) (th + 1))))), (3, .int ((jrem a1 (D th 1)) / 8)), (2, .int (jrem a1 (D th 1))), (0, .ref (ad th)), (1, .int a1)]) hx hb dX5_codedAt_21 hl (by decide) rfl (fun ls hl => ?_)
  exact L23 (jrem a1 (D th 1)) ((jrem a1 (D th 1)) / 8) (jrem (((jrem a1 (D th 1)) / 8) + 1) (nI ((gN G) (th + 1)))) D _ _ _ h hP hS (lv_sub hl [3, 2, 1, 0] rfl)
abbrev rm_X0_headerError : Room := { frames := 1, cells := 0, slots := 0, locals := 29 }
set_option maxHeartbeats 4000000 in
set_option maxRecDepth 100000 in
theorem c_X0_headerError (l : Launch) (dd : Dd) (Y : Yc) (t : Ts3) (ad : Nat → Nat) (ij : Ij XG ad) (F : Nat) (u1 : Nat) (g_u1 : RingAt XG u1) (a2 a3 a4 : Int32) (D0 D' : Mm) (r0 : Int32) (h : P_X0_headerError (gN XG) F u1 a2 a3 a4 D0 = some (r0, D')) : Met l yX0_headerError wzX0_headerError rm_X0_headerError (va_Pc [.ref (ad 2), .ref (ad u1), .int a2, .int a3, .int a4] (Wd dd Y t XG ad D0)) (Qi dd Y XG ad .int r0 D') 0 0 (pA XG ad) := by
  refine Met.ofW (cc := cX0_headerError) (maxL := 8) (ret := (some .int)) (by decide) rfl ?_
  intro p e s m args below meth c s₁ B hml hv
  obtain ⟨rfl, hP, hK, hT⟩ := hv
  have hx := B.exec
  have hb := B.bytes
  have hr := B.returns
  have ht0 : ∀ w ∈ W0, w.before _ s = true := fun w h => atoms_spec (ws := wzX0_headerError) B.pre w (List.mem_cons_of_mem _ h)
  have hown : s.vm.findClass RX0 = some m.cls := findClass_of_methodNamed B.named
  have hlocks := B.notSynchronized
  have hS : va_S (pA XG ad) s.heap s.heap [] := va_S.rf
  obtain ⟨k_u1, p_u1_0, p_u1_2, k_u11, k_u12⟩ := id g_u1
  have hl := lv_entry ([.ref (ad 2), .ref (ad u1), .int a2, .int a3, .int a4]) (n := 8) (Nat.le_of_ble_eq_true rfl)
  rw [lg_entry_eq]
  generalize (lg_sl ([.ref (ad 2), .ref (ad u1), .int a2, .int a3, .int a4]) ++ List.replicate (8 - (lg_sl ([.ref (ad 2), .ref (ad u1), .int a2, .int a3, .int a4])).length) Slot.unset).toArray = ls at hl ⊢
  have hl : lv_has ls 8 [(0, .ref (ad 2)), (1, .ref (ad u1)), (2, .int a2), (3, .int a3), (4, .int a4)] := hl
  have hP : va_P dd vwCl (wW Y XG ad D0) s.heap := hP
  generalize D0 = D at h hP
  have h : ((bi (P_X5_codedAt (gN XG) F u1 a2 D) (fun r1 D1 => if r1 = 8 then (bi (P_X5_codedAt (gN XG) F u1 (a2 + 20) D1) (fun r3 D3 => if r3 = a4 then (bi (P_X5_codedAt (gN XG) F u1 (a2 + 30) D3) (fun r5 D5 => if r5 = a3 then (bi (P_X5_codedAt (gN XG) F u1 (a2 + 10) D5) (fun r7 D7 => bi (P_X5_codedAt (gN XG) F u1 (a2 + 40) D7) (fun r8 D8 => bi (P_X5_codedAt (gN XG) F u1 (a2 + 50) D8) (fun r9 D9 => if r7 = (-1) then (some (20, D9)) else (if r8 = (-1) then (some (20, D9)) else (if r9 = (-1) then (some (20, D9)) else (if r7 = (((a4 ^^^ a3) ^^^ r8) ^^^ r9) then (if ((r8 <<< (8 &&& 31)) ||| r9) = (D9 2 3) then (some (0, D9)) else (some (29, D9))) else (some (27, D9))))))))) else (some (20, D5)))) else (some (20, D3)))) else (some (20, D1)))) : Rs) = some (r0, D') := h
  refine lv_aload_n hx hb dX0_headerError_0 rfl (lv_at hl 1 rfl) ?_
  refine lv_iload_n hx hb dX0_headerError_1 rfl (lv_at hl 2 rfl) ?_
  obtain ⟨r1, D1, hc1, h⟩ := bi_some h
  refine x_callVi (As := [.int a2]) ⟨hx, hb, hml, hown, ht0⟩ hK hT hP hS (c_X5_codedAt l dd Y t XG ad ij F u1 g_u1 a2 _ _ _ hc1) m_ML_X0_112 sv_X5_codedAt hd_X5_codedAt rfl rfl ⟨Nat.le_of_ble_eq_true rfl, Nat.le_of_ble_eq_true rfl⟩ (k_u1).1 (ce5 (k_u1).2) rfl rfl hl.1 rfl (Nat.le_of_ble_eq_true rfl) dX0_headerError_2 ⟨Nat.zero_le _, Nat.zero_le _⟩ (fun H locs hn_r1 hP hS => ?_)
  refine lv_bipush (v := 8) hx hb dX0_headerError_5 (by decide) ?_
  refine lv_icmp_ne (tgt := 35) hx hb dX0_headerError_7 (by decide) (fun c2 => ?_) (fun c2 => ?_)
  · have h := x_f (show ¬ (r1 = 8) from c2) h
    refine lv_bipush (v := 20) hx hb dX0_headerError_35 (by decide) ?_
    exact x_iret hx hb hr hlocks rfl hP hS h dX0_headerError_37
  · have h := x_t (show r1 = 8 from c2) h
    refine lv_aload_n hx hb dX0_headerError_10 rfl (lv_at hl 1 rfl) ?_
    refine lv_iload_n hx hb dX0_headerError_11 rfl (lv_at hl 2 rfl) ?_
    refine lv_bipush (v := 20) hx hb dX0_headerError_12 (by decide) ?_
    refine lv_iadd hx hb dX0_headerError_14 ?_
    obtain ⟨r3, D3, hc3, h⟩ := bi_some h
    refine x_callVi (As := [.int (a2 + 20)]) ⟨hx, hb, hml, hown, ht0⟩ hK hT hP hS (c_X5_codedAt l dd Y t XG ad ij F u1 g_u1 (a2 + 20) _ _ _ hc3) m_ML_X0_112 sv_X5_codedAt hd_X5_codedAt rfl rfl ⟨Nat.le_of_ble_eq_true rfl, Nat.le_of_ble_eq_true rfl⟩ (k_u1).1 (ce5 (k_u1).2) rfl rfl hl.1 rfl (Nat.le_of_ble_eq_true rfl) dX0_headerError_15 ⟨Nat.zero_le _, Nat.zero_le _⟩ (fun H locs hn_r3 hP hS => ?_)
    refine lv_iload hx hb dX0_headerError_18 (lv_at hl 4 rfl) ?_
    refine lv_icmp_ne (tgt := 35) hx hb dX0_headerError_20 (by decide) (fun c4 => ?_) (fun c4 => ?_)
    · have h := x_f (show ¬ (r3 = a4) from c4) h
      refine lv_bipush (v := 20) hx hb dX0_headerError_35 (by decide) ?_
      exact x_iret hx hb hr hlocks rfl hP hS h dX0_headerError_37
    · have h := x_t (show r3 = a4 from c4) h
      refine lv_aload_n hx hb dX0_headerError_23 rfl (lv_at hl 1 rfl) ?_
      refine lv_iload_n hx hb dX0_headerError_24 rfl (lv_at hl 2 rfl) ?_
      refine lv_bipush (v := 30) hx hb dX0_headerError_25 (by decide) ?_
      refine lv_iadd hx hb dX0_headerError_27 ?_
      obtain ⟨r5, D5, hc5, h⟩ := bi_some h
      refine x_callVi (As := [.int (a2 + 30)]) ⟨hx, hb, hml, hown, ht0⟩ hK hT hP hS (c_X5_codedAt l dd Y t XG ad ij F u1 g_u1 (a2 + 30) _ _ _ hc5) m_ML_X0_112 sv_X5_codedAt hd_X5_codedAt rfl rfl ⟨Nat.le_of_ble_eq_true rfl, Nat.le_of_ble_eq_true rfl⟩ (k_u1).1 (ce5 (k_u1).2) rfl rfl hl.1 rfl (Nat.le_of_ble_eq_true rfl) dX0_headerError_28 ⟨Nat.zero_le _, Nat.zero_le _⟩ (fun H locs hn_r5 hP hS => ?_)
      refine lv_iload_n hx hb dX0_headerError_31 rfl (lv_at hl 3 rfl) ?_
      refine lv_icmp_eq (tgt := 38) hx hb dX0_headerError_32 (by decide) (fun c6 => ?_) (fun c6 => ?_)
      · have h := x_t (show r5 = a3 from c6) h
        refine lv_aload_n hx hb dX0_headerError_38 rfl (lv_at hl 1 rfl) ?_
        refine lv_iload_n hx hb dX0_headerError_39 rfl (lv_at hl 2 rfl) ?_
        refine lv_bipush (v := 10) hx hb dX0_headerError_40 (by decide) ?_
        refine lv_iadd hx hb dX0_headerError_42 ?_
        obtain ⟨r7, D7, hc7, h⟩ := bi_some h
        refine x_callVi (As := [.int (a2 + 10)]) ⟨hx, hb, hml, hown, ht0⟩ hK hT hP hS (c_X5_codedAt l dd Y t XG ad ij F u1 g_u1 (a2 + 10) _ _ _ hc7) m_ML_X0_112 sv_X5_codedAt hd_X5_codedAt rfl rfl ⟨Nat.le_of_ble_eq_true rfl, Nat.le_of_ble_eq_true rfl⟩ (k_u1).1 (ce5 (k_u1).2) rfl rfl hl.1 rfl (Nat.le_of_ble_eq_true rfl) dX0_headerError_43 ⟨Nat.zero_le _, Nat.zero_le _⟩ (fun H locs hn_r7 hP hS => ?_)
        refine lv_istore (lv' := [(5, .int r7), (0, .ref (ad 2)), (1, .ref (ad u1)), (2, .int a2), (3, .int a3), (4, .int a4)]) hx hb dX0_headerError_46 hl (by decide) rfl (fun ls hl => ?_)
        refine lv_aload_n hx hb dX0_headerError_48 rfl (lv_at hl 2 rfl) ?_
        refine lv_iload_n hx hb dX0_headerError_49 rfl (lv_at hl 3 rfl) ?_
        refine lv_bipush (v := 40) hx hb dX0_headerError_50 (by decide) ?_
        refine lv_iadd hx hb dX0_headerError_52 ?_
        obtain ⟨r8, D8, hc8, h⟩ := bi_some h
        refine x_callVi (As := [.int (a2 + 40)]) ⟨hx, hb, hml, hown, ht0⟩ hK hT hP hS (c_X5_codedAt l dd Y t XG ad ij F u1 g_u1 (a2 + 40) _ _ _ hc8) m_ML_X0_112 sv_X5_codedAt hd_X5_codedAt rfl rfl ⟨Nat.le_of_ble_eq_true rfl, Nat.le_of_ble_eq_true rfl⟩ (k_u1).1 (ce5 (k_u1).2) rfl rfl hl.1 rfl (Nat.le_of_ble_eq_true rfl) dX0_headerError_53 ⟨Nat.zero_le _, Nat.zero_le _⟩ (fun H locs hn_r8 hP hS => ?_)
        refine lv_istore (lv' := [(6, .int r8), (5, .int r7), (0, .ref (ad 2)), (1, .ref (ad u1)), (2, .int a2), (3, .int a3), (4, .int a4)]) hx hb dX0_headerError_56 hl (by decide) rfl (fun ls hl => ?_)
        refine lv_aload_n hx hb dX0_headerError_58 rfl (lv_at hl 3 rfl) ?_
        refine lv_iload_n hx hb dX0_headerError_59 rfl (lv_at hl 4 rfl) ?_
        refine lv_bipush (v := 50) hx hb dX0_headerError_60 (by decide) ?_
        refine lv_iadd hx hb dX0_headerError_62 ?_
        obtain ⟨r9, D9, hc9, h⟩ := bi_some h
        refine x_callVi (As := [.int (a2 + 50)]) ⟨hx, hb, hml, hown, ht0⟩ hK hT hP hS (c_X5_codedAt l dd Y t XG ad ij F u1 g_u1 (a2 + 50) _ _ _ hc9) m_ML_X0_112 sv_X5_codedAt hd_X5_codedAt rfl rfl ⟨Nat.le_of_ble_eq_true rfl, Nat.le_of_ble_eq_true rfl⟩ (k_u1).1 (ce5 (k_u1).2) rfl rfl hl.1 rfl (Nat.le_of_ble_eq_true rfl) dX0_headerError_63 ⟨Nat.zero_le _, Nat.zero_le _⟩ (fun H locs hn_r9 hP hS => ?_)
        refine lv_istore (lv' := [(7, .int r9), (6, .int r8), (5, .int r7), (0, .ref (ad 2)), (1, .ref (ad u1)), (2, .int a2), (3, .int a3), (4, .int a4)]) hx hb dX0_headerError_66 hl (by decide) rfl (fun ls hl => ?_)
        refine lv_iload hx hb dX0_headerError_68 (lv_at hl 2 rfl) ?_
        refine lv_iconst (v := (-1)) hx hb dX0_headerError_70 (by decide) ?_
        refine lv_icmp_eq (tgt := 86) hx hb dX0_headerError_71 (by decide) (fun c10 => ?_) (fun c10 => ?_)
        · have h := x_t (show r7 = (-1) from c10) h
          refine lv_bipush (v := 20) hx hb dX0_headerError_86 (by decide) ?_
          exact x_iret hx hb hr hlocks rfl hP hS h dX0_headerError_88
        · have h := x_f (show ¬ (r7 = (-1)) from c10) h
          refine lv_iload hx hb dX0_headerError_74 (lv_at hl 1 rfl) ?_
          refine lv_iconst (v := (-1)) hx hb dX0_headerError_76 (by decide) ?_
          refine lv_icmp_eq (tgt := 86) hx hb dX0_headerError_77 (by decide) (fun c11 => ?_) (fun c11 => ?_)
          · have h := x_t (show r8 = (-1) from c11) h
            refine lv_bipush (v := 20) hx hb dX0_headerError_86 (by decide) ?_
            exact x_iret hx hb hr hlocks rfl hP hS h dX0_headerError_88
          · have h := x_f (show ¬ (r8 = (-1)) from c11) h
            refine lv_iload hx hb dX0_headerError_80 (lv_at hl 0 rfl) ?_
            refine lv_iconst (v := (-1)) hx hb dX0_headerError_82 (by decide) ?_
            refine lv_icmp_ne (tgt := 89) hx hb dX0_headerError_83 (by decide) (fun c12 => ?_) (fun c12 => ?_)
            · have h := x_f (show ¬ (r9 = (-1)) from c12) h
              refine lv_iload hx hb dX0_headerError_89 (lv_at hl 2 rfl) ?_
              refine lv_iload hx hb dX0_headerError_91 (lv_at hl 7 rfl) ?_
              refine lv_iload_n hx hb dX0_headerError_93 rfl (lv_at hl 6 rfl) ?_
              refine lv_ixor hx hb dX0_headerError_94 ?_
              refine lv_iload hx hb dX0_headerError_95 (lv_at hl 1 rfl) ?_
              refine lv_ixor hx hb dX0_headerError_97 ?_
              refine lv_iload hx hb dX0_headerError_98 (lv_at hl 0 rfl) ?_
              refine lv_ixor hx hb dX0_headerError_100 ?_
              refine lv_icmp_eq (tgt := 107) hx hb dX0_headerError_101 (by decide) (fun c13 => ?_) (fun c13 => ?_)
              · have h := x_t (show r7 = (((a4 ^^^ a3) ^^^ r8) ^^^ r9) from c13) h
                refine lv_iload hx hb dX0_headerError_107 (lv_at hl 1 rfl) ?_
                refine lv_bipush (v := 8) hx hb dX0_headerError_109 (by decide) ?_
                refine lv_ishl hx hb dX0_headerError_111 ?_
                refine lv_iload hx hb dX0_headerError_112 (lv_at hl 0 rfl) ?_
                refine lv_ior hx hb dX0_headerError_114 ?_
                refine lv_aload_n hx hb dX0_headerError_115 rfl (lv_at hl 3 rfl) ?_
                refine x_get hx hb ht0 u_X0 hown hK hP (xk_2).1 (ce0 (xk_2).2) rfl 3 (by decide) (ht0 _ m_FL_X0_15) rfl rfl dX0_headerError_116 ?_
                refine lv_icmp_ne (tgt := 126) hx hb dX0_headerError_119 (by decide) (fun c14 => ?_) (fun c14 => ?_)
                · have h := x_f (show ¬ (((r8 <<< (8 &&& 31)) ||| r9) = (D9 2 3)) from c14) h
                  refine lv_bipush (v := 29) hx hb dX0_headerError_126 (by decide) ?_
                  exact x_iret hx hb hr hlocks rfl hP hS h dX0_headerError_128
                · have h := x_t (show ((r8 <<< (8 &&& 31)) ||| r9) = (D9 2 3) from c14) h
                  refine lv_iconst (v := 0) hx hb dX0_headerError_122 (by decide) ?_
                  refine lv_goto (tgt := 128) hx hb dX0_headerError_123 (by decide) ?_
                  exact x_iret hx hb hr hlocks rfl hP hS h dX0_headerError_128
              · have h := x_f (show ¬ (r7 = (((a4 ^^^ a3) ^^^ r8) ^^^ r9)) from c13) h
                refine lv_bipush (v := 27) hx hb dX0_headerError_104 (by decide) ?_
                exact x_iret hx hb hr hlocks rfl hP hS h dX0_headerError_106
            · have h := x_t (show r9 = (-1) from c12) h
              refine lv_bipush (v := 20) hx hb dX0_headerError_86 (by decide) ?_
              exact x_iret hx hb hr hlocks rfl hP hS h dX0_headerError_88
      · have h := x_f (show ¬ (r5 = a3) from c6) h
        refine lv_bipush (v := 20) hx hb dX0_headerError_35 (by decide) ?_
        exact x_iret hx hb hr hlocks rfl hP hS h dX0_headerError_37
abbrev rm_X0_seek : Room := { frames := 2, cells := 0, slots := 0, locals := 56 }
set_option maxHeartbeats 4000000 in
set_option maxRecDepth 100000 in
theorem c_X0_seek (l : Launch) (dd : Dd) (Y : Yc) (t : Ts3) (ad : Nat → Nat) (ij : Ij XG ad) (F : Nat) (u1 : Nat) (g_u1 : RingAt XG u1) (a2 a3 : Int32) (D0 D' : Mm) (r0 : Int32) (h : P_X0_seek (gN XG) F u1 a2 a3 D0 = some (r0, D')) : Met l yX0_seek wzX0_seek rm_X0_seek (va_Pc [.ref (ad 2), .ref (ad u1), .int a2, .int a3] (Wd dd Y t XG ad D0)) (Qi dd Y XG ad .int r0 D') 0 0 (pA XG ad) := by
  refine Met.ofW (cc := cX0_seek) (maxL := 7) (ret := (some .int)) (by decide) rfl ?_
  intro p e s m args below meth c s₁ B hml hv
  obtain ⟨rfl, hP, hK, hT⟩ := hv
  have hx := B.exec
  have hb := B.bytes
  have hr := B.returns
  have ht0 : ∀ w ∈ W0, w.before _ s = true := fun w h => atoms_spec (ws := wzX0_seek) B.pre w (List.mem_cons_of_mem _ h)
  have hown : s.vm.findClass RX0 = some m.cls := findClass_of_methodNamed B.named
  have hlocks := B.notSynchronized
  have hS : va_S (pA XG ad) s.heap s.heap [] := va_S.rf
  obtain ⟨k_u1, p_u1_0, p_u1_2, k_u11, k_u12⟩ := id g_u1
  have L17 : ∀ (n : Nat), ∀ (x2 x3 x4 x5 : Int32) (D : Mm) (H : Heap) (locs : List Loc) (ls : Array Slot), P_X0_seek_17 (gN XG) F u1 n x2 x3 x4 x5 D = some (r0, D') → va_P dd vwCl (wW Y XG ad D) H → va_S (pA XG ad) s.heap H locs → lv_has ls 7 [(0, .ref (ad 2)), (1, .ref (ad u1)), (2, .int x2), (3, .int x3), (4, .int x4), (5, .int x5)] → W p l e (headSpec wzX0_seek rm_X0_seek).room s m ([.ref (ad 2), .ref (ad u1), .int a2, .int a3].toArray) below meth c H locs 0 0 (MQ below (Qi dd Y XG ad .int r0 D') ([.ref (ad 2), .ref (ad u1), .int a2, .int a3].toArray) s 0 0 (pA XG ad)) (F0 m 17 ls []) := by
    intro n
    induction n with
    | zero =>
      intro x2 x3 x4 x5 D H locs ls h hP hS hl
      cases h
    | succ n ih =>
      intro x2 x3 x4 x5 D H locs ls h hP hS hl
      have h : ((if x4 ≤ x5 then (some ((-20), D)) else (bi (P_X5_startOf (gN XG) F u1 x5 D) (fun r2 D2 => bi (P_X0_headerError (gN XG) F u1 r2 x2 x3 D2) (fun r3 D3 => if r3 = 20 then (P_X0_seek_17 (gN XG) F u1 n x2 x3 x4 (x5 + 1) D3) else (if r3 = 0 then (some (x5, D3)) else (some (-r3, D3))))))) : Rs) = some (r0, D') := h
      refine lv_iload hx hb dX0_seek_17 (lv_at hl 5 rfl) ?_
      refine lv_iload hx hb dX0_seek_19 (lv_at hl 4 rfl) ?_
      refine lv_icmp_ge (tgt := 66) hx hb dX0_seek_21 (by decide) (fun c1 => ?_) (fun c1 => ?_)
      · have h := x_t (show x4 ≤ x5 from c1) h
        refine lv_bipush (v := (-20)) hx hb dX0_seek_66 (by decide) ?_
        exact x_iret hx hb hr hlocks rfl hP hS h dX0_seek_68
      · have h := x_f (show ¬ (x4 ≤ x5) from c1) h
        refine lv_aload_n hx hb dX0_seek_24 rfl (lv_at hl 0 rfl) ?_
        refine lv_aload_n hx hb dX0_seek_25 rfl (lv_at hl 1 rfl) ?_
        refine lv_aload_n hx hb dX0_seek_26 rfl (lv_at hl 1 rfl) ?_
        refine lv_iload hx hb dX0_seek_27 (lv_at hl 5 rfl) ?_
        obtain ⟨r2, D2, hc2, h⟩ := bi_some h
        refine x_callVi (As := [.int x5]) ⟨hx, hb, hml, hown, ht0⟩ hK hT hP hS (c_X5_startOf l dd Y t XG ad ij F u1 g_u1 x5 _ _ _ hc2) m_ML_X0_88 sv_X5_startOf hd_X5_startOf rfl rfl ⟨Nat.le_of_ble_eq_true rfl, Nat.le_of_ble_eq_true rfl⟩ (k_u1).1 (ce5 (k_u1).2) rfl rfl hl.1 rfl (Nat.le_of_ble_eq_true rfl) dX0_seek_29 ⟨Nat.zero_le _, Nat.zero_le _⟩ (fun H locs hn_r2 hP hS => ?_)
        refine lv_iload_n hx hb dX0_seek_32 rfl (lv_at hl 2 rfl) ?_
        refine lv_iload_n hx hb dX0_seek_33 rfl (lv_at hl 3 rfl) ?_
        obtain ⟨r3, D3, hc3, h⟩ := bi_some h
        refine x_callVi (As := [.ref (ad u1), .int r2, .int x2, .int x3]) ⟨hx, hb, hml, hown, ht0⟩ hK hT hP hS (c_X0_headerError l dd Y t ad ij F u1 g_u1 r2 x2 x3 _ _ _ hc3) m_ML_X0_108 sv_X0_headerError hd_X0_headerError rfl rfl ⟨Nat.le_of_ble_eq_true rfl, Nat.le_of_ble_eq_true rfl⟩ (xk_2).1 (ce0 (xk_2).2) rfl rfl hl.1 rfl (Nat.le_of_ble_eq_true rfl) dX0_seek_34 ⟨Nat.zero_le _, Nat.zero_le _⟩ (fun H locs hn_r3 hP hS => ?_)
        refine lv_istore (lv' := [(6, .int r3), (0, .ref (ad 2)), (1, .ref (ad u1)), (2, .int x2), (3, .int x3), (4, .int x4), (5, .int x5)]) hx hb dX0_seek_37 hl (by decide) rfl (fun ls hl => ?_)
        refine lv_iload hx hb dX0_seek_39 (lv_at hl 0 rfl) ?_
        refine lv_bipush (v := 20) hx hb dX0_seek_41 (by decide) ?_
        refine lv_icmp_eq (tgt := 60) hx hb dX0_seek_43 (by decide) (fun c4 => ?_) (fun c4 => ?_)
        · have h := x_t (show r3 = 20 from c4) h
          refine lv_iinc (v := x5 + 1) (lv' := [(5, .int (x5 + 1)), (6, .int r3), (0, .ref (ad 2)), (1, .ref (ad u1)), (2, .int x2), (3, .int x3), (4, .int x4)]) hx hb dX0_seek_60 hl (k := 6) rfl rfl (by decide) rfl (fun ls hl => ?_)
          refine lv_goto (tgt := 17) hx hb dX0_seek_63 (by decide) ?_
          exact ih x2 x3 x4 (x5 + 1) D3 _ _ _ h hP hS (lv_sub hl [2, 3, 4, 5, 6, 0] rfl)
        · have h := x_f (show ¬ (r3 = 20) from c4) h
          refine lv_iload hx hb dX0_seek_46 (lv_at hl 0 rfl) ?_
          refine lv_if_ne (tgt := 56) hx hb dX0_seek_48 (by decide) (fun c5 => ?_) (fun c5 => ?_)
          · have h := x_f (show ¬ (r3 = 0) from c5) h
            refine lv_iload hx hb dX0_seek_56 (lv_at hl 0 rfl) ?_
            refine lv_ineg hx hb dX0_seek_58 ?_
            exact x_iret hx hb hr hlocks rfl hP hS h dX0_seek_59
          · have h := x_t (show r3 = 0 from c5) h
            refine lv_iload hx hb dX0_seek_51 (lv_at hl 6 rfl) ?_
            refine lv_goto (tgt := 59) hx hb dX0_seek_53 (by decide) ?_
            exact x_iret hx hb hr hlocks rfl hP hS h dX0_seek_59
  have hl := lv_entry ([.ref (ad 2), .ref (ad u1), .int a2, .int a3]) (n := 7) (Nat.le_of_ble_eq_true rfl)
  rw [lg_entry_eq]
  generalize (lg_sl ([.ref (ad 2), .ref (ad u1), .int a2, .int a3]) ++ List.replicate (7 - (lg_sl ([.ref (ad 2), .ref (ad u1), .int a2, .int a3])).length) Slot.unset).toArray = ls at hl ⊢
  have hl : lv_has ls 7 [(0, .ref (ad 2)), (1, .ref (ad u1)), (2, .int a2), (3, .int a3)] := hl
  have hP : va_P dd vwCl (wW Y XG ad D0) s.heap := hP
  generalize D0 = D at h hP
  have h : ((bi (P_X5_findSyncs (gN XG) F u1 D) (fun r6 D6 => if r6 = 0 then (some ((-21), D6)) else (P_X0_seek_17 (gN XG) F u1 F a2 a3 r6 0 D6))) : Rs) = some (r0, D') := h
  refine lv_aload_n hx hb dX0_seek_0 rfl (lv_at hl 1 rfl) ?_
  obtain ⟨r6, D6, hc6, h⟩ := bi_some h
  refine x_callVi (As := []) ⟨hx, hb, hml, hown, ht0⟩ hK hT hP hS (c_X5_findSyncs l dd Y t XG ad ij F u1 g_u1 _ _ _ hc6) m_ML_X0_104 sv_X5_findSyncs hd_X5_findSyncs rfl rfl ⟨Nat.le_of_ble_eq_true rfl, Nat.le_of_ble_eq_true rfl⟩ (k_u1).1 (ce5 (k_u1).2) rfl rfl hl.1 rfl (Nat.le_of_ble_eq_true rfl) dX0_seek_1 ⟨Nat.zero_le _, Nat.zero_le _⟩ (fun H locs hn_r6 hP hS => ?_)
  refine lv_istore (lv' := [(4, .int r6), (0, .ref (ad 2)), (1, .ref (ad u1)), (2, .int a2), (3, .int a3)]) hx hb dX0_seek_4 hl (by decide) rfl (fun ls hl => ?_)
  refine lv_iload hx hb dX0_seek_6 (lv_at hl 0 rfl) ?_
  refine lv_if_ne (tgt := 14) hx hb dX0_seek_8 (by decide) (fun c7 => ?_) (fun c7 => ?_)
  · have h := x_f (show ¬ (r6 = 0) from c7) h
    refine lv_iconst (v := 0) hx hb dX0_seek_14 (by decide) ?_
    refine lv_istore (lv' := [(5, .int 0), (4, .int r6), (0, .ref (ad 2)), (1, .ref (ad u1)), (2, .int a2), (3, .int a3)]) hx hb dX0_seek_15 hl (by decide) rfl (fun ls hl => ?_)
    exact L17 F a2 a3 r6 0 D6 _ _ _ h hP hS (lv_sub hl [2, 3, 4, 5, 1, 0] rfl)
  · have h := x_t (show r6 = 0 from c7) h
    refine lv_bipush (v := (-21)) hx hb dX0_seek_11 (by decide) ?_
    exact x_iret hx hb hr hlocks rfl hP hS h dX0_seek_13
abbrev rm_X5_takeData : Room := { frames := 1, cells := 0, slots := 0, locals := 29 }
set_option maxHeartbeats 4000000 in
set_option maxRecDepth 100000 in
theorem c_X5_takeData (l : Launch) (dd : Dd) (Y : Yc) (t : Ts3) (G : Gr) (ad : Nat → Nat) (ij : Ij G ad) (F : Nat) (th : Nat) (u2 : Nat) (g_th : RingAt G th) (g_u2 : IArr G u2) (a1 : Int32) (D0 D' : Mm) (r0 : Int32) (h : P_X5_takeData (gN G) F th u2 a1 D0 = some (r0, D')) : Met l yX5_takeData wzX5_takeData rm_X5_takeData (va_Pc [.ref (ad th), .int a1, .ref (ad u2)] (Wd dd Y t G ad D0)) (Qi dd Y G ad .int r0 D') 0 0 (pA G ad) := by
  refine Met.ofW (cc := cX5_takeData) (maxL := 7) (ret := (some .int)) (by decide) rfl ?_
  intro p e s m args below meth c s₁ B hml hv
  obtain ⟨rfl, hP, hK, hT⟩ := hv
  have hx := B.exec
  have hb := B.bytes
  have hr := B.returns
  have ht0 : ∀ w ∈ W0, w.before _ s = true := fun w h => atoms_spec (ws := wzX5_takeData) B.pre w (List.mem_cons_of_mem _ h)
  have hown : s.vm.findClass RX5 = some m.cls := findClass_of_methodNamed B.named
  have hlocks := B.notSynchronized
  have hS : va_S (pA G ad) s.heap s.heap [] := va_S.rf
  obtain ⟨k_th, p_th_0, p_th_2, k_th1, k_th2⟩ := id g_th
  have L73 : ∀ (x3 x4 : Int32) (D : Mm) (H : Heap) (locs : List Loc) (ls : Array Slot), P_X5_takeData_73 (gN G) F th u2 x3 x4 D = some (r0, D') → va_P dd vwCl (wW Y G ad D) H → va_S (pA G ad) s.heap H locs → lv_has ls 7 [(0, .ref (ad th)), (3, .int x3), (4, .int x4)] → W p l e (headSpec wzX5_takeData rm_X5_takeData).room s m ([.ref (ad th), .int a1, .ref (ad u2)].toArray) below meth c H locs 0 0 (MQ below (Qi dd Y G ad .int r0 D') ([.ref (ad th), .int a1, .ref (ad u2)].toArray) s 0 0 (pA G ad)) (F0 m 73 ls []) := by
    intro x3 x4 D H locs ls h hP hS hl
    have h : ((bi (P_X5_codedAt (gN G) F th (x3 + 10) D) (fun r1 D1 => if r1 = (-1) then (some (24, D1)) else (if r1 = x4 then (some (0, D1)) else (some (23, D1))))) : Rs) = some (r0, D') := h
    refine lv_aload_n hx hb dX5_takeData_73 rfl (lv_at hl 0 rfl) ?_
    refine lv_iload_n hx hb dX5_takeData_74 rfl (lv_at hl 1 rfl) ?_
    refine lv_bipush (v := 10) hx hb dX5_takeData_75 (by decide) ?_
    refine lv_iadd hx hb dX5_takeData_77 ?_
    obtain ⟨r1, D1, hc1, h⟩ := bi_some h
    refine x_callVi (As := [.int (x3 + 10)]) ⟨hx, hb, hml, hown, ht0⟩ hK hT hP hS (c_X5_codedAt l dd Y t G ad ij F th g_th (x3 + 10) _ _ _ hc1) m_ML_X5_66 sv_X5_codedAt hd_X5_codedAt rfl rfl ⟨Nat.le_of_ble_eq_true rfl, Nat.le_of_ble_eq_true rfl⟩ (k_th).1 (ce5 (k_th).2) rfl rfl hl.1 rfl (Nat.le_of_ble_eq_true rfl) dX5_takeData_78 ⟨Nat.zero_le _, Nat.zero_le _⟩ (fun H locs hn_r1 hP hS => ?_)
    refine lv_istore (lv' := [(5, .int r1), (0, .ref (ad th)), (3, .int x3), (4, .int x4)]) hx hb dX5_takeData_81 hl (by decide) rfl (fun ls hl => ?_)
    refine lv_iload hx hb dX5_takeData_83 (lv_at hl 0 rfl) ?_
    refine lv_iconst (v := (-1)) hx hb dX5_takeData_85 (by decide) ?_
    refine lv_icmp_ne (tgt := 92) hx hb dX5_takeData_86 (by decide) (fun c2 => ?_) (fun c2 => ?_)
    · have h := x_f (show ¬ (r1 = (-1)) from c2) h
      refine lv_iload hx hb dX5_takeData_92 (lv_at hl 0 rfl) ?_
      refine lv_iload hx hb dX5_takeData_94 (lv_at hl 3 rfl) ?_
      refine lv_icmp_ne (tgt := 103) hx hb dX5_takeData_96 (by decide) (fun c3 => ?_) (fun c3 => ?_)
      · have h := x_f (show ¬ (r1 = x4) from c3) h
        refine lv_bipush (v := 23) hx hb dX5_takeData_103 (by decide) ?_
        exact x_iret hx hb hr hlocks rfl hP hS h dX5_takeData_105
      · have h := x_t (show r1 = x4 from c3) h
        refine lv_iconst (v := 0) hx hb dX5_takeData_99 (by decide) ?_
        refine lv_goto (tgt := 105) hx hb dX5_takeData_100 (by decide) ?_
        exact x_iret hx hb hr hlocks rfl hP hS h dX5_takeData_105
    · have h := x_t (show r1 = (-1) from c2) h
      refine lv_bipush (v := 24) hx hb dX5_takeData_89 (by decide) ?_
      exact x_iret hx hb hr hlocks rfl hP hS h dX5_takeData_91
  have L21 : ∀ (n : Nat), ∀ (x3 x4 x5 : Int32) (D : Mm) (H : Heap) (locs : List Loc) (ls : Array Slot), P_X5_takeData_21 (gN G) F th u2 n x3 x4 x5 D = some (r0, D') → va_P dd vwCl (wW Y G ad D) H → va_S (pA G ad) s.heap H locs → lv_has ls 7 [(0, .ref (ad th)), (2, .ref (ad u2)), (3, .int x3), (4, .int x4), (5, .int x5)] → W p l e (headSpec wzX5_takeData rm_X5_takeData).room s m ([.ref (ad th), .int a1, .ref (ad u2)].toArray) below meth c H locs 0 0 (MQ below (Qi dd Y G ad .int r0 D') ([.ref (ad th), .int a1, .ref (ad u2)].toArray) s 0 0 (pA G ad)) (F0 m 21 ls []) := by
    intro n
    induction n with
    | zero =>
      intro x3 x4 x5 D H locs ls h hP hS hl
      cases h
    | succ n ih =>
      intro x3 x4 x5 D H locs ls h hP hS hl
      have h : ((if 64 ≤ x5 then (P_X5_takeData_73 (gN G) F th u2 x3 x4 D) else (if (nI ((gN G) u2)) ≤ x5 then (P_X5_takeData_73 (gN G) F th u2 x3 x4 D) else (bi (P_X5_codedAt (gN G) F th (x3 + 10) D) (fun r6 D6 => if r6 = (-1) then (some (24, D6)) else (if inB x5 ((gN G) u2) = true then (P_X5_takeData_21 (gN G) F th u2 n (x3 + 10) (x4 ^^^ r6) (x5 + 1) (up2 D6 u2 (Int32.toNatClampNeg x5) r6)) else none))))) : Rs) = some (r0, D') := h
      refine lv_iload hx hb dX5_takeData_21 (lv_at hl 4 rfl) ?_
      refine lv_bipush (v := 64) hx hb dX5_takeData_23 (by decide) ?_
      refine lv_icmp_ge (tgt := 73) hx hb dX5_takeData_25 (by decide) (fun c4 => ?_) (fun c4 => ?_)
      · have h := x_t (show 64 ≤ x5 from c4) h
        exact L73 x3 x4 D _ _ _ h hP hS (lv_sub hl [0, 2, 3] rfl)
      · have h := x_f (show ¬ (64 ≤ x5) from c4) h
        refine lv_iload hx hb dX5_takeData_28 (lv_at hl 4 rfl) ?_
        refine lv_aload_n hx hb dX5_takeData_30 rfl (lv_at hl 1 rfl) ?_
        refine x_len hx hb hK hP g_u2 dX5_takeData_31 ?_
        refine lv_icmp_ge (tgt := 73) hx hb dX5_takeData_32 (by decide) (fun c5 => ?_) (fun c5 => ?_)
        · have h := x_t (show (nI ((gN G) u2)) ≤ x5 from c5) h
          exact L73 x3 x4 D _ _ _ h hP hS (lv_sub hl [0, 2, 3] rfl)
        · have h := x_f (show ¬ ((nI ((gN G) u2)) ≤ x5) from c5) h
          refine lv_iinc (v := x3 + 10) (lv' := [(3, .int (x3 + 10)), (0, .ref (ad th)), (2, .ref (ad u2)), (4, .int x4), (5, .int x5)]) hx hb dX5_takeData_35 hl (k := 2) rfl rfl (by decide) rfl (fun ls hl => ?_)
          refine lv_aload_n hx hb dX5_takeData_38 rfl (lv_at hl 1 rfl) ?_
          refine lv_iload_n hx hb dX5_takeData_39 rfl (lv_at hl 0 rfl) ?_
          obtain ⟨r6, D6, hc6, h⟩ := bi_some h
          refine x_callVi (As := [.int (x3 + 10)]) ⟨hx, hb, hml, hown, ht0⟩ hK hT hP hS (c_X5_codedAt l dd Y t G ad ij F th g_th (x3 + 10) _ _ _ hc6) m_ML_X5_66 sv_X5_codedAt hd_X5_codedAt rfl rfl ⟨Nat.le_of_ble_eq_true rfl, Nat.le_of_ble_eq_true rfl⟩ (k_th).1 (ce5 (k_th).2) rfl rfl hl.1 rfl (Nat.le_of_ble_eq_true rfl) dX5_takeData_40 ⟨Nat.zero_le _, Nat.zero_le _⟩ (fun H locs hn_r6 hP hS => ?_)
          refine lv_istore (lv' := [(6, .int r6), (3, .int (x3 + 10)), (0, .ref (ad th)), (2, .ref (ad u2)), (4, .int x4), (5, .int x5)]) hx hb dX5_takeData_43 hl (by decide) rfl (fun ls hl => ?_)
          refine lv_iload hx hb dX5_takeData_45 (lv_at hl 0 rfl) ?_
          refine lv_iconst (v := (-1)) hx hb dX5_takeData_47 (by decide) ?_
          refine lv_icmp_ne (tgt := 54) hx hb dX5_takeData_48 (by decide) (fun c7 => ?_) (fun c7 => ?_)
          · have h := x_f (show ¬ (r6 = (-1)) from c7) h
            refine lv_aload_n hx hb dX5_takeData_54 rfl (lv_at hl 3 rfl) ?_
            refine lv_iload hx hb dX5_takeData_55 (lv_at hl 5 rfl) ?_
            refine lv_iload hx hb dX5_takeData_57 (lv_at hl 0 rfl) ?_
            obtain ⟨b8, h⟩ := x_if h
            refine x_ast hx hb hK ij hP hS g_u2 b8 dX5_takeData_59 (fun H locs hP hS => ?_)
            refine lv_iload hx hb dX5_takeData_60 (lv_at hl 4 rfl) ?_
            refine lv_iload hx hb dX5_takeData_62 (lv_at hl 0 rfl) ?_
            refine lv_ixor hx hb dX5_takeData_64 ?_
            refine lv_istore (lv' := [(4, .int (x4 ^^^ r6)), (6, .int r6), (3, .int (x3 + 10)), (0, .ref (ad th)), (2, .ref (ad u2)), (5, .int x5)]) hx hb dX5_takeData_65 hl (by decide) rfl (fun ls hl => ?_)
            refine lv_iinc (v := x5 + 1) (lv' := [(5, .int (x5 + 1)), (4, .int (x4 ^^^ r6)), (6, .int r6), (3, .int (x3 + 10)), (0, .ref (ad th)), (2, .ref (ad u2))]) hx hb dX5_takeData_67 hl (k := 5) rfl rfl (by decide) rfl (fun ls hl => ?_)
            refine lv_goto (tgt := 21) hx hb dX5_takeData_70 (by decide) ?_
            exact ih (x3 + 10) (x4 ^^^ r6) (x5 + 1) (up2 D6 u2 (Int32.toNatClampNeg x5) r6) _ _ _ h hP hS (lv_sub hl [4, 5, 3, 1, 0] rfl)
          · have h := x_t (show r6 = (-1) from c7) h
            refine lv_bipush (v := 24) hx hb dX5_takeData_51 (by decide) ?_
            exact x_iret hx hb hr hlocks rfl hP hS h dX5_takeData_53
  have hl := lv_entry ([.ref (ad th), .int a1, .ref (ad u2)]) (n := 7) (Nat.le_of_ble_eq_true rfl)
  rw [lg_entry_eq]
  generalize (lg_sl ([.ref (ad th), .int a1, .ref (ad u2)]) ++ List.replicate (7 - (lg_sl ([.ref (ad th), .int a1, .ref (ad u2)])).length) Slot.unset).toArray = ls at hl ⊢
  have hl : lv_has ls 7 [(0, .ref (ad th)), (1, .int a1), (2, .ref (ad u2))] := hl
  have hP : va_P dd vwCl (wW Y G ad D0) s.heap := hP
  generalize D0 = D at h hP
  have h : ((bi (P_X5_codedAt (gN G) F th a1 D) (fun r9 D9 => if r9 = 7 then (P_X5_takeData_21 (gN G) F th u2 F a1 0 0 D9) else (some (22, D9)))) : Rs) = some (r0, D') := h
  refine lv_aload_n hx hb dX5_takeData_0 rfl (lv_at hl 0 rfl) ?_
  refine lv_iload_n hx hb dX5_takeData_1 rfl (lv_at hl 1 rfl) ?_
  obtain ⟨r9, D9, hc9, h⟩ := bi_some h
  refine x_callVi (As := [.int a1]) ⟨hx, hb, hml, hown, ht0⟩ hK hT hP hS (c_X5_codedAt l dd Y t G ad ij F th g_th a1 _ _ _ hc9) m_ML_X5_66 sv_X5_codedAt hd_X5_codedAt rfl rfl ⟨Nat.le_of_ble_eq_true rfl, Nat.le_of_ble_eq_true rfl⟩ (k_th).1 (ce5 (k_th).2) rfl rfl hl.1 rfl (Nat.le_of_ble_eq_true rfl) dX5_takeData_2 ⟨Nat.zero_le _, Nat.zero_le _⟩ (fun H locs hn_r9 hP hS => ?_)
  refine lv_bipush (v := 7) hx hb dX5_takeData_5 (by decide) ?_
  refine lv_icmp_eq (tgt := 13) hx hb dX5_takeData_7 (by decide) (fun c10 => ?_) (fun c10 => ?_)
  · have h := x_t (show r9 = 7 from c10) h
    refine lv_iload_n hx hb dX5_takeData_13 rfl (lv_at hl 1 rfl) ?_
    refine lv_istore_n (lv' := [(3, .int a1), (0, .ref (ad th)), (1, .int a1), (2, .ref (ad u2))]) hx hb dX5_takeData_14 rfl hl (by decide) rfl (fun ls hl => ?_)
    refine lv_iconst (v := 0) hx hb dX5_takeData_15 (by decide) ?_
    refine lv_istore (lv' := [(4, .int 0), (3, .int a1), (0, .ref (ad th)), (1, .int a1), (2, .ref (ad u2))]) hx hb dX5_takeData_16 hl (by decide) rfl (fun ls hl => ?_)
    refine lv_iconst (v := 0) hx hb dX5_takeData_18 (by decide) ?_
    refine lv_istore (lv' := [(5, .int 0), (4, .int 0), (3, .int a1), (0, .ref (ad th)), (1, .int a1), (2, .ref (ad u2))]) hx hb dX5_takeData_19 hl (by decide) rfl (fun ls hl => ?_)
    exact L21 F a1 0 0 D9 _ _ _ h hP hS (lv_sub hl [3, 5, 2, 1, 0] rfl)
  · have h := x_f (show ¬ (r9 = 7) from c10) h
    refine lv_bipush (v := 22) hx hb dX5_takeData_10 (by decide) ?_
    exact x_iret hx hb hr hlocks rfl hP hS h dX5_takeData_12
