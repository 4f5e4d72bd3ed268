abbrev rm_X8_feed : Room := { frames := 0, cells := 0, slots := 0, locals := 0 }
set_option maxHeartbeats 4000000 in
set_option maxRecDepth 100000 in
theorem c_X8_feed (l : Launch) (dd : Dd) (Y : Yc) (t : Ts3) (ad : Nat → Nat) (ij : Ij MG ad) (F : Nat) (a1 a2 a3 a4 a5 : Int32) (D0 D' : Mm) (r0 : Int32) (h : P_X8_feed (gN MG) F a1 a2 a3 a4 a5 D0 = some (r0, D')) : Met l yX8_feed wzX8_feed rm_X8_feed (va_Pc [.ref (ad 0), .int a1, .int a2, .int a3, .int a4, .int a5] (Wd dd Y t MG ad D0)) (Qi dd Y MG ad .int r0 D') 0 0 (pA MG ad) := by
  refine Met.ofW (cc := cX8_feed) (maxL := 8) (ret := (some .int)) (by decide) rfl ?_
  intro p e s m args below meth c s₁ B hml hv
  obtain ⟨rfl, hP, hK, hT⟩ := hv
  have hx := B.exec
  have hb := B.bytes
  have hr := B.returns
  have ht0 : ∀ w ∈ W0, w.before _ s = true := fun w h => atoms_spec (ws := wzX8_feed) B.pre w (List.mem_cons_of_mem _ h)
  have hown : s.vm.findClass RX8 = some m.cls := findClass_of_methodNamed B.named
  have hlocks := B.notSynchronized
  have hS : va_S (pA MG ad) s.heap s.heap [] := va_S.rf
  have L99 : ∀ (k18 : Int32 → Int32 → Int32 → Int32 → Int32 → Int32 → Mm → Rs) (hk18 : ∀ (x1 x2 x3 x4 x5 x6 : Int32) (D : Mm) (H : Heap) (locs : List Loc) (ls : Array Slot), k18 x1 x2 x3 x4 x5 x6 D = some (r0, D') → va_P dd vwCl (wW Y MG ad D) H → va_S (pA MG ad) s.heap H locs → lv_has ls 8 [(0, .ref (ad 0)), (1, .int x1), (2, .int x2), (3, .int x3), (4, .int x4), (5, .int x5), (6, .int x6)] → W p l e (headSpec wzX8_feed rm_X8_feed).room s m ([.ref (ad 0), .int a1, .int a2, .int a3, .int a4, .int a5].toArray) below meth c H locs 0 0 (MQ below (Qi dd Y MG ad .int r0 D') ([.ref (ad 0), .int a1, .int a2, .int a3, .int a4, .int a5].toArray) s 0 0 (pA MG ad)) (F0 m 18 ls [])), ∀ (x1 x2 x3 x4 x5 x6 : Int32) (D : Mm) (H : Heap) (locs : List Loc) (ls : Array Slot), P_X8_feed_99 (gN MG) F k18 x1 x2 x3 x4 x5 x6 D = some (r0, D') → va_P dd vwCl (wW Y MG ad D) H → va_S (pA MG ad) s.heap H locs → lv_has ls 8 [(0, .ref (ad 0)), (1, .int x1), (2, .int x2), (3, .int x3), (4, .int x4), (5, .int x5), (6, .int x6)] → W p l e (headSpec wzX8_feed rm_X8_feed).room s m ([.ref (ad 0), .int a1, .int a2, .int a3, .int a4, .int a5].toArray) below meth c H locs 0 0 (MQ below (Qi dd Y MG ad .int r0 D') ([.ref (ad 0), .int a1, .int a2, .int a3, .int a4, .int a5].toArray) s 0 0 (pA MG ad)) (F0 m 99 ls []) := by
    intro k18 hk18 x1 x2 x3 x4 x5 x6 D H locs ls h hP hS hl
    have h : ((k18 x1 x2 x3 x4 x5 (x6 + 1) (up2 D 0 6 ((D 0 6) + 1))) : Rs) = some (r0, D') := h
    refine lv_aload_n hx hb dX8_feed_99 rfl (lv_at hl 0 rfl) ?_
    refine lv_dup hx hb dX8_feed_100 rfl ?_
    refine x_get hx hb ht0 u_X8 hown hK hP (mk_0).1 (ce8 (mk_0).2) rfl 6 (by decide) (ht0 _ m_FL_X8_172) rfl rfl dX8_feed_101 ?_
    refine lv_iconst (v := 1) hx hb dX8_feed_104 (by decide) ?_
    refine lv_iadd hx hb dX8_feed_105 ?_
    refine x_put (ty := .int) hx hb ht0 u_X8 tyX8 tyX8_ok nmX8 hown hK ij hP hS (mk_0).1 (ce8 (mk_0).2) rfl 6 (by decide) (ht0 _ m_FL_X8_172) rfl rfl (by decide +kernel) rfl rfl (Nat.le_of_ble_eq_true rfl) (by rw [(mk_0).2]; rfl) dX8_feed_106 (fun H locs hP hS => ?_)
    refine lv_iinc (v := x6 + 1) (lv' := [(6, .int (x6 + 1)), (0, .ref (ad 0)), (1, .int x1), (2, .int x2), (3, .int x3), (4, .int x4), (5, .int x5)]) hx hb dX8_feed_109 hl (k := 6) rfl rfl (by decide) rfl (fun ls hl => ?_)
    refine lv_goto (tgt := 18) hx hb dX8_feed_112 (by decide) ?_
    exact hk18 x1 x2 x3 x4 x5 (x6 + 1) (up2 D 0 6 ((D 0 6) + 1)) _ _ _ h hP hS (lv_sub hl [1, 2, 3, 4, 5, 6, 0] rfl)
  have L71 : ∀ (k18 : Int32 → Int32 → Int32 → Int32 → Int32 → Int32 → Mm → Rs) (hk18 : ∀ (x1 x2 x3 x4 x5 x6 : Int32) (D : Mm) (H : Heap) (locs : List Loc) (ls : Array Slot), k18 x1 x2 x3 x4 x5 x6 D = some (r0, D') → va_P dd vwCl (wW Y MG ad D) H → va_S (pA MG ad) s.heap H locs → lv_has ls 8 [(0, .ref (ad 0)), (1, .int x1), (2, .int x2), (3, .int x3), (4, .int x4), (5, .int x5), (6, .int x6)] → W p l e (headSpec wzX8_feed rm_X8_feed).room s m ([.ref (ad 0), .int a1, .int a2, .int a3, .int a4, .int a5].toArray) below meth c H locs 0 0 (MQ below (Qi dd Y MG ad .int r0 D') ([.ref (ad 0), .int a1, .int a2, .int a3, .int a4, .int a5].toArray) s 0 0 (pA MG ad)) (F0 m 18 ls [])), ∀ (x1 x2 x3 x4 x5 x6 s0 : Int32) (D : Mm) (H : Heap) (locs : List Loc) (ls : Array Slot), P_X8_feed_71 (gN MG) F k18 x1 x2 x3 x4 x5 x6 s0 D = some (r0, D') → va_P dd vwCl (wW Y MG ad D) H → va_S (pA MG ad) s.heap H locs → lv_has ls 8 [(0, .ref (ad 0)), (1, .int x1), (2, .int x2), (3, .int x3), (4, .int x4), (5, .int x5), (6, .int x6)] → W p l e (headSpec wzX8_feed rm_X8_feed).room s m ([.ref (ad 0), .int a1, .int a2, .int a3, .int a4, .int a5].toArray) below meth c H locs 0 0 (MQ below (Qi dd Y MG ad .int r0 D') ([.ref (ad 0), .int a1, .int a2, .int a3, .int a4, .int a5].toArray) s 0 0 (pA MG ad)) (F0 m 71 ls [.int s0]) := by
    intro k18 hk18 x1 x2 x3 x4 x5 x6 s0 D H locs ls h hP hS hl
    have h : ((if inB (D 0 6) ((gN MG) 5) = true then (P_X8_feed_99 (gN MG) F k18 x1 x2 x3 x4 x5 x6 (up2 D 5 (Int32.toNatClampNeg (D 0 6)) ((s0 >>> ((24 - (8 * (jrem x6 4))) &&& 31)) &&& 255))) else none) : Rs) = some (r0, D') := h
    refine lv_istore (lv' := [(7, .int s0), (0, .ref (ad 0)), (1, .int x1), (2, .int x2), (3, .int x3), (4, .int x4), (5, .int x5), (6, .int x6)]) hx hb dX8_feed_71 hl (by decide) rfl (fun ls hl => ?_)
    refine lv_aload_n hx hb dX8_feed_73 rfl (lv_at hl 1 rfl) ?_
    refine x_get hx hb ht0 u_X8 hown hK hP (mk_0).1 (ce8 (mk_0).2) rfl 5 (by decide) (ht0 _ m_FL_X8_28) rfl (rfv (G := MG) (c := 0) (k := 5) (c' := 5) rfl) dX8_feed_74 ?_
    refine lv_aload_n hx hb dX8_feed_77 rfl (lv_at hl 1 rfl) ?_
    refine x_get hx hb ht0 u_X8 hown hK hP (mk_0).1 (ce8 (mk_0).2) rfl 6 (by decide) (ht0 _ m_FL_X8_172) rfl rfl dX8_feed_78 ?_
    refine lv_iload hx hb dX8_feed_81 (lv_at hl 0 rfl) ?_
    refine lv_bipush (v := 24) hx hb dX8_feed_83 (by decide) ?_
    refine lv_bipush (v := 8) hx hb dX8_feed_85 (by decide) ?_
    refine lv_iload hx hb dX8_feed_87 (lv_at hl 7 rfl) ?_
    refine lv_iconst (v := 4) hx hb dX8_feed_89 (by decide) ?_
    refine lv_irem hx hb dX8_feed_90 (by decide) ?_
    refine lv_imul hx hb dX8_feed_91 ?_
    refine lv_isub hx hb dX8_feed_92 ?_
    refine lv_ishr hx hb dX8_feed_93 ?_
    refine lv_sipush (v := 255) hx hb dX8_feed_94 (by decide) ?_
    refine lv_iand hx hb dX8_feed_97 ?_
    obtain ⟨b1, h⟩ := x_if h
    refine x_ast hx hb hK ij hP hS mk_5 b1 dX8_feed_98 (fun H locs hP hS => ?_)
    exact L99 k18 hk18 x1 x2 x3 x4 x5 x6 (up2 D 5 (Int32.toNatClampNeg (D 0 6)) ((s0 >>> ((24 - (8 * (jrem x6 4))) &&& 31)) &&& 255)) _ _ _ h hP hS (lv_sub hl [1, 2, 3, 4, 5, 6, 7] rfl)
  have L18 : ∀ (n : Nat), ∀ (x1 x2 x3 x4 x5 x6 : Int32) (D : Mm) (H : Heap) (locs : List Loc) (ls : Array Slot), P_X8_feed_18 (gN MG) F n x1 x2 x3 x4 x5 x6 D = some (r0, D') → va_P dd vwCl (wW Y MG ad D) H → va_S (pA MG ad) s.heap H locs → lv_has ls 8 [(0, .ref (ad 0)), (1, .int x1), (2, .int x2), (3, .int x3), (4, .int x4), (5, .int x5), (6, .int x6)] → W p l e (headSpec wzX8_feed rm_X8_feed).room s m ([.ref (ad 0), .int a1, .int a2, .int a3, .int a4, .int a5].toArray) below meth c H locs 0 0 (MQ below (Qi dd Y MG ad .int r0 D') ([.ref (ad 0), .int a1, .int a2, .int a3, .int a4, .int a5].toArray) s 0 0 (pA MG ad)) (F0 m 18 ls []) := by
    intro n
    induction n with
    | zero =>
      intro x1 x2 x3 x4 x5 x6 D H locs ls h hP hS hl
      cases h
    | succ n ih =>
      intro x1 x2 x3 x4 x5 x6 D H locs ls h hP hS hl
      have h : ((if 20 ≤ x6 then (some (D 0 6, D)) else (if 4 ≤ x6 then (if 8 ≤ x6 then (if 12 ≤ x6 then (if 16 ≤ x6 then (P_X8_feed_71 (gN MG) F (fun x1 x2 x3 x4 x5 x6 D => P_X8_feed_18 (gN MG) F n x1 x2 x3 x4 x5 x6 D) x1 x2 x3 x4 x5 x6 x5 D) else (P_X8_feed_71 (gN MG) F (fun x1 x2 x3 x4 x5 x6 D => P_X8_feed_18 (gN MG) F n x1 x2 x3 x4 x5 x6 D) x1 x2 x3 x4 x5 x6 x4 D)) else (P_X8_feed_71 (gN MG) F (fun x1 x2 x3 x4 x5 x6 D => P_X8_feed_18 (gN MG) F n x1 x2 x3 x4 x5 x6 D) x1 x2 x3 x4 x5 x6 x3 D)) else (P_X8_feed_71 (gN MG) F (fun x1 x2 x3 x4 x5 x6 D => P_X8_feed_18 (gN MG) F n x1 x2 x3 x4 x5 x6 D) x1 x2 x3 x4 x5 x6 x2 D)) else (P_X8_feed_71 (gN MG) F (fun x1 x2 x3 x4 x5 x6 D => P_X8_feed_18 (gN MG) F n x1 x2 x3 x4 x5 x6 D) x1 x2 x3 x4 x5 x6 x1 D))) : Rs) = some (r0, D') := h
      refine lv_iload hx hb dX8_feed_18 (lv_at hl 6 rfl) ?_
      refine lv_bipush (v := 20) hx hb dX8_feed_20 (by decide) ?_
      refine lv_icmp_ge (tgt := 115) hx hb dX8_feed_22 (by decide) (fun c2 => ?_) (fun c2 => ?_)
      · have h := x_t (show 20 ≤ x6 from c2) h
        refine lv_aload_n hx hb dX8_feed_115 rfl (lv_at hl 0 rfl) ?_
        refine x_get hx hb ht0 u_X8 hown hK hP (mk_0).1 (ce8 (mk_0).2) rfl 6 (by decide) (ht0 _ m_FL_X8_172) rfl rfl dX8_feed_116 ?_
        exact x_iret hx hb hr hlocks rfl hP hS h dX8_feed_119
      · have h := x_f (show ¬ (20 ≤ x6) from c2) h
        refine lv_iload hx hb dX8_feed_25 (lv_at hl 6 rfl) ?_
        refine lv_iconst (v := 4) hx hb dX8_feed_27 (by decide) ?_
        refine lv_icmp_ge (tgt := 35) hx hb dX8_feed_28 (by decide) (fun c3 => ?_) (fun c3 => ?_)
        · have h := x_t (show 4 ≤ x6 from c3) h
          refine lv_iload hx hb dX8_feed_35 (lv_at hl 6 rfl) ?_
          refine lv_bipush (v := 8) hx hb dX8_feed_37 (by decide) ?_
          refine lv_icmp_ge (tgt := 46) hx hb dX8_feed_39 (by decide) (fun c4 => ?_) (fun c4 => ?_)
          · have h := x_t (show 8 ≤ x6 from c4) h
            refine lv_iload hx hb dX8_feed_46 (lv_at hl 6 rfl) ?_
            refine lv_bipush (v := 12) hx hb dX8_feed_48 (by decide) ?_
            refine lv_icmp_ge (tgt := 57) hx hb dX8_feed_50 (by decide) (fun c5 => ?_) (fun c5 => ?_)
            · have h := x_t (show 12 ≤ x6 from c5) h
              refine lv_iload hx hb dX8_feed_57 (lv_at hl 6 rfl) ?_
              refine lv_bipush (v := 16) hx hb dX8_feed_59 (by decide) ?_
              refine lv_icmp_ge (tgt := 69) hx hb dX8_feed_61 (by decide) (fun c6 => ?_) (fun c6 => ?_)
              · have h := x_t (show 16 ≤ x6 from c6) h
                refine lv_iload hx hb dX8_feed_69 (lv_at hl 5 rfl) ?_
                exact L71 (fun x1 x2 x3 x4 x5 x6 D => P_X8_feed_18 (gN MG) F n x1 x2 x3 x4 x5 x6 D) ih x1 x2 x3 x4 x5 x6 x5 D _ _ _ h hP hS (lv_sub hl [0, 1, 2, 3, 4, 5, 6] rfl)
              · have h := x_f (show ¬ (16 ≤ x6) from c6) h
                refine lv_iload hx hb dX8_feed_64 (lv_at hl 4 rfl) ?_
                refine lv_goto (tgt := 71) hx hb dX8_feed_66 (by decide) ?_
                exact L71 (fun x1 x2 x3 x4 x5 x6 D => P_X8_feed_18 (gN MG) F n x1 x2 x3 x4 x5 x6 D) ih x1 x2 x3 x4 x5 x6 x4 D _ _ _ h hP hS (lv_sub hl [0, 1, 2, 3, 4, 5, 6] rfl)
            · have h := x_f (show ¬ (12 ≤ x6) from c5) h
              refine lv_iload_n hx hb dX8_feed_53 rfl (lv_at hl 3 rfl) ?_
              refine lv_goto (tgt := 71) hx hb dX8_feed_54 (by decide) ?_
              exact L71 (fun x1 x2 x3 x4 x5 x6 D => P_X8_feed_18 (gN MG) F n x1 x2 x3 x4 x5 x6 D) ih x1 x2 x3 x4 x5 x6 x3 D _ _ _ h hP hS (lv_sub hl [0, 1, 2, 3, 4, 5, 6] rfl)
          · have h := x_f (show ¬ (8 ≤ x6) from c4) h
            refine lv_iload_n hx hb dX8_feed_42 rfl (lv_at hl 2 rfl) ?_
            refine lv_goto (tgt := 71) hx hb dX8_feed_43 (by decide) ?_
            exact L71 (fun x1 x2 x3 x4 x5 x6 D => P_X8_feed_18 (gN MG) F n x1 x2 x3 x4 x5 x6 D) ih x1 x2 x3 x4 x5 x6 x2 D _ _ _ h hP hS (lv_sub hl [0, 1, 2, 3, 4, 5, 6] rfl)
        · have h := x_f (show ¬ (4 ≤ x6) from c3) h
          refine lv_iload_n hx hb dX8_feed_31 rfl (lv_at hl 1 rfl) ?_
          refine lv_goto (tgt := 71) hx hb dX8_feed_32 (by decide) ?_
          exact L71 (fun x1 x2 x3 x4 x5 x6 D => P_X8_feed_18 (gN MG) F n x1 x2 x3 x4 x5 x6 D) ih x1 x2 x3 x4 x5 x6 x1 D _ _ _ h hP hS (lv_sub hl [0, 1, 2, 3, 4, 5, 6] rfl)
  have hl := lv_entry ([.ref (ad 0), .int a1, .int a2, .int a3, .int a4, .int a5]) (n := 8) (Nat.le_of_ble_eq_true rfl)
  rw [lg_entry_eq]
  generalize (lg_sl ([.ref (ad 0), .int a1, .int a2, .int a3, .int a4, .int a5]) ++ List.replicate (8 - (lg_sl ([.ref (ad 0), .int a1, .int a2, .int a3, .int a4, .int a5])).length) Slot.unset).toArray = ls at hl ⊢
  have hl : lv_has ls 8 [(0, .ref (ad 0)), (1, .int a1), (2, .int a2), (3, .int a3), (4, .int a4), (5, .int a5)] := hl
  have hP : va_P dd vwCl (wW Y MG ad D0) s.heap := hP
  generalize D0 = D at h hP
  have h : ((if ((D 0 6) + 20) ≤ 2480 then (P_X8_feed_18 (gN MG) F F a1 a2 a3 a4 a5 0 D) else (some ((-1), D))) : Rs) = some (r0, D') := h
  refine lv_aload_n hx hb dX8_feed_0 rfl (lv_at hl 0 rfl) ?_
  refine x_get hx hb ht0 u_X8 hown hK hP (mk_0).1 (ce8 (mk_0).2) rfl 6 (by decide) (ht0 _ m_FL_X8_172) rfl rfl dX8_feed_1 ?_
  refine lv_bipush (v := 20) hx hb dX8_feed_4 (by decide) ?_
  refine lv_iadd hx hb dX8_feed_6 ?_
  refine lv_sipush (v := 2480) hx hb dX8_feed_7 (by decide) ?_
  refine lv_icmp_le (tgt := 15) hx hb dX8_feed_10 (by decide) (fun c7 => ?_) (fun c7 => ?_)
  · have h := x_t (show ((D 0 6) + 20) ≤ 2480 from c7) h
    refine lv_iconst (v := 0) hx hb dX8_feed_15 (by decide) ?_
    refine lv_istore (lv' := [(6, .int 0), (0, .ref (ad 0)), (1, .int a1), (2, .int a2), (3, .int a3), (4, .int a4), (5, .int a5)]) hx hb dX8_feed_16 hl (by decide) rfl (fun ls hl => ?_)
    exact L18 F a1 a2 a3 a4 a5 0 D _ _ _ h hP hS (lv_sub hl [1, 2, 3, 4, 5, 6, 0] rfl)
  · have h := x_f (show ¬ (((D 0 6) + 20) ≤ 2480) from c7) h
    refine lv_iconst (v := (-1)) hx hb dX8_feed_13 (by decide) ?_
    exact x_iret hx hb hr hlocks rfl hP hS h dX8_feed_14
abbrev rm_X8_end : Room := { frames := 1, cells := 0, slots := 0, locals := 22 }
set_option maxHeartbeats 4000000 in
set_option maxRecDepth 100000 in
theorem c_X8_end (l : Launch) (dd : Dd) (Y : Yc) (t : Ts3) (ad : Nat → Nat) (ij : Ij MG ad) (F : Nat) (a1 : Int32) (D0 D' : Mm) (r0 : Int32) (h : P_X8_end (gN MG) F a1 D0 = some (r0, D')) : Met l yX8_end wzX8_end rm_X8_end (va_Pc [.ref (ad 0), .int a1] (Wd dd Y t MG ad D0)) (Qi dd Y MG ad .int r0 D') 0 0 (pA MG ad) := by
  refine Met.ofW (cc := cX8_end) (maxL := 2) (ret := (some .int)) (by decide) rfl ?_
  intro p e s m args below meth c s₁ B hml hv
  obtain ⟨rfl, hP, hK, hT⟩ := hv
  have hx := B.exec
  have hb := B.bytes
  have hr := B.returns
  have ht0 : ∀ w ∈ W0, w.before _ s = true := fun w h => atoms_spec (ws := wzX8_end) B.pre w (List.mem_cons_of_mem _ h)
  have hown : s.vm.findClass RX8 = some m.cls := findClass_of_methodNamed B.named
  have hlocks := B.notSynchronized
  have hS : va_S (pA MG ad) s.heap s.heap [] := va_S.rf
  have hl := lv_entry ([.ref (ad 0), .int a1]) (n := 2) (Nat.le_of_ble_eq_true rfl)
  rw [lg_entry_eq]
  generalize (lg_sl ([.ref (ad 0), .int a1]) ++ List.replicate (2 - (lg_sl ([.ref (ad 0), .int a1])).length) Slot.unset).toArray = ls at hl ⊢
  have hl : lv_has ls 2 [(0, .ref (ad 0)), (1, .int a1)] := hl
  have hP : va_P dd vwCl (wW Y MG ad D0) s.heap := hP
  generalize D0 = D at h hP
  have h : ((bi (P_X8_isIn (gN MG) F a1 0 (D 0 6) D) (fun r1 D1 => if r1 = 0 then (some ((-1), D1)) else (some (a1, up2 D1 0 6 a1)))) : Rs) = some (r0, D') := h
  refine lv_iload_n hx hb dX8_end_0 rfl (lv_at hl 1 rfl) ?_
  refine lv_iconst (v := 0) hx hb dX8_end_1 (by decide) ?_
  refine lv_aload_n hx hb dX8_end_2 rfl (lv_at hl 0 rfl) ?_
  refine x_get hx hb ht0 u_X8 hown hK hP (mk_0).1 (ce8 (mk_0).2) rfl 6 (by decide) (ht0 _ m_FL_X8_172) rfl rfl dX8_end_3 ?_
  obtain ⟨r1, D1, hc1, h⟩ := bi_some h
  refine x_callSi (As := [.int a1, .int 0, .int (D 0 6)]) ⟨hx, hb, hml, hown, ht0⟩ hK hT hP hS (c_X8_isIn l dd Y t ad ij F a1 0 (D 0 6) _ _ _ hc1) m_ML_X8_69 ss_X8_isIn hd_X8_isIn rfl rfl ⟨Nat.le_of_ble_eq_true rfl, Nat.le_of_ble_eq_true rfl⟩ rfl hl.1 rfl (Nat.le_of_ble_eq_true rfl) dX8_end_6 ⟨Nat.zero_le _, Nat.zero_le _⟩ (fun H locs hn_r1 hP hS => ?_)
  refine lv_if_ne (tgt := 14) hx hb dX8_end_9 (by decide) (fun c2 => ?_) (fun c2 => ?_)
  · have h := x_f (show ¬ (r1 = 0) from c2) h
    refine lv_aload_n hx hb dX8_end_14 rfl (lv_at hl 0 rfl) ?_
    refine lv_iload_n hx hb dX8_end_15 rfl (lv_at hl 1 rfl) ?_
    refine x_put (ty := .int) hx hb ht0 u_X8 tyX8 tyX8_ok nmX8 hown hK ij hP hS (mk_0).1 (ce8 (mk_0).2) rfl 6 (by decide) (ht0 _ m_FL_X8_172) rfl rfl (by decide +kernel) rfl rfl (Nat.le_of_ble_eq_true rfl) (by rw [(mk_0).2]; rfl) dX8_end_16 (fun H locs hP hS => ?_)
    refine lv_iload_n hx hb dX8_end_19 rfl (lv_at hl 1 rfl) ?_
    exact x_iret hx hb hr hlocks rfl hP hS h dX8_end_20
  · have h := x_t (show r1 = 0 from c2) h
    refine lv_iconst (v := (-1)) hx hb dX8_end_12 (by decide) ?_
    exact x_iret hx hb hr hlocks rfl hP hS h dX8_end_13
abbrev rm_X8_format : Room := { frames := 6, cells := 0, slots := 0, locals := 130 }
set_option maxHeartbeats 4000000 in
set_option maxRecDepth 100000 in
theorem c_X8_format (l : Launch) (dd : Dd) (Y : Yc) (t : Ts3) (ad : Nat → Nat) (ij : Ij MG ad) (F : Nat) (a1 a2 a3 : Int32) (D0 D' : Mm) (r0 : Int32) (h : P_X8_format (gN MG) F a1 a2 a3 D0 = some (r0, D')) : Met l yX8_format wzX8_format rm_X8_format (va_Pc [.ref (ad 0), .int a1, .int a2, .int a3] (Wd dd Y t MG ad D0)) (Qi dd Y MG ad .int r0 D') 0 0 (pA MG ad) := by
  refine Met.ofW (cc := cX8_format) (maxL := 7) (ret := (some .int)) (by decide) rfl ?_
  intro p e s m args below meth c s₁ B hml hv
  obtain ⟨rfl, hP, hK, hT⟩ := hv
  have hx := B.exec
  have hb := B.bytes
  have hr := B.returns
  have ht0 : ∀ w ∈ W0, w.before _ s = true := fun w h => atoms_spec (ws := wzX8_format) B.pre w (List.mem_cons_of_mem _ h)
  have hown : s.vm.findClass RX8 = some m.cls := findClass_of_methodNamed B.named
  have hlocks := B.notSynchronized
  have hS : va_S (pA MG ad) s.heap s.heap [] := va_S.rf
  have L379 : ∀ (k173 : Int32 → Mm → Rs) (hk173 : ∀ (x4 : Int32) (D : Mm) (H : Heap) (locs : List Loc) (ls : Array Slot), k173 x4 D = some (r0, D') → va_P dd vwCl (wW Y MG ad D) H → va_S (pA MG ad) s.heap H locs → lv_has ls 7 [(0, .ref (ad 0)), (4, .int x4)] → W p l e (headSpec wzX8_format rm_X8_format).room s m ([.ref (ad 0), .int a1, .int a2, .int a3].toArray) below meth c H locs 0 0 (MQ below (Qi dd Y MG ad .int r0 D') ([.ref (ad 0), .int a1, .int a2, .int a3].toArray) s 0 0 (pA MG ad)) (F0 m 173 ls [])), ∀ (n : Nat), ∀ (x4 : Int32) (D : Mm) (H : Heap) (locs : List Loc) (ls : Array Slot), P_X8_format_379 (gN MG) F k173 n x4 D = some (r0, D') → va_P dd vwCl (wW Y MG ad D) H → va_S (pA MG ad) s.heap H locs → lv_has ls 7 [(0, .ref (ad 0)), (4, .int x4)] → W p l e (headSpec wzX8_format rm_X8_format).room s m ([.ref (ad 0), .int a1, .int a2, .int a3].toArray) below meth c H locs 0 0 (MQ below (Qi dd Y MG ad .int r0 D') ([.ref (ad 0), .int a1, .int a2, .int a3].toArray) s 0 0 (pA MG ad)) (F0 m 379 ls []) := by
    intro k173 hk173 n
    induction n with
    | zero =>
      intro x4 D H locs ls h hP hS hl
      cases h
    | succ n ih =>
      intro x4 D H locs ls h hP hS hl
      have h : ((bi (P_X8_lengthOf (gN MG) F x4 D) (fun r1 D1 => if r1 ≤ (D 0 30) then (k173 (x4 + 1) D1) else (bi (P_X8_putBits (gN MG) F 85 8 D1) (fun r3 D3 => P_X8_format_379 (gN MG) F k173 n x4 D3)))) : Rs) = some (r0, D') := h
      refine lv_aload_n hx hb dX8_format_379 rfl (lv_at hl 0 rfl) ?_
      refine x_get hx hb ht0 u_X8 hown hK hP (mk_0).1 (ce8 (mk_0).2) rfl 30 (by decide) (ht0 _ m_FL_X8_89) rfl rfl dX8_format_380 ?_
      refine lv_iload hx hb dX8_format_383 (lv_at hl 1 rfl) ?_
      obtain ⟨r1, D1, hc1, h⟩ := bi_some h
      refine x_callSi (As := [.int x4]) ⟨hx, hb, hml, hown, ht0⟩ hK hT hP hS (c_X8_lengthOf l dd Y t ad ij F x4 _ _ _ hc1) m_ML_X8_66 ss_X8_lengthOf hd_X8_lengthOf rfl rfl ⟨Nat.le_of_ble_eq_true rfl, Nat.le_of_ble_eq_true rfl⟩ rfl hl.1 rfl (Nat.le_of_ble_eq_true rfl) dX8_format_385 ⟨Nat.zero_le _, Nat.zero_le _⟩ (fun H locs hn_r1 hP hS => ?_)
      refine lv_icmp_ge (tgt := 402) hx hb dX8_format_388 (by decide) (fun c2 => ?_) (fun c2 => ?_)
      · have h := x_t (show r1 ≤ (D 0 30) from c2) h
        refine lv_iinc (v := x4 + 1) (lv' := [(4, .int (x4 + 1)), (0, .ref (ad 0))]) hx hb dX8_format_402 hl (k := 1) rfl rfl (by decide) rfl (fun ls hl => ?_)
        refine lv_goto (tgt := 173) hx hb dX8_format_405 (by decide) ?_
        exact hk173 (x4 + 1) D1 _ _ _ h hP hS (lv_sub hl [1, 0] rfl)
      · have h := x_f (show ¬ (r1 ≤ (D 0 30)) from c2) h
        refine lv_aload_n hx hb dX8_format_391 rfl (lv_at hl 0 rfl) ?_
        refine lv_bipush (v := 85) hx hb dX8_format_392 (by decide) ?_
        refine lv_bipush (v := 8) hx hb dX8_format_394 (by decide) ?_
        obtain ⟨r3, D3, hc3, h⟩ := bi_some h
        refine x_callVv (As := [.int 85, .int 8]) ⟨hx, hb, hml, hown, ht0⟩ hK hT hP hS (c_X8_putBits l dd Y t ad ij F 85 8 _ _ _ hc3) m_ML_X8_92 sv_X8_putBits hd_X8_putBits rfl rfl ⟨Nat.le_of_ble_eq_true rfl, Nat.le_of_ble_eq_true rfl⟩ (mk_0).1 (ce8 (mk_0).2) rfl rfl hl.1 rfl (Nat.le_of_ble_eq_true rfl) dX8_format_396 ⟨Nat.zero_le _, Nat.zero_le _⟩ (fun H locs hP hS => ?_)
        refine lv_goto (tgt := 379) hx hb dX8_format_399 (by decide) ?_
        exact ih x4 D3 _ _ _ h hP hS (lv_sub hl [0, 1] rfl)
  have L352 : ∀ (k173 : Int32 → Mm → Rs) (hk173 : ∀ (x4 : Int32) (D : Mm) (H : Heap) (locs : List Loc) (ls : Array Slot), k173 x4 D = some (r0, D') → va_P dd vwCl (wW Y MG ad D) H → va_S (pA MG ad) s.heap H locs → lv_has ls 7 [(0, .ref (ad 0)), (4, .int x4)] → W p l e (headSpec wzX8_format rm_X8_format).room s m ([.ref (ad 0), .int a1, .int a2, .int a3].toArray) below meth c H locs 0 0 (MQ below (Qi dd Y MG ad .int r0 D') ([.ref (ad 0), .int a1, .int a2, .int a3].toArray) s 0 0 (pA MG ad)) (F0 m 173 ls [])) (k194 : Int32 → Int32 → Mm → Rs) (hk194 : ∀ (x4 x5 : Int32) (D : Mm) (H : Heap) (locs : List Loc) (ls : Array Slot), k194 x4 x5 D = some (r0, D') → va_P dd vwCl (wW Y MG ad D) H → va_S (pA MG ad) s.heap H locs → lv_has ls 7 [(0, .ref (ad 0)), (4, .int x4), (5, .int x5)] → W p l e (headSpec wzX8_format rm_X8_format).room s m ([.ref (ad 0), .int a1, .int a2, .int a3].toArray) below meth c H locs 0 0 (MQ below (Qi dd Y MG ad .int r0 D') ([.ref (ad 0), .int a1, .int a2, .int a3].toArray) s 0 0 (pA MG ad)) (F0 m 194 ls [])), ∀ (n : Nat), ∀ (x4 x5 x6 : Int32) (D : Mm) (H : Heap) (locs : List Loc) (ls : Array Slot), P_X8_format_352 (gN MG) F k173 k194 n x4 x5 x6 D = some (r0, D') → va_P dd vwCl (wW Y MG ad D) H → va_S (pA MG ad) s.heap H locs → lv_has ls 7 [(0, .ref (ad 0)), (4, .int x4), (5, .int x5), (6, .int x6)] → W p l e (headSpec wzX8_format rm_X8_format).room s m ([.ref (ad 0), .int a1, .int a2, .int a3].toArray) below meth c H locs 0 0 (MQ below (Qi dd Y MG ad .int r0 D') ([.ref (ad 0), .int a1, .int a2, .int a3].toArray) s 0 0 (pA MG ad)) (F0 m 352 ls []) := by
    intro k173 hk173 k194 hk194 n
    induction n with
    | zero =>
      intro x4 x5 x6 D H locs ls h hP hS hl
      cases h
    | succ n ih =>
      intro x4 x5 x6 D H locs ls h hP hS hl
      have h : ((if 8 ≤ x6 then (k194 x4 (x5 + 1) D) else (bi (P_X8_putBits (gN MG) F 85 8 D) (fun r5 D5 => P_X8_format_352 (gN MG) F k173 k194 n x4 x5 (x6 + 1) D5))) : Rs) = some (r0, D') := h
      refine lv_iload hx hb dX8_format_352 (lv_at hl 3 rfl) ?_
      refine lv_bipush (v := 8) hx hb dX8_format_354 (by decide) ?_
      refine lv_icmp_ge (tgt := 373) hx hb dX8_format_356 (by decide) (fun c4 => ?_) (fun c4 => ?_)
      · have h := x_t (show 8 ≤ x6 from c4) h
        refine lv_iinc (v := x5 + 1) (lv' := [(5, .int (x5 + 1)), (0, .ref (ad 0)), (4, .int x4), (6, .int x6)]) hx hb dX8_format_373 hl (k := 2) rfl rfl (by decide) rfl (fun ls hl => ?_)
        refine lv_goto (tgt := 194) hx hb dX8_format_376 (by decide) ?_
        exact hk194 x4 (x5 + 1) D _ _ _ h hP hS (lv_sub hl [1, 2, 0] rfl)
      · have h := x_f (show ¬ (8 ≤ x6) from c4) h
        refine lv_aload_n hx hb dX8_format_359 rfl (lv_at hl 0 rfl) ?_
        refine lv_bipush (v := 85) hx hb dX8_format_360 (by decide) ?_
        refine lv_bipush (v := 8) hx hb dX8_format_362 (by decide) ?_
        obtain ⟨r5, D5, hc5, h⟩ := bi_some h
        refine x_callVv (As := [.int 85, .int 8]) ⟨hx, hb, hml, hown, ht0⟩ hK hT hP hS (c_X8_putBits l dd Y t ad ij F 85 8 _ _ _ hc5) m_ML_X8_92 sv_X8_putBits hd_X8_putBits rfl rfl ⟨Nat.le_of_ble_eq_true rfl, Nat.le_of_ble_eq_true rfl⟩ (mk_0).1 (ce8 (mk_0).2) rfl rfl hl.1 rfl (Nat.le_of_ble_eq_true rfl) dX8_format_364 ⟨Nat.zero_le _, Nat.zero_le _⟩ (fun H locs hP hS => ?_)
        refine lv_iinc (v := x6 + 1) (lv' := [(6, .int (x6 + 1)), (0, .ref (ad 0)), (4, .int x4), (5, .int x5)]) hx hb dX8_format_367 hl (k := 3) rfl rfl (by decide) rfl (fun ls hl => ?_)
        refine lv_goto (tgt := 352) hx hb dX8_format_370 (by decide) ?_
        exact ih x4 x5 (x6 + 1) D5 _ _ _ h hP hS (lv_sub hl [1, 2, 3, 0] rfl)
  have L302 : ∀ (k173 : Int32 → Mm → Rs) (hk173 : ∀ (x4 : Int32) (D : Mm) (H : Heap) (locs : List Loc) (ls : Array Slot), k173 x4 D = some (r0, D') → va_P dd vwCl (wW Y MG ad D) H → va_S (pA MG ad) s.heap H locs → lv_has ls 7 [(0, .ref (ad 0)), (4, .int x4)] → W p l e (headSpec wzX8_format rm_X8_format).room s m ([.ref (ad 0), .int a1, .int a2, .int a3].toArray) below meth c H locs 0 0 (MQ below (Qi dd Y MG ad .int r0 D') ([.ref (ad 0), .int a1, .int a2, .int a3].toArray) s 0 0 (pA MG ad)) (F0 m 173 ls [])) (k194 : Int32 → Int32 → Mm → Rs) (hk194 : ∀ (x4 x5 : Int32) (D : Mm) (H : Heap) (locs : List Loc) (ls : Array Slot), k194 x4 x5 D = some (r0, D') → va_P dd vwCl (wW Y MG ad D) H → va_S (pA MG ad) s.heap H locs → lv_has ls 7 [(0, .ref (ad 0)), (4, .int x4), (5, .int x5)] → W p l e (headSpec wzX8_format rm_X8_format).room s m ([.ref (ad 0), .int a1, .int a2, .int a3].toArray) below meth c H locs 0 0 (MQ below (Qi dd Y MG ad .int r0 D') ([.ref (ad 0), .int a1, .int a2, .int a3].toArray) s 0 0 (pA MG ad)) (F0 m 194 ls [])), ∀ (n : Nat), ∀ (x4 x5 x6 : Int32) (D : Mm) (H : Heap) (locs : List Loc) (ls : Array Slot), P_X8_format_302 (gN MG) F k173 k194 n x4 x5 x6 D = some (r0, D') → va_P dd vwCl (wW Y MG ad D) H → va_S (pA MG ad) s.heap H locs → lv_has ls 7 [(0, .ref (ad 0)), (4, .int x4), (5, .int x5), (6, .int x6)] → W p l e (headSpec wzX8_format rm_X8_format).room s m ([.ref (ad 0), .int a1, .int a2, .int a3].toArray) below meth c H locs 0 0 (MQ below (Qi dd Y MG ad .int r0 D') ([.ref (ad 0), .int a1, .int a2, .int a3].toArray) s 0 0 (pA MG ad)) (F0 m 302 ls []) := by
    intro k173 hk173 k194 hk194 n
    induction n with
    | zero =>
      intro x4 x5 x6 D H locs ls h hP hS hl
      cases h
    | succ n ih =>
      intro x4 x5 x6 D H locs ls h hP hS hl
      have h : ((if 64 ≤ x6 then (bi (P_X8_putData (gN MG) F D) (fun r7 D7 => P_X8_format_352 (gN MG) F k173 k194 F x4 x5 0 D7)) else (if x4 = 9 then (if x5 = 0 then (if inB x6 ((gN MG) 9) = true then (if inB x6 ((gN MG) 8) = true then (P_X8_format_302 (gN MG) F k173 k194 n x4 x5 (x6 + 1) (up2 D 8 (Int32.toNatClampNeg x6) (D 9 (Int32.toNatClampNeg x6)))) else none) else none) else (if inB x6 ((gN MG) 8) = true then (P_X8_format_302 (gN MG) F k173 k194 n x4 x5 (x6 + 1) (up2 D 8 (Int32.toNatClampNeg x6) 0)) else none)) else (if inB x6 ((gN MG) 8) = true then (P_X8_format_302 (gN MG) F k173 k194 n x4 x5 (x6 + 1) (up2 D 8 (Int32.toNatClampNeg x6) 0)) else none))) : Rs) = some (r0, D') := h
      refine lv_iload hx hb dX8_format_302 (lv_at hl 3 rfl) ?_
      refine lv_bipush (v := 64) hx hb dX8_format_304 (by decide) ?_
      refine lv_icmp_ge (tgt := 345) hx hb dX8_format_306 (by decide) (fun c6 => ?_) (fun c6 => ?_)
      · have h := x_t (show 64 ≤ x6 from c6) h
        refine lv_aload_n hx hb dX8_format_345 rfl (lv_at hl 0 rfl) ?_
        obtain ⟨r7, D7, hc7, h⟩ := bi_some h
        refine x_callVv (As := []) ⟨hx, hb, hml, hown, ht0⟩ hK hT hP hS (c_X8_putData l dd Y t ad ij F  _ _ _ hc7) m_ML_X8_128 sv_X8_putData hd_X8_putData rfl rfl ⟨Nat.le_of_ble_eq_true rfl, Nat.le_of_ble_eq_true rfl⟩ (mk_0).1 (ce8 (mk_0).2) rfl rfl hl.1 rfl (Nat.le_of_ble_eq_true rfl) dX8_format_346 ⟨Nat.zero_le _, Nat.zero_le _⟩ (fun H locs hP hS => ?_)
        refine lv_iconst (v := 0) hx hb dX8_format_349 (by decide) ?_
        refine lv_istore (lv' := [(6, .int 0), (0, .ref (ad 0)), (4, .int x4), (5, .int x5)]) hx hb dX8_format_350 hl (by decide) rfl (fun ls hl => ?_)
        exact L352 k173 hk173 k194 hk194 F x4 x5 0 D7 _ _ _ h hP hS (lv_sub hl [1, 2, 3, 0] rfl)
      · have h := x_f (show ¬ (64 ≤ x6) from c6) h
        refine lv_aload_n hx hb dX8_format_309 rfl (lv_at hl 0 rfl) ?_
        refine x_get hx hb ht0 u_X8 hown hK hP (mk_0).1 (ce8 (mk_0).2) rfl 18 (by decide) (ht0 _ m_FL_X8_37) rfl (rfv (G := MG) (c := 0) (k := 18) (c' := 8) rfl) dX8_format_310 ?_
        refine lv_iload hx hb dX8_format_313 (lv_at hl 3 rfl) ?_
        refine lv_iload hx hb dX8_format_315 (lv_at hl 1 rfl) ?_
        refine lv_bipush (v := 9) hx hb dX8_format_317 (by decide) ?_
        refine lv_icmp_ne (tgt := 337) hx hb dX8_format_319 (by decide) (fun c8 => ?_) (fun c8 => ?_)
        · have h := x_f (show ¬ (x4 = 9) from c8) h
          refine lv_iconst (v := 0) hx hb dX8_format_337 (by decide) ?_
          obtain ⟨b9, h⟩ := x_if h
          refine x_ast hx hb hK ij hP hS mk_8 b9 dX8_format_338 (fun H locs hP hS => ?_)
          refine lv_iinc (v := x6 + 1) (lv' := [(6, .int (x6 + 1)), (0, .ref (ad 0)), (4, .int x4), (5, .int x5)]) hx hb dX8_format_339 hl (k := 3) rfl rfl (by decide) rfl (fun ls hl => ?_)
          refine lv_goto (tgt := 302) hx hb dX8_format_342 (by decide) ?_
          exact ih x4 x5 (x6 + 1) (up2 D 8 (Int32.toNatClampNeg x6) 0) _ _ _ h hP hS (lv_sub hl [1, 2, 3, 0] rfl)
        · have h := x_t (show x4 = 9 from c8) h
          refine lv_iload hx hb dX8_format_322 (lv_at hl 2 rfl) ?_
          refine lv_if_ne (tgt := 337) hx hb dX8_format_324 (by decide) (fun c10 => ?_) (fun c10 => ?_)
          · have h := x_f (show ¬ (x5 = 0) from c10) h
            refine lv_iconst (v := 0) hx hb dX8_format_337 (by decide) ?_
            obtain ⟨b11, h⟩ := x_if h
            refine x_ast hx hb hK ij hP hS mk_8 b11 dX8_format_338 (fun H locs hP hS => ?_)
            refine lv_iinc (v := x6 + 1) (lv' := [(6, .int (x6 + 1)), (0, .ref (ad 0)), (4, .int x4), (5, .int x5)]) hx hb dX8_format_339 hl (k := 3) rfl rfl (by decide) rfl (fun ls hl => ?_)
            refine lv_goto (tgt := 302) hx hb dX8_format_342 (by decide) ?_
            exact ih x4 x5 (x6 + 1) (up2 D 8 (Int32.toNatClampNeg x6) 0) _ _ _ h hP hS (lv_sub hl [1, 2, 3, 0] rfl)
          · have h := x_t (show x5 = 0 from c10) h
            refine lv_aload_n hx hb dX8_format_327 rfl (lv_at hl 0 rfl) ?_
            refine x_get hx hb ht0 u_X8 hown hK hP (mk_0).1 (ce8 (mk_0).2) rfl 19 (by decide) (ht0 _ m_FL_X8_40) rfl (rfv (G := MG) (c := 0) (k := 19) (c' := 9) rfl) dX8_format_328 ?_
            refine lv_iload hx hb dX8_format_331 (lv_at hl 3 rfl) ?_
            obtain ⟨b12, h⟩ := x_if h
            refine x_ald hx hb hK hP mk_9 b12 dX8_format_333 ?_
            refine lv_goto (tgt := 338) hx hb dX8_format_334 (by decide) ?_
            obtain ⟨b13, h⟩ := x_if h
            refine x_ast hx hb hK ij hP hS mk_8 b13 dX8_format_338 (fun H locs hP hS => ?_)
            refine lv_iinc (v := x6 + 1) (lv' := [(6, .int (x6 + 1)), (0, .ref (ad 0)), (4, .int x4), (5, .int x5)]) hx hb dX8_format_339 hl (k := 3) rfl rfl (by decide) rfl (fun ls hl => ?_)
            refine lv_goto (tgt := 302) hx hb dX8_format_342 (by decide) ?_
            exact ih x4 x5 (x6 + 1) (up2 D 8 (Int32.toNatClampNeg x6) (D 9 (Int32.toNatClampNeg x6))) _ _ _ h hP hS (lv_sub hl [1, 2, 3, 0] rfl)
  have L278 : ∀ (k173 : Int32 → Mm → Rs) (hk173 : ∀ (x4 : Int32) (D : Mm) (H : Heap) (locs : List Loc) (ls : Array Slot), k173 x4 D = some (r0, D') → va_P dd vwCl (wW Y MG ad D) H → va_S (pA MG ad) s.heap H locs → lv_has ls 7 [(0, .ref (ad 0)), (4, .int x4)] → W p l e (headSpec wzX8_format rm_X8_format).room s m ([.ref (ad 0), .int a1, .int a2, .int a3].toArray) below meth c H locs 0 0 (MQ below (Qi dd Y MG ad .int r0 D') ([.ref (ad 0), .int a1, .int a2, .int a3].toArray) s 0 0 (pA MG ad)) (F0 m 173 ls [])) (k194 : Int32 → Int32 → Mm → Rs) (hk194 : ∀ (x4 x5 : Int32) (D : Mm) (H : Heap) (locs : List Loc) (ls : Array Slot), k194 x4 x5 D = some (r0, D') → va_P dd vwCl (wW Y MG ad D) H → va_S (pA MG ad) s.heap H locs → lv_has ls 7 [(0, .ref (ad 0)), (4, .int x4), (5, .int x5)] → W p l e (headSpec wzX8_format rm_X8_format).room s m ([.ref (ad 0), .int a1, .int a2, .int a3].toArray) below meth c H locs 0 0 (MQ below (Qi dd Y MG ad .int r0 D') ([.ref (ad 0), .int a1, .int a2, .int a3].toArray) s 0 0 (pA MG ad)) (F0 m 194 ls [])), ∀ (n : Nat), ∀ (x4 x5 x6 : Int32) (D : Mm) (H : Heap) (locs : List Loc) (ls : Array Slot), P_X8_format_278 (gN MG) F k173 k194 n x4 x5 x6 D = some (r0, D') → va_P dd vwCl (wW Y MG ad D) H → va_S (pA MG ad) s.heap H locs → lv_has ls 7 [(0, .ref (ad 0)), (4, .int x4), (5, .int x5), (6, .int x6)] → W p l e (headSpec wzX8_format rm_X8_format).room s m ([.ref (ad 0), .int a1, .int a2, .int a3].toArray) below meth c H locs 0 0 (MQ below (Qi dd Y MG ad .int r0 D') ([.ref (ad 0), .int a1, .int a2, .int a3].toArray) s 0 0 (pA MG ad)) (F0 m 278 ls []) := by
    intro k173 hk173 k194 hk194 n
    induction n with
    | zero =>
      intro x4 x5 x6 D H locs ls h hP hS hl
      cases h
    | succ n ih =>
      intro x4 x5 x6 D H locs ls h hP hS hl
      have h : ((if 6 ≤ x6 then (P_X8_format_302 (gN MG) F k173 k194 F x4 x5 0 D) else (bi (P_X8_putBits (gN MG) F 85 8 D) (fun r15 D15 => P_X8_format_278 (gN MG) F k173 k194 n x4 x5 (x6 + 1) D15))) : Rs) = some (r0, D') := h
      refine lv_iload hx hb dX8_format_278 (lv_at hl 3 rfl) ?_
      refine lv_bipush (v := 6) hx hb dX8_format_280 (by decide) ?_
      refine lv_icmp_ge (tgt := 299) hx hb dX8_format_282 (by decide) (fun c14 => ?_) (fun c14 => ?_)
      · have h := x_t (show 6 ≤ x6 from c14) h
        refine lv_iconst (v := 0) hx hb dX8_format_299 (by decide) ?_
        refine lv_istore (lv' := [(6, .int 0), (0, .ref (ad 0)), (4, .int x4), (5, .int x5)]) hx hb dX8_format_300 hl (by decide) rfl (fun ls hl => ?_)
        exact L302 k173 hk173 k194 hk194 F x4 x5 0 D _ _ _ h hP hS (lv_sub hl [1, 2, 3, 0] rfl)
      · have h := x_f (show ¬ (6 ≤ x6) from c14) h
        refine lv_aload_n hx hb dX8_format_285 rfl (lv_at hl 0 rfl) ?_
        refine lv_bipush (v := 85) hx hb dX8_format_286 (by decide) ?_
        refine lv_bipush (v := 8) hx hb dX8_format_288 (by decide) ?_
        obtain ⟨r15, D15, hc15, h⟩ := bi_some h
        refine x_callVv (As := [.int 85, .int 8]) ⟨hx, hb, hml, hown, ht0⟩ hK hT hP hS (c_X8_putBits l dd Y t ad ij F 85 8 _ _ _ hc15) m_ML_X8_92 sv_X8_putBits hd_X8_putBits rfl rfl ⟨Nat.le_of_ble_eq_true rfl, Nat.le_of_ble_eq_true rfl⟩ (mk_0).1 (ce8 (mk_0).2) rfl rfl hl.1 rfl (Nat.le_of_ble_eq_true rfl) dX8_format_290 ⟨Nat.zero_le _, Nat.zero_le _⟩ (fun H locs hP hS => ?_)
        refine lv_iinc (v := x6 + 1) (lv' := [(6, .int (x6 + 1)), (0, .ref (ad 0)), (4, .int x4), (5, .int x5)]) hx hb dX8_format_293 hl (k := 3) rfl rfl (by decide) rfl (fun ls hl => ?_)
        refine lv_goto (tgt := 278) hx hb dX8_format_296 (by decide) ?_
        exact ih x4 x5 (x6 + 1) D15 _ _ _ h hP hS (lv_sub hl [1, 2, 3, 0] rfl)
  have L194 : ∀ (k173 : Int32 → Mm → Rs) (hk173 : ∀ (x4 : Int32) (D : Mm) (H : Heap) (locs : List Loc) (ls : Array Slot), k173 x4 D = some (r0, D') → va_P dd vwCl (wW Y MG ad D) H → va_S (pA MG ad) s.heap H locs → lv_has ls 7 [(0, .ref (ad 0)), (4, .int x4)] → W p l e (headSpec wzX8_format rm_X8_format).room s m ([.ref (ad 0), .int a1, .int a2, .int a3].toArray) below meth c H locs 0 0 (MQ below (Qi dd Y MG ad .int r0 D') ([.ref (ad 0), .int a1, .int a2, .int a3].toArray) s 0 0 (pA MG ad)) (F0 m 173 ls [])), ∀ (n : Nat), ∀ (x4 x5 : Int32) (D : Mm) (H : Heap) (locs : List Loc) (ls : Array Slot), P_X8_format_194 (gN MG) F k173 n x4 x5 D = some (r0, D') → va_P dd vwCl (wW Y MG ad D) H → va_S (pA MG ad) s.heap H locs → lv_has ls 7 [(0, .ref (ad 0)), (4, .int x4), (5, .int x5)] → W p l e (headSpec wzX8_format rm_X8_format).room s m ([.ref (ad 0), .int a1, .int a2, .int a3].toArray) below meth c H locs 0 0 (MQ below (Qi dd Y MG ad .int r0 D') ([.ref (ad 0), .int a1, .int a2, .int a3].toArray) s 0 0 (pA MG ad)) (F0 m 194 ls []) := by
    intro k173 hk173 n
    induction n with
    | zero =>
      intro x4 x5 D H locs ls h hP hS hl
      cases h
    | succ n ih =>
      intro x4 x5 D H locs ls h hP hS hl
      have h : ((bi (P_X8_sectorsOf (gN MG) F x4 D) (fun r16 D16 => if r16 ≤ x5 then (P_X8_format_379 (gN MG) F k173 F x4 D16) else (bi (P_X8_putSync (gN MG) F D16) (fun r18 D18 => bi (P_X8_putCoded (gN MG) F 8 D18) (fun r19 D19 => bi (P_X8_putCoded (gN MG) F (((x5 ^^^ x4) ^^^ ((D19 0 4) >>> (8 &&& 31))) ^^^ ((D19 0 4) &&& 255)) D19) (fun r20 D20 => bi (P_X8_putCoded (gN MG) F x5 D20) (fun r21 D21 => bi (P_X8_putCoded (gN MG) F x4 D21) (fun r22 D22 => bi (P_X8_putCoded (gN MG) F ((D22 0 4) >>> (8 &&& 31)) D22) (fun r23 D23 => bi (P_X8_putCoded (gN MG) F ((D23 0 4) &&& 255) D23) (fun r24 D24 => P_X8_format_278 (gN MG) F k173 (fun x4 x5 D => P_X8_format_194 (gN MG) F k173 n x4 x5 D) F x4 x5 0 D24)))))))))) : Rs) = some (r0, D') := h
      refine lv_iload hx hb dX8_format_194 (lv_at hl 2 rfl) ?_
      refine lv_iload hx hb dX8_format_196 (lv_at hl 1 rfl) ?_
      obtain ⟨r16, D16, hc16, h⟩ := bi_some h
      refine x_callSi (As := [.int x4]) ⟨hx, hb, hml, hown, ht0⟩ hK hT hP hS (c_X8_sectorsOf l dd Y t ad ij F x4 _ _ _ hc16) m_ML_X8_77 ss_X8_sectorsOf hd_X8_sectorsOf rfl rfl ⟨Nat.le_of_ble_eq_true rfl, Nat.le_of_ble_eq_true rfl⟩ rfl hl.1 rfl (Nat.le_of_ble_eq_true rfl) dX8_format_198 ⟨Nat.zero_le _, Nat.zero_le _⟩ (fun H locs hn_r16 hP hS => ?_)
      refine lv_icmp_ge (tgt := 379) hx hb dX8_format_201 (by decide) (fun c17 => ?_) (fun c17 => ?_)
      · have h := x_t (show r16 ≤ x5 from c17) h
        exact L379 k173 hk173 F x4 D16 _ _ _ h hP hS (lv_sub hl [0, 1] rfl)
      · have h := x_f (show ¬ (r16 ≤ x5) from c17) h
        refine lv_aload_n hx hb dX8_format_204 rfl (lv_at hl 0 rfl) ?_
        obtain ⟨r18, D18, hc18, h⟩ := bi_some h
        refine x_callVv (As := []) ⟨hx, hb, hml, hown, ht0⟩ hK hT hP hS (c_X8_putSync l dd Y t ad ij F  _ _ _ hc18) m_ML_X8_96 sv_X8_putSync hd_X8_putSync rfl rfl ⟨Nat.le_of_ble_eq_true rfl, Nat.le_of_ble_eq_true rfl⟩ (mk_0).1 (ce8 (mk_0).2) rfl rfl hl.1 rfl (Nat.le_of_ble_eq_true rfl) dX8_format_205 ⟨Nat.zero_le _, Nat.zero_le _⟩ (fun H locs hP hS => ?_)
        refine lv_aload_n hx hb dX8_format_208 rfl (lv_at hl 0 rfl) ?_
        refine lv_bipush (v := 8) hx hb dX8_format_209 (by decide) ?_
        obtain ⟨r19, D19, hc19, h⟩ := bi_some h
        refine x_callVv (As := [.int 8]) ⟨hx, hb, hml, hown, ht0⟩ hK hT hP hS (c_X8_putCoded l dd Y t ad ij F 8 _ _ _ hc19) m_ML_X8_99 sv_X8_putCoded hd_X8_putCoded rfl rfl ⟨Nat.le_of_ble_eq_true rfl, Nat.le_of_ble_eq_true rfl⟩ (mk_0).1 (ce8 (mk_0).2) rfl rfl hl.1 rfl (Nat.le_of_ble_eq_true rfl) dX8_format_211 ⟨Nat.zero_le _, Nat.zero_le _⟩ (fun H locs hP hS => ?_)
        refine lv_aload_n hx hb dX8_format_214 rfl (lv_at hl 0 rfl) ?_
        refine lv_iload hx hb dX8_format_215 (lv_at hl 2 rfl) ?_
        refine lv_iload hx hb dX8_format_217 (lv_at hl 1 rfl) ?_
        refine lv_ixor hx hb dX8_format_219 ?_
        refine lv_aload_n hx hb dX8_format_220 rfl (lv_at hl 0 rfl) ?_
        refine x_get hx hb ht0 u_X8 hown hK hP (mk_0).1 (ce8 (mk_0).2) rfl 4 (by decide) (ht0 _ m_FL_X8_24) rfl rfl dX8_format_221 ?_
        refine lv_bipush (v := 8) hx hb dX8_format_224 (by decide) ?_
        refine lv_ishr hx hb dX8_format_226 ?_
        refine lv_ixor hx hb dX8_format_227 ?_
        refine lv_aload_n hx hb dX8_format_228 rfl (lv_at hl 0 rfl) ?_
        refine x_get hx hb ht0 u_X8 hown hK hP (mk_0).1 (ce8 (mk_0).2) rfl 4 (by decide) (ht0 _ m_FL_X8_24) rfl rfl dX8_format_229 ?_
        refine lv_sipush (v := 255) hx hb dX8_format_232 (by decide) ?_
        refine lv_iand hx hb dX8_format_235 ?_
        refine lv_ixor hx hb dX8_format_236 ?_
        obtain ⟨r20, D20, hc20, h⟩ := bi_some h
        refine x_callVv (As := [.int (((x5 ^^^ x4) ^^^ ((D19 0 4) >>> (8 &&& 31))) ^^^ ((D19 0 4) &&& 255))]) ⟨hx, hb, hml, hown, ht0⟩ hK hT hP hS (c_X8_putCoded l dd Y t ad ij F (((x5 ^^^ x4) ^^^ ((D19 0 4) >>> (8 &&& 31))) ^^^ ((D19 0 4) &&& 255)) _ _ _ hc20) m_ML_X8_99 sv_X8_putCoded hd_X8_putCoded rfl rfl ⟨Nat.le_of_ble_eq_true rfl, Nat.le_of_ble_eq_true rfl⟩ (mk_0).1 (ce8 (mk_0).2) rfl rfl hl.1 rfl (Nat.le_of_ble_eq_true rfl) dX8_format_237 ⟨Nat.zero_le _, Nat.zero_le _⟩ (fun H locs hP hS => ?_)
        refine lv_aload_n hx hb dX8_format_240 rfl (lv_at hl 0 rfl) ?_
        refine lv_iload hx hb dX8_format_241 (lv_at hl 2 rfl) ?_
        obtain ⟨r21, D21, hc21, h⟩ := bi_some h
        refine x_callVv (As := [.int x5]) ⟨hx, hb, hml, hown, ht0⟩ hK hT hP hS (c_X8_putCoded l dd Y t ad ij F x5 _ _ _ hc21) m_ML_X8_99 sv_X8_putCoded hd_X8_putCoded rfl rfl ⟨Nat.le_of_ble_eq_true rfl, Nat.le_of_ble_eq_true rfl⟩ (mk_0).1 (ce8 (mk_0).2) rfl rfl hl.1 rfl (Nat.le_of_ble_eq_true rfl) dX8_format_243 ⟨Nat.zero_le _, Nat.zero_le _⟩ (fun H locs hP hS => ?_)
        refine lv_aload_n hx hb dX8_format_246 rfl (lv_at hl 0 rfl) ?_
        refine lv_iload hx hb dX8_format_247 (lv_at hl 1 rfl) ?_
        obtain ⟨r22, D22, hc22, h⟩ := bi_some h
        refine x_callVv (As := [.int x4]) ⟨hx, hb, hml, hown, ht0⟩ hK hT hP hS (c_X8_putCoded l dd Y t ad ij F x4 _ _ _ hc22) m_ML_X8_99 sv_X8_putCoded hd_X8_putCoded rfl rfl ⟨Nat.le_of_ble_eq_true rfl, Nat.le_of_ble_eq_true rfl⟩ (mk_0).1 (ce8 (mk_0).2) rfl rfl hl.1 rfl (Nat.le_of_ble_eq_true rfl) dX8_format_249 ⟨Nat.zero_le _, Nat.zero_le _⟩ (fun H locs hP hS => ?_)
        refine lv_aload_n hx hb dX8_format_252 rfl (lv_at hl 0 rfl) ?_
        refine lv_aload_n hx hb dX8_format_253 rfl (lv_at hl 0 rfl) ?_
        refine x_get hx hb ht0 u_X8 hown hK hP (mk_0).1 (ce8 (mk_0).2) rfl 4 (by decide) (ht0 _ m_FL_X8_24) rfl rfl dX8_format_254 ?_
        refine lv_bipush (v := 8) hx hb dX8_format_257 (by decide) ?_
        refine lv_ishr hx hb dX8_format_259 ?_
        obtain ⟨r23, D23, hc23, h⟩ := bi_some h
        refine x_callVv (As := [.int ((D22 0 4) >>> (8 &&& 31))]) ⟨hx, hb, hml, hown, ht0⟩ hK hT hP hS (c_X8_putCoded l dd Y t ad ij F ((D22 0 4) >>> (8 &&& 31)) _ _ _ hc23) m_ML_X8_99 sv_X8_putCoded hd_X8_putCoded rfl rfl ⟨Nat.le_of_ble_eq_true rfl, Nat.le_of_ble_eq_true rfl⟩ (mk_0).1 (ce8 (mk_0).2) rfl rfl hl.1 rfl (Nat.le_of_ble_eq_true rfl) dX8_format_260 ⟨Nat.zero_le _, Nat.zero_le _⟩ (fun H locs hP hS => ?_)
        refine lv_aload_n hx hb dX8_format_263 rfl (lv_at hl 0 rfl) ?_
        refine lv_aload_n hx hb dX8_format_264 rfl (lv_at hl 0 rfl) ?_
        refine x_get hx hb ht0 u_X8 hown hK hP (mk_0).1 (ce8 (mk_0).2) rfl 4 (by decide) (ht0 _ m_FL_X8_24) rfl rfl dX8_format_265 ?_
        refine lv_sipush (v := 255) hx hb dX8_format_268 (by decide) ?_
        refine lv_iand hx hb dX8_format_271 ?_
        obtain ⟨r24, D24, hc24, h⟩ := bi_some h
        refine x_callVv (As := [.int ((D23 0 4) &&& 255)]) ⟨hx, hb, hml, hown, ht0⟩ hK hT hP hS (c_X8_putCoded l dd Y t ad ij F ((D23 0 4) &&& 255) _ _ _ hc24) m_ML_X8_99 sv_X8_putCoded hd_X8_putCoded rfl rfl ⟨Nat.le_of_ble_eq_true rfl, Nat.le_of_ble_eq_true rfl⟩ (mk_0).1 (ce8 (mk_0).2) rfl rfl hl.1 rfl (Nat.le_of_ble_eq_true rfl) dX8_format_272 ⟨Nat.zero_le _, Nat.zero_le _⟩ (fun H locs hP hS => ?_)
        refine lv_iconst (v := 0) hx hb dX8_format_275 (by decide) ?_
        refine lv_istore (lv' := [(6, .int 0), (0, .ref (ad 0)), (4, .int x4), (5, .int x5)]) hx hb dX8_format_276 hl (by decide) rfl (fun ls hl => ?_)
        exact L278 k173 hk173 (fun x4 x5 D => P_X8_format_194 (gN MG) F k173 n x4 x5 D) ih F x4 x5 0 D24 _ _ _ h hP hS (lv_sub hl [1, 2, 3, 0] rfl)
  have L173 : ∀ (n : Nat), ∀ (x4 : Int32) (D : Mm) (H : Heap) (locs : List Loc) (ls : Array Slot), P_X8_format_173 (gN MG) F n x4 D = some (r0, D') → va_P dd vwCl (wW Y MG ad D) H → va_S (pA MG ad) s.heap H locs → lv_has ls 7 [(0, .ref (ad 0)), (4, .int x4)] → W p l e (headSpec wzX8_format rm_X8_format).room s m ([.ref (ad 0), .int a1, .int a2, .int a3].toArray) below meth c H locs 0 0 (MQ below (Qi dd Y MG ad .int r0 D') ([.ref (ad 0), .int a1, .int a2, .int a3].toArray) s 0 0 (pA MG ad)) (F0 m 173 ls []) := by
    intro n
    induction n with
    | zero =>
      intro x4 D H locs ls h hP hS hl
      cases h
    | succ n ih =>
      intro x4 D H locs ls h hP hS hl
      have h : ((if 16 < x4 then (bi (P_X8_ends (gN MG) F 0 0 0 D) (fun r26 D26 => some (r26, D26))) else (P_X8_format_194 (gN MG) F (fun x4 D => P_X8_format_173 (gN MG) F n x4 D) F x4 0 (up2 (up2 D 0 29 x4) 0 30 0))) : Rs) = some (r0, D') := h
      refine lv_iload hx hb dX8_format_173 (lv_at hl 1 rfl) ?_
      refine lv_bipush (v := 16) hx hb dX8_format_175 (by decide) ?_
      refine lv_icmp_gt (tgt := 408) hx hb dX8_format_177 (by decide) (fun c25 => ?_) (fun c25 => ?_)
      · have h := x_t (show 16 < x4 from c25) h
        refine lv_aload_n hx hb dX8_format_408 rfl (lv_at hl 0 rfl) ?_
        refine lv_iconst (v := 0) hx hb dX8_format_409 (by decide) ?_
        refine lv_iconst (v := 0) hx hb dX8_format_410 (by decide) ?_
        refine lv_iconst (v := 0) hx hb dX8_format_411 (by decide) ?_
        obtain ⟨r26, D26, hc26, h⟩ := bi_some h
        refine x_callVi (As := [.int 0, .int 0, .int 0]) ⟨hx, hb, hml, hown, ht0⟩ hK hT hP hS (c_X8_ends l dd Y t ad ij F 0 0 0 _ _ _ hc26) m_ML_X8_143 sv_X8_ends hd_X8_ends rfl rfl ⟨Nat.le_of_ble_eq_true rfl, Nat.le_of_ble_eq_true rfl⟩ (mk_0).1 (ce8 (mk_0).2) rfl rfl hl.1 rfl (Nat.le_of_ble_eq_true rfl) dX8_format_412 ⟨Nat.zero_le _, Nat.zero_le _⟩ (fun H locs hn_r26 hP hS => ?_)
        exact x_iret hx hb hr hlocks rfl hP hS h dX8_format_415
      · have h := x_f (show ¬ (16 < x4) from c25) h
        refine lv_aload_n hx hb dX8_format_180 rfl (lv_at hl 0 rfl) ?_
        refine lv_iload hx hb dX8_format_181 (lv_at hl 1 rfl) ?_
        refine x_put (ty := .int) hx hb ht0 u_X8 tyX8 tyX8_ok nmX8 hown hK ij hP hS (mk_0).1 (ce8 (mk_0).2) rfl 29 (by decide) (ht0 _ m_FL_X8_86) rfl rfl (by decide +kernel) rfl rfl (Nat.le_of_ble_eq_true rfl) (by rw [(mk_0).2]; rfl) dX8_format_183 (fun H locs hP hS => ?_)
        refine lv_aload_n hx hb dX8_format_186 rfl (lv_at hl 0 rfl) ?_
        refine lv_iconst (v := 0) hx hb dX8_format_187 (by decide) ?_
        refine x_put (ty := .int) hx hb ht0 u_X8 tyX8 tyX8_ok nmX8 hown hK ij hP hS (mk_0).1 (ce8 (mk_0).2) rfl 30 (by decide) (ht0 _ m_FL_X8_89) rfl rfl (by decide +kernel) rfl rfl (Nat.le_of_ble_eq_true rfl) (by rw [(mk_0).2]; rfl) dX8_format_188 (fun H locs hP hS => ?_)
        refine lv_iconst (v := 0) hx hb dX8_format_191 (by decide) ?_
        refine lv_istore (lv' := [(5, .int 0), (0, .ref (ad 0)), (4, .int x4)]) hx hb dX8_format_192 hl (by decide) rfl (fun ls hl => ?_)
        exact L194 (fun x4 D => P_X8_format_173 (gN MG) F n x4 D) ih F x4 0 (up2 (up2 D 0 29 x4) 0 30 0) _ _ _ h hP hS (lv_sub hl [1, 2, 0] rfl)
  have L170 : ∀ (D : Mm) (H : Heap) (locs : List Loc) (ls : Array Slot), P_X8_format_170 (gN MG) F D = some (r0, D') → va_P dd vwCl (wW Y MG ad D) H → va_S (pA MG ad) s.heap H locs → lv_has ls 7 [(0, .ref (ad 0))] → W p l e (headSpec wzX8_format rm_X8_format).room s m ([.ref (ad 0), .int a1, .int a2, .int a3].toArray) below meth c H locs 0 0 (MQ below (Qi dd Y MG ad .int r0 D') ([.ref (ad 0), .int a1, .int a2, .int a3].toArray) s 0 0 (pA MG ad)) (F0 m 170 ls []) := by
    intro D H locs ls h hP hS hl
    have h : ((P_X8_format_173 (gN MG) F F 1 D) : Rs) = some (r0, D') := h
    refine lv_iconst (v := 1) hx hb dX8_format_170 (by decide) ?_
    refine lv_istore (lv' := [(4, .int 1), (0, .ref (ad 0))]) hx hb dX8_format_171 hl (by decide) rfl (fun ls hl => ?_)
    exact L173 F 1 D _ _ _ h hP hS (lv_sub hl [1, 0] rfl)
  have L111 : ∀ (n : Nat), ∀ (x2 x3 x4 : Int32) (D : Mm) (H : Heap) (locs : List Loc) (ls : Array Slot), P_X8_format_111 (gN MG) F n x2 x3 x4 D = some (r0, D') → va_P dd vwCl (wW Y MG ad D) H → va_S (pA MG ad) s.heap H locs → lv_has ls 7 [(0, .ref (ad 0)), (2, .int x2), (3, .int x3), (4, .int x4)] → W p l e (headSpec wzX8_format rm_X8_format).room s m ([.ref (ad 0), .int a1, .int a2, .int a3].toArray) below meth c H locs 0 0 (MQ below (Qi dd Y MG ad .int r0 D') ([.ref (ad 0), .int a1, .int a2, .int a3].toArray) s 0 0 (pA MG ad)) (F0 m 111 ls []) := by
    intro n
    induction n with
    | zero =>
      intro x2 x3 x4 D H locs ls h hP hS hl
      cases h
    | succ n ih =>
      intro x2 x3 x4 D H locs ls h hP hS hl
      have h : ((if 8 ≤ x4 then (if inB 48 ((gN MG) 9) = true then (if inB 49 ((gN MG) 9) = true then (P_X8_format_170 (gN MG) F (up2 (up2 D 9 (Int32.toNatClampNeg 48) ((D 0 4) >>> (8 &&& 31))) 9 (Int32.toNatClampNeg 49) (((up2 D 9 (Int32.toNatClampNeg 48) ((D 0 4) >>> (8 &&& 31))) 0 4) &&& 255))) else none) else none) else (bi (P_X8_nameByte (gN MG) F x2 x3 x4 D) (fun r30 D30 => if inB (40 + x4) ((gN MG) 9) = true then (P_X8_format_111 (gN MG) F n x2 x3 (x4 + 1) (up2 D30 9 (Int32.toNatClampNeg (40 + x4)) r30)) else none))) : Rs) = some (r0, D') := h
      refine lv_iload hx hb dX8_format_111 (lv_at hl 3 rfl) ?_
      refine lv_bipush (v := 8) hx hb dX8_format_113 (by decide) ?_
      refine lv_icmp_ge (tgt := 141) hx hb dX8_format_115 (by decide) (fun c27 => ?_) (fun c27 => ?_)
      · have h := x_t (show 8 ≤ x4 from c27) h
        refine lv_aload_n hx hb dX8_format_141 rfl (lv_at hl 0 rfl) ?_
        refine x_get hx hb ht0 u_X8 hown hK hP (mk_0).1 (ce8 (mk_0).2) rfl 19 (by decide) (ht0 _ m_FL_X8_40) rfl (rfv (G := MG) (c := 0) (k := 19) (c' := 9) rfl) dX8_format_142 ?_
        refine lv_bipush (v := 48) hx hb dX8_format_145 (by decide) ?_
        refine lv_aload_n hx hb dX8_format_147 rfl (lv_at hl 0 rfl) ?_
        refine x_get hx hb ht0 u_X8 hown hK hP (mk_0).1 (ce8 (mk_0).2) rfl 4 (by decide) (ht0 _ m_FL_X8_24) rfl rfl dX8_format_148 ?_
        refine lv_bipush (v := 8) hx hb dX8_format_151 (by decide) ?_
        refine lv_ishr hx hb dX8_format_153 ?_
        obtain ⟨b28, h⟩ := x_if h
        refine x_ast hx hb hK ij hP hS mk_9 b28 dX8_format_154 (fun H locs hP hS => ?_)
        refine lv_aload_n hx hb dX8_format_155 rfl (lv_at hl 0 rfl) ?_
        refine x_get hx hb ht0 u_X8 hown hK hP (mk_0).1 (ce8 (mk_0).2) rfl 19 (by decide) (ht0 _ m_FL_X8_40) rfl (rfv (G := MG) (c := 0) (k := 19) (c' := 9) rfl) dX8_format_156 ?_
        refine lv_bipush (v := 49) hx hb dX8_format_159 (by decide) ?_
        refine lv_aload_n hx hb dX8_format_161 rfl (lv_at hl 0 rfl) ?_
        refine x_get hx hb ht0 u_X8 hown hK hP (mk_0).1 (ce8 (mk_0).2) rfl 4 (by decide) (ht0 _ m_FL_X8_24) rfl rfl dX8_format_162 ?_
        refine lv_sipush (v := 255) hx hb dX8_format_165 (by decide) ?_
        refine lv_iand hx hb dX8_format_168 ?_
        obtain ⟨b29, h⟩ := x_if h
        refine x_ast hx hb hK ij hP hS mk_9 b29 dX8_format_169 (fun H locs hP hS => ?_)
        exact L170 (up2 (up2 D 9 (Int32.toNatClampNeg 48) ((D 0 4) >>> (8 &&& 31))) 9 (Int32.toNatClampNeg 49) (((up2 D 9 (Int32.toNatClampNeg 48) ((D 0 4) >>> (8 &&& 31))) 0 4) &&& 255)) _ _ _ h hP hS (lv_sub hl [0] rfl)
      · have h := x_f (show ¬ (8 ≤ x4) from c27) h
        refine lv_aload_n hx hb dX8_format_118 rfl (lv_at hl 0 rfl) ?_
        refine x_get hx hb ht0 u_X8 hown hK hP (mk_0).1 (ce8 (mk_0).2) rfl 19 (by decide) (ht0 _ m_FL_X8_40) rfl (rfv (G := MG) (c := 0) (k := 19) (c' := 9) rfl) dX8_format_119 ?_
        refine lv_bipush (v := 40) hx hb dX8_format_122 (by decide) ?_
        refine lv_iload hx hb dX8_format_124 (lv_at hl 3 rfl) ?_
        refine lv_iadd hx hb dX8_format_126 ?_
        refine lv_iload_n hx hb dX8_format_127 rfl (lv_at hl 1 rfl) ?_
        refine lv_iload_n hx hb dX8_format_128 rfl (lv_at hl 2 rfl) ?_
        refine lv_iload hx hb dX8_format_129 (lv_at hl 3 rfl) ?_
        obtain ⟨r30, D30, hc30, h⟩ := bi_some h
        refine x_callSi (As := [.int x2, .int x3, .int x4]) ⟨hx, hb, hml, hown, ht0⟩ hK hT hP hS (c_X8_nameByte l dd Y t ad ij F x2 x3 x4 _ _ _ hc30) m_ML_X8_153 ss_X8_nameByte hd_X8_nameByte rfl rfl ⟨Nat.le_of_ble_eq_true rfl, Nat.le_of_ble_eq_true rfl⟩ rfl hl.1 rfl (Nat.le_of_ble_eq_true rfl) dX8_format_131 ⟨Nat.zero_le _, Nat.zero_le _⟩ (fun H locs hn_r30 hP hS => ?_)
        obtain ⟨b31, h⟩ := x_if h
        refine x_ast hx hb hK ij hP hS mk_9 b31 dX8_format_134 (fun H locs hP hS => ?_)
        refine lv_iinc (v := x4 + 1) (lv' := [(4, .int (x4 + 1)), (0, .ref (ad 0)), (2, .int x2), (3, .int x3)]) hx hb dX8_format_135 hl (k := 3) rfl rfl (by decide) rfl (fun ls hl => ?_)
        refine lv_goto (tgt := 111) hx hb dX8_format_138 (by decide) ?_
        exact ih x2 x3 (x4 + 1) (up2 D30 9 (Int32.toNatClampNeg (40 + x4)) r30) _ _ _ h hP hS (lv_sub hl [1, 2, 3, 0] rfl)
  have L60 : ∀ (k50 : Int32 → Int32 → Int32 → Mm → Rs) (hk50 : ∀ (x2 x3 x4 : Int32) (D : Mm) (H : Heap) (locs : List Loc) (ls : Array Slot), k50 x2 x3 x4 D = some (r0, D') → va_P dd vwCl (wW Y MG ad D) H → va_S (pA MG ad) s.heap H locs → lv_has ls 7 [(0, .ref (ad 0)), (2, .int x2), (3, .int x3), (4, .int x4)] → W p l e (headSpec wzX8_format rm_X8_format).room s m ([.ref (ad 0), .int a1, .int a2, .int a3].toArray) below meth c H locs 0 0 (MQ below (Qi dd Y MG ad .int r0 D') ([.ref (ad 0), .int a1, .int a2, .int a3].toArray) s 0 0 (pA MG ad)) (F0 m 50 ls [])), ∀ (n : Nat), ∀ (x2 x3 x4 x5 : Int32) (D : Mm) (H : Heap) (locs : List Loc) (ls : Array Slot), P_X8_format_60 (gN MG) F k50 n x2 x3 x4 x5 D = some (r0, D') → va_P dd vwCl (wW Y MG ad D) H → va_S (pA MG ad) s.heap H locs → lv_has ls 7 [(0, .ref (ad 0)), (2, .int x2), (3, .int x3), (4, .int x4), (5, .int x5)] → W p l e (headSpec wzX8_format rm_X8_format).room s m ([.ref (ad 0), .int a1, .int a2, .int a3].toArray) below meth c H locs 0 0 (MQ below (Qi dd Y MG ad .int r0 D') ([.ref (ad 0), .int a1, .int a2, .int a3].toArray) s 0 0 (pA MG ad)) (F0 m 60 ls []) := by
    intro k50 hk50 n
    induction n with
    | zero =>
      intro x2 x3 x4 x5 D H locs ls h hP hS hl
      cases h
    | succ n ih =>
      intro x2 x3 x4 x5 D H locs ls h hP hS hl
      have h : ((bi (P_X8_sectorsOf (gN MG) F x4 D) (fun r32 D32 => if r32 ≤ x5 then (k50 x2 x3 (x4 + 1) D32) else (if x4 = 9 then (if x5 ≤ 1 then (bi (P_X8_setFree (gN MG) F x4 x5 0 D32) (fun r37 D37 => P_X8_format_60 (gN MG) F k50 n x2 x3 x4 (x5 + 1) D37)) else (bi (P_X8_setFree (gN MG) F x4 x5 1 D32) (fun r38 D38 => P_X8_format_60 (gN MG) F k50 n x2 x3 x4 (x5 + 1) D38))) else (bi (P_X8_setFree (gN MG) F x4 x5 1 D32) (fun r35 D35 => P_X8_format_60 (gN MG) F k50 n x2 x3 x4 (x5 + 1) D35))))) : Rs) = some (r0, D') := h
      refine lv_iload hx hb dX8_format_60 (lv_at hl 4 rfl) ?_
      refine lv_iload hx hb dX8_format_62 (lv_at hl 3 rfl) ?_
      obtain ⟨r32, D32, hc32, h⟩ := bi_some h
      refine x_callSi (As := [.int x4]) ⟨hx, hb, hml, hown, ht0⟩ hK hT hP hS (c_X8_sectorsOf l dd Y t ad ij F x4 _ _ _ hc32) m_ML_X8_77 ss_X8_sectorsOf hd_X8_sectorsOf rfl rfl ⟨Nat.le_of_ble_eq_true rfl, Nat.le_of_ble_eq_true rfl⟩ rfl hl.1 rfl (Nat.le_of_ble_eq_true rfl) dX8_format_64 ⟨Nat.zero_le _, Nat.zero_le _⟩ (fun H locs hn_r32 hP hS => ?_)
      refine lv_icmp_ge (tgt := 102) hx hb dX8_format_67 (by decide) (fun c33 => ?_) (fun c33 => ?_)
      · have h := x_t (show r32 ≤ x5 from c33) h
        refine lv_iinc (v := x4 + 1) (lv' := [(4, .int (x4 + 1)), (0, .ref (ad 0)), (2, .int x2), (3, .int x3), (5, .int x5)]) hx hb dX8_format_102 hl (k := 3) rfl rfl (by decide) rfl (fun ls hl => ?_)
        refine lv_goto (tgt := 50) hx hb dX8_format_105 (by decide) ?_
        exact hk50 x2 x3 (x4 + 1) D32 _ _ _ h hP hS (lv_sub hl [1, 2, 3, 0] rfl)
      · have h := x_f (show ¬ (r32 ≤ x5) from c33) h
        refine lv_aload_n hx hb dX8_format_70 rfl (lv_at hl 0 rfl) ?_
        refine lv_iload hx hb dX8_format_71 (lv_at hl 3 rfl) ?_
        refine lv_iload hx hb dX8_format_73 (lv_at hl 4 rfl) ?_
        refine lv_iload hx hb dX8_format_75 (lv_at hl 3 rfl) ?_
        refine lv_bipush (v := 9) hx hb dX8_format_77 (by decide) ?_
        refine lv_icmp_ne (tgt := 88) hx hb dX8_format_79 (by decide) (fun c34 => ?_) (fun c34 => ?_)
        · have h := x_f (show ¬ (x4 = 9) from c34) h
          refine lv_iconst (v := 1) hx hb dX8_format_88 (by decide) ?_
          refine lv_goto (tgt := 93) hx hb dX8_format_89 (by decide) ?_
          obtain ⟨r35, D35, hc35, h⟩ := bi_some h
          refine x_callVv (As := [.int x4, .int x5, .int 1]) ⟨hx, hb, hml, hown, ht0⟩ hK hT hP hS (c_X8_setFree l dd Y t ad ij F x4 x5 1 _ _ _ hc35) m_ML_X8_176 sv_X8_setFree hd_X8_setFree rfl rfl ⟨Nat.le_of_ble_eq_true rfl, Nat.le_of_ble_eq_true rfl⟩ (mk_0).1 (ce8 (mk_0).2) rfl rfl hl.1 rfl (Nat.le_of_ble_eq_true rfl) dX8_format_93 ⟨Nat.zero_le _, Nat.zero_le _⟩ (fun H locs hP hS => ?_)
          refine lv_iinc (v := x5 + 1) (lv' := [(5, .int (x5 + 1)), (0, .ref (ad 0)), (2, .int x2), (3, .int x3), (4, .int x4)]) hx hb dX8_format_96 hl (k := 4) rfl rfl (by decide) rfl (fun ls hl => ?_)
          refine lv_goto (tgt := 60) hx hb dX8_format_99 (by decide) ?_
          exact ih x2 x3 x4 (x5 + 1) D35 _ _ _ h hP hS (lv_sub hl [1, 2, 3, 4, 0] rfl)
        · have h := x_t (show x4 = 9 from c34) h
          refine lv_iload hx hb dX8_format_82 (lv_at hl 4 rfl) ?_
          refine lv_iconst (v := 1) hx hb dX8_format_84 (by decide) ?_
          refine lv_icmp_le (tgt := 92) hx hb dX8_format_85 (by decide) (fun c36 => ?_) (fun c36 => ?_)
          · have h := x_t (show x5 ≤ 1 from c36) h
            refine lv_iconst (v := 0) hx hb dX8_format_92 (by decide) ?_
            obtain ⟨r37, D37, hc37, h⟩ := bi_some h
            refine x_callVv (As := [.int x4, .int x5, .int 0]) ⟨hx, hb, hml, hown, ht0⟩ hK hT hP hS (c_X8_setFree l dd Y t ad ij F x4 x5 0 _ _ _ hc37) m_ML_X8_176 sv_X8_setFree hd_X8_setFree rfl rfl ⟨Nat.le_of_ble_eq_true rfl, Nat.le_of_ble_eq_true rfl⟩ (mk_0).1 (ce8 (mk_0).2) rfl rfl hl.1 rfl (Nat.le_of_ble_eq_true rfl) dX8_format_93 ⟨Nat.zero_le _, Nat.zero_le _⟩ (fun H locs hP hS => ?_)
            refine lv_iinc (v := x5 + 1) (lv' := [(5, .int (x5 + 1)), (0, .ref (ad 0)), (2, .int x2), (3, .int x3), (4, .int x4)]) hx hb dX8_format_96 hl (k := 4) rfl rfl (by decide) rfl (fun ls hl => ?_)
            refine lv_goto (tgt := 60) hx hb dX8_format_99 (by decide) ?_
            exact ih x2 x3 x4 (x5 + 1) D37 _ _ _ h hP hS (lv_sub hl [1, 2, 3, 4, 0] rfl)
          · have h := x_f (show ¬ (x5 ≤ 1) from c36) h
            refine lv_iconst (v := 1) hx hb dX8_format_88 (by decide) ?_
            refine lv_goto (tgt := 93) hx hb dX8_format_89 (by decide) ?_
            obtain ⟨r38, D38, hc38, h⟩ := bi_some h
            refine x_callVv (As := [.int x4, .int x5, .int 1]) ⟨hx, hb, hml, hown, ht0⟩ hK hT hP hS (c_X8_setFree l dd Y t ad ij F x4 x5 1 _ _ _ hc38) m_ML_X8_176 sv_X8_setFree hd_X8_setFree rfl rfl ⟨Nat.le_of_ble_eq_true rfl, Nat.le_of_ble_eq_true rfl⟩ (mk_0).1 (ce8 (mk_0).2) rfl rfl hl.1 rfl (Nat.le_of_ble_eq_true rfl) dX8_format_93 ⟨Nat.zero_le _, Nat.zero_le _⟩ (fun H locs hP hS => ?_)
            refine lv_iinc (v := x5 + 1) (lv' := [(5, .int (x5 + 1)), (0, .ref (ad 0)), (2, .int x2), (3, .int x3), (4, .int x4)]) hx hb dX8_format_96 hl (k := 4) rfl rfl (by decide) rfl (fun ls hl => ?_)
            refine lv_goto (tgt := 60) hx hb dX8_format_99 (by decide) ?_
            exact ih x2 x3 x4 (x5 + 1) D38 _ _ _ h hP hS (lv_sub hl [1, 2, 3, 4, 0] rfl)
  have L50 : ∀ (n : Nat), ∀ (x2 x3 x4 : Int32) (D : Mm) (H : Heap) (locs : List Loc) (ls : Array Slot), P_X8_format_50 (gN MG) F n x2 x3 x4 D = some (r0, D') → va_P dd vwCl (wW Y MG ad D) H → va_S (pA MG ad) s.heap H locs → lv_has ls 7 [(0, .ref (ad 0)), (2, .int x2), (3, .int x3), (4, .int x4)] → W p l e (headSpec wzX8_format rm_X8_format).room s m ([.ref (ad 0), .int a1, .int a2, .int a3].toArray) below meth c H locs 0 0 (MQ below (Qi dd Y MG ad .int r0 D') ([.ref (ad 0), .int a1, .int a2, .int a3].toArray) s 0 0 (pA MG ad)) (F0 m 50 ls []) := by
    intro n
    induction n with
    | zero =>
      intro x2 x3 x4 D H locs ls h hP hS hl
      cases h
    | succ n ih =>
      intro x2 x3 x4 D H locs ls h hP hS hl
      have h : ((if 16 < x4 then (P_X8_format_111 (gN MG) F F x2 x3 0 D) else (P_X8_format_60 (gN MG) F (fun x2 x3 x4 D => P_X8_format_50 (gN MG) F n x2 x3 x4 D) F x2 x3 x4 0 D)) : Rs) = some (r0, D') := h
      refine lv_iload hx hb dX8_format_50 (lv_at hl 3 rfl) ?_
      refine lv_bipush (v := 16) hx hb dX8_format_52 (by decide) ?_
      refine lv_icmp_gt (tgt := 108) hx hb dX8_format_54 (by decide) (fun c39 => ?_) (fun c39 => ?_)
      · have h := x_t (show 16 < x4 from c39) h
        refine lv_iconst (v := 0) hx hb dX8_format_108 (by decide) ?_
        refine lv_istore (lv' := [(4, .int 0), (0, .ref (ad 0)), (2, .int x2), (3, .int x3)]) hx hb dX8_format_109 hl (by decide) rfl (fun ls hl => ?_)
        exact L111 F x2 x3 0 D _ _ _ h hP hS (lv_sub hl [1, 2, 3, 0] rfl)
      · have h := x_f (show ¬ (16 < x4) from c39) h
        refine lv_iconst (v := 0) hx hb dX8_format_57 (by decide) ?_
        refine lv_istore (lv' := [(5, .int 0), (0, .ref (ad 0)), (2, .int x2), (3, .int x3), (4, .int x4)]) hx hb dX8_format_58 hl (by decide) rfl (fun ls hl => ?_)
        exact L60 (fun x2 x3 x4 D => P_X8_format_50 (gN MG) F n x2 x3 x4 D) ih F x2 x3 x4 0 D _ _ _ h hP hS (lv_sub hl [1, 2, 3, 4, 0] rfl)
  have L11 : ∀ (n : Nat), ∀ (x2 x3 x4 : Int32) (D : Mm) (H : Heap) (locs : List Loc) (ls : Array Slot), P_X8_format_11 (gN MG) F n x2 x3 x4 D = some (r0, D') → va_P dd vwCl (wW Y MG ad D) H → va_S (pA MG ad) s.heap H locs → lv_has ls 7 [(0, .ref (ad 0)), (2, .int x2), (3, .int x3), (4, .int x4)] → W p l e (headSpec wzX8_format rm_X8_format).room s m ([.ref (ad 0), .int a1, .int a2, .int a3].toArray) below meth c H locs 0 0 (MQ below (Qi dd Y MG ad .int r0 D') ([.ref (ad 0), .int a1, .int a2, .int a3].toArray) s 0 0 (pA MG ad)) (F0 m 11 ls []) := by
    intro n
    induction n with
    | zero =>
      intro x2 x3 x4 D H locs ls h hP hS hl
      cases h
    | succ n ih =>
      intro x2 x3 x4 D H locs ls h hP hS hl
      have h : ((if 64 ≤ x4 then (if inB 0 ((gN MG) 9) = true then (if inB 1 ((gN MG) 9) = true then (P_X8_format_50 (gN MG) F F x2 x3 1 (up2 (up2 D 9 (Int32.toNatClampNeg 0) 9) 9 (Int32.toNatClampNeg 1) 1)) else none) else none) else (if inB x4 ((gN MG) 9) = true then (P_X8_format_11 (gN MG) F n x2 x3 (x4 + 1) (up2 D 9 (Int32.toNatClampNeg x4) 0)) else none)) : Rs) = some (r0, D') := h
      refine lv_iload hx hb dX8_format_11 (lv_at hl 3 rfl) ?_
      refine lv_bipush (v := 64) hx hb dX8_format_13 (by decide) ?_
      refine lv_icmp_ge (tgt := 32) hx hb dX8_format_15 (by decide) (fun c40 => ?_) (fun c40 => ?_)
      · have h := x_t (show 64 ≤ x4 from c40) h
        refine lv_aload_n hx hb dX8_format_32 rfl (lv_at hl 0 rfl) ?_
        refine x_get hx hb ht0 u_X8 hown hK hP (mk_0).1 (ce8 (mk_0).2) rfl 19 (by decide) (ht0 _ m_FL_X8_40) rfl (rfv (G := MG) (c := 0) (k := 19) (c' := 9) rfl) dX8_format_33 ?_
        refine lv_iconst (v := 0) hx hb dX8_format_36 (by decide) ?_
        refine lv_bipush (v := 9) hx hb dX8_format_37 (by decide) ?_
        obtain ⟨b41, h⟩ := x_if h
        refine x_ast hx hb hK ij hP hS mk_9 b41 dX8_format_39 (fun H locs hP hS => ?_)
        refine lv_aload_n hx hb dX8_format_40 rfl (lv_at hl 0 rfl) ?_
        refine x_get hx hb ht0 u_X8 hown hK hP (mk_0).1 (ce8 (mk_0).2) rfl 19 (by decide) (ht0 _ m_FL_X8_40) rfl (rfv (G := MG) (c := 0) (k := 19) (c' := 9) rfl) dX8_format_41 ?_
        refine lv_iconst (v := 1) hx hb dX8_format_44 (by decide) ?_
        refine lv_iconst (v := 1) hx hb dX8_format_45 (by decide) ?_
        obtain ⟨b42, h⟩ := x_if h
        refine x_ast hx hb hK ij hP hS mk_9 b42 dX8_format_46 (fun H locs hP hS => ?_)
        refine lv_iconst (v := 1) hx hb dX8_format_47 (by decide) ?_
        refine lv_istore (lv' := [(4, .int 1), (0, .ref (ad 0)), (2, .int x2), (3, .int x3)]) hx hb dX8_format_48 hl (by decide) rfl (fun ls hl => ?_)
        exact L50 F x2 x3 1 (up2 (up2 D 9 (Int32.toNatClampNeg 0) 9) 9 (Int32.toNatClampNeg 1) 1) _ _ _ h hP hS (lv_sub hl [1, 2, 3, 0] rfl)
      · have h := x_f (show ¬ (64 ≤ x4) from c40) h
        refine lv_aload_n hx hb dX8_format_18 rfl (lv_at hl 0 rfl) ?_
        refine x_get hx hb ht0 u_X8 hown hK hP (mk_0).1 (ce8 (mk_0).2) rfl 19 (by decide) (ht0 _ m_FL_X8_40) rfl (rfv (G := MG) (c := 0) (k := 19) (c' := 9) rfl) dX8_format_19 ?_
        refine lv_iload hx hb dX8_format_22 (lv_at hl 3 rfl) ?_
        refine lv_iconst (v := 0) hx hb dX8_format_24 (by decide) ?_
        obtain ⟨b43, h⟩ := x_if h
        refine x_ast hx hb hK ij hP hS mk_9 b43 dX8_format_25 (fun H locs hP hS => ?_)
        refine lv_iinc (v := x4 + 1) (lv' := [(4, .int (x4 + 1)), (0, .ref (ad 0)), (2, .int x2), (3, .int x3)]) hx hb dX8_format_26 hl (k := 3) rfl rfl (by decide) rfl (fun ls hl => ?_)
        refine lv_goto (tgt := 11) hx hb dX8_format_29 (by decide) ?_
        exact ih x2 x3 (x4 + 1) (up2 D 9 (Int32.toNatClampNeg x4) 0) _ _ _ h hP hS (lv_sub hl [1, 2, 3, 0] rfl)
  have hl := lv_entry ([.ref (ad 0), .int a1, .int a2, .int a3]) (n := 7) (Nat.le_of_ble_eq_true rfl)
  rw [lg_entry_eq]
  generalize (lg_sl ([.ref (ad 0), .int a1, .int a2, .int a3]) ++ List.replicate (7 - (lg_sl ([.ref (ad 0), .int a1, .int a2, .int a3])).length) Slot.unset).toArray = ls at hl ⊢
  have hl : lv_has ls 7 [(0, .ref (ad 0)), (1, .int a1), (2, .int a2), (3, .int a3)] := hl
  have hP : va_P dd vwCl (wW Y MG ad D0) s.heap := hP
  generalize D0 = D at h hP
  have h : ((P_X8_format_11 (gN MG) F F a2 a3 0 (up2 D 0 4 (a1 &&& 65535))) : Rs) = some (r0, D') := h
  refine lv_aload_n hx hb dX8_format_0 rfl (lv_at hl 0 rfl) ?_
  refine lv_iload_n hx hb dX8_format_1 rfl (lv_at hl 1 rfl) ?_
  refine lv_ldc hx hb hown (ht0 _ m_KO_X8_175) dX8_format_2 ?_
  refine lv_iand hx hb dX8_format_4 ?_
  refine x_put (ty := .int) hx hb ht0 u_X8 tyX8 tyX8_ok nmX8 hown hK ij hP hS (mk_0).1 (ce8 (mk_0).2) rfl 4 (by decide) (ht0 _ m_FL_X8_24) rfl rfl (by decide +kernel) rfl rfl (Nat.le_of_ble_eq_true rfl) (by rw [(mk_0).2]; rfl) dX8_format_5 (fun H locs hP hS => ?_)
  refine lv_iconst (v := 0) hx hb dX8_format_8 (by decide) ?_
  refine lv_istore (lv' := [(4, .int 0), (0, .ref (ad 0)), (1, .int a1), (2, .int a2), (3, .int a3)]) hx hb dX8_format_9 hl (by decide) rfl (fun ls hl => ?_)
  exact L11 F a2 a3 0 (up2 D 0 4 (a1 &&& 65535)) _ _ _ h hP hS (lv_sub hl [1, 3, 4, 0] rfl)
abbrev rm_X8_mount : Room := { frames := 1, cells := 0, slots := 0, locals := 23 }
set_option maxHeartbeats 4000000 in
set_option maxRecDepth 100000 in
theorem c_X8_mount (l : Launch) (dd : Dd) (Y : Yc) (t : Ts3) (ad : Nat → Nat) (ij : Ij MG ad) (F : Nat) (a1 : Int32) (D0 D' : Mm) (r0 : Int32) (h : P_X8_mount (gN MG) F a1 D0 = some (r0, D')) : Met l yX8_mount wzX8_mount rm_X8_mount (va_Pc [.ref (ad 0), .int a1] (Wd dd Y t MG ad D0)) (Qi dd Y MG ad .int r0 D') 0 0 (pA MG ad) := by
  refine Met.ofW (cc := cX8_mount) (maxL := 2) (ret := (some .int)) (by decide) rfl ?_
  intro p e s m args below meth c s₁ B hml hv
  obtain ⟨rfl, hP, hK, hT⟩ := hv
  have hx := B.exec
  have hb := B.bytes
  have hr := B.returns
  have ht0 : ∀ w ∈ W0, w.before _ s = true := fun w h => atoms_spec (ws := wzX8_mount) B.pre w (List.mem_cons_of_mem _ h)
  have hown : s.vm.findClass RX8 = some m.cls := findClass_of_methodNamed B.named
  have hlocks := B.notSynchronized
  have hS : va_S (pA MG ad) s.heap s.heap [] := va_S.rf
  have hl := lv_entry ([.ref (ad 0), .int a1]) (n := 2) (Nat.le_of_ble_eq_true rfl)
  rw [lg_entry_eq]
  generalize (lg_sl ([.ref (ad 0), .int a1]) ++ List.replicate (2 - (lg_sl ([.ref (ad 0), .int a1])).length) Slot.unset).toArray = ls at hl ⊢
  have hl : lv_has ls 2 [(0, .ref (ad 0)), (1, .int a1)] := hl
  have hP : va_P dd vwCl (wW Y MG ad D0) s.heap := hP
  generalize D0 = D at h hP
  have h : ((bi (P_X8_ends (gN MG) F 0 0 0 (up2 D 0 4 (a1 &&& 65535))) (fun r1 D1 => some (r1, D1))) : Rs) = some (r0, D') := h
  refine lv_aload_n hx hb dX8_mount_0 rfl (lv_at hl 0 rfl) ?_
  refine lv_iload_n hx hb dX8_mount_1 rfl (lv_at hl 1 rfl) ?_
  refine lv_ldc hx hb hown (ht0 _ m_KO_X8_175) dX8_mount_2 ?_
  refine lv_iand hx hb dX8_mount_4 ?_
  refine x_put (ty := .int) hx hb ht0 u_X8 tyX8 tyX8_ok nmX8 hown hK ij hP hS (mk_0).1 (ce8 (mk_0).2) rfl 4 (by decide) (ht0 _ m_FL_X8_24) rfl rfl (by decide +kernel) rfl rfl (Nat.le_of_ble_eq_true rfl) (by rw [(mk_0).2]; rfl) dX8_mount_5 (fun H locs hP hS => ?_)
  refine lv_aload_n hx hb dX8_mount_8 rfl (lv_at hl 0 rfl) ?_
  refine lv_iconst (v := 0) hx hb dX8_mount_9 (by decide) ?_
  refine lv_iconst (v := 0) hx hb dX8_mount_10 (by decide) ?_
  refine lv_iconst (v := 0) hx hb dX8_mount_11 (by decide) ?_
  obtain ⟨r1, D1, hc1, h⟩ := bi_some h
  refine x_callVi (As := [.int 0, .int 0, .int 0]) ⟨hx, hb, hml, hown, ht0⟩ hK hT hP hS (c_X8_ends l dd Y t ad ij F 0 0 0 _ _ _ hc1) m_ML_X8_143 sv_X8_ends hd_X8_ends rfl rfl ⟨Nat.le_of_ble_eq_true rfl, Nat.le_of_ble_eq_true rfl⟩ (mk_0).1 (ce8 (mk_0).2) rfl rfl hl.1 rfl (Nat.le_of_ble_eq_true rfl) dX8_mount_12 ⟨Nat.zero_le _, Nat.zero_le _⟩ (fun H locs hn_r1 hP hS => ?_)
  exact x_iret hx hb hr hlocks rfl hP hS h dX8_mount_15
abbrev rm_X8_takes : Room := { frames := 1, cells := 0, slots := 0, locals := 22 }
set_option maxHeartbeats 4000000 in
set_option maxRecDepth 100000 in
theorem c_X8_takes (l : Launch) (dd : Dd) (Y : Yc) (t : Ts3) (ad : Nat → Nat) (ij : Ij MG ad) (F : Nat) (a1 : Int32) (D0 D' : Mm) (r0 : Int32) (h : P_X8_takes (gN MG) F a1 D0 = some (r0, D')) : Met l yX8_takes wzX8_takes rm_X8_takes (va_Pc [.ref (ad 0), .int a1] (Wd dd Y t MG ad D0)) (Qi dd Y MG ad .boolean r0 D') 0 0 (pA MG ad) := by
  refine Met.ofW (cc := cX8_takes) (maxL := 5) (ret := (some .boolean)) (by decide) rfl ?_
  intro p e s m args below meth c s₁ B hml hv
  obtain ⟨rfl, hP, hK, hT⟩ := hv
  have hx := B.exec
  have hb := B.bytes
  have hr := B.returns
  have ht0 : ∀ w ∈ W0, w.before _ s = true := fun w h => atoms_spec (ws := wzX8_takes) B.pre w (List.mem_cons_of_mem _ h)
  have hown : s.vm.findClass RX8 = some m.cls := findClass_of_methodNamed B.named
  have hlocks := B.notSynchronized
  have hS : va_S (pA MG ad) s.heap s.heap [] := va_S.rf
  have L90 : ∀ (k7 : Int32 → Int32 → Mm → Rs) (hk7 : ∀ (x1 x2 : Int32) (D : Mm) (H : Heap) (locs : List Loc) (ls : Array Slot), k7 x1 x2 D = some (r0, D') → va_P dd vwCl (wW Y MG ad D) H → va_S (pA MG ad) s.heap H locs → lv_has ls 5 [(0, .ref (ad 0)), (1, .int x1), (2, .int x2)] → W p l e (headSpec wzX8_takes rm_X8_takes).room s m ([.ref (ad 0), .int a1].toArray) below meth c H locs 0 0 (MQ below (Qi dd Y MG ad .boolean r0 D') ([.ref (ad 0), .int a1].toArray) s 0 0 (pA MG ad)) (F0 m 7 ls [])) (k33 : Int32 → Int32 → Int32 → Int32 → Mm → Rs) (hk33 : ∀ (x1 x2 x3 x4 : Int32) (D : Mm) (H : Heap) (locs : List Loc) (ls : Array Slot), k33 x1 x2 x3 x4 D = some (r0, D') → va_P dd vwCl (wW Y MG ad D) H → va_S (pA MG ad) s.heap H locs → lv_has ls 5 [(0, .ref (ad 0)), (1, .int x1), (2, .int x2), (3, .int x3), (4, .int x4)] → W p l e (headSpec wzX8_takes rm_X8_takes).room s m ([.ref (ad 0), .int a1].toArray) below meth c H locs 0 0 (MQ below (Qi dd Y MG ad .boolean r0 D') ([.ref (ad 0), .int a1].toArray) s 0 0 (pA MG ad)) (F0 m 33 ls [])), ∀ (x1 x2 x3 x4 : Int32) (D : Mm) (H : Heap) (locs : List Loc) (ls : Array Slot), P_X8_takes_90 (gN MG) F k7 k33 x1 x2 x3 x4 D = some (r0, D') → va_P dd vwCl (wW Y MG ad D) H → va_S (pA MG ad) s.heap H locs → lv_has ls 5 [(0, .ref (ad 0)), (1, .int x1), (2, .int x2), (3, .int x3), (4, .int x4)] → W p l e (headSpec wzX8_takes rm_X8_takes).room s m ([.ref (ad 0), .int a1].toArray) below meth c H locs 0 0 (MQ below (Qi dd Y MG ad .boolean r0 D') ([.ref (ad 0), .int a1].toArray) s 0 0 (pA MG ad)) (F0 m 90 ls []) := by
    intro k7 hk7 k33 hk33 x1 x2 x3 x4 D H locs ls h hP hS hl
    have h : ((k33 x1 x2 x3 (x4 + 1) (up2 D 0 28 ((D 0 28) + 1))) : Rs) = some (r0, D') := h
    refine lv_aload_n hx hb dX8_takes_90 rfl (lv_at hl 0 rfl) ?_
    refine lv_dup hx hb dX8_takes_91 rfl ?_
    refine x_get hx hb ht0 u_X8 hown hK hP (mk_0).1 (ce8 (mk_0).2) rfl 28 (by decide) (ht0 _ m_FL_X8_180) rfl rfl dX8_takes_92 ?_
    refine lv_iconst (v := 1) hx hb dX8_takes_95 (by decide) ?_
    refine lv_iadd hx hb dX8_takes_96 ?_
    refine x_put (ty := .int) hx hb ht0 u_X8 tyX8 tyX8_ok nmX8 hown hK ij hP hS (mk_0).1 (ce8 (mk_0).2) rfl 28 (by decide) (ht0 _ m_FL_X8_180) rfl rfl (by decide +kernel) rfl rfl (Nat.le_of_ble_eq_true rfl) (by rw [(mk_0).2]; rfl) dX8_takes_97 (fun H locs hP hS => ?_)
    refine lv_iinc (v := x4 + 1) (lv' := [(4, .int (x4 + 1)), (0, .ref (ad 0)), (1, .int x1), (2, .int x2), (3, .int x3)]) hx hb dX8_takes_100 hl (k := 4) rfl rfl (by decide) rfl (fun ls hl => ?_)
    refine lv_goto (tgt := 33) hx hb dX8_takes_103 (by decide) ?_
    exact hk33 x1 x2 x3 (x4 + 1) (up2 D 0 28 ((D 0 28) + 1)) _ _ _ h hP hS (lv_sub hl [1, 2, 3, 4, 0] rfl)
  have L33 : ∀ (k7 : Int32 → Int32 → Mm → Rs) (hk7 : ∀ (x1 x2 : Int32) (D : Mm) (H : Heap) (locs : List Loc) (ls : Array Slot), k7 x1 x2 D = some (r0, D') → va_P dd vwCl (wW Y MG ad D) H → va_S (pA MG ad) s.heap H locs → lv_has ls 5 [(0, .ref (ad 0)), (1, .int x1), (2, .int x2)] → W p l e (headSpec wzX8_takes rm_X8_takes).room s m ([.ref (ad 0), .int a1].toArray) below meth c H locs 0 0 (MQ below (Qi dd Y MG ad .boolean r0 D') ([.ref (ad 0), .int a1].toArray) s 0 0 (pA MG ad)) (F0 m 7 ls [])), ∀ (n : Nat), ∀ (x1 x2 x3 x4 : Int32) (D : Mm) (H : Heap) (locs : List Loc) (ls : Array Slot), P_X8_takes_33 (gN MG) F k7 n x1 x2 x3 x4 D = some (r0, D') → va_P dd vwCl (wW Y MG ad D) H → va_S (pA MG ad) s.heap H locs → lv_has ls 5 [(0, .ref (ad 0)), (1, .int x1), (2, .int x2), (3, .int x3), (4, .int x4)] → W p l e (headSpec wzX8_takes rm_X8_takes).room s m ([.ref (ad 0), .int a1].toArray) below meth c H locs 0 0 (MQ below (Qi dd Y MG ad .boolean r0 D') ([.ref (ad 0), .int a1].toArray) s 0 0 (pA MG ad)) (F0 m 33 ls []) := by
    intro k7 hk7 n
    induction n with
    | zero =>
      intro x1 x2 x3 x4 D H locs ls h hP hS hl
      cases h
    | succ n ih =>
      intro x1 x2 x3 x4 D H locs ls h hP hS hl
      have h : ((bi (P_X8_sectorsOf (gN MG) F x3 D) (fun r1 D1 => if r1 ≤ x4 then (k7 x1 (x2 + 1) D1) else (if x3 = 9 then (k7 x1 (x2 + 1) D1) else (if x1 ≤ (D1 0 28) then (k7 x1 (x2 + 1) D1) else (bi (P_X8_isFree (gN MG) F x3 x4 D1) (fun r5 D5 => if r5 = 0 then (P_X8_takes_33 (gN MG) F k7 n x1 x2 x3 (x4 + 1) D5) else (if inB (D5 0 28) ((gN MG) 13) = true then (if inB ((up2 D5 13 (Int32.toNatClampNeg (D5 0 28)) x3) 0 28) ((gN MG) 14) = true then (P_X8_takes_90 (gN MG) F k7 (fun x1 x2 x3 x4 D => P_X8_takes_33 (gN MG) F k7 n x1 x2 x3 x4 D) x1 x2 x3 x4 (up2 (up2 D5 13 (Int32.toNatClampNeg (D5 0 28)) x3) 14 (Int32.toNatClampNeg ((up2 D5 13 (Int32.toNatClampNeg (D5 0 28)) x3) 0 28)) x4)) else none) else none))))))) : Rs) = some (r0, D') := h
      refine lv_iload hx hb dX8_takes_33 (lv_at hl 4 rfl) ?_
      refine lv_iload_n hx hb dX8_takes_35 rfl (lv_at hl 3 rfl) ?_
      obtain ⟨r1, D1, hc1, h⟩ := bi_some h
      refine x_callSi (As := [.int x3]) ⟨hx, hb, hml, hown, ht0⟩ hK hT hP hS (c_X8_sectorsOf l dd Y t ad ij F x3 _ _ _ hc1) m_ML_X8_77 ss_X8_sectorsOf hd_X8_sectorsOf rfl rfl ⟨Nat.le_of_ble_eq_true rfl, Nat.le_of_ble_eq_true rfl⟩ rfl hl.1 rfl (Nat.le_of_ble_eq_true rfl) dX8_takes_36 ⟨Nat.zero_le _, Nat.zero_le _⟩ (fun H locs hn_r1 hP hS => ?_)
      refine lv_icmp_ge (tgt := 106) hx hb dX8_takes_39 (by decide) (fun c2 => ?_) (fun c2 => ?_)
      · have h := x_t (show r1 ≤ x4 from c2) h
        refine lv_iinc (v := x2 + 1) (lv' := [(2, .int (x2 + 1)), (0, .ref (ad 0)), (1, .int x1), (3, .int x3), (4, .int x4)]) hx hb dX8_takes_106 hl (k := 2) rfl rfl (by decide) rfl (fun ls hl => ?_)
        refine lv_goto (tgt := 7) hx hb dX8_takes_109 (by decide) ?_
        exact hk7 x1 (x2 + 1) D1 _ _ _ h hP hS (lv_sub hl [1, 2, 0] rfl)
      · have h := x_f (show ¬ (r1 ≤ x4) from c2) h
        refine lv_iload_n hx hb dX8_takes_42 rfl (lv_at hl 3 rfl) ?_
        refine lv_bipush (v := 9) hx hb dX8_takes_43 (by decide) ?_
        refine lv_icmp_eq (tgt := 106) hx hb dX8_takes_45 (by decide) (fun c3 => ?_) (fun c3 => ?_)
        · have h := x_t (show x3 = 9 from c3) h
          refine lv_iinc (v := x2 + 1) (lv' := [(2, .int (x2 + 1)), (0, .ref (ad 0)), (1, .int x1), (3, .int x3), (4, .int x4)]) hx hb dX8_takes_106 hl (k := 2) rfl rfl (by decide) rfl (fun ls hl => ?_)
          refine lv_goto (tgt := 7) hx hb dX8_takes_109 (by decide) ?_
          exact hk7 x1 (x2 + 1) D1 _ _ _ h hP hS (lv_sub hl [1, 2, 0] rfl)
        · have h := x_f (show ¬ (x3 = 9) from c3) h
          refine lv_aload_n hx hb dX8_takes_48 rfl (lv_at hl 0 rfl) ?_
          refine x_get hx hb ht0 u_X8 hown hK hP (mk_0).1 (ce8 (mk_0).2) rfl 28 (by decide) (ht0 _ m_FL_X8_180) rfl rfl dX8_takes_49 ?_
          refine lv_iload_n hx hb dX8_takes_52 rfl (lv_at hl 1 rfl) ?_
          refine lv_icmp_ge (tgt := 106) hx hb dX8_takes_53 (by decide) (fun c4 => ?_) (fun c4 => ?_)
          · have h := x_t (show x1 ≤ (D1 0 28) from c4) h
            refine lv_iinc (v := x2 + 1) (lv' := [(2, .int (x2 + 1)), (0, .ref (ad 0)), (1, .int x1), (3, .int x3), (4, .int x4)]) hx hb dX8_takes_106 hl (k := 2) rfl rfl (by decide) rfl (fun ls hl => ?_)
            refine lv_goto (tgt := 7) hx hb dX8_takes_109 (by decide) ?_
            exact hk7 x1 (x2 + 1) D1 _ _ _ h hP hS (lv_sub hl [1, 2, 0] rfl)
          · have h := x_f (show ¬ (x1 ≤ (D1 0 28)) from c4) h
            refine lv_aload_n hx hb dX8_takes_56 rfl (lv_at hl 0 rfl) ?_
            refine lv_iload_n hx hb dX8_takes_57 rfl (lv_at hl 3 rfl) ?_
            refine lv_iload hx hb dX8_takes_58 (lv_at hl 4 rfl) ?_
            obtain ⟨r5, D5, hc5, h⟩ := bi_some h
            refine x_callVi (As := [.int x3, .int x4]) ⟨hx, hb, hml, hown, ht0⟩ hK hT hP hS (c_X8_isFree l dd Y t ad ij F x3 x4 _ _ _ hc5) m_ML_X8_183 sv_X8_isFree hd_X8_isFree rfl rfl ⟨Nat.le_of_ble_eq_true rfl, Nat.le_of_ble_eq_true rfl⟩ (mk_0).1 (ce8 (mk_0).2) rfl rfl hl.1 rfl (Nat.le_of_ble_eq_true rfl) dX8_takes_60 ⟨Nat.zero_le _, Nat.zero_le _⟩ (fun H locs hn_r5 hP hS => ?_)
            refine lv_if_ne (tgt := 69) hx hb dX8_takes_63 (by decide) (fun c6 => ?_) (fun c6 => ?_)
            · have h := x_f (show ¬ (r5 = 0) from c6) h
              refine lv_aload_n hx hb dX8_takes_69 rfl (lv_at hl 0 rfl) ?_
              refine x_get hx hb ht0 u_X8 hown hK hP (mk_0).1 (ce8 (mk_0).2) rfl 26 (by decide) (ht0 _ m_FL_X8_52) rfl (rfv (G := MG) (c := 0) (k := 26) (c' := 13) rfl) dX8_takes_70 ?_
              refine lv_aload_n hx hb dX8_takes_73 rfl (lv_at hl 0 rfl) ?_
              refine x_get hx hb ht0 u_X8 hown hK hP (mk_0).1 (ce8 (mk_0).2) rfl 28 (by decide) (ht0 _ m_FL_X8_180) rfl rfl dX8_takes_74 ?_
              refine lv_iload_n hx hb dX8_takes_77 rfl (lv_at hl 3 rfl) ?_
              obtain ⟨b7, h⟩ := x_if h
              refine x_ast hx hb hK ij hP hS mk_13 b7 dX8_takes_78 (fun H locs hP hS => ?_)
              refine lv_aload_n hx hb dX8_takes_79 rfl (lv_at hl 0 rfl) ?_
              refine x_get hx hb ht0 u_X8 hown hK hP (mk_0).1 (ce8 (mk_0).2) rfl 27 (by decide) (ht0 _ m_FL_X8_55) rfl (rfv (G := MG) (c := 0) (k := 27) (c' := 14) rfl) dX8_takes_80 ?_
              refine lv_aload_n hx hb dX8_takes_83 rfl (lv_at hl 0 rfl) ?_
              refine x_get hx hb ht0 u_X8 hown hK hP (mk_0).1 (ce8 (mk_0).2) rfl 28 (by decide) (ht0 _ m_FL_X8_180) rfl rfl dX8_takes_84 ?_
              refine lv_iload hx hb dX8_takes_87 (lv_at hl 4 rfl) ?_
              obtain ⟨b8, h⟩ := x_if h
              refine x_ast hx hb hK ij hP hS mk_14 b8 dX8_takes_89 (fun H locs hP hS => ?_)
              exact L90 k7 hk7 (fun x1 x2 x3 x4 D => P_X8_takes_33 (gN MG) F k7 n x1 x2 x3 x4 D) ih x1 x2 x3 x4 (up2 (up2 D5 13 (Int32.toNatClampNeg (D5 0 28)) x3) 14 (Int32.toNatClampNeg ((up2 D5 13 (Int32.toNatClampNeg (D5 0 28)) x3) 0 28)) x4) _ _ _ h hP hS (lv_sub hl [0, 1, 2, 3, 4] rfl)
            · have h := x_t (show r5 = 0 from c6) h
              refine lv_goto (tgt := 100) hx hb dX8_takes_66 (by decide) ?_
              refine lv_iinc (v := x4 + 1) (lv' := [(4, .int (x4 + 1)), (0, .ref (ad 0)), (1, .int x1), (2, .int x2), (3, .int x3)]) hx hb dX8_takes_100 hl (k := 4) rfl rfl (by decide) rfl (fun ls hl => ?_)
              refine lv_goto (tgt := 33) hx hb dX8_takes_103 (by decide) ?_
              exact ih x1 x2 x3 (x4 + 1) D5 _ _ _ h hP hS (lv_sub hl [1, 2, 3, 4, 0] rfl)
  have L7 : ∀ (n : Nat), ∀ (x1 x2 : Int32) (D : Mm) (H : Heap) (locs : List Loc) (ls : Array Slot), P_X8_takes_7 (gN MG) F n x1 x2 D = some (r0, D') → va_P dd vwCl (wW Y MG ad D) H → va_S (pA MG ad) s.heap H locs → lv_has ls 5 [(0, .ref (ad 0)), (1, .int x1), (2, .int x2)] → W p l e (headSpec wzX8_takes rm_X8_takes).room s m ([.ref (ad 0), .int a1].toArray) below meth c H locs 0 0 (MQ below (Qi dd Y MG ad .boolean r0 D') ([.ref (ad 0), .int a1].toArray) s 0 0 (pA MG ad)) (F0 m 7 ls []) := by
    intro n
    induction n with
    | zero =>
      intro x1 x2 D H locs ls h hP hS hl
      cases h
    | succ n ih =>
      intro x1 x2 D H locs ls h hP hS hl
      have h : ((if 16 ≤ x2 then (if (D 0 28) = x1 then (some (1, D)) else (some (0, D))) else (if 8 ≤ x2 then (P_X8_takes_33 (gN MG) F (fun x1 x2 D => P_X8_takes_7 (gN MG) F n x1 x2 D) F x1 x2 (x2 + 1) 0 D) else (P_X8_takes_33 (gN MG) F (fun x1 x2 D => P_X8_takes_7 (gN MG) F n x1 x2 D) F x1 x2 (8 - x2) 0 D))) : Rs) = some (r0, D') := h
      refine lv_iload_n hx hb dX8_takes_7 rfl (lv_at hl 2 rfl) ?_
      refine lv_bipush (v := 16) hx hb dX8_takes_8 (by decide) ?_
      refine lv_icmp_ge (tgt := 112) hx hb dX8_takes_10 (by decide) (fun c9 => ?_) (fun c9 => ?_)
      · have h := x_t (show 16 ≤ x2 from c9) h
        refine lv_aload_n hx hb dX8_takes_112 rfl (lv_at hl 0 rfl) ?_
        refine x_get hx hb ht0 u_X8 hown hK hP (mk_0).1 (ce8 (mk_0).2) rfl 28 (by decide) (ht0 _ m_FL_X8_180) rfl rfl dX8_takes_113 ?_
        refine lv_iload_n hx hb dX8_takes_116 rfl (lv_at hl 1 rfl) ?_
        refine lv_icmp_ne (tgt := 124) hx hb dX8_takes_117 (by decide) (fun c10 => ?_) (fun c10 => ?_)
        · have h := x_f (show ¬ ((D 0 28) = x1) from c10) h
          refine lv_iconst (v := 0) hx hb dX8_takes_124 (by decide) ?_
          exact x_iret hx hb hr hlocks rfl hP hS h dX8_takes_125
        · have h := x_t (show (D 0 28) = x1 from c10) h
          refine lv_iconst (v := 1) hx hb dX8_takes_120 (by decide) ?_
          refine lv_goto (tgt := 125) hx hb dX8_takes_121 (by decide) ?_
          exact x_iret hx hb hr hlocks rfl hP hS h dX8_takes_125
      · have h := x_f (show ¬ (16 ≤ x2) from c9) h
        refine lv_iload_n hx hb dX8_takes_13 rfl (lv_at hl 2 rfl) ?_
        refine lv_bipush (v := 8) hx hb dX8_takes_14 (by decide) ?_
        refine lv_icmp_ge (tgt := 26) hx hb dX8_takes_16 (by decide) (fun c11 => ?_) (fun c11 => ?_)
        · have h := x_t (show 8 ≤ x2 from c11) h
          refine lv_iload_n hx hb dX8_takes_26 rfl (lv_at hl 2 rfl) ?_
          refine lv_iconst (v := 1) hx hb dX8_takes_27 (by decide) ?_
          refine lv_iadd hx hb dX8_takes_28 ?_
          refine lv_istore_n (lv' := [(3, .int (x2 + 1)), (0, .ref (ad 0)), (1, .int x1), (2, .int x2)]) hx hb dX8_takes_29 rfl hl (by decide) rfl (fun ls hl => ?_)
          refine lv_iconst (v := 0) hx hb dX8_takes_30 (by decide) ?_
          refine lv_istore (lv' := [(4, .int 0), (3, .int (x2 + 1)), (0, .ref (ad 0)), (1, .int x1), (2, .int x2)]) hx hb dX8_takes_31 hl (by decide) rfl (fun ls hl => ?_)
          exact L33 (fun x1 x2 D => P_X8_takes_7 (gN MG) F n x1 x2 D) ih F x1 x2 (x2 + 1) 0 D _ _ _ h hP hS (lv_sub hl [2, 3, 4, 1, 0] rfl)
        · have h := x_f (show ¬ (8 ≤ x2) from c11) h
          refine lv_bipush (v := 8) hx hb dX8_takes_19 (by decide) ?_
          refine lv_iload_n hx hb dX8_takes_21 rfl (lv_at hl 2 rfl) ?_
          refine lv_isub hx hb dX8_takes_22 ?_
          refine lv_goto (tgt := 29) hx hb dX8_takes_23 (by decide) ?_
          refine lv_istore_n (lv' := [(3, .int (8 - x2)), (0, .ref (ad 0)), (1, .int x1), (2, .int x2)]) hx hb dX8_takes_29 rfl hl (by decide) rfl (fun ls hl => ?_)
          refine lv_iconst (v := 0) hx hb dX8_takes_30 (by decide) ?_
          refine lv_istore (lv' := [(4, .int 0), (3, .int (8 - x2)), (0, .ref (ad 0)), (1, .int x1), (2, .int x2)]) hx hb dX8_takes_31 hl (by decide) rfl (fun ls hl => ?_)
          exact L33 (fun x1 x2 D => P_X8_takes_7 (gN MG) F n x1 x2 D) ih F x1 x2 (8 - x2) 0 D _ _ _ h hP hS (lv_sub hl [2, 3, 4, 1, 0] rfl)
  have hl := lv_entry ([.ref (ad 0), .int a1]) (n := 5) (Nat.le_of_ble_eq_true rfl)
  rw [lg_entry_eq]
  generalize (lg_sl ([.ref (ad 0), .int a1]) ++ List.replicate (5 - (lg_sl ([.ref (ad 0), .int a1])).length) Slot.unset).toArray = ls at hl ⊢
  have hl : lv_has ls 5 [(0, .ref (ad 0)), (1, .int a1)] := hl
  have hP : va_P dd vwCl (wW Y MG ad D0) s.heap := hP
  generalize D0 = D at h hP
  have h : ((P_X8_takes_7 (gN MG) F F a1 0 (up2 D 0 28 0)) : Rs) = some (r0, D') := h
  refine lv_aload_n hx hb dX8_takes_0 rfl (lv_at hl 0 rfl) ?_
  refine lv_iconst (v := 0) hx hb dX8_takes_1 (by decide) ?_
  refine x_put (ty := .int) hx hb ht0 u_X8 tyX8 tyX8_ok nmX8 hown hK ij hP hS (mk_0).1 (ce8 (mk_0).2) rfl 28 (by decide) (ht0 _ m_FL_X8_180) rfl rfl (by decide +kernel) rfl rfl (Nat.le_of_ble_eq_true rfl) (by rw [(mk_0).2]; rfl) dX8_takes_2 (fun H locs hP hS => ?_)
  refine lv_iconst (v := 0) hx hb dX8_takes_5 (by decide) ?_
  refine lv_istore_n (lv' := [(2, .int 0), (0, .ref (ad 0)), (1, .int a1)]) hx hb dX8_takes_6 rfl hl (by decide) rfl (fun ls hl => ?_)
  exact L7 F a1 0 (up2 D 0 28 0) _ _ _ h hP hS (lv_sub hl [1, 2, 0] rfl)
