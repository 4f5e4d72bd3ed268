/-! THE GRAPHS of the class (XG) and of the reference (MG) as they stand behind their constructors -/
def xK : Nat → Nat := fun c => [7, 6, 0, 11, 5, 9, 9, 5, 9, 9, 5, 9, 9, 5, 9, 9, 5, 9, 9, 5, 9, 9, 5, 9, 9, 5, 9, 9, 5, 9, 9, 5, 9, 9, 5, 9, 9, 5, 9, 9, 5, 9, 9, 5, 9, 9, 5, 9, 9, 5, 9, 9, 5, 9, 9, 9, 4, 9, 3, 9, 9, 2, 9, 9, 9, 1, 9, 1, 9, 1, 9, 9, 9].getD c 12
def xN : Nat → Nat := fun c => [0, 0, 0, 16, 0, 1060, 770, 0, 1060, 770, 0, 1060, 770, 0, 1060, 770, 0, 1060, 770, 0, 1060, 770, 0, 1060, 770, 0, 1060, 770, 0, 940, 683, 0, 940, 683, 0, 940, 683, 0, 940, 683, 0, 830, 603, 0, 830, 603, 0, 830, 603, 0, 830, 603, 0, 114, 82, 64, 0, 64, 0, 64, 64, 0, 40, 40, 64, 0, 2480, 0, 2480, 0, 0, 64, 1060].getD c 0
def xPl : List (List (Option Nat)) := [[some 1, some 2, some 56, some 58, some 61, some 65, some 67, some 69, some 71, some 72], [], [some 1, some 3, some 52], [], [some 5, none, some 6], [], [], [some 8, none, some 9], [], [], [some 11, none, some 12], [], [], [some 14, none, some 15], [], [], [some 17, none, some 18], [], [], [some 20, none, some 21], [], [], [some 23, none, some 24], [], [], [some 26, none, some 27], [], [], [some 29, none, some 30], [], [], [some 32, none, some 33], [], [], [some 35, none, some 36], [], [], [some 38, none, some 39], [], [], [some 41, none, some 42], [], [], [some 44, none, some 45], [], [], [some 47, none, some 48], [], [], [some 50, none, some 51], [], [], [some 53, none, some 54], [], [], [], [some 57], [], [some 2, some 1, some 59, none, none, none, none, none, some 60], [], [], [some 2, some 1, some 62, some 63, none, some 64], [], [], [], [some 66], [], [some 68], [], [some 70], [], [], []]
def xP : Nat → Nat → Option Nat := fun c k => if c = 3 then (if k < 16 then some (4 + 3 * k) else none) else (xPl.getD c []).getD k none
def XG : Gr := (73, xK, xN, xP)
def mK : Nat → Nat := fun c => [8, 10, 10, 9, 9, 9, 9, 9, 9, 9, 9, 9, 9, 9, 9].getD c 12
def mN : Nat → Nat := fun c => [0, 124480, 8480, 16, 32, 2480, 2480, 800, 64, 64, 448, 7, 7, 40, 40].getD c 0
def mPl : List (List (Option Nat)) := [[some 1, some 2, some 3, some 4, none, some 5, none, some 6, none, none, none, none, none, none, none, some 7, none, none, some 8, some 9, some 10, some 11, some 12, none, none, none, some 13, some 14], [], [], [], [], [], [], [], [], [], [], [], [], [], []]
def mP : Nat → Nat → Option Nat := fun c k => (mPl.getD c []).getD k none
def MG : Gr := (15, mK, mN, mP)
theorem xk_0 : AtK XG 0 7 := ⟨by decide, rfl⟩
theorem xk_1 : AtK XG 1 6 := ⟨by decide, rfl⟩
theorem xk_2 : AtK XG 2 0 := ⟨by decide, rfl⟩
theorem xk_3 : AtK XG 3 11 := ⟨by decide, rfl⟩
theorem xk_4 : AtK XG 4 5 := ⟨by decide, rfl⟩
theorem xk_5 : AtK XG 5 9 := ⟨by decide, rfl⟩
theorem xk_6 : AtK XG 6 9 := ⟨by decide, rfl⟩
theorem xk_7 : AtK XG 7 5 := ⟨by decide, rfl⟩
theorem xk_8 : AtK XG 8 9 := ⟨by decide, rfl⟩
theorem xk_9 : AtK XG 9 9 := ⟨by decide, rfl⟩
theorem xk_10 : AtK XG 10 5 := ⟨by decide, rfl⟩
theorem xk_11 : AtK XG 11 9 := ⟨by decide, rfl⟩
theorem xk_12 : AtK XG 12 9 := ⟨by decide, rfl⟩
theorem xk_13 : AtK XG 13 5 := ⟨by decide, rfl⟩
theorem xk_14 : AtK XG 14 9 := ⟨by decide, rfl⟩
theorem xk_15 : AtK XG 15 9 := ⟨by decide, rfl⟩
theorem xk_16 : AtK XG 16 5 := ⟨by decide, rfl⟩
theorem xk_17 : AtK XG 17 9 := ⟨by decide, rfl⟩
theorem xk_18 : AtK XG 18 9 := ⟨by decide, rfl⟩
theorem xk_19 : AtK XG 19 5 := ⟨by decide, rfl⟩
theorem xk_20 : AtK XG 20 9 := ⟨by decide, rfl⟩
theorem xk_21 : AtK XG 21 9 := ⟨by decide, rfl⟩
theorem xk_22 : AtK XG 22 5 := ⟨by decide, rfl⟩
theorem xk_23 : AtK XG 23 9 := ⟨by decide, rfl⟩
theorem xk_24 : AtK XG 24 9 := ⟨by decide, rfl⟩
theorem xk_25 : AtK XG 25 5 := ⟨by decide, rfl⟩
theorem xk_26 : AtK XG 26 9 := ⟨by decide, rfl⟩
theorem xk_27 : AtK XG 27 9 := ⟨by decide, rfl⟩
theorem xk_28 : AtK XG 28 5 := ⟨by decide, rfl⟩
theorem xk_29 : AtK XG 29 9 := ⟨by decide, rfl⟩
theorem xk_30 : AtK XG 30 9 := ⟨by decide, rfl⟩
theorem xk_31 : AtK XG 31 5 := ⟨by decide, rfl⟩
theorem xk_32 : AtK XG 32 9 := ⟨by decide, rfl⟩
theorem xk_33 : AtK XG 33 9 := ⟨by decide, rfl⟩
theorem xk_34 : AtK XG 34 5 := ⟨by decide, rfl⟩
theorem xk_35 : AtK XG 35 9 := ⟨by decide, rfl⟩
theorem xk_36 : AtK XG 36 9 := ⟨by decide, rfl⟩
theorem xk_37 : AtK XG 37 5 := ⟨by decide, rfl⟩
theorem xk_38 : AtK XG 38 9 := ⟨by decide, rfl⟩
theorem xk_39 : AtK XG 39 9 := ⟨by decide, rfl⟩
theorem xk_40 : AtK XG 40 5 := ⟨by decide, rfl⟩
theorem xk_41 : AtK XG 41 9 := ⟨by decide, rfl⟩
theorem xk_42 : AtK XG 42 9 := ⟨by decide, rfl⟩
theorem xk_43 : AtK XG 43 5 := ⟨by decide, rfl⟩
theorem xk_44 : AtK XG 44 9 := ⟨by decide, rfl⟩
theorem xk_45 : AtK XG 45 9 := ⟨by decide, rfl⟩
theorem xk_46 : AtK XG 46 5 := ⟨by decide, rfl⟩
theorem xk_47 : AtK XG 47 9 := ⟨by decide, rfl⟩
theorem xk_48 : AtK XG 48 9 := ⟨by decide, rfl⟩
theorem xk_49 : AtK XG 49 5 := ⟨by decide, rfl⟩
theorem xk_50 : AtK XG 50 9 := ⟨by decide, rfl⟩
theorem xk_51 : AtK XG 51 9 := ⟨by decide, rfl⟩
theorem xk_52 : AtK XG 52 5 := ⟨by decide, rfl⟩
theorem xk_53 : AtK XG 53 9 := ⟨by decide, rfl⟩
theorem xk_54 : AtK XG 54 9 := ⟨by decide, rfl⟩
theorem xk_55 : AtK XG 55 9 := ⟨by decide, rfl⟩
theorem xk_56 : AtK XG 56 4 := ⟨by decide, rfl⟩
theorem xk_57 : AtK XG 57 9 := ⟨by decide, rfl⟩
theorem xk_58 : AtK XG 58 3 := ⟨by decide, rfl⟩
theorem xk_59 : AtK XG 59 9 := ⟨by decide, rfl⟩
theorem xk_60 : AtK XG 60 9 := ⟨by decide, rfl⟩
theorem xk_61 : AtK XG 61 2 := ⟨by decide, rfl⟩
theorem xk_62 : AtK XG 62 9 := ⟨by decide, rfl⟩
theorem xk_63 : AtK XG 63 9 := ⟨by decide, rfl⟩
theorem xk_64 : AtK XG 64 9 := ⟨by decide, rfl⟩
theorem xk_65 : AtK XG 65 1 := ⟨by decide, rfl⟩
theorem xk_66 : AtK XG 66 9 := ⟨by decide, rfl⟩
theorem xk_67 : AtK XG 67 1 := ⟨by decide, rfl⟩
theorem xk_68 : AtK XG 68 9 := ⟨by decide, rfl⟩
theorem xk_69 : AtK XG 69 1 := ⟨by decide, rfl⟩
theorem xk_70 : AtK XG 70 9 := ⟨by decide, rfl⟩
theorem xk_71 : AtK XG 71 9 := ⟨by decide, rfl⟩
theorem xk_72 : AtK XG 72 9 := ⟨by decide, rfl⟩
theorem mk_0 : AtK MG 0 8 := ⟨by decide, rfl⟩
theorem mk_1 : AtK MG 1 10 := ⟨by decide, rfl⟩
theorem mk_2 : AtK MG 2 10 := ⟨by decide, rfl⟩
theorem mk_3 : AtK MG 3 9 := ⟨by decide, rfl⟩
theorem mk_4 : AtK MG 4 9 := ⟨by decide, rfl⟩
theorem mk_5 : AtK MG 5 9 := ⟨by decide, rfl⟩
theorem mk_6 : AtK MG 6 9 := ⟨by decide, rfl⟩
theorem mk_7 : AtK MG 7 9 := ⟨by decide, rfl⟩
theorem mk_8 : AtK MG 8 9 := ⟨by decide, rfl⟩
theorem mk_9 : AtK MG 9 9 := ⟨by decide, rfl⟩
theorem mk_10 : AtK MG 10 9 := ⟨by decide, rfl⟩
theorem mk_11 : AtK MG 11 9 := ⟨by decide, rfl⟩
theorem mk_12 : AtK MG 12 9 := ⟨by decide, rfl⟩
theorem mk_13 : AtK MG 13 9 := ⟨by decide, rfl⟩
theorem mk_14 : AtK MG 14 9 := ⟨by decide, rfl⟩
theorem xr_all : ∀ t, t < 17 → RingAt XG (4 + 3 * t) := by
  have key : ∀ t, t < 17 → ((4 + 3 * t < gn XG ∧ gK XG (4 + 3 * t) = 5) ∧ gP XG (4 + 3 * t) 0 = some (4 + 3 * t + 1) ∧ gP XG (4 + 3 * t) 2 = some (4 + 3 * t + 2) ∧ (4 + 3 * t + 1 < gn XG ∧ gK XG (4 + 3 * t + 1) = 9) ∧ (4 + 3 * t + 2 < gn XG ∧ gK XG (4 + 3 * t + 2) = 9)) := by decide
  exact key
theorem xr_52 : RingAt XG 52 := xr_all 16 (by decide)
theorem xb_65 : BytesAt XG 65 := ⟨xk_65, rfl, xk_66⟩
theorem xb_67 : BytesAt XG 67 := ⟨xk_67, rfl, xk_68⟩
theorem xb_69 : BytesAt XG 69 := ⟨xk_69, rfl, xk_70⟩
theorem nrB {v : Int32} (h : vp_nar .boolean v = v) : narrow .boolean (.int v) = .int v := by
  have e : narrow .boolean (.int v) = .int (vp_nar .boolean v) := rfl
  rw [e, h]
def P_X0_ringOf (a : Int32) : Option Nat := if a < 1 then none else if 16 < a then none else xP 3 (a - 1).toNatClampNeg
theorem ringOf_at {a : Int32} {q : Nat} (h : P_X0_ringOf a = some q) : RingAt XG q := by
  unfold P_X0_ringOf at h
  by_cases h1 : a < 1
  · rw [if_pos h1] at h; cases h
  · rw [if_neg h1] at h
    by_cases h2 : 16 < a
    · rw [if_pos h2] at h; cases h
    · rw [if_neg h2] at h
      unfold xP at h
      rw [if_pos rfl] at h
      by_cases h3 : (a - 1).toNatClampNeg < 16
      · rw [if_pos h3] at h
        cases h
        exact xr_all _ (by omega)
      · rw [if_neg h3] at h; cases h
theorem ringOf_in {a : Int32} (h1 : ¬ a < 1) (h2 : ¬ 16 < a) : vp_in (a - 1) 16 := by
  have e1 : ¬ a.toInt < 1 := fun q => h1 (Int32.lt_iff_toInt_lt.mpr q)
  have e2 : ¬ 16 < a.toInt := fun q => h2 (Int32.lt_iff_toInt_lt.mpr q)
  have e3 : (a - 1).toInt = a.toInt - 1 := by
    rw [Int32.toInt_sub]
    exact Int.bmod_eq_of_le (by simp; omega) (by simp; omega)
  rw [vp_in_iff, e3]
  omega
abbrev rm_X0_ringOf : Room := { frames := 0, cells := 0, slots := 0, locals := 0 }
set_option maxHeartbeats 4000000 in
set_option maxRecDepth 100000 in
theorem c_X0_ringOf (l : Launch) (dd : Dd) (Y : Yc) (t : Ts3) (ad : Nat → Nat) (ij : Ij XG ad) (a1 : Int32) (D : Mm) : Met l yX0_ringOf wzX0_ringOf rm_X0_ringOf (va_Pc [.ref (ad 2), .int a1] (Wd dd Y t XG ad D)) (va_Qq (fun (r : Option Nat) (u : Mm) => r = (P_X0_ringOf a1).map ad ∧ u = D) (fun u t => va_P dd vwCl (wW Y XG ad u) t.heap) (pA XG ad)) 0 0 (pA XG ad) := by
  refine Met.ofW (cc := cX0_ringOf) (maxL := 2) (ret := some (.object "BitDrive$Ring")) (by decide) rfl ?_
  intro p e s m args below meth c s₁ B hml hv
  obtain ⟨rfl, hP, hK, hT⟩ := hv
  have hx := B.exec
  have hb := B.bytes
  have hr := B.returns
  have ht0 : ∀ w ∈ W0, w.before _ s = true := fun w h => atoms_spec (ws := wzX0_ringOf) B.pre w (List.mem_cons_of_mem _ h)
  have hown : s.vm.findClass RX0 = some m.cls := findClass_of_methodNamed B.named
  have hlocks := B.notSynchronized
  have hS : va_S (pA XG ad) s.heap s.heap [] := va_S.rf
  have hl := lv_entry ([.ref (ad 2), .int a1]) (n := 2) (Nat.le_of_ble_eq_true rfl)
  rw [lg_entry_eq]
  generalize (lg_sl ([.ref (ad 2), .int a1]) ++ List.replicate (2 - (lg_sl ([.ref (ad 2), .int a1])).length) Slot.unset).toArray = ls at hl ⊢
  have hl : lv_has ls 2 [(0, .ref (ad 2)), (1, .int a1)] := hl
  have hP : va_P dd vwCl (wW Y XG ad D) s.heap := hP
  refine lv_iload_n hx hb dX0_ringOf_0 rfl (lv_at hl 1 rfl) ?_
  refine lv_iconst (v := 1) hx hb dX0_ringOf_1 (by decide) ?_
  refine lv_icmp_lt (tgt := 22) hx hb dX0_ringOf_2 (by decide) (fun c1 => ?_) (fun c1 => ?_)
  · refine lv_null hx hb dX0_ringOf_22 ?_
    exact W.aret hx hb hr (Or.inl ⟨_, rfl⟩) (Or.inl rfl) (fun t ht hW => ⟨⟨none, D, rfl, ⟨by unfold P_X0_ringOf; rw [if_pos c1]; rfl, rfl⟩, by show va_P dd vwCl (wW Y XG ad D) t.heap; rw [ht]; exact hP⟩, hS.F ht⟩) hS.2.2 dX0_ringOf_23 hlocks
  · refine lv_iload_n hx hb dX0_ringOf_5 rfl (lv_at hl 1 rfl) ?_
    refine lv_bipush (v := 16) hx hb dX0_ringOf_6 (by decide) ?_
    refine lv_icmp_gt (tgt := 22) hx hb dX0_ringOf_8 (by decide) (fun c2 => ?_) (fun c2 => ?_)
    · refine lv_null hx hb dX0_ringOf_22 ?_
      exact W.aret hx hb hr (Or.inl ⟨_, rfl⟩) (Or.inl rfl) (fun t ht hW => ⟨⟨none, D, rfl, ⟨by unfold P_X0_ringOf; rw [if_neg c1, if_pos c2]; rfl, rfl⟩, by show va_P dd vwCl (wW Y XG ad D) t.heap; rw [ht]; exact hP⟩, hS.F ht⟩) hS.2.2 dX0_ringOf_23 hlocks
    · refine lv_aload_n hx hb dX0_ringOf_11 rfl (lv_at hl 0 rfl) ?_
      refine x_get hx hb ht0 u_X0 hown hK hP (xk_2).1 (ce0 (xk_2).2) rfl 1 (by decide) (ht0 _ m_FL_X0_21) rfl (rfv (G := XG) (c := 2) (k := 1) (c' := 3) rfl) dX0_ringOf_12 ?_
      refine lv_iload_n hx hb dX0_ringOf_15 rfl (lv_at hl 1 rfl) ?_
      refine lv_iconst (v := 1) hx hb dX0_ringOf_16 (by decide) ?_
      refine lv_isub hx hb dX0_ringOf_17 ?_
      refine va_aldq (cA := Y.2.2) (C := RX5) (n := 16) (f := pE XG ad 3) hx hb hK hP 3 2 (wW_at xk_3.1 (by rw [xk_3.2]; rfl)) rfl (ringOf_in c1 c2) dX0_ringOf_18 ?_
      refine lv_goto (tgt := 23) hx hb dX0_ringOf_19 (by decide) ?_
      exact W.aret hx hb hr (Or.inl ⟨_, rfl⟩) (by cases pE XG ad 3 (a1 - 1).toNatClampNeg with | none => exact Or.inl rfl | some a => exact Or.inr ⟨a, rfl⟩) (fun t ht hW => ⟨⟨pE XG ad 3 (a1 - 1).toNatClampNeg, D, rfl, ⟨by unfold P_X0_ringOf; rw [if_neg c1, if_neg c2]; rfl, rfl⟩, by show va_P dd vwCl (wW Y XG ad D) t.heap; rw [ht]; exact hP⟩, hS.F ht⟩) hS.2.2 dX0_ringOf_23 hlocks
