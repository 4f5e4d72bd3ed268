/-! BLOCKS: the constructor of Blocks, with its loop of sixteen rings -/
theorem rg_n (G : Gr) (b : Nat) : gn (g_X5_init (gPush G 5 0) (gn G) b) = gn G + 3 := rfl
theorem rg_n' (G : Gr) (b : Nat) : gn (g_X5_init (gPush G 5 0) (gn G) b) = gn G + 3 := rfl
theorem rg_k {G : Gr} {b c k : Nat} (h : AtK G c k) : AtK (g_X5_init (gPush G 5 0) (gn G) b) c k := atk_set (atk_push (N := 8 * b / 11) (atk_set (atk_push (N := b) (atk_push (N := 0) h))))
theorem rg_cl {G : Gr} {b : Nat} (h : Cl G) : Cl (g_X5_init (gPush G 5 0) (gn G) b) := by
  unfold g_X5_init
  refine Cl.set (Cl.push (Cl.set (Cl.push (Cl.push h)) ?_)) ?_
  · exact Nat.lt_succ_self _
  · exact Nat.lt_succ_self _
theorem rg_p {G : Gr} {b c i : Nat} {o : Option Nat} (hc : c < gn G) (h : gP G c i = o) : gP (g_X5_init (gPush G 5 0) (gn G) b) c i = o := by
  unfold g_X5_init
  have hne : c ≠ gn G := Nat.ne_of_lt hc
  refine gp_ne (fun q => hne q.1) (gp_push ?_ (gp_ne (fun q => hne q.1) (gp_push ?_ (gp_push hc h))))
  · show c < gn G + 2; omega
  · show c < gn G + 1; omega
theorem rg_N {G : Gr} {b c : Nat} (hc : c < gn G) : gN (g_X5_init (gPush G 5 0) (gn G) b) c = gN G c := by
  have e1 : gN (g_X5_init (gPush G 5 0) (gn G) b) c = if c = gn G + 2 then 8 * b / 11 else if c = gn G + 1 then b else if c = gn G then 0 else gN G c := rfl
  rw [e1, if_neg (by omega), if_neg (by omega), if_neg (by omega)]
theorem rg_N1 {G : Gr} {b : Nat} : gN (g_X5_init (gPush G 5 0) (gn G) b) (gn G + 1) = b := by
  have e1 : gN (g_X5_init (gPush G 5 0) (gn G) b) (gn G + 1) = if gn G + 1 = gn G + 2 then 8 * b / 11 else if gn G + 1 = gn G + 1 then b else if gn G + 1 = gn G then 0 else gN G (gn G + 1) := rfl
  rw [e1, if_neg (by omega), if_pos rfl]
theorem rg_at {G : Gr} {b : Nat} : RingAt (g_X5_init (gPush G 5 0) (gn G) b) (gn G) := by
  have hk0 : AtK (g_X5_init (gPush G 5 0) (gn G) b) (gn G) 5 := atk_set (atk_push (N := 8 * b / 11) (atk_set (atk_push (N := b) (atk_new (N := 0)))))
  have hk1 : AtK (g_X5_init (gPush G 5 0) (gn G) b) (gn G + 1) 9 := atk_set (atk_push (N := 8 * b / 11) (atk_set (atk_new (G := gPush G 5 0) (N := b))))
  have hk2 : AtK (g_X5_init (gPush G 5 0) (gn G) b) (gn G + 2) 9 := atk_set (atk_new (N := 8 * b / 11) (G := gSet (gPush (gPush G 5 0) 9 b) (gn G) 0 (gn (gPush G 5 0))))
  refine ⟨hk0, ?_, ?_, hk1, hk2⟩
  · unfold g_X5_init
    refine gp_ne (by omega) (gp_push ?_ ?_)
    · show gn G < gn G + 2; omega
    · exact gp_set
  · unfold g_X5_init
    exact gp_set
def rsz (i : Nat) : Nat := if i < 8 then 1060 else if i < 12 then 940 else 830
def rG (G : Gr) (ra : Nat) : Nat → Gr
  | 0 => G
  | i + 1 => gSet (g_X5_init (gPush (rG G ra i) 5 0) (gn (rG G ra i)) (rsz i)) ra i (gn (rG G ra i))
def rD (G : Gr) (D : Mm) (ra : Nat) : Nat → Mm
  | 0 => D
  | i + 1 => m_X5_init (gPush (rG G ra i) 5 0) (upA (rD G D ra i) (gn (rG G ra i)) (fun _ => 0)) (gn (rG G ra i)) (rsz i)
theorem rsz_le (i : Nat) : 3 ≤ rsz i ∧ rsz i ≤ 1060 := by
  unfold rsz
  split
  · omega
  · split <;> omega
theorem sizeOf_eq {N : Nat → Nat} {F i : Nat} (D : Mm) (h : i < 16) : P_X5_sizeOf N F (nI i + 1) D = some (nI (rsz i), D) := by
  have e : ∀ i, i < 16 → (if 8 < nI i + 1 then (if 12 < nI i + 1 then nI 830 else nI 940) else nI 1060) = nI (rsz i) := by decide
  have e2 := e i h
  unfold P_X5_sizeOf
  split
  · rename_i c
    rw [if_pos c] at e2
    split
    · rename_i c2
      rw [if_pos c2] at e2
      rw [← e2]; rfl
    · rename_i c2
      rw [if_neg c2] at e2
      rw [← e2]; rfl
  · rename_i c
    rw [if_neg c] at e2
    rw [← e2]; rfl
section Y2
variable {p : Program} {l : Launch} {e : Env} {R : Room} {s : State} {m : MethodId} {args : Array Value} {below : List Frame} {meth : Method} {c : Code} {H : Heap} {locs : List Loc} {cells slots : Nat} {Q : State → Prop} {cc : ByteArray} {pc : Nat} {ls : Array Slot} {rest : List Value} {dd : Dd} {Y : Yc} {t : Ts3} {G : Gr} {ad : Nat → Nat} {D : Mm} {A : Nat → Prop}
theorem y_astR (hx : p.tables.exec = Jvm.exec) (hb : c.code = cc) (hK : va_K dd vwCl (tyL Y) s) (hP : va_P dd vwCl (wW Y G ad D) H) (hD : va_D A (wW Y G ad D)) (hS : va_S A s.heap H locs) {q0 a0 v va : Nat} (ha : ad q0 = a0) (hv : ad v = va) (hq : AtK G q0 11) (hvk : AtK G v 5) {i : Int32} {j : Nat} (hi : i = nI j) (hj : j < gN G q0) (hj2 : j < 1000) (hdg : decode cc pc = .ok (.aastore, 1))
    (kk : ∀ (H1 : Heap) (locs1 : List Loc), va_P dd vwCl (wW Y (gSet G q0 j v) ad D) H1 → va_D A (wW Y (gSet G q0 j v) ad D) → va_S A s.heap H1 locs1 → W p l e R s m args below meth c H1 locs1 cells slots Q (F0 m (pc + 1) ls rest)) : W p l e R s m args below meth c H locs cells slots Q (F0 m pc ls (.ref va :: .int i :: .ref a0 :: rest)) := by
  subst ha
  subst hv
  subst hi
  have hcl : (nI j).toNatClampNeg = j := nI_clamp (by omega)
  have hin : vp_in (nI j) (gN G q0) := by
    rw [vp_in_iff, nI_toInt (by omega)]
    omega
  refine va_astq (cA := Y.2.2) (r := (RX5, TX5, 5)) (n := gN G q0) (f := pE G ad q0) hx hb hK hP hD hS q0 2 v 5 (wW_at hq.1 (by rw [hq.2]; rfl)) rfl (wW_at hvk.1 (ce5 hvk.2)) rfl hin hdg (fun H1 locs1 hP1 hD1 hS1 => ?_)
  rw [hcl] at hP1 hD1
  rw [wW_setP (v := v) hq.1 (by rw [hq.2]; rfl)] at hP1 hD1
  exact kk H1 locs1 hP1 hD1 hS1
end Y2

def bG0 (G : Gr) (th u1 : Nat) : Gr := gSet (gPush (gSet G th 0 u1) 11 16) th 1 (gn G)
def bD0 (G : Gr) (D : Mm) (th : Nat) : Mm := upA (up2 D th 3 (-1)) (gn G) (fun _ => 0)
def bG1 (G : Gr) (th u1 : Nat) : Gr := rG (bG0 G th u1) (gn G) 16
def bD1 (G : Gr) (D : Mm) (th u1 : Nat) : Mm := rD (bG0 G th u1) (bD0 G D th) (gn G) 16
def bG2 (G : Gr) (th u1 : Nat) : Gr := gSet (g_X5_init (gPush (bG1 G th u1) 5 0) (gn (bG1 G th u1)) 114) th 2 (gn (bG1 G th u1))
def bD2 (G : Gr) (D : Mm) (th u1 : Nat) : Mm := m_X5_init (gPush (bG1 G th u1) 5 0) (upA (bD1 G D th u1) (gn (bG1 G th u1)) (fun _ => 0)) (gn (bG1 G th u1)) 114
def bG3 (G : Gr) (th u1 : Nat) : Gr := gPush (bG2 G th u1) 9 64
abbrev rm_X0_init : Room := { frames := 5, cells := 53, slots := 33000, locals := 150 }
set_option maxHeartbeats 4000000 in
set_option maxRecDepth 100000 in
theorem c_X0_init (l : Launch) (dd : Dd) (Y : Yc) (t : Ts3) (G : Gr) (ad : Nat → Nat) (sz : Nat) (ij : Ij G ad) (cl : Cl G) (D : Mm) (th : Nat) (u1 : Nat) (k_th : AtK G th 0) (k_u1 : AtK G u1 6) (F : Nat) (E1 E2 E3 : Mm) (hf1 : P_X5_fillGap (gN (bG2 G th u1)) F (gn (bG1 G th u1)) (bD2 G D th u1) = some (0, E1)) (hf2 : P_X5_putSync (gN (bG2 G th u1)) F (gn (bG1 G th u1)) 0 E1 = some (0, E2)) (hf3 : P_X5_putData (gN (bG3 G th u1)) F (gn (bG1 G th u1)) (gn (bG2 G th u1)) 40 (upA E2 (gn (bG2 G th u1)) (fun _ => 0)) = some (0, E3)) : Met l yX0_init wzX0_init rm_X0_init (va_Pc [.ref (ad th), .ref (ad u1)] (Wa dd Y t G ad D sz)) (Qa dd Y G ad sz (bG3 G th u1) E3) 53 33000 (aA G ad sz) := by
  refine Met.ofW (cc := cX0_init) (maxL := 3) (ret := none) (by decide) rfl ?_
  intro p e s m args below meth c s₁ B hml hv
  obtain ⟨rfl, hsz, hP, hK, hT, hO⟩ := hv
  have hx := B.exec
  have hb := B.bytes
  have hr := B.returns
  have ht0 : ∀ w ∈ W0, w.before _ s = true := fun w h => atoms_spec (ws := wzX0_init) B.pre w (List.mem_cons_of_mem _ h)
  have hown : s.vm.findClass RX0 = some m.cls := findClass_of_methodNamed B.named
  have hlocks := B.notSynchronized
  have hin : meth.name = "<init>" := (name_of_methodNamed B.named B.method).1
  have hS : va_S (aA G ad sz) s.heap s.heap [] := va_S.rf
  have hA : ∀ q : Nat, s.heap.size ≤ q → aA G ad sz q := fun q h => Or.inr (by rw [← hsz]; exact h)
  have hD : va_D (aA G ad sz) (wW Y G ad D) := wD_self ij
  have hne : th ≠ gn G := Nat.ne_of_lt k_th.1
  -- behind the loop
  have L56 : ∀ (ad1 : Nat → Nat) (a_th a_u1 : Nat) (x2 : Int32) (H : Heap) (locs : List Loc) (ls : Array Slot), (∀ c, c < gn G → ad1 c = ad c) → ad1 th = a_th → AtK (bG1 G th u1) th 0 → Cl (bG1 G th u1) → gn G ≤ gn (bG1 G th u1) → va_P dd vwCl (wW Y (bG1 G th u1) ad1 (bD1 G D th u1)) H → va_D (aA G ad sz) (wW Y (bG1 G th u1) ad1 (bD1 G D th u1)) → va_S (aA G ad sz) s.heap H locs → lv_has ls 3 [(0, .ref a_th), (1, .ref a_u1), (2, .int x2)] → W p l e (headSpec wzX0_init rm_X0_init).room s m ([.ref (ad th), .ref (ad u1)].toArray) below meth c H locs 49 32016 (MQ below (Qa dd Y G ad sz (bG3 G th u1) E3) ([.ref (ad th), .ref (ad u1)].toArray) s 53 33000 (aA G ad sz)) (F0 m 56 ls []) := by
    have en : bG2 G th u1 = gSet (g_X5_init (gPush (bG1 G th u1) 5 0) (gn (bG1 G th u1)) 114) th 2 (gn (bG1 G th u1)) := rfl
    have ed : bD2 G D th u1 = m_X5_init (gPush (bG1 G th u1) 5 0) (upA (bD1 G D th u1) (gn (bG1 G th u1)) (fun _ => 0)) (gn (bG1 G th u1)) 114 := rfl
    have e3 : bG3 G th u1 = gPush (bG2 G th u1) 9 64 := rfl
    generalize bG3 G th u1 = g3 at *
    generalize bD2 G D th u1 = d2 at *
    generalize bG2 G th u1 = g2 at *
    generalize bD1 G D th u1 = d1 at *
    generalize bG1 G th u1 = g1 at *
    intro ad1 a_th a_u1 x2 H locs ls hu e_th k_th cl hle hP hD hS hl
    refine lv_aload_n hx hb dX0_init_56 rfl (lv_at hl 0 rfl) ?_
    refine y_new (ci := 5) (fs := [.null, .int 0, .null, .int 0, .int 0]) hx hb ht0 u_X5 tyX5 tyX5_ok hown (ht0 _ m_CL_X0_19) (ht0 _ m_IA_X5) (ht0 _ m_IN_X5) hK hP hD hS hA cl rfl rfl (by decide +kernel) (Nat.le_of_ble_eq_true rfl) (Nat.le_of_ble_eq_true rfl) dX0_init_57 (fun a_n H hP hD hS => ?_)
    have hu2 : ∀ c, c < gn G → va_up ad1 (gn g1) a_n c = ad c := fun c hc => (va_up_ne _ _ (Nat.ne_of_lt (Nat.lt_of_lt_of_le hc hle))).trans (hu c hc)
    have e_th2 : va_up ad1 (gn g1) a_n th = a_th := ead k_th e_th
    have e_n : va_up ad1 (gn g1) a_n (gn g1) = a_n := ead_new
    have kth2 : AtK (gPush g1 5 0) th 0 := atk_push k_th
    have kn : AtK (gPush g1 5 0) (gn g1) 5 := atk_new
    have cl2 : Cl (gPush g1 5 0) := cl.push
    have hgn2 : gn (gPush g1 5 0) = gn g1 + 1 := gn_push _ _ _
    generalize va_up ad1 (gn g1) a_n = ad2 at hP hD hu2 e_th2 e_n
    refine lv_dup hx hb dX0_init_60 rfl ?_
    refine lv_bipush (v := 114) hx hb dX0_init_61 (by decide) ?_
    refine y_callI (As := [.int 114]) ⟨hx, hb, hml, hown, ht0⟩ hO hK hT hP hD hS hA e_n (c_X5_init l dd Y t (gPush g1 5 0) ad2 H.size (wD_ij hD) cl2 _ (gn g1) 114 kn (by omega) (by omega)) m_ML_X0_29 m_IM_X5_init m_IN_X5 m_CO_X5_init rfl hd_X5_init rfl rfl ⟨Nat.le_of_ble_eq_true rfl, Nat.le_of_ble_eq_true rfl⟩ rfl hl.1 rfl (Nat.le_of_ble_eq_true rfl) dX0_init_63 ⟨Nat.le_of_ble_eq_true rfl, Nat.le_of_ble_eq_true rfl⟩ (fun ad3 H locs hw hP hD hS => ?_)
    have hu3 : ∀ c, c < gn G → ad3 c = ad c := fun c hc => (hw c (by rw [hgn2]; omega)).trans (hu2 c hc)
    have e_th3 : ad3 th = a_th := (hw th kth2.1).trans e_th2
    have e_n3 : ad3 (gn g1) = a_n := (hw _ kn.1).trans e_n
    have kth3 : AtK (g_X5_init (gPush g1 5 0) (gn g1) 114) th 0 := rg_k k_th
    have rn3 : RingAt (g_X5_init (gPush g1 5 0) (gn g1) 114) (gn g1) := rg_at
    have cl3 : Cl (g_X5_init (gPush g1 5 0) (gn g1) 114) := rg_cl cl
    have hgn3 : gn (g_X5_init (gPush g1 5 0) (gn g1) 114) = gn g1 + 3 := rg_n' _ _
    rw [← ed] at hP hD
    generalize g_X5_init (gPush g1 5 0) (gn g1) 114 = gg at *
    refine y_putR (ty := tyX0 2) hx hb ht0 u_X0 tyX0 tyX0_ok nmX0 hown hK hP hD hS e_th3 e_n3 (kth3).1 (ce0 (kth3).2) rfl 2 (by decide) (ht0 _ m_FL_X0_32) rfl rfl hin rfl (by decide +kernel) rfl rfl (Nat.le_of_ble_eq_true rfl) (by rw [(kth3).2]; rfl) dX0_init_66 (fun H locs hP hD hS => ?_)
    have kth4 : AtK (gSet gg th 2 (gn g1)) th 0 := atk_set kth3
    have p4 : gP (gSet gg th 2 (gn g1)) th 2 = some (gn g1) := gp_set
    have cl4 : Cl (gSet gg th 2 (gn g1)) := cl3.set (by rw [hgn3]; omega)
    have rn4 : RingAt (gSet gg th 2 (gn g1)) (gn g1) := ⟨atk_set rn3.1, gp_ne (fun q => Nat.ne_of_lt k_th.1 q.1.symm) rn3.2.1, gp_ne (fun q => Nat.ne_of_lt k_th.1 q.1.symm) rn3.2.2.1, atk_set rn3.2.2.2.1, atk_set rn3.2.2.2.2⟩
    have hgn4 : gn (gSet gg th 2 (gn g1)) = gn g1 + 3 := (gn_set _ _ _ _).trans hgn3
    rw [← en] at hP hD kth4 p4 cl4 rn4 hgn4
    refine lv_aload_n hx hb dX0_init_69 rfl (lv_at hl 0 rfl) ?_
    refine y_get hx hb ht0 u_X0 hown hK hP e_th3 (kth4).1 (ce0 (kth4).2) rfl 2 (by decide) (ht0 _ m_FL_X0_32) rfl (y_rfv p4 e_n3) dX0_init_70 ?_
    refine y_callVv (As := []) ⟨hx, hb, hml, hown, ht0⟩ hK hT hP hD hS e_n3 (c_X5_fillGap l dd Y t g2 ad3 (wD_ij hD) F (gn g1) rn4 _ _ _ hf1) m_ML_X0_36 sv_X5_fillGap hd_X5_fillGap rfl rfl ⟨Nat.le_of_ble_eq_true rfl, Nat.le_of_ble_eq_true rfl⟩ (rn4.1).1 (ce5 (rn4.1).2) rfl rfl hl.1 rfl (Nat.le_of_ble_eq_true rfl) dX0_init_73 ⟨Nat.le_of_ble_eq_true rfl, Nat.le_of_ble_eq_true rfl⟩ (fun H locs hP hk1 hS => ?_)
    have hD : va_D (aA G ad sz) (wW Y g2 ad3 E1) := wD_any hD
    refine lv_aload_n hx hb dX0_init_76 rfl (lv_at hl 0 rfl) ?_
    refine y_get hx hb ht0 u_X0 hown hK hP e_th3 (kth4).1 (ce0 (kth4).2) rfl 2 (by decide) (ht0 _ m_FL_X0_32) rfl (y_rfv p4 e_n3) dX0_init_77 ?_
    refine lv_iconst (v := 0) hx hb dX0_init_80 (by decide) ?_
    refine y_callVv (As := [.int 0]) ⟨hx, hb, hml, hown, ht0⟩ hK hT hP hD hS e_n3 (c_X5_putSync l dd Y t g2 ad3 (wD_ij hD) F (gn g1) rn4 0 _ _ _ hf2) m_ML_X0_39 sv_X5_putSync hd_X5_putSync rfl rfl ⟨Nat.le_of_ble_eq_true rfl, Nat.le_of_ble_eq_true rfl⟩ (rn4.1).1 (ce5 (rn4.1).2) rfl rfl hl.1 rfl (Nat.le_of_ble_eq_true rfl) dX0_init_81 ⟨Nat.le_of_ble_eq_true rfl, Nat.le_of_ble_eq_true rfl⟩ (fun H locs hP hk1 hS => ?_)
    have hD : va_D (aA G ad sz) (wW Y g2 ad3 E2) := wD_any hD
    refine lv_aload_n hx hb dX0_init_84 rfl (lv_at hl 0 rfl) ?_
    refine y_get hx hb ht0 u_X0 hown hK hP e_th3 (kth4).1 (ce0 (kth4).2) rfl 2 (by decide) (ht0 _ m_FL_X0_32) rfl (y_rfv p4 e_n3) dX0_init_85 ?_
    refine lv_bipush (v := 40) hx hb dX0_init_88 (by decide) ?_
    refine lv_bipush (v := 64) hx hb dX0_init_90 (by decide) ?_
    refine y_newa (N' := 64) hx hb ht0 hK hP hD hS hA cl4 rfl (by decide) (Nat.le_of_ble_eq_true rfl) (Nat.le_of_ble_eq_true rfl) dX0_init_92 (fun a_z H hP hD hS => ?_)
    have hu5 : ∀ c, c < gn G → va_up ad3 (gn g2) a_z c = ad c := fun c hc => (va_up_ne _ _ (by rw [hgn4]; omega)).trans (hu3 c hc)
    have e_n5 : va_up ad3 (gn g2) a_z (gn g1) = a_n := ead rn4.1 e_n3
    have e_z : va_up ad3 (gn g2) a_z (gn g2) = a_z := ead_new
    have rn5 : RingAt (gPush g2 9 64) (gn g1) := ⟨atk_push rn4.1, gp_push rn4.1.1 rn4.2.1, gp_push rn4.1.1 rn4.2.2.1, atk_push rn4.2.2.2.1, atk_push rn4.2.2.2.2⟩
    have kz : IArr (gPush g2 9 64) (gn g2) := atk_new
    generalize va_up ad3 (gn g2) a_z = ad5 at hP hD hu5 e_n5 e_z
    rw [← e3] at hP hD rn5 kz
    refine y_callVv (As := [.int 40, .ref a_z]) ⟨hx, hb, hml, hown, ht0⟩ hK hT hP hD hS e_n5 (by have cc := c_X5_putData l dd Y t g3 ad5 (wD_ij hD) F (gn g1) (gn g2) rn5 kz 40 _ _ _ hf3; rw [e_z] at cc; exact cc) m_ML_X0_42 sv_X5_putData hd_X5_putData rfl rfl ⟨Nat.le_of_ble_eq_true rfl, Nat.le_of_ble_eq_true rfl⟩ (rn5.1).1 (ce5 (rn5.1).2) rfl rfl hl.1 rfl (Nat.le_of_ble_eq_true rfl) dX0_init_94 ⟨Nat.le_of_ble_eq_true rfl, Nat.le_of_ble_eq_true rfl⟩ (fun H locs hP hk1 hS => ?_)
    have hD : va_D (aA G ad sz) (wW Y g3 ad5 E3) := wD_any hD
    refine W.widen (k := 53) (n := 33000) (Nat.le_of_ble_eq_true rfl) (Nat.le_of_ble_eq_true rfl) ?_
    exact y_vret hx hb hr hlocks hP hD hS hu5 dX0_init_97
  -- the loop
  obtain ⟨g0, hg0⟩ : ∃ z, z = bG0 G th u1 := ⟨_, rfl⟩
  obtain ⟨d0, hd0⟩ : ∃ z, z = bD0 G D th := ⟨_, rfl⟩
  have eb1 : bG1 G th u1 = rG g0 (gn G) 16 := by rw [hg0]; rfl
  have ed1 : bD1 G D th u1 = rD g0 d0 (gn G) 16 := by rw [hg0, hd0]; rfl
  rw [eb1, ed1] at L56
  have L25 : ∀ (n i : Nat) (ad1 : Nat → Nat) (a_th a_u1 a_ra : Nat) (x2 : Int32) (H : Heap) (locs : List Loc) (ls : Array Slot), i + n = 16 → x2 = nI i → (∀ c, c < gn G → ad1 c = ad c) → ad1 th = a_th → ad1 (gn G) = a_ra → AtK (rG g0 (gn G) i) th 0 → AtK (rG g0 (gn G) i) (gn G) 11 → gP (rG g0 (gn G) i) th 1 = some (gn G) → gN (rG g0 (gn G) i) (gn G) = 16 → Cl (rG g0 (gn G) i) → gn G ≤ gn (rG g0 (gn G) i) → va_P dd vwCl (wW Y (rG g0 (gn G) i) ad1 (rD g0 d0 (gn G) i)) H → va_D (aA G ad sz) (wW Y (rG g0 (gn G) i) ad1 (rD g0 d0 (gn G) i)) → va_S (aA G ad sz) s.heap H locs → lv_has ls 3 [(0, .ref a_th), (1, .ref a_u1), (2, .int x2)] → W p l e (headSpec wzX0_init rm_X0_init).room s m ([.ref (ad th), .ref (ad u1)].toArray) below meth c H locs (1 + 3 * i) (16 + 2000 * i) (MQ below (Qa dd Y G ad sz (bG3 G th u1) E3) ([.ref (ad th), .ref (ad u1)].toArray) s 53 33000 (aA G ad sz)) (F0 m 25 ls []) := by
    intro n
    induction n with
    | zero =>
      intro i ad1 a_th a_u1 a_ra x2 H locs ls hi ex hu e_th e_ra kth kra pra nra cl hle hP hD hS hl
      have hi : i = 16 := by omega
      subst hi
      refine lv_iload_n hx hb dX0_init_25 rfl (lv_at hl 2 rfl) ?_
      refine lv_bipush (v := 16) hx hb dX0_init_26 (by decide) ?_
      refine lv_icmp_ge (tgt := 56) hx hb dX0_init_28 (by decide) (fun c1 => ?_) (fun c1 => ?_)
      · exact L56 ad1 a_th a_u1 x2 H locs ls hu e_th kth cl hle hP hD hS hl
      · exact absurd (by rw [ex]; decide) c1
    | succ n ih =>
      intro i ad1 a_th a_u1 a_ra x2 H locs ls hi ex hu e_th e_ra kth kra pra nra cl hle hP hD hS hl
      refine lv_iload_n hx hb dX0_init_25 rfl (lv_at hl 2 rfl) ?_
      refine lv_bipush (v := 16) hx hb dX0_init_26 (by decide) ?_
      refine lv_icmp_ge (tgt := 56) hx hb dX0_init_28 (by decide) (fun c1 => ?_) (fun c1 => ?_)
      · exact absurd (show nI 16 ≤ nI i from by rw [← ex]; exact c1) (nI_ge (by omega) (by omega))
      · subst ex
        have eG : rG g0 (gn G) (i + 1) = gSet (g_X5_init (gPush (rG g0 (gn G) i) 5 0) (gn (rG g0 (gn G) i)) (rsz i)) (gn G) i (gn (rG g0 (gn G) i)) := rfl
        have eD : rD g0 d0 (gn G) (i + 1) = m_X5_init (gPush (rG g0 (gn G) i) 5 0) (upA (rD g0 d0 (gn G) i) (gn (rG g0 (gn G) i)) (fun _ => 0)) (gn (rG g0 (gn G) i)) (rsz i) := rfl
        have ihh := ih (i + 1)
        rw [eG, eD] at ihh
        clear ih L56 eG eD
        generalize rG g0 (gn G) i = g1 at *
        generalize rD g0 d0 (gn G) i = d1 at *
        refine lv_aload_n hx hb dX0_init_31 rfl (lv_at hl 0 rfl) ?_
        refine y_get hx hb ht0 u_X0 hown hK hP e_th (kth).1 (ce0 (kth).2) rfl 1 (by decide) (ht0 _ m_FL_X0_21) rfl (y_rfv pra e_ra) dX0_init_32 ?_
        refine lv_iload_n hx hb dX0_init_35 rfl (lv_at hl 2 rfl) ?_
        refine y_new (ci := 5) (fs := [.null, .int 0, .null, .int 0, .int 0]) hx hb ht0 u_X5 tyX5 tyX5_ok hown (ht0 _ m_CL_X0_19) (ht0 _ m_IA_X5) (ht0 _ m_IN_X5) hK hP hD hS hA cl rfl rfl (by decide +kernel) (by show 1 + 3 * i + 1 ≤ 53; omega) (by show 16 + 2000 * i + 5 ≤ 33000; omega) dX0_init_36 (fun a_n H hP hD hS => ?_)
        have hu2 : ∀ c, c < gn G → va_up ad1 (gn g1) a_n c = ad c := fun c hc => (va_up_ne _ _ (Nat.ne_of_lt (Nat.lt_of_lt_of_le hc hle))).trans (hu c hc)
        have e_th2 : va_up ad1 (gn g1) a_n th = a_th := ead kth e_th
        have e_ra2 : va_up ad1 (gn g1) a_n (gn G) = a_ra := ead kra e_ra
        have e_n : va_up ad1 (gn g1) a_n (gn g1) = a_n := ead_new
        have kth2 : AtK (gPush g1 5 0) th 0 := atk_push kth
        have kra2 : AtK (gPush g1 5 0) (gn G) 11 := atk_push kra
        have kn : AtK (gPush g1 5 0) (gn g1) 5 := atk_new
        have cl2 : Cl (gPush g1 5 0) := cl.push
        have hgn2 : gn (gPush g1 5 0) = gn g1 + 1 := gn_push _ _ _
        generalize va_up ad1 (gn g1) a_n = ad2 at hP hD hu2 e_th2 e_ra2 e_n
        refine lv_dup hx hb dX0_init_39 rfl ?_
        refine lv_iload_n hx hb dX0_init_40 rfl (lv_at hl 2 rfl) ?_
        refine lv_iconst (v := 1) hx hb dX0_init_41 (by decide) ?_
        refine lv_iadd hx hb dX0_init_42 ?_
        refine y_callSi (As := [.int (nI i + 1)]) ⟨hx, hb, hml, hown, ht0⟩ hK hT hP hD hS (c_X5_sizeOf l dd Y t (gPush g1 5 0) ad2 (wD_ij hD) F (nI i + 1) _ _ _ (sizeOf_eq _ (by omega))) m_ML_X0_25 ss_X5_sizeOf hd_X5_sizeOf rfl rfl ⟨Nat.le_of_ble_eq_true rfl, Nat.le_of_ble_eq_true rfl⟩ rfl hl.1 rfl (Nat.le_of_ble_eq_true rfl) dX0_init_43 ⟨by show 1 + 3 * i + 1 + 0 ≤ 53; omega, by show 16 + 2000 * i + 5 + 0 ≤ 33000; omega⟩ (fun H locs hP hS => ?_)
        have hrs := rsz_le i
        refine y_callI (As := [.int (nI (rsz i))]) ⟨hx, hb, hml, hown, ht0⟩ hO hK hT hP hD hS hA e_n (c_X5_init l dd Y t (gPush g1 5 0) ad2 H.size (wD_ij hD) cl2 _ (gn g1) (rsz i) kn hrs.1 (by omega)) m_ML_X0_29 m_IM_X5_init m_IN_X5 m_CO_X5_init rfl hd_X5_init rfl rfl ⟨Nat.le_of_ble_eq_true rfl, Nat.le_of_ble_eq_true rfl⟩ rfl hl.1 rfl (Nat.le_of_ble_eq_true rfl) dX0_init_46 ⟨by show 1 + 3 * i + 1 + 2 ≤ 53; omega, by show 16 + 2000 * i + 5 + (rsz i + 8 * rsz i / 11) ≤ 33000; omega⟩ (fun ad3 H locs hw hP hD hS => ?_)
        have hu3 : ∀ c, c < gn G → ad3 c = ad c := fun c hc => (hw c (by rw [hgn2]; omega)).trans (hu2 c hc)
        have e_th3 : ad3 th = a_th := (hw th kth2.1).trans e_th2
        have e_ra3 : ad3 (gn G) = a_ra := (hw _ kra2.1).trans e_ra2
        have e_n3 : ad3 (gn g1) = a_n := (hw _ kn.1).trans e_n
        have kth3 : AtK (g_X5_init (gPush g1 5 0) (gn g1) (rsz i)) th 0 := rg_k kth
        have kra3 : AtK (g_X5_init (gPush g1 5 0) (gn g1) (rsz i)) (gn G) 11 := rg_k kra
        have pra3 : gP (g_X5_init (gPush g1 5 0) (gn g1) (rsz i)) th 1 = some (gn G) := rg_p kth.1 pra
        have nra3 : gN (g_X5_init (gPush g1 5 0) (gn g1) (rsz i)) (gn G) = 16 := (rg_N kra.1).trans nra
        have rn3 : RingAt (g_X5_init (gPush g1 5 0) (gn g1) (rsz i)) (gn g1) := rg_at
        have cl3 : Cl (g_X5_init (gPush g1 5 0) (gn g1) (rsz i)) := rg_cl cl
        have hgn3 : gn (g_X5_init (gPush g1 5 0) (gn g1) (rsz i)) = gn g1 + 3 := rg_n' _ _
        generalize m_X5_init (gPush g1 5 0) (upA d1 (gn g1) fun _ => 0) (gn g1) (rsz i) = d3 at *
        generalize g_X5_init (gPush g1 5 0) (gn g1) (rsz i) = gg at *
        refine y_astR (j := i) hx hb hK hP hD hS e_ra3 e_n3 kra3 rn3.1 rfl (by rw [nra3]; omega) (by omega) dX0_init_49 (fun H locs hP hD hS => ?_)
        refine lv_iinc (v := nI i + 1) (lv' := [(2, .int (nI i + 1)), (0, .ref a_th), (1, .ref a_u1)]) hx hb dX0_init_50 hl (k := 2) rfl rfl (by decide) rfl (fun ls hl => ?_)
        refine lv_goto (tgt := 25) hx hb dX0_init_53 (by decide) ?_
        refine W.widen (k := 1 + 3 * (i + 1)) (n := 16 + 2000 * (i + 1)) (by omega) (by omega) ?_
        exact ihh ad3 a_th a_u1 a_ra (nI i + 1) H locs ls (by omega) (nI_1 i) hu3 e_th3 e_ra3 (atk_set kth3) (atk_set kra3) (gp_ne (fun q => hne q.1) pra3) ((gN_set _ _ _ _ _).trans nra3) (cl3.set (by rw [hgn3]; omega)) (by rw [gn_set, hgn3]; omega) hP hD hS (lv_sub hl [1, 2, 0] rfl)
  have hl := lv_entry ([.ref (ad th), .ref (ad u1)]) (n := 3) (Nat.le_of_ble_eq_true rfl)
  rw [lg_entry_eq]
  generalize (lg_sl ([.ref (ad th), .ref (ad u1)]) ++ List.replicate (3 - (lg_sl ([.ref (ad th), .ref (ad u1)])).length) Slot.unset).toArray = ls at hl ⊢
  have hl : lv_has ls 3 [(0, .ref (ad th)), (1, .ref (ad u1))] := hl
  refine lv_aload_n hx hb dX0_init_0 rfl (lv_at hl 0 rfl) ?_
  refine W.objInit hx hb hown (ht0 _ m_ML_X0_3) (ht0 _ m_IM_obj) (ht0 _ m_CO_obj) rfl (by rw [hml]; exact hl.1) rfl dX0_init_1 (Nat.le_of_ble_eq_true rfl) (Nat.le_of_ble_eq_true rfl) ?_
  refine W.eq (g2 := F0 m 4 ls []) rfl ?_
  refine lv_aload_n hx hb dX0_init_4 rfl (lv_at hl 0 rfl) ?_
  refine lv_aload_n hx hb dX0_init_5 rfl (lv_at hl 1 rfl) ?_
  refine y_putR (ty := tyX0 0) hx hb ht0 u_X0 tyX0 tyX0_ok nmX0 hown hK hP hD hS rfl rfl (k_th).1 (ce0 (k_th).2) rfl 0 (by decide) (ht0 _ m_FL_X0_9) rfl rfl hin rfl (by decide +kernel) rfl rfl (Nat.le_of_ble_eq_true rfl) (by rw [(k_th).2]; rfl) dX0_init_6 (fun H locs hP hD hS => ?_)
  have kth1 : AtK (gSet G th 0 u1) th 0 := atk_set k_th
  have cl1 : Cl (gSet G th 0 u1) := cl.set k_u1.1
  have en1 : gn (gSet G th 0 u1) = gn G := gn_set _ _ _ _
  refine lv_aload_n hx hb dX0_init_9 rfl (lv_at hl 0 rfl) ?_
  refine lv_iconst (v := (-1)) hx hb dX0_init_10 (by decide) ?_
  refine y_put (ty := .int) hx hb ht0 u_X0 tyX0 tyX0_ok nmX0 hown hK hP hD hS rfl (kth1).1 (ce0 (kth1).2) rfl 3 (by decide) (ht0 _ m_FL_X0_15) rfl rfl (by decide +kernel) rfl rfl (Nat.le_of_ble_eq_true rfl) (by rw [(kth1).2]; rfl) dX0_init_11 (fun H locs hP hD hS => ?_)
  refine lv_aload_n hx hb dX0_init_14 rfl (lv_at hl 0 rfl) ?_
  refine lv_bipush (v := 16) hx hb dX0_init_15 (by decide) ?_
  refine y_newr (N' := 16) hx hb hown (ht0 _ m_CL_X0_19) hO hK hP hD hS hA cl1 rfl (by decide) (Nat.le_of_ble_eq_true rfl) (Nat.le_of_ble_eq_true rfl) dX0_init_17 (fun a_ra H hP hD hS => ?_)
  rw [en1] at hP hD
  have hu2 : ∀ c, c < gn G → va_up ad (gn G) a_ra c = ad c := fun c hc => va_up_ne _ _ (Nat.ne_of_lt hc)
  have e_ra : va_up ad (gn G) a_ra (gn G) = a_ra := ead_new
  have e_th : va_up ad (gn G) a_ra th = ad th := hu2 th k_th.1
  generalize va_up ad (gn G) a_ra = ad2 at hP hD hu2 e_th e_ra
  have kth2 : AtK (gPush (gSet G th 0 u1) 11 16) th 0 := atk_push kth1
  have kra2 : AtK (gPush (gSet G th 0 u1) 11 16) (gn G) 11 := atk_new (G := gSet G th 0 u1)
  have cl2 : Cl (gPush (gSet G th 0 u1) 11 16) := cl1.push
  have nra2 : gN (gPush (gSet G th 0 u1) 11 16) (gn G) = 16 := if_pos rfl
  refine y_putR (ty := tyX0 1) hx hb ht0 u_X0 tyX0 tyX0_ok nmX0 hown hK hP hD hS e_th e_ra (kth2).1 (ce0 (kth2).2) rfl 1 (by decide) (ht0 _ m_FL_X0_21) rfl rfl hin rfl (by decide +kernel) rfl rfl (Nat.le_of_ble_eq_true rfl) (by rw [(kth2).2]; rfl) dX0_init_20 (fun H locs hP hD hS => ?_)
  refine lv_iconst (v := 0) hx hb dX0_init_23 (by decide) ?_
  refine lv_istore_n (lv' := [(2, .int 0), (0, .ref (ad th)), (1, .ref (ad u1))]) hx hb dX0_init_24 rfl hl (by decide) rfl (fun ls hl => ?_)
  have q1 : AtK g0 th 0 := by rw [hg0]; exact atk_set kth2
  have q2 : AtK g0 (gn G) 11 := by rw [hg0]; exact atk_set kra2
  have q3 : gP g0 th 1 = some (gn G) := by rw [hg0]; exact gp_set
  have q4 : gN g0 (gn G) = 16 := by rw [hg0]; exact (gN_set _ _ _ _ _).trans nra2
  have q5 : Cl g0 := by rw [hg0]; exact cl2.set kra2.1
  have q6 : gn G ≤ gn g0 := by rw [hg0]; exact Nat.le_succ _
  have eg : gSet (gPush (gSet G th 0 u1) 11 16) th 1 (gn G) = g0 := by rw [hg0]; rfl
  have edd : upA (up2 D th 3 (-1)) (gn G) (fun _ => 0) = d0 := by rw [hd0]; rfl
  rw [eg, edd] at hP hD
  have L25z := L25 16 0
  rw [show rG g0 (gn G) 0 = g0 from rfl, show rD g0 d0 (gn G) 0 = d0 from rfl] at L25z
  exact L25z ad2 (ad th) (ad u1) a_ra 0 H locs ls rfl nI_0.symm hu2 e_th e_ra q1 q2 q3 q4 q5 q6 hP hD hS (lv_sub hl [1, 2, 0] rfl)
