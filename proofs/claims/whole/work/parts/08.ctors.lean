theorem max0_nI {b : Nat} (h : b < 2 ^ 31) : (if (0 : Int32) < nI b then nI b else 0) = nI b := by
  by_cases c : (0 : Int32) < nI b
  · rw [if_pos c]
  · rw [if_neg c]
    have h0 : ¬ nI 0 < nI b := c
    rw [nI_ltI (by omega) h] at h0
    have : b = 0 := by omega
    subst this
    rfl
theorem max3_nI {b : Nat} (h3 : 3 ≤ b) (h : b < 2 ^ 31) : (if (3 : Int32) < nI b then nI b else 3) = nI b := by
  by_cases c : (3 : Int32) < nI b
  · rw [if_pos c]
  · rw [if_neg c]
    have h0 : ¬ nI 3 < nI b := c
    rw [nI_ltI (by omega) h] at h0
    have : b = 3 := by omega
    subst this
    rfl
theorem mul8_nI (b : Nat) : (8 : Int32) * nI b = nI (8 * b) := pk_mul 8 b
theorem up2_s {D : Mm} {c k : Nat} {v : Int32} : up2 D c k v c k = v := by simp [up2, upA, upd]
def g_X6_init (G : Gr) (th : Nat) : Gr := G
def m_X6_init (G : Gr) (D : Mm) (th : Nat) : Mm := D
abbrev rm_X6_init : Room := { frames := 1, cells := 0, slots := 0, locals := 20 }
set_option maxHeartbeats 4000000 in
set_option maxRecDepth 100000 in
theorem c_X6_init (l : Launch) (dd : Dd) (Y : Yc) (t : Ts3) (G : Gr) (ad : Nat → Nat) (sz : Nat) (ij : Ij G ad) (cl : Cl G) (D : Mm) (th : Nat) (k_th : AtK G th 6) : Met l yX6_init wzX6_init (rm_X6_init) (va_Pc [.ref (ad th)] (Wa dd Y t G ad D sz)) (Qa dd Y G ad sz (g_X6_init G th) (m_X6_init G D th)) 0 (0) (aA G ad sz) := by
  refine Met.ofW (cc := cX6_init) (maxL := 1) (ret := none) (by decide) rfl ?_
  intro p e s m args below meth c s₁ B hml hv
  obtain ⟨rfl, hsz, hP, hK, hT, hO⟩ := hv
  have hx := B.exec
  have hb := B.bytes
  have hr := B.returns
  have ht0 : ∀ w ∈ W0, w.before _ s = true := fun w h => atoms_spec (ws := wzX6_init) B.pre w (List.mem_cons_of_mem _ h)
  have hown : s.vm.findClass RX6 = some m.cls := findClass_of_methodNamed B.named
  have hlocks := B.notSynchronized
  have hin : meth.name = "<init>" := (name_of_methodNamed B.named B.method).1
  have hS : va_S (aA G ad sz) s.heap s.heap [] := va_S.rf
  have hA : ∀ q : Nat, s.heap.size ≤ q → aA G ad sz q := fun q h => Or.inr (by rw [← hsz]; exact h)
  have hD : va_D (aA G ad sz) (wW Y G ad D) := wD_self ij
  have hu : ∀ c, c < gn G → ad c = ad c := fun _ _ => rfl
  have hle : gn G ≤ gn G := Nat.le_refl _
  have hl := lv_entry ([.ref (ad th)]) (n := 1) (Nat.le_of_ble_eq_true rfl)
  rw [lg_entry_eq]
  generalize (lg_sl ([.ref (ad th)]) ++ List.replicate (1 - (lg_sl ([.ref (ad th)])).length) Slot.unset).toArray = ls at hl ⊢
  have hl : lv_has ls 1 [(0, .ref (ad th))] := hl
  obtain ⟨a_th, e_th⟩ : ∃ z, ad th = z := ⟨_, rfl⟩
  rw [e_th] at hl
  refine lv_aload_n hx hb dX6_init_0 rfl (lv_at hl 0 rfl) ?_
  refine W.objInit hx hb hown (ht0 _ m_ML_X6_1) (ht0 _ m_IM_obj) (ht0 _ m_CO_obj) rfl (by rw [hml]; exact hl.1) rfl dX6_init_1 (Nat.le_of_ble_eq_true rfl) (Nat.le_of_ble_eq_true rfl) ?_
  refine W.eq (g2 := F0 m 4 ls []) rfl ?_
  refine W.widen (k := 0) (n := 0) (Nat.le_of_ble_eq_true rfl) (Nat.le_of_ble_eq_true rfl) ?_
  exact y_vret hx hb hr hlocks hP hD hS hu dX6_init_4
def g_X4_init (G : Gr) (th : Nat) : Gr := (gSet (gPush G 9 64) th 0 (gn G))
def m_X4_init (G : Gr) (D : Mm) (th : Nat) : Mm := (upA D (gn G) (fun _ => 0))
abbrev rm_X4_init : Room := { frames := 1, cells := 1, slots := 64, locals := 20 }
set_option maxHeartbeats 4000000 in
set_option maxRecDepth 100000 in
theorem c_X4_init (l : Launch) (dd : Dd) (Y : Yc) (t : Ts3) (G : Gr) (ad : Nat → Nat) (sz : Nat) (ij : Ij G ad) (cl : Cl G) (D : Mm) (th : Nat) (k_th : AtK G th 4) : Met l yX4_init wzX4_init (rm_X4_init) (va_Pc [.ref (ad th)] (Wa dd Y t G ad D sz)) (Qa dd Y G ad sz (g_X4_init G th) (m_X4_init G D th)) 1 (64) (aA G ad sz) := by
  refine Met.ofW (cc := cX4_init) (maxL := 1) (ret := none) (by decide) rfl ?_
  intro p e s m args below meth c s₁ B hml hv
  obtain ⟨rfl, hsz, hP, hK, hT, hO⟩ := hv
  have hx := B.exec
  have hb := B.bytes
  have hr := B.returns
  have ht0 : ∀ w ∈ W0, w.before _ s = true := fun w h => atoms_spec (ws := wzX4_init) B.pre w (List.mem_cons_of_mem _ h)
  have hown : s.vm.findClass RX4 = some m.cls := findClass_of_methodNamed B.named
  have hlocks := B.notSynchronized
  have hin : meth.name = "<init>" := (name_of_methodNamed B.named B.method).1
  have hS : va_S (aA G ad sz) s.heap s.heap [] := va_S.rf
  have hA : ∀ q : Nat, s.heap.size ≤ q → aA G ad sz q := fun q h => Or.inr (by rw [← hsz]; exact h)
  have hD : va_D (aA G ad sz) (wW Y G ad D) := wD_self ij
  have hu : ∀ c, c < gn G → ad c = ad c := fun _ _ => rfl
  have hle : gn G ≤ gn G := Nat.le_refl _
  have hl := lv_entry ([.ref (ad th)]) (n := 1) (Nat.le_of_ble_eq_true rfl)
  rw [lg_entry_eq]
  generalize (lg_sl ([.ref (ad th)]) ++ List.replicate (1 - (lg_sl ([.ref (ad th)])).length) Slot.unset).toArray = ls at hl ⊢
  have hl : lv_has ls 1 [(0, .ref (ad th))] := hl
  obtain ⟨a_th, e_th⟩ : ∃ z, ad th = z := ⟨_, rfl⟩
  rw [e_th] at hl
  refine lv_aload_n hx hb dX4_init_0 rfl (lv_at hl 0 rfl) ?_
  refine W.objInit hx hb hown (ht0 _ m_ML_X4_3) (ht0 _ m_IM_obj) (ht0 _ m_CO_obj) rfl (by rw [hml]; exact hl.1) rfl dX4_init_1 (Nat.le_of_ble_eq_true rfl) (Nat.le_of_ble_eq_true rfl) ?_
  refine W.eq (g2 := F0 m 4 ls []) rfl ?_
  refine lv_aload_n hx hb dX4_init_4 rfl (lv_at hl 0 rfl) ?_
  refine lv_bipush (v := 64) hx hb dX4_init_5 (by decide) ?_
  refine y_newa (N' := 64) hx hb ht0 hK hP hD hS hA cl rfl (by decide) (Nat.le_of_ble_eq_true rfl) (Nat.le_of_ble_eq_true rfl) dX4_init_7 (fun a_n7 H hP hD hS => ?_)
  obtain ⟨G1, hG1⟩ : ∃ z, z = gPush G 9 64 := ⟨_, rfl⟩
  obtain ⟨D2, hD2⟩ : ∃ z, z = upA D (gn G) (fun _ => 0) := ⟨_, rfl⟩
  obtain ⟨ad3, had3⟩ : ∃ z, z = va_up ad (gn G) a_n7 := ⟨_, rfl⟩
  rw [← hG1, ← hD2, ← had3] at hP hD
  have e_th : ad3 th = a_th := by rw [had3]; exact ead k_th e_th
  have hu : ∀ c, c < gn G → ad3 c = ad c := fun c hc => by rw [had3]; exact (va_up_ne _ _ (Nat.ne_of_lt (Nat.lt_of_lt_of_le hc hle))).trans (hu c hc)
  have hle : gn G ≤ gn G1 := by rw [hG1]; exact Nat.le_succ_of_le hle
  have k_th : AtK G1 th 4 := by rw [hG1]; exact atk_push k_th
  have k_n7 : AtK G1 (gn G) 9 := by rw [hG1]; exact atk_new
  have e_n7 : ad3 (gn G) = a_n7 := by rw [had3]; exact ead_new
  have cl : Cl G1 := by rw [hG1]; exact cl.push
  refine y_putR (ty := tyX4 0) hx hb ht0 u_X4 tyX4 tyX4_ok nmX4 hown hK hP hD hS e_th e_n7 (k_th).1 (ce4 (k_th).2) rfl 0 (by decide) (ht0 _ m_FL_X4_9) rfl rfl hin rfl (by decide +kernel) rfl rfl (Nat.le_of_ble_eq_true rfl) (by rw [(k_th).2]; rfl) dX4_init_9 (fun H locs hP hD hS => ?_)
  obtain ⟨G4, hG4⟩ : ∃ z, z = gSet G1 th 0 (gn G) := ⟨_, rfl⟩
  rw [← hG4] at hP hD
  have cl : Cl G4 := by rw [hG4]; exact cl.set (k_n7).1
  have hle : gn G ≤ gn G4 := by rw [hG4]; exact hle
  have k_th : AtK G4 th 4 := by rw [hG4]; exact atk_set k_th
  have k_n7 : AtK G4 (gn G) 9 := by rw [hG4]; exact atk_set k_n7
  refine W.widen (k := 1) (n := 64) (Nat.le_of_ble_eq_true rfl) (Nat.le_of_ble_eq_true rfl) ?_
  subst hG4
  subst hD2
  subst hG1
  exact y_vret hx hb hr hlocks hP hD hS hu dX4_init_12
def g_X1_init (G : Gr) (th : Nat) (b : Nat) : Gr := (gSet (gPush G 9 b) th 0 (gn G))
def m_X1_init (G : Gr) (D : Mm) (th : Nat) (b : Nat) : Mm := (upA D (gn G) (fun _ => 0))
abbrev rm_X1_init (b : Nat) : Room := { frames := 1, cells := 1, slots := b, locals := 20 }
set_option maxHeartbeats 4000000 in
set_option maxRecDepth 100000 in
theorem c_X1_init (l : Launch) (dd : Dd) (Y : Yc) (t : Ts3) (G : Gr) (ad : Nat → Nat) (sz : Nat) (ij : Ij G ad) (cl : Cl G) (D : Mm) (th : Nat) (b : Nat) (k_th : AtK G th 1) (hb1 : b ≤ 4000) : Met l yX1_init wzX1_init (rm_X1_init b) (va_Pc [.ref (ad th), .int (nI b)] (Wa dd Y t G ad D sz)) (Qa dd Y G ad sz (g_X1_init G th b) (m_X1_init G D th b)) 1 (b) (aA G ad sz) := by
  refine Met.ofW (cc := cX1_init) (maxL := 2) (ret := none) (by decide) rfl ?_
  intro p e s m args below meth c s₁ B hml hv
  obtain ⟨rfl, hsz, hP, hK, hT, hO⟩ := hv
  have hx := B.exec
  have hb := B.bytes
  have hr := B.returns
  have ht0 : ∀ w ∈ W0, w.before _ s = true := fun w h => atoms_spec (ws := wzX1_init) B.pre w (List.mem_cons_of_mem _ h)
  have hown : s.vm.findClass RX1 = some m.cls := findClass_of_methodNamed B.named
  have hlocks := B.notSynchronized
  have hin : meth.name = "<init>" := (name_of_methodNamed B.named B.method).1
  have hS : va_S (aA G ad sz) s.heap s.heap [] := va_S.rf
  have hA : ∀ q : Nat, s.heap.size ≤ q → aA G ad sz q := fun q h => Or.inr (by rw [← hsz]; exact h)
  have hD : va_D (aA G ad sz) (wW Y G ad D) := wD_self ij
  have hu : ∀ c, c < gn G → ad c = ad c := fun _ _ => rfl
  have hle : gn G ≤ gn G := Nat.le_refl _
  have hl := lv_entry ([.ref (ad th), .int (nI b)]) (n := 2) (Nat.le_of_ble_eq_true rfl)
  rw [lg_entry_eq]
  generalize (lg_sl ([.ref (ad th), .int (nI b)]) ++ List.replicate (2 - (lg_sl ([.ref (ad th), .int (nI b)])).length) Slot.unset).toArray = ls at hl ⊢
  have hl : lv_has ls 2 [(0, .ref (ad th)), (1, .int (nI b))] := hl
  obtain ⟨a_th, e_th⟩ : ∃ z, ad th = z := ⟨_, rfl⟩
  rw [e_th] at hl
  refine lv_aload_n hx hb dX1_init_0 rfl (lv_at hl 0 rfl) ?_
  refine W.objInit hx hb hown (ht0 _ m_ML_X1_1) (ht0 _ m_IM_obj) (ht0 _ m_CO_obj) rfl (by rw [hml]; exact hl.1) rfl dX1_init_1 (Nat.le_of_ble_eq_true rfl) (Nat.le_of_ble_eq_true rfl) ?_
  refine W.eq (g2 := F0 m 4 ls []) rfl ?_
  refine lv_aload_n hx hb dX1_init_4 rfl (lv_at hl 0 rfl) ?_
  refine lv_iconst (v := 0) hx hb dX1_init_5 (by decide) ?_
  refine lv_iload_n hx hb dX1_init_6 rfl (lv_at hl 1 rfl) ?_
  refine va_mmax hx hb (hml.trans hl.1.symm) hown (ht0 _ m_ML_X1_7) (ht0 _ m_ST_max) (ht0 _ m_IN_J9) (ht0 _ m_CO_max) (Nat.le_of_ble_eq_true rfl) (Nat.le_of_ble_eq_true rfl) (Nat.zero_le _) (Nat.zero_le _) dX1_init_7 ?_
  rw [max0_nI (by omega)]
  refine y_newa (N' := b) hx hb ht0 hK hP hD hS hA cl (rfl) (by omega) (Nat.le_of_ble_eq_true rfl) (by show 0 + b ≤ b; omega) dX1_init_10 (fun a_n10 H hP hD hS => ?_)
  obtain ⟨G1, hG1⟩ : ∃ z, z = gPush G 9 b := ⟨_, rfl⟩
  obtain ⟨D2, hD2⟩ : ∃ z, z = upA D (gn G) (fun _ => 0) := ⟨_, rfl⟩
  obtain ⟨ad3, had3⟩ : ∃ z, z = va_up ad (gn G) a_n10 := ⟨_, rfl⟩
  rw [← hG1, ← hD2, ← had3] at hP hD
  have e_th : ad3 th = a_th := by rw [had3]; exact ead k_th e_th
  have hu : ∀ c, c < gn G → ad3 c = ad c := fun c hc => by rw [had3]; exact (va_up_ne _ _ (Nat.ne_of_lt (Nat.lt_of_lt_of_le hc hle))).trans (hu c hc)
  have hle : gn G ≤ gn G1 := by rw [hG1]; exact Nat.le_succ_of_le hle
  have k_th : AtK G1 th 1 := by rw [hG1]; exact atk_push k_th
  have k_n10 : AtK G1 (gn G) 9 := by rw [hG1]; exact atk_new
  have e_n10 : ad3 (gn G) = a_n10 := by rw [had3]; exact ead_new
  have cl : Cl G1 := by rw [hG1]; exact cl.push
  refine y_putR (ty := tyX1 0) hx hb ht0 u_X1 tyX1 tyX1_ok nmX1 hown hK hP hD hS e_th e_n10 (k_th).1 (ce1 (k_th).2) rfl 0 (by decide) (ht0 _ m_FL_X1_13) rfl rfl hin rfl (by decide +kernel) rfl rfl (Nat.le_of_ble_eq_true rfl) (by rw [(k_th).2]; rfl) dX1_init_12 (fun H locs hP hD hS => ?_)
  obtain ⟨G4, hG4⟩ : ∃ z, z = gSet G1 th 0 (gn G) := ⟨_, rfl⟩
  rw [← hG4] at hP hD
  have cl : Cl G4 := by rw [hG4]; exact cl.set (k_n10).1
  have hle : gn G ≤ gn G4 := by rw [hG4]; exact hle
  have k_th : AtK G4 th 1 := by rw [hG4]; exact atk_set k_th
  have k_n10 : AtK G4 (gn G) 9 := by rw [hG4]; exact atk_set k_n10
  refine W.widen (k := 1) (n := b) (Nat.le_of_ble_eq_true rfl) (by omega) ?_
  subst hG4
  subst hD2
  subst hG1
  exact y_vret hx hb hr hlocks hP hD hS hu dX1_init_15
def g_X2_init (G : Gr) (th : Nat) (u1 : Nat) (u2 : Nat) : Gr := (gSet (gSet (gSet (gPush (gSet (gPush (gSet (gPush G 9 40) th 2 (gn G)) 9 40) th 3 (gn (gSet (gPush G 9 40) th 2 (gn G)))) 9 64) th 5 (gn (gSet (gPush (gSet (gPush G 9 40) th 2 (gn G)) 9 40) th 3 (gn (gSet (gPush G 9 40) th 2 (gn G)))))) th 0 u1) th 1 u2)
def m_X2_init (G : Gr) (D : Mm) (th : Nat) (u1 : Nat) (u2 : Nat) : Mm := (upA (upA (upA D (gn G) (fun _ => 0)) (gn (gSet (gPush G 9 40) th 2 (gn G))) (fun _ => 0)) (gn (gSet (gPush (gSet (gPush G 9 40) th 2 (gn G)) 9 40) th 3 (gn (gSet (gPush G 9 40) th 2 (gn G))))) (fun _ => 0))
abbrev rm_X2_init : Room := { frames := 1, cells := 3, slots := 144, locals := 20 }
set_option maxHeartbeats 4000000 in
set_option maxRecDepth 100000 in
theorem c_X2_init (l : Launch) (dd : Dd) (Y : Yc) (t : Ts3) (G : Gr) (ad : Nat → Nat) (sz : Nat) (ij : Ij G ad) (cl : Cl G) (D : Mm) (th : Nat) (u1 : Nat) (u2 : Nat) (k_th : AtK G th 2) (k_u1 : AtK G u1 0) (k_u2 : AtK G u2 6) : Met l yX2_init wzX2_init (rm_X2_init) (va_Pc [.ref (ad th), .ref (ad u1), .ref (ad u2)] (Wa dd Y t G ad D sz)) (Qa dd Y G ad sz (g_X2_init G th u1 u2) (m_X2_init G D th u1 u2)) 3 (144) (aA G ad sz) := by
  refine Met.ofW (cc := cX2_init) (maxL := 3) (ret := none) (by decide) rfl ?_
  intro p e s m args below meth c s₁ B hml hv
  obtain ⟨rfl, hsz, hP, hK, hT, hO⟩ := hv
  have hx := B.exec
  have hb := B.bytes
  have hr := B.returns
  have ht0 : ∀ w ∈ W0, w.before _ s = true := fun w h => atoms_spec (ws := wzX2_init) B.pre w (List.mem_cons_of_mem _ h)
  have hown : s.vm.findClass RX2 = some m.cls := findClass_of_methodNamed B.named
  have hlocks := B.notSynchronized
  have hin : meth.name = "<init>" := (name_of_methodNamed B.named B.method).1
  have hS : va_S (aA G ad sz) s.heap s.heap [] := va_S.rf
  have hA : ∀ q : Nat, s.heap.size ≤ q → aA G ad sz q := fun q h => Or.inr (by rw [← hsz]; exact h)
  have hD : va_D (aA G ad sz) (wW Y G ad D) := wD_self ij
  have hu : ∀ c, c < gn G → ad c = ad c := fun _ _ => rfl
  have hle : gn G ≤ gn G := Nat.le_refl _
  have hl := lv_entry ([.ref (ad th), .ref (ad u1), .ref (ad u2)]) (n := 3) (Nat.le_of_ble_eq_true rfl)
  rw [lg_entry_eq]
  generalize (lg_sl ([.ref (ad th), .ref (ad u1), .ref (ad u2)]) ++ List.replicate (3 - (lg_sl ([.ref (ad th), .ref (ad u1), .ref (ad u2)])).length) Slot.unset).toArray = ls at hl ⊢
  have hl : lv_has ls 3 [(0, .ref (ad th)), (1, .ref (ad u1)), (2, .ref (ad u2))] := hl
  obtain ⟨a_th, e_th⟩ : ∃ z, ad th = z := ⟨_, rfl⟩
  rw [e_th] at hl
  obtain ⟨a_u1, e_u1⟩ : ∃ z, ad u1 = z := ⟨_, rfl⟩
  rw [e_u1] at hl
  obtain ⟨a_u2, e_u2⟩ : ∃ z, ad u2 = z := ⟨_, rfl⟩
  rw [e_u2] at hl
  refine lv_aload_n hx hb dX2_init_0 rfl (lv_at hl 0 rfl) ?_
  refine W.objInit hx hb hown (ht0 _ m_ML_X2_3) (ht0 _ m_IM_obj) (ht0 _ m_CO_obj) rfl (by rw [hml]; exact hl.1) rfl dX2_init_1 (Nat.le_of_ble_eq_true rfl) (Nat.le_of_ble_eq_true rfl) ?_
  refine W.eq (g2 := F0 m 4 ls []) rfl ?_
  refine lv_aload_n hx hb dX2_init_4 rfl (lv_at hl 0 rfl) ?_
  refine lv_bipush (v := 40) hx hb dX2_init_5 (by decide) ?_
  refine y_newa (N' := 40) hx hb ht0 hK hP hD hS hA cl rfl (by decide) (Nat.le_of_ble_eq_true rfl) (Nat.le_of_ble_eq_true rfl) dX2_init_7 (fun a_n7 H hP hD hS => ?_)
  obtain ⟨G1, hG1⟩ : ∃ z, z = gPush G 9 40 := ⟨_, rfl⟩
  obtain ⟨D2, hD2⟩ : ∃ z, z = upA D (gn G) (fun _ => 0) := ⟨_, rfl⟩
  obtain ⟨ad3, had3⟩ : ∃ z, z = va_up ad (gn G) a_n7 := ⟨_, rfl⟩
  rw [← hG1, ← hD2, ← had3] at hP hD
  have e_th : ad3 th = a_th := by rw [had3]; exact ead k_th e_th
  have e_u1 : ad3 u1 = a_u1 := by rw [had3]; exact ead k_u1 e_u1
  have e_u2 : ad3 u2 = a_u2 := by rw [had3]; exact ead k_u2 e_u2
  have hu : ∀ c, c < gn G → ad3 c = ad c := fun c hc => by rw [had3]; exact (va_up_ne _ _ (Nat.ne_of_lt (Nat.lt_of_lt_of_le hc hle))).trans (hu c hc)
  have hle : gn G ≤ gn G1 := by rw [hG1]; exact Nat.le_succ_of_le hle
  have k_th : AtK G1 th 2 := by rw [hG1]; exact atk_push k_th
  have k_u1 : AtK G1 u1 0 := by rw [hG1]; exact atk_push k_u1
  have k_u2 : AtK G1 u2 6 := by rw [hG1]; exact atk_push k_u2
  have k_n7 : AtK G1 (gn G) 9 := by rw [hG1]; exact atk_new
  have e_n7 : ad3 (gn G) = a_n7 := by rw [had3]; exact ead_new
  have cl : Cl G1 := by rw [hG1]; exact cl.push
  refine y_putR (ty := tyX2 2) hx hb ht0 u_X2 tyX2 tyX2_ok nmX2 hown hK hP hD hS e_th e_n7 (k_th).1 (ce2 (k_th).2) rfl 2 (by decide) (ht0 _ m_FL_X2_9) rfl rfl hin rfl (by decide +kernel) rfl rfl (Nat.le_of_ble_eq_true rfl) (by rw [(k_th).2]; rfl) dX2_init_9 (fun H locs hP hD hS => ?_)
  obtain ⟨G4, hG4⟩ : ∃ z, z = gSet G1 th 2 (gn G) := ⟨_, rfl⟩
  rw [← hG4] at hP hD
  have cl : Cl G4 := by rw [hG4]; exact cl.set (k_n7).1
  have hle : gn G ≤ gn G4 := by rw [hG4]; exact hle
  have k_th : AtK G4 th 2 := by rw [hG4]; exact atk_set k_th
  have k_u1 : AtK G4 u1 0 := by rw [hG4]; exact atk_set k_u1
  have k_u2 : AtK G4 u2 6 := by rw [hG4]; exact atk_set k_u2
  have k_n7 : AtK G4 (gn G) 9 := by rw [hG4]; exact atk_set k_n7
  refine lv_aload_n hx hb dX2_init_12 rfl (lv_at hl 0 rfl) ?_
  refine lv_bipush (v := 40) hx hb dX2_init_13 (by decide) ?_
  refine y_newa (N' := 40) hx hb ht0 hK hP hD hS hA cl rfl (by decide) (Nat.le_of_ble_eq_true rfl) (Nat.le_of_ble_eq_true rfl) dX2_init_15 (fun a_n15 H hP hD hS => ?_)
  obtain ⟨G5, hG5⟩ : ∃ z, z = gPush G4 9 40 := ⟨_, rfl⟩
  obtain ⟨D6, hD6⟩ : ∃ z, z = upA D2 (gn G4) (fun _ => 0) := ⟨_, rfl⟩
  obtain ⟨ad7, had7⟩ : ∃ z, z = va_up ad3 (gn G4) a_n15 := ⟨_, rfl⟩
  rw [← hG5, ← hD6, ← had7] at hP hD
  have e_th : ad7 th = a_th := by rw [had7]; exact ead k_th e_th
  have e_u1 : ad7 u1 = a_u1 := by rw [had7]; exact ead k_u1 e_u1
  have e_u2 : ad7 u2 = a_u2 := by rw [had7]; exact ead k_u2 e_u2
  have e_n7 : ad7 (gn G) = a_n7 := by rw [had7]; exact ead k_n7 e_n7
  have hu : ∀ c, c < gn G → ad7 c = ad c := fun c hc => by rw [had7]; exact (va_up_ne _ _ (Nat.ne_of_lt (Nat.lt_of_lt_of_le hc hle))).trans (hu c hc)
  have hle : gn G ≤ gn G5 := by rw [hG5]; exact Nat.le_succ_of_le hle
  have k_th : AtK G5 th 2 := by rw [hG5]; exact atk_push k_th
  have k_u1 : AtK G5 u1 0 := by rw [hG5]; exact atk_push k_u1
  have k_u2 : AtK G5 u2 6 := by rw [hG5]; exact atk_push k_u2
  have k_n7 : AtK G5 (gn G) 9 := by rw [hG5]; exact atk_push k_n7
  have k_n15 : AtK G5 (gn G4) 9 := by rw [hG5]; exact atk_new
  have e_n15 : ad7 (gn G4) = a_n15 := by rw [had7]; exact ead_new
  have cl : Cl G5 := by rw [hG5]; exact cl.push
  refine y_putR (ty := tyX2 3) hx hb ht0 u_X2 tyX2 tyX2_ok nmX2 hown hK hP hD hS e_th e_n15 (k_th).1 (ce2 (k_th).2) rfl 3 (by decide) (ht0 _ m_FL_X2_15) rfl rfl hin rfl (by decide +kernel) rfl rfl (Nat.le_of_ble_eq_true rfl) (by rw [(k_th).2]; rfl) dX2_init_17 (fun H locs hP hD hS => ?_)
  obtain ⟨G8, hG8⟩ : ∃ z, z = gSet G5 th 3 (gn G4) := ⟨_, rfl⟩
  rw [← hG8] at hP hD
  have cl : Cl G8 := by rw [hG8]; exact cl.set (k_n15).1
  have hle : gn G ≤ gn G8 := by rw [hG8]; exact hle
  have k_th : AtK G8 th 2 := by rw [hG8]; exact atk_set k_th
  have k_u1 : AtK G8 u1 0 := by rw [hG8]; exact atk_set k_u1
  have k_u2 : AtK G8 u2 6 := by rw [hG8]; exact atk_set k_u2
  have k_n7 : AtK G8 (gn G) 9 := by rw [hG8]; exact atk_set k_n7
  have k_n15 : AtK G8 (gn G4) 9 := by rw [hG8]; exact atk_set k_n15
  refine lv_aload_n hx hb dX2_init_20 rfl (lv_at hl 0 rfl) ?_
  refine lv_bipush (v := 64) hx hb dX2_init_21 (by decide) ?_
  refine y_newa (N' := 64) hx hb ht0 hK hP hD hS hA cl rfl (by decide) (Nat.le_of_ble_eq_true rfl) (Nat.le_of_ble_eq_true rfl) dX2_init_23 (fun a_n23 H hP hD hS => ?_)
  obtain ⟨G9, hG9⟩ : ∃ z, z = gPush G8 9 64 := ⟨_, rfl⟩
  obtain ⟨D10, hD10⟩ : ∃ z, z = upA D6 (gn G8) (fun _ => 0) := ⟨_, rfl⟩
  obtain ⟨ad11, had11⟩ : ∃ z, z = va_up ad7 (gn G8) a_n23 := ⟨_, rfl⟩
  rw [← hG9, ← hD10, ← had11] at hP hD
  have e_th : ad11 th = a_th := by rw [had11]; exact ead k_th e_th
  have e_u1 : ad11 u1 = a_u1 := by rw [had11]; exact ead k_u1 e_u1
  have e_u2 : ad11 u2 = a_u2 := by rw [had11]; exact ead k_u2 e_u2
  have e_n7 : ad11 (gn G) = a_n7 := by rw [had11]; exact ead k_n7 e_n7
  have e_n15 : ad11 (gn G4) = a_n15 := by rw [had11]; exact ead k_n15 e_n15
  have hu : ∀ c, c < gn G → ad11 c = ad c := fun c hc => by rw [had11]; exact (va_up_ne _ _ (Nat.ne_of_lt (Nat.lt_of_lt_of_le hc hle))).trans (hu c hc)
  have hle : gn G ≤ gn G9 := by rw [hG9]; exact Nat.le_succ_of_le hle
  have k_th : AtK G9 th 2 := by rw [hG9]; exact atk_push k_th
  have k_u1 : AtK G9 u1 0 := by rw [hG9]; exact atk_push k_u1
  have k_u2 : AtK G9 u2 6 := by rw [hG9]; exact atk_push k_u2
  have k_n7 : AtK G9 (gn G) 9 := by rw [hG9]; exact atk_push k_n7
  have k_n15 : AtK G9 (gn G4) 9 := by rw [hG9]; exact atk_push k_n15
  have k_n23 : AtK G9 (gn G8) 9 := by rw [hG9]; exact atk_new
  have e_n23 : ad11 (gn G8) = a_n23 := by rw [had11]; exact ead_new
  have cl : Cl G9 := by rw [hG9]; exact cl.push
  refine y_putR (ty := tyX2 5) hx hb ht0 u_X2 tyX2 tyX2_ok nmX2 hown hK hP hD hS e_th e_n23 (k_th).1 (ce2 (k_th).2) rfl 5 (by decide) (ht0 _ m_FL_X2_18) rfl rfl hin rfl (by decide +kernel) rfl rfl (Nat.le_of_ble_eq_true rfl) (by rw [(k_th).2]; rfl) dX2_init_25 (fun H locs hP hD hS => ?_)
  obtain ⟨G12, hG12⟩ : ∃ z, z = gSet G9 th 5 (gn G8) := ⟨_, rfl⟩
  rw [← hG12] at hP hD
  have cl : Cl G12 := by rw [hG12]; exact cl.set (k_n23).1
  have hle : gn G ≤ gn G12 := by rw [hG12]; exact hle
  have k_th : AtK G12 th 2 := by rw [hG12]; exact atk_set k_th
  have k_u1 : AtK G12 u1 0 := by rw [hG12]; exact atk_set k_u1
  have k_u2 : AtK G12 u2 6 := by rw [hG12]; exact atk_set k_u2
  have k_n7 : AtK G12 (gn G) 9 := by rw [hG12]; exact atk_set k_n7
  have k_n15 : AtK G12 (gn G4) 9 := by rw [hG12]; exact atk_set k_n15
  have k_n23 : AtK G12 (gn G8) 9 := by rw [hG12]; exact atk_set k_n23
  refine lv_aload_n hx hb dX2_init_28 rfl (lv_at hl 0 rfl) ?_
  refine lv_aload_n hx hb dX2_init_29 rfl (lv_at hl 1 rfl) ?_
  refine y_putR (ty := tyX2 0) hx hb ht0 u_X2 tyX2 tyX2_ok nmX2 hown hK hP hD hS e_th e_u1 (k_th).1 (ce2 (k_th).2) rfl 0 (by decide) (ht0 _ m_FL_X2_21) rfl rfl hin rfl (by decide +kernel) rfl rfl (Nat.le_of_ble_eq_true rfl) (by rw [(k_th).2]; rfl) dX2_init_30 (fun H locs hP hD hS => ?_)
  obtain ⟨G13, hG13⟩ : ∃ z, z = gSet G12 th 0 u1 := ⟨_, rfl⟩
  rw [← hG13] at hP hD
  have cl : Cl G13 := by rw [hG13]; exact cl.set (k_u1).1
  have hle : gn G ≤ gn G13 := by rw [hG13]; exact hle
  have k_th : AtK G13 th 2 := by rw [hG13]; exact atk_set k_th
  have k_u1 : AtK G13 u1 0 := by rw [hG13]; exact atk_set k_u1
  have k_u2 : AtK G13 u2 6 := by rw [hG13]; exact atk_set k_u2
  have k_n7 : AtK G13 (gn G) 9 := by rw [hG13]; exact atk_set k_n7
  have k_n15 : AtK G13 (gn G4) 9 := by rw [hG13]; exact atk_set k_n15
  have k_n23 : AtK G13 (gn G8) 9 := by rw [hG13]; exact atk_set k_n23
  refine lv_aload_n hx hb dX2_init_33 rfl (lv_at hl 0 rfl) ?_
  refine lv_aload_n hx hb dX2_init_34 rfl (lv_at hl 2 rfl) ?_
  refine y_putR (ty := tyX2 1) hx hb ht0 u_X2 tyX2 tyX2_ok nmX2 hown hK hP hD hS e_th e_u2 (k_th).1 (ce2 (k_th).2) rfl 1 (by decide) (ht0 _ m_FL_X2_25) rfl rfl hin rfl (by decide +kernel) rfl rfl (Nat.le_of_ble_eq_true rfl) (by rw [(k_th).2]; rfl) dX2_init_35 (fun H locs hP hD hS => ?_)
  obtain ⟨G14, hG14⟩ : ∃ z, z = gSet G13 th 1 u2 := ⟨_, rfl⟩
  rw [← hG14] at hP hD
  have cl : Cl G14 := by rw [hG14]; exact cl.set (k_u2).1
  have hle : gn G ≤ gn G14 := by rw [hG14]; exact hle
  have k_th : AtK G14 th 2 := by rw [hG14]; exact atk_set k_th
  have k_u1 : AtK G14 u1 0 := by rw [hG14]; exact atk_set k_u1
  have k_u2 : AtK G14 u2 6 := by rw [hG14]; exact atk_set k_u2
  have k_n7 : AtK G14 (gn G) 9 := by rw [hG14]; exact atk_set k_n7
  have k_n15 : AtK G14 (gn G4) 9 := by rw [hG14]; exact atk_set k_n15
  have k_n23 : AtK G14 (gn G8) 9 := by rw [hG14]; exact atk_set k_n23
  refine W.widen (k := 3) (n := 144) (Nat.le_of_ble_eq_true rfl) (Nat.le_of_ble_eq_true rfl) ?_
  subst hG14
  subst hG13
  subst hG12
  subst hD10
  subst hG9
  subst hG8
  subst hD6
  subst hG5
  subst hG4
  subst hD2
  subst hG1
  exact y_vret hx hb hr hlocks hP hD hS hu dX2_init_38
def g_X3_init (G : Gr) (th : Nat) (u1 : Nat) (u2 : Nat) : Gr := (gSet (gSet (gSet (gPush (gSet (gPush G 9 64) th 2 (gn G)) 9 64) th 8 (gn (gSet (gPush G 9 64) th 2 (gn G)))) th 0 u1) th 1 u2)
def m_X3_init (G : Gr) (D : Mm) (th : Nat) (u1 : Nat) (u2 : Nat) : Mm := (up2 (up2 (upA (upA D (gn G) (fun _ => 0)) (gn (gSet (gPush G 9 64) th 2 (gn G))) (fun _ => 0)) th 6 (-1)) th 7 (-1))
abbrev rm_X3_init : Room := { frames := 1, cells := 2, slots := 128, locals := 20 }
set_option maxHeartbeats 4000000 in
set_option maxRecDepth 100000 in
theorem c_X3_init (l : Launch) (dd : Dd) (Y : Yc) (t : Ts3) (G : Gr) (ad : Nat → Nat) (sz : Nat) (ij : Ij G ad) (cl : Cl G) (D : Mm) (th : Nat) (u1 : Nat) (u2 : Nat) (k_th : AtK G th 3) (k_u1 : AtK G u1 0) (k_u2 : AtK G u2 6) : Met l yX3_init wzX3_init (rm_X3_init) (va_Pc [.ref (ad th), .ref (ad u1), .ref (ad u2)] (Wa dd Y t G ad D sz)) (Qa dd Y G ad sz (g_X3_init G th u1 u2) (m_X3_init G D th u1 u2)) 2 (128) (aA G ad sz) := by
  refine Met.ofW (cc := cX3_init) (maxL := 3) (ret := none) (by decide) rfl ?_
  intro p e s m args below meth c s₁ B hml hv
  obtain ⟨rfl, hsz, hP, hK, hT, hO⟩ := hv
  have hx := B.exec
  have hb := B.bytes
  have hr := B.returns
  have ht0 : ∀ w ∈ W0, w.before _ s = true := fun w h => atoms_spec (ws := wzX3_init) B.pre w (List.mem_cons_of_mem _ h)
  have hown : s.vm.findClass RX3 = some m.cls := findClass_of_methodNamed B.named
  have hlocks := B.notSynchronized
  have hin : meth.name = "<init>" := (name_of_methodNamed B.named B.method).1
  have hS : va_S (aA G ad sz) s.heap s.heap [] := va_S.rf
  have hA : ∀ q : Nat, s.heap.size ≤ q → aA G ad sz q := fun q h => Or.inr (by rw [← hsz]; exact h)
  have hD : va_D (aA G ad sz) (wW Y G ad D) := wD_self ij
  have hu : ∀ c, c < gn G → ad c = ad c := fun _ _ => rfl
  have hle : gn G ≤ gn G := Nat.le_refl _
  have hl := lv_entry ([.ref (ad th), .ref (ad u1), .ref (ad u2)]) (n := 3) (Nat.le_of_ble_eq_true rfl)
  rw [lg_entry_eq]
  generalize (lg_sl ([.ref (ad th), .ref (ad u1), .ref (ad u2)]) ++ List.replicate (3 - (lg_sl ([.ref (ad th), .ref (ad u1), .ref (ad u2)])).length) Slot.unset).toArray = ls at hl ⊢
  have hl : lv_has ls 3 [(0, .ref (ad th)), (1, .ref (ad u1)), (2, .ref (ad u2))] := hl
  obtain ⟨a_th, e_th⟩ : ∃ z, ad th = z := ⟨_, rfl⟩
  rw [e_th] at hl
  obtain ⟨a_u1, e_u1⟩ : ∃ z, ad u1 = z := ⟨_, rfl⟩
  rw [e_u1] at hl
  obtain ⟨a_u2, e_u2⟩ : ∃ z, ad u2 = z := ⟨_, rfl⟩
  rw [e_u2] at hl
  refine lv_aload_n hx hb dX3_init_0 rfl (lv_at hl 0 rfl) ?_
  refine W.objInit hx hb hown (ht0 _ m_ML_X3_3) (ht0 _ m_IM_obj) (ht0 _ m_CO_obj) rfl (by rw [hml]; exact hl.1) rfl dX3_init_1 (Nat.le_of_ble_eq_true rfl) (Nat.le_of_ble_eq_true rfl) ?_
  refine W.eq (g2 := F0 m 4 ls []) rfl ?_
  refine lv_aload_n hx hb dX3_init_4 rfl (lv_at hl 0 rfl) ?_
  refine lv_bipush (v := 64) hx hb dX3_init_5 (by decide) ?_
  refine y_newa (N' := 64) hx hb ht0 hK hP hD hS hA cl rfl (by decide) (Nat.le_of_ble_eq_true rfl) (Nat.le_of_ble_eq_true rfl) dX3_init_7 (fun a_n7 H hP hD hS => ?_)
  obtain ⟨G1, hG1⟩ : ∃ z, z = gPush G 9 64 := ⟨_, rfl⟩
  obtain ⟨D2, hD2⟩ : ∃ z, z = upA D (gn G) (fun _ => 0) := ⟨_, rfl⟩
  obtain ⟨ad3, had3⟩ : ∃ z, z = va_up ad (gn G) a_n7 := ⟨_, rfl⟩
  rw [← hG1, ← hD2, ← had3] at hP hD
  have e_th : ad3 th = a_th := by rw [had3]; exact ead k_th e_th
  have e_u1 : ad3 u1 = a_u1 := by rw [had3]; exact ead k_u1 e_u1
  have e_u2 : ad3 u2 = a_u2 := by rw [had3]; exact ead k_u2 e_u2
  have hu : ∀ c, c < gn G → ad3 c = ad c := fun c hc => by rw [had3]; exact (va_up_ne _ _ (Nat.ne_of_lt (Nat.lt_of_lt_of_le hc hle))).trans (hu c hc)
  have hle : gn G ≤ gn G1 := by rw [hG1]; exact Nat.le_succ_of_le hle
  have k_th : AtK G1 th 3 := by rw [hG1]; exact atk_push k_th
  have k_u1 : AtK G1 u1 0 := by rw [hG1]; exact atk_push k_u1
  have k_u2 : AtK G1 u2 6 := by rw [hG1]; exact atk_push k_u2
  have k_n7 : AtK G1 (gn G) 9 := by rw [hG1]; exact atk_new
  have e_n7 : ad3 (gn G) = a_n7 := by rw [had3]; exact ead_new
  have cl : Cl G1 := by rw [hG1]; exact cl.push
  refine y_putR (ty := tyX3 2) hx hb ht0 u_X3 tyX3 tyX3_ok nmX3 hown hK hP hD hS e_th e_n7 (k_th).1 (ce3 (k_th).2) rfl 2 (by decide) (ht0 _ m_FL_X3_9) rfl rfl hin rfl (by decide +kernel) rfl rfl (Nat.le_of_ble_eq_true rfl) (by rw [(k_th).2]; rfl) dX3_init_9 (fun H locs hP hD hS => ?_)
  obtain ⟨G4, hG4⟩ : ∃ z, z = gSet G1 th 2 (gn G) := ⟨_, rfl⟩
  rw [← hG4] at hP hD
  have cl : Cl G4 := by rw [hG4]; exact cl.set (k_n7).1
  have hle : gn G ≤ gn G4 := by rw [hG4]; exact hle
  have k_th : AtK G4 th 3 := by rw [hG4]; exact atk_set k_th
  have k_u1 : AtK G4 u1 0 := by rw [hG4]; exact atk_set k_u1
  have k_u2 : AtK G4 u2 6 := by rw [hG4]; exact atk_set k_u2
  have k_n7 : AtK G4 (gn G) 9 := by rw [hG4]; exact atk_set k_n7
  refine lv_aload_n hx hb dX3_init_12 rfl (lv_at hl 0 rfl) ?_
  refine lv_bipush (v := 64) hx hb dX3_init_13 (by decide) ?_
  refine y_newa (N' := 64) hx hb ht0 hK hP hD hS hA cl rfl (by decide) (Nat.le_of_ble_eq_true rfl) (Nat.le_of_ble_eq_true rfl) dX3_init_15 (fun a_n15 H hP hD hS => ?_)
  obtain ⟨G5, hG5⟩ : ∃ z, z = gPush G4 9 64 := ⟨_, rfl⟩
  obtain ⟨D6, hD6⟩ : ∃ z, z = upA D2 (gn G4) (fun _ => 0) := ⟨_, rfl⟩
  obtain ⟨ad7, had7⟩ : ∃ z, z = va_up ad3 (gn G4) a_n15 := ⟨_, rfl⟩
  rw [← hG5, ← hD6, ← had7] at hP hD
  have e_th : ad7 th = a_th := by rw [had7]; exact ead k_th e_th
  have e_u1 : ad7 u1 = a_u1 := by rw [had7]; exact ead k_u1 e_u1
  have e_u2 : ad7 u2 = a_u2 := by rw [had7]; exact ead k_u2 e_u2
  have e_n7 : ad7 (gn G) = a_n7 := by rw [had7]; exact ead k_n7 e_n7
  have hu : ∀ c, c < gn G → ad7 c = ad c := fun c hc => by rw [had7]; exact (va_up_ne _ _ (Nat.ne_of_lt (Nat.lt_of_lt_of_le hc hle))).trans (hu c hc)
  have hle : gn G ≤ gn G5 := by rw [hG5]; exact Nat.le_succ_of_le hle
  have k_th : AtK G5 th 3 := by rw [hG5]; exact atk_push k_th
  have k_u1 : AtK G5 u1 0 := by rw [hG5]; exact atk_push k_u1
  have k_u2 : AtK G5 u2 6 := by rw [hG5]; exact atk_push k_u2
  have k_n7 : AtK G5 (gn G) 9 := by rw [hG5]; exact atk_push k_n7
  have k_n15 : AtK G5 (gn G4) 9 := by rw [hG5]; exact atk_new
  have e_n15 : ad7 (gn G4) = a_n15 := by rw [had7]; exact ead_new
  have cl : Cl G5 := by rw [hG5]; exact cl.push
  refine y_putR (ty := tyX3 8) hx hb ht0 u_X3 tyX3 tyX3_ok nmX3 hown hK hP hD hS e_th e_n15 (k_th).1 (ce3 (k_th).2) rfl 8 (by decide) (ht0 _ m_FL_X3_15) rfl rfl hin rfl (by decide +kernel) rfl rfl (Nat.le_of_ble_eq_true rfl) (by rw [(k_th).2]; rfl) dX3_init_17 (fun H locs hP hD hS => ?_)
  obtain ⟨G8, hG8⟩ : ∃ z, z = gSet G5 th 8 (gn G4) := ⟨_, rfl⟩
  rw [← hG8] at hP hD
  have cl : Cl G8 := by rw [hG8]; exact cl.set (k_n15).1
  have hle : gn G ≤ gn G8 := by rw [hG8]; exact hle
  have k_th : AtK G8 th 3 := by rw [hG8]; exact atk_set k_th
  have k_u1 : AtK G8 u1 0 := by rw [hG8]; exact atk_set k_u1
  have k_u2 : AtK G8 u2 6 := by rw [hG8]; exact atk_set k_u2
  have k_n7 : AtK G8 (gn G) 9 := by rw [hG8]; exact atk_set k_n7
  have k_n15 : AtK G8 (gn G4) 9 := by rw [hG8]; exact atk_set k_n15
  refine lv_aload_n hx hb dX3_init_20 rfl (lv_at hl 0 rfl) ?_
  refine lv_aload_n hx hb dX3_init_21 rfl (lv_at hl 1 rfl) ?_
  refine y_putR (ty := tyX3 0) hx hb ht0 u_X3 tyX3 tyX3_ok nmX3 hown hK hP hD hS e_th e_u1 (k_th).1 (ce3 (k_th).2) rfl 0 (by decide) (ht0 _ m_FL_X3_18) rfl rfl hin rfl (by decide +kernel) rfl rfl (Nat.le_of_ble_eq_true rfl) (by rw [(k_th).2]; rfl) dX3_init_22 (fun H locs hP hD hS => ?_)
  obtain ⟨G9, hG9⟩ : ∃ z, z = gSet G8 th 0 u1 := ⟨_, rfl⟩
  rw [← hG9] at hP hD
  have cl : Cl G9 := by rw [hG9]; exact cl.set (k_u1).1
  have hle : gn G ≤ gn G9 := by rw [hG9]; exact hle
  have k_th : AtK G9 th 3 := by rw [hG9]; exact atk_set k_th
  have k_u1 : AtK G9 u1 0 := by rw [hG9]; exact atk_set k_u1
  have k_u2 : AtK G9 u2 6 := by rw [hG9]; exact atk_set k_u2
  have k_n7 : AtK G9 (gn G) 9 := by rw [hG9]; exact atk_set k_n7
  have k_n15 : AtK G9 (gn G4) 9 := by rw [hG9]; exact atk_set k_n15
  refine lv_aload_n hx hb dX3_init_25 rfl (lv_at hl 0 rfl) ?_
  refine lv_aload_n hx hb dX3_init_26 rfl (lv_at hl 2 rfl) ?_
  refine y_putR (ty := tyX3 1) hx hb ht0 u_X3 tyX3 tyX3_ok nmX3 hown hK hP hD hS e_th e_u2 (k_th).1 (ce3 (k_th).2) rfl 1 (by decide) (ht0 _ m_FL_X3_22) rfl rfl hin rfl (by decide +kernel) rfl rfl (Nat.le_of_ble_eq_true rfl) (by rw [(k_th).2]; rfl) dX3_init_27 (fun H locs hP hD hS => ?_)
  obtain ⟨G10, hG10⟩ : ∃ z, z = gSet G9 th 1 u2 := ⟨_, rfl⟩
  rw [← hG10] at hP hD
  have cl : Cl G10 := by rw [hG10]; exact cl.set (k_u2).1
  have hle : gn G ≤ gn G10 := by rw [hG10]; exact hle
  have k_th : AtK G10 th 3 := by rw [hG10]; exact atk_set k_th
  have k_u1 : AtK G10 u1 0 := by rw [hG10]; exact atk_set k_u1
  have k_u2 : AtK G10 u2 6 := by rw [hG10]; exact atk_set k_u2
  have k_n7 : AtK G10 (gn G) 9 := by rw [hG10]; exact atk_set k_n7
  have k_n15 : AtK G10 (gn G4) 9 := by rw [hG10]; exact atk_set k_n15
  refine lv_aload_n hx hb dX3_init_30 rfl (lv_at hl 0 rfl) ?_
  refine lv_iconst (v := (-1)) hx hb dX3_init_31 (by decide) ?_
  refine y_put (ty := .int) hx hb ht0 u_X3 tyX3 tyX3_ok nmX3 hown hK hP hD hS e_th (k_th).1 (ce3 (k_th).2) rfl 6 (by decide) (ht0 _ m_FL_X3_26) rfl rfl (by decide +kernel) rfl rfl (Nat.le_of_ble_eq_true rfl) (by rw [(k_th).2]; rfl) dX3_init_32 (fun H locs hP hD hS => ?_)
  obtain ⟨D11, hD11⟩ : ∃ z, z = up2 D6 th 6 (-1) := ⟨_, rfl⟩
  rw [← hD11] at hP hD
  refine lv_aload_n hx hb dX3_init_35 rfl (lv_at hl 0 rfl) ?_
  refine lv_iconst (v := (-1)) hx hb dX3_init_36 (by decide) ?_
  refine y_put (ty := .int) hx hb ht0 u_X3 tyX3 tyX3_ok nmX3 hown hK hP hD hS e_th (k_th).1 (ce3 (k_th).2) rfl 7 (by decide) (ht0 _ m_FL_X3_30) rfl rfl (by decide +kernel) rfl rfl (Nat.le_of_ble_eq_true rfl) (by rw [(k_th).2]; rfl) dX3_init_37 (fun H locs hP hD hS => ?_)
  obtain ⟨D12, hD12⟩ : ∃ z, z = up2 D11 th 7 (-1) := ⟨_, rfl⟩
  rw [← hD12] at hP hD
  refine W.widen (k := 2) (n := 128) (Nat.le_of_ble_eq_true rfl) (Nat.le_of_ble_eq_true rfl) ?_
  subst hD12
  subst hD11
  subst hG10
  subst hG9
  subst hG8
  subst hD6
  subst hG5
  subst hG4
  subst hD2
  subst hG1
  exact y_vret hx hb hr hlocks hP hD hS hu dX3_init_40
def g_X5_init (G : Gr) (th : Nat) (b : Nat) : Gr := (gSet (gPush (gSet (gPush G 9 b) th 0 (gn G)) 9 (8 * b / 11)) th 2 (gn (gSet (gPush G 9 b) th 0 (gn G))))
def m_X5_init (G : Gr) (D : Mm) (th : Nat) (b : Nat) : Mm := (upA (up2 (upA D (gn G) (fun _ => 0)) th 1 (nI (8 * b))) (gn (gSet (gPush G 9 b) th 0 (gn G))) (fun _ => 0))
abbrev rm_X5_init (b : Nat) : Room := { frames := 1, cells := 2, slots := b + 8 * b / 11, locals := 20 }
set_option maxHeartbeats 4000000 in
set_option maxRecDepth 100000 in
theorem c_X5_init (l : Launch) (dd : Dd) (Y : Yc) (t : Ts3) (G : Gr) (ad : Nat → Nat) (sz : Nat) (ij : Ij G ad) (cl : Cl G) (D : Mm) (th : Nat) (b : Nat) (k_th : AtK G th 5) (hb0 : 3 ≤ b) (hb1 : b ≤ 4000) : Met l yX5_init wzX5_init (rm_X5_init b) (va_Pc [.ref (ad th), .int (nI b)] (Wa dd Y t G ad D sz)) (Qa dd Y G ad sz (g_X5_init G th b) (m_X5_init G D th b)) 2 (b + 8 * b / 11) (aA G ad sz) := by
  refine Met.ofW (cc := cX5_init) (maxL := 3) (ret := none) (by decide) rfl ?_
  intro p e s m args below meth c s₁ B hml hv
  obtain ⟨rfl, hsz, hP, hK, hT, hO⟩ := hv
  have hx := B.exec
  have hb := B.bytes
  have hr := B.returns
  have ht0 : ∀ w ∈ W0, w.before _ s = true := fun w h => atoms_spec (ws := wzX5_init) B.pre w (List.mem_cons_of_mem _ h)
  have hown : s.vm.findClass RX5 = some m.cls := findClass_of_methodNamed B.named
  have hlocks := B.notSynchronized
  have hin : meth.name = "<init>" := (name_of_methodNamed B.named B.method).1
  have hS : va_S (aA G ad sz) s.heap s.heap [] := va_S.rf
  have hA : ∀ q : Nat, s.heap.size ≤ q → aA G ad sz q := fun q h => Or.inr (by rw [← hsz]; exact h)
  have hD : va_D (aA G ad sz) (wW Y G ad D) := wD_self ij
  have hu : ∀ c, c < gn G → ad c = ad c := fun _ _ => rfl
  have hle : gn G ≤ gn G := Nat.le_refl _
  have hl := lv_entry ([.ref (ad th), .int (nI b)]) (n := 3) (Nat.le_of_ble_eq_true rfl)
  rw [lg_entry_eq]
  generalize (lg_sl ([.ref (ad th), .int (nI b)]) ++ List.replicate (3 - (lg_sl ([.ref (ad th), .int (nI b)])).length) Slot.unset).toArray = ls at hl ⊢
  have hl : lv_has ls 3 [(0, .ref (ad th)), (1, .int (nI b))] := hl
  obtain ⟨a_th, e_th⟩ : ∃ z, ad th = z := ⟨_, rfl⟩
  rw [e_th] at hl
  refine lv_aload_n hx hb dX5_init_0 rfl (lv_at hl 0 rfl) ?_
  refine W.objInit hx hb hown (ht0 _ m_ML_X5_3) (ht0 _ m_IM_obj) (ht0 _ m_CO_obj) rfl (by rw [hml]; exact hl.1) rfl dX5_init_1 (Nat.le_of_ble_eq_true rfl) (Nat.le_of_ble_eq_true rfl) ?_
  refine W.eq (g2 := F0 m 4 ls []) rfl ?_
  refine lv_iconst (v := 3) hx hb dX5_init_4 (by decide) ?_
  refine lv_iload_n hx hb dX5_init_5 rfl (lv_at hl 1 rfl) ?_
  refine va_mmax hx hb (hml.trans hl.1.symm) hown (ht0 _ m_ML_X5_9) (ht0 _ m_ST_max) (ht0 _ m_IN_J9) (ht0 _ m_CO_max) (Nat.le_of_ble_eq_true rfl) (Nat.le_of_ble_eq_true rfl) (Nat.zero_le _) (Nat.zero_le _) dX5_init_6 ?_
  rw [max3_nI hb0 (by omega)]
  refine lv_istore_n (lv' := [(2, .int (nI b)), (0, .ref a_th), (1, .int (nI b))]) hx hb dX5_init_9 rfl hl (by decide) rfl (fun ls hl => ?_)
  refine lv_aload_n hx hb dX5_init_10 rfl (lv_at hl 1 rfl) ?_
  refine lv_iload_n hx hb dX5_init_11 rfl (lv_at hl 0 rfl) ?_
  refine y_newa (N' := b) hx hb ht0 hK hP hD hS hA cl (rfl) (by omega) (Nat.le_of_ble_eq_true rfl) (by show 0 + b ≤ b + 8 * b / 11; omega) dX5_init_12 (fun a_n12 H hP hD hS => ?_)
  obtain ⟨G1, hG1⟩ : ∃ z, z = gPush G 9 b := ⟨_, rfl⟩
  obtain ⟨D2, hD2⟩ : ∃ z, z = upA D (gn G) (fun _ => 0) := ⟨_, rfl⟩
  obtain ⟨ad3, had3⟩ : ∃ z, z = va_up ad (gn G) a_n12 := ⟨_, rfl⟩
  rw [← hG1, ← hD2, ← had3] at hP hD
  have e_th : ad3 th = a_th := by rw [had3]; exact ead k_th e_th
  have hu : ∀ c, c < gn G → ad3 c = ad c := fun c hc => by rw [had3]; exact (va_up_ne _ _ (Nat.ne_of_lt (Nat.lt_of_lt_of_le hc hle))).trans (hu c hc)
  have hle : gn G ≤ gn G1 := by rw [hG1]; exact Nat.le_succ_of_le hle
  have k_th : AtK G1 th 5 := by rw [hG1]; exact atk_push k_th
  have k_n12 : AtK G1 (gn G) 9 := by rw [hG1]; exact atk_new
  have e_n12 : ad3 (gn G) = a_n12 := by rw [had3]; exact ead_new
  have cl : Cl G1 := by rw [hG1]; exact cl.push
  refine y_putR (ty := tyX5 0) hx hb ht0 u_X5 tyX5 tyX5_ok nmX5 hown hK hP hD hS e_th e_n12 (k_th).1 (ce5 (k_th).2) rfl 0 (by decide) (ht0 _ m_FL_X5_15) rfl rfl hin rfl (by decide +kernel) rfl rfl (Nat.le_of_ble_eq_true rfl) (by rw [(k_th).2]; rfl) dX5_init_14 (fun H locs hP hD hS => ?_)
  obtain ⟨G4, hG4⟩ : ∃ z, z = gSet G1 th 0 (gn G) := ⟨_, rfl⟩
  rw [← hG4] at hP hD
  have cl : Cl G4 := by rw [hG4]; exact cl.set (k_n12).1
  have hle : gn G ≤ gn G4 := by rw [hG4]; exact hle
  have k_th : AtK G4 th 5 := by rw [hG4]; exact atk_set k_th
  have k_n12 : AtK G4 (gn G) 9 := by rw [hG4]; exact atk_set k_n12
  refine lv_aload_n hx hb dX5_init_17 rfl (lv_at hl 1 rfl) ?_
  refine lv_bipush (v := 8) hx hb dX5_init_18 (by decide) ?_
  refine lv_iload_n hx hb dX5_init_20 rfl (lv_at hl 0 rfl) ?_
  refine lv_imul hx hb dX5_init_21 ?_
  rw [mul8_nI]
  refine y_putF (ty := .int) hx hb ht0 u_X5 tyX5 tyX5_ok nmX5 hown hK hP hD hS e_th (k_th).1 (ce5 (k_th).2) rfl 1 (by decide) (ht0 _ m_FL_X5_21) rfl rfl hin rfl (by decide +kernel) rfl rfl (Nat.le_of_ble_eq_true rfl) (by rw [(k_th).2]; rfl) dX5_init_22 (fun H locs hP hD hS => ?_)
  obtain ⟨D5, hD5⟩ : ∃ z, z = up2 D2 th 1 (nI (8 * b)) := ⟨_, rfl⟩
  rw [← hD5] at hP hD
  refine lv_aload_n hx hb dX5_init_25 rfl (lv_at hl 1 rfl) ?_
  refine lv_aload_n hx hb dX5_init_26 rfl (lv_at hl 1 rfl) ?_
  refine y_get hx hb ht0 u_X5 hown hK hP e_th (k_th).1 (ce5 (k_th).2) rfl 1 (by decide) (ht0 _ m_FL_X5_21) rfl rfl dX5_init_27 ?_
  refine lv_bipush (v := 11) hx hb dX5_init_30 (by decide) ?_
  refine lv_idiv hx hb dX5_init_32 (by decide) ?_
  refine y_newa (N' := (8 * b / 11)) hx hb ht0 hK hP hD hS hA cl (by rw [hD5, up2_s]; exact pk_div (d := 11) (by omega) (by omega) (by omega)) (by omega) (Nat.le_of_ble_eq_true rfl) (by show 0 + b + 8 * b / 11 ≤ b + 8 * b / 11; omega) dX5_init_33 (fun a_n33 H hP hD hS => ?_)
  obtain ⟨G6, hG6⟩ : ∃ z, z = gPush G4 9 (8 * b / 11) := ⟨_, rfl⟩
  obtain ⟨D7, hD7⟩ : ∃ z, z = upA D5 (gn G4) (fun _ => 0) := ⟨_, rfl⟩
  obtain ⟨ad8, had8⟩ : ∃ z, z = va_up ad3 (gn G4) a_n33 := ⟨_, rfl⟩
  rw [← hG6, ← hD7, ← had8] at hP hD
  have e_th : ad8 th = a_th := by rw [had8]; exact ead k_th e_th
  have e_n12 : ad8 (gn G) = a_n12 := by rw [had8]; exact ead k_n12 e_n12
  have hu : ∀ c, c < gn G → ad8 c = ad c := fun c hc => by rw [had8]; exact (va_up_ne _ _ (Nat.ne_of_lt (Nat.lt_of_lt_of_le hc hle))).trans (hu c hc)
  have hle : gn G ≤ gn G6 := by rw [hG6]; exact Nat.le_succ_of_le hle
  have k_th : AtK G6 th 5 := by rw [hG6]; exact atk_push k_th
  have k_n12 : AtK G6 (gn G) 9 := by rw [hG6]; exact atk_push k_n12
  have k_n33 : AtK G6 (gn G4) 9 := by rw [hG6]; exact atk_new
  have e_n33 : ad8 (gn G4) = a_n33 := by rw [had8]; exact ead_new
  have cl : Cl G6 := by rw [hG6]; exact cl.push
  refine y_putR (ty := tyX5 2) hx hb ht0 u_X5 tyX5 tyX5_ok nmX5 hown hK hP hD hS e_th e_n33 (k_th).1 (ce5 (k_th).2) rfl 2 (by decide) (ht0 _ m_FL_X5_25) rfl rfl hin rfl (by decide +kernel) rfl rfl (Nat.le_of_ble_eq_true rfl) (by rw [(k_th).2]; rfl) dX5_init_35 (fun H locs hP hD hS => ?_)
  obtain ⟨G9, hG9⟩ : ∃ z, z = gSet G6 th 2 (gn G4) := ⟨_, rfl⟩
  rw [← hG9] at hP hD
  have cl : Cl G9 := by rw [hG9]; exact cl.set (k_n33).1
  have hle : gn G ≤ gn G9 := by rw [hG9]; exact hle
  have k_th : AtK G9 th 5 := by rw [hG9]; exact atk_set k_th
  have k_n12 : AtK G9 (gn G) 9 := by rw [hG9]; exact atk_set k_n12
  have k_n33 : AtK G9 (gn G4) 9 := by rw [hG9]; exact atk_set k_n33
  refine W.widen (k := 2) (n := b + 8 * b / 11) (Nat.le_of_ble_eq_true rfl) (by omega) ?_
  subst hG9
  subst hD7
  subst hG6
  subst hD5
  subst hG4
  subst hD2
  subst hG1
  exact y_vret hx hb hr hlocks hP hD hS hu dX5_init_38
