theorem kp_X6 {G : Gr} {th c k : Nat} (h : AtK G c k) : AtK (g_X6_init G th) c k := h
theorem kp_X4 {G : Gr} {th c k : Nat} (h : AtK G c k) : AtK (g_X4_init G th) c k := atk_set (atk_push (N := 64) h)
theorem kp_X1 {G : Gr} {th b c k : Nat} (h : AtK G c k) : AtK (g_X1_init G th b) c k := atk_set (atk_push (N := b) h)
theorem kp_X3 {G : Gr} {th u1 u2 c k : Nat} (h : AtK G c k) : AtK (g_X3_init G th u1 u2) c k := atk_set (atk_set (atk_set (atk_push (N := 64) (atk_set (atk_push (N := 64) h)))))
theorem kp_X2 {G : Gr} {th u1 u2 c k : Nat} (h : AtK G c k) : AtK (g_X2_init G th u1 u2) c k := atk_set (atk_set (atk_set (atk_push (N := 64) (atk_set (atk_push (N := 40) (atk_set (atk_push (N := 40) h)))))))
theorem lp_X6 {G : Gr} {n th : Nat} (h : n ≤ gn G) : n ≤ gn (g_X6_init G th) := h
theorem lp_X4 {G : Gr} {n th : Nat} (h : n ≤ gn G) : n ≤ gn (g_X4_init G th) := Nat.le_succ_of_le h
theorem lp_X1 {G : Gr} {n th b : Nat} (h : n ≤ gn G) : n ≤ gn (g_X1_init G th b) := Nat.le_succ_of_le h
theorem lp_X3 {G : Gr} {n th u1 u2 : Nat} (h : n ≤ gn G) : n ≤ gn (g_X3_init G th u1 u2) := Nat.le_succ_of_le (Nat.le_succ_of_le h)
theorem lp_X2 {G : Gr} {n th u1 u2 : Nat} (h : n ≤ gn G) : n ≤ gn (g_X2_init G th u1 u2) := Nat.le_succ_of_le (Nat.le_succ_of_le (Nat.le_succ_of_le h))
theorem cp_X6 {G : Gr} {th : Nat} (h : Cl G) : Cl (g_X6_init G th) := h
theorem cp_X4 {G : Gr} {th : Nat} (h : Cl G) : Cl (g_X4_init G th) := h.push.set (Nat.lt_succ_self _)
theorem cp_X1 {G : Gr} {th b : Nat} (h : Cl G) : Cl (g_X1_init G th b) := h.push.set (Nat.lt_succ_self _)
theorem cp_X3 {G : Gr} {th u1 u2 k1 k2 : Nat} (h : Cl G) (h1 : AtK G u1 k1) (h2 : AtK G u2 k2) : Cl (g_X3_init G th u1 u2) := by
  unfold g_X3_init
  refine Cl.set (Cl.set (Cl.set (Cl.push (Cl.set (Cl.push h) (Nat.lt_succ_self _))) (Nat.lt_succ_self _)) ?_) ?_
  · exact Nat.lt_succ_of_lt (Nat.lt_succ_of_lt h1.1)
  · exact Nat.lt_succ_of_lt (Nat.lt_succ_of_lt h2.1)
theorem cp_X2 {G : Gr} {th u1 u2 k1 k2 : Nat} (h : Cl G) (h1 : AtK G u1 k1) (h2 : AtK G u2 k2) : Cl (g_X2_init G th u1 u2) := by
  unfold g_X2_init
  refine Cl.set (Cl.set (Cl.set (Cl.push (Cl.set (Cl.push (Cl.set (Cl.push h) (Nat.lt_succ_self _))) (Nat.lt_succ_self _))) (Nat.lt_succ_self _)) ?_) ?_
  · exact Nat.lt_succ_of_lt (Nat.lt_succ_of_lt (Nat.lt_succ_of_lt h1.1))
  · exact Nat.lt_succ_of_lt (Nat.lt_succ_of_lt (Nat.lt_succ_of_lt h2.1))
theorem pp_X6 {G : Gr} {th c i : Nat} {o : Option Nat} (hc : c < gn G) (hn : c ≠ th) (h : gP G c i = o) : gP (g_X6_init G th) c i = o := h
theorem pp_X4 {G : Gr} {th c i : Nat} {o : Option Nat} (hc : c < gn G) (hn : c ≠ th) (h : gP G c i = o) : gP (g_X4_init G th) c i = o := gp_ne (fun q => hn q.1) (gp_push hc h)
theorem pp_X1 {G : Gr} {th b c i : Nat} {o : Option Nat} (hc : c < gn G) (hn : c ≠ th) (h : gP G c i = o) : gP (g_X1_init G th b) c i = o := gp_ne (fun q => hn q.1) (gp_push hc h)
theorem pp_X3 {G : Gr} {th u1 u2 c i : Nat} {o : Option Nat} (hc : c < gn G) (hn : c ≠ th) (h : gP G c i = o) : gP (g_X3_init G th u1 u2) c i = o := by
  unfold g_X3_init
  refine gp_ne (fun q => hn q.1) (gp_ne (fun q => hn q.1) (gp_ne (fun q => hn q.1) (gp_push ?_ (gp_ne (fun q => hn q.1) (gp_push hc h)))))
  exact Nat.lt_succ_of_lt hc
theorem pp_X2 {G : Gr} {th u1 u2 c i : Nat} {o : Option Nat} (hc : c < gn G) (hn : c ≠ th) (h : gP G c i = o) : gP (g_X2_init G th u1 u2) c i = o := by
  unfold g_X2_init
  refine gp_ne (fun q => hn q.1) (gp_ne (fun q => hn q.1) (gp_ne (fun q => hn q.1) (gp_push ?_ (gp_ne (fun q => hn q.1) (gp_push ?_ (gp_ne (fun q => hn q.1) (gp_push hc h)))))))
  · exact Nat.lt_succ_of_lt (Nat.lt_succ_of_lt hc)
  · exact Nat.lt_succ_of_lt hc
theorem rG_keep {G : Gr} {ra c k : Nat} (h : AtK G c k) : ∀ i, AtK (rG G ra i) c k
  | 0 => h
  | i + 1 => atk_set (rg_k (rG_keep h i))
theorem rG_le {G : Gr} {ra n : Nat} (h : n ≤ gn G) : ∀ i, n ≤ gn (rG G ra i)
  | 0 => h
  | i + 1 => by
    have := rG_le (ra := ra) h i
    show n ≤ gn (g_X5_init (gPush (rG G ra i) 5 0) (gn (rG G ra i)) (rsz i))
    rw [rg_n']
    omega
theorem rG_cl {G : Gr} {ra : Nat} (h : Cl G) : ∀ i, Cl (rG G ra i)
  | 0 => h
  | i + 1 => (rg_cl (rG_cl h i)).set (by rw [rg_n']; omega)
theorem rG_p {G : Gr} {ra c j : Nat} {o : Option Nat} (hc : c < gn G) (hn : c ≠ ra) (h : gP G c j = o) : ∀ i, gP (rG G ra i) c j = o
  | 0 => h
  | i + 1 => gp_ne (fun q => hn q.1) (rg_p (Nat.lt_of_lt_of_le hc (rG_le (Nat.le_refl _) i)) (rG_p hc hn h i))
theorem kp_X0 {G : Gr} {th u1 c k : Nat} (h : AtK G c k) : AtK (bG3 G th u1) c k := atk_push (atk_set (rg_k (rG_keep (atk_set (atk_push (atk_set h))) 16)))
theorem lp_X0 {G : Gr} {n th u1 : Nat} (h : n ≤ gn G) : n ≤ gn (bG3 G th u1) := by
  have h1 : n ≤ gn (bG1 G th u1) := rG_le (Nat.le_succ_of_le h) 16
  have h2 : gn (bG2 G th u1) = gn (bG1 G th u1) + 3 := (gn_set _ _ _ _).trans (rg_n' _ _)
  have h3 : gn (bG3 G th u1) = gn (bG2 G th u1) + 1 := gn_push _ _ _
  omega
theorem cp_X0 {G : Gr} {th u1 k1 : Nat} (h : Cl G) (h1 : AtK G u1 k1) : Cl (bG3 G th u1) := by
  have c0 : Cl (bG0 G th u1) := ((h.set h1.1).push).set (Nat.lt_succ_self _)
  have c1 : Cl (bG1 G th u1) := rG_cl c0 16
  have c2 : Cl (bG2 G th u1) := (rg_cl c1).set (by rw [rg_n']; omega)
  exact c2.push
theorem pp_X0 {G : Gr} {th u1 c i : Nat} {o : Option Nat} (hc : c < gn G) (hn : c ≠ th) (h : gP G c i = o) : gP (bG3 G th u1) c i = o := by
  have c0 : gP (bG0 G th u1) c i = o := gp_ne (fun q => hn q.1) (gp_push hc (gp_ne (fun q => hn q.1) h))
  have c1 : gP (bG1 G th u1) c i = o := rG_p (Nat.lt_succ_of_lt hc) (Nat.ne_of_lt hc) c0 16
  have n1 : gn G ≤ gn (bG1 G th u1) := rG_le (Nat.le_succ _) 16
  have c2 : gP (bG2 G th u1) c i = o := gp_ne (fun q => hn q.1) (rg_p (Nat.lt_of_lt_of_le hc n1) c1)
  have n2 : gn (bG2 G th u1) = gn (bG1 G th u1) + 3 := (gn_set _ _ _ _).trans (rg_n' _ _)
  exact gp_push (by omega) c2
def x7_G1 (G : Gr) (th : Nat) : Gr := gPush G 6 0
def x7_D2 (G : Gr) (D E3 : Mm) (th : Nat) : Mm := upA D (gn G) (fun _ => 0)
def x7_G4 (G : Gr) (th : Nat) : Gr := g_X6_init (x7_G1 G th) (gn G)
def x7_D5 (G : Gr) (D E3 : Mm) (th : Nat) : Mm := m_X6_init (x7_G1 G th) (x7_D2 G D E3 th) (gn G)
def x7_G6 (G : Gr) (th : Nat) : Gr := gSet (x7_G4 G th) th 0 (gn G)
def x7_G7 (G : Gr) (th : Nat) : Gr := gPush (x7_G6 G th) 0 0
def x7_D8 (G : Gr) (D E3 : Mm) (th : Nat) : Mm := upA (x7_D5 G D E3 th) (gn (x7_G6 G th)) (fun _ => 0)
def x7_G10 (G : Gr) (th : Nat) : Gr := bG3 (x7_G7 G th) (gn (x7_G6 G th)) (gn G)
def x7_G11 (G : Gr) (th : Nat) : Gr := gSet (x7_G10 G th) th 1 (gn (x7_G6 G th))
def x7_G12 (G : Gr) (th : Nat) : Gr := gPush (x7_G11 G th) 4 0
def x7_D13 (G : Gr) (D E3 : Mm) (th : Nat) : Mm := upA E3 (gn (x7_G11 G th)) (fun _ => 0)
def x7_G15 (G : Gr) (th : Nat) : Gr := g_X4_init (x7_G12 G th) (gn (x7_G11 G th))
def x7_D16 (G : Gr) (D E3 : Mm) (th : Nat) : Mm := m_X4_init (x7_G12 G th) (x7_D13 G D E3 th) (gn (x7_G11 G th))
def x7_G17 (G : Gr) (th : Nat) : Gr := gSet (x7_G15 G th) th 2 (gn (x7_G11 G th))
def x7_G18 (G : Gr) (th : Nat) : Gr := gPush (x7_G17 G th) 3 0
def x7_D19 (G : Gr) (D E3 : Mm) (th : Nat) : Mm := upA (x7_D16 G D E3 th) (gn (x7_G17 G th)) (fun _ => 0)
def x7_G21 (G : Gr) (th : Nat) : Gr := g_X3_init (x7_G18 G th) (gn (x7_G17 G th)) (gn (x7_G6 G th)) (gn G)
def x7_D22 (G : Gr) (D E3 : Mm) (th : Nat) : Mm := m_X3_init (x7_G18 G th) (x7_D19 G D E3 th) (gn (x7_G17 G th)) (gn (x7_G6 G th)) (gn G)
def x7_G23 (G : Gr) (th : Nat) : Gr := gSet (x7_G21 G th) th 3 (gn (x7_G17 G th))
def x7_G24 (G : Gr) (th : Nat) : Gr := gPush (x7_G23 G th) 2 0
def x7_D25 (G : Gr) (D E3 : Mm) (th : Nat) : Mm := upA (x7_D22 G D E3 th) (gn (x7_G23 G th)) (fun _ => 0)
def x7_G27 (G : Gr) (th : Nat) : Gr := g_X2_init (x7_G24 G th) (gn (x7_G23 G th)) (gn (x7_G6 G th)) (gn G)
def x7_D28 (G : Gr) (D E3 : Mm) (th : Nat) : Mm := m_X2_init (x7_G24 G th) (x7_D25 G D E3 th) (gn (x7_G23 G th)) (gn (x7_G6 G th)) (gn G)
def x7_G29 (G : Gr) (th : Nat) : Gr := gSet (x7_G27 G th) th 4 (gn (x7_G23 G th))
def x7_G30 (G : Gr) (th : Nat) : Gr := gPush (x7_G29 G th) 1 0
def x7_D31 (G : Gr) (D E3 : Mm) (th : Nat) : Mm := upA (x7_D28 G D E3 th) (gn (x7_G29 G th)) (fun _ => 0)
def x7_G33 (G : Gr) (th : Nat) : Gr := g_X1_init (x7_G30 G th) (gn (x7_G29 G th)) 2480
def x7_D34 (G : Gr) (D E3 : Mm) (th : Nat) : Mm := m_X1_init (x7_G30 G th) (x7_D31 G D E3 th) (gn (x7_G29 G th)) 2480
def x7_G35 (G : Gr) (th : Nat) : Gr := gSet (x7_G33 G th) th 5 (gn (x7_G29 G th))
def x7_G36 (G : Gr) (th : Nat) : Gr := gPush (x7_G35 G th) 1 0
def x7_D37 (G : Gr) (D E3 : Mm) (th : Nat) : Mm := upA (x7_D34 G D E3 th) (gn (x7_G35 G th)) (fun _ => 0)
def x7_G39 (G : Gr) (th : Nat) : Gr := g_X1_init (x7_G36 G th) (gn (x7_G35 G th)) 2480
def x7_D40 (G : Gr) (D E3 : Mm) (th : Nat) : Mm := m_X1_init (x7_G36 G th) (x7_D37 G D E3 th) (gn (x7_G35 G th)) 2480
def x7_G41 (G : Gr) (th : Nat) : Gr := gSet (x7_G39 G th) th 6 (gn (x7_G35 G th))
def x7_G42 (G : Gr) (th : Nat) : Gr := gPush (x7_G41 G th) 1 0
def x7_D43 (G : Gr) (D E3 : Mm) (th : Nat) : Mm := upA (x7_D40 G D E3 th) (gn (x7_G41 G th)) (fun _ => 0)
def x7_G45 (G : Gr) (th : Nat) : Gr := g_X1_init (x7_G42 G th) (gn (x7_G41 G th)) 0
def x7_D46 (G : Gr) (D E3 : Mm) (th : Nat) : Mm := m_X1_init (x7_G42 G th) (x7_D43 G D E3 th) (gn (x7_G41 G th)) 0
def x7_G47 (G : Gr) (th : Nat) : Gr := gSet (x7_G45 G th) th 7 (gn (x7_G41 G th))
def x7_G48 (G : Gr) (th : Nat) : Gr := gPush (x7_G47 G th) 9 64
def x7_D49 (G : Gr) (D E3 : Mm) (th : Nat) : Mm := upA (x7_D46 G D E3 th) (gn (x7_G47 G th)) (fun _ => 0)
def x7_G51 (G : Gr) (th : Nat) : Gr := gSet (x7_G48 G th) th 8 (gn (x7_G47 G th))
def x7_G52 (G : Gr) (th : Nat) : Gr := gPush (x7_G51 G th) 9 1060
def x7_D53 (G : Gr) (D E3 : Mm) (th : Nat) : Mm := upA (x7_D49 G D E3 th) (gn (x7_G51 G th)) (fun _ => 0)
def x7_G55 (G : Gr) (th : Nat) : Gr := gSet (x7_G52 G th) th 9 (gn (x7_G51 G th))
def g_X7_init (G : Gr) (th : Nat) : Gr := (x7_G55 G th)
def m_X7_init (G : Gr) (D E3 : Mm) (th : Nat) : Mm := (x7_D53 G D E3 th)
abbrev rm_X7_init : Room := { frames := 6, cells := 72, slots := 40000, locals := 175 }
set_option maxHeartbeats 4000000 in
set_option maxRecDepth 100000 in
theorem c_X7_init (l : Launch) (dd : Dd) (Y : Yc) (t : Ts3) (G : Gr) (ad : Nat → Nat) (sz : Nat) (ij : Ij G ad) (cl : Cl G) (D : Mm) (th : Nat) (k_th : AtK G th 7) (F : Nat) (E1 E2 E3 : Mm) (hf1 : P_X5_fillGap (gN (bG2 (x7_G7 G th) (gn (x7_G6 G th)) (gn G))) F (gn (bG1 (x7_G7 G th) (gn (x7_G6 G th)) (gn G))) (bD2 (x7_G7 G th) (x7_D8 G D E3 th) (gn (x7_G6 G th)) (gn G)) = some (0, E1)) (hf2 : P_X5_putSync (gN (bG2 (x7_G7 G th) (gn (x7_G6 G th)) (gn G))) F (gn (bG1 (x7_G7 G th) (gn (x7_G6 G th)) (gn G))) 0 E1 = some (0, E2)) (hf3 : P_X5_putData (gN (bG3 (x7_G7 G th) (gn (x7_G6 G th)) (gn G))) F (gn (bG1 (x7_G7 G th) (gn (x7_G6 G th)) (gn G))) (gn (bG2 (x7_G7 G th) (gn (x7_G6 G th)) (gn G))) 40 (upA E2 (gn (bG2 (x7_G7 G th) (gn (x7_G6 G th)) (gn G))) (fun _ => 0)) = some (0, E3)) : Met l yX7_init wzX7_init (rm_X7_init) (va_Pc [.ref (ad th)] (Wa dd Y t G ad D sz)) (Qa dd Y G ad sz (g_X7_init G th) (m_X7_init G D E3 th)) 72 (40000) (aA G ad sz) := by
  refine Met.ofW (cc := cX7_init) (maxL := 1) (ret := none) (by decide) rfl ?_
  intro p e s m args below meth c s₁ B hml hv
  obtain ⟨rfl, hsz, hP, hK, hT, hO⟩ := hv
  have hx := B.exec
  have hb := B.bytes
  have hr := B.returns
  have ht0 : ∀ w ∈ W0, w.before _ s = true := fun w h => atoms_spec (ws := wzX7_init) B.pre w (List.mem_cons_of_mem _ h)
  have hown : s.vm.findClass RX7 = some m.cls := findClass_of_methodNamed B.named
  have hlocks := B.notSynchronized
  have hin : meth.name = "<init>" := (name_of_methodNamed B.named B.method).1
  have hS : va_S (aA G ad sz) s.heap s.heap [] := va_S.rf
  have hA : ∀ q : Nat, s.heap.size ≤ q → aA G ad sz q := fun q h => Or.inr (by rw [← hsz]; exact h)
  have hD : va_D (aA G ad sz) (wW Y G ad D) := wD_self ij
  have hu : ∀ c, c < gn G → ad c = ad c := fun _ _ => rfl
  have hle : gn G ≤ gn G := Nat.le_refl _
  have k0_th := k_th
  have hl := lv_entry ([.ref (ad th)]) (n := 1) (Nat.le_of_ble_eq_true rfl)
  rw [lg_entry_eq]
  generalize (lg_sl ([.ref (ad th)]) ++ List.replicate (1 - (lg_sl ([.ref (ad th)])).length) Slot.unset).toArray = ls at hl ⊢
  have hl : lv_has ls 1 [(0, .ref (ad th))] := hl
  obtain ⟨a_th, e_th⟩ : ∃ z, ad th = z := ⟨_, rfl⟩
  rw [e_th] at hl
  refine lv_aload_n hx hb dX7_init_0 rfl (lv_at hl 0 rfl) ?_
  refine W.objInit hx hb hown (ht0 _ m_ML_X7_3) (ht0 _ m_IM_obj) (ht0 _ m_CO_obj) rfl (by rw [hml]; exact hl.1) rfl dX7_init_1 (Nat.le_of_ble_eq_true rfl) (Nat.le_of_ble_eq_true rfl) ?_
  refine W.eq (g2 := F0 m 4 ls []) rfl ?_
  refine lv_aload_n hx hb dX7_init_4 rfl (lv_at hl 0 rfl) ?_
  have l_n5 : gn G ≤ gn G := hle
  refine y_new (ci := 6) (fs := [.int 0, .int 0, .int 0]) hx hb ht0 u_X6 tyX6 tyX6_ok hown (ht0 _ m_CL_X7_9) (ht0 _ m_IA_X6) (ht0 _ m_IN_X6) hK hP hD hS hA cl rfl rfl (by decide +kernel) (Nat.le_of_ble_eq_true rfl) (Nat.le_of_ble_eq_true rfl) dX7_init_5 (fun a_n5 H hP hD hS => ?_)
  obtain ⟨G1, hG1⟩ : ∃ z, z = gPush G 6 0 := ⟨_, rfl⟩
  have q_G1 : G1 = x7_G1 G th := by rw [hG1]; rfl
  obtain ⟨D2, hD2⟩ : ∃ z, z = upA D (gn G) (fun _ => 0) := ⟨_, rfl⟩
  have q_D2 : D2 = x7_D2 G D E3 th := by rw [hD2]; rfl
  obtain ⟨ad3, had3⟩ : ∃ z, z = va_up ad (gn G) a_n5 := ⟨_, rfl⟩
  rw [← hG1, ← hD2, ← had3] at hP hD
  have e_th : ad3 th = a_th := by rw [had3]; exact ead k_th e_th
  have hu : ∀ c, c < gn G → ad3 c = ad c := fun c hc => by rw [had3]; exact (va_up_ne _ _ (Nat.ne_of_lt (Nat.lt_of_lt_of_le hc hle))).trans (hu c hc)
  have hle : gn G ≤ gn G1 := by rw [hG1]; exact Nat.le_succ_of_le hle
  have k_th : AtK G1 th 7 := by rw [hG1]; exact atk_push k_th
  have k_n5 : AtK G1 (gn G) 6 := by rw [hG1]; exact atk_new
  have e_n5 : ad3 (gn G) = a_n5 := by rw [had3]; exact ead_new
  have cl : Cl G1 := by rw [hG1]; exact cl.push
  refine lv_dup hx hb dX7_init_8 rfl ?_
  refine y_callIN (As := []) ⟨hx, hb, hml, hown, ht0⟩ hO hK hT hP hD hS hA e_n5 (c_X6_init l dd Y t G1 ad3 H.size (wD_ij hD) cl D2 (gn G) k_n5) hT.2.2.2.2.2.2.2.2.2.2.1 m_IM_X6_init m_IN_X6 m_CO_X6_init rfl hd_X6_init rfl rfl ⟨Nat.le_of_ble_eq_true rfl, Nat.le_of_ble_eq_true rfl⟩ rfl hl.1 rfl (Nat.le_of_ble_eq_true rfl) dX7_init_9 ⟨Nat.le_of_ble_eq_true rfl, Nat.le_of_ble_eq_true rfl⟩ (fun u9 H locs hw hP hD hS => ?_)
  obtain ⟨G4, hG4⟩ : ∃ z, z = g_X6_init G1 (gn G) := ⟨_, rfl⟩
  have q_G4 : G4 = x7_G4 G th := by rw [hG4, q_G1]; rfl
  obtain ⟨D5, hD5⟩ : ∃ z, z = m_X6_init G1 D2 (gn G) := ⟨_, rfl⟩
  have q_D5 : D5 = x7_D5 G D E3 th := by rw [hD5, q_G1, q_D2]; rfl
  rw [← hG4, ← hD5] at hP hD
  have e_th : u9 th = a_th := (hw _ k_th.1).trans e_th
  have e_n5 : u9 (gn G) = a_n5 := (hw _ k_n5.1).trans e_n5
  have hu : ∀ c, c < gn G → u9 c = ad c := fun c hc => (hw c (Nat.lt_of_lt_of_le hc hle)).trans (hu c hc)
  have hle : gn G ≤ gn G4 := by rw [hG4]; exact lp_X6 hle
  have cl : Cl G4 := by rw [hG4]; exact cp_X6 cl
  have k_th : AtK G4 th 7 := by rw [hG4]; exact kp_X6 k_th
  have k_n5 : AtK G4 (gn G) 6 := by rw [hG4]; exact kp_X6 k_n5
  refine y_putR (ty := tyX7 0) hx hb ht0 u_X7 tyX7 tyX7_ok nmX7 hown hK hP hD hS e_th e_n5 (k_th).1 (ce7 (k_th).2) rfl 0 (by decide) (ht0 _ m_FL_X7_12) rfl rfl hin rfl (by decide +kernel) rfl rfl (Nat.le_of_ble_eq_true rfl) (by rw [(k_th).2]; rfl) dX7_init_12 (fun H locs hP hD hS => ?_)
  obtain ⟨G6, hG6⟩ : ∃ z, z = gSet G4 th 0 (gn G) := ⟨_, rfl⟩
  have q_G6 : G6 = x7_G6 G th := by rw [hG6, q_G4]; rfl
  rw [← hG6] at hP hD
  have p_th_0 : gP G6 th 0 = some (gn G) := by rw [hG6]; exact gp_set
  have cl : Cl G6 := by rw [hG6]; exact cl.set (k_n5).1
  have hle : gn G ≤ gn G6 := by rw [hG6]; exact hle
  have k_th : AtK G6 th 7 := by rw [hG6]; exact atk_set k_th
  have k_n5 : AtK G6 (gn G) 6 := by rw [hG6]; exact atk_set k_n5
  refine lv_aload_n hx hb dX7_init_15 rfl (lv_at hl 0 rfl) ?_
  have l_n16 : gn G ≤ gn G6 := hle
  refine y_new (ci := 0) (fs := [.null, .null, .null, .int 0, .int 0, .int 0, .int 0]) hx hb ht0 u_X0 tyX0 tyX0_ok hown (ht0 _ m_CL_X7_16) (ht0 _ m_IA_X0) (ht0 _ m_IN_X0) hK hP hD hS hA cl rfl rfl (by decide +kernel) (Nat.le_of_ble_eq_true rfl) (Nat.le_of_ble_eq_true rfl) dX7_init_16 (fun a_n16 H hP hD hS => ?_)
  obtain ⟨G7, hG7⟩ : ∃ z, z = gPush G6 0 0 := ⟨_, rfl⟩
  have q_G7 : G7 = x7_G7 G th := by rw [hG7, q_G6]; rfl
  obtain ⟨D8, hD8⟩ : ∃ z, z = upA D5 (gn G6) (fun _ => 0) := ⟨_, rfl⟩
  have q_D8 : D8 = x7_D8 G D E3 th := by rw [hD8, q_D5, q_G6]; rfl
  obtain ⟨ad9, had9⟩ : ∃ z, z = va_up u9 (gn G6) a_n16 := ⟨_, rfl⟩
  rw [← hG7, ← hD8, ← had9] at hP hD
  have e_th : ad9 th = a_th := by rw [had9]; exact ead k_th e_th
  have e_n5 : ad9 (gn G) = a_n5 := by rw [had9]; exact ead k_n5 e_n5
  have hu : ∀ c, c < gn G → ad9 c = ad c := fun c hc => by rw [had9]; exact (va_up_ne _ _ (Nat.ne_of_lt (Nat.lt_of_lt_of_le hc hle))).trans (hu c hc)
  have hle : gn G ≤ gn G7 := by rw [hG7]; exact Nat.le_succ_of_le hle
  have p_th_0 : gP G7 th 0 = some (gn G) := by rw [hG7]; exact gp_push (k_th).1 p_th_0
  have k_th : AtK G7 th 7 := by rw [hG7]; exact atk_push k_th
  have k_n5 : AtK G7 (gn G) 6 := by rw [hG7]; exact atk_push k_n5
  have k_n16 : AtK G7 (gn G6) 0 := by rw [hG7]; exact atk_new
  have e_n16 : ad9 (gn G6) = a_n16 := by rw [had9]; exact ead_new
  have cl : Cl G7 := by rw [hG7]; exact cl.push
  refine lv_dup hx hb dX7_init_19 rfl ?_
  refine lv_aload_n hx hb dX7_init_20 rfl (lv_at hl 0 rfl) ?_
  refine y_get hx hb ht0 u_X7 hown hK hP e_th (k_th).1 (ce7 (k_th).2) rfl 0 (by decide) (ht0 _ m_FL_X7_12) rfl (y_rfv p_th_0 e_n5) dX7_init_21 ?_
  rw [← q_G7, ← q_G6, ← q_D8] at hf1
  rw [← q_G7, ← q_G6] at hf2 hf3
  refine y_callI (As := [.ref a_n5]) ⟨hx, hb, hml, hown, ht0⟩ hO hK hT hP hD hS hA e_n16 (by have cq := c_X0_init l dd Y t G7 ad9 H.size (wD_ij hD) cl D8 (gn G6) (gn G) k_n16 k_n5 F E1 E2 E3 hf1 hf2 hf3; rw [e_n5] at cq; exact cq) m_ML_X7_18 m_IM_X0_init m_IN_X0 m_CO_X0_init rfl hd_X0_init rfl rfl ⟨Nat.le_of_ble_eq_true rfl, Nat.le_of_ble_eq_true rfl⟩ rfl hl.1 rfl (Nat.le_of_ble_eq_true rfl) dX7_init_24 ⟨Nat.le_of_ble_eq_true rfl, Nat.le_of_ble_eq_true rfl⟩ (fun u24 H locs hw hP hD hS => ?_)
  obtain ⟨G10, hG10⟩ : ∃ z, z = bG3 G7 (gn G6) (gn G) := ⟨_, rfl⟩
  have q_G10 : G10 = x7_G10 G th := by rw [hG10, q_G7, q_G6]; rfl
  rw [← hG10] at hP hD
  have e_th : u24 th = a_th := (hw _ k_th.1).trans e_th
  have e_n5 : u24 (gn G) = a_n5 := (hw _ k_n5.1).trans e_n5
  have e_n16 : u24 (gn G6) = a_n16 := (hw _ k_n16.1).trans e_n16
  have hu : ∀ c, c < gn G → u24 c = ad c := fun c hc => (hw c (Nat.lt_of_lt_of_le hc hle)).trans (hu c hc)
  have hle : gn G ≤ gn G10 := by rw [hG10]; exact lp_X0 hle
  have p_th_0 : gP G10 th 0 = some (gn G) := by rw [hG10]; exact pp_X0 k_th.1 (Nat.ne_of_lt (Nat.lt_of_lt_of_le k0_th.1 l_n16)) p_th_0
  have cl : Cl G10 := by rw [hG10]; exact cp_X0 cl k_n5
  have k_th : AtK G10 th 7 := by rw [hG10]; exact kp_X0 k_th
  have k_n5 : AtK G10 (gn G) 6 := by rw [hG10]; exact kp_X0 k_n5
  have k_n16 : AtK G10 (gn G6) 0 := by rw [hG10]; exact kp_X0 k_n16
  refine y_putR (ty := tyX7 1) hx hb ht0 u_X7 tyX7 tyX7_ok nmX7 hown hK hP hD hS e_th e_n16 (k_th).1 (ce7 (k_th).2) rfl 1 (by decide) (ht0 _ m_FL_X7_21) rfl rfl hin rfl (by decide +kernel) rfl rfl (Nat.le_of_ble_eq_true rfl) (by rw [(k_th).2]; rfl) dX7_init_27 (fun H locs hP hD hS => ?_)
  obtain ⟨G11, hG11⟩ : ∃ z, z = gSet G10 th 1 (gn G6) := ⟨_, rfl⟩
  have q_G11 : G11 = x7_G11 G th := by rw [hG11, q_G10, q_G6]; rfl
  rw [← hG11] at hP hD
  have p_th_0 : gP G11 th 0 = some (gn G) := by rw [hG11]; exact gp_ne (by omega) p_th_0
  have p_th_1 : gP G11 th 1 = some (gn G6) := by rw [hG11]; exact gp_set
  have cl : Cl G11 := by rw [hG11]; exact cl.set (k_n16).1
  have hle : gn G ≤ gn G11 := by rw [hG11]; exact hle
  have k_th : AtK G11 th 7 := by rw [hG11]; exact atk_set k_th
  have k_n5 : AtK G11 (gn G) 6 := by rw [hG11]; exact atk_set k_n5
  have k_n16 : AtK G11 (gn G6) 0 := by rw [hG11]; exact atk_set k_n16
  refine lv_aload_n hx hb dX7_init_30 rfl (lv_at hl 0 rfl) ?_
  have l_n31 : gn G ≤ gn G11 := hle
  refine y_new (ci := 4) (fs := [.null]) hx hb ht0 u_X4 tyX4 tyX4_ok hown (ht0 _ m_CL_X7_25) (ht0 _ m_IA_X4) (ht0 _ m_IN_X4) hK hP hD hS hA cl rfl rfl (by decide +kernel) (Nat.le_of_ble_eq_true rfl) (Nat.le_of_ble_eq_true rfl) dX7_init_31 (fun a_n31 H hP hD hS => ?_)
  obtain ⟨G12, hG12⟩ : ∃ z, z = gPush G11 4 0 := ⟨_, rfl⟩
  have q_G12 : G12 = x7_G12 G th := by rw [hG12, q_G11]; rfl
  obtain ⟨D13, hD13⟩ : ∃ z, z = upA E3 (gn G11) (fun _ => 0) := ⟨_, rfl⟩
  have q_D13 : D13 = x7_D13 G D E3 th := by rw [hD13, q_G11]; rfl
  obtain ⟨ad14, had14⟩ : ∃ z, z = va_up u24 (gn G11) a_n31 := ⟨_, rfl⟩
  rw [← hG12, ← hD13, ← had14] at hP hD
  have e_th : ad14 th = a_th := by rw [had14]; exact ead k_th e_th
  have e_n5 : ad14 (gn G) = a_n5 := by rw [had14]; exact ead k_n5 e_n5
  have e_n16 : ad14 (gn G6) = a_n16 := by rw [had14]; exact ead k_n16 e_n16
  have hu : ∀ c, c < gn G → ad14 c = ad c := fun c hc => by rw [had14]; exact (va_up_ne _ _ (Nat.ne_of_lt (Nat.lt_of_lt_of_le hc hle))).trans (hu c hc)
  have hle : gn G ≤ gn G12 := by rw [hG12]; exact Nat.le_succ_of_le hle
  have p_th_0 : gP G12 th 0 = some (gn G) := by rw [hG12]; exact gp_push (k_th).1 p_th_0
  have p_th_1 : gP G12 th 1 = some (gn G6) := by rw [hG12]; exact gp_push (k_th).1 p_th_1
  have k_th : AtK G12 th 7 := by rw [hG12]; exact atk_push k_th
  have k_n5 : AtK G12 (gn G) 6 := by rw [hG12]; exact atk_push k_n5
  have k_n16 : AtK G12 (gn G6) 0 := by rw [hG12]; exact atk_push k_n16
  have k_n31 : AtK G12 (gn G11) 4 := by rw [hG12]; exact atk_new
  have e_n31 : ad14 (gn G11) = a_n31 := by rw [had14]; exact ead_new
  have cl : Cl G12 := by rw [hG12]; exact cl.push
  refine lv_dup hx hb dX7_init_34 rfl ?_
  refine y_callIN (As := []) ⟨hx, hb, hml, hown, ht0⟩ hO hK hT hP hD hS hA e_n31 (c_X4_init l dd Y t G12 ad14 H.size (wD_ij hD) cl D13 (gn G11) k_n31) hT.2.2.2.2.2.2.2.2.2.2.2.1 m_IM_X4_init m_IN_X4 m_CO_X4_init rfl hd_X4_init rfl rfl ⟨Nat.le_of_ble_eq_true rfl, Nat.le_of_ble_eq_true rfl⟩ rfl hl.1 rfl (Nat.le_of_ble_eq_true rfl) dX7_init_35 ⟨Nat.le_of_ble_eq_true rfl, Nat.le_of_ble_eq_true rfl⟩ (fun u35 H locs hw hP hD hS => ?_)
  obtain ⟨G15, hG15⟩ : ∃ z, z = g_X4_init G12 (gn G11) := ⟨_, rfl⟩
  have q_G15 : G15 = x7_G15 G th := by rw [hG15, q_G12, q_G11]; rfl
  obtain ⟨D16, hD16⟩ : ∃ z, z = m_X4_init G12 D13 (gn G11) := ⟨_, rfl⟩
  have q_D16 : D16 = x7_D16 G D E3 th := by rw [hD16, q_G12, q_D13, q_G11]; rfl
  rw [← hG15, ← hD16] at hP hD
  have e_th : u35 th = a_th := (hw _ k_th.1).trans e_th
  have e_n5 : u35 (gn G) = a_n5 := (hw _ k_n5.1).trans e_n5
  have e_n16 : u35 (gn G6) = a_n16 := (hw _ k_n16.1).trans e_n16
  have e_n31 : u35 (gn G11) = a_n31 := (hw _ k_n31.1).trans e_n31
  have hu : ∀ c, c < gn G → u35 c = ad c := fun c hc => (hw c (Nat.lt_of_lt_of_le hc hle)).trans (hu c hc)
  have hle : gn G ≤ gn G15 := by rw [hG15]; exact lp_X4 hle
  have p_th_0 : gP G15 th 0 = some (gn G) := by rw [hG15]; exact pp_X4 k_th.1 (Nat.ne_of_lt (Nat.lt_of_lt_of_le k0_th.1 l_n31)) p_th_0
  have p_th_1 : gP G15 th 1 = some (gn G6) := by rw [hG15]; exact pp_X4 k_th.1 (Nat.ne_of_lt (Nat.lt_of_lt_of_le k0_th.1 l_n31)) p_th_1
  have cl : Cl G15 := by rw [hG15]; exact cp_X4 cl
  have k_th : AtK G15 th 7 := by rw [hG15]; exact kp_X4 k_th
  have k_n5 : AtK G15 (gn G) 6 := by rw [hG15]; exact kp_X4 k_n5
  have k_n16 : AtK G15 (gn G6) 0 := by rw [hG15]; exact kp_X4 k_n16
  have k_n31 : AtK G15 (gn G11) 4 := by rw [hG15]; exact kp_X4 k_n31
  refine y_putR (ty := tyX7 2) hx hb ht0 u_X7 tyX7 tyX7_ok nmX7 hown hK hP hD hS e_th e_n31 (k_th).1 (ce7 (k_th).2) rfl 2 (by decide) (ht0 _ m_FL_X7_28) rfl rfl hin rfl (by decide +kernel) rfl rfl (Nat.le_of_ble_eq_true rfl) (by rw [(k_th).2]; rfl) dX7_init_38 (fun H locs hP hD hS => ?_)
  obtain ⟨G17, hG17⟩ : ∃ z, z = gSet G15 th 2 (gn G11) := ⟨_, rfl⟩
  have q_G17 : G17 = x7_G17 G th := by rw [hG17, q_G15, q_G11]; rfl
  rw [← hG17] at hP hD
  have p_th_0 : gP G17 th 0 = some (gn G) := by rw [hG17]; exact gp_ne (by omega) p_th_0
  have p_th_1 : gP G17 th 1 = some (gn G6) := by rw [hG17]; exact gp_ne (by omega) p_th_1
  have cl : Cl G17 := by rw [hG17]; exact cl.set (k_n31).1
  have hle : gn G ≤ gn G17 := by rw [hG17]; exact hle
  have k_th : AtK G17 th 7 := by rw [hG17]; exact atk_set k_th
  have k_n5 : AtK G17 (gn G) 6 := by rw [hG17]; exact atk_set k_n5
  have k_n16 : AtK G17 (gn G6) 0 := by rw [hG17]; exact atk_set k_n16
  have k_n31 : AtK G17 (gn G11) 4 := by rw [hG17]; exact atk_set k_n31
  refine lv_aload_n hx hb dX7_init_41 rfl (lv_at hl 0 rfl) ?_
  have l_n42 : gn G ≤ gn G17 := hle
  refine y_new (ci := 3) (fs := [.null, .null, .null, .int 0, .int 0, .int 0, .int 0, .int 0, .null, .int 0, .int 0, .int 0]) hx hb ht0 u_X3 tyX3 tyX3_ok hown (ht0 _ m_CL_X7_32) (ht0 _ m_IA_X3) (ht0 _ m_IN_X3) hK hP hD hS hA cl rfl rfl (by decide +kernel) (Nat.le_of_ble_eq_true rfl) (Nat.le_of_ble_eq_true rfl) dX7_init_42 (fun a_n42 H hP hD hS => ?_)
  obtain ⟨G18, hG18⟩ : ∃ z, z = gPush G17 3 0 := ⟨_, rfl⟩
  have q_G18 : G18 = x7_G18 G th := by rw [hG18, q_G17]; rfl
  obtain ⟨D19, hD19⟩ : ∃ z, z = upA D16 (gn G17) (fun _ => 0) := ⟨_, rfl⟩
  have q_D19 : D19 = x7_D19 G D E3 th := by rw [hD19, q_D16, q_G17]; rfl
  obtain ⟨ad20, had20⟩ : ∃ z, z = va_up u35 (gn G17) a_n42 := ⟨_, rfl⟩
  rw [← hG18, ← hD19, ← had20] at hP hD
  have e_th : ad20 th = a_th := by rw [had20]; exact ead k_th e_th
  have e_n5 : ad20 (gn G) = a_n5 := by rw [had20]; exact ead k_n5 e_n5
  have e_n16 : ad20 (gn G6) = a_n16 := by rw [had20]; exact ead k_n16 e_n16
  have e_n31 : ad20 (gn G11) = a_n31 := by rw [had20]; exact ead k_n31 e_n31
  have hu : ∀ c, c < gn G → ad20 c = ad c := fun c hc => by rw [had20]; exact (va_up_ne _ _ (Nat.ne_of_lt (Nat.lt_of_lt_of_le hc hle))).trans (hu c hc)
  have hle : gn G ≤ gn G18 := by rw [hG18]; exact Nat.le_succ_of_le hle
  have p_th_0 : gP G18 th 0 = some (gn G) := by rw [hG18]; exact gp_push (k_th).1 p_th_0
  have p_th_1 : gP G18 th 1 = some (gn G6) := by rw [hG18]; exact gp_push (k_th).1 p_th_1
  have k_th : AtK G18 th 7 := by rw [hG18]; exact atk_push k_th
  have k_n5 : AtK G18 (gn G) 6 := by rw [hG18]; exact atk_push k_n5
  have k_n16 : AtK G18 (gn G6) 0 := by rw [hG18]; exact atk_push k_n16
  have k_n31 : AtK G18 (gn G11) 4 := by rw [hG18]; exact atk_push k_n31
  have k_n42 : AtK G18 (gn G17) 3 := by rw [hG18]; exact atk_new
  have e_n42 : ad20 (gn G17) = a_n42 := by rw [had20]; exact ead_new
  have cl : Cl G18 := by rw [hG18]; exact cl.push
  refine lv_dup hx hb dX7_init_45 rfl ?_
  refine lv_aload_n hx hb dX7_init_46 rfl (lv_at hl 0 rfl) ?_
  refine y_get hx hb ht0 u_X7 hown hK hP e_th (k_th).1 (ce7 (k_th).2) rfl 1 (by decide) (ht0 _ m_FL_X7_21) rfl (y_rfv p_th_1 e_n16) dX7_init_47 ?_
  refine lv_aload_n hx hb dX7_init_50 rfl (lv_at hl 0 rfl) ?_
  refine y_get hx hb ht0 u_X7 hown hK hP e_th (k_th).1 (ce7 (k_th).2) rfl 0 (by decide) (ht0 _ m_FL_X7_12) rfl (y_rfv p_th_0 e_n5) dX7_init_51 ?_
  refine y_callI (As := [.ref a_n16, .ref a_n5]) ⟨hx, hb, hml, hown, ht0⟩ hO hK hT hP hD hS hA e_n42 (by have cq := c_X3_init l dd Y t G18 ad20 H.size (wD_ij hD) cl D19 (gn G17) (gn G6) (gn G) k_n42 k_n16 k_n5; rw [e_n16, e_n5] at cq; exact cq) m_ML_X7_34 m_IM_X3_init m_IN_X3 m_CO_X3_init rfl hd_X3_init rfl rfl ⟨Nat.le_of_ble_eq_true rfl, Nat.le_of_ble_eq_true rfl⟩ rfl hl.1 rfl (Nat.le_of_ble_eq_true rfl) dX7_init_54 ⟨Nat.le_of_ble_eq_true rfl, Nat.le_of_ble_eq_true rfl⟩ (fun u54 H locs hw hP hD hS => ?_)
  obtain ⟨G21, hG21⟩ : ∃ z, z = g_X3_init G18 (gn G17) (gn G6) (gn G) := ⟨_, rfl⟩
  have q_G21 : G21 = x7_G21 G th := by rw [hG21, q_G18, q_G17, q_G6]; rfl
  obtain ⟨D22, hD22⟩ : ∃ z, z = m_X3_init G18 D19 (gn G17) (gn G6) (gn G) := ⟨_, rfl⟩
  have q_D22 : D22 = x7_D22 G D E3 th := by rw [hD22, q_G18, q_D19, q_G17, q_G6]; rfl
  rw [← hG21, ← hD22] at hP hD
  have e_th : u54 th = a_th := (hw _ k_th.1).trans e_th
  have e_n5 : u54 (gn G) = a_n5 := (hw _ k_n5.1).trans e_n5
  have e_n16 : u54 (gn G6) = a_n16 := (hw _ k_n16.1).trans e_n16
  have e_n31 : u54 (gn G11) = a_n31 := (hw _ k_n31.1).trans e_n31
  have e_n42 : u54 (gn G17) = a_n42 := (hw _ k_n42.1).trans e_n42
  have hu : ∀ c, c < gn G → u54 c = ad c := fun c hc => (hw c (Nat.lt_of_lt_of_le hc hle)).trans (hu c hc)
  have hle : gn G ≤ gn G21 := by rw [hG21]; exact lp_X3 hle
  have p_th_0 : gP G21 th 0 = some (gn G) := by rw [hG21]; exact pp_X3 k_th.1 (Nat.ne_of_lt (Nat.lt_of_lt_of_le k0_th.1 l_n42)) p_th_0
  have p_th_1 : gP G21 th 1 = some (gn G6) := by rw [hG21]; exact pp_X3 k_th.1 (Nat.ne_of_lt (Nat.lt_of_lt_of_le k0_th.1 l_n42)) p_th_1
  have cl : Cl G21 := by rw [hG21]; exact cp_X3 cl k_n16 k_n5
  have k_th : AtK G21 th 7 := by rw [hG21]; exact kp_X3 k_th
  have k_n5 : AtK G21 (gn G) 6 := by rw [hG21]; exact kp_X3 k_n5
  have k_n16 : AtK G21 (gn G6) 0 := by rw [hG21]; exact kp_X3 k_n16
  have k_n31 : AtK G21 (gn G11) 4 := by rw [hG21]; exact kp_X3 k_n31
  have k_n42 : AtK G21 (gn G17) 3 := by rw [hG21]; exact kp_X3 k_n42
  refine y_putR (ty := tyX7 3) hx hb ht0 u_X7 tyX7 tyX7_ok nmX7 hown hK hP hD hS e_th e_n42 (k_th).1 (ce7 (k_th).2) rfl 3 (by decide) (ht0 _ m_FL_X7_37) rfl rfl hin rfl (by decide +kernel) rfl rfl (Nat.le_of_ble_eq_true rfl) (by rw [(k_th).2]; rfl) dX7_init_57 (fun H locs hP hD hS => ?_)
  obtain ⟨G23, hG23⟩ : ∃ z, z = gSet G21 th 3 (gn G17) := ⟨_, rfl⟩
  have q_G23 : G23 = x7_G23 G th := by rw [hG23, q_G21, q_G17]; rfl
  rw [← hG23] at hP hD
  have p_th_0 : gP G23 th 0 = some (gn G) := by rw [hG23]; exact gp_ne (by omega) p_th_0
  have p_th_1 : gP G23 th 1 = some (gn G6) := by rw [hG23]; exact gp_ne (by omega) p_th_1
  have cl : Cl G23 := by rw [hG23]; exact cl.set (k_n42).1
  have hle : gn G ≤ gn G23 := by rw [hG23]; exact hle
  have k_th : AtK G23 th 7 := by rw [hG23]; exact atk_set k_th
  have k_n5 : AtK G23 (gn G) 6 := by rw [hG23]; exact atk_set k_n5
  have k_n16 : AtK G23 (gn G6) 0 := by rw [hG23]; exact atk_set k_n16
  have k_n31 : AtK G23 (gn G11) 4 := by rw [hG23]; exact atk_set k_n31
  have k_n42 : AtK G23 (gn G17) 3 := by rw [hG23]; exact atk_set k_n42
  refine lv_aload_n hx hb dX7_init_60 rfl (lv_at hl 0 rfl) ?_
  have l_n61 : gn G ≤ gn G23 := hle
  refine y_new (ci := 2) (fs := [.null, .null, .null, .null, .int 0, .null]) hx hb ht0 u_X2 tyX2 tyX2_ok hown (ht0 _ m_CL_X7_41) (ht0 _ m_IA_X2) (ht0 _ m_IN_X2) hK hP hD hS hA cl rfl rfl (by decide +kernel) (Nat.le_of_ble_eq_true rfl) (Nat.le_of_ble_eq_true rfl) dX7_init_61 (fun a_n61 H hP hD hS => ?_)
  obtain ⟨G24, hG24⟩ : ∃ z, z = gPush G23 2 0 := ⟨_, rfl⟩
  have q_G24 : G24 = x7_G24 G th := by rw [hG24, q_G23]; rfl
  obtain ⟨D25, hD25⟩ : ∃ z, z = upA D22 (gn G23) (fun _ => 0) := ⟨_, rfl⟩
  have q_D25 : D25 = x7_D25 G D E3 th := by rw [hD25, q_D22, q_G23]; rfl
  obtain ⟨ad26, had26⟩ : ∃ z, z = va_up u54 (gn G23) a_n61 := ⟨_, rfl⟩
  rw [← hG24, ← hD25, ← had26] at hP hD
  have e_th : ad26 th = a_th := by rw [had26]; exact ead k_th e_th
  have e_n5 : ad26 (gn G) = a_n5 := by rw [had26]; exact ead k_n5 e_n5
  have e_n16 : ad26 (gn G6) = a_n16 := by rw [had26]; exact ead k_n16 e_n16
  have e_n31 : ad26 (gn G11) = a_n31 := by rw [had26]; exact ead k_n31 e_n31
  have e_n42 : ad26 (gn G17) = a_n42 := by rw [had26]; exact ead k_n42 e_n42
  have hu : ∀ c, c < gn G → ad26 c = ad c := fun c hc => by rw [had26]; exact (va_up_ne _ _ (Nat.ne_of_lt (Nat.lt_of_lt_of_le hc hle))).trans (hu c hc)
  have hle : gn G ≤ gn G24 := by rw [hG24]; exact Nat.le_succ_of_le hle
  have p_th_0 : gP G24 th 0 = some (gn G) := by rw [hG24]; exact gp_push (k_th).1 p_th_0
  have p_th_1 : gP G24 th 1 = some (gn G6) := by rw [hG24]; exact gp_push (k_th).1 p_th_1
  have k_th : AtK G24 th 7 := by rw [hG24]; exact atk_push k_th
  have k_n5 : AtK G24 (gn G) 6 := by rw [hG24]; exact atk_push k_n5
  have k_n16 : AtK G24 (gn G6) 0 := by rw [hG24]; exact atk_push k_n16
  have k_n31 : AtK G24 (gn G11) 4 := by rw [hG24]; exact atk_push k_n31
  have k_n42 : AtK G24 (gn G17) 3 := by rw [hG24]; exact atk_push k_n42
  have k_n61 : AtK G24 (gn G23) 2 := by rw [hG24]; exact atk_new
  have e_n61 : ad26 (gn G23) = a_n61 := by rw [had26]; exact ead_new
  have cl : Cl G24 := by rw [hG24]; exact cl.push
  refine lv_dup hx hb dX7_init_64 rfl ?_
  refine lv_aload_n hx hb dX7_init_65 rfl (lv_at hl 0 rfl) ?_
  refine y_get hx hb ht0 u_X7 hown hK hP e_th (k_th).1 (ce7 (k_th).2) rfl 1 (by decide) (ht0 _ m_FL_X7_21) rfl (y_rfv p_th_1 e_n16) dX7_init_66 ?_
  refine lv_aload_n hx hb dX7_init_69 rfl (lv_at hl 0 rfl) ?_
  refine y_get hx hb ht0 u_X7 hown hK hP e_th (k_th).1 (ce7 (k_th).2) rfl 0 (by decide) (ht0 _ m_FL_X7_12) rfl (y_rfv p_th_0 e_n5) dX7_init_70 ?_
  refine y_callI (As := [.ref a_n16, .ref a_n5]) ⟨hx, hb, hml, hown, ht0⟩ hO hK hT hP hD hS hA e_n61 (by have cq := c_X2_init l dd Y t G24 ad26 H.size (wD_ij hD) cl D25 (gn G23) (gn G6) (gn G) k_n61 k_n16 k_n5; rw [e_n16, e_n5] at cq; exact cq) m_ML_X7_43 m_IM_X2_init m_IN_X2 m_CO_X2_init rfl hd_X2_init rfl rfl ⟨Nat.le_of_ble_eq_true rfl, Nat.le_of_ble_eq_true rfl⟩ rfl hl.1 rfl (Nat.le_of_ble_eq_true rfl) dX7_init_73 ⟨Nat.le_of_ble_eq_true rfl, Nat.le_of_ble_eq_true rfl⟩ (fun u73 H locs hw hP hD hS => ?_)
  obtain ⟨G27, hG27⟩ : ∃ z, z = g_X2_init G24 (gn G23) (gn G6) (gn G) := ⟨_, rfl⟩
  have q_G27 : G27 = x7_G27 G th := by rw [hG27, q_G24, q_G23, q_G6]; rfl
  obtain ⟨D28, hD28⟩ : ∃ z, z = m_X2_init G24 D25 (gn G23) (gn G6) (gn G) := ⟨_, rfl⟩
  have q_D28 : D28 = x7_D28 G D E3 th := by rw [hD28, q_G24, q_D25, q_G23, q_G6]; rfl
  rw [← hG27, ← hD28] at hP hD
  have e_th : u73 th = a_th := (hw _ k_th.1).trans e_th
  have e_n5 : u73 (gn G) = a_n5 := (hw _ k_n5.1).trans e_n5
  have e_n16 : u73 (gn G6) = a_n16 := (hw _ k_n16.1).trans e_n16
  have e_n31 : u73 (gn G11) = a_n31 := (hw _ k_n31.1).trans e_n31
  have e_n42 : u73 (gn G17) = a_n42 := (hw _ k_n42.1).trans e_n42
  have e_n61 : u73 (gn G23) = a_n61 := (hw _ k_n61.1).trans e_n61
  have hu : ∀ c, c < gn G → u73 c = ad c := fun c hc => (hw c (Nat.lt_of_lt_of_le hc hle)).trans (hu c hc)
  have hle : gn G ≤ gn G27 := by rw [hG27]; exact lp_X2 hle
  have p_th_0 : gP G27 th 0 = some (gn G) := by rw [hG27]; exact pp_X2 k_th.1 (Nat.ne_of_lt (Nat.lt_of_lt_of_le k0_th.1 l_n61)) p_th_0
  have p_th_1 : gP G27 th 1 = some (gn G6) := by rw [hG27]; exact pp_X2 k_th.1 (Nat.ne_of_lt (Nat.lt_of_lt_of_le k0_th.1 l_n61)) p_th_1
  have cl : Cl G27 := by rw [hG27]; exact cp_X2 cl k_n16 k_n5
  have k_th : AtK G27 th 7 := by rw [hG27]; exact kp_X2 k_th
  have k_n5 : AtK G27 (gn G) 6 := by rw [hG27]; exact kp_X2 k_n5
  have k_n16 : AtK G27 (gn G6) 0 := by rw [hG27]; exact kp_X2 k_n16
  have k_n31 : AtK G27 (gn G11) 4 := by rw [hG27]; exact kp_X2 k_n31
  have k_n42 : AtK G27 (gn G17) 3 := by rw [hG27]; exact kp_X2 k_n42
  have k_n61 : AtK G27 (gn G23) 2 := by rw [hG27]; exact kp_X2 k_n61
  refine y_putR (ty := tyX7 4) hx hb ht0 u_X7 tyX7 tyX7_ok nmX7 hown hK hP hD hS e_th e_n61 (k_th).1 (ce7 (k_th).2) rfl 4 (by decide) (ht0 _ m_FL_X7_44) rfl rfl hin rfl (by decide +kernel) rfl rfl (Nat.le_of_ble_eq_true rfl) (by rw [(k_th).2]; rfl) dX7_init_76 (fun H locs hP hD hS => ?_)
  obtain ⟨G29, hG29⟩ : ∃ z, z = gSet G27 th 4 (gn G23) := ⟨_, rfl⟩
  have q_G29 : G29 = x7_G29 G th := by rw [hG29, q_G27, q_G23]; rfl
  rw [← hG29] at hP hD
  have p_th_0 : gP G29 th 0 = some (gn G) := by rw [hG29]; exact gp_ne (by omega) p_th_0
  have p_th_1 : gP G29 th 1 = some (gn G6) := by rw [hG29]; exact gp_ne (by omega) p_th_1
  have cl : Cl G29 := by rw [hG29]; exact cl.set (k_n61).1
  have hle : gn G ≤ gn G29 := by rw [hG29]; exact hle
  have k_th : AtK G29 th 7 := by rw [hG29]; exact atk_set k_th
  have k_n5 : AtK G29 (gn G) 6 := by rw [hG29]; exact atk_set k_n5
  have k_n16 : AtK G29 (gn G6) 0 := by rw [hG29]; exact atk_set k_n16
  have k_n31 : AtK G29 (gn G11) 4 := by rw [hG29]; exact atk_set k_n31
  have k_n42 : AtK G29 (gn G17) 3 := by rw [hG29]; exact atk_set k_n42
  have k_n61 : AtK G29 (gn G23) 2 := by rw [hG29]; exact atk_set k_n61
  refine lv_aload_n hx hb dX7_init_79 rfl (lv_at hl 0 rfl) ?_
  have l_n80 : gn G ≤ gn G29 := hle
  refine y_new (ci := 1) (fs := [.null, .int 0]) hx hb ht0 u_X1 tyX1 tyX1_ok hown (ht0 _ m_CL_X7_48) (ht0 _ m_IA_X1) (ht0 _ m_IN_X1) hK hP hD hS hA cl rfl rfl (by decide +kernel) (Nat.le_of_ble_eq_true rfl) (Nat.le_of_ble_eq_true rfl) dX7_init_80 (fun a_n80 H hP hD hS => ?_)
  obtain ⟨G30, hG30⟩ : ∃ z, z = gPush G29 1 0 := ⟨_, rfl⟩
  have q_G30 : G30 = x7_G30 G th := by rw [hG30, q_G29]; rfl
  obtain ⟨D31, hD31⟩ : ∃ z, z = upA D28 (gn G29) (fun _ => 0) := ⟨_, rfl⟩
  have q_D31 : D31 = x7_D31 G D E3 th := by rw [hD31, q_D28, q_G29]; rfl
  obtain ⟨ad32, had32⟩ : ∃ z, z = va_up u73 (gn G29) a_n80 := ⟨_, rfl⟩
  rw [← hG30, ← hD31, ← had32] at hP hD
  have e_th : ad32 th = a_th := by rw [had32]; exact ead k_th e_th
  have e_n5 : ad32 (gn G) = a_n5 := by rw [had32]; exact ead k_n5 e_n5
  have e_n16 : ad32 (gn G6) = a_n16 := by rw [had32]; exact ead k_n16 e_n16
  have e_n31 : ad32 (gn G11) = a_n31 := by rw [had32]; exact ead k_n31 e_n31
  have e_n42 : ad32 (gn G17) = a_n42 := by rw [had32]; exact ead k_n42 e_n42
  have e_n61 : ad32 (gn G23) = a_n61 := by rw [had32]; exact ead k_n61 e_n61
  have hu : ∀ c, c < gn G → ad32 c = ad c := fun c hc => by rw [had32]; exact (va_up_ne _ _ (Nat.ne_of_lt (Nat.lt_of_lt_of_le hc hle))).trans (hu c hc)
  have hle : gn G ≤ gn G30 := by rw [hG30]; exact Nat.le_succ_of_le hle
  have p_th_0 : gP G30 th 0 = some (gn G) := by rw [hG30]; exact gp_push (k_th).1 p_th_0
  have p_th_1 : gP G30 th 1 = some (gn G6) := by rw [hG30]; exact gp_push (k_th).1 p_th_1
  have k_th : AtK G30 th 7 := by rw [hG30]; exact atk_push k_th
  have k_n5 : AtK G30 (gn G) 6 := by rw [hG30]; exact atk_push k_n5
  have k_n16 : AtK G30 (gn G6) 0 := by rw [hG30]; exact atk_push k_n16
  have k_n31 : AtK G30 (gn G11) 4 := by rw [hG30]; exact atk_push k_n31
  have k_n42 : AtK G30 (gn G17) 3 := by rw [hG30]; exact atk_push k_n42
  have k_n61 : AtK G30 (gn G23) 2 := by rw [hG30]; exact atk_push k_n61
  have k_n80 : AtK G30 (gn G29) 1 := by rw [hG30]; exact atk_new
  have e_n80 : ad32 (gn G29) = a_n80 := by rw [had32]; exact ead_new
  have cl : Cl G30 := by rw [hG30]; exact cl.push
  refine lv_dup hx hb dX7_init_83 rfl ?_
  refine lv_sipush (v := 2480) hx hb dX7_init_84 (by decide) ?_
  refine y_callI (As := [.int 2480]) ⟨hx, hb, hml, hown, ht0⟩ hO hK hT hP hD hS hA e_n80 (c_X1_init l dd Y t G30 ad32 H.size (wD_ij hD) cl D31 (gn G29) 2480 k_n80 (by decide)) m_ML_X7_50 m_IM_X1_init m_IN_X1 m_CO_X1_init rfl hd_X1_init rfl rfl ⟨Nat.le_of_ble_eq_true rfl, Nat.le_of_ble_eq_true rfl⟩ rfl hl.1 rfl (Nat.le_of_ble_eq_true rfl) dX7_init_87 ⟨Nat.le_of_ble_eq_true rfl, Nat.le_of_ble_eq_true rfl⟩ (fun u87 H locs hw hP hD hS => ?_)
  obtain ⟨G33, hG33⟩ : ∃ z, z = g_X1_init G30 (gn G29) 2480 := ⟨_, rfl⟩
  have q_G33 : G33 = x7_G33 G th := by rw [hG33, q_G30, q_G29]; rfl
  obtain ⟨D34, hD34⟩ : ∃ z, z = m_X1_init G30 D31 (gn G29) 2480 := ⟨_, rfl⟩
  have q_D34 : D34 = x7_D34 G D E3 th := by rw [hD34, q_G30, q_D31, q_G29]; rfl
  rw [← hG33, ← hD34] at hP hD
  have e_th : u87 th = a_th := (hw _ k_th.1).trans e_th
  have e_n5 : u87 (gn G) = a_n5 := (hw _ k_n5.1).trans e_n5
  have e_n16 : u87 (gn G6) = a_n16 := (hw _ k_n16.1).trans e_n16
  have e_n31 : u87 (gn G11) = a_n31 := (hw _ k_n31.1).trans e_n31
  have e_n42 : u87 (gn G17) = a_n42 := (hw _ k_n42.1).trans e_n42
  have e_n61 : u87 (gn G23) = a_n61 := (hw _ k_n61.1).trans e_n61
  have e_n80 : u87 (gn G29) = a_n80 := (hw _ k_n80.1).trans e_n80
  have hu : ∀ c, c < gn G → u87 c = ad c := fun c hc => (hw c (Nat.lt_of_lt_of_le hc hle)).trans (hu c hc)
  have hle : gn G ≤ gn G33 := by rw [hG33]; exact lp_X1 hle
  have p_th_0 : gP G33 th 0 = some (gn G) := by rw [hG33]; exact pp_X1 k_th.1 (Nat.ne_of_lt (Nat.lt_of_lt_of_le k0_th.1 l_n80)) p_th_0
  have p_th_1 : gP G33 th 1 = some (gn G6) := by rw [hG33]; exact pp_X1 k_th.1 (Nat.ne_of_lt (Nat.lt_of_lt_of_le k0_th.1 l_n80)) p_th_1
  have cl : Cl G33 := by rw [hG33]; exact cp_X1 cl
  have k_th : AtK G33 th 7 := by rw [hG33]; exact kp_X1 k_th
  have k_n5 : AtK G33 (gn G) 6 := by rw [hG33]; exact kp_X1 k_n5
  have k_n16 : AtK G33 (gn G6) 0 := by rw [hG33]; exact kp_X1 k_n16
  have k_n31 : AtK G33 (gn G11) 4 := by rw [hG33]; exact kp_X1 k_n31
  have k_n42 : AtK G33 (gn G17) 3 := by rw [hG33]; exact kp_X1 k_n42
  have k_n61 : AtK G33 (gn G23) 2 := by rw [hG33]; exact kp_X1 k_n61
  have k_n80 : AtK G33 (gn G29) 1 := by rw [hG33]; exact kp_X1 k_n80
  refine y_putR (ty := tyX7 5) hx hb ht0 u_X7 tyX7 tyX7_ok nmX7 hown hK hP hD hS e_th e_n80 (k_th).1 (ce7 (k_th).2) rfl 5 (by decide) (ht0 _ m_FL_X7_53) rfl rfl hin rfl (by decide +kernel) rfl rfl (Nat.le_of_ble_eq_true rfl) (by rw [(k_th).2]; rfl) dX7_init_90 (fun H locs hP hD hS => ?_)
  obtain ⟨G35, hG35⟩ : ∃ z, z = gSet G33 th 5 (gn G29) := ⟨_, rfl⟩
  have q_G35 : G35 = x7_G35 G th := by rw [hG35, q_G33, q_G29]; rfl
  rw [← hG35] at hP hD
  have p_th_0 : gP G35 th 0 = some (gn G) := by rw [hG35]; exact gp_ne (by omega) p_th_0
  have p_th_1 : gP G35 th 1 = some (gn G6) := by rw [hG35]; exact gp_ne (by omega) p_th_1
  have cl : Cl G35 := by rw [hG35]; exact cl.set (k_n80).1
  have hle : gn G ≤ gn G35 := by rw [hG35]; exact hle
  have k_th : AtK G35 th 7 := by rw [hG35]; exact atk_set k_th
  have k_n5 : AtK G35 (gn G) 6 := by rw [hG35]; exact atk_set k_n5
  have k_n16 : AtK G35 (gn G6) 0 := by rw [hG35]; exact atk_set k_n16
  have k_n31 : AtK G35 (gn G11) 4 := by rw [hG35]; exact atk_set k_n31
  have k_n42 : AtK G35 (gn G17) 3 := by rw [hG35]; exact atk_set k_n42
  have k_n61 : AtK G35 (gn G23) 2 := by rw [hG35]; exact atk_set k_n61
  have k_n80 : AtK G35 (gn G29) 1 := by rw [hG35]; exact atk_set k_n80
  refine lv_aload_n hx hb dX7_init_93 rfl (lv_at hl 0 rfl) ?_
  have l_n94 : gn G ≤ gn G35 := hle
  refine y_new (ci := 1) (fs := [.null, .int 0]) hx hb ht0 u_X1 tyX1 tyX1_ok hown (ht0 _ m_CL_X7_48) (ht0 _ m_IA_X1) (ht0 _ m_IN_X1) hK hP hD hS hA cl rfl rfl (by decide +kernel) (Nat.le_of_ble_eq_true rfl) (Nat.le_of_ble_eq_true rfl) dX7_init_94 (fun a_n94 H hP hD hS => ?_)
  obtain ⟨G36, hG36⟩ : ∃ z, z = gPush G35 1 0 := ⟨_, rfl⟩
  have q_G36 : G36 = x7_G36 G th := by rw [hG36, q_G35]; rfl
  obtain ⟨D37, hD37⟩ : ∃ z, z = upA D34 (gn G35) (fun _ => 0) := ⟨_, rfl⟩
  have q_D37 : D37 = x7_D37 G D E3 th := by rw [hD37, q_D34, q_G35]; rfl
  obtain ⟨ad38, had38⟩ : ∃ z, z = va_up u87 (gn G35) a_n94 := ⟨_, rfl⟩
  rw [← hG36, ← hD37, ← had38] at hP hD
  have e_th : ad38 th = a_th := by rw [had38]; exact ead k_th e_th
  have e_n5 : ad38 (gn G) = a_n5 := by rw [had38]; exact ead k_n5 e_n5
  have e_n16 : ad38 (gn G6) = a_n16 := by rw [had38]; exact ead k_n16 e_n16
  have e_n31 : ad38 (gn G11) = a_n31 := by rw [had38]; exact ead k_n31 e_n31
  have e_n42 : ad38 (gn G17) = a_n42 := by rw [had38]; exact ead k_n42 e_n42
  have e_n61 : ad38 (gn G23) = a_n61 := by rw [had38]; exact ead k_n61 e_n61
  have e_n80 : ad38 (gn G29) = a_n80 := by rw [had38]; exact ead k_n80 e_n80
  have hu : ∀ c, c < gn G → ad38 c = ad c := fun c hc => by rw [had38]; exact (va_up_ne _ _ (Nat.ne_of_lt (Nat.lt_of_lt_of_le hc hle))).trans (hu c hc)
  have hle : gn G ≤ gn G36 := by rw [hG36]; exact Nat.le_succ_of_le hle
  have p_th_0 : gP G36 th 0 = some (gn G) := by rw [hG36]; exact gp_push (k_th).1 p_th_0
  have p_th_1 : gP G36 th 1 = some (gn G6) := by rw [hG36]; exact gp_push (k_th).1 p_th_1
  have k_th : AtK G36 th 7 := by rw [hG36]; exact atk_push k_th
  have k_n5 : AtK G36 (gn G) 6 := by rw [hG36]; exact atk_push k_n5
  have k_n16 : AtK G36 (gn G6) 0 := by rw [hG36]; exact atk_push k_n16
  have k_n31 : AtK G36 (gn G11) 4 := by rw [hG36]; exact atk_push k_n31
  have k_n42 : AtK G36 (gn G17) 3 := by rw [hG36]; exact atk_push k_n42
  have k_n61 : AtK G36 (gn G23) 2 := by rw [hG36]; exact atk_push k_n61
  have k_n80 : AtK G36 (gn G29) 1 := by rw [hG36]; exact atk_push k_n80
  have k_n94 : AtK G36 (gn G35) 1 := by rw [hG36]; exact atk_new
  have e_n94 : ad38 (gn G35) = a_n94 := by rw [had38]; exact ead_new
  have cl : Cl G36 := by rw [hG36]; exact cl.push
  refine lv_dup hx hb dX7_init_97 rfl ?_
  refine lv_sipush (v := 2480) hx hb dX7_init_98 (by decide) ?_
  refine y_callI (As := [.int 2480]) ⟨hx, hb, hml, hown, ht0⟩ hO hK hT hP hD hS hA e_n94 (c_X1_init l dd Y t G36 ad38 H.size (wD_ij hD) cl D37 (gn G35) 2480 k_n94 (by decide)) m_ML_X7_50 m_IM_X1_init m_IN_X1 m_CO_X1_init rfl hd_X1_init rfl rfl ⟨Nat.le_of_ble_eq_true rfl, Nat.le_of_ble_eq_true rfl⟩ rfl hl.1 rfl (Nat.le_of_ble_eq_true rfl) dX7_init_101 ⟨Nat.le_of_ble_eq_true rfl, Nat.le_of_ble_eq_true rfl⟩ (fun u101 H locs hw hP hD hS => ?_)
  obtain ⟨G39, hG39⟩ : ∃ z, z = g_X1_init G36 (gn G35) 2480 := ⟨_, rfl⟩
  have q_G39 : G39 = x7_G39 G th := by rw [hG39, q_G36, q_G35]; rfl
  obtain ⟨D40, hD40⟩ : ∃ z, z = m_X1_init G36 D37 (gn G35) 2480 := ⟨_, rfl⟩
  have q_D40 : D40 = x7_D40 G D E3 th := by rw [hD40, q_G36, q_D37, q_G35]; rfl
  rw [← hG39, ← hD40] at hP hD
  have e_th : u101 th = a_th := (hw _ k_th.1).trans e_th
  have e_n5 : u101 (gn G) = a_n5 := (hw _ k_n5.1).trans e_n5
  have e_n16 : u101 (gn G6) = a_n16 := (hw _ k_n16.1).trans e_n16
  have e_n31 : u101 (gn G11) = a_n31 := (hw _ k_n31.1).trans e_n31
  have e_n42 : u101 (gn G17) = a_n42 := (hw _ k_n42.1).trans e_n42
  have e_n61 : u101 (gn G23) = a_n61 := (hw _ k_n61.1).trans e_n61
  have e_n80 : u101 (gn G29) = a_n80 := (hw _ k_n80.1).trans e_n80
  have e_n94 : u101 (gn G35) = a_n94 := (hw _ k_n94.1).trans e_n94
  have hu : ∀ c, c < gn G → u101 c = ad c := fun c hc => (hw c (Nat.lt_of_lt_of_le hc hle)).trans (hu c hc)
  have hle : gn G ≤ gn G39 := by rw [hG39]; exact lp_X1 hle
  have p_th_0 : gP G39 th 0 = some (gn G) := by rw [hG39]; exact pp_X1 k_th.1 (Nat.ne_of_lt (Nat.lt_of_lt_of_le k0_th.1 l_n94)) p_th_0
  have p_th_1 : gP G39 th 1 = some (gn G6) := by rw [hG39]; exact pp_X1 k_th.1 (Nat.ne_of_lt (Nat.lt_of_lt_of_le k0_th.1 l_n94)) p_th_1
  have cl : Cl G39 := by rw [hG39]; exact cp_X1 cl
  have k_th : AtK G39 th 7 := by rw [hG39]; exact kp_X1 k_th
  have k_n5 : AtK G39 (gn G) 6 := by rw [hG39]; exact kp_X1 k_n5
  have k_n16 : AtK G39 (gn G6) 0 := by rw [hG39]; exact kp_X1 k_n16
  have k_n31 : AtK G39 (gn G11) 4 := by rw [hG39]; exact kp_X1 k_n31
  have k_n42 : AtK G39 (gn G17) 3 := by rw [hG39]; exact kp_X1 k_n42
  have k_n61 : AtK G39 (gn G23) 2 := by rw [hG39]; exact kp_X1 k_n61
  have k_n80 : AtK G39 (gn G29) 1 := by rw [hG39]; exact kp_X1 k_n80
  have k_n94 : AtK G39 (gn G35) 1 := by rw [hG39]; exact kp_X1 k_n94
  refine y_putR (ty := tyX7 6) hx hb ht0 u_X7 tyX7 tyX7_ok nmX7 hown hK hP hD hS e_th e_n94 (k_th).1 (ce7 (k_th).2) rfl 6 (by decide) (ht0 _ m_FL_X7_57) rfl rfl hin rfl (by decide +kernel) rfl rfl (Nat.le_of_ble_eq_true rfl) (by rw [(k_th).2]; rfl) dX7_init_104 (fun H locs hP hD hS => ?_)
  obtain ⟨G41, hG41⟩ : ∃ z, z = gSet G39 th 6 (gn G35) := ⟨_, rfl⟩
  have q_G41 : G41 = x7_G41 G th := by rw [hG41, q_G39, q_G35]; rfl
  rw [← hG41] at hP hD
  have p_th_0 : gP G41 th 0 = some (gn G) := by rw [hG41]; exact gp_ne (by omega) p_th_0
  have p_th_1 : gP G41 th 1 = some (gn G6) := by rw [hG41]; exact gp_ne (by omega) p_th_1
  have cl : Cl G41 := by rw [hG41]; exact cl.set (k_n94).1
  have hle : gn G ≤ gn G41 := by rw [hG41]; exact hle
  have k_th : AtK G41 th 7 := by rw [hG41]; exact atk_set k_th
  have k_n5 : AtK G41 (gn G) 6 := by rw [hG41]; exact atk_set k_n5
  have k_n16 : AtK G41 (gn G6) 0 := by rw [hG41]; exact atk_set k_n16
  have k_n31 : AtK G41 (gn G11) 4 := by rw [hG41]; exact atk_set k_n31
  have k_n42 : AtK G41 (gn G17) 3 := by rw [hG41]; exact atk_set k_n42
  have k_n61 : AtK G41 (gn G23) 2 := by rw [hG41]; exact atk_set k_n61
  have k_n80 : AtK G41 (gn G29) 1 := by rw [hG41]; exact atk_set k_n80
  have k_n94 : AtK G41 (gn G35) 1 := by rw [hG41]; exact atk_set k_n94
  refine lv_aload_n hx hb dX7_init_107 rfl (lv_at hl 0 rfl) ?_
  have l_n108 : gn G ≤ gn G41 := hle
  refine y_new (ci := 1) (fs := [.null, .int 0]) hx hb ht0 u_X1 tyX1 tyX1_ok hown (ht0 _ m_CL_X7_48) (ht0 _ m_IA_X1) (ht0 _ m_IN_X1) hK hP hD hS hA cl rfl rfl (by decide +kernel) (Nat.le_of_ble_eq_true rfl) (Nat.le_of_ble_eq_true rfl) dX7_init_108 (fun a_n108 H hP hD hS => ?_)
  obtain ⟨G42, hG42⟩ : ∃ z, z = gPush G41 1 0 := ⟨_, rfl⟩
  have q_G42 : G42 = x7_G42 G th := by rw [hG42, q_G41]; rfl
  obtain ⟨D43, hD43⟩ : ∃ z, z = upA D40 (gn G41) (fun _ => 0) := ⟨_, rfl⟩
  have q_D43 : D43 = x7_D43 G D E3 th := by rw [hD43, q_D40, q_G41]; rfl
  obtain ⟨ad44, had44⟩ : ∃ z, z = va_up u101 (gn G41) a_n108 := ⟨_, rfl⟩
  rw [← hG42, ← hD43, ← had44] at hP hD
  have e_th : ad44 th = a_th := by rw [had44]; exact ead k_th e_th
  have e_n5 : ad44 (gn G) = a_n5 := by rw [had44]; exact ead k_n5 e_n5
  have e_n16 : ad44 (gn G6) = a_n16 := by rw [had44]; exact ead k_n16 e_n16
  have e_n31 : ad44 (gn G11) = a_n31 := by rw [had44]; exact ead k_n31 e_n31
  have e_n42 : ad44 (gn G17) = a_n42 := by rw [had44]; exact ead k_n42 e_n42
  have e_n61 : ad44 (gn G23) = a_n61 := by rw [had44]; exact ead k_n61 e_n61
  have e_n80 : ad44 (gn G29) = a_n80 := by rw [had44]; exact ead k_n80 e_n80
  have e_n94 : ad44 (gn G35) = a_n94 := by rw [had44]; exact ead k_n94 e_n94
  have hu : ∀ c, c < gn G → ad44 c = ad c := fun c hc => by rw [had44]; exact (va_up_ne _ _ (Nat.ne_of_lt (Nat.lt_of_lt_of_le hc hle))).trans (hu c hc)
  have hle : gn G ≤ gn G42 := by rw [hG42]; exact Nat.le_succ_of_le hle
  have p_th_0 : gP G42 th 0 = some (gn G) := by rw [hG42]; exact gp_push (k_th).1 p_th_0
  have p_th_1 : gP G42 th 1 = some (gn G6) := by rw [hG42]; exact gp_push (k_th).1 p_th_1
  have k_th : AtK G42 th 7 := by rw [hG42]; exact atk_push k_th
  have k_n5 : AtK G42 (gn G) 6 := by rw [hG42]; exact atk_push k_n5
  have k_n16 : AtK G42 (gn G6) 0 := by rw [hG42]; exact atk_push k_n16
  have k_n31 : AtK G42 (gn G11) 4 := by rw [hG42]; exact atk_push k_n31
  have k_n42 : AtK G42 (gn G17) 3 := by rw [hG42]; exact atk_push k_n42
  have k_n61 : AtK G42 (gn G23) 2 := by rw [hG42]; exact atk_push k_n61
  have k_n80 : AtK G42 (gn G29) 1 := by rw [hG42]; exact atk_push k_n80
  have k_n94 : AtK G42 (gn G35) 1 := by rw [hG42]; exact atk_push k_n94
  have k_n108 : AtK G42 (gn G41) 1 := by rw [hG42]; exact atk_new
  have e_n108 : ad44 (gn G41) = a_n108 := by rw [had44]; exact ead_new
  have cl : Cl G42 := by rw [hG42]; exact cl.push
  refine lv_dup hx hb dX7_init_111 rfl ?_
  refine lv_iconst (v := 0) hx hb dX7_init_112 (by decide) ?_
  refine y_callI (As := [.int 0]) ⟨hx, hb, hml, hown, ht0⟩ hO hK hT hP hD hS hA e_n108 (c_X1_init l dd Y t G42 ad44 H.size (wD_ij hD) cl D43 (gn G41) 0 k_n108 (by decide)) m_ML_X7_50 m_IM_X1_init m_IN_X1 m_CO_X1_init rfl hd_X1_init rfl rfl ⟨Nat.le_of_ble_eq_true rfl, Nat.le_of_ble_eq_true rfl⟩ rfl hl.1 rfl (Nat.le_of_ble_eq_true rfl) dX7_init_113 ⟨Nat.le_of_ble_eq_true rfl, Nat.le_of_ble_eq_true rfl⟩ (fun u113 H locs hw hP hD hS => ?_)
  obtain ⟨G45, hG45⟩ : ∃ z, z = g_X1_init G42 (gn G41) 0 := ⟨_, rfl⟩
  have q_G45 : G45 = x7_G45 G th := by rw [hG45, q_G42, q_G41]; rfl
  obtain ⟨D46, hD46⟩ : ∃ z, z = m_X1_init G42 D43 (gn G41) 0 := ⟨_, rfl⟩
  have q_D46 : D46 = x7_D46 G D E3 th := by rw [hD46, q_G42, q_D43, q_G41]; rfl
  rw [← hG45, ← hD46] at hP hD
  have e_th : u113 th = a_th := (hw _ k_th.1).trans e_th
  have e_n5 : u113 (gn G) = a_n5 := (hw _ k_n5.1).trans e_n5
  have e_n16 : u113 (gn G6) = a_n16 := (hw _ k_n16.1).trans e_n16
  have e_n31 : u113 (gn G11) = a_n31 := (hw _ k_n31.1).trans e_n31
  have e_n42 : u113 (gn G17) = a_n42 := (hw _ k_n42.1).trans e_n42
  have e_n61 : u113 (gn G23) = a_n61 := (hw _ k_n61.1).trans e_n61
  have e_n80 : u113 (gn G29) = a_n80 := (hw _ k_n80.1).trans e_n80
  have e_n94 : u113 (gn G35) = a_n94 := (hw _ k_n94.1).trans e_n94
  have e_n108 : u113 (gn G41) = a_n108 := (hw _ k_n108.1).trans e_n108
  have hu : ∀ c, c < gn G → u113 c = ad c := fun c hc => (hw c (Nat.lt_of_lt_of_le hc hle)).trans (hu c hc)
  have hle : gn G ≤ gn G45 := by rw [hG45]; exact lp_X1 hle
  have p_th_0 : gP G45 th 0 = some (gn G) := by rw [hG45]; exact pp_X1 k_th.1 (Nat.ne_of_lt (Nat.lt_of_lt_of_le k0_th.1 l_n108)) p_th_0
  have p_th_1 : gP G45 th 1 = some (gn G6) := by rw [hG45]; exact pp_X1 k_th.1 (Nat.ne_of_lt (Nat.lt_of_lt_of_le k0_th.1 l_n108)) p_th_1
  have cl : Cl G45 := by rw [hG45]; exact cp_X1 cl
  have k_th : AtK G45 th 7 := by rw [hG45]; exact kp_X1 k_th
  have k_n5 : AtK G45 (gn G) 6 := by rw [hG45]; exact kp_X1 k_n5
  have k_n16 : AtK G45 (gn G6) 0 := by rw [hG45]; exact kp_X1 k_n16
  have k_n31 : AtK G45 (gn G11) 4 := by rw [hG45]; exact kp_X1 k_n31
  have k_n42 : AtK G45 (gn G17) 3 := by rw [hG45]; exact kp_X1 k_n42
  have k_n61 : AtK G45 (gn G23) 2 := by rw [hG45]; exact kp_X1 k_n61
  have k_n80 : AtK G45 (gn G29) 1 := by rw [hG45]; exact kp_X1 k_n80
  have k_n94 : AtK G45 (gn G35) 1 := by rw [hG45]; exact kp_X1 k_n94
  have k_n108 : AtK G45 (gn G41) 1 := by rw [hG45]; exact kp_X1 k_n108
  refine y_putR (ty := tyX7 7) hx hb ht0 u_X7 tyX7 tyX7_ok nmX7 hown hK hP hD hS e_th e_n108 (k_th).1 (ce7 (k_th).2) rfl 7 (by decide) (ht0 _ m_FL_X7_60) rfl rfl hin rfl (by decide +kernel) rfl rfl (Nat.le_of_ble_eq_true rfl) (by rw [(k_th).2]; rfl) dX7_init_116 (fun H locs hP hD hS => ?_)
  obtain ⟨G47, hG47⟩ : ∃ z, z = gSet G45 th 7 (gn G41) := ⟨_, rfl⟩
  have q_G47 : G47 = x7_G47 G th := by rw [hG47, q_G45, q_G41]; rfl
  rw [← hG47] at hP hD
  have p_th_0 : gP G47 th 0 = some (gn G) := by rw [hG47]; exact gp_ne (by omega) p_th_0
  have p_th_1 : gP G47 th 1 = some (gn G6) := by rw [hG47]; exact gp_ne (by omega) p_th_1
  have cl : Cl G47 := by rw [hG47]; exact cl.set (k_n108).1
  have hle : gn G ≤ gn G47 := by rw [hG47]; exact hle
  have k_th : AtK G47 th 7 := by rw [hG47]; exact atk_set k_th
  have k_n5 : AtK G47 (gn G) 6 := by rw [hG47]; exact atk_set k_n5
  have k_n16 : AtK G47 (gn G6) 0 := by rw [hG47]; exact atk_set k_n16
  have k_n31 : AtK G47 (gn G11) 4 := by rw [hG47]; exact atk_set k_n31
  have k_n42 : AtK G47 (gn G17) 3 := by rw [hG47]; exact atk_set k_n42
  have k_n61 : AtK G47 (gn G23) 2 := by rw [hG47]; exact atk_set k_n61
  have k_n80 : AtK G47 (gn G29) 1 := by rw [hG47]; exact atk_set k_n80
  have k_n94 : AtK G47 (gn G35) 1 := by rw [hG47]; exact atk_set k_n94
  have k_n108 : AtK G47 (gn G41) 1 := by rw [hG47]; exact atk_set k_n108
  refine lv_aload_n hx hb dX7_init_119 rfl (lv_at hl 0 rfl) ?_
  refine lv_bipush (v := 64) hx hb dX7_init_120 (by decide) ?_
  have l_n122 : gn G ≤ gn G47 := hle
  refine y_newa (N' := 64) hx hb ht0 hK hP hD hS hA cl rfl (by decide) (Nat.le_of_ble_eq_true rfl) (Nat.le_of_ble_eq_true rfl) dX7_init_122 (fun a_n122 H hP hD hS => ?_)
  obtain ⟨G48, hG48⟩ : ∃ z, z = gPush G47 9 64 := ⟨_, rfl⟩
  have q_G48 : G48 = x7_G48 G th := by rw [hG48, q_G47]; rfl
  obtain ⟨D49, hD49⟩ : ∃ z, z = upA D46 (gn G47) (fun _ => 0) := ⟨_, rfl⟩
  have q_D49 : D49 = x7_D49 G D E3 th := by rw [hD49, q_D46, q_G47]; rfl
  obtain ⟨ad50, had50⟩ : ∃ z, z = va_up u113 (gn G47) a_n122 := ⟨_, rfl⟩
  rw [← hG48, ← hD49, ← had50] at hP hD
  have e_th : ad50 th = a_th := by rw [had50]; exact ead k_th e_th
  have e_n5 : ad50 (gn G) = a_n5 := by rw [had50]; exact ead k_n5 e_n5
  have e_n16 : ad50 (gn G6) = a_n16 := by rw [had50]; exact ead k_n16 e_n16
  have e_n31 : ad50 (gn G11) = a_n31 := by rw [had50]; exact ead k_n31 e_n31
  have e_n42 : ad50 (gn G17) = a_n42 := by rw [had50]; exact ead k_n42 e_n42
  have e_n61 : ad50 (gn G23) = a_n61 := by rw [had50]; exact ead k_n61 e_n61
  have e_n80 : ad50 (gn G29) = a_n80 := by rw [had50]; exact ead k_n80 e_n80
  have e_n94 : ad50 (gn G35) = a_n94 := by rw [had50]; exact ead k_n94 e_n94
  have e_n108 : ad50 (gn G41) = a_n108 := by rw [had50]; exact ead k_n108 e_n108
  have hu : ∀ c, c < gn G → ad50 c = ad c := fun c hc => by rw [had50]; exact (va_up_ne _ _ (Nat.ne_of_lt (Nat.lt_of_lt_of_le hc hle))).trans (hu c hc)
  have hle : gn G ≤ gn G48 := by rw [hG48]; exact Nat.le_succ_of_le hle
  have p_th_0 : gP G48 th 0 = some (gn G) := by rw [hG48]; exact gp_push (k_th).1 p_th_0
  have p_th_1 : gP G48 th 1 = some (gn G6) := by rw [hG48]; exact gp_push (k_th).1 p_th_1
  have k_th : AtK G48 th 7 := by rw [hG48]; exact atk_push k_th
  have k_n5 : AtK G48 (gn G) 6 := by rw [hG48]; exact atk_push k_n5
  have k_n16 : AtK G48 (gn G6) 0 := by rw [hG48]; exact atk_push k_n16
  have k_n31 : AtK G48 (gn G11) 4 := by rw [hG48]; exact atk_push k_n31
  have k_n42 : AtK G48 (gn G17) 3 := by rw [hG48]; exact atk_push k_n42
  have k_n61 : AtK G48 (gn G23) 2 := by rw [hG48]; exact atk_push k_n61
  have k_n80 : AtK G48 (gn G29) 1 := by rw [hG48]; exact atk_push k_n80
  have k_n94 : AtK G48 (gn G35) 1 := by rw [hG48]; exact atk_push k_n94
  have k_n108 : AtK G48 (gn G41) 1 := by rw [hG48]; exact atk_push k_n108
  have k_n122 : AtK G48 (gn G47) 9 := by rw [hG48]; exact atk_new
  have e_n122 : ad50 (gn G47) = a_n122 := by rw [had50]; exact ead_new
  have cl : Cl G48 := by rw [hG48]; exact cl.push
  refine y_putR (ty := tyX7 8) hx hb ht0 u_X7 tyX7 tyX7_ok nmX7 hown hK hP hD hS e_th e_n122 (k_th).1 (ce7 (k_th).2) rfl 8 (by decide) (ht0 _ m_FL_X7_63) rfl rfl hin rfl (by decide +kernel) rfl rfl (Nat.le_of_ble_eq_true rfl) (by rw [(k_th).2]; rfl) dX7_init_124 (fun H locs hP hD hS => ?_)
  obtain ⟨G51, hG51⟩ : ∃ z, z = gSet G48 th 8 (gn G47) := ⟨_, rfl⟩
  have q_G51 : G51 = x7_G51 G th := by rw [hG51, q_G48, q_G47]; rfl
  rw [← hG51] at hP hD
  have p_th_0 : gP G51 th 0 = some (gn G) := by rw [hG51]; exact gp_ne (by omega) p_th_0
  have p_th_1 : gP G51 th 1 = some (gn G6) := by rw [hG51]; exact gp_ne (by omega) p_th_1
  have cl : Cl G51 := by rw [hG51]; exact cl.set (k_n122).1
  have hle : gn G ≤ gn G51 := by rw [hG51]; exact hle
  have k_th : AtK G51 th 7 := by rw [hG51]; exact atk_set k_th
  have k_n5 : AtK G51 (gn G) 6 := by rw [hG51]; exact atk_set k_n5
  have k_n16 : AtK G51 (gn G6) 0 := by rw [hG51]; exact atk_set k_n16
  have k_n31 : AtK G51 (gn G11) 4 := by rw [hG51]; exact atk_set k_n31
  have k_n42 : AtK G51 (gn G17) 3 := by rw [hG51]; exact atk_set k_n42
  have k_n61 : AtK G51 (gn G23) 2 := by rw [hG51]; exact atk_set k_n61
  have k_n80 : AtK G51 (gn G29) 1 := by rw [hG51]; exact atk_set k_n80
  have k_n94 : AtK G51 (gn G35) 1 := by rw [hG51]; exact atk_set k_n94
  have k_n108 : AtK G51 (gn G41) 1 := by rw [hG51]; exact atk_set k_n108
  have k_n122 : AtK G51 (gn G47) 9 := by rw [hG51]; exact atk_set k_n122
  refine lv_aload_n hx hb dX7_init_127 rfl (lv_at hl 0 rfl) ?_
  refine lv_iconst (v := 1) hx hb dX7_init_128 (by decide) ?_
  refine y_callSi (As := [.int 1]) ⟨hx, hb, hml, hown, ht0⟩ hK hT hP hD hS (c_X5_sizeOf l dd Y t G51 ad50 (wD_ij hD) F 1 _ _ 1060 (by unfold P_X5_sizeOf; rw [if_neg (by decide)])) m_ML_X7_67 ss_X5_sizeOf hd_X5_sizeOf rfl rfl ⟨Nat.le_of_ble_eq_true rfl, Nat.le_of_ble_eq_true rfl⟩ rfl hl.1 rfl (Nat.le_of_ble_eq_true rfl) dX7_init_129 ⟨Nat.le_of_ble_eq_true rfl, Nat.le_of_ble_eq_true rfl⟩ (fun H locs hP hS => ?_)
  have l_n132 : gn G ≤ gn G51 := hle
  refine y_newa (N' := 1060) hx hb ht0 hK hP hD hS hA cl rfl (by decide) (Nat.le_of_ble_eq_true rfl) (Nat.le_of_ble_eq_true rfl) dX7_init_132 (fun a_n132 H hP hD hS => ?_)
  obtain ⟨G52, hG52⟩ : ∃ z, z = gPush G51 9 1060 := ⟨_, rfl⟩
  have q_G52 : G52 = x7_G52 G th := by rw [hG52, q_G51]; rfl
  obtain ⟨D53, hD53⟩ : ∃ z, z = upA D49 (gn G51) (fun _ => 0) := ⟨_, rfl⟩
  have q_D53 : D53 = x7_D53 G D E3 th := by rw [hD53, q_D49, q_G51]; rfl
  obtain ⟨ad54, had54⟩ : ∃ z, z = va_up ad50 (gn G51) a_n132 := ⟨_, rfl⟩
  rw [← hG52, ← hD53, ← had54] at hP hD
  have e_th : ad54 th = a_th := by rw [had54]; exact ead k_th e_th
  have e_n5 : ad54 (gn G) = a_n5 := by rw [had54]; exact ead k_n5 e_n5
  have e_n16 : ad54 (gn G6) = a_n16 := by rw [had54]; exact ead k_n16 e_n16
  have e_n31 : ad54 (gn G11) = a_n31 := by rw [had54]; exact ead k_n31 e_n31
  have e_n42 : ad54 (gn G17) = a_n42 := by rw [had54]; exact ead k_n42 e_n42
  have e_n61 : ad54 (gn G23) = a_n61 := by rw [had54]; exact ead k_n61 e_n61
  have e_n80 : ad54 (gn G29) = a_n80 := by rw [had54]; exact ead k_n80 e_n80
  have e_n94 : ad54 (gn G35) = a_n94 := by rw [had54]; exact ead k_n94 e_n94
  have e_n108 : ad54 (gn G41) = a_n108 := by rw [had54]; exact ead k_n108 e_n108
  have e_n122 : ad54 (gn G47) = a_n122 := by rw [had54]; exact ead k_n122 e_n122
  have hu : ∀ c, c < gn G → ad54 c = ad c := fun c hc => by rw [had54]; exact (va_up_ne _ _ (Nat.ne_of_lt (Nat.lt_of_lt_of_le hc hle))).trans (hu c hc)
  have hle : gn G ≤ gn G52 := by rw [hG52]; exact Nat.le_succ_of_le hle
  have p_th_0 : gP G52 th 0 = some (gn G) := by rw [hG52]; exact gp_push (k_th).1 p_th_0
  have p_th_1 : gP G52 th 1 = some (gn G6) := by rw [hG52]; exact gp_push (k_th).1 p_th_1
  have k_th : AtK G52 th 7 := by rw [hG52]; exact atk_push k_th
  have k_n5 : AtK G52 (gn G) 6 := by rw [hG52]; exact atk_push k_n5
  have k_n16 : AtK G52 (gn G6) 0 := by rw [hG52]; exact atk_push k_n16
  have k_n31 : AtK G52 (gn G11) 4 := by rw [hG52]; exact atk_push k_n31
  have k_n42 : AtK G52 (gn G17) 3 := by rw [hG52]; exact atk_push k_n42
  have k_n61 : AtK G52 (gn G23) 2 := by rw [hG52]; exact atk_push k_n61
  have k_n80 : AtK G52 (gn G29) 1 := by rw [hG52]; exact atk_push k_n80
  have k_n94 : AtK G52 (gn G35) 1 := by rw [hG52]; exact atk_push k_n94
  have k_n108 : AtK G52 (gn G41) 1 := by rw [hG52]; exact atk_push k_n108
  have k_n122 : AtK G52 (gn G47) 9 := by rw [hG52]; exact atk_push k_n122
  have k_n132 : AtK G52 (gn G51) 9 := by rw [hG52]; exact atk_new
  have e_n132 : ad54 (gn G51) = a_n132 := by rw [had54]; exact ead_new
  have cl : Cl G52 := by rw [hG52]; exact cl.push
  refine y_putR (ty := tyX7 9) hx hb ht0 u_X7 tyX7 tyX7_ok nmX7 hown hK hP hD hS e_th e_n132 (k_th).1 (ce7 (k_th).2) rfl 9 (by decide) (ht0 _ m_FL_X7_73) rfl rfl hin rfl (by decide +kernel) rfl rfl (Nat.le_of_ble_eq_true rfl) (by rw [(k_th).2]; rfl) dX7_init_134 (fun H locs hP hD hS => ?_)
  obtain ⟨G55, hG55⟩ : ∃ z, z = gSet G52 th 9 (gn G51) := ⟨_, rfl⟩
  have q_G55 : G55 = x7_G55 G th := by rw [hG55, q_G52, q_G51]; rfl
  rw [← hG55] at hP hD
  have p_th_0 : gP G55 th 0 = some (gn G) := by rw [hG55]; exact gp_ne (by omega) p_th_0
  have p_th_1 : gP G55 th 1 = some (gn G6) := by rw [hG55]; exact gp_ne (by omega) p_th_1
  have cl : Cl G55 := by rw [hG55]; exact cl.set (k_n132).1
  have hle : gn G ≤ gn G55 := by rw [hG55]; exact hle
  have k_th : AtK G55 th 7 := by rw [hG55]; exact atk_set k_th
  have k_n5 : AtK G55 (gn G) 6 := by rw [hG55]; exact atk_set k_n5
  have k_n16 : AtK G55 (gn G6) 0 := by rw [hG55]; exact atk_set k_n16
  have k_n31 : AtK G55 (gn G11) 4 := by rw [hG55]; exact atk_set k_n31
  have k_n42 : AtK G55 (gn G17) 3 := by rw [hG55]; exact atk_set k_n42
  have k_n61 : AtK G55 (gn G23) 2 := by rw [hG55]; exact atk_set k_n61
  have k_n80 : AtK G55 (gn G29) 1 := by rw [hG55]; exact atk_set k_n80
  have k_n94 : AtK G55 (gn G35) 1 := by rw [hG55]; exact atk_set k_n94
  have k_n108 : AtK G55 (gn G41) 1 := by rw [hG55]; exact atk_set k_n108
  have k_n122 : AtK G55 (gn G47) 9 := by rw [hG55]; exact atk_set k_n122
  have k_n132 : AtK G55 (gn G51) 9 := by rw [hG55]; exact atk_set k_n132
  refine W.widen (k := 72) (n := 40000) (Nat.le_of_ble_eq_true rfl) (Nat.le_of_ble_eq_true rfl) ?_
  rw [q_G55, q_D53] at hP hD
  exact y_vret hx hb hr hlocks hP hD hS hu dX7_init_137
