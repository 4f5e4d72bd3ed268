/-! MODEL: the reference's constructor -/
def gE : Gr := (0, fun _ => 12, fun _ => 0, fun _ _ => none)
def gM0 : Gr := gPush gE 8 0
def dZ : Mm := fun _ _ => 0
theorem up2_o {D : Mm} {c k c' : Nat} {v : Int32} (h : c' ≠ c) : up2 D c k v c' = D c' := by simp [up2, upA, h]
theorem in_nI {i n : Nat} (h : i < n) (hn : n < 2 ^ 31) : inB (nI i) n = true := by
  have := nI_in h hn
  exact decide_eq_true this
section Y3
variable {p : Program} {l : Launch} {e : Env} {R : Room} {s : State} {m : MethodId} {args : Array Value} {below : List Frame} {meth : Method} {c : Code} {H : Heap} {locs : List Loc} {cells slots : Nat} {Q : State → Prop} {cc : ByteArray} {pc : Nat} {ls : Array Slot} {rest : List Value} {dd : Dd} {Y : Yc} {t : Ts3} {G : Gr} {ad : Nat → Nat} {D : Mm} {A : Nat → Prop}
theorem y_ast (hx : p.tables.exec = Jvm.exec) (hb : c.code = cc) (hK : va_K dd vwCl (tyL Y) s) (hP : va_P dd vwCl (wW Y G ad D) H) (hD : va_D A (wW Y G ad D)) (hS : va_S A s.heap H locs) {q0 : Nat} (ha : AtK G q0 9) {i x : Int32} (hin : inB i (gN G q0) = true) (hdg : decode cc pc = .ok (.iastore, 1))
    (kk : ∀ (H1 : Heap) (locs1 : List Loc), va_P dd vwCl (wW Y G ad (up2 D q0 i.toNatClampNeg x)) H1 → va_D A (wW Y G ad (up2 D q0 i.toNatClampNeg x)) → va_S A s.heap H1 locs1 → W p l e R s m args below meth c H1 locs1 cells slots Q (F0 m (pc + 1) ls rest)) : W p l e R s m args below meth c H locs cells slots Q (F0 m pc ls (.int x :: .int i :: .ref (ad q0) :: rest)) := by
  refine va_iast (cA := Y.1) (n := gN G q0) (f := D q0) hx hb hK hP hD hS q0 0 (wW_at ha.1 (by rw [ha.2]; rfl)) rfl (inB_in hin) hdg (fun H1 locs1 hP1 hD1 hS1 => ?_)
  rw [wW_set (D' := up2 D q0 i.toNatClampNeg x) ha.1 (by rw [ha.2]; simp [up2, upA, cE]) (fun c' hc' => by simp [up2, upA, hc'])] at hP1 hD1
  exact kk H1 locs1 hP1 hD1 hS1
end Y3
def Sm (G : Gr) : Prop := ∀ c i, 31 ≤ i → gP G c i = none
theorem Sm.push {G : Gr} {k N : Nat} (h : Sm G) : Sm (gPush G k N) := by
  intro c i hi
  show (if c = gn G then none else gP G c i) = none
  split
  · rfl
  · exact h c i hi
theorem Sm.set {G : Gr} {c k v : Nat} (h : Sm G) (hk : k < 31) : Sm (gSet G c k v) := by
  intro c' i hi
  show (if c' = c ∧ i = k then some v else gP G c' i) = none
  rw [if_neg (by omega)]
  exact h c' i hi
theorem wW_eqG {Y : Yc} {G G' : Gr} {ad : Nat → Nat} {D : Mm} (hn : gn G = gn G') (hk : ∀ c, c < gn G → gK G c = gK G' c ∧ gN G c = gN G' c) (hp : ∀ c, c < gn G → ∀ i, i < 31 → gP G c i = gP G' c i) (h1 : Sm G) (h2 : ∀ c, c < gn G → ∀ i, 31 ≤ i → gP G' c i = none) : wW Y G ad D = wW Y G' ad D := by
  unfold wW
  rw [← hn]
  apply List.map_congr_left
  intro c hc
  have hc : c < gn G := List.mem_range.mp hc
  have e1 : pE G ad c = pE G' ad c := by
    funext i
    unfold pE
    by_cases hi : i < 31
    · rw [hp c hc i hi]
    · rw [h1 c i (by omega), h2 c hc i (by omega)]
  rw [(hk c hc).1, (hk c hc).2, e1]
theorem sm_gE : Sm gE := fun _ _ _ => rfl
def m8a : Nat → Nat → Mm → Mm
  | 0, _, D => D
  | n + 1, i, D => m8a n (i + 1) (up2 D 4 i (-1))
def m8b : Nat → Nat → Mm → Mm
  | 0, _, D => D
  | n + 1, i, D => m8b n (i + 1) (up2 D 4 (D 3 i).toNatClampNeg (nI i))

def x8_G1 : Gr := gPush gM0 10 124480
def x8_D2 : Mm := upA dZ (gn gM0) (fun _ => 0)
def x8_G4 : Gr := gSet x8_G1 0 0 (gn gM0)
def x8_G5 : Gr := gPush x8_G4 10 8480
def x8_D6 : Mm := upA x8_D2 (gn x8_G4) (fun _ => 0)
def x8_G8 : Gr := gSet x8_G5 0 1 (gn x8_G4)
def x8_G9 : Gr := gPush x8_G8 9 16
def x8_D10 : Mm := upA x8_D6 (gn x8_G8) (fun _ => 0)
def x8_G12 : Gr := gSet x8_G9 0 2 (gn x8_G8)
def x8_G13 : Gr := gPush x8_G12 9 32
def x8_D14 : Mm := upA x8_D10 (gn x8_G12) (fun _ => 0)
def x8_G16 : Gr := gSet x8_G13 0 3 (gn x8_G12)
def x8_D17 : Mm := up2 x8_D14 0 4 (-1)
def x8_G18 : Gr := gPush x8_G16 9 2480
def x8_D19 : Mm := upA x8_D17 (gn x8_G16) (fun _ => 0)
def x8_G21 : Gr := gSet x8_G18 0 5 (gn x8_G16)
def x8_G22 : Gr := gPush x8_G21 9 2480
def x8_D23 : Mm := upA x8_D19 (gn x8_G21) (fun _ => 0)
def x8_G25 : Gr := gSet x8_G22 0 7 (gn x8_G21)
def x8_G26 : Gr := gPush x8_G25 9 800
def x8_D27 : Mm := upA x8_D23 (gn x8_G25) (fun _ => 0)
def x8_G29 : Gr := gSet x8_G26 0 15 (gn x8_G25)
def x8_G30 : Gr := gPush x8_G29 9 64
def x8_D31 : Mm := upA x8_D27 (gn x8_G29) (fun _ => 0)
def x8_G33 : Gr := gSet x8_G30 0 18 (gn x8_G29)
def x8_G34 : Gr := gPush x8_G33 9 64
def x8_D35 : Mm := upA x8_D31 (gn x8_G33) (fun _ => 0)
def x8_G37 : Gr := gSet x8_G34 0 19 (gn x8_G33)
def x8_G38 : Gr := gPush x8_G37 9 448
def x8_D39 : Mm := upA x8_D35 (gn x8_G37) (fun _ => 0)
def x8_G41 : Gr := gSet x8_G38 0 20 (gn x8_G37)
def x8_G42 : Gr := gPush x8_G41 9 7
def x8_D43 : Mm := upA x8_D39 (gn x8_G41) (fun _ => 0)
def x8_G45 : Gr := gSet x8_G42 0 21 (gn x8_G41)
def x8_G46 : Gr := gPush x8_G45 9 7
def x8_D47 : Mm := upA x8_D43 (gn x8_G45) (fun _ => 0)
def x8_G49 : Gr := gSet x8_G46 0 22 (gn x8_G45)
def x8_G50 : Gr := gPush x8_G49 9 40
def x8_D51 : Mm := upA x8_D47 (gn x8_G49) (fun _ => 0)
def x8_G53 : Gr := gSet x8_G50 0 26 (gn x8_G49)
def x8_G54 : Gr := gPush x8_G53 9 40
def x8_D55 : Mm := upA x8_D51 (gn x8_G53) (fun _ => 0)
def x8_G57 : Gr := gSet x8_G54 0 27 (gn x8_G53)
theorem x8_sm_0 : Sm gM0 := sm_gE.push
theorem x8_sm_G1 : Sm x8_G1 := Sm.push x8_sm_0
theorem x8_sm_G4 : Sm x8_G4 := Sm.set x8_sm_G1 (by decide)
theorem x8_sm_G5 : Sm x8_G5 := Sm.push x8_sm_G4
theorem x8_sm_G8 : Sm x8_G8 := Sm.set x8_sm_G5 (by decide)
theorem x8_sm_G9 : Sm x8_G9 := Sm.push x8_sm_G8
theorem x8_sm_G12 : Sm x8_G12 := Sm.set x8_sm_G9 (by decide)
theorem x8_sm_G13 : Sm x8_G13 := Sm.push x8_sm_G12
theorem x8_sm_G16 : Sm x8_G16 := Sm.set x8_sm_G13 (by decide)
theorem x8_sm_G18 : Sm x8_G18 := Sm.push x8_sm_G16
theorem x8_sm_G21 : Sm x8_G21 := Sm.set x8_sm_G18 (by decide)
theorem x8_sm_G22 : Sm x8_G22 := Sm.push x8_sm_G21
theorem x8_sm_G25 : Sm x8_G25 := Sm.set x8_sm_G22 (by decide)
theorem x8_sm_G26 : Sm x8_G26 := Sm.push x8_sm_G25
theorem x8_sm_G29 : Sm x8_G29 := Sm.set x8_sm_G26 (by decide)
theorem x8_sm_G30 : Sm x8_G30 := Sm.push x8_sm_G29
theorem x8_sm_G33 : Sm x8_G33 := Sm.set x8_sm_G30 (by decide)
theorem x8_sm_G34 : Sm x8_G34 := Sm.push x8_sm_G33
theorem x8_sm_G37 : Sm x8_G37 := Sm.set x8_sm_G34 (by decide)
theorem x8_sm_G38 : Sm x8_G38 := Sm.push x8_sm_G37
theorem x8_sm_G41 : Sm x8_G41 := Sm.set x8_sm_G38 (by decide)
theorem x8_sm_G42 : Sm x8_G42 := Sm.push x8_sm_G41
theorem x8_sm_G45 : Sm x8_G45 := Sm.set x8_sm_G42 (by decide)
theorem x8_sm_G46 : Sm x8_G46 := Sm.push x8_sm_G45
theorem x8_sm_G49 : Sm x8_G49 := Sm.set x8_sm_G46 (by decide)
theorem x8_sm_G50 : Sm x8_G50 := Sm.push x8_sm_G49
theorem x8_sm_G53 : Sm x8_G53 := Sm.set x8_sm_G50 (by decide)
theorem x8_sm_G54 : Sm x8_G54 := Sm.push x8_sm_G53
theorem x8_sm_G57 : Sm x8_G57 := Sm.set x8_sm_G54 (by decide)
theorem x8_MG {Y : Yc} {ad : Nat → Nat} {D : Mm} : wW Y x8_G57 ad D = wW Y MG ad D := by
  refine wW_eqG rfl ?_ ?_ x8_sm_G57 ?_
  · have : ∀ c, c < 15 → gK x8_G57 c = gK MG c ∧ gN x8_G57 c = gN MG c := by decide +kernel
    exact this
  · have : ∀ c, c < 15 → ∀ i, i < 31 → gP x8_G57 c i = gP MG c i := by decide +kernel
    exact this
  · have : ∀ c, c < 15 → (mPl.getD c []).length ≤ 31 := by decide +kernel
    intro c hc i hi
    show (mPl.getD c []).getD i none = none
    rw [List.getD_eq_getElem?_getD, List.getElem?_eq_none (Nat.le_trans (this c hc) hi)]
    rfl
abbrev rm_X8_init : Room := { frames := 2, cells := 14, slots := 142000, locals := 60 }
set_option maxHeartbeats 4000000 in
set_option maxRecDepth 100000 in
theorem c_X8_init (l : Launch) (dd : Dd) (Y : Yc) (t : Ts3) (ad : Nat → Nat) (sz : Nat) (ij : Ij gM0 ad) (F : Nat) (E1 E2 E3 E4 dM : Mm) (hs1 : P_X8_setCodes (gN MG) F 0 10 11 18 19 x8_D55 = some (0, E1)) (hs2 : P_X8_setCodes (gN MG) F 4 14 15 22 23 E1 = some (0, E2)) (hs3 : P_X8_setCodes (gN MG) F 8 9 25 26 27 E2 = some (0, E3)) (hs4 : P_X8_setCodes (gN MG) F 12 13 29 30 21 E3 = some (0, E4)) (hs5 : ∀ i, i < 16 → inB (E4 3 i) 32 = true) (hsd : m8b 16 0 (m8a 32 0 E4) = dM) : Met l yX8_init wzX8_init rm_X8_init (va_Pc [.ref (ad 0)] (Wa dd Y t gM0 ad dZ sz)) (Qa dd Y gM0 ad sz MG dM) 14 142000 (aA gM0 ad sz) := by
  refine Met.ofW (cc := cX8_init) (maxL := 2) (ret := none) (by decide) rfl ?_
  intro p e s m args below meth c s₁ B hml hv
  obtain ⟨rfl, hsz, hP, hK, hT, hO⟩ := hv
  have hx := B.exec
  have hb := B.bytes
  have hr := B.returns
  have ht0 : ∀ w ∈ W0, w.before _ s = true := fun w h => atoms_spec (ws := wzX8_init) B.pre w (List.mem_cons_of_mem _ h)
  have hown : s.vm.findClass RX8 = some m.cls := findClass_of_methodNamed B.named
  have hlocks := B.notSynchronized
  have hin : meth.name = "<init>" := (name_of_methodNamed B.named B.method).1
  have hS : va_S (aA gM0 ad sz) s.heap s.heap [] := va_S.rf
  have hA : ∀ q : Nat, s.heap.size ≤ q → aA gM0 ad sz q := fun q h => Or.inr (by rw [← hsz]; exact h)
  have hD : va_D (aA gM0 ad sz) (wW Y gM0 ad dZ) := wD_self ij
  have hu : ∀ c, c < gn gM0 → ad c = ad c := fun _ _ => rfl
  have hle : gn gM0 ≤ gn gM0 := Nat.le_refl _
  have cl : Cl gM0 := fun c i v hc hv => by have : gP gM0 c i = none := (by unfold gM0 gPush gE gP gn; simp); rw [this] at hv; cases hv
  have k_th : AtK gM0 0 8 := ⟨by decide, rfl⟩
  have hl := lv_entry ([.ref (ad 0)]) (n := 2) (Nat.le_of_ble_eq_true rfl)
  rw [lg_entry_eq]
  generalize (lg_sl ([.ref (ad 0)]) ++ List.replicate (2 - (lg_sl ([.ref (ad 0)])).length) Slot.unset).toArray = ls at hl ⊢
  have hl : lv_has ls 2 [(0, .ref (ad 0))] := hl
  obtain ⟨a_th, e_th⟩ : ∃ z, ad 0 = z := ⟨_, rfl⟩
  rw [e_th] at hl
  refine lv_aload_n hx hb dX8_init_0 rfl (lv_at hl 0 rfl) ?_
  refine W.objInit hx hb hown (ht0 _ m_ML_X8_1) (ht0 _ m_IM_obj) (ht0 _ m_CO_obj) rfl (by rw [hml]; exact hl.1) rfl dX8_init_1 (Nat.le_of_ble_eq_true rfl) (Nat.le_of_ble_eq_true rfl) ?_
  refine W.eq (g2 := F0 m 4 ls []) rfl ?_
  refine lv_aload_n hx hb dX8_init_4 rfl (lv_at hl 0 rfl) ?_
  refine lv_ldc hx hb hown (ht0 _ m_KO_X8_7) dX8_init_5 ?_
  refine y_newz (N' := 124480) hx hb ht0 hK hP hD hS hA cl rfl (by decide) (Nat.le_of_ble_eq_true rfl) (Nat.le_of_ble_eq_true rfl) dX8_init_7 (fun a_n7 H hP hD hS => ?_)
  obtain ⟨G1, hG1⟩ : ∃ z, z = gPush gM0 10 124480 := ⟨_, rfl⟩
  have q_G1 : G1 = x8_G1 := by rw [hG1]; rfl
  obtain ⟨D2, hD2⟩ : ∃ z, z = upA dZ (gn gM0) (fun _ => 0) := ⟨_, rfl⟩
  have q_D2 : D2 = x8_D2 := by rw [hD2]; rfl
  obtain ⟨ad3, had3⟩ : ∃ z, z = va_up ad (gn gM0) a_n7 := ⟨_, rfl⟩
  rw [← hG1, ← hD2, ← had3] at hP hD
  have e_th : ad3 0 = a_th := by rw [had3]; exact ead k_th e_th
  have hu : ∀ c, c < gn gM0 → ad3 c = ad c := fun c hc => by rw [had3]; exact (va_up_ne _ _ (Nat.ne_of_lt (Nat.lt_of_lt_of_le hc hle))).trans (hu c hc)
  have hle : gn gM0 ≤ gn G1 := by rw [hG1]; exact Nat.le_succ_of_le hle
  have k_th : AtK G1 0 8 := by rw [hG1]; exact atk_push k_th
  have k_n7 : AtK G1 (gn gM0) 10 := by rw [hG1]; exact atk_new
  have e_n7 : ad3 (gn gM0) = a_n7 := by rw [had3]; exact ead_new
  have cl : Cl G1 := by rw [hG1]; exact cl.push
  refine y_putR (ty := tyX8 0) hx hb ht0 u_X8 tyX8 tyX8_ok nmX8 hown hK hP hD hS e_th e_n7 (k_th).1 (ce8 (k_th).2) rfl 0 (by decide) (ht0 _ m_FL_X8_8) rfl rfl hin rfl (by decide +kernel) rfl rfl (Nat.le_of_ble_eq_true rfl) (by rw [(k_th).2]; rfl) dX8_init_9 (fun H locs hP hD hS => ?_)
  obtain ⟨G4, hG4⟩ : ∃ z, z = gSet G1 0 0 (gn gM0) := ⟨_, rfl⟩
  have q_G4 : G4 = x8_G4 := by rw [hG4, q_G1]; rfl
  rw [← hG4] at hP hD
  have cl : Cl G4 := by rw [hG4]; exact cl.set (k_n7).1
  have hle : gn gM0 ≤ gn G4 := by rw [hG4]; exact hle
  have k_th : AtK G4 0 8 := by rw [hG4]; exact atk_set k_th
  have k_n7 : AtK G4 (gn gM0) 10 := by rw [hG4]; exact atk_set k_n7
  refine lv_aload_n hx hb dX8_init_12 rfl (lv_at hl 0 rfl) ?_
  refine lv_sipush (v := 8480) hx hb dX8_init_13 (by decide) ?_
  refine y_newz (N' := 8480) hx hb ht0 hK hP hD hS hA cl rfl (by decide) (Nat.le_of_ble_eq_true rfl) (Nat.le_of_ble_eq_true rfl) dX8_init_16 (fun a_n16 H hP hD hS => ?_)
  obtain ⟨G5, hG5⟩ : ∃ z, z = gPush G4 10 8480 := ⟨_, rfl⟩
  have q_G5 : G5 = x8_G5 := by rw [hG5, q_G4]; rfl
  obtain ⟨D6, hD6⟩ : ∃ z, z = upA D2 (gn G4) (fun _ => 0) := ⟨_, rfl⟩
  have q_D6 : D6 = x8_D6 := by rw [hD6, q_D2, q_G4]; rfl
  obtain ⟨ad7, had7⟩ : ∃ z, z = va_up ad3 (gn G4) a_n16 := ⟨_, rfl⟩
  rw [← hG5, ← hD6, ← had7] at hP hD
  have e_th : ad7 0 = a_th := by rw [had7]; exact ead k_th e_th
  have e_n7 : ad7 (gn gM0) = a_n7 := by rw [had7]; exact ead k_n7 e_n7
  have hu : ∀ c, c < gn gM0 → ad7 c = ad c := fun c hc => by rw [had7]; exact (va_up_ne _ _ (Nat.ne_of_lt (Nat.lt_of_lt_of_le hc hle))).trans (hu c hc)
  have hle : gn gM0 ≤ gn G5 := by rw [hG5]; exact Nat.le_succ_of_le hle
  have k_th : AtK G5 0 8 := by rw [hG5]; exact atk_push k_th
  have k_n7 : AtK G5 (gn gM0) 10 := by rw [hG5]; exact atk_push k_n7
  have k_n16 : AtK G5 (gn G4) 10 := by rw [hG5]; exact atk_new
  have e_n16 : ad7 (gn G4) = a_n16 := by rw [had7]; exact ead_new
  have cl : Cl G5 := by rw [hG5]; exact cl.push
  refine y_putR (ty := tyX8 1) hx hb ht0 u_X8 tyX8 tyX8_ok nmX8 hown hK hP hD hS e_th e_n16 (k_th).1 (ce8 (k_th).2) rfl 1 (by decide) (ht0 _ m_FL_X8_14) rfl rfl hin rfl (by decide +kernel) rfl rfl (Nat.le_of_ble_eq_true rfl) (by rw [(k_th).2]; rfl) dX8_init_18 (fun H locs hP hD hS => ?_)
  obtain ⟨G8, hG8⟩ : ∃ z, z = gSet G5 0 1 (gn G4) := ⟨_, rfl⟩
  have q_G8 : G8 = x8_G8 := by rw [hG8, q_G5, q_G4]; rfl
  rw [← hG8] at hP hD
  have cl : Cl G8 := by rw [hG8]; exact cl.set (k_n16).1
  have hle : gn gM0 ≤ gn G8 := by rw [hG8]; exact hle
  have k_th : AtK G8 0 8 := by rw [hG8]; exact atk_set k_th
  have k_n7 : AtK G8 (gn gM0) 10 := by rw [hG8]; exact atk_set k_n7
  have k_n16 : AtK G8 (gn G4) 10 := by rw [hG8]; exact atk_set k_n16
  refine lv_aload_n hx hb dX8_init_21 rfl (lv_at hl 0 rfl) ?_
  refine lv_bipush (v := 16) hx hb dX8_init_22 (by decide) ?_
  refine y_newa (N' := 16) hx hb ht0 hK hP hD hS hA cl rfl (by decide) (Nat.le_of_ble_eq_true rfl) (Nat.le_of_ble_eq_true rfl) dX8_init_24 (fun a_n24 H hP hD hS => ?_)
  obtain ⟨G9, hG9⟩ : ∃ z, z = gPush G8 9 16 := ⟨_, rfl⟩
  have q_G9 : G9 = x8_G9 := by rw [hG9, q_G8]; rfl
  obtain ⟨D10, hD10⟩ : ∃ z, z = upA D6 (gn G8) (fun _ => 0) := ⟨_, rfl⟩
  have q_D10 : D10 = x8_D10 := by rw [hD10, q_D6, q_G8]; rfl
  obtain ⟨ad11, had11⟩ : ∃ z, z = va_up ad7 (gn G8) a_n24 := ⟨_, rfl⟩
  rw [← hG9, ← hD10, ← had11] at hP hD
  have e_th : ad11 0 = a_th := by rw [had11]; exact ead k_th e_th
  have e_n7 : ad11 (gn gM0) = a_n7 := by rw [had11]; exact ead k_n7 e_n7
  have e_n16 : ad11 (gn G4) = a_n16 := by rw [had11]; exact ead k_n16 e_n16
  have hu : ∀ c, c < gn gM0 → ad11 c = ad c := fun c hc => by rw [had11]; exact (va_up_ne _ _ (Nat.ne_of_lt (Nat.lt_of_lt_of_le hc hle))).trans (hu c hc)
  have hle : gn gM0 ≤ gn G9 := by rw [hG9]; exact Nat.le_succ_of_le hle
  have k_th : AtK G9 0 8 := by rw [hG9]; exact atk_push k_th
  have k_n7 : AtK G9 (gn gM0) 10 := by rw [hG9]; exact atk_push k_n7
  have k_n16 : AtK G9 (gn G4) 10 := by rw [hG9]; exact atk_push k_n16
  have k_n24 : AtK G9 (gn G8) 9 := by rw [hG9]; exact atk_new
  have e_n24 : ad11 (gn G8) = a_n24 := by rw [had11]; exact ead_new
  have cl : Cl G9 := by rw [hG9]; exact cl.push
  refine y_putR (ty := tyX8 2) hx hb ht0 u_X8 tyX8 tyX8_ok nmX8 hown hK hP hD hS e_th e_n24 (k_th).1 (ce8 (k_th).2) rfl 2 (by decide) (ht0 _ m_FL_X8_17) rfl rfl hin rfl (by decide +kernel) rfl rfl (Nat.le_of_ble_eq_true rfl) (by rw [(k_th).2]; rfl) dX8_init_26 (fun H locs hP hD hS => ?_)
  obtain ⟨G12, hG12⟩ : ∃ z, z = gSet G9 0 2 (gn G8) := ⟨_, rfl⟩
  have q_G12 : G12 = x8_G12 := by rw [hG12, q_G9, q_G8]; rfl
  rw [← hG12] at hP hD
  have cl : Cl G12 := by rw [hG12]; exact cl.set (k_n24).1
  have hle : gn gM0 ≤ gn G12 := by rw [hG12]; exact hle
  have k_th : AtK G12 0 8 := by rw [hG12]; exact atk_set k_th
  have k_n7 : AtK G12 (gn gM0) 10 := by rw [hG12]; exact atk_set k_n7
  have k_n16 : AtK G12 (gn G4) 10 := by rw [hG12]; exact atk_set k_n16
  have k_n24 : AtK G12 (gn G8) 9 := by rw [hG12]; exact atk_set k_n24
  refine lv_aload_n hx hb dX8_init_29 rfl (lv_at hl 0 rfl) ?_
  refine lv_bipush (v := 32) hx hb dX8_init_30 (by decide) ?_
  refine y_newa (N' := 32) hx hb ht0 hK hP hD hS hA cl rfl (by decide) (Nat.le_of_ble_eq_true rfl) (Nat.le_of_ble_eq_true rfl) dX8_init_32 (fun a_n32 H hP hD hS => ?_)
  obtain ⟨G13, hG13⟩ : ∃ z, z = gPush G12 9 32 := ⟨_, rfl⟩
  have q_G13 : G13 = x8_G13 := by rw [hG13, q_G12]; rfl
  obtain ⟨D14, hD14⟩ : ∃ z, z = upA D10 (gn G12) (fun _ => 0) := ⟨_, rfl⟩
  have q_D14 : D14 = x8_D14 := by rw [hD14, q_D10, q_G12]; rfl
  obtain ⟨ad15, had15⟩ : ∃ z, z = va_up ad11 (gn G12) a_n32 := ⟨_, rfl⟩
  rw [← hG13, ← hD14, ← had15] at hP hD
  have e_th : ad15 0 = a_th := by rw [had15]; exact ead k_th e_th
  have e_n7 : ad15 (gn gM0) = a_n7 := by rw [had15]; exact ead k_n7 e_n7
  have e_n16 : ad15 (gn G4) = a_n16 := by rw [had15]; exact ead k_n16 e_n16
  have e_n24 : ad15 (gn G8) = a_n24 := by rw [had15]; exact ead k_n24 e_n24
  have hu : ∀ c, c < gn gM0 → ad15 c = ad c := fun c hc => by rw [had15]; exact (va_up_ne _ _ (Nat.ne_of_lt (Nat.lt_of_lt_of_le hc hle))).trans (hu c hc)
  have hle : gn gM0 ≤ gn G13 := by rw [hG13]; exact Nat.le_succ_of_le hle
  have k_th : AtK G13 0 8 := by rw [hG13]; exact atk_push k_th
  have k_n7 : AtK G13 (gn gM0) 10 := by rw [hG13]; exact atk_push k_n7
  have k_n16 : AtK G13 (gn G4) 10 := by rw [hG13]; exact atk_push k_n16
  have k_n24 : AtK G13 (gn G8) 9 := by rw [hG13]; exact atk_push k_n24
  have k_n32 : AtK G13 (gn G12) 9 := by rw [hG13]; exact atk_new
  have e_n32 : ad15 (gn G12) = a_n32 := by rw [had15]; exact ead_new
  have cl : Cl G13 := by rw [hG13]; exact cl.push
  refine y_putR (ty := tyX8 3) hx hb ht0 u_X8 tyX8 tyX8_ok nmX8 hown hK hP hD hS e_th e_n32 (k_th).1 (ce8 (k_th).2) rfl 3 (by decide) (ht0 _ m_FL_X8_21) rfl rfl hin rfl (by decide +kernel) rfl rfl (Nat.le_of_ble_eq_true rfl) (by rw [(k_th).2]; rfl) dX8_init_34 (fun H locs hP hD hS => ?_)
  obtain ⟨G16, hG16⟩ : ∃ z, z = gSet G13 0 3 (gn G12) := ⟨_, rfl⟩
  have q_G16 : G16 = x8_G16 := by rw [hG16, q_G13, q_G12]; rfl
  rw [← hG16] at hP hD
  have cl : Cl G16 := by rw [hG16]; exact cl.set (k_n32).1
  have hle : gn gM0 ≤ gn G16 := by rw [hG16]; exact hle
  have k_th : AtK G16 0 8 := by rw [hG16]; exact atk_set k_th
  have k_n7 : AtK G16 (gn gM0) 10 := by rw [hG16]; exact atk_set k_n7
  have k_n16 : AtK G16 (gn G4) 10 := by rw [hG16]; exact atk_set k_n16
  have k_n24 : AtK G16 (gn G8) 9 := by rw [hG16]; exact atk_set k_n24
  have k_n32 : AtK G16 (gn G12) 9 := by rw [hG16]; exact atk_set k_n32
  refine lv_aload_n hx hb dX8_init_37 rfl (lv_at hl 0 rfl) ?_
  refine lv_iconst (v := (-1)) hx hb dX8_init_38 (by decide) ?_
  refine y_put (ty := .int) hx hb ht0 u_X8 tyX8 tyX8_ok nmX8 hown hK hP hD hS e_th (k_th).1 (ce8 (k_th).2) rfl 4 (by decide) (ht0 _ m_FL_X8_24) rfl rfl (by decide +kernel) rfl rfl (Nat.le_of_ble_eq_true rfl) (by rw [(k_th).2]; rfl) dX8_init_39 (fun H locs hP hD hS => ?_)
  obtain ⟨D17, hD17⟩ : ∃ z, z = up2 D14 0 4 (-1) := ⟨_, rfl⟩
  have q_D17 : D17 = x8_D17 := by rw [hD17, q_D14]; rfl
  rw [← hD17] at hP hD
  refine lv_aload_n hx hb dX8_init_42 rfl (lv_at hl 0 rfl) ?_
  refine lv_sipush (v := 2480) hx hb dX8_init_43 (by decide) ?_
  refine y_newa (N' := 2480) hx hb ht0 hK hP hD hS hA cl rfl (by decide) (Nat.le_of_ble_eq_true rfl) (Nat.le_of_ble_eq_true rfl) dX8_init_46 (fun a_n46 H hP hD hS => ?_)
  obtain ⟨G18, hG18⟩ : ∃ z, z = gPush G16 9 2480 := ⟨_, rfl⟩
  have q_G18 : G18 = x8_G18 := by rw [hG18, q_G16]; rfl
  obtain ⟨D19, hD19⟩ : ∃ z, z = upA D17 (gn G16) (fun _ => 0) := ⟨_, rfl⟩
  have q_D19 : D19 = x8_D19 := by rw [hD19, q_D17, q_G16]; rfl
  obtain ⟨ad20, had20⟩ : ∃ z, z = va_up ad15 (gn G16) a_n46 := ⟨_, rfl⟩
  rw [← hG18, ← hD19, ← had20] at hP hD
  have e_th : ad20 0 = a_th := by rw [had20]; exact ead k_th e_th
  have e_n7 : ad20 (gn gM0) = a_n7 := by rw [had20]; exact ead k_n7 e_n7
  have e_n16 : ad20 (gn G4) = a_n16 := by rw [had20]; exact ead k_n16 e_n16
  have e_n24 : ad20 (gn G8) = a_n24 := by rw [had20]; exact ead k_n24 e_n24
  have e_n32 : ad20 (gn G12) = a_n32 := by rw [had20]; exact ead k_n32 e_n32
  have hu : ∀ c, c < gn gM0 → ad20 c = ad c := fun c hc => by rw [had20]; exact (va_up_ne _ _ (Nat.ne_of_lt (Nat.lt_of_lt_of_le hc hle))).trans (hu c hc)
  have hle : gn gM0 ≤ gn G18 := by rw [hG18]; exact Nat.le_succ_of_le hle
  have k_th : AtK G18 0 8 := by rw [hG18]; exact atk_push k_th
  have k_n7 : AtK G18 (gn gM0) 10 := by rw [hG18]; exact atk_push k_n7
  have k_n16 : AtK G18 (gn G4) 10 := by rw [hG18]; exact atk_push k_n16
  have k_n24 : AtK G18 (gn G8) 9 := by rw [hG18]; exact atk_push k_n24
  have k_n32 : AtK G18 (gn G12) 9 := by rw [hG18]; exact atk_push k_n32
  have k_n46 : AtK G18 (gn G16) 9 := by rw [hG18]; exact atk_new
  have e_n46 : ad20 (gn G16) = a_n46 := by rw [had20]; exact ead_new
  have cl : Cl G18 := by rw [hG18]; exact cl.push
  refine y_putR (ty := tyX8 5) hx hb ht0 u_X8 tyX8 tyX8_ok nmX8 hown hK hP hD hS e_th e_n46 (k_th).1 (ce8 (k_th).2) rfl 5 (by decide) (ht0 _ m_FL_X8_28) rfl rfl hin rfl (by decide +kernel) rfl rfl (Nat.le_of_ble_eq_true rfl) (by rw [(k_th).2]; rfl) dX8_init_48 (fun H locs hP hD hS => ?_)
  obtain ⟨G21, hG21⟩ : ∃ z, z = gSet G18 0 5 (gn G16) := ⟨_, rfl⟩
  have q_G21 : G21 = x8_G21 := by rw [hG21, q_G18, q_G16]; rfl
  rw [← hG21] at hP hD
  have cl : Cl G21 := by rw [hG21]; exact cl.set (k_n46).1
  have hle : gn gM0 ≤ gn G21 := by rw [hG21]; exact hle
  have k_th : AtK G21 0 8 := by rw [hG21]; exact atk_set k_th
  have k_n7 : AtK G21 (gn gM0) 10 := by rw [hG21]; exact atk_set k_n7
  have k_n16 : AtK G21 (gn G4) 10 := by rw [hG21]; exact atk_set k_n16
  have k_n24 : AtK G21 (gn G8) 9 := by rw [hG21]; exact atk_set k_n24
  have k_n32 : AtK G21 (gn G12) 9 := by rw [hG21]; exact atk_set k_n32
  have k_n46 : AtK G21 (gn G16) 9 := by rw [hG21]; exact atk_set k_n46
  refine lv_aload_n hx hb dX8_init_51 rfl (lv_at hl 0 rfl) ?_
  refine lv_sipush (v := 2480) hx hb dX8_init_52 (by decide) ?_
  refine y_newa (N' := 2480) hx hb ht0 hK hP hD hS hA cl rfl (by decide) (Nat.le_of_ble_eq_true rfl) (Nat.le_of_ble_eq_true rfl) dX8_init_55 (fun a_n55 H hP hD hS => ?_)
  obtain ⟨G22, hG22⟩ : ∃ z, z = gPush G21 9 2480 := ⟨_, rfl⟩
  have q_G22 : G22 = x8_G22 := by rw [hG22, q_G21]; rfl
  obtain ⟨D23, hD23⟩ : ∃ z, z = upA D19 (gn G21) (fun _ => 0) := ⟨_, rfl⟩
  have q_D23 : D23 = x8_D23 := by rw [hD23, q_D19, q_G21]; rfl
  obtain ⟨ad24, had24⟩ : ∃ z, z = va_up ad20 (gn G21) a_n55 := ⟨_, rfl⟩
  rw [← hG22, ← hD23, ← had24] at hP hD
  have e_th : ad24 0 = a_th := by rw [had24]; exact ead k_th e_th
  have e_n7 : ad24 (gn gM0) = a_n7 := by rw [had24]; exact ead k_n7 e_n7
  have e_n16 : ad24 (gn G4) = a_n16 := by rw [had24]; exact ead k_n16 e_n16
  have e_n24 : ad24 (gn G8) = a_n24 := by rw [had24]; exact ead k_n24 e_n24
  have e_n32 : ad24 (gn G12) = a_n32 := by rw [had24]; exact ead k_n32 e_n32
  have e_n46 : ad24 (gn G16) = a_n46 := by rw [had24]; exact ead k_n46 e_n46
  have hu : ∀ c, c < gn gM0 → ad24 c = ad c := fun c hc => by rw [had24]; exact (va_up_ne _ _ (Nat.ne_of_lt (Nat.lt_of_lt_of_le hc hle))).trans (hu c hc)
  have hle : gn gM0 ≤ gn G22 := by rw [hG22]; exact Nat.le_succ_of_le hle
  have k_th : AtK G22 0 8 := by rw [hG22]; exact atk_push k_th
  have k_n7 : AtK G22 (gn gM0) 10 := by rw [hG22]; exact atk_push k_n7
  have k_n16 : AtK G22 (gn G4) 10 := by rw [hG22]; exact atk_push k_n16
  have k_n24 : AtK G22 (gn G8) 9 := by rw [hG22]; exact atk_push k_n24
  have k_n32 : AtK G22 (gn G12) 9 := by rw [hG22]; exact atk_push k_n32
  have k_n46 : AtK G22 (gn G16) 9 := by rw [hG22]; exact atk_push k_n46
  have k_n55 : AtK G22 (gn G21) 9 := by rw [hG22]; exact atk_new
  have e_n55 : ad24 (gn G21) = a_n55 := by rw [had24]; exact ead_new
  have cl : Cl G22 := by rw [hG22]; exact cl.push
  refine y_putR (ty := tyX8 7) hx hb ht0 u_X8 tyX8 tyX8_ok nmX8 hown hK hP hD hS e_th e_n55 (k_th).1 (ce8 (k_th).2) rfl 7 (by decide) (ht0 _ m_FL_X8_31) rfl rfl hin rfl (by decide +kernel) rfl rfl (Nat.le_of_ble_eq_true rfl) (by rw [(k_th).2]; rfl) dX8_init_57 (fun H locs hP hD hS => ?_)
  obtain ⟨G25, hG25⟩ : ∃ z, z = gSet G22 0 7 (gn G21) := ⟨_, rfl⟩
  have q_G25 : G25 = x8_G25 := by rw [hG25, q_G22, q_G21]; rfl
  rw [← hG25] at hP hD
  have cl : Cl G25 := by rw [hG25]; exact cl.set (k_n55).1
  have hle : gn gM0 ≤ gn G25 := by rw [hG25]; exact hle
  have k_th : AtK G25 0 8 := by rw [hG25]; exact atk_set k_th
  have k_n7 : AtK G25 (gn gM0) 10 := by rw [hG25]; exact atk_set k_n7
  have k_n16 : AtK G25 (gn G4) 10 := by rw [hG25]; exact atk_set k_n16
  have k_n24 : AtK G25 (gn G8) 9 := by rw [hG25]; exact atk_set k_n24
  have k_n32 : AtK G25 (gn G12) 9 := by rw [hG25]; exact atk_set k_n32
  have k_n46 : AtK G25 (gn G16) 9 := by rw [hG25]; exact atk_set k_n46
  have k_n55 : AtK G25 (gn G21) 9 := by rw [hG25]; exact atk_set k_n55
  refine lv_aload_n hx hb dX8_init_60 rfl (lv_at hl 0 rfl) ?_
  refine lv_sipush (v := 800) hx hb dX8_init_61 (by decide) ?_
  refine y_newa (N' := 800) hx hb ht0 hK hP hD hS hA cl rfl (by decide) (Nat.le_of_ble_eq_true rfl) (Nat.le_of_ble_eq_true rfl) dX8_init_64 (fun a_n64 H hP hD hS => ?_)
  obtain ⟨G26, hG26⟩ : ∃ z, z = gPush G25 9 800 := ⟨_, rfl⟩
  have q_G26 : G26 = x8_G26 := by rw [hG26, q_G25]; rfl
  obtain ⟨D27, hD27⟩ : ∃ z, z = upA D23 (gn G25) (fun _ => 0) := ⟨_, rfl⟩
  have q_D27 : D27 = x8_D27 := by rw [hD27, q_D23, q_G25]; rfl
  obtain ⟨ad28, had28⟩ : ∃ z, z = va_up ad24 (gn G25) a_n64 := ⟨_, rfl⟩
  rw [← hG26, ← hD27, ← had28] at hP hD
  have e_th : ad28 0 = a_th := by rw [had28]; exact ead k_th e_th
  have e_n7 : ad28 (gn gM0) = a_n7 := by rw [had28]; exact ead k_n7 e_n7
  have e_n16 : ad28 (gn G4) = a_n16 := by rw [had28]; exact ead k_n16 e_n16
  have e_n24 : ad28 (gn G8) = a_n24 := by rw [had28]; exact ead k_n24 e_n24
  have e_n32 : ad28 (gn G12) = a_n32 := by rw [had28]; exact ead k_n32 e_n32
  have e_n46 : ad28 (gn G16) = a_n46 := by rw [had28]; exact ead k_n46 e_n46
  have e_n55 : ad28 (gn G21) = a_n55 := by rw [had28]; exact ead k_n55 e_n55
  have hu : ∀ c, c < gn gM0 → ad28 c = ad c := fun c hc => by rw [had28]; exact (va_up_ne _ _ (Nat.ne_of_lt (Nat.lt_of_lt_of_le hc hle))).trans (hu c hc)
  have hle : gn gM0 ≤ gn G26 := by rw [hG26]; exact Nat.le_succ_of_le hle
  have k_th : AtK G26 0 8 := by rw [hG26]; exact atk_push k_th
  have k_n7 : AtK G26 (gn gM0) 10 := by rw [hG26]; exact atk_push k_n7
  have k_n16 : AtK G26 (gn G4) 10 := by rw [hG26]; exact atk_push k_n16
  have k_n24 : AtK G26 (gn G8) 9 := by rw [hG26]; exact atk_push k_n24
  have k_n32 : AtK G26 (gn G12) 9 := by rw [hG26]; exact atk_push k_n32
  have k_n46 : AtK G26 (gn G16) 9 := by rw [hG26]; exact atk_push k_n46
  have k_n55 : AtK G26 (gn G21) 9 := by rw [hG26]; exact atk_push k_n55
  have k_n64 : AtK G26 (gn G25) 9 := by rw [hG26]; exact atk_new
  have e_n64 : ad28 (gn G25) = a_n64 := by rw [had28]; exact ead_new
  have cl : Cl G26 := by rw [hG26]; exact cl.push
  refine y_putR (ty := tyX8 15) hx hb ht0 u_X8 tyX8 tyX8_ok nmX8 hown hK hP hD hS e_th e_n64 (k_th).1 (ce8 (k_th).2) rfl 15 (by decide) (ht0 _ m_FL_X8_34) rfl rfl hin rfl (by decide +kernel) rfl rfl (Nat.le_of_ble_eq_true rfl) (by rw [(k_th).2]; rfl) dX8_init_66 (fun H locs hP hD hS => ?_)
  obtain ⟨G29, hG29⟩ : ∃ z, z = gSet G26 0 15 (gn G25) := ⟨_, rfl⟩
  have q_G29 : G29 = x8_G29 := by rw [hG29, q_G26, q_G25]; rfl
  rw [← hG29] at hP hD
  have cl : Cl G29 := by rw [hG29]; exact cl.set (k_n64).1
  have hle : gn gM0 ≤ gn G29 := by rw [hG29]; exact hle
  have k_th : AtK G29 0 8 := by rw [hG29]; exact atk_set k_th
  have k_n7 : AtK G29 (gn gM0) 10 := by rw [hG29]; exact atk_set k_n7
  have k_n16 : AtK G29 (gn G4) 10 := by rw [hG29]; exact atk_set k_n16
  have k_n24 : AtK G29 (gn G8) 9 := by rw [hG29]; exact atk_set k_n24
  have k_n32 : AtK G29 (gn G12) 9 := by rw [hG29]; exact atk_set k_n32
  have k_n46 : AtK G29 (gn G16) 9 := by rw [hG29]; exact atk_set k_n46
  have k_n55 : AtK G29 (gn G21) 9 := by rw [hG29]; exact atk_set k_n55
  have k_n64 : AtK G29 (gn G25) 9 := by rw [hG29]; exact atk_set k_n64
  refine lv_aload_n hx hb dX8_init_69 rfl (lv_at hl 0 rfl) ?_
  refine lv_bipush (v := 64) hx hb dX8_init_70 (by decide) ?_
  refine y_newa (N' := 64) hx hb ht0 hK hP hD hS hA cl rfl (by decide) (Nat.le_of_ble_eq_true rfl) (Nat.le_of_ble_eq_true rfl) dX8_init_72 (fun a_n72 H hP hD hS => ?_)
  obtain ⟨G30, hG30⟩ : ∃ z, z = gPush G29 9 64 := ⟨_, rfl⟩
  have q_G30 : G30 = x8_G30 := by rw [hG30, q_G29]; rfl
  obtain ⟨D31, hD31⟩ : ∃ z, z = upA D27 (gn G29) (fun _ => 0) := ⟨_, rfl⟩
  have q_D31 : D31 = x8_D31 := by rw [hD31, q_D27, q_G29]; rfl
  obtain ⟨ad32, had32⟩ : ∃ z, z = va_up ad28 (gn G29) a_n72 := ⟨_, rfl⟩
  rw [← hG30, ← hD31, ← had32] at hP hD
  have e_th : ad32 0 = a_th := by rw [had32]; exact ead k_th e_th
  have e_n7 : ad32 (gn gM0) = a_n7 := by rw [had32]; exact ead k_n7 e_n7
  have e_n16 : ad32 (gn G4) = a_n16 := by rw [had32]; exact ead k_n16 e_n16
  have e_n24 : ad32 (gn G8) = a_n24 := by rw [had32]; exact ead k_n24 e_n24
  have e_n32 : ad32 (gn G12) = a_n32 := by rw [had32]; exact ead k_n32 e_n32
  have e_n46 : ad32 (gn G16) = a_n46 := by rw [had32]; exact ead k_n46 e_n46
  have e_n55 : ad32 (gn G21) = a_n55 := by rw [had32]; exact ead k_n55 e_n55
  have e_n64 : ad32 (gn G25) = a_n64 := by rw [had32]; exact ead k_n64 e_n64
  have hu : ∀ c, c < gn gM0 → ad32 c = ad c := fun c hc => by rw [had32]; exact (va_up_ne _ _ (Nat.ne_of_lt (Nat.lt_of_lt_of_le hc hle))).trans (hu c hc)
  have hle : gn gM0 ≤ gn G30 := by rw [hG30]; exact Nat.le_succ_of_le hle
  have k_th : AtK G30 0 8 := by rw [hG30]; exact atk_push k_th
  have k_n7 : AtK G30 (gn gM0) 10 := by rw [hG30]; exact atk_push k_n7
  have k_n16 : AtK G30 (gn G4) 10 := by rw [hG30]; exact atk_push k_n16
  have k_n24 : AtK G30 (gn G8) 9 := by rw [hG30]; exact atk_push k_n24
  have k_n32 : AtK G30 (gn G12) 9 := by rw [hG30]; exact atk_push k_n32
  have k_n46 : AtK G30 (gn G16) 9 := by rw [hG30]; exact atk_push k_n46
  have k_n55 : AtK G30 (gn G21) 9 := by rw [hG30]; exact atk_push k_n55
  have k_n64 : AtK G30 (gn G25) 9 := by rw [hG30]; exact atk_push k_n64
  have k_n72 : AtK G30 (gn G29) 9 := by rw [hG30]; exact atk_new
  have e_n72 : ad32 (gn G29) = a_n72 := by rw [had32]; exact ead_new
  have cl : Cl G30 := by rw [hG30]; exact cl.push
  refine y_putR (ty := tyX8 18) hx hb ht0 u_X8 tyX8 tyX8_ok nmX8 hown hK hP hD hS e_th e_n72 (k_th).1 (ce8 (k_th).2) rfl 18 (by decide) (ht0 _ m_FL_X8_37) rfl rfl hin rfl (by decide +kernel) rfl rfl (Nat.le_of_ble_eq_true rfl) (by rw [(k_th).2]; rfl) dX8_init_74 (fun H locs hP hD hS => ?_)
  obtain ⟨G33, hG33⟩ : ∃ z, z = gSet G30 0 18 (gn G29) := ⟨_, rfl⟩
  have q_G33 : G33 = x8_G33 := by rw [hG33, q_G30, q_G29]; rfl
  rw [← hG33] at hP hD
  have cl : Cl G33 := by rw [hG33]; exact cl.set (k_n72).1
  have hle : gn gM0 ≤ gn G33 := by rw [hG33]; exact hle
  have k_th : AtK G33 0 8 := by rw [hG33]; exact atk_set k_th
  have k_n7 : AtK G33 (gn gM0) 10 := by rw [hG33]; exact atk_set k_n7
  have k_n16 : AtK G33 (gn G4) 10 := by rw [hG33]; exact atk_set k_n16
  have k_n24 : AtK G33 (gn G8) 9 := by rw [hG33]; exact atk_set k_n24
  have k_n32 : AtK G33 (gn G12) 9 := by rw [hG33]; exact atk_set k_n32
  have k_n46 : AtK G33 (gn G16) 9 := by rw [hG33]; exact atk_set k_n46
  have k_n55 : AtK G33 (gn G21) 9 := by rw [hG33]; exact atk_set k_n55
  have k_n64 : AtK G33 (gn G25) 9 := by rw [hG33]; exact atk_set k_n64
  have k_n72 : AtK G33 (gn G29) 9 := by rw [hG33]; exact atk_set k_n72
  refine lv_aload_n hx hb dX8_init_77 rfl (lv_at hl 0 rfl) ?_
  refine lv_bipush (v := 64) hx hb dX8_init_78 (by decide) ?_
  refine y_newa (N' := 64) hx hb ht0 hK hP hD hS hA cl rfl (by decide) (Nat.le_of_ble_eq_true rfl) (Nat.le_of_ble_eq_true rfl) dX8_init_80 (fun a_n80 H hP hD hS => ?_)
  obtain ⟨G34, hG34⟩ : ∃ z, z = gPush G33 9 64 := ⟨_, rfl⟩
  have q_G34 : G34 = x8_G34 := by rw [hG34, q_G33]; rfl
  obtain ⟨D35, hD35⟩ : ∃ z, z = upA D31 (gn G33) (fun _ => 0) := ⟨_, rfl⟩
  have q_D35 : D35 = x8_D35 := by rw [hD35, q_D31, q_G33]; rfl
  obtain ⟨ad36, had36⟩ : ∃ z, z = va_up ad32 (gn G33) a_n80 := ⟨_, rfl⟩
  rw [← hG34, ← hD35, ← had36] at hP hD
  have e_th : ad36 0 = a_th := by rw [had36]; exact ead k_th e_th
  have e_n7 : ad36 (gn gM0) = a_n7 := by rw [had36]; exact ead k_n7 e_n7
  have e_n16 : ad36 (gn G4) = a_n16 := by rw [had36]; exact ead k_n16 e_n16
  have e_n24 : ad36 (gn G8) = a_n24 := by rw [had36]; exact ead k_n24 e_n24
  have e_n32 : ad36 (gn G12) = a_n32 := by rw [had36]; exact ead k_n32 e_n32
  have e_n46 : ad36 (gn G16) = a_n46 := by rw [had36]; exact ead k_n46 e_n46
  have e_n55 : ad36 (gn G21) = a_n55 := by rw [had36]; exact ead k_n55 e_n55
  have e_n64 : ad36 (gn G25) = a_n64 := by rw [had36]; exact ead k_n64 e_n64
  have e_n72 : ad36 (gn G29) = a_n72 := by rw [had36]; exact ead k_n72 e_n72
  have hu : ∀ c, c < gn gM0 → ad36 c = ad c := fun c hc => by rw [had36]; exact (va_up_ne _ _ (Nat.ne_of_lt (Nat.lt_of_lt_of_le hc hle))).trans (hu c hc)
  have hle : gn gM0 ≤ gn G34 := by rw [hG34]; exact Nat.le_succ_of_le hle
  have k_th : AtK G34 0 8 := by rw [hG34]; exact atk_push k_th
  have k_n7 : AtK G34 (gn gM0) 10 := by rw [hG34]; exact atk_push k_n7
  have k_n16 : AtK G34 (gn G4) 10 := by rw [hG34]; exact atk_push k_n16
  have k_n24 : AtK G34 (gn G8) 9 := by rw [hG34]; exact atk_push k_n24
  have k_n32 : AtK G34 (gn G12) 9 := by rw [hG34]; exact atk_push k_n32
  have k_n46 : AtK G34 (gn G16) 9 := by rw [hG34]; exact atk_push k_n46
  have k_n55 : AtK G34 (gn G21) 9 := by rw [hG34]; exact atk_push k_n55
  have k_n64 : AtK G34 (gn G25) 9 := by rw [hG34]; exact atk_push k_n64
  have k_n72 : AtK G34 (gn G29) 9 := by rw [hG34]; exact atk_push k_n72
  have k_n80 : AtK G34 (gn G33) 9 := by rw [hG34]; exact atk_new
  have e_n80 : ad36 (gn G33) = a_n80 := by rw [had36]; exact ead_new
  have cl : Cl G34 := by rw [hG34]; exact cl.push
  refine y_putR (ty := tyX8 19) hx hb ht0 u_X8 tyX8 tyX8_ok nmX8 hown hK hP hD hS e_th e_n80 (k_th).1 (ce8 (k_th).2) rfl 19 (by decide) (ht0 _ m_FL_X8_40) rfl rfl hin rfl (by decide +kernel) rfl rfl (Nat.le_of_ble_eq_true rfl) (by rw [(k_th).2]; rfl) dX8_init_82 (fun H locs hP hD hS => ?_)
  obtain ⟨G37, hG37⟩ : ∃ z, z = gSet G34 0 19 (gn G33) := ⟨_, rfl⟩
  have q_G37 : G37 = x8_G37 := by rw [hG37, q_G34, q_G33]; rfl
  rw [← hG37] at hP hD
  have cl : Cl G37 := by rw [hG37]; exact cl.set (k_n80).1
  have hle : gn gM0 ≤ gn G37 := by rw [hG37]; exact hle
  have k_th : AtK G37 0 8 := by rw [hG37]; exact atk_set k_th
  have k_n7 : AtK G37 (gn gM0) 10 := by rw [hG37]; exact atk_set k_n7
  have k_n16 : AtK G37 (gn G4) 10 := by rw [hG37]; exact atk_set k_n16
  have k_n24 : AtK G37 (gn G8) 9 := by rw [hG37]; exact atk_set k_n24
  have k_n32 : AtK G37 (gn G12) 9 := by rw [hG37]; exact atk_set k_n32
  have k_n46 : AtK G37 (gn G16) 9 := by rw [hG37]; exact atk_set k_n46
  have k_n55 : AtK G37 (gn G21) 9 := by rw [hG37]; exact atk_set k_n55
  have k_n64 : AtK G37 (gn G25) 9 := by rw [hG37]; exact atk_set k_n64
  have k_n72 : AtK G37 (gn G29) 9 := by rw [hG37]; exact atk_set k_n72
  have k_n80 : AtK G37 (gn G33) 9 := by rw [hG37]; exact atk_set k_n80
  refine lv_aload_n hx hb dX8_init_85 rfl (lv_at hl 0 rfl) ?_
  refine lv_sipush (v := 448) hx hb dX8_init_86 (by decide) ?_
  refine y_newa (N' := 448) hx hb ht0 hK hP hD hS hA cl rfl (by decide) (Nat.le_of_ble_eq_true rfl) (Nat.le_of_ble_eq_true rfl) dX8_init_89 (fun a_n89 H hP hD hS => ?_)
  obtain ⟨G38, hG38⟩ : ∃ z, z = gPush G37 9 448 := ⟨_, rfl⟩
  have q_G38 : G38 = x8_G38 := by rw [hG38, q_G37]; rfl
  obtain ⟨D39, hD39⟩ : ∃ z, z = upA D35 (gn G37) (fun _ => 0) := ⟨_, rfl⟩
  have q_D39 : D39 = x8_D39 := by rw [hD39, q_D35, q_G37]; rfl
  obtain ⟨ad40, had40⟩ : ∃ z, z = va_up ad36 (gn G37) a_n89 := ⟨_, rfl⟩
  rw [← hG38, ← hD39, ← had40] at hP hD
  have e_th : ad40 0 = a_th := by rw [had40]; exact ead k_th e_th
  have e_n7 : ad40 (gn gM0) = a_n7 := by rw [had40]; exact ead k_n7 e_n7
  have e_n16 : ad40 (gn G4) = a_n16 := by rw [had40]; exact ead k_n16 e_n16
  have e_n24 : ad40 (gn G8) = a_n24 := by rw [had40]; exact ead k_n24 e_n24
  have e_n32 : ad40 (gn G12) = a_n32 := by rw [had40]; exact ead k_n32 e_n32
  have e_n46 : ad40 (gn G16) = a_n46 := by rw [had40]; exact ead k_n46 e_n46
  have e_n55 : ad40 (gn G21) = a_n55 := by rw [had40]; exact ead k_n55 e_n55
  have e_n64 : ad40 (gn G25) = a_n64 := by rw [had40]; exact ead k_n64 e_n64
  have e_n72 : ad40 (gn G29) = a_n72 := by rw [had40]; exact ead k_n72 e_n72
  have e_n80 : ad40 (gn G33) = a_n80 := by rw [had40]; exact ead k_n80 e_n80
  have hu : ∀ c, c < gn gM0 → ad40 c = ad c := fun c hc => by rw [had40]; exact (va_up_ne _ _ (Nat.ne_of_lt (Nat.lt_of_lt_of_le hc hle))).trans (hu c hc)
  have hle : gn gM0 ≤ gn G38 := by rw [hG38]; exact Nat.le_succ_of_le hle
  have k_th : AtK G38 0 8 := by rw [hG38]; exact atk_push k_th
  have k_n7 : AtK G38 (gn gM0) 10 := by rw [hG38]; exact atk_push k_n7
  have k_n16 : AtK G38 (gn G4) 10 := by rw [hG38]; exact atk_push k_n16
  have k_n24 : AtK G38 (gn G8) 9 := by rw [hG38]; exact atk_push k_n24
  have k_n32 : AtK G38 (gn G12) 9 := by rw [hG38]; exact atk_push k_n32
  have k_n46 : AtK G38 (gn G16) 9 := by rw [hG38]; exact atk_push k_n46
  have k_n55 : AtK G38 (gn G21) 9 := by rw [hG38]; exact atk_push k_n55
  have k_n64 : AtK G38 (gn G25) 9 := by rw [hG38]; exact atk_push k_n64
  have k_n72 : AtK G38 (gn G29) 9 := by rw [hG38]; exact atk_push k_n72
  have k_n80 : AtK G38 (gn G33) 9 := by rw [hG38]; exact atk_push k_n80
  have k_n89 : AtK G38 (gn G37) 9 := by rw [hG38]; exact atk_new
  have e_n89 : ad40 (gn G37) = a_n89 := by rw [had40]; exact ead_new
  have cl : Cl G38 := by rw [hG38]; exact cl.push
  refine y_putR (ty := tyX8 20) hx hb ht0 u_X8 tyX8 tyX8_ok nmX8 hown hK hP hD hS e_th e_n89 (k_th).1 (ce8 (k_th).2) rfl 20 (by decide) (ht0 _ m_FL_X8_43) rfl rfl hin rfl (by decide +kernel) rfl rfl (Nat.le_of_ble_eq_true rfl) (by rw [(k_th).2]; rfl) dX8_init_91 (fun H locs hP hD hS => ?_)
  obtain ⟨G41, hG41⟩ : ∃ z, z = gSet G38 0 20 (gn G37) := ⟨_, rfl⟩
  have q_G41 : G41 = x8_G41 := by rw [hG41, q_G38, q_G37]; rfl
  rw [← hG41] at hP hD
  have cl : Cl G41 := by rw [hG41]; exact cl.set (k_n89).1
  have hle : gn gM0 ≤ gn G41 := by rw [hG41]; exact hle
  have k_th : AtK G41 0 8 := by rw [hG41]; exact atk_set k_th
  have k_n7 : AtK G41 (gn gM0) 10 := by rw [hG41]; exact atk_set k_n7
  have k_n16 : AtK G41 (gn G4) 10 := by rw [hG41]; exact atk_set k_n16
  have k_n24 : AtK G41 (gn G8) 9 := by rw [hG41]; exact atk_set k_n24
  have k_n32 : AtK G41 (gn G12) 9 := by rw [hG41]; exact atk_set k_n32
  have k_n46 : AtK G41 (gn G16) 9 := by rw [hG41]; exact atk_set k_n46
  have k_n55 : AtK G41 (gn G21) 9 := by rw [hG41]; exact atk_set k_n55
  have k_n64 : AtK G41 (gn G25) 9 := by rw [hG41]; exact atk_set k_n64
  have k_n72 : AtK G41 (gn G29) 9 := by rw [hG41]; exact atk_set k_n72
  have k_n80 : AtK G41 (gn G33) 9 := by rw [hG41]; exact atk_set k_n80
  have k_n89 : AtK G41 (gn G37) 9 := by rw [hG41]; exact atk_set k_n89
  refine lv_aload_n hx hb dX8_init_94 rfl (lv_at hl 0 rfl) ?_
  refine lv_bipush (v := 7) hx hb dX8_init_95 (by decide) ?_
  refine y_newa (N' := 7) hx hb ht0 hK hP hD hS hA cl rfl (by decide) (Nat.le_of_ble_eq_true rfl) (Nat.le_of_ble_eq_true rfl) dX8_init_97 (fun a_n97 H hP hD hS => ?_)
  obtain ⟨G42, hG42⟩ : ∃ z, z = gPush G41 9 7 := ⟨_, rfl⟩
  have q_G42 : G42 = x8_G42 := by rw [hG42, q_G41]; rfl
  obtain ⟨D43, hD43⟩ : ∃ z, z = upA D39 (gn G41) (fun _ => 0) := ⟨_, rfl⟩
  have q_D43 : D43 = x8_D43 := by rw [hD43, q_D39, q_G41]; rfl
  obtain ⟨ad44, had44⟩ : ∃ z, z = va_up ad40 (gn G41) a_n97 := ⟨_, rfl⟩
  rw [← hG42, ← hD43, ← had44] at hP hD
  have e_th : ad44 0 = a_th := by rw [had44]; exact ead k_th e_th
  have e_n7 : ad44 (gn gM0) = a_n7 := by rw [had44]; exact ead k_n7 e_n7
  have e_n16 : ad44 (gn G4) = a_n16 := by rw [had44]; exact ead k_n16 e_n16
  have e_n24 : ad44 (gn G8) = a_n24 := by rw [had44]; exact ead k_n24 e_n24
  have e_n32 : ad44 (gn G12) = a_n32 := by rw [had44]; exact ead k_n32 e_n32
  have e_n46 : ad44 (gn G16) = a_n46 := by rw [had44]; exact ead k_n46 e_n46
  have e_n55 : ad44 (gn G21) = a_n55 := by rw [had44]; exact ead k_n55 e_n55
  have e_n64 : ad44 (gn G25) = a_n64 := by rw [had44]; exact ead k_n64 e_n64
  have e_n72 : ad44 (gn G29) = a_n72 := by rw [had44]; exact ead k_n72 e_n72
  have e_n80 : ad44 (gn G33) = a_n80 := by rw [had44]; exact ead k_n80 e_n80
  have e_n89 : ad44 (gn G37) = a_n89 := by rw [had44]; exact ead k_n89 e_n89
  have hu : ∀ c, c < gn gM0 → ad44 c = ad c := fun c hc => by rw [had44]; exact (va_up_ne _ _ (Nat.ne_of_lt (Nat.lt_of_lt_of_le hc hle))).trans (hu c hc)
  have hle : gn gM0 ≤ gn G42 := by rw [hG42]; exact Nat.le_succ_of_le hle
  have k_th : AtK G42 0 8 := by rw [hG42]; exact atk_push k_th
  have k_n7 : AtK G42 (gn gM0) 10 := by rw [hG42]; exact atk_push k_n7
  have k_n16 : AtK G42 (gn G4) 10 := by rw [hG42]; exact atk_push k_n16
  have k_n24 : AtK G42 (gn G8) 9 := by rw [hG42]; exact atk_push k_n24
  have k_n32 : AtK G42 (gn G12) 9 := by rw [hG42]; exact atk_push k_n32
  have k_n46 : AtK G42 (gn G16) 9 := by rw [hG42]; exact atk_push k_n46
  have k_n55 : AtK G42 (gn G21) 9 := by rw [hG42]; exact atk_push k_n55
  have k_n64 : AtK G42 (gn G25) 9 := by rw [hG42]; exact atk_push k_n64
  have k_n72 : AtK G42 (gn G29) 9 := by rw [hG42]; exact atk_push k_n72
  have k_n80 : AtK G42 (gn G33) 9 := by rw [hG42]; exact atk_push k_n80
  have k_n89 : AtK G42 (gn G37) 9 := by rw [hG42]; exact atk_push k_n89
  have k_n97 : AtK G42 (gn G41) 9 := by rw [hG42]; exact atk_new
  have e_n97 : ad44 (gn G41) = a_n97 := by rw [had44]; exact ead_new
  have cl : Cl G42 := by rw [hG42]; exact cl.push
  refine y_putR (ty := tyX8 21) hx hb ht0 u_X8 tyX8 tyX8_ok nmX8 hown hK hP hD hS e_th e_n97 (k_th).1 (ce8 (k_th).2) rfl 21 (by decide) (ht0 _ m_FL_X8_46) rfl rfl hin rfl (by decide +kernel) rfl rfl (Nat.le_of_ble_eq_true rfl) (by rw [(k_th).2]; rfl) dX8_init_99 (fun H locs hP hD hS => ?_)
  obtain ⟨G45, hG45⟩ : ∃ z, z = gSet G42 0 21 (gn G41) := ⟨_, rfl⟩
  have q_G45 : G45 = x8_G45 := by rw [hG45, q_G42, q_G41]; rfl
  rw [← hG45] at hP hD
  have cl : Cl G45 := by rw [hG45]; exact cl.set (k_n97).1
  have hle : gn gM0 ≤ gn G45 := by rw [hG45]; exact hle
  have k_th : AtK G45 0 8 := by rw [hG45]; exact atk_set k_th
  have k_n7 : AtK G45 (gn gM0) 10 := by rw [hG45]; exact atk_set k_n7
  have k_n16 : AtK G45 (gn G4) 10 := by rw [hG45]; exact atk_set k_n16
  have k_n24 : AtK G45 (gn G8) 9 := by rw [hG45]; exact atk_set k_n24
  have k_n32 : AtK G45 (gn G12) 9 := by rw [hG45]; exact atk_set k_n32
  have k_n46 : AtK G45 (gn G16) 9 := by rw [hG45]; exact atk_set k_n46
  have k_n55 : AtK G45 (gn G21) 9 := by rw [hG45]; exact atk_set k_n55
  have k_n64 : AtK G45 (gn G25) 9 := by rw [hG45]; exact atk_set k_n64
  have k_n72 : AtK G45 (gn G29) 9 := by rw [hG45]; exact atk_set k_n72
  have k_n80 : AtK G45 (gn G33) 9 := by rw [hG45]; exact atk_set k_n80
  have k_n89 : AtK G45 (gn G37) 9 := by rw [hG45]; exact atk_set k_n89
  have k_n97 : AtK G45 (gn G41) 9 := by rw [hG45]; exact atk_set k_n97
  refine lv_aload_n hx hb dX8_init_102 rfl (lv_at hl 0 rfl) ?_
  refine lv_bipush (v := 7) hx hb dX8_init_103 (by decide) ?_
  refine y_newa (N' := 7) hx hb ht0 hK hP hD hS hA cl rfl (by decide) (Nat.le_of_ble_eq_true rfl) (Nat.le_of_ble_eq_true rfl) dX8_init_105 (fun a_n105 H hP hD hS => ?_)
  obtain ⟨G46, hG46⟩ : ∃ z, z = gPush G45 9 7 := ⟨_, rfl⟩
  have q_G46 : G46 = x8_G46 := by rw [hG46, q_G45]; rfl
  obtain ⟨D47, hD47⟩ : ∃ z, z = upA D43 (gn G45) (fun _ => 0) := ⟨_, rfl⟩
  have q_D47 : D47 = x8_D47 := by rw [hD47, q_D43, q_G45]; rfl
  obtain ⟨ad48, had48⟩ : ∃ z, z = va_up ad44 (gn G45) a_n105 := ⟨_, rfl⟩
  rw [← hG46, ← hD47, ← had48] at hP hD
  have e_th : ad48 0 = a_th := by rw [had48]; exact ead k_th e_th
  have e_n7 : ad48 (gn gM0) = a_n7 := by rw [had48]; exact ead k_n7 e_n7
  have e_n16 : ad48 (gn G4) = a_n16 := by rw [had48]; exact ead k_n16 e_n16
  have e_n24 : ad48 (gn G8) = a_n24 := by rw [had48]; exact ead k_n24 e_n24
  have e_n32 : ad48 (gn G12) = a_n32 := by rw [had48]; exact ead k_n32 e_n32
  have e_n46 : ad48 (gn G16) = a_n46 := by rw [had48]; exact ead k_n46 e_n46
  have e_n55 : ad48 (gn G21) = a_n55 := by rw [had48]; exact ead k_n55 e_n55
  have e_n64 : ad48 (gn G25) = a_n64 := by rw [had48]; exact ead k_n64 e_n64
  have e_n72 : ad48 (gn G29) = a_n72 := by rw [had48]; exact ead k_n72 e_n72
  have e_n80 : ad48 (gn G33) = a_n80 := by rw [had48]; exact ead k_n80 e_n80
  have e_n89 : ad48 (gn G37) = a_n89 := by rw [had48]; exact ead k_n89 e_n89
  have e_n97 : ad48 (gn G41) = a_n97 := by rw [had48]; exact ead k_n97 e_n97
  have hu : ∀ c, c < gn gM0 → ad48 c = ad c := fun c hc => by rw [had48]; exact (va_up_ne _ _ (Nat.ne_of_lt (Nat.lt_of_lt_of_le hc hle))).trans (hu c hc)
  have hle : gn gM0 ≤ gn G46 := by rw [hG46]; exact Nat.le_succ_of_le hle
  have k_th : AtK G46 0 8 := by rw [hG46]; exact atk_push k_th
  have k_n7 : AtK G46 (gn gM0) 10 := by rw [hG46]; exact atk_push k_n7
  have k_n16 : AtK G46 (gn G4) 10 := by rw [hG46]; exact atk_push k_n16
  have k_n24 : AtK G46 (gn G8) 9 := by rw [hG46]; exact atk_push k_n24
  have k_n32 : AtK G46 (gn G12) 9 := by rw [hG46]; exact atk_push k_n32
  have k_n46 : AtK G46 (gn G16) 9 := by rw [hG46]; exact atk_push k_n46
  have k_n55 : AtK G46 (gn G21) 9 := by rw [hG46]; exact atk_push k_n55
  have k_n64 : AtK G46 (gn G25) 9 := by rw [hG46]; exact atk_push k_n64
  have k_n72 : AtK G46 (gn G29) 9 := by rw [hG46]; exact atk_push k_n72
  have k_n80 : AtK G46 (gn G33) 9 := by rw [hG46]; exact atk_push k_n80
  have k_n89 : AtK G46 (gn G37) 9 := by rw [hG46]; exact atk_push k_n89
  have k_n97 : AtK G46 (gn G41) 9 := by rw [hG46]; exact atk_push k_n97
  have k_n105 : AtK G46 (gn G45) 9 := by rw [hG46]; exact atk_new
  have e_n105 : ad48 (gn G45) = a_n105 := by rw [had48]; exact ead_new
  have cl : Cl G46 := by rw [hG46]; exact cl.push
  refine y_putR (ty := tyX8 22) hx hb ht0 u_X8 tyX8 tyX8_ok nmX8 hown hK hP hD hS e_th e_n105 (k_th).1 (ce8 (k_th).2) rfl 22 (by decide) (ht0 _ m_FL_X8_49) rfl rfl hin rfl (by decide +kernel) rfl rfl (Nat.le_of_ble_eq_true rfl) (by rw [(k_th).2]; rfl) dX8_init_107 (fun H locs hP hD hS => ?_)
  obtain ⟨G49, hG49⟩ : ∃ z, z = gSet G46 0 22 (gn G45) := ⟨_, rfl⟩
  have q_G49 : G49 = x8_G49 := by rw [hG49, q_G46, q_G45]; rfl
  rw [← hG49] at hP hD
  have cl : Cl G49 := by rw [hG49]; exact cl.set (k_n105).1
  have hle : gn gM0 ≤ gn G49 := by rw [hG49]; exact hle
  have k_th : AtK G49 0 8 := by rw [hG49]; exact atk_set k_th
  have k_n7 : AtK G49 (gn gM0) 10 := by rw [hG49]; exact atk_set k_n7
  have k_n16 : AtK G49 (gn G4) 10 := by rw [hG49]; exact atk_set k_n16
  have k_n24 : AtK G49 (gn G8) 9 := by rw [hG49]; exact atk_set k_n24
  have k_n32 : AtK G49 (gn G12) 9 := by rw [hG49]; exact atk_set k_n32
  have k_n46 : AtK G49 (gn G16) 9 := by rw [hG49]; exact atk_set k_n46
  have k_n55 : AtK G49 (gn G21) 9 := by rw [hG49]; exact atk_set k_n55
  have k_n64 : AtK G49 (gn G25) 9 := by rw [hG49]; exact atk_set k_n64
  have k_n72 : AtK G49 (gn G29) 9 := by rw [hG49]; exact atk_set k_n72
  have k_n80 : AtK G49 (gn G33) 9 := by rw [hG49]; exact atk_set k_n80
  have k_n89 : AtK G49 (gn G37) 9 := by rw [hG49]; exact atk_set k_n89
  have k_n97 : AtK G49 (gn G41) 9 := by rw [hG49]; exact atk_set k_n97
  have k_n105 : AtK G49 (gn G45) 9 := by rw [hG49]; exact atk_set k_n105
  refine lv_aload_n hx hb dX8_init_110 rfl (lv_at hl 0 rfl) ?_
  refine lv_bipush (v := 40) hx hb dX8_init_111 (by decide) ?_
  refine y_newa (N' := 40) hx hb ht0 hK hP hD hS hA cl rfl (by decide) (Nat.le_of_ble_eq_true rfl) (Nat.le_of_ble_eq_true rfl) dX8_init_113 (fun a_n113 H hP hD hS => ?_)
  obtain ⟨G50, hG50⟩ : ∃ z, z = gPush G49 9 40 := ⟨_, rfl⟩
  have q_G50 : G50 = x8_G50 := by rw [hG50, q_G49]; rfl
  obtain ⟨D51, hD51⟩ : ∃ z, z = upA D47 (gn G49) (fun _ => 0) := ⟨_, rfl⟩
  have q_D51 : D51 = x8_D51 := by rw [hD51, q_D47, q_G49]; rfl
  obtain ⟨ad52, had52⟩ : ∃ z, z = va_up ad48 (gn G49) a_n113 := ⟨_, rfl⟩
  rw [← hG50, ← hD51, ← had52] at hP hD
  have e_th : ad52 0 = a_th := by rw [had52]; exact ead k_th e_th
  have e_n7 : ad52 (gn gM0) = a_n7 := by rw [had52]; exact ead k_n7 e_n7
  have e_n16 : ad52 (gn G4) = a_n16 := by rw [had52]; exact ead k_n16 e_n16
  have e_n24 : ad52 (gn G8) = a_n24 := by rw [had52]; exact ead k_n24 e_n24
  have e_n32 : ad52 (gn G12) = a_n32 := by rw [had52]; exact ead k_n32 e_n32
  have e_n46 : ad52 (gn G16) = a_n46 := by rw [had52]; exact ead k_n46 e_n46
  have e_n55 : ad52 (gn G21) = a_n55 := by rw [had52]; exact ead k_n55 e_n55
  have e_n64 : ad52 (gn G25) = a_n64 := by rw [had52]; exact ead k_n64 e_n64
  have e_n72 : ad52 (gn G29) = a_n72 := by rw [had52]; exact ead k_n72 e_n72
  have e_n80 : ad52 (gn G33) = a_n80 := by rw [had52]; exact ead k_n80 e_n80
  have e_n89 : ad52 (gn G37) = a_n89 := by rw [had52]; exact ead k_n89 e_n89
  have e_n97 : ad52 (gn G41) = a_n97 := by rw [had52]; exact ead k_n97 e_n97
  have e_n105 : ad52 (gn G45) = a_n105 := by rw [had52]; exact ead k_n105 e_n105
  have hu : ∀ c, c < gn gM0 → ad52 c = ad c := fun c hc => by rw [had52]; exact (va_up_ne _ _ (Nat.ne_of_lt (Nat.lt_of_lt_of_le hc hle))).trans (hu c hc)
  have hle : gn gM0 ≤ gn G50 := by rw [hG50]; exact Nat.le_succ_of_le hle
  have k_th : AtK G50 0 8 := by rw [hG50]; exact atk_push k_th
  have k_n7 : AtK G50 (gn gM0) 10 := by rw [hG50]; exact atk_push k_n7
  have k_n16 : AtK G50 (gn G4) 10 := by rw [hG50]; exact atk_push k_n16
  have k_n24 : AtK G50 (gn G8) 9 := by rw [hG50]; exact atk_push k_n24
  have k_n32 : AtK G50 (gn G12) 9 := by rw [hG50]; exact atk_push k_n32
  have k_n46 : AtK G50 (gn G16) 9 := by rw [hG50]; exact atk_push k_n46
  have k_n55 : AtK G50 (gn G21) 9 := by rw [hG50]; exact atk_push k_n55
  have k_n64 : AtK G50 (gn G25) 9 := by rw [hG50]; exact atk_push k_n64
  have k_n72 : AtK G50 (gn G29) 9 := by rw [hG50]; exact atk_push k_n72
  have k_n80 : AtK G50 (gn G33) 9 := by rw [hG50]; exact atk_push k_n80
  have k_n89 : AtK G50 (gn G37) 9 := by rw [hG50]; exact atk_push k_n89
  have k_n97 : AtK G50 (gn G41) 9 := by rw [hG50]; exact atk_push k_n97
  have k_n105 : AtK G50 (gn G45) 9 := by rw [hG50]; exact atk_push k_n105
  have k_n113 : AtK G50 (gn G49) 9 := by rw [hG50]; exact atk_new
  have e_n113 : ad52 (gn G49) = a_n113 := by rw [had52]; exact ead_new
  have cl : Cl G50 := by rw [hG50]; exact cl.push
  refine y_putR (ty := tyX8 26) hx hb ht0 u_X8 tyX8 tyX8_ok nmX8 hown hK hP hD hS e_th e_n113 (k_th).1 (ce8 (k_th).2) rfl 26 (by decide) (ht0 _ m_FL_X8_52) rfl rfl hin rfl (by decide +kernel) rfl rfl (Nat.le_of_ble_eq_true rfl) (by rw [(k_th).2]; rfl) dX8_init_115 (fun H locs hP hD hS => ?_)
  obtain ⟨G53, hG53⟩ : ∃ z, z = gSet G50 0 26 (gn G49) := ⟨_, rfl⟩
  have q_G53 : G53 = x8_G53 := by rw [hG53, q_G50, q_G49]; rfl
  rw [← hG53] at hP hD
  have cl : Cl G53 := by rw [hG53]; exact cl.set (k_n113).1
  have hle : gn gM0 ≤ gn G53 := by rw [hG53]; exact hle
  have k_th : AtK G53 0 8 := by rw [hG53]; exact atk_set k_th
  have k_n7 : AtK G53 (gn gM0) 10 := by rw [hG53]; exact atk_set k_n7
  have k_n16 : AtK G53 (gn G4) 10 := by rw [hG53]; exact atk_set k_n16
  have k_n24 : AtK G53 (gn G8) 9 := by rw [hG53]; exact atk_set k_n24
  have k_n32 : AtK G53 (gn G12) 9 := by rw [hG53]; exact atk_set k_n32
  have k_n46 : AtK G53 (gn G16) 9 := by rw [hG53]; exact atk_set k_n46
  have k_n55 : AtK G53 (gn G21) 9 := by rw [hG53]; exact atk_set k_n55
  have k_n64 : AtK G53 (gn G25) 9 := by rw [hG53]; exact atk_set k_n64
  have k_n72 : AtK G53 (gn G29) 9 := by rw [hG53]; exact atk_set k_n72
  have k_n80 : AtK G53 (gn G33) 9 := by rw [hG53]; exact atk_set k_n80
  have k_n89 : AtK G53 (gn G37) 9 := by rw [hG53]; exact atk_set k_n89
  have k_n97 : AtK G53 (gn G41) 9 := by rw [hG53]; exact atk_set k_n97
  have k_n105 : AtK G53 (gn G45) 9 := by rw [hG53]; exact atk_set k_n105
  have k_n113 : AtK G53 (gn G49) 9 := by rw [hG53]; exact atk_set k_n113
  refine lv_aload_n hx hb dX8_init_118 rfl (lv_at hl 0 rfl) ?_
  refine lv_bipush (v := 40) hx hb dX8_init_119 (by decide) ?_
  refine y_newa (N' := 40) hx hb ht0 hK hP hD hS hA cl rfl (by decide) (Nat.le_of_ble_eq_true rfl) (Nat.le_of_ble_eq_true rfl) dX8_init_121 (fun a_n121 H hP hD hS => ?_)
  obtain ⟨G54, hG54⟩ : ∃ z, z = gPush G53 9 40 := ⟨_, rfl⟩
  have q_G54 : G54 = x8_G54 := by rw [hG54, q_G53]; rfl
  obtain ⟨D55, hD55⟩ : ∃ z, z = upA D51 (gn G53) (fun _ => 0) := ⟨_, rfl⟩
  have q_D55 : D55 = x8_D55 := by rw [hD55, q_D51, q_G53]; rfl
  obtain ⟨ad56, had56⟩ : ∃ z, z = va_up ad52 (gn G53) a_n121 := ⟨_, rfl⟩
  rw [← hG54, ← hD55, ← had56] at hP hD
  have e_th : ad56 0 = a_th := by rw [had56]; exact ead k_th e_th
  have e_n7 : ad56 (gn gM0) = a_n7 := by rw [had56]; exact ead k_n7 e_n7
  have e_n16 : ad56 (gn G4) = a_n16 := by rw [had56]; exact ead k_n16 e_n16
  have e_n24 : ad56 (gn G8) = a_n24 := by rw [had56]; exact ead k_n24 e_n24
  have e_n32 : ad56 (gn G12) = a_n32 := by rw [had56]; exact ead k_n32 e_n32
  have e_n46 : ad56 (gn G16) = a_n46 := by rw [had56]; exact ead k_n46 e_n46
  have e_n55 : ad56 (gn G21) = a_n55 := by rw [had56]; exact ead k_n55 e_n55
  have e_n64 : ad56 (gn G25) = a_n64 := by rw [had56]; exact ead k_n64 e_n64
  have e_n72 : ad56 (gn G29) = a_n72 := by rw [had56]; exact ead k_n72 e_n72
  have e_n80 : ad56 (gn G33) = a_n80 := by rw [had56]; exact ead k_n80 e_n80
  have e_n89 : ad56 (gn G37) = a_n89 := by rw [had56]; exact ead k_n89 e_n89
  have e_n97 : ad56 (gn G41) = a_n97 := by rw [had56]; exact ead k_n97 e_n97
  have e_n105 : ad56 (gn G45) = a_n105 := by rw [had56]; exact ead k_n105 e_n105
  have e_n113 : ad56 (gn G49) = a_n113 := by rw [had56]; exact ead k_n113 e_n113
  have hu : ∀ c, c < gn gM0 → ad56 c = ad c := fun c hc => by rw [had56]; exact (va_up_ne _ _ (Nat.ne_of_lt (Nat.lt_of_lt_of_le hc hle))).trans (hu c hc)
  have hle : gn gM0 ≤ gn G54 := by rw [hG54]; exact Nat.le_succ_of_le hle
  have k_th : AtK G54 0 8 := by rw [hG54]; exact atk_push k_th
  have k_n7 : AtK G54 (gn gM0) 10 := by rw [hG54]; exact atk_push k_n7
  have k_n16 : AtK G54 (gn G4) 10 := by rw [hG54]; exact atk_push k_n16
  have k_n24 : AtK G54 (gn G8) 9 := by rw [hG54]; exact atk_push k_n24
  have k_n32 : AtK G54 (gn G12) 9 := by rw [hG54]; exact atk_push k_n32
  have k_n46 : AtK G54 (gn G16) 9 := by rw [hG54]; exact atk_push k_n46
  have k_n55 : AtK G54 (gn G21) 9 := by rw [hG54]; exact atk_push k_n55
  have k_n64 : AtK G54 (gn G25) 9 := by rw [hG54]; exact atk_push k_n64
  have k_n72 : AtK G54 (gn G29) 9 := by rw [hG54]; exact atk_push k_n72
  have k_n80 : AtK G54 (gn G33) 9 := by rw [hG54]; exact atk_push k_n80
  have k_n89 : AtK G54 (gn G37) 9 := by rw [hG54]; exact atk_push k_n89
  have k_n97 : AtK G54 (gn G41) 9 := by rw [hG54]; exact atk_push k_n97
  have k_n105 : AtK G54 (gn G45) 9 := by rw [hG54]; exact atk_push k_n105
  have k_n113 : AtK G54 (gn G49) 9 := by rw [hG54]; exact atk_push k_n113
  have k_n121 : AtK G54 (gn G53) 9 := by rw [hG54]; exact atk_new
  have e_n121 : ad56 (gn G53) = a_n121 := by rw [had56]; exact ead_new
  have cl : Cl G54 := by rw [hG54]; exact cl.push
  refine y_putR (ty := tyX8 27) hx hb ht0 u_X8 tyX8 tyX8_ok nmX8 hown hK hP hD hS e_th e_n121 (k_th).1 (ce8 (k_th).2) rfl 27 (by decide) (ht0 _ m_FL_X8_55) rfl rfl hin rfl (by decide +kernel) rfl rfl (Nat.le_of_ble_eq_true rfl) (by rw [(k_th).2]; rfl) dX8_init_123 (fun H locs hP hD hS => ?_)
  obtain ⟨G57, hG57⟩ : ∃ z, z = gSet G54 0 27 (gn G53) := ⟨_, rfl⟩
  have q_G57 : G57 = x8_G57 := by rw [hG57, q_G54, q_G53]; rfl
  rw [← hG57] at hP hD
  have cl : Cl G57 := by rw [hG57]; exact cl.set (k_n121).1
  have hle : gn gM0 ≤ gn G57 := by rw [hG57]; exact hle
  have k_th : AtK G57 0 8 := by rw [hG57]; exact atk_set k_th
  have k_n7 : AtK G57 (gn gM0) 10 := by rw [hG57]; exact atk_set k_n7
  have k_n16 : AtK G57 (gn G4) 10 := by rw [hG57]; exact atk_set k_n16
  have k_n24 : AtK G57 (gn G8) 9 := by rw [hG57]; exact atk_set k_n24
  have k_n32 : AtK G57 (gn G12) 9 := by rw [hG57]; exact atk_set k_n32
  have k_n46 : AtK G57 (gn G16) 9 := by rw [hG57]; exact atk_set k_n46
  have k_n55 : AtK G57 (gn G21) 9 := by rw [hG57]; exact atk_set k_n55
  have k_n64 : AtK G57 (gn G25) 9 := by rw [hG57]; exact atk_set k_n64
  have k_n72 : AtK G57 (gn G29) 9 := by rw [hG57]; exact atk_set k_n72
  have k_n80 : AtK G57 (gn G33) 9 := by rw [hG57]; exact atk_set k_n80
  have k_n89 : AtK G57 (gn G37) 9 := by rw [hG57]; exact atk_set k_n89
  have k_n97 : AtK G57 (gn G41) 9 := by rw [hG57]; exact atk_set k_n97
  have k_n105 : AtK G57 (gn G45) 9 := by rw [hG57]; exact atk_set k_n105
  have k_n113 : AtK G57 (gn G49) 9 := by rw [hG57]; exact atk_set k_n113
  have k_n121 : AtK G57 (gn G53) 9 := by rw [hG57]; exact atk_set k_n121
  rw [q_G57, q_D55] at hP hD
  rw [x8_MG] at hP hD
  have hu : ∀ c, c < gn gM0 → ad56 c = ad c := hu
  have e_th : ad56 0 = a_th := e_th
  generalize ad56 = adz at hP hD hu e_th
  refine lv_aload_n hx hb dX8_init_126 rfl (lv_at hl 0 rfl) ?_
  refine lv_iconst (v := 0) hx hb dX8_init_127 (by decide) ?_
  refine lv_bipush (v := 10) hx hb dX8_init_128 (by decide) ?_
  refine lv_bipush (v := 11) hx hb dX8_init_130 (by decide) ?_
  refine lv_bipush (v := 18) hx hb dX8_init_132 (by decide) ?_
  refine lv_bipush (v := 19) hx hb dX8_init_134 (by decide) ?_
  refine y_callVv (As := [.int 0, .int 10, .int 11, .int 18, .int 19]) ⟨hx, hb, hml, hown, ht0⟩ hK hT hP hD hS e_th (c_X8_setCodes l dd Y t adz (wD_ij hD) F 0 10 11 18 19 _ _ _ hs1) m_ML_X8_58 sv_X8_setCodes hd_X8_setCodes rfl rfl ⟨Nat.le_of_ble_eq_true rfl, Nat.le_of_ble_eq_true rfl⟩ mk_0.1 (ce8 mk_0.2) rfl rfl hl.1 rfl (Nat.le_of_ble_eq_true rfl) dX8_init_136 ⟨Nat.le_of_ble_eq_true rfl, Nat.le_of_ble_eq_true rfl⟩ (fun H locs hP hk1 hS => ?_)
  have hD : va_D (aA gM0 ad sz) (wW Y MG adz E1) := wD_any hD
  refine lv_aload_n hx hb dX8_init_139 rfl (lv_at hl 0 rfl) ?_
  refine lv_iconst (v := 4) hx hb dX8_init_140 (by decide) ?_
  refine lv_bipush (v := 14) hx hb dX8_init_141 (by decide) ?_
  refine lv_bipush (v := 15) hx hb dX8_init_143 (by decide) ?_
  refine lv_bipush (v := 22) hx hb dX8_init_145 (by decide) ?_
  refine lv_bipush (v := 23) hx hb dX8_init_147 (by decide) ?_
  refine y_callVv (As := [.int 4, .int 14, .int 15, .int 22, .int 23]) ⟨hx, hb, hml, hown, ht0⟩ hK hT hP hD hS e_th (c_X8_setCodes l dd Y t adz (wD_ij hD) F 4 14 15 22 23 _ _ _ hs2) m_ML_X8_58 sv_X8_setCodes hd_X8_setCodes rfl rfl ⟨Nat.le_of_ble_eq_true rfl, Nat.le_of_ble_eq_true rfl⟩ mk_0.1 (ce8 mk_0.2) rfl rfl hl.1 rfl (Nat.le_of_ble_eq_true rfl) dX8_init_149 ⟨Nat.le_of_ble_eq_true rfl, Nat.le_of_ble_eq_true rfl⟩ (fun H locs hP hk1 hS => ?_)
  have hD : va_D (aA gM0 ad sz) (wW Y MG adz E2) := wD_any hD
  refine lv_aload_n hx hb dX8_init_152 rfl (lv_at hl 0 rfl) ?_
  refine lv_bipush (v := 8) hx hb dX8_init_153 (by decide) ?_
  refine lv_bipush (v := 9) hx hb dX8_init_155 (by decide) ?_
  refine lv_bipush (v := 25) hx hb dX8_init_157 (by decide) ?_
  refine lv_bipush (v := 26) hx hb dX8_init_159 (by decide) ?_
  refine lv_bipush (v := 27) hx hb dX8_init_161 (by decide) ?_
  refine y_callVv (As := [.int 8, .int 9, .int 25, .int 26, .int 27]) ⟨hx, hb, hml, hown, ht0⟩ hK hT hP hD hS e_th (c_X8_setCodes l dd Y t adz (wD_ij hD) F 8 9 25 26 27 _ _ _ hs3) m_ML_X8_58 sv_X8_setCodes hd_X8_setCodes rfl rfl ⟨Nat.le_of_ble_eq_true rfl, Nat.le_of_ble_eq_true rfl⟩ mk_0.1 (ce8 mk_0.2) rfl rfl hl.1 rfl (Nat.le_of_ble_eq_true rfl) dX8_init_163 ⟨Nat.le_of_ble_eq_true rfl, Nat.le_of_ble_eq_true rfl⟩ (fun H locs hP hk1 hS => ?_)
  have hD : va_D (aA gM0 ad sz) (wW Y MG adz E3) := wD_any hD
  refine lv_aload_n hx hb dX8_init_166 rfl (lv_at hl 0 rfl) ?_
  refine lv_bipush (v := 12) hx hb dX8_init_167 (by decide) ?_
  refine lv_bipush (v := 13) hx hb dX8_init_169 (by decide) ?_
  refine lv_bipush (v := 29) hx hb dX8_init_171 (by decide) ?_
  refine lv_bipush (v := 30) hx hb dX8_init_173 (by decide) ?_
  refine lv_bipush (v := 21) hx hb dX8_init_175 (by decide) ?_
  refine y_callVv (As := [.int 12, .int 13, .int 29, .int 30, .int 21]) ⟨hx, hb, hml, hown, ht0⟩ hK hT hP hD hS e_th (c_X8_setCodes l dd Y t adz (wD_ij hD) F 12 13 29 30 21 _ _ _ hs4) m_ML_X8_58 sv_X8_setCodes hd_X8_setCodes rfl rfl ⟨Nat.le_of_ble_eq_true rfl, Nat.le_of_ble_eq_true rfl⟩ mk_0.1 (ce8 mk_0.2) rfl rfl hl.1 rfl (Nat.le_of_ble_eq_true rfl) dX8_init_177 ⟨Nat.le_of_ble_eq_true rfl, Nat.le_of_ble_eq_true rfl⟩ (fun H locs hP hk1 hS => ?_)
  have hD : va_D (aA gM0 ad sz) (wW Y MG adz E4) := wD_any hD
  refine lv_iconst (v := 0) hx hb dX8_init_180 (by decide) ?_
  refine lv_istore_n (lv' := [(1, .int 0), (0, .ref a_th)]) hx hb dX8_init_181 rfl hl (by decide) rfl (fun ls hl => ?_)
  have hcE : ∀ D : Mm, D 3 = E4 3 → ∀ i, i < 16 → inB (D 3 i) 32 = true := fun D h i hi => by rw [h]; exact hs5 i hi
  have L203 : ∀ (n i : Nat) (x1 : Int32) (D : Mm) (H : Heap) (locs : List Loc) (ls : Array Slot), i + n = 16 → x1 = nI i → D 3 = E4 3 → m8b n i D = dM → va_P dd vwCl (wW Y MG adz D) H → va_D (aA gM0 ad sz) (wW Y MG adz D) → va_S (aA gM0 ad sz) s.heap H locs → lv_has ls 2 [(0, .ref a_th), (1, .int x1)] → W p l e (headSpec wzX8_init rm_X8_init).room s m ([.ref (ad 0)].toArray) below meth c H locs 14 142000 (MQ below (Qa dd Y gM0 ad sz MG dM) ([.ref (ad 0)].toArray) s 14 142000 (aA gM0 ad sz)) (F0 m 203 ls []) := by
    intro n
    induction n with
    | zero =>
      intro i x1 D H locs ls hi ex h3 hm hP hD hS hl
      have hi : i = 16 := by omega
      subst hi
      refine lv_iload_n hx hb dX8_init_203 rfl (lv_at hl 1 rfl) ?_
      refine lv_bipush (v := 16) hx hb dX8_init_204 (by decide) ?_
      refine lv_icmp_ge (tgt := 227) hx hb dX8_init_206 (by decide) (fun c1 => ?_) (fun c1 => ?_)
      · have hm : D = dM := hm
        subst hm
        exact y_vret hx hb hr hlocks hP hD hS hu dX8_init_227
      · exact absurd (by rw [ex]; decide) c1
    | succ n ih =>
      intro i x1 D H locs ls hi ex h3 hm hP hD hS hl
      refine lv_iload_n hx hb dX8_init_203 rfl (lv_at hl 1 rfl) ?_
      refine lv_bipush (v := 16) hx hb dX8_init_204 (by decide) ?_
      refine lv_icmp_ge (tgt := 227) hx hb dX8_init_206 (by decide) (fun c1 => ?_) (fun c1 => ?_)
      · exact absurd (show nI 16 ≤ nI i from by rw [← ex]; exact c1) (nI_ge (by omega) (by omega))
      · subst ex
        refine lv_aload_n hx hb dX8_init_209 rfl (lv_at hl 0 rfl) ?_
        refine y_get hx hb ht0 u_X8 hown hK hP e_th mk_0.1 (ce8 mk_0.2) rfl 3 (by decide) (ht0 _ m_FL_X8_21) rfl (rfv (G := MG) (c := 0) (k := 3) (c' := 4) rfl) dX8_init_210 ?_
        refine lv_aload_n hx hb dX8_init_213 rfl (lv_at hl 0 rfl) ?_
        refine y_get hx hb ht0 u_X8 hown hK hP e_th mk_0.1 (ce8 mk_0.2) rfl 2 (by decide) (ht0 _ m_FL_X8_17) rfl (rfv (G := MG) (c := 0) (k := 2) (c' := 3) rfl) dX8_init_214 ?_
        refine lv_iload_n hx hb dX8_init_217 rfl (lv_at hl 1 rfl) ?_
        refine x_ald hx hb hK hP mk_3 (in_nI (show i < 16 by omega) (by decide)) dX8_init_218 ?_
        rw [nI_clamp (show i < 2 ^ 31 by omega)]
        refine lv_iload_n hx hb dX8_init_219 rfl (lv_at hl 1 rfl) ?_
        refine y_ast hx hb hK hP hD hS mk_4 (hcE D h3 i (by omega)) dX8_init_220 (fun H locs hP hD hS => ?_)
        refine lv_iinc (v := nI i + 1) (lv' := [(1, .int (nI i + 1)), (0, .ref a_th)]) hx hb dX8_init_221 hl (k := 1) rfl rfl (by decide) rfl (fun ls hl => ?_)
        refine lv_goto (tgt := 203) hx hb dX8_init_224 (by decide) ?_
        exact ih (i + 1) (nI i + 1) _ H locs ls (by omega) (nI_1 i) (by rw [up2_o (by decide)]; exact h3) hm hP hD hS (lv_sub hl [1, 0] rfl)
  have L182 : ∀ (n i : Nat) (x1 : Int32) (D : Mm) (H : Heap) (locs : List Loc) (ls : Array Slot), i + n = 32 → x1 = nI i → D 3 = E4 3 → m8b 16 0 (m8a n i D) = dM → va_P dd vwCl (wW Y MG adz D) H → va_D (aA gM0 ad sz) (wW Y MG adz D) → va_S (aA gM0 ad sz) s.heap H locs → lv_has ls 2 [(0, .ref a_th), (1, .int x1)] → W p l e (headSpec wzX8_init rm_X8_init).room s m ([.ref (ad 0)].toArray) below meth c H locs 14 142000 (MQ below (Qa dd Y gM0 ad sz MG dM) ([.ref (ad 0)].toArray) s 14 142000 (aA gM0 ad sz)) (F0 m 182 ls []) := by
    intro n
    induction n with
    | zero =>
      intro i x1 D H locs ls hi ex h3 hm hP hD hS hl
      have hi : i = 32 := by omega
      subst hi
      refine lv_iload_n hx hb dX8_init_182 rfl (lv_at hl 1 rfl) ?_
      refine lv_bipush (v := 32) hx hb dX8_init_183 (by decide) ?_
      refine lv_icmp_ge (tgt := 201) hx hb dX8_init_185 (by decide) (fun c1 => ?_) (fun c1 => ?_)
      · refine lv_iconst (v := 0) hx hb dX8_init_201 (by decide) ?_
        refine lv_istore_n (lv' := [(1, .int 0), (0, .ref a_th)]) hx hb dX8_init_202 rfl hl (by decide) rfl (fun ls hl => ?_)
        exact L203 16 0 0 D H locs ls rfl nI_0.symm h3 hm hP hD hS (lv_sub hl [1, 0] rfl)
      · exact absurd (by rw [ex]; decide) c1
    | succ n ih =>
      intro i x1 D H locs ls hi ex h3 hm hP hD hS hl
      refine lv_iload_n hx hb dX8_init_182 rfl (lv_at hl 1 rfl) ?_
      refine lv_bipush (v := 32) hx hb dX8_init_183 (by decide) ?_
      refine lv_icmp_ge (tgt := 201) hx hb dX8_init_185 (by decide) (fun c1 => ?_) (fun c1 => ?_)
      · exact absurd (show nI 32 ≤ nI i from by rw [← ex]; exact c1) (nI_ge (by omega) (by omega))
      · subst ex
        refine lv_aload_n hx hb dX8_init_188 rfl (lv_at hl 0 rfl) ?_
        refine y_get hx hb ht0 u_X8 hown hK hP e_th mk_0.1 (ce8 mk_0.2) rfl 3 (by decide) (ht0 _ m_FL_X8_21) rfl (rfv (G := MG) (c := 0) (k := 3) (c' := 4) rfl) dX8_init_189 ?_
        refine lv_iload_n hx hb dX8_init_192 rfl (lv_at hl 1 rfl) ?_
        refine lv_iconst (v := (-1)) hx hb dX8_init_193 (by decide) ?_
        refine y_ast hx hb hK hP hD hS mk_4 (in_nI (show i < 32 by omega) (by decide)) dX8_init_194 (fun H locs hP hD hS => ?_)
        rw [nI_clamp (show i < 2 ^ 31 by omega)] at hP hD
        refine lv_iinc (v := nI i + 1) (lv' := [(1, .int (nI i + 1)), (0, .ref a_th)]) hx hb dX8_init_195 hl (k := 1) rfl rfl (by decide) rfl (fun ls hl => ?_)
        refine lv_goto (tgt := 182) hx hb dX8_init_198 (by decide) ?_
        exact ih (i + 1) (nI i + 1) _ H locs ls (by omega) (nI_1 i) (by rw [up2_o (by decide)]; exact h3) hm hP hD hS (lv_sub hl [1, 0] rfl)
  refine W.widen (k := 14) (n := 142000) (Nat.le_of_ble_eq_true rfl) (Nat.le_of_ble_eq_true rfl) ?_
  exact L182 32 0 0 E4 H locs ls rfl nI_0.symm rfl hsd hP hD hS (lv_sub hl [1, 0] rfl)
