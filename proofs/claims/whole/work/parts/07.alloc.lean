/-! ALLOC: graphs that grow, rows for constructors -/
def gPush (G : Gr) (k N : Nat) : Gr := (gn G + 1, fun c => if c = gn G then k else gK G c, fun c => if c = gn G then N else gN G c, fun c i => if c = gn G then none else gP G c i)
def gSet (G : Gr) (c k v : Nat) : Gr := (gn G, gK G, gN G, fun c' i => if c' = c ∧ i = k then some v else gP G c' i)
def Cl (G : Gr) : Prop := ∀ c k v, c < gn G → gP G c k = some v → v < gn G
theorem Cl.push {G : Gr} {k N : Nat} (h : Cl G) : Cl (gPush G k N) := by
  intro c i v hc hv
  have hc : c < gn G + 1 := hc
  show v < gn G + 1
  have hv : (if c = gn G then none else gP G c i) = some v := hv
  by_cases e : c = gn G
  · rw [if_pos e] at hv; cases hv
  · rw [if_neg e] at hv
    have := h c i v (by omega) hv
    omega
theorem Cl.set {G : Gr} {c k v : Nat} (h : Cl G) (hv : v < gn G) : Cl (gSet G c k v) := by
  intro c' i w hc hw
  show w < gn G
  have hw : (if c' = c ∧ i = k then some v else gP G c' i) = some w := hw
  by_cases e : c' = c ∧ i = k
  · rw [if_pos e] at hw; cases hw; exact hv
  · rw [if_neg e] at hw; exact h c' i w hc hw
theorem atk_push {G : Gr} {c k k' N : Nat} (h : AtK G c k) : AtK (gPush G k' N) c k := by
  refine ⟨Nat.lt_succ_of_lt h.1, ?_⟩
  show (if c = gn G then k' else gK G c) = k
  rw [if_neg (Nat.ne_of_lt h.1)]
  exact h.2
theorem atk_set {G : Gr} {c k a b v : Nat} (h : AtK G c k) : AtK (gSet G a b v) c k := h
theorem gn_set (G : Gr) (a b v : Nat) : gn (gSet G a b v) = gn G := rfl
theorem gn_push (G : Gr) (k N : Nat) : gn (gPush G k N) = gn G + 1 := rfl
theorem gN_set (G : Gr) (a b v c : Nat) : gN (gSet G a b v) c = gN G c := rfl
theorem atk_new {G : Gr} {k N : Nat} : AtK (gPush G k N) (gn G) k := ⟨Nat.lt_succ_self _, if_pos rfl⟩
theorem ead {G : Gr} {c k q a : Nat} {ad : Nat → Nat} (h : AtK G c k) (e : ad c = a) : va_up ad (gn G) q c = a := by
  rw [va_up_ne _ _ (Nat.ne_of_lt h.1)]; exact e
theorem ead_new {G : Gr} {q : Nat} {ad : Nat → Nat} : va_up ad (gn G) q (gn G) = q := by unfold va_up; rw [if_pos rfl]
theorem gp_push {G : Gr} {c i k N : Nat} {o : Option Nat} (h : c < gn G) (e : gP G c i = o) : gP (gPush G k N) c i = o := by
  show (if c = gn G then none else gP G c i) = o
  rw [if_neg (Nat.ne_of_lt h)]; exact e
theorem gp_set {G : Gr} {c k v : Nat} : gP (gSet G c k v) c k = some v := if_pos ⟨rfl, rfl⟩
theorem gp_ne {G : Gr} {c k v c' i : Nat} {o : Option Nat} (h : ¬ (c' = c ∧ i = k)) (e : gP G c' i = o) : gP (gSet G c k v) c' i = o := by
  show (if c' = c ∧ i = k then some v else gP G c' i) = o
  rw [if_neg h]; exact e
theorem wW_push {Y : Yc} {G : Gr} {ad : Nat → Nat} {D : Mm} {k N q : Nat} {e : va_E} (cl : Cl G) (he : cE Y k N (fun _ => none) (fun _ => 0) = e) : wW Y G ad D ++ [(q, e)] = wW Y (gPush G k N) (va_up ad (gn G) q) (upA D (gn G) (fun _ => 0)) := by
  subst he
  show (List.range (gn G)).map _ ++ [_] = (List.range (gn G + 1)).map _
  rw [List.range_succ, List.map_append]
  congr 1
  · apply List.map_congr_left
    intro c hc
    have hc : c < gn G := List.mem_range.mp hc
    have hne : c ≠ gn G := Nat.ne_of_lt hc
    have h1 : va_up ad (gn G) q c = ad c := va_up_ne _ _ hne
    have h2 : gK (gPush G k N) c = gK G c := if_neg hne
    have h3 : gN (gPush G k N) c = gN G c := if_neg hne
    have h4 : pE (gPush G k N) (va_up ad (gn G) q) c = pE G ad c := by
      funext i
      unfold pE
      rw [show gP (gPush G k N) c i = gP G c i from if_neg hne]
      cases hv : gP G c i with
      | none => rfl
      | some v =>
        have := cl c i v hc hv
        show some (va_up ad (gn G) q v) = some (ad v)
        rw [va_up_ne _ _ (Nat.ne_of_lt this)]
    have h5 : upA D (gn G) (fun _ => 0) c = D c := if_neg hne
    rw [h1, h2, h3, h4, h5]
  · have h1 : va_up ad (gn G) q (gn G) = q := ead_new
    have h2 : gK (gPush G k N) (gn G) = k := if_pos rfl
    have h3 : gN (gPush G k N) (gn G) = N := if_pos rfl
    have h4 : pE (gPush G k N) (va_up ad (gn G) q) (gn G) = fun _ => none := by
      funext i
      unfold pE
      rw [show gP (gPush G k N) (gn G) i = none from if_pos rfl]
      rfl
    have h5 : upA D (gn G) (fun _ => 0) (gn G) = fun _ => 0 := if_pos rfl
    simp only [List.map_cons, List.map_nil]
    rw [h1, h2, h3, h4, h5]
theorem wW_setP {Y : Yc} {G : Gr} {ad : Nat → Nat} {D : Mm} {c k v : Nat} {e : va_E} (h : c < gn G) (he : cE Y (gK G c) (gN G c) (va_up (pE G ad c) k (some (ad v))) (D c) = e) : (wW Y G ad D).set c (ad c, e) = wW Y (gSet G c k v) ad D := by
  subst he
  apply List.ext_getElem?
  intro i
  rw [List.getElem?_set]
  have hpe : ∀ i, pE (gSet G c k v) ad i = if i = c then va_up (pE G ad c) k (some (ad v)) else pE G ad i := by
    intro i
    by_cases hi : i = c
    · rw [if_pos hi, hi]
      funext j
      unfold pE va_up
      by_cases hj : j = k
      · rw [if_pos hj, show gP (gSet G c k v) c j = some v from if_pos ⟨rfl, hj⟩]; rfl
      · rw [if_neg hj, show gP (gSet G c k v) c j = gP G c j from if_neg (fun q => hj q.2)]
    · rw [if_neg hi]
      funext j
      unfold pE
      rw [show gP (gSet G c k v) i j = gP G i j from if_neg (fun q => hi q.1)]
  have hn : gn (gSet G c k v) = gn G := rfl
  have hk : gK (gSet G c k v) = gK G := rfl
  have hN : gN (gSet G c k v) = gN G := rfl
  by_cases hi : c = i
  · subst hi
    simp [wW, h, hn, hk, hN, hpe]
  · rw [if_neg hi]
    by_cases hlt : i < gn G
    · have hi' : ¬ i = c := fun q => hi q.symm
      simp [wW, hlt, hn, hk, hN, hpe, hi']
    · simp [wW, hlt, hn]
theorem wD_any {Y : Yc} {A : Nat → Prop} {G : Gr} {ad : Nat → Nat} {D D1 : Mm} (h : va_D A (wW Y G ad D)) : va_D A (wW Y G ad D1) := by
  have key : ∀ (D : Mm) (k : Nat) (q : Nat × va_E), (wW Y G ad D)[k]? = some q → k < gn G ∧ q.1 = ad k := by
    intro D k q hq
    by_cases hn : k < gn G
    · simp [wW, hn] at hq
      exact ⟨hn, by rw [← hq]⟩
    · simp [wW, hn] at hq
  have at1 : ∀ k, k < gn G → ∃ e, (wW Y G ad D)[k]? = some (ad k, e) := fun k hk => ⟨_, wW_at hk rfl⟩
  refine ⟨fun i j p q hp hq e => ?_, fun k q hq => ?_⟩
  · obtain ⟨a1, a2⟩ := key D1 i p hp
    obtain ⟨b1, b2⟩ := key D1 j q hq
    obtain ⟨e1, h1⟩ := at1 i a1
    obtain ⟨e2, h2⟩ := at1 j b1
    exact h.1 i j _ _ h1 h2 (by show ad i = ad j; rw [← a2, ← b2, e])
  · obtain ⟨a1, a2⟩ := key D1 k q hq
    obtain ⟨e1, h1⟩ := at1 k a1
    rw [a2]
    exact h.2 k _ h1
theorem wD_ij {Y : Yc} {A : Nat → Prop} {G : Gr} {ad : Nat → Nat} {D : Mm} (h : va_D A (wW Y G ad D)) : Ij G ad := by
  intro i j hi hj e
  exact h.1 i j _ _ (wW_at hi rfl) (wW_at hj rfl) e
theorem wD_A {Y : Yc} {A : Nat → Prop} {G : Gr} {ad : Nat → Nat} {D : Mm} (h : va_D A (wW Y G ad D)) : ∀ q, pA G ad q → A q := by
  rintro q ⟨c, hc, rfl⟩
  exact h.2 c _ (wW_at hc rfl)
def aA (G : Gr) (ad : Nat → Nat) (sz : Nat) : Nat → Prop := fun q => pA G ad q ∨ sz ≤ q
theorem wD_self {Y : Yc} {G : Gr} {ad : Nat → Nat} {D : Mm} {sz : Nat} (ij : Ij G ad) : va_D (aA G ad sz) (wW Y G ad D) := (wW_D ij).weaken (fun _ _ _ h => Or.inl h)
theorem Sta.narrow {t : Ts3} {A B : Nat → Prop} {U : State} (hAB : ∀ q, B q → A q) (h : Sta t A U) : Sta t B U := by
  obtain ⟨a1, a2, a3, a4, a5, a6, a7⟩ := h
  exact ⟨a1.narrow hAB, a2.narrow hAB, a3.narrow hAB, a4.narrow hAB, a5.narrow hAB, a6.narrow hAB, a7⟩
/-- a constructor's start -/
def Wa (dd : Dd) (Y : Yc) (t : Ts3) (G : Gr) (ad : Nat → Nat) (D : Mm) (sz : Nat) (U : State) : Prop := U.heap.size = sz ∧ va_P dd vwCl (wW Y G ad D) U.heap ∧ va_K dd vwCl (tyL Y) U ∧ Sta t (aA G ad sz) U ∧ va_AO RX5 U
theorem Wa.blind {dd : Dd} {Y : Yc} {t : Ts3} {G : Gr} {ad : Nat → Nat} {D : Mm} {sz : Nat} {av : List Value} : FrameBlind (va_Pc av (Wa dd Y t G ad D sz)) := by
  intro a U g mk h
  obtain ⟨h1, h0, h2, h3, h4, h5⟩ := h
  exact ⟨h1, h0, h2, va_K.moved (u := U) (U := U.calling g mk a) (Vm.Alike.refl U.vm) h3, h4.same rfl rfl, va_AO.moved (u := U) (U := U.calling g mk a) (Vm.Alike.refl U.vm) h5⟩
/-- a constructor's end: the graph G', the memory D'; no address of before moves -/
abbrev Qa (dd : Dd) (Y : Yc) (G : Gr) (ad : Nat → Nat) (sz : Nat) (G' : Gr) (D' : Mm) : Array Value → State → Outcome → State → Prop := va_Qv (fun (u : Nat → Nat) => ∀ c, c < gn G → u c = ad c) (fun u t => va_P dd vwCl (wW Y G' u D') t.heap ∧ va_D (aA G ad sz) (wW Y G' u D')) (aA G ad sz)
theorem y_one {cA : ClassId} {Y : Yc} {dd : Dd} {s : State} (hK : va_K dd vwCl (tyL Y ++ [(cA, .int)]) s) : cA = Y.1 := by
  have h1 := (hK.2 0 (Y.1, .int) rfl).2
  have h2 := (hK.2 3 (cA, .int) rfl).2
  have e1 : s.vm.findClass ("[" ++ (FieldType.int).toString) = some Y.1 := h1
  have e2 : s.vm.findClass ("[" ++ (FieldType.int).toString) = some cA := h2
  rw [e1] at e2
  exact (Option.some.inj e2).symm
theorem y_oneZ {cA : ClassId} {Y : Yc} {dd : Dd} {s : State} (hK : va_K dd vwCl (tyL Y ++ [(cA, .boolean)]) s) : cA = Y.2.1 := by
  have h1 := (hK.2 1 (Y.2.1, .boolean) rfl).2
  have h2 := (hK.2 3 (cA, .boolean) rfl).2
  have e1 : s.vm.findClass ("[" ++ (FieldType.boolean).toString) = some Y.2.1 := h1
  have e2 : s.vm.findClass ("[" ++ (FieldType.boolean).toString) = some cA := h2
  rw [e1] at e2
  exact (Option.some.inj e2).symm
theorem y_oneR {cA : ClassId} {Y : Yc} {dd : Dd} {s : State} (hK : va_K dd vwCl (tyL Y ++ [(cA, .object RX5)]) s) : cA = Y.2.2 := by
  have h1 := (hK.2 2 (Y.2.2, .object RX5) rfl).2
  have h2 := (hK.2 3 (cA, .object RX5) rfl).2
  obtain ⟨_, _, _, _, _, e1⟩ := h1
  obtain ⟨_, _, _, _, _, e2⟩ := h2
  rw [e1] at e2
  exact (Option.some.inj e2).symm
section Y1
variable {p : Program} {l : Launch} {e : Env} {R : Room} {s : State} {m : MethodId} {args : Array Value} {below : List Frame} {meth : Method} {c : Code} {H : Heap} {locs : List Loc} {cells slots : Nat} {Q : State → Prop} {cc : ByteArray} {pc : Nat} {ls : Array Slot} {rest st0 : List Value} {dd : Dd} {Y : Yc} {t : Ts3} {G : Gr} {ad : Nat → Nat} {D : Mm} {A : Nat → Prop}
theorem y_newa (hx : p.tables.exec = Jvm.exec) (hb : c.code = cc) (ht0 : ∀ w ∈ W0, w.before args s = true) (hK : va_K dd vwCl (tyL Y) s) (hP : va_P dd vwCl (wW Y G ad D) H) (hD : va_D A (wW Y G ad D)) (hS : va_S A s.heap H locs) (hA : ∀ q, s.heap.size ≤ q → A q) (cl : Cl G) {n : Int32} {N' : Nat} (hn : n = nI N') (hlt : N' ≤ 100000) (hcells : cells + 1 ≤ R.cells) (hslots : slots + N' ≤ R.slots) (hdg : decode cc pc = .ok (.newarray .int, 2))
    (kk : ∀ (q : Nat) (H1 : Heap), va_P dd vwCl (wW Y (gPush G 9 N') (va_up ad (gn G) q) (upA D (gn G) (fun _ => 0))) H1 → va_D A (wW Y (gPush G 9 N') (va_up ad (gn G) q) (upA D (gn G) (fun _ => 0))) → va_S A s.heap H1 locs → W p l e R s m args below meth c H1 locs (cells + 1) (slots + N') Q (F0 m (pc + 2) ls (.ref q :: rest))) : W p l e R s m args below meth c H locs cells slots Q (F0 m pc ls (.int n :: rest)) := by
  subst hn
  refine va_newa (atype := .int) (ty := .int) (a0 := (N', .inl (fun _ => 0))) hx hb (ht0 _ m_AC_int) rfl hK hP hD hS hA (fun cA => rfl) (nI_pos (by omega)) (nI_clamp (by omega)) (by show N' * 4 ≤ 536870912; omega) hcells hslots hdg (fun q cA H1 hK1 hP1 hD1 hS1 => ?_)
  have hc := y_one hK1
  subst hc
  rw [wW_push (Y := Y) (ad := ad) (D := D) (q := q) (k := 9) (N := N') (e := .inl (Y.1, N', .inl (fun _ => 0))) cl rfl] at hP1 hD1
  exact kk q H1 hP1 hD1 hS1
theorem y_newz (hx : p.tables.exec = Jvm.exec) (hb : c.code = cc) (ht0 : ∀ w ∈ W0, w.before args s = true) (hK : va_K dd vwCl (tyL Y) s) (hP : va_P dd vwCl (wW Y G ad D) H) (hD : va_D A (wW Y G ad D)) (hS : va_S A s.heap H locs) (hA : ∀ q, s.heap.size ≤ q → A q) (cl : Cl G) {n : Int32} {N' : Nat} (hn : n = nI N') (hlt : N' ≤ 200000) (hcells : cells + 1 ≤ R.cells) (hslots : slots + N' ≤ R.slots) (hdg : decode cc pc = .ok (.newarray .boolean, 2))
    (kk : ∀ (q : Nat) (H1 : Heap), va_P dd vwCl (wW Y (gPush G 10 N') (va_up ad (gn G) q) (upA D (gn G) (fun _ => 0))) H1 → va_D A (wW Y (gPush G 10 N') (va_up ad (gn G) q) (upA D (gn G) (fun _ => 0))) → va_S A s.heap H1 locs → W p l e R s m args below meth c H1 locs (cells + 1) (slots + N') Q (F0 m (pc + 2) ls (.ref q :: rest))) : W p l e R s m args below meth c H locs cells slots Q (F0 m pc ls (.int n :: rest)) := by
  subst hn
  refine va_newa (atype := .boolean) (ty := .boolean) (a0 := (N', .inl (fun _ => 0))) hx hb (ht0 _ m_AC_boolean) rfl hK hP hD hS hA (fun cA => rfl) (nI_pos (by omega)) (nI_clamp (by omega)) (by show N' * 1 ≤ 536870912; omega) hcells hslots hdg (fun q cA H1 hK1 hP1 hD1 hS1 => ?_)
  have hc := y_oneZ hK1
  subst hc
  rw [wW_push (Y := Y) (ad := ad) (D := D) (q := q) (k := 10) (N := N') (e := .inl (Y.2.1, N', .inl (fun _ => 0))) cl rfl] at hP1 hD1
  exact kk q H1 hP1 hD1 hS1
theorem y_newr (hx : p.tables.exec = Jvm.exec) (hb : c.code = cc) {own : String} {index : Nat} (hown : s.vm.findClass own = some m.cls) (hcl : (Cond.classLink own index RX5).before args s = true) (hov : va_AO RX5 s) (hK : va_K dd vwCl (tyL Y) s) (hP : va_P dd vwCl (wW Y G ad D) H) (hD : va_D A (wW Y G ad D)) (hS : va_S A s.heap H locs) (hA : ∀ q, s.heap.size ≤ q → A q) (cl : Cl G) {n : Int32} {N' : Nat} (hn : n = nI N') (hlt : N' ≤ 100000) (hcells : cells + 1 ≤ R.cells) (hslots : slots + N' ≤ R.slots) (hdg : decode cc pc = .ok (.anewarray index, 3))
    (kk : ∀ (q : Nat) (H1 : Heap), va_P dd vwCl (wW Y (gPush G 11 N') (va_up ad (gn G) q) (upA D (gn G) (fun _ => 0))) H1 → va_D A (wW Y (gPush G 11 N') (va_up ad (gn G) q) (upA D (gn G) (fun _ => 0))) → va_S A s.heap H1 locs → W p l e R s m args below meth c H1 locs (cells + 1) (slots + N') Q (F0 m (pc + 3) ls (.ref q :: rest))) : W p l e R s m args below meth c H locs cells slots Q (F0 m pc ls (.int n :: rest)) := by
  subst hn
  refine va_newq hx hb hown hcl hov hK hP hD hS hA (nI_pos (by omega)) (nI_clamp (by omega)) (by omega) hcells hslots hdg (fun q cA H1 hK1 hP1 hD1 hS1 => ?_)
  have hc := y_oneR hK1
  subst hc
  rw [wW_push (Y := Y) (ad := ad) (D := D) (q := q) (k := 11) (N := N') (e := .inl (Y.2.2, N', .inr (.inr (.inr (.inr (fun _ => none)))))) cl rfl] at hP1 hD1
  exact kk q H1 hP1 hD1 hS1
theorem y_new (hx : p.tables.exec = Jvm.exec) (hb : c.code = cc) {own C : String} {T : u_T} {N ci index : Nat} {Ts : List Cond} (hts : ∀ w ∈ Ts, w.before args s = true) (hin : ∀ w ∈ u_ws C T N, w ∈ Ts) (ty : Nat → FieldType) (hty : ∀ k, k < N → parseFieldDescriptor (T k).2.2.1 = some (ty k)) (hown : s.vm.findClass own = some m.cls) (hcl : (Cond.classLink own index C).before args s = true) (hinst : (Cond.instantiable C N).before args s = true) (hini : (Cond.initialized C).before args s = true)
    (hK : va_K dd vwCl (tyL Y) s) (hP : va_P dd vwCl (wW Y G ad D) H) (hD : va_D A (wW Y G ad D)) (hS : va_S A s.heap H locs) (hA : ∀ q, s.heap.size ≤ q → A q) (cl : Cl G) (hc : vwCl[ci]? = some (C, T, N)) {fs : List Value} (he : cE Y ci 0 (fun _ => none) (fun _ => 0) = .inr (ci, fs)) (hfs : ∀ j, j < N → defaultValue (ty j) = vp_V fs j) (hcells : cells + 1 ≤ R.cells) (hslots : slots + N ≤ R.slots) (hdg : decode cc pc = .ok (.new index, 3))
    (kk : ∀ (q : Nat) (H1 : Heap), va_P dd vwCl (wW Y (gPush G ci 0) (va_up ad (gn G) q) (upA D (gn G) (fun _ => 0))) H1 → va_D A (wW Y (gPush G ci 0) (va_up ad (gn G) q) (upA D (gn G) (fun _ => 0))) → va_S A s.heap H1 locs → W p l e R s m args below meth c H1 locs (cells + 1) (slots + N) Q (F0 m (pc + 3) ls (.ref q :: rest))) : W p l e R s m args below meth c H locs cells slots Q (F0 m pc ls rest) := by
  refine va_new (ci := ci) (fs := fs) hx hb hts hin ty hty hown hcl hinst hini hK hP hD hS hA hc hfs hcells hslots hdg (fun q H1 hP1 hD1 hS1 => ?_)
  rw [wW_push (k := ci) (N := 0) cl he] at hP1 hD1
  exact kk q H1 hP1 hD1 hS1
theorem y_putR (hx : p.tables.exec = Jvm.exec) (hb : c.code = cc) {own ref C : String} {T : u_T} {N ci index : Nat} {Ts : List Cond} (hts : ∀ w ∈ Ts, w.before args s = true) (hin : ∀ w ∈ u_ws C T N, w ∈ Ts) (ty0 : Nat → FieldType) (hty : ∀ k, k < N → parseFieldDescriptor (T k).2.2.1 = some (ty0 k)) (hnm : ∀ a, a < N → ∀ b, b < N → a ≠ b → (T a).2.1 ≠ (T b).2.1) (hown : s.vm.findClass own = some m.cls) (hK : va_K dd vwCl (tyL Y) s) (hP : va_P dd vwCl (wW Y G ad D) H) (hD : va_D A (wW Y G ad D)) (hS : va_S A s.heap H locs) {q0 a0 v va : Nat} (ha : ad q0 = a0) (hv : ad v = va) {fs : List Value} (hn : q0 < gn G) (he : cE Y (gK G q0) (gN G q0) (pE G ad q0) (D q0) = .inr (ci, fs)) (hc : vwCl[ci]? = some (C, T, N)) (k : Nat) (hk : k < N) (hlink : (Cond.fieldLink own index ref (T k).2.1 (T k).2.2.1).before args s = true) (hsame : (T k).1 = ref) (hfin : (T k).2.2.2 = true) (hin2 : meth.name = "<init>") (hdecl : (T k).1 = own) {ty : FieldType} (hd : parseFieldDescriptor (T k).2.2.1 = some ty) (hnr : narrow ty (.ref va) = .ref va) (hfit : fits ty (.ref va) = true) (hl : k < fs.length) (he2 : cE Y (gK G q0) (gN G q0) (va_up (pE G ad q0) k (some va)) (D q0) = .inr (ci, fs.set k (.ref va)))
    (hdg : decode cc pc = .ok (.putfield index, 3)) (kk : ∀ (H1 : Heap) (locs1 : List Loc), va_P dd vwCl (wW Y (gSet G q0 k v) ad D) H1 → va_D A (wW Y (gSet G q0 k v) ad D) → va_S A s.heap H1 locs1 → W p l e R s m args below meth c H1 locs1 cells slots Q (F0 m (pc + 3) ls rest)) : W p l e R s m args below meth c H locs cells slots Q (F0 m pc ls (.ref va :: .ref a0 :: rest)) := by
  subst ha
  subst hv
  refine va_putF hx hb hts hin ty0 hty hnm hown hK hP hD hS q0 (wW_at hn he) hc k hk hlink (fun x h => by rw [← hsame]; exact h) hfin hin2 hdecl hd hnr hfit hl hdg (fun H1 locs1 hP1 hD1 hS1 => ?_)
  rw [wW_setP hn he2] at hP1 hD1
  exact kk H1 locs1 hP1 hD1 hS1
theorem y_put (hx : p.tables.exec = Jvm.exec) (hb : c.code = cc) {own ref C : String} {T : u_T} {N ci index : Nat} {Ts : List Cond} (hts : ∀ w ∈ Ts, w.before args s = true) (hin : ∀ w ∈ u_ws C T N, w ∈ Ts) (ty0 : Nat → FieldType) (hty : ∀ k, k < N → parseFieldDescriptor (T k).2.2.1 = some (ty0 k)) (hnm : ∀ a, a < N → ∀ b, b < N → a ≠ b → (T a).2.1 ≠ (T b).2.1) (hown : s.vm.findClass own = some m.cls) (hK : va_K dd vwCl (tyL Y) s) (hP : va_P dd vwCl (wW Y G ad D) H) (hD : va_D A (wW Y G ad D)) (hS : va_S A s.heap H locs) {q0 a0 : Nat} (ha : ad q0 = a0) {fs : List Value} (hn : q0 < gn G) (he : cE Y (gK G q0) (gN G q0) (pE G ad q0) (D q0) = .inr (ci, fs)) (hc : vwCl[ci]? = some (C, T, N)) (k : Nat) (hk : k < N) (hlink : (Cond.fieldLink own index ref (T k).2.1 (T k).2.2.1).before args s = true) (hsame : (T k).1 = ref) (hfin : (T k).2.2.2 = false) {ty : FieldType} {x : Int32} (hd : parseFieldDescriptor (T k).2.2.1 = some ty) (hnr : narrow ty (.int x) = .int x) (hfit : fits ty (.int x) = true) (hl : k < fs.length) (he2 : cE Y (gK G q0) (gN G q0) (pE G ad q0) (upd (D q0) k x) = .inr (ci, fs.set k (.int x)))
    (hdg : decode cc pc = .ok (.putfield index, 3)) (kk : ∀ (H1 : Heap) (locs1 : List Loc), va_P dd vwCl (wW Y G ad (up2 D q0 k x)) H1 → va_D A (wW Y G ad (up2 D q0 k x)) → va_S A s.heap H1 locs1 → W p l e R s m args below meth c H1 locs1 cells slots Q (F0 m (pc + 3) ls rest)) : W p l e R s m args below meth c H locs cells slots Q (F0 m pc ls (.int x :: .ref a0 :: rest)) := by
  subst ha
  refine va_put hx hb hts hin ty0 hty hnm hown hK hP hD hS q0 (wW_at hn he) hc k hk hlink (fun x h => by rw [← hsame]; exact h) hfin hd hnr hfit hl hdg (fun H1 locs1 hP1 hD1 hS1 => ?_)
  rw [wW_set (D' := up2 D q0 k x) hn (by simp [up2, upA]; exact he2) (fun c' hc' => by simp [up2, upA, hc'])] at hP1 hD1
  exact kk H1 locs1 hP1 hD1 hS1
theorem y_putF (hx : p.tables.exec = Jvm.exec) (hb : c.code = cc) {own ref C : String} {T : u_T} {N ci index : Nat} {Ts : List Cond} (hts : ∀ w ∈ Ts, w.before args s = true) (hin : ∀ w ∈ u_ws C T N, w ∈ Ts) (ty0 : Nat → FieldType) (hty : ∀ k, k < N → parseFieldDescriptor (T k).2.2.1 = some (ty0 k)) (hnm : ∀ a, a < N → ∀ b, b < N → a ≠ b → (T a).2.1 ≠ (T b).2.1) (hown : s.vm.findClass own = some m.cls) (hK : va_K dd vwCl (tyL Y) s) (hP : va_P dd vwCl (wW Y G ad D) H) (hD : va_D A (wW Y G ad D)) (hS : va_S A s.heap H locs) {q0 a0 : Nat} (ha : ad q0 = a0) {fs : List Value} (hn : q0 < gn G) (he : cE Y (gK G q0) (gN G q0) (pE G ad q0) (D q0) = .inr (ci, fs)) (hc : vwCl[ci]? = some (C, T, N)) (k : Nat) (hk : k < N) (hlink : (Cond.fieldLink own index ref (T k).2.1 (T k).2.2.1).before args s = true) (hsame : (T k).1 = ref) (hfin : (T k).2.2.2 = true) (hin2 : meth.name = "<init>") (hdecl : (T k).1 = own) {ty : FieldType} {x : Int32} (hd : parseFieldDescriptor (T k).2.2.1 = some ty) (hnr : narrow ty (.int x) = .int x) (hfit : fits ty (.int x) = true) (hl : k < fs.length) (he2 : cE Y (gK G q0) (gN G q0) (pE G ad q0) (upd (D q0) k x) = .inr (ci, fs.set k (.int x)))
    (hdg : decode cc pc = .ok (.putfield index, 3)) (kk : ∀ (H1 : Heap) (locs1 : List Loc), va_P dd vwCl (wW Y G ad (up2 D q0 k x)) H1 → va_D A (wW Y G ad (up2 D q0 k x)) → va_S A s.heap H1 locs1 → W p l e R s m args below meth c H1 locs1 cells slots Q (F0 m (pc + 3) ls rest)) : W p l e R s m args below meth c H locs cells slots Q (F0 m pc ls (.int x :: .ref a0 :: rest)) := by
  subst ha
  refine va_putF hx hb hts hin ty0 hty hnm hown hK hP hD hS q0 (wW_at hn he) hc k hk hlink (fun x h => by rw [← hsame]; exact h) hfin hin2 hdecl hd hnr hfit hl hdg (fun H1 locs1 hP1 hD1 hS1 => ?_)
  rw [wW_set (D' := up2 D q0 k x) hn (by simp [up2, upA]; exact he2) (fun c' hc' => by simp [up2, upA, hc'])] at hP1 hD1
  exact kk H1 locs1 hP1 hD1 hS1
theorem y_get (hx : p.tables.exec = Jvm.exec) (hb : c.code = cc) {own ref C : String} {T : u_T} {N ci index : Nat} {Ts : List Cond} (hts : ∀ w ∈ Ts, w.before args s = true) (hin : ∀ w ∈ u_ws C T N, w ∈ Ts) (hown : s.vm.findClass own = some m.cls) (hK : va_K dd vwCl (tyL Y) s) (hP : va_P dd vwCl (wW Y G ad D) H) {q0 a0 : Nat} (ha : ad q0 = a0) {fs : List Value} (hn : q0 < gn G) (he : cE Y (gK G q0) (gN G q0) (pE G ad q0) (D q0) = .inr (ci, fs)) (hc : vwCl[ci]? = some (C, T, N)) (k : Nat) (hk : k < N) (hlink : (Cond.fieldLink own index ref (T k).2.1 (T k).2.2.1).before args s = true) (hsame : (T k).1 = ref) {v : Value} (hv : fs[k]? = some v) (hdg : decode cc pc = .ok (.getfield index, 3))
    (kk : W p l e R s m args below meth c H locs cells slots Q (F0 m (pc + 3) ls (v :: rest))) : W p l e R s m args below meth c H locs cells slots Q (F0 m pc ls (.ref a0 :: rest)) := by
  subst ha
  exact x_get hx hb hts hin hown hK hP hn he hc k hk hlink hsame hv hdg kk
theorem y_rfv {c k c' a : Nat} (h : gP G c k = some c') (ha : ad c' = a) : some (va_rf (pE G ad c k)) = some (Value.ref a) := by
  subst ha
  exact rfv h
variable {y : MethodName} {bytes : ByteArray} {maxL nL n index : Nat} {ret : Option FieldType} {rm : Room} {own C : String} {h a0 : Nat} {As : List Value} {D1 : Mm} {r0 : Int32} {ty : FieldType} {G1 : Gr} {mc ms : Nat}
theorem y_wa {U : State} (hO : va_AO RX5 s) (hK : va_K dd vwCl (tyL Y) s) (hT : Sta t A s) (hP : va_P dd vwCl (wW Y G ad D) H) (hD : va_D A (wW Y G ad D)) (hS : va_S A s.heap H locs) (hA : ∀ q, s.heap.size ≤ q → A q) (hU : U.heap = H) (hW : s.WarmedH U.vm) : Wa dd Y t G ad D H.size U :=
  ⟨by rw [hU], by rw [hU]; exact hP, va_K.moved hW.alike hK, (hT.go hS hU hW).narrow (fun q hq => hq.elim (wD_A hD q) (fun hz => hA q (Nat.le_trans hS.1 hz))), hO.moved hW.alike⟩
theorem y_callI (S : CallFix p m c cc nL s args W0 own) (hO : va_AO RX5 s) (hK : va_K dd vwCl (tyL Y) s) (hT : Sta t A s) (hP : va_P dd vwCl (wW Y G ad D) H) (hD : va_D A (wW Y G ad D)) (hS : va_S A s.heap H locs) (hA : ∀ q, s.heap.size ≤ q → A q) (ha : ad h = a0) (hM : Met l y (.code y bytes maxL none :: W0) rm (va_Pc (.ref (ad h) :: As) (Wa dd Y t G ad D H.size)) (Qa dd Y G ad H.size G1 D1) mc ms (aA G ad H.size)) (h1 : Cond.methodLink own index y ∈ W0) (h2 : Cond.instanceMethod y ∈ W0) (h3 : Cond.initialized y.cls ∈ W0) (h4 : Cond.code y bytes maxL none ∈ W0) (hy1 : y.name = "<init>") (hd : y.cls = C ∧ y.cls ≠ "java/lang/invoke/MethodHandle" ∧ y.cls ≠ "java/lang/invoke/VarHandle" ∧ (parseMethodDescriptor y.desc).map (fun d => d.parameters.length) = some n) (hrc : rm.cells = mc) (hrs : rm.slots = ms) (hR : rm.frames + 1 ≤ R.frames ∧ 8 + (maxL + 11) + rm.locals ≤ R.locals)
    (hl : As.length = n) (hsize : ls.size = nL) (hst : st0 = As.reverse ++ .ref a0 :: rest) (hW : (rest.map fun v => v.category).sum ≤ 8) (hdg : decode cc pc = .ok (.invokespecial index, 3)) (hcs : cells + mc ≤ R.cells ∧ slots + ms ≤ R.slots)
    (kk : ∀ (u : Nat → Nat) (H1 : Heap) (locs1 : List Loc), (∀ c, c < gn G → u c = ad c) → va_P dd vwCl (wW Y G1 u D1) H1 → va_D A (wW Y G1 u D1) → va_S A s.heap H1 locs1 → W p l e R s m args below meth c H1 locs1 (cells + mc) (slots + ms) Q (F0 m (pc + 3) ls rest)) : W p l e R s m args below meth c H locs cells slots Q (F0 m pc ls st0) := by
  subst ha
  have hAA : ∀ q, aA G ad H.size q → A q := fun q hq => hq.elim (wD_A hD q) (fun hz => hA q (Nat.le_trans hS.1 hz))
  refine va_callv (va_runI (As := As) (rest := rest) S hM (cwI n S.2.2.2.2 (gC h4) rfl hrc hrs (S.2.2.2.2 _ h3) (S.2.2.2.2 _ h1) (S.2.2.2.2 _ h2) hy1 hd.2 hR) ⟨Wa.blind, fun U hU hW => ⟨rfl, y_wa hO hK hT hP hD hS hA hU hW⟩⟩ rfl hl hsize hst (lv_room hW) hdg hcs) hS (fun q _ hq => hAA q hq) hAA (fun u t H1 locs1 ht _ hw hB _ _ hS1 => ?_)
  rw [ht] at hB
  exact kk u H1 locs1 hw hB.1 (hB.2.weaken (fun _ q _ hq => hAA q.1 hq)) hS1
theorem y_callIN {host : String} (S : CallFix p m c cc nL s args W0 own) (hO : va_AO RX5 s) (hK : va_K dd vwCl (tyL Y) s) (hT : Sta t A s) (hP : va_P dd vwCl (wW Y G ad D) H) (hD : va_D A (wW Y G ad D)) (hS : va_S A s.heap H locs) (hA : ∀ q, s.heap.size ≤ q → A q) (ha : ad h = a0) (hM : Met l y (.code y bytes maxL none :: W0) rm (va_Pc (.ref (ad h) :: As) (Wa dd Y t G ad D H.size)) (Qa dd Y G ad H.size G1 D1) mc ms (aA G ad H.size)) (h1 : va_Nw (.methodLinkNest own index y host) s) (h2 : Cond.instanceMethod y ∈ W0) (h3 : Cond.initialized y.cls ∈ W0) (h4 : Cond.code y bytes maxL none ∈ W0) (hy1 : y.name = "<init>") (hd : y.cls = C ∧ y.cls ≠ "java/lang/invoke/MethodHandle" ∧ y.cls ≠ "java/lang/invoke/VarHandle" ∧ (parseMethodDescriptor y.desc).map (fun d => d.parameters.length) = some n) (hrc : rm.cells = mc) (hrs : rm.slots = ms) (hR : rm.frames + 1 ≤ R.frames ∧ 8 + (maxL + 11) + rm.locals ≤ R.locals)
    (hl : As.length = n) (hsize : ls.size = nL) (hst : st0 = As.reverse ++ .ref a0 :: rest) (hW : (rest.map fun v => v.category).sum ≤ 8) (hdg : decode cc pc = .ok (.invokespecial index, 3)) (hcs : cells + mc ≤ R.cells ∧ slots + ms ≤ R.slots)
    (kk : ∀ (u : Nat → Nat) (H1 : Heap) (locs1 : List Loc), (∀ c, c < gn G → u c = ad c) → va_P dd vwCl (wW Y G1 u D1) H1 → va_D A (wW Y G1 u D1) → va_S A s.heap H1 locs1 → W p l e R s m args below meth c H1 locs1 (cells + mc) (slots + ms) Q (F0 m (pc + 3) ls rest)) : W p l e R s m args below meth c H locs cells slots Q (F0 m pc ls st0) := by
  subst ha
  have hAA : ∀ q, aA G ad H.size q → A q := fun q hq => hq.elim (wD_A hD q) (fun hz => hA q (Nat.le_trans hS.1 hz))
  refine va_callv (va_runIN (As := As) (rest := rest) S hM ⟨va_cnB n S.2.2.2.2 (gC h4) rfl hrc hrs h1 (S.2.2.2.2 _ h3) hd.2 hR, hy1, S.2.2.2.2 _ h2⟩ ⟨Wa.blind, fun U hU hW => ⟨rfl, y_wa hO hK hT hP hD hS hA hU hW⟩⟩ rfl hl hsize hst (lv_room hW) hdg hcs) hS (fun q _ hq => hAA q hq) hAA (fun u t H1 locs1 ht _ hw hB _ _ hS1 => ?_)
  rw [ht] at hB
  exact kk u H1 locs1 hw hB.1 (hB.2.weaken (fun _ q _ hq => hAA q.1 hq)) hS1
theorem y_wd {U : State} (hK : va_K dd vwCl (tyL Y) s) (hT : Sta t A s) (hP : va_P dd vwCl (wW Y G ad D) H) (hD : va_D A (wW Y G ad D)) (hS : va_S A s.heap H locs) (hU : U.heap = H) (hW : s.WarmedH U.vm) : Wd dd Y t G ad D U :=
  ⟨by rw [hU]; exact hP, va_K.moved hW.alike hK, (hT.go hS hU hW).narrow (wD_A hD)⟩
theorem y_callVv (S : CallFix p m c cc nL s args W0 own) (hK : va_K dd vwCl (tyL Y) s) (hT : Sta t A s) (hP : va_P dd vwCl (wW Y G ad D) H) (hD : va_D A (wW Y G ad D)) (hS : va_S A s.heap H locs) (ha : ad h = a0) (hM : Met l y (.code y bytes maxL ret :: W0) rm (va_Pc (.ref (ad h) :: As) (Wd dd Y t G ad D)) (Qv dd Y G ad D1) 0 0 (pA G ad)) (h1 : Cond.methodLink own index y ∈ W0) (hs : Cond.instanceMethod y ∈ W0 ∧ Cond.selects C y y ∈ W0 ∧ Cond.initialized C ∈ W0 ∧ Cond.code y bytes maxL ret ∈ W0) (hd : y.cls = C ∧ y.cls ≠ "java/lang/invoke/MethodHandle" ∧ y.cls ≠ "java/lang/invoke/VarHandle" ∧ (parseMethodDescriptor y.desc).map (fun d => d.parameters.length) = some n) (hrc : rm.cells = 0) (hrs : rm.slots = 0) (hR : rm.frames + 1 ≤ R.frames ∧ 8 + (maxL + 11) + rm.locals ≤ R.locals)
    {ci : Nat} {T : u_T} {N : Nat} {fs : List Value} (hn : h < gn G) (he : cE Y (gK G h) (gN G h) (pE G ad h) (D h) = .inr (ci, fs)) (hc : vwCl[ci]? = some (C, T, N)) (hl : As.length = n) (hsize : ls.size = nL) (hst : st0 = As.reverse ++ .ref a0 :: rest) (hW : (rest.map fun v => v.category).sum ≤ 8) (hdg : decode cc pc = .ok (.invokevirtual index, 3)) (hcs : cells + 0 ≤ R.cells ∧ slots + 0 ≤ R.slots)
    (kk : ∀ (H1 : Heap) (locs1 : List Loc), va_P dd vwCl (wW Y G ad D1) H1 → (∀ q : Nat, q < H.size → ¬ pA G ad q → H1[q]? = H[q]?) → va_S A s.heap H1 locs1 → W p l e R s m args below meth c H1 locs1 cells slots Q (F0 m (pc + 3) ls rest)) : W p l e R s m args below meth c H locs cells slots Q (F0 m pc ls st0) := by
  subst ha
  refine va_callv (va_runV (As := As) (rest := rest) S hM (cwV n S.2.2.2.2 (gV h1 hs.1 hs.2.1 hs.2.2.1 hs.2.2.2) rfl hrc hrs hd hR) ⟨Wd.blind, va_recv hK hP hc (wW_at hn he), fun U hU hW => ⟨rfl, y_wd hK hT hP hD hS hU hW⟩⟩ rfl hl hsize hst (lv_room hW) hdg hcs) hS (fun q _ hq => wD_A hD q hq) (wD_A hD) (fun u t H1 locs1 ht _ hw hB _ hk1 hS1 => ?_)
  subst hw
  rw [ht] at hB
  exact kk H1 locs1 hB hk1 hS1
theorem y_callVi (S : CallFix p m c cc nL s args W0 own) (hK : va_K dd vwCl (tyL Y) s) (hT : Sta t A s) (hP : va_P dd vwCl (wW Y G ad D) H) (hD : va_D A (wW Y G ad D)) (hS : va_S A s.heap H locs) (ha : ad h = a0) (hM : Met l y (.code y bytes maxL ret :: W0) rm (va_Pc (.ref (ad h) :: As) (Wd dd Y t G ad D)) (Qi dd Y G ad ty r0 D1) 0 0 (pA G ad)) (h1 : Cond.methodLink own index y ∈ W0) (hs : Cond.instanceMethod y ∈ W0 ∧ Cond.selects C y y ∈ W0 ∧ Cond.initialized C ∈ W0 ∧ Cond.code y bytes maxL ret ∈ W0) (hd : y.cls = C ∧ y.cls ≠ "java/lang/invoke/MethodHandle" ∧ y.cls ≠ "java/lang/invoke/VarHandle" ∧ (parseMethodDescriptor y.desc).map (fun d => d.parameters.length) = some n) (hrc : rm.cells = 0) (hrs : rm.slots = 0) (hR : rm.frames + 1 ≤ R.frames ∧ 8 + (maxL + 11) + rm.locals ≤ R.locals)
    {ci : Nat} {T : u_T} {N : Nat} {fs : List Value} (hn : h < gn G) (he : cE Y (gK G h) (gN G h) (pE G ad h) (D h) = .inr (ci, fs)) (hc : vwCl[ci]? = some (C, T, N)) (hl : As.length = n) (hsize : ls.size = nL) (hst : st0 = As.reverse ++ .ref a0 :: rest) (hW : (rest.map fun v => v.category).sum ≤ 8) (hdg : decode cc pc = .ok (.invokevirtual index, 3)) (hcs : cells + 0 ≤ R.cells ∧ slots + 0 ≤ R.slots)
    (kk : ∀ (H1 : Heap) (locs1 : List Loc), va_P dd vwCl (wW Y G ad D1) H1 → (∀ q : Nat, q < H.size → ¬ pA G ad q → H1[q]? = H[q]?) → va_S A s.heap H1 locs1 → W p l e R s m args below meth c H1 locs1 cells slots Q (F0 m (pc + 3) ls (.int r0 :: rest))) : W p l e R s m args below meth c H locs cells slots Q (F0 m pc ls st0) := by
  subst ha
  refine va_calli (va_runV (As := As) (rest := rest) S hM (cwV n S.2.2.2.2 (gV h1 hs.1 hs.2.1 hs.2.2.1 hs.2.2.2) rfl hrc hrs hd hR) ⟨Wd.blind, va_recv hK hP hc (wW_at hn he), fun U hU hW => ⟨rfl, y_wd hK hT hP hD hS hU hW⟩⟩ rfl hl hsize hst (lv_room hW) hdg hcs) hS (fun q _ hq => wD_A hD q hq) (wD_A hD) (fun r u t H1 locs1 ht _ hw hB _ hk1 hS1 => ?_)
  obtain ⟨rfl, rfl, hnr⟩ := hw
  rw [ht] at hB
  exact kk H1 locs1 hB hk1 hS1
theorem y_callSi (S : CallFix p m c cc nL s args W0 own) (hK : va_K dd vwCl (tyL Y) s) (hT : Sta t A s) (hP : va_P dd vwCl (wW Y G ad D) H) (hD : va_D A (wW Y G ad D)) (hS : va_S A s.heap H locs) (hM : Met l y (.code y bytes maxL ret :: W0) rm (va_Pc As (Wd dd Y t G ad D)) (Qi dd Y G ad ty r0 D1) 0 0 (pA G ad)) (h1 : Cond.methodLink own index y ∈ W0) (hs : Cond.static y ∈ W0 ∧ Cond.initialized y.cls ∈ W0 ∧ Cond.code y bytes maxL ret ∈ W0) (hd : y.cls = C ∧ y.cls ≠ "java/lang/invoke/MethodHandle" ∧ y.cls ≠ "java/lang/invoke/VarHandle" ∧ (parseMethodDescriptor y.desc).map (fun d => d.parameters.length) = some n) (hrc : rm.cells = 0) (hrs : rm.slots = 0) (hR : rm.frames + 1 ≤ R.frames ∧ 8 + (maxL + 11) + rm.locals ≤ R.locals)
    (hl : As.length = n) (hsize : ls.size = nL) (hst : st0 = As.reverse ++ rest) (hW : (rest.map fun v => v.category).sum ≤ 8) (hdg : decode cc pc = .ok (.invokestatic index, 3)) (hcs : cells + 0 ≤ R.cells ∧ slots + 0 ≤ R.slots)
    (kk : ∀ (H1 : Heap) (locs1 : List Loc), va_P dd vwCl (wW Y G ad D1) H1 → va_S A s.heap H1 locs1 → W p l e R s m args below meth c H1 locs1 cells slots Q (F0 m (pc + 3) ls (.int r0 :: rest))) : W p l e R s m args below meth c H locs cells slots Q (F0 m pc ls st0) := by
  refine va_calli (va_runS (As := As) (rest := rest) S hM (va_cwS n S.2.2.2.2 (gS h1 hs.1 hs.2.1 hs.2.2) rfl hrc hrs hd.2 hR) ⟨Wd.blind, fun U hU hW => ⟨rfl, y_wd hK hT hP hD hS hU hW⟩⟩ rfl hl hsize hst (lv_room hW) hdg hcs) hS (fun q _ hq => wD_A hD q hq) (wD_A hD) (fun r u t H1 locs1 ht _ hw hB _ _ hS1 => ?_)
  obtain ⟨rfl, rfl, hnr⟩ := hw
  rw [ht] at hB
  exact kk H1 locs1 hB hS1
theorem y_vret {sz : Nat} {G0 : Gr} {ad0 : Nat → Nat} (hx : p.tables.exec = Jvm.exec) (hb : c.code = cc) (hr : meth.sig.returnType = none) (hlocks : meth.locks = false) (hP : va_P dd vwCl (wW Y G ad D) H) (hD : va_D (aA G0 ad0 sz) (wW Y G ad D)) (hS : va_S (aA G0 ad0 sz) s.heap H locs) (hu : ∀ c, c < gn G0 → ad c = ad0 c) (hdg : decode cc pc = .ok (.return_, 1)) : W p l e R s m args below meth c H locs cells slots (MQ below (Qa dd Y G0 ad0 sz G D) args s cells slots (aA G0 ad0 sz)) (F0 m pc ls []) :=
  W.vret hx hb hr (fun t ht hW => ⟨⟨ad, rfl, hu, by show va_P dd vwCl (wW Y G ad D) t.heap ∧ _; rw [ht]; exact ⟨hP, hD⟩⟩, hS.F ht⟩) hS.2.2 hdg hlocks
end Y1
