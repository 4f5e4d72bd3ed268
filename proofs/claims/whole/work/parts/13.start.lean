/-! START: the law from its entry, over a relation that the constructors make and every call keeps -/
theorem tT1 {w : Cond} (i : Nat) (h : tables_1_1[i]? = some w) : w ∈ lw_tbl := List.mem_append_right _ (List.mem_append_left _ (List.mem_of_getElem? h))
theorem tT2 {w : Cond} (i : Nat) (h : tables_1_2[i]? = some w) : w ∈ lw_tbl := List.mem_append_right _ (List.mem_append_right _ (List.mem_append_left _ (List.mem_of_getElem? h)))
theorem tT3 {w : Cond} (i : Nat) (h : tables_1_3[i]? = some w) : w ∈ lw_tbl := List.mem_append_right _ (List.mem_append_right _ (List.mem_append_right _ (List.mem_append_left _ (List.mem_of_getElem? h))))
theorem tT4 {w : Cond} (i : Nat) (h : tables_1_4[i]? = some w) : w ∈ lw_tbl := List.mem_append_right _ (List.mem_append_right _ (List.mem_append_right _ (List.mem_append_right _ (List.mem_of_getElem? h))))
def gX0 : Gr := gPush gE 7 0
def dX0 : Mm := upA dZ (gn gE) (fun _ => 0)
abbrev gXb : Gr := x7_G7 gX0 0
abbrev cXb : Nat := gn (x7_G6 gX0 0)
abbrev cXs : Nat := gn gX0
def Init (Rel : Mm → Mm → Prop) (F : Nat) : Prop := ∃ E1 E2 E3 e1 e2 e3 e4 dM : Mm, P_X5_fillGap (gN (bG2 gXb cXb cXs)) F (gn (bG1 gXb cXb cXs)) (bD2 gXb (x7_D8 gX0 dX0 E3 0) cXb cXs) = some (0, E1) ∧ P_X5_putSync (gN (bG2 gXb cXb cXs)) F (gn (bG1 gXb cXb cXs)) 0 E1 = some (0, E2) ∧ P_X5_putData (gN (bG3 gXb cXb cXs)) F (gn (bG1 gXb cXb cXs)) (gn (bG2 gXb cXb cXs)) 40 (upA E2 (gn (bG2 gXb cXb cXs)) (fun _ => 0)) = some (0, E3) ∧ P_X8_setCodes (gN MG) F 0 10 11 18 19 x8_D55 = some (0, e1) ∧ P_X8_setCodes (gN MG) F 4 14 15 22 23 e1 = some (0, e2) ∧ P_X8_setCodes (gN MG) F 8 9 25 26 27 e2 = some (0, e3) ∧ P_X8_setCodes (gN MG) F 12 13 29 30 21 e3 = some (0, e4) ∧ (∀ i, i < 16 → inB (e4 3 i) 32 = true) ∧ m8b 16 0 (m8a 32 0 e4) = dM ∧ Rel (m_X7_init gX0 dX0 E3 0) dM
theorem sm_X5 {G : Gr} {th b : Nat} (h : Sm G) : Sm (g_X5_init G th b) := Sm.set (Sm.push (Sm.set (Sm.push h) (by decide))) (by decide)
theorem sm_rG {G : Gr} {ra : Nat} (h : Sm G) : ∀ i, i ≤ 31 → Sm (rG G ra i)
  | 0, _ => h
  | i + 1, hi => Sm.set (sm_X5 (Sm.push (sm_rG h i (by omega)))) (by omega)
theorem sm_X0 {G : Gr} {th u1 : Nat} (h : Sm G) : Sm (bG3 G th u1) := by
  have c0 : Sm (bG0 G th u1) := Sm.set (Sm.push (Sm.set h (by decide))) (by decide)
  have c1 : Sm (bG1 G th u1) := sm_rG c0 16 (by decide)
  have c2 : Sm (bG2 G th u1) := Sm.set (sm_X5 (Sm.push c1)) (by decide)
  exact c2.push
theorem sm_X6 {G : Gr} {th : Nat} (h : Sm G) : Sm (g_X6_init G th) := h
theorem sm_X4 {G : Gr} {th : Nat} (h : Sm G) : Sm (g_X4_init G th) := Sm.set (Sm.push h) (by decide)
theorem sm_X1 {G : Gr} {th b : Nat} (h : Sm G) : Sm (g_X1_init G th b) := Sm.set (Sm.push h) (by decide)
theorem sm_X3 {G : Gr} {th u1 u2 : Nat} (h : Sm G) : Sm (g_X3_init G th u1 u2) := Sm.set (Sm.set (Sm.set (Sm.push (Sm.set (Sm.push h) (by decide))) (by decide)) (by decide)) (by decide)
theorem sm_X2 {G : Gr} {th u1 u2 : Nat} (h : Sm G) : Sm (g_X2_init G th u1 u2) := Sm.set (Sm.set (Sm.set (Sm.push (Sm.set (Sm.push (Sm.set (Sm.push h) (by decide))) (by decide))) (by decide)) (by decide)) (by decide)
theorem sm_gX0 : Sm gX0 := sm_gE.push
theorem sm7_G1 : Sm (x7_G1 gX0 0) := Sm.push sm_gX0
theorem sm7_G4 : Sm (x7_G4 gX0 0) := sm_X6 sm7_G1
theorem sm7_G6 : Sm (x7_G6 gX0 0) := Sm.set sm7_G4 (by decide)
theorem sm7_G7 : Sm (x7_G7 gX0 0) := Sm.push sm7_G6
theorem sm7_G10 : Sm (x7_G10 gX0 0) := sm_X0 sm7_G7
theorem sm7_G11 : Sm (x7_G11 gX0 0) := Sm.set sm7_G10 (by decide)
theorem sm7_G12 : Sm (x7_G12 gX0 0) := Sm.push sm7_G11
theorem sm7_G15 : Sm (x7_G15 gX0 0) := sm_X4 sm7_G12
theorem sm7_G17 : Sm (x7_G17 gX0 0) := Sm.set sm7_G15 (by decide)
theorem sm7_G18 : Sm (x7_G18 gX0 0) := Sm.push sm7_G17
theorem sm7_G21 : Sm (x7_G21 gX0 0) := sm_X3 sm7_G18
theorem sm7_G23 : Sm (x7_G23 gX0 0) := Sm.set sm7_G21 (by decide)
theorem sm7_G24 : Sm (x7_G24 gX0 0) := Sm.push sm7_G23
theorem sm7_G27 : Sm (x7_G27 gX0 0) := sm_X2 sm7_G24
theorem sm7_G29 : Sm (x7_G29 gX0 0) := Sm.set sm7_G27 (by decide)
theorem sm7_G30 : Sm (x7_G30 gX0 0) := Sm.push sm7_G29
theorem sm7_G33 : Sm (x7_G33 gX0 0) := sm_X1 sm7_G30
theorem sm7_G35 : Sm (x7_G35 gX0 0) := Sm.set sm7_G33 (by decide)
theorem sm7_G36 : Sm (x7_G36 gX0 0) := Sm.push sm7_G35
theorem sm7_G39 : Sm (x7_G39 gX0 0) := sm_X1 sm7_G36
theorem sm7_G41 : Sm (x7_G41 gX0 0) := Sm.set sm7_G39 (by decide)
theorem sm7_G42 : Sm (x7_G42 gX0 0) := Sm.push sm7_G41
theorem sm7_G45 : Sm (x7_G45 gX0 0) := sm_X1 sm7_G42
theorem sm7_G47 : Sm (x7_G47 gX0 0) := Sm.set sm7_G45 (by decide)
theorem sm7_G48 : Sm (x7_G48 gX0 0) := Sm.push sm7_G47
theorem sm7_G51 : Sm (x7_G51 gX0 0) := Sm.set sm7_G48 (by decide)
theorem sm7_G52 : Sm (x7_G52 gX0 0) := Sm.push sm7_G51
theorem sm7_G55 : Sm (x7_G55 gX0 0) := Sm.set sm7_G52 (by decide)
theorem x7_XG {Y : Yc} {ad : Nat → Nat} {D : Mm} : wW Y (g_X7_init gX0 0) ad D = wW Y XG ad D := by
  refine wW_eqG (by decide +kernel) ?_ ?_ sm7_G55 ?_
  · have h : ∀ c, c < gn (g_X7_init gX0 0) → gK (g_X7_init gX0 0) c = gK XG c ∧ gN (g_X7_init gX0 0) c = gN XG c := by
      rw [show gn (g_X7_init gX0 0) = 73 by decide +kernel]
      decide +kernel
    exact h
  · have h : ∀ c, c < gn (g_X7_init gX0 0) → ∀ i, i < 31 → gP (g_X7_init gX0 0) c i = gP XG c i := by
      rw [show gn (g_X7_init gX0 0) = 73 by decide +kernel]
      decide +kernel
    exact h
  · rw [show gn (g_X7_init gX0 0) = 73 by decide +kernel]
    have h : ∀ c, c < 73 → (xPl.getD c []).length ≤ 31 := by decide +kernel
    intro c hc i hi
    show xP c i = none
    unfold xP
    split
    · rw [if_neg (by omega)]
    · rw [List.getD_eq_getElem?_getD, List.getElem?_eq_none (Nat.le_trans (h c hc) hi)]
      rfl
section Y4
variable {p : Program} {l : Launch} {e : Env} {R : Room} {s : State} {m : MethodId} {args : Array Value} {below : List Frame} {meth : Method} {c : Code} {H : Heap} {locs : List Loc} {cells slots : Nat} {Q : State → Prop} {cc : ByteArray} {pc : Nat} {ls : Array Slot} {rest st0 : List Value} {dd : Dd} {Y : Yc} {t : Ts3} {G : Gr} {ad : Nat → Nat} {D : Mm} {A : Nat → Prop} {y : MethodName} {bytes : ByteArray} {maxL nL n index : Nat} {rm : Room} {own C : String} {h : Nat} {As : List Value} {D1 : Mm} {G1 : Gr} {mc ms : Nat}
theorem y_callIk (S : CallFix p m c cc nL s args W0 own) (hO : va_AO RX5 s) (hK : va_K dd vwCl (tyL Y) s) (hT : Sta t A s) (hP : va_P dd vwCl (wW Y G ad D) H) (hD : va_D A (wW Y G ad D)) (hS : va_S A s.heap H locs) (hA : ∀ q, s.heap.size ≤ q → A q) (hM : Met l y (.code y bytes maxL none :: W0) rm (va_Pc (.ref (ad h) :: As) (Wa dd Y t G ad D H.size)) (Qa dd Y G ad H.size G1 D1) mc ms (aA G ad H.size)) (h1 : Cond.methodLink own index y ∈ W0) (h2 : Cond.instanceMethod y ∈ W0) (h3 : Cond.initialized y.cls ∈ W0) (h4 : Cond.code y bytes maxL none ∈ W0) (hy1 : y.name = "<init>") (hd : y.cls = C ∧ y.cls ≠ "java/lang/invoke/MethodHandle" ∧ y.cls ≠ "java/lang/invoke/VarHandle" ∧ (parseMethodDescriptor y.desc).map (fun d => d.parameters.length) = some n) (hrc : rm.cells = mc) (hrs : rm.slots = ms) (hR : rm.frames + 1 ≤ R.frames ∧ 8 + (maxL + 11) + rm.locals ≤ R.locals)
    (hl : As.length = n) (hsize : ls.size = nL) (hst : st0 = As.reverse ++ .ref (ad h) :: rest) (hW : (rest.map fun v => v.category).sum ≤ 8) (hdg : decode cc pc = .ok (.invokespecial index, 3)) (hcs : cells + mc ≤ R.cells ∧ slots + ms ≤ R.slots)
    (kk : ∀ (u : Nat → Nat) (H1 : Heap) (locs1 : List Loc), (∀ c, c < gn G → u c = ad c) → va_P dd vwCl (wW Y G1 u D1) H1 → va_D (aA G ad H.size) (wW Y G1 u D1) → va_D A (wW Y G1 u D1) → (∀ q : Nat, q < H.size → ¬ aA G ad H.size q → H1[q]? = H[q]?) → va_S A s.heap H1 locs1 → W p l e R s m args below meth c H1 locs1 (cells + mc) (slots + ms) Q (F0 m (pc + 3) ls rest)) : W p l e R s m args below meth c H locs cells slots Q (F0 m pc ls st0) := by
  have hAA : ∀ q, aA G ad H.size q → A q := fun q hq => hq.elim (wD_A hD q) (fun hz => hA q (Nat.le_trans hS.1 hz))
  refine va_callv (va_runI (As := As) (rest := rest) S hM (cwI n S.2.2.2.2 (gC h4) rfl hrc hrs (S.2.2.2.2 _ h3) (S.2.2.2.2 _ h1) (S.2.2.2.2 _ h2) hy1 hd.2 hR) ⟨Wa.blind, fun U hU hW => ⟨rfl, y_wa hO hK hT hP hD hS hA hU hW⟩⟩ rfl hl hsize hst (lv_room hW) hdg hcs) hS (fun q _ hq => hAA q hq) hAA (fun u t H1 locs1 ht _ hw hB _ hk1 hS1 => ?_)
  rw [ht] at hB
  exact kk u H1 locs1 hw hB.1 hB.2 (hB.2.weaken (fun _ q _ hq => hAA q.1 hq)) hk1 hS1
end Y4
theorem y_Y {args : Array Value} {s : State} (h1 : (Cond.arrayClass .int).before args s = true) (h2 : (Cond.arrayClass .boolean).before args s = true) (h3 : (Cond.arrayOver (.object RX5)).before args s = true) : ∃ Y : Yc, ∀ (k : Nat) (q : ClassId × FieldType), (tyL Y)[k]? = some q → ArrOfT s q.1 q.2 ∧ va_RA s q.1 q.2 := by
  obtain ⟨cI, kI, pI, a1, a2, a3⟩ := Cond.arrayClass_spec h1
  obtain ⟨cZ, kZ, pZ, b1, b2, b3⟩ := Cond.arrayClass_spec h2
  obtain ⟨pR, cR, kR, d0, d1, d2, d3, d4⟩ := Cond.arrayOver_spec h3
  refine ⟨(cI, cZ, cR), ?_⟩
  intro k q hq
  match k, hq with
  | 0, hq => cases hq; exact ⟨fun N z => ⟨(fun k h => by cases h), kI, a2, pI, a3⟩, a1⟩
  | 1, hq => cases hq; exact ⟨fun N z => ⟨(fun k h => by cases h), kZ, b2, pZ, b3⟩, b1⟩
  | 2, hq => cases hq; exact ⟨fun N z => ⟨(fun k h => by cases h), kR, d2, pR, d3⟩, ⟨kR, pR, d2, d3, d0, d4⟩⟩
  | k + 3, hq => simp at hq
theorem st_FIVES {args : Array Value} {s : State} {A : Nat → Prop} (hgv : (Jvm.Cond.and given_1 narrow_1).before args s = true) (hlay : (Cond.laysStatic "BitDrive" "FIVES" "[I").before args s = true) (hini : (Cond.initialized "BitDrive").before args s = true) (hA : ∀ a : Nat, a < s.heap.size → ¬ A a) : ∃ t : Nat, va_Z "BitDrive" "FIVES" "[I" (.ref t) A s s.heap ∧ va_T .int t 16 (fun j => .int (tFIVES j)) A s s.heap := by
  have hs := flat_of_before _ hgv
  have harr : (Cond.arrayOf (Term.static "BitDrive" "FIVES" "[I") .int).before args s = true := hs _ (by decide +kernel)
  have hlen := va_eqt (hs (Cond.eq (Term.length (Term.static "BitDrive" "FIVES" "[I")) (Term.int 16)) (by decide +kernel))
  obtain ⟨t, e1, e2⟩ := va_Tof (N := 16) (f := fun j => .int (tFIVES j)) (A := A) (by decide) harr hlen (fun j hj => by
    match j, hj with
    | 0, _ => exact va_eqt (hs (Cond.eq (Term.elem (Term.static "BitDrive" "FIVES" "[I") (Term.int 0)) (Term.int (10))) (by decide +kernel))
    | 1, _ => exact va_eqt (hs (Cond.eq (Term.elem (Term.static "BitDrive" "FIVES" "[I") (Term.int 1)) (Term.int (11))) (by decide +kernel))
    | 2, _ => exact va_eqt (hs (Cond.eq (Term.elem (Term.static "BitDrive" "FIVES" "[I") (Term.int 2)) (Term.int (18))) (by decide +kernel))
    | 3, _ => exact va_eqt (hs (Cond.eq (Term.elem (Term.static "BitDrive" "FIVES" "[I") (Term.int 3)) (Term.int (19))) (by decide +kernel))
    | 4, _ => exact va_eqt (hs (Cond.eq (Term.elem (Term.static "BitDrive" "FIVES" "[I") (Term.int 4)) (Term.int (14))) (by decide +kernel))
    | 5, _ => exact va_eqt (hs (Cond.eq (Term.elem (Term.static "BitDrive" "FIVES" "[I") (Term.int 5)) (Term.int (15))) (by decide +kernel))
    | 6, _ => exact va_eqt (hs (Cond.eq (Term.elem (Term.static "BitDrive" "FIVES" "[I") (Term.int 6)) (Term.int (22))) (by decide +kernel))
    | 7, _ => exact va_eqt (hs (Cond.eq (Term.elem (Term.static "BitDrive" "FIVES" "[I") (Term.int 7)) (Term.int (23))) (by decide +kernel))
    | 8, _ => exact va_eqt (hs (Cond.eq (Term.elem (Term.static "BitDrive" "FIVES" "[I") (Term.int 8)) (Term.int (9))) (by decide +kernel))
    | 9, _ => exact va_eqt (hs (Cond.eq (Term.elem (Term.static "BitDrive" "FIVES" "[I") (Term.int 9)) (Term.int (25))) (by decide +kernel))
    | 10, _ => exact va_eqt (hs (Cond.eq (Term.elem (Term.static "BitDrive" "FIVES" "[I") (Term.int 10)) (Term.int (26))) (by decide +kernel))
    | 11, _ => exact va_eqt (hs (Cond.eq (Term.elem (Term.static "BitDrive" "FIVES" "[I") (Term.int 11)) (Term.int (27))) (by decide +kernel))
    | 12, _ => exact va_eqt (hs (Cond.eq (Term.elem (Term.static "BitDrive" "FIVES" "[I") (Term.int 12)) (Term.int (13))) (by decide +kernel))
    | 13, _ => exact va_eqt (hs (Cond.eq (Term.elem (Term.static "BitDrive" "FIVES" "[I") (Term.int 13)) (Term.int (29))) (by decide +kernel))
    | 14, _ => exact va_eqt (hs (Cond.eq (Term.elem (Term.static "BitDrive" "FIVES" "[I") (Term.int 14)) (Term.int (30))) (by decide +kernel))
    | 15, _ => exact va_eqt (hs (Cond.eq (Term.elem (Term.static "BitDrive" "FIVES" "[I") (Term.int 15)) (Term.int (21))) (by decide +kernel))
    | j + 16, hj => exact absurd hj (by omega)) hA
  exact ⟨t, va_Zof hlay hini e1 hA, e2⟩
theorem st_HALVES {args : Array Value} {s : State} {A : Nat → Prop} (hgv : (Jvm.Cond.and given_1 narrow_1).before args s = true) (hlay : (Cond.laysStatic "BitDrive" "HALVES" "[I").before args s = true) (hini : (Cond.initialized "BitDrive").before args s = true) (hA : ∀ a : Nat, a < s.heap.size → ¬ A a) : ∃ t : Nat, va_Z "BitDrive" "HALVES" "[I" (.ref t) A s s.heap ∧ va_T .int t 32 (fun j => .int (tHALVES j)) A s s.heap := by
  have hs := flat_of_before _ hgv
  have harr : (Cond.arrayOf (Term.static "BitDrive" "HALVES" "[I") .int).before args s = true := hs _ (by decide +kernel)
  have hlen := va_eqt (hs (Cond.eq (Term.length (Term.static "BitDrive" "HALVES" "[I")) (Term.int 32)) (by decide +kernel))
  obtain ⟨t, e1, e2⟩ := va_Tof (N := 32) (f := fun j => .int (tHALVES j)) (A := A) (by decide) harr hlen (fun j hj => by
    match j, hj with
    | 0, _ => exact va_eqt (hs (Cond.eq (Term.elem (Term.static "BitDrive" "HALVES" "[I") (Term.int 0)) (Term.int (-1))) (by decide +kernel))
    | 1, _ => exact va_eqt (hs (Cond.eq (Term.elem (Term.static "BitDrive" "HALVES" "[I") (Term.int 1)) (Term.int (-1))) (by decide +kernel))
    | 2, _ => exact va_eqt (hs (Cond.eq (Term.elem (Term.static "BitDrive" "HALVES" "[I") (Term.int 2)) (Term.int (-1))) (by decide +kernel))
    | 3, _ => exact va_eqt (hs (Cond.eq (Term.elem (Term.static "BitDrive" "HALVES" "[I") (Term.int 3)) (Term.int (-1))) (by decide +kernel))
    | 4, _ => exact va_eqt (hs (Cond.eq (Term.elem (Term.static "BitDrive" "HALVES" "[I") (Term.int 4)) (Term.int (-1))) (by decide +kernel))
    | 5, _ => exact va_eqt (hs (Cond.eq (Term.elem (Term.static "BitDrive" "HALVES" "[I") (Term.int 5)) (Term.int (-1))) (by decide +kernel))
    | 6, _ => exact va_eqt (hs (Cond.eq (Term.elem (Term.static "BitDrive" "HALVES" "[I") (Term.int 6)) (Term.int (-1))) (by decide +kernel))
    | 7, _ => exact va_eqt (hs (Cond.eq (Term.elem (Term.static "BitDrive" "HALVES" "[I") (Term.int 7)) (Term.int (-1))) (by decide +kernel))
    | 8, _ => exact va_eqt (hs (Cond.eq (Term.elem (Term.static "BitDrive" "HALVES" "[I") (Term.int 8)) (Term.int (-1))) (by decide +kernel))
    | 9, _ => exact va_eqt (hs (Cond.eq (Term.elem (Term.static "BitDrive" "HALVES" "[I") (Term.int 9)) (Term.int (8))) (by decide +kernel))
    | 10, _ => exact va_eqt (hs (Cond.eq (Term.elem (Term.static "BitDrive" "HALVES" "[I") (Term.int 10)) (Term.int (0))) (by decide +kernel))
    | 11, _ => exact va_eqt (hs (Cond.eq (Term.elem (Term.static "BitDrive" "HALVES" "[I") (Term.int 11)) (Term.int (1))) (by decide +kernel))
    | 12, _ => exact va_eqt (hs (Cond.eq (Term.elem (Term.static "BitDrive" "HALVES" "[I") (Term.int 12)) (Term.int (-1))) (by decide +kernel))
    | 13, _ => exact va_eqt (hs (Cond.eq (Term.elem (Term.static "BitDrive" "HALVES" "[I") (Term.int 13)) (Term.int (12))) (by decide +kernel))
    | 14, _ => exact va_eqt (hs (Cond.eq (Term.elem (Term.static "BitDrive" "HALVES" "[I") (Term.int 14)) (Term.int (4))) (by decide +kernel))
    | 15, _ => exact va_eqt (hs (Cond.eq (Term.elem (Term.static "BitDrive" "HALVES" "[I") (Term.int 15)) (Term.int (5))) (by decide +kernel))
    | 16, _ => exact va_eqt (hs (Cond.eq (Term.elem (Term.static "BitDrive" "HALVES" "[I") (Term.int 16)) (Term.int (-1))) (by decide +kernel))
    | 17, _ => exact va_eqt (hs (Cond.eq (Term.elem (Term.static "BitDrive" "HALVES" "[I") (Term.int 17)) (Term.int (-1))) (by decide +kernel))
    | 18, _ => exact va_eqt (hs (Cond.eq (Term.elem (Term.static "BitDrive" "HALVES" "[I") (Term.int 18)) (Term.int (2))) (by decide +kernel))
    | 19, _ => exact va_eqt (hs (Cond.eq (Term.elem (Term.static "BitDrive" "HALVES" "[I") (Term.int 19)) (Term.int (3))) (by decide +kernel))
    | 20, _ => exact va_eqt (hs (Cond.eq (Term.elem (Term.static "BitDrive" "HALVES" "[I") (Term.int 20)) (Term.int (-1))) (by decide +kernel))
    | 21, _ => exact va_eqt (hs (Cond.eq (Term.elem (Term.static "BitDrive" "HALVES" "[I") (Term.int 21)) (Term.int (15))) (by decide +kernel))
    | 22, _ => exact va_eqt (hs (Cond.eq (Term.elem (Term.static "BitDrive" "HALVES" "[I") (Term.int 22)) (Term.int (6))) (by decide +kernel))
    | 23, _ => exact va_eqt (hs (Cond.eq (Term.elem (Term.static "BitDrive" "HALVES" "[I") (Term.int 23)) (Term.int (7))) (by decide +kernel))
    | 24, _ => exact va_eqt (hs (Cond.eq (Term.elem (Term.static "BitDrive" "HALVES" "[I") (Term.int 24)) (Term.int (-1))) (by decide +kernel))
    | 25, _ => exact va_eqt (hs (Cond.eq (Term.elem (Term.static "BitDrive" "HALVES" "[I") (Term.int 25)) (Term.int (9))) (by decide +kernel))
    | 26, _ => exact va_eqt (hs (Cond.eq (Term.elem (Term.static "BitDrive" "HALVES" "[I") (Term.int 26)) (Term.int (10))) (by decide +kernel))
    | 27, _ => exact va_eqt (hs (Cond.eq (Term.elem (Term.static "BitDrive" "HALVES" "[I") (Term.int 27)) (Term.int (11))) (by decide +kernel))
    | 28, _ => exact va_eqt (hs (Cond.eq (Term.elem (Term.static "BitDrive" "HALVES" "[I") (Term.int 28)) (Term.int (-1))) (by decide +kernel))
    | 29, _ => exact va_eqt (hs (Cond.eq (Term.elem (Term.static "BitDrive" "HALVES" "[I") (Term.int 29)) (Term.int (13))) (by decide +kernel))
    | 30, _ => exact va_eqt (hs (Cond.eq (Term.elem (Term.static "BitDrive" "HALVES" "[I") (Term.int 30)) (Term.int (14))) (by decide +kernel))
    | 31, _ => exact va_eqt (hs (Cond.eq (Term.elem (Term.static "BitDrive" "HALVES" "[I") (Term.int 31)) (Term.int (-1))) (by decide +kernel))
    | j + 32, hj => exact absurd hj (by omega)) hA
  exact ⟨t, va_Zof hlay hini e1 hA, e2⟩
theorem st_FILE_TRACKS {args : Array Value} {s : State} {A : Nat → Prop} (hgv : (Jvm.Cond.and given_1 narrow_1).before args s = true) (hlay : (Cond.laysStatic "BitDrive" "FILE_TRACKS" "[I").before args s = true) (hini : (Cond.initialized "BitDrive").before args s = true) (hA : ∀ a : Nat, a < s.heap.size → ¬ A a) : ∃ t : Nat, va_Z "BitDrive" "FILE_TRACKS" "[I" (.ref t) A s s.heap ∧ va_T .int t 15 (fun j => .int (tFILES j)) A s s.heap := by
  have hs := flat_of_before _ hgv
  have harr : (Cond.arrayOf (Term.static "BitDrive" "FILE_TRACKS" "[I") .int).before args s = true := hs _ (by decide +kernel)
  have hlen := va_eqt (hs (Cond.eq (Term.length (Term.static "BitDrive" "FILE_TRACKS" "[I")) (Term.int 15)) (by decide +kernel))
  obtain ⟨t, e1, e2⟩ := va_Tof (N := 15) (f := fun j => .int (tFILES j)) (A := A) (by decide) harr hlen (fun j hj => by
    match j, hj with
    | 0, _ => exact va_eqt (hs (Cond.eq (Term.elem (Term.static "BitDrive" "FILE_TRACKS" "[I") (Term.int 0)) (Term.int (8))) (by decide +kernel))
    | 1, _ => exact va_eqt (hs (Cond.eq (Term.elem (Term.static "BitDrive" "FILE_TRACKS" "[I") (Term.int 1)) (Term.int (7))) (by decide +kernel))
    | 2, _ => exact va_eqt (hs (Cond.eq (Term.elem (Term.static "BitDrive" "FILE_TRACKS" "[I") (Term.int 2)) (Term.int (6))) (by decide +kernel))
    | 3, _ => exact va_eqt (hs (Cond.eq (Term.elem (Term.static "BitDrive" "FILE_TRACKS" "[I") (Term.int 3)) (Term.int (5))) (by decide +kernel))
    | 4, _ => exact va_eqt (hs (Cond.eq (Term.elem (Term.static "BitDrive" "FILE_TRACKS" "[I") (Term.int 4)) (Term.int (4))) (by decide +kernel))
    | 5, _ => exact va_eqt (hs (Cond.eq (Term.elem (Term.static "BitDrive" "FILE_TRACKS" "[I") (Term.int 5)) (Term.int (3))) (by decide +kernel))
    | 6, _ => exact va_eqt (hs (Cond.eq (Term.elem (Term.static "BitDrive" "FILE_TRACKS" "[I") (Term.int 6)) (Term.int (2))) (by decide +kernel))
    | 7, _ => exact va_eqt (hs (Cond.eq (Term.elem (Term.static "BitDrive" "FILE_TRACKS" "[I") (Term.int 7)) (Term.int (1))) (by decide +kernel))
    | 8, _ => exact va_eqt (hs (Cond.eq (Term.elem (Term.static "BitDrive" "FILE_TRACKS" "[I") (Term.int 8)) (Term.int (10))) (by decide +kernel))
    | 9, _ => exact va_eqt (hs (Cond.eq (Term.elem (Term.static "BitDrive" "FILE_TRACKS" "[I") (Term.int 9)) (Term.int (11))) (by decide +kernel))
    | 10, _ => exact va_eqt (hs (Cond.eq (Term.elem (Term.static "BitDrive" "FILE_TRACKS" "[I") (Term.int 10)) (Term.int (12))) (by decide +kernel))
    | 11, _ => exact va_eqt (hs (Cond.eq (Term.elem (Term.static "BitDrive" "FILE_TRACKS" "[I") (Term.int 11)) (Term.int (13))) (by decide +kernel))
    | 12, _ => exact va_eqt (hs (Cond.eq (Term.elem (Term.static "BitDrive" "FILE_TRACKS" "[I") (Term.int 12)) (Term.int (14))) (by decide +kernel))
    | 13, _ => exact va_eqt (hs (Cond.eq (Term.elem (Term.static "BitDrive" "FILE_TRACKS" "[I") (Term.int 13)) (Term.int (15))) (by decide +kernel))
    | 14, _ => exact va_eqt (hs (Cond.eq (Term.elem (Term.static "BitDrive" "FILE_TRACKS" "[I") (Term.int 14)) (Term.int (16))) (by decide +kernel))
    | j + 15, hj => exact absurd hj (by omega)) hA
  exact ⟨t, va_Zof hlay hini e1 hA, e2⟩
set_option maxHeartbeats 8000000 in
set_option maxRecDepth 100000 in
theorem whole_open {p : Program} {e : Env} {s : State} {m : MethodId} {below : List Frame} {meth : Method} {c : Code} (l : Launch) {b L : Nat} {xs : Nat → Int32} {Rel : Mm → Mm → Prop} {F : Nat} (hsim : SimAll Rel F) (hinit : Init Rel F) (hL : L ≤ 3072) (C0 : lw_At p s m meth c b L xs) : W p l e room_1 s m #[Value.ref b] below meth c s.heap [] 0 0 (lw_Z below #[Value.ref b] s) (entryFrame m ([Value.ref b] : List Value).toArray 4) := by
  obtain ⟨hx, hb, hr, hml, hown, hts, hX, hbl, hlocks, hgv⟩ := id C0
  have ht0 : ∀ w ∈ W0, w.before _ s = true := fun w h => hts w (W0_tbl h)
  have hown : s.vm.findClass RL = some m.cls := hown
  have hA : ∀ q : Nat, s.heap.size ≤ q → (fun q : Nat => s.heap.size ≤ q) q := fun _ h => h
  have hA2 : ∀ a : Nat, a < s.heap.size → ¬ (fun q : Nat => s.heap.size ≤ q) a := fun a h => Nat.not_le.mpr h
  have hO : va_AO RX5 s := va_AO.of (hts _ (tT1 46 rfl))
  obtain ⟨Y, hY⟩ := y_Y (ht0 _ m_AC_int) (ht0 _ m_AC_boolean) (hts (Cond.arrayOver (.object RX5)) (tT1 46 rfl))
  obtain ⟨c0, iS0, hKn0⟩ := u_known (C := RX0) (T := TX0) (N := 7) (n := 7) ht0 u_X0 (ht0 _ m_IA_X0)
  obtain ⟨c1, iS1, hKn1⟩ := u_known (C := RX1) (T := TX1) (N := 2) (n := 2) ht0 u_X1 (ht0 _ m_IA_X1)
  obtain ⟨c2, iS2, hKn2⟩ := u_known (C := RX2) (T := TX2) (N := 6) (n := 6) ht0 u_X2 (ht0 _ m_IA_X2)
  obtain ⟨c3, iS3, hKn3⟩ := u_known (C := RX3) (T := TX3) (N := 12) (n := 12) ht0 u_X3 (ht0 _ m_IA_X3)
  obtain ⟨c4, iS4, hKn4⟩ := u_known (C := RX4) (T := TX4) (N := 1) (n := 1) ht0 u_X4 (ht0 _ m_IA_X4)
  obtain ⟨c5, iS5, hKn5⟩ := u_known (C := RX5) (T := TX5) (N := 5) (n := 5) ht0 u_X5 (ht0 _ m_IA_X5)
  obtain ⟨c6, iS6, hKn6⟩ := u_known (C := RX6) (T := TX6) (N := 3) (n := 3) ht0 u_X6 (ht0 _ m_IA_X6)
  obtain ⟨c7, iS7, hKn7⟩ := u_known (C := RX7) (T := TX7) (N := 10) (n := 10) ht0 u_X7 (ht0 _ m_IA_X7)
  obtain ⟨c8, iS8, hKn8⟩ := u_known (C := RX8) (T := TX8) (N := 31) (n := 31) ht0 u_X8 (ht0 _ m_IA_X8)
  obtain ⟨dC, dI, hKc⟩ : ∃ (dC : Nat → ClassId) (dI : Nat → Nat → Nat), ∀ (k : Nat) (q : vw_C), vwCl[k]? = some q → u_Kn s q.1 q.2.1 q.2.2 (dC k) (dI k) := by
    refine ⟨fun k => if k = 0 then c0 else if k = 1 then c1 else if k = 2 then c2 else if k = 3 then c3 else if k = 4 then c4 else if k = 5 then c5 else if k = 6 then c6 else if k = 7 then c7 else c8, fun k => if k = 0 then iS0 else if k = 1 then iS1 else if k = 2 then iS2 else if k = 3 then iS3 else if k = 4 then iS4 else if k = 5 then iS5 else if k = 6 then iS6 else if k = 7 then iS7 else iS8, ?_⟩
    intro k q hq
    match k, hq with
    | 0, hq => cases hq; exact hKn0
    | 1, hq => cases hq; exact hKn1
    | 2, hq => cases hq; exact hKn2
    | 3, hq => cases hq; exact hKn3
    | 4, hq => cases hq; exact hKn4
    | 5, hq => cases hq; exact hKn5
    | 6, hq => cases hq; exact hKn6
    | 7, hq => cases hq; exact hKn7
    | 8, hq => cases hq; exact hKn8
    | k + 9, hq => simp at hq
  obtain ⟨dd, hdd⟩ : ∃ z : Dd, z = (dC, dI) := ⟨_, rfl⟩
  have hK : va_K dd vwCl (tyL Y) s := by rw [hdd]; exact ⟨hKc, hY⟩
  obtain ⟨t_FIVES, z_FIVES, y_FIVES⟩ := st_FIVES (A := fun q : Nat => s.heap.size ≤ q) hgv (hts _ (tT1 98 rfl)) (ht0 _ m_IN_X7) hA2
  obtain ⟨t_HALVES, z_HALVES, y_HALVES⟩ := st_HALVES (A := fun q : Nat => s.heap.size ≤ q) hgv (hts _ (tT2 149 rfl)) (ht0 _ m_IN_X7) hA2
  obtain ⟨t_FILE_TRACKS, z_FILE_TRACKS, y_FILE_TRACKS⟩ := st_FILE_TRACKS (A := fun q : Nat => s.heap.size ≤ q) hgv (hts _ (tT2 210 rfl)) (ht0 _ m_IN_X7) hA2
  have hN : Nst s := ⟨va_Nw.of rfl (hts (.fieldLinkNest RX5 39 "BitDrive" "FIVES" "[I" "BitDrive") (tT1 97 rfl)), va_Nw.of rfl (hts (.fieldLinkNest RX5 46 "BitDrive" "HALVES" "[I" "BitDrive") (tT2 148 rfl)), va_Nw.of rfl (hts (.fieldLinkNest RX2 33 "BitDrive" "FILE_TRACKS" "[I" "BitDrive") (tT2 209 rfl)), va_Nw.of rfl (hts (.fieldLinkNest RX4 40 "BitDrive" "FILE_TRACKS" "[I" "BitDrive") (tT3 64 rfl)), va_Nw.of rfl (hts (.methodLinkNest RX7 11 yX6_init "BitDrive") (tT1 22 rfl)), va_Nw.of rfl (hts (.methodLinkNest RX7 27 yX4_init "BitDrive") (tT1 127 rfl)), va_Nw.of rfl (hts (.methodLinkNest RX4 15 yX7_clearRow "BitDrive") (tT2 78 rfl)), va_Nw.of rfl (hts (.methodLinkNest RX4 29 yX7_fillName "BitDrive") (tT2 89 rfl)), va_Nw.of rfl (hts (.methodLinkNest RX3 66 yX7_hasName "BitDrive") (tT2 170 rfl)), va_Nw.of rfl (hts (.methodLinkNest RX3 101 yX7_clearRow "BitDrive") (tT2 200 rfl))⟩
  have hT : Sta (t_FIVES, t_HALVES, t_FILE_TRACKS) (fun q : Nat => s.heap.size ≤ q) s := ⟨z_FIVES, y_FIVES, z_HALVES, y_HALVES, z_FILE_TRACKS, y_FILE_TRACKS, hN⟩
  generalize (t_FIVES, t_HALVES, t_FILE_TRACKS) = t at hT
  obtain ⟨E1, E2, E3, e1, e2, e3, e4, dM, hf1, hf2, hf3, hs1, hs2, hs3, hs4, hs5, hsd, hrel⟩ := hinit
  have hS : va_S (fun q : Nat => s.heap.size ≤ q) s.heap s.heap [] := va_S.rf
  have hP : va_P dd vwCl (wW Y gE (fun _ => 0) dZ) s.heap := fun k q h => by simp [wW, gE, gn] at h
  have hD : va_D (fun q : Nat => s.heap.size ≤ q) (wW Y gE (fun _ => 0) dZ) := ⟨fun i j p q h => by simp [wW, gE, gn] at h, fun k q h => by simp [wW, gE, gn] at h⟩
  have clE : Cl gE := fun c i v hc hv => by cases hv
  have hl := lv_entry ([.ref b]) (n := 4) (Nat.le_of_ble_eq_true rfl)
  rw [lg_entry_eq]
  generalize (lg_sl ([.ref b]) ++ List.replicate (4 - (lg_sl ([.ref b])).length) Slot.unset).toArray = ls at hl ⊢
  have hl : lv_has ls 4 [(0, .ref b)] := hl
  refine y_new (ci := 7) (fs := [.null, .null, .null, .null, .null, .null, .null, .null, .null, .null]) hx hb ht0 u_X7 tyX7 tyX7_ok hown (ht0 _ m_CL_L_7) (ht0 _ m_IA_X7) (ht0 _ m_IN_X7) hK hP hD hS hA clE rfl rfl (by decide +kernel) (Nat.le_of_ble_eq_true rfl) (Nat.le_of_ble_eq_true rfl) dL_law_0 (fun a_x H hP hD hS => ?_)
  obtain ⟨ad1, had1⟩ : ∃ z, z = va_up (fun _ => 0) (gn gE) a_x := ⟨_, rfl⟩
  have e_x : ad1 0 = a_x := by rw [had1]; rfl
  rw [← had1] at hP hD
  rw [show gPush gE 7 0 = gX0 from rfl, show upA dZ (gn gE) (fun _ => 0) = dX0 from rfl] at hP hD
  rw [← e_x]
  refine lv_dup hx hb dL_law_3 rfl ?_
  have cl0 : Cl gX0 := clE.push
  refine y_callIk (h := 0) (As := []) ⟨hx, hb, hml, hown, ht0⟩ hO hK hT hP hD hS hA (c_X7_init l dd Y t gX0 ad1 H.size (wD_ij hD) cl0 dX0 0 ⟨by decide, rfl⟩ F E1 E2 E3 hf1 hf2 hf3) m_ML_L_9 m_IM_X7_init m_IN_X7 m_CO_X7_init rfl hd_X7_init rfl rfl ⟨Nat.le_of_ble_eq_true rfl, Nat.le_of_ble_eq_true rfl⟩ rfl hl.1 rfl (Nat.le_of_ble_eq_true rfl) dL_law_4 ⟨Nat.le_of_ble_eq_true rfl, Nat.le_of_ble_eq_true rfl⟩ (fun adx H locs hw hPx hD1 hDx hk1 hS => ?_)
  rw [x7_XG] at hPx hDx
  have e_x2 : adx 0 = ad1 0 := hw 0 (by decide)
  rw [← e_x2]
  clear hP hD hk1 hw hD1
  generalize m_X7_init gX0 dX0 E3 0 = Dx0 at hPx hDx hrel
  refine lv_astore_n (lv' := [(1, .ref (adx 0)), (0, .ref b)]) hx hb dL_law_7 rfl hl (by decide) rfl (fun ls hl => ?_)
  refine va_new (ci := 8) (fs := [.null, .null, .null, .null, .int 0, .null, .int 0, .null, .int 0, .int 0, .int 0, .int 0, .int 0, .int 0, .int 0, .null, .int 0, .int 0, .null, .null, .null, .null, .null, .int 0, .int 0, .int 0, .null, .null, .int 0, .int 0, .int 0]) hx hb ht0 u_X8 tyX8 tyX8_ok hown (ht0 _ m_CL_L_10) (ht0 _ m_IA_X8) (ht0 _ m_IN_X8) hK hPx hDx hS hA rfl (by decide +kernel) (Nat.le_of_ble_eq_true rfl) (Nat.le_of_ble_eq_true rfl) dL_law_8 (fun a_m H hP2 hD2 hS => ?_)
  have hlen : (wW Y XG adx Dx0).length = 73 := by simp [wW, XG, gn]
  have hPx : va_P dd vwCl (wW Y XG adx Dx0) H := fun k q hk => hP2 k q (by rw [List.getElem?_append_left ((List.getElem?_eq_some_iff.mp hk).1)]; exact hk)
  have hlast : (wW Y XG adx Dx0 ++ [(a_m, (Sum.inr (8, [.null, .null, .null, .null, .int 0, .null, .int 0, .null, .int 0, .int 0, .int 0, .int 0, .int 0, .int 0, .int 0, .null, .int 0, .int 0, .null, .null, .null, .null, .null, .int 0, .int 0, .int 0, .null, .null, .int 0, .int 0, .int 0]) : va_E))])[73]? = some (a_m, Sum.inr (8, [.null, .null, .null, .null, .int 0, .null, .int 0, .null, .int 0, .int 0, .int 0, .int 0, .int 0, .int 0, .int 0, .null, .int 0, .int 0, .null, .null, .null, .null, .null, .int 0, .int 0, .int 0, .null, .null, .int 0, .int 0, .int 0])) := by
    rw [List.getElem?_append_right (by omega), hlen]; rfl
  have hdm : ∀ c, c < gn XG → adx c ≠ a_m := by
    intro c hc q
    have h1 : (wW Y XG adx Dx0 ++ [(a_m, (Sum.inr (8, [.null, .null, .null, .null, .int 0, .null, .int 0, .null, .int 0, .int 0, .int 0, .int 0, .int 0, .int 0, .int 0, .null, .int 0, .int 0, .null, .null, .null, .null, .null, .int 0, .int 0, .int 0, .null, .null, .int 0, .int 0, .int 0]) : va_E))])[c]? = some (adx c, cE Y (gK XG c) (gN XG c) (pE XG adx c) (Dx0 c)) := by
      rw [List.getElem?_append_left (by rw [hlen]; exact hc)]
      exact wW_at hc rfl
    have := hD2.1 c 73 _ _ h1 hlast q
    have hc : c < 73 := hc
    omega
  obtain ⟨ad2, had2⟩ : ∃ z, z = va_up (fun _ => 0) (gn gE) a_m := ⟨_, rfl⟩
  have e_m : ad2 0 = a_m := by rw [had2]; rfl
  have hwm : wW Y gM0 ad2 dZ = [(a_m, (Sum.inr (8, [.null, .null, .null, .null, .int 0, .null, .int 0, .null, .int 0, .int 0, .int 0, .int 0, .int 0, .int 0, .int 0, .null, .int 0, .int 0, .null, .null, .null, .null, .null, .int 0, .int 0, .int 0, .null, .null, .int 0, .int 0, .int 0]) : va_E))] := by
    rw [had2]; rfl
  have hPm : va_P dd vwCl (wW Y gM0 ad2 dZ) H := by
    rw [hwm]
    intro k q hk
    have hz : k < 1 := (List.getElem?_eq_some_iff.mp hk).1
    rw [show k = 0 by omega] at hk
    cases hk
    exact hP2 73 _ hlast
  have hDm : va_D (fun q : Nat => s.heap.size ≤ q) (wW Y gM0 ad2 dZ) := by
    rw [hwm]
    refine ⟨fun i j p q h1 h2 _ => ?_, fun k q hk => ?_⟩
    · have h1 : i < 1 := (List.getElem?_eq_some_iff.mp h1).1
      have h2 : j < 1 := (List.getElem?_eq_some_iff.mp h2).1
      omega
    · have hz : k < 1 := (List.getElem?_eq_some_iff.mp hk).1
      rw [show k = 0 by omega] at hk
      cases hk
      exact hD2.2 73 _ hlast
  rw [← e_m]
  refine lv_dup hx hb dL_law_11 rfl ?_
  refine y_callIk (h := 0) (As := []) ⟨hx, hb, hml, hown, ht0⟩ hO hK hT hPm hDm hS hA (c_X8_init l dd Y t ad2 H.size (wD_ij hDm) F e1 e2 e3 e4 dM hs1 hs2 hs3 hs4 hs5 hsd) m_ML_L_12 m_IM_X8_init m_IN_X8 m_CO_X8_init rfl hd_X8_init rfl rfl ⟨Nat.le_of_ble_eq_true rfl, Nat.le_of_ble_eq_true rfl⟩ rfl hl.1 rfl (Nat.le_of_ble_eq_true rfl) dL_law_12 ⟨Nat.le_of_ble_eq_true rfl, Nat.le_of_ble_eq_true rfl⟩ (fun adm H1 locs hw hPm1 hD3 hDm1 hk1 hS => ?_)
  have e_m2 : adm 0 = ad2 0 := hw 0 (by decide)
  rw [← e_m2]
  have hout : ∀ c, c < gn XG → ¬ aA gM0 ad2 H.size (adx c) := by
    intro c hc q
    rcases q with ⟨c', hc', q⟩ | q
    · have : c' = 0 := by have hc' : c' < 1 := hc'; omega
      subst this
      exact hdm c hc (by rw [← q, e_m])
    · exact absurd ((hPx c _ (wW_at hc rfl)).lt) (Nat.not_lt.mpr q)
  have hdj : ∀ c c', c < gn XG → c' < gn MG → adx c ≠ adm c' := by
    intro c c' hc hc' q
    exact hout c hc (by rw [q]; exact hD3.2 c' _ (wW_at hc' rfl))
  have hPx1 : va_P dd vwCl (wW Y XG adx Dx0) H1 := by
    refine va_P.kept hPx (fun k q hq => ?_)
    have hn : k < gn XG := by have := (List.getElem?_eq_some_iff.mp hq).1; rw [hlen] at this; exact this
    have hq1 : q.1 = adx k := by
      have := wW_at (Y := Y) (G := XG) (ad := adx) (D := Dx0) hn rfl
      rw [this] at hq
      rw [← Option.some.inj hq]
    refine hk1 q.1 ((hPx k q hq).lt) ?_
    rw [hq1]
    exact hout k hn
  refine lv_astore_n (lv' := [(2, .ref (adm 0)), (1, .ref (adx 0)), (0, .ref b)]) hx hb dL_law_15 rfl hl (by decide) rfl (fun ls hl => ?_)
  refine lv_iconst (v := 0) hx hb dL_law_16 (by decide) ?_
  refine lv_istore_n (lv' := [(3, .int 0), (2, .ref (adm 0)), (1, .ref (adx 0)), (0, .ref b)]) hx hb dL_law_17 rfl hl (by decide) rfl (fun ls hl => ?_)
  refine W.widen (k := 1000) (n := 1000000) (Nat.le_of_ble_eq_true rfl) (Nat.le_of_ble_eq_true rfl) ?_
  exact law_loop hL C0 hK hT hsim hdj (L + 1) 0 0 (by omega) (by omega) nI_0.symm Dx0 dM hrel H1 locs hPx1 hPm1 hDx hDm1 hS ls (lv_sub hl [3, 2, 1, 0] rfl)
