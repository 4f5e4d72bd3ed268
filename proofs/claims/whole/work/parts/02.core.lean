/-! CORE: the memory of a system by codes (a code is the number of a cell by the order of its making), its world, rows over it -/
abbrev Mm : Type := Nat → Nat → Int32
def upA (D : Mm) (c : Nat) (f : Nat → Int32) : Mm := fun c' => if c' = c then f else D c'
def up2 (D : Mm) (c k : Nat) (v : Int32) : Mm := upA D c (upd (D c) k v)
/-- the graph: how many cells, the kind of each, the length of each array, what each reference leads to -/
abbrev Gr : Type := Nat × (Nat → Nat) × (Nat → Nat) × (Nat → Nat → Option Nat)
def gn (G : Gr) : Nat := G.1
def gK (G : Gr) : Nat → Nat := G.2.1
def gN (G : Gr) : Nat → Nat := G.2.2.1
def gP (G : Gr) : Nat → Nat → Option Nat := G.2.2.2
abbrev Yc : Type := ClassId × ClassId × ClassId
abbrev tyL (Y : Yc) : List (ClassId × FieldType) := [(Y.1, .int), (Y.2.1, .boolean), (Y.2.2, .object RX5)]
def cE (Y : Yc) (k N : Nat) (p : Nat → Option Nat) (d : Nat → Int32) : va_E := match k with
  | 0 => .inr (0, [va_rf (p 0), va_rf (p 1), va_rf (p 2), .int (d 3), .int (d 4), .int (d 5), .int (d 6)])
  | 1 => .inr (1, [va_rf (p 0), .int (d 1)])
  | 2 => .inr (2, [va_rf (p 0), va_rf (p 1), va_rf (p 2), va_rf (p 3), .int (d 4), va_rf (p 5)])
  | 3 => .inr (3, [va_rf (p 0), va_rf (p 1), va_rf (p 2), .int (d 3), .int (d 4), .int (d 5), .int (d 6), .int (d 7), va_rf (p 8), .int (d 9), .int (d 10), .int (d 11)])
  | 4 => .inr (4, [va_rf (p 0)])
  | 5 => .inr (5, [va_rf (p 0), .int (d 1), va_rf (p 2), .int (d 3), .int (d 4)])
  | 6 => .inr (6, [.int (d 0), .int (d 1), .int (d 2)])
  | 7 => .inr (7, [va_rf (p 0), va_rf (p 1), va_rf (p 2), va_rf (p 3), va_rf (p 4), va_rf (p 5), va_rf (p 6), va_rf (p 7), va_rf (p 8), va_rf (p 9)])
  | 8 => .inr (8, [va_rf (p 0), va_rf (p 1), va_rf (p 2), va_rf (p 3), .int (d 4), va_rf (p 5), .int (d 6), va_rf (p 7), .int (d 8), .int (d 9), .int (d 10), .int (d 11), .int (d 12), .int (d 13), .int (d 14), va_rf (p 15), .int (d 16), .int (d 17), va_rf (p 18), va_rf (p 19), va_rf (p 20), va_rf (p 21), va_rf (p 22), .int (d 23), .int (d 24), .int (d 25), va_rf (p 26), va_rf (p 27), .int (d 28), .int (d 29), .int (d 30)])
  | 9 => .inl (Y.1, N, .inl d)
  | 10 => .inl (Y.2.1, N, .inl d)
  | _ => .inl (Y.2.2, N, .inr (.inr (.inr (.inr p))))
theorem ce0 {Y : Yc} {k N : Nat} {p : Nat → Option Nat} {d : Nat → Int32} (h : k = 0) : cE Y k N p d = .inr (0, [va_rf (p 0), va_rf (p 1), va_rf (p 2), .int (d 3), .int (d 4), .int (d 5), .int (d 6)]) := by subst h; rfl
theorem ce1 {Y : Yc} {k N : Nat} {p : Nat → Option Nat} {d : Nat → Int32} (h : k = 1) : cE Y k N p d = .inr (1, [va_rf (p 0), .int (d 1)]) := by subst h; rfl
theorem ce2 {Y : Yc} {k N : Nat} {p : Nat → Option Nat} {d : Nat → Int32} (h : k = 2) : cE Y k N p d = .inr (2, [va_rf (p 0), va_rf (p 1), va_rf (p 2), va_rf (p 3), .int (d 4), va_rf (p 5)]) := by subst h; rfl
theorem ce3 {Y : Yc} {k N : Nat} {p : Nat → Option Nat} {d : Nat → Int32} (h : k = 3) : cE Y k N p d = .inr (3, [va_rf (p 0), va_rf (p 1), va_rf (p 2), .int (d 3), .int (d 4), .int (d 5), .int (d 6), .int (d 7), va_rf (p 8), .int (d 9), .int (d 10), .int (d 11)]) := by subst h; rfl
theorem ce4 {Y : Yc} {k N : Nat} {p : Nat → Option Nat} {d : Nat → Int32} (h : k = 4) : cE Y k N p d = .inr (4, [va_rf (p 0)]) := by subst h; rfl
theorem ce5 {Y : Yc} {k N : Nat} {p : Nat → Option Nat} {d : Nat → Int32} (h : k = 5) : cE Y k N p d = .inr (5, [va_rf (p 0), .int (d 1), va_rf (p 2), .int (d 3), .int (d 4)]) := by subst h; rfl
theorem ce6 {Y : Yc} {k N : Nat} {p : Nat → Option Nat} {d : Nat → Int32} (h : k = 6) : cE Y k N p d = .inr (6, [.int (d 0), .int (d 1), .int (d 2)]) := by subst h; rfl
theorem ce7 {Y : Yc} {k N : Nat} {p : Nat → Option Nat} {d : Nat → Int32} (h : k = 7) : cE Y k N p d = .inr (7, [va_rf (p 0), va_rf (p 1), va_rf (p 2), va_rf (p 3), va_rf (p 4), va_rf (p 5), va_rf (p 6), va_rf (p 7), va_rf (p 8), va_rf (p 9)]) := by subst h; rfl
theorem ce8 {Y : Yc} {k N : Nat} {p : Nat → Option Nat} {d : Nat → Int32} (h : k = 8) : cE Y k N p d = .inr (8, [va_rf (p 0), va_rf (p 1), va_rf (p 2), va_rf (p 3), .int (d 4), va_rf (p 5), .int (d 6), va_rf (p 7), .int (d 8), .int (d 9), .int (d 10), .int (d 11), .int (d 12), .int (d 13), .int (d 14), va_rf (p 15), .int (d 16), .int (d 17), va_rf (p 18), va_rf (p 19), va_rf (p 20), va_rf (p 21), va_rf (p 22), .int (d 23), .int (d 24), .int (d 25), va_rf (p 26), va_rf (p 27), .int (d 28), .int (d 29), .int (d 30)]) := by subst h; rfl
def pE (G : Gr) (ad : Nat → Nat) (c : Nat) : Nat → Option Nat := fun i => (gP G c i).map ad
def wW (Y : Yc) (G : Gr) (ad : Nat → Nat) (D : Mm) : va_W := (List.range (gn G)).map (fun c => (ad c, cE Y (gK G c) (gN G c) (pE G ad c) (D c)))
theorem wW_at {Y : Yc} {G : Gr} {ad : Nat → Nat} {D : Mm} {c : Nat} {e : va_E} (h : c < gn G) (he : cE Y (gK G c) (gN G c) (pE G ad c) (D c) = e) : (wW Y G ad D)[c]? = some (ad c, e) := by
  subst he
  simp [wW, h]
theorem wW_set {Y : Yc} {G : Gr} {ad : Nat → Nat} {D D' : Mm} {c : Nat} {e : va_E} (h : c < gn G) (he : cE Y (gK G c) (gN G c) (pE G ad c) (D' c) = e) (ho : ∀ c', c' ≠ c → D' c' = D c') : (wW Y G ad D).set c (ad c, e) = wW Y G ad D' := by
  subst he
  apply List.ext_getElem?
  intro i
  rw [List.getElem?_set]
  by_cases hi : c = i
  · subst hi
    simp [wW, h]
  · rw [if_neg hi]
    by_cases hn : i < gn G
    · simp [wW, hn, ho i (fun q => hi q.symm)]
    · simp [wW, hn]
/-- what may change: the cells of the graph -/
def pA (G : Gr) (ad : Nat → Nat) : Nat → Prop := fun q => ∃ c, c < gn G ∧ ad c = q
abbrev Ij (G : Gr) (ad : Nat → Nat) : Prop := ∀ i j, i < gn G → j < gn G → ad i = ad j → i = j
theorem wW_D {Y : Yc} {G : Gr} {ad : Nat → Nat} {D : Mm} (ij : Ij G ad) : va_D (pA G ad) (wW Y G ad D) := by
  have key : ∀ (k : Nat) (q : Nat × va_E), (wW Y G ad D)[k]? = some q → k < gn G ∧ q.1 = ad k := by
    intro k q hq
    by_cases hn : k < gn G
    · simp [wW, hn] at hq
      exact ⟨hn, by rw [← hq]⟩
    · simp [wW, hn] at hq
  refine ⟨fun i j p q hp hq e => ?_, fun k q hq => ?_⟩
  · obtain ⟨a1, a2⟩ := key i p hp
    obtain ⟨b1, b2⟩ := key j q hq
    exact ij i j a1 b1 (by rw [← a2, ← b2, e])
  · obtain ⟨a1, a2⟩ := key k q hq
    exact ⟨k, a1, a2.symm⟩
def AtK (G : Gr) (c k : Nat) : Prop := c < gn G ∧ gK G c = k
theorem rfv {G : Gr} {ad : Nat → Nat} {c k c' : Nat} (h : gP G c k = some c') : some (va_rf (pE G ad c k)) = some (Value.ref (ad c')) := by
  unfold pE
  rw [h]
  rfl
-- tables of the class's constants
def tFIVES : Nat → Int32 := fun j => [10, 11, 18, 19, 14, 15, 22, 23, 9, 25, 26, 27, 13, 29, 30, 21].getD j 0
def tHALVES : Nat → Int32 := fun j => [-1, -1, -1, -1, -1, -1, -1, -1, -1, 8, 0, 1, -1, 12, 4, 5, -1, -1, 2, 3, -1, 15, 6, 7, -1, 9, 10, 11, -1, 13, 14, -1].getD j 0
def tFILES : Nat → Int32 := fun j => [8, 7, 6, 5, 4, 3, 2, 1, 10, 11, 12, 13, 14, 15, 16].getD j 0
/-- the words on nest mates -/
def Nst (U : State) : Prop :=
  va_Nw (.fieldLinkNest RX5 39 "BitDrive" "FIVES" "[I" "BitDrive") U ∧
  va_Nw (.fieldLinkNest RX5 46 "BitDrive" "HALVES" "[I" "BitDrive") U ∧
  va_Nw (.fieldLinkNest RX2 33 "BitDrive" "FILE_TRACKS" "[I" "BitDrive") U ∧
  va_Nw (.fieldLinkNest RX4 40 "BitDrive" "FILE_TRACKS" "[I" "BitDrive") U ∧
  va_Nw (.methodLinkNest RX7 11 yX6_init "BitDrive") U ∧
  va_Nw (.methodLinkNest RX7 27 yX4_init "BitDrive") U ∧
  va_Nw (.methodLinkNest RX4 15 yX7_clearRow "BitDrive") U ∧
  va_Nw (.methodLinkNest RX4 29 yX7_fillName "BitDrive") U ∧
  va_Nw (.methodLinkNest RX3 66 yX7_hasName "BitDrive") U ∧
  va_Nw (.methodLinkNest RX3 101 yX7_clearRow "BitDrive") U
theorem Nst.warm {s U : State} (hW : s.WarmedH U.vm) (h : Nst s) : Nst U := by
  obtain ⟨a1, a2, a3, a4, b1, b2, b3, b4, b5, b6⟩ := h
  exact ⟨a1.warmF hW, a2.warmF hW, a3.warmF hW, a4.warmF hW, b1.warmM hW, b2.warmM hW, b3.warmM hW, b4.warmM hW, b5.warmM hW, b6.warmM hW⟩
theorem Nst.same {s U : State} (hW : s.vm = U.vm) (h : Nst s) : Nst U := by
  obtain ⟨a1, a2, a3, a4, b1, b2, b3, b4, b5, b6⟩ := h
  exact ⟨a1.same rfl hW, a2.same rfl hW, a3.same rfl hW, a4.same rfl hW, b1.same rfl hW, b2.same rfl hW, b3.same rfl hW, b4.same rfl hW, b5.same rfl hW, b6.same rfl hW⟩
abbrev Ts3 : Type := Nat × Nat × Nat
/-- the static arrays, at t, outside of A -/
def Sta (t : Ts3) (A : Nat → Prop) (U : State) : Prop :=
  va_Z "BitDrive" "FIVES" "[I" (.ref t.1) A U U.heap ∧ va_T .int t.1 16 (fun j => .int (tFIVES j)) A U U.heap ∧
  va_Z "BitDrive" "HALVES" "[I" (.ref t.2.1) A U U.heap ∧ va_T .int t.2.1 32 (fun j => .int (tHALVES j)) A U U.heap ∧
  va_Z "BitDrive" "FILE_TRACKS" "[I" (.ref t.2.2) A U U.heap ∧ va_T .int t.2.2 15 (fun j => .int (tFILES j)) A U U.heap ∧ Nst U
theorem Sta.go {t : Ts3} {A : Nat → Prop} {s U : State} {H : Heap} {locs : List Loc} (hS : va_S A s.heap H locs) (hU : U.heap = H) (hW : s.WarmedH U.vm) (h : Sta t A s) : Sta t A U := by
  obtain ⟨a1, a2, a3, a4, a5, a6, a7⟩ := h
  have hq : ∀ a : Nat, a < s.heap.size → ¬ A a → U.heap[a]? = s.heap[a]? := fun a h1 h2 => by rw [hU]; exact hS.2.1 a h1 h2
  have al := hW.alike
  exact ⟨(a1.kept hq).moved al, (a2.kept hq).moved al, (a3.kept hq).moved al, (a4.kept hq).moved al, (a5.kept hq).moved al, (a6.kept hq).moved al, a7.warm hW⟩
theorem Sta.same {t : Ts3} {A : Nat → Prop} {s U : State} (hH : s.heap = U.heap) (hV : s.vm = U.vm) (h : Sta t A s) : Sta t A U := by
  obtain ⟨a1, a2, a3, a4, a5, a6, a7⟩ := h
  have al : s.vm.Alike U.vm := by rw [hV]; exact Vm.Alike.refl U.vm
  rw [hH] at a1 a2 a3 a4 a5 a6
  exact ⟨a1.moved al, a2.moved al, a3.moved al, a4.moved al, a5.moved al, a6.moved al, a7.same hV⟩
abbrev Dd : Type := va_G
/-- the world: the cells, the classes, the static arrays -/
def Wd (dd : Dd) (Y : Yc) (t : Ts3) (G : Gr) (ad : Nat → Nat) (D : Mm) (U : State) : Prop := va_P dd vwCl (wW Y G ad D) U.heap ∧ va_K dd vwCl (tyL Y) U ∧ Sta t (pA G ad) U
theorem Wd.blind {dd : Dd} {Y : Yc} {t : Ts3} {G : Gr} {ad : Nat → Nat} {D : Mm} {av : List Value} : FrameBlind (va_Pc av (Wd dd Y t G ad D)) := by
  intro a U g mk h
  obtain ⟨h1, h2, h3, h4⟩ := h
  exact ⟨h1, h2, va_K.moved (u := U) (U := U.calling g mk a) (Vm.Alike.refl U.vm) h3, h4.same rfl rfl⟩
theorem Wd.go {dd : Dd} {Y : Yc} {t : Ts3} {G : Gr} {ad : Nat → Nat} {D : Mm} {s U : State} {H : Heap} {locs : List Loc} (hP : va_P dd vwCl (wW Y G ad D) H) (hK : va_K dd vwCl (tyL Y) s) (hT : Sta t (pA G ad) s) (hS : va_S (pA G ad) s.heap H locs) (hU : U.heap = H) (hW : s.WarmedH U.vm) : Wd dd Y t G ad D U :=
  ⟨by rw [hU]; exact hP, va_K.moved hW.alike hK, hT.go hS hU hW⟩
/-- the end of a contract: the answer r0, the memory D' -/
abbrev Qi (dd : Dd) (Y : Yc) (G : Gr) (ad : Nat → Nat) (ty : FieldType) (r0 : Int32) (D' : Mm) : Array Value → State → Outcome → State → Prop := va_Qi (fun (r : Int32) (u : Mm) => r = r0 ∧ u = D' ∧ narrow ty (.int r) = .int r) (fun u t => va_P dd vwCl (wW Y G ad u) t.heap) (pA G ad)
abbrev Qv (dd : Dd) (Y : Yc) (G : Gr) (ad : Nat → Nat) (D' : Mm) : Array Value → State → Outcome → State → Prop := va_Qv (fun (u : Mm) => u = D') (fun u t => va_P dd vwCl (wW Y G ad u) t.heap) (pA G ad)
-- pure helpers
def inB (i : Int32) (n : Nat) : Bool := decide (¬ (i < 0 ∨ n ≤ i.toNatClampNeg))
theorem inB_in {i : Int32} {n : Nat} (h : inB i n = true) : vp_in i n := by
  have q : ¬ (i < 0 ∨ n ≤ i.toNatClampNeg) := of_decide_eq_true h
  exact q
theorem x_if {c : Prop} {α : Type} {a : Option α} {r : α} {_ : Decidable c} (h : (if c then a else none) = some r) : c ∧ a = some r := by
  by_cases hc : c
  · rw [if_pos hc] at h; exact ⟨hc, h⟩
  · rw [if_neg hc] at h; cases h
theorem x_ifn {c : Prop} {α : Type} {a : Option α} {r : α} {_ : Decidable c} (h : (if c then none else a) = some r) : ¬ c ∧ a = some r := by
  by_cases hc : c
  · rw [if_pos hc] at h; cases h
  · rw [if_neg hc] at h; exact ⟨hc, h⟩
theorem x_t {c : Prop} {α : Type} {a b r : α} {_ : Decidable c} (hc : c) (h : (if c then a else b) = r) : a = r := by rw [if_pos hc] at h; exact h
theorem x_f {c : Prop} {α : Type} {a b r : α} {_ : Decidable c} (hc : ¬ c) (h : (if c then a else b) = r) : b = r := by rw [if_neg hc] at h; exact h
abbrev Rs : Type := Option (Int32 × Mm)
def bi (x : Rs) (k : Int32 → Mm → Rs) : Rs := match x with
  | none => none
  | some q => k q.1 q.2
theorem bi_some {x : Rs} {k : Int32 → Mm → Rs} {r : Int32 × Mm} (h : bi x k = some r) : ∃ v D, x = some (v, D) ∧ k v D = some r := by
  cases x with
  | none => cases h
  | some q => exact ⟨q.1, q.2, rfl, h⟩
abbrev jrem (x y : Int32) : Int32 := x - x / y * y
abbrev jush (x y : Int32) : Int32 := (x.toUInt32 >>> (y.toUInt32 &&& Int32.toUInt32 31)).toInt32
section X1
variable {p : Program} {l : Launch} {e : Env} {R : Room} {s : State} {m : MethodId} {args : Array Value} {below : List Frame} {meth : Method} {c : Code} {H : Heap} {locs : List Loc} {cells slots : Nat} {Q : State → Prop} {cc : ByteArray} {pc : Nat} {ls : Array Slot} {rest st0 : List Value} {dd : Dd} {Y : Yc} {t : Ts3} {G : Gr} {ad : Nat → Nat} {D : Mm}
theorem x_get (hx : p.tables.exec = Jvm.exec) (hb : c.code = cc) {own ref C : String} {T : u_T} {N ci index : Nat} {Ts : List Cond} (hts : ∀ w ∈ Ts, w.before args s = true) (hin : ∀ w ∈ u_ws C T N, w ∈ Ts) (hown : s.vm.findClass own = some m.cls) (hK : va_K dd vwCl (tyL Y) s) (hP : va_P dd vwCl (wW Y G ad D) H) {q0 : Nat} {fs : List Value} (hn : q0 < gn G) (he : cE Y (gK G q0) (gN G q0) (pE G ad q0) (D q0) = .inr (ci, fs)) (hc : vwCl[ci]? = some (C, T, N)) (k : Nat) (hk : k < N) (hlink : (Cond.fieldLink own index ref (T k).2.1 (T k).2.2.1).before args s = true) (hsame : (T k).1 = ref) {v : Value} (hv : fs[k]? = some v) (hdg : decode cc pc = .ok (.getfield index, 3))
    (kk : W p l e R s m args below meth c H locs cells slots Q (F0 m (pc + 3) ls (v :: rest))) : W p l e R s m args below meth c H locs cells slots Q (F0 m pc ls (.ref (ad q0) :: rest)) :=
  va_get hx hb hts hin hown hK hP q0 (wW_at hn he) hc k hk hlink (fun x h => by rw [← hsame]; exact h) hv hdg kk
theorem x_put (hx : p.tables.exec = Jvm.exec) (hb : c.code = cc) {own ref C : String} {T : u_T} {N ci index : Nat} {Ts : List Cond} (hts : ∀ w ∈ Ts, w.before args s = true) (hin : ∀ w ∈ u_ws C T N, w ∈ Ts) (ty0 : Nat → FieldType) (hty : ∀ k, k < N → parseFieldDescriptor (T k).2.2.1 = some (ty0 k)) (hnm : ∀ a, a < N → ∀ b, b < N → a ≠ b → (T a).2.1 ≠ (T b).2.1) (hown : s.vm.findClass own = some m.cls) (hK : va_K dd vwCl (tyL Y) s) (ij : Ij G ad) (hP : va_P dd vwCl (wW Y G ad D) H) (hS : va_S (pA G ad) s.heap H locs) {q0 : Nat} {fs : List Value} (hn : q0 < gn G) (he : cE Y (gK G q0) (gN G q0) (pE G ad q0) (D q0) = .inr (ci, fs)) (hc : vwCl[ci]? = some (C, T, N)) (k : Nat) (hk : k < N) (hlink : (Cond.fieldLink own index ref (T k).2.1 (T k).2.2.1).before args s = true) (hsame : (T k).1 = ref) (hfin : (T k).2.2.2 = false) {ty : FieldType} {x : Int32} (hd : parseFieldDescriptor (T k).2.2.1 = some ty) (hnr : narrow ty (.int x) = .int x) (hfit : fits ty (.int x) = true) (hl : k < fs.length) (he2 : cE Y (gK G q0) (gN G q0) (pE G ad q0) (upd (D q0) k x) = .inr (ci, fs.set k (.int x)))
    (hdg : decode cc pc = .ok (.putfield index, 3)) (kk : ∀ (H1 : Heap) (locs1 : List Loc), va_P dd vwCl (wW Y G ad (up2 D q0 k x)) H1 → va_S (pA G ad) s.heap H1 locs1 → W p l e R s m args below meth c H1 locs1 cells slots Q (F0 m (pc + 3) ls rest)) : W p l e R s m args below meth c H locs cells slots Q (F0 m pc ls (.int x :: .ref (ad q0) :: rest)) := by
  refine va_put hx hb hts hin ty0 hty hnm hown hK hP (wW_D ij) hS q0 (wW_at hn he) hc k hk hlink (fun x h => by rw [← hsame]; exact h) hfin hd hnr hfit hl hdg (fun H1 locs1 hP1 _ hS1 => ?_)
  rw [wW_set (D' := up2 D q0 k x) hn (by simp [up2, upA]; exact he2) (fun c' hc' => by simp [up2, upA, hc'])] at hP1
  exact kk H1 locs1 hP1 hS1
theorem x_ald (hx : p.tables.exec = Jvm.exec) (hb : c.code = cc) (hK : va_K dd vwCl (tyL Y) s) (hP : va_P dd vwCl (wW Y G ad D) H) {q0 : Nat} (ha : AtK G q0 9) {i : Int32} (hin : inB i (gN G q0) = true) (hdg : decode cc pc = .ok (.iaload, 1))
    (kk : W p l e R s m args below meth c H locs cells slots Q (F0 m (pc + 1) ls (.int (D q0 i.toNatClampNeg) :: rest))) : W p l e R s m args below meth c H locs cells slots Q (F0 m pc ls (.int i :: .ref (ad q0) :: rest)) :=
  va_iald (cA := Y.1) (n := gN G q0) (f := D q0) hx hb hK hP q0 0 (wW_at ha.1 (by rw [ha.2]; rfl)) rfl (inB_in hin) hdg kk
theorem x_zld (hx : p.tables.exec = Jvm.exec) (hb : c.code = cc) (hK : va_K dd vwCl (tyL Y) s) (hP : va_P dd vwCl (wW Y G ad D) H) {q0 : Nat} (ha : AtK G q0 10) {i : Int32} (hin : inB i (gN G q0) = true) (hdg : decode cc pc = .ok (.baload, 1))
    (kk : W p l e R s m args below meth c H locs cells slots Q (F0 m (pc + 1) ls (.int (D q0 i.toNatClampNeg) :: rest))) : W p l e R s m args below meth c H locs cells slots Q (F0 m pc ls (.int i :: .ref (ad q0) :: rest)) :=
  va_zald (cA := Y.2.1) (n := gN G q0) (f := D q0) hx hb hK hP q0 1 (wW_at ha.1 (by rw [ha.2]; rfl)) rfl (inB_in hin) hdg kk
theorem x_ast (hx : p.tables.exec = Jvm.exec) (hb : c.code = cc) (hK : va_K dd vwCl (tyL Y) s) (ij : Ij G ad) (hP : va_P dd vwCl (wW Y G ad D) H) (hS : va_S (pA G ad) s.heap H locs) {q0 : Nat} (ha : AtK G q0 9) {i x : Int32} (hin : inB i (gN G q0) = true) (hdg : decode cc pc = .ok (.iastore, 1))
    (kk : ∀ (H1 : Heap) (locs1 : List Loc), va_P dd vwCl (wW Y G ad (up2 D q0 i.toNatClampNeg x)) H1 → va_S (pA G ad) s.heap H1 locs1 → W p l e R s m args below meth c H1 locs1 cells slots Q (F0 m (pc + 1) ls rest)) : W p l e R s m args below meth c H locs cells slots Q (F0 m pc ls (.int x :: .int i :: .ref (ad q0) :: rest)) := by
  refine va_iast (cA := Y.1) (n := gN G q0) (f := D q0) hx hb hK hP (wW_D ij) hS q0 0 (wW_at ha.1 (by rw [ha.2]; rfl)) rfl (inB_in hin) hdg (fun H1 locs1 hP1 _ hS1 => ?_)
  rw [wW_set (D' := up2 D q0 i.toNatClampNeg x) ha.1 (by rw [ha.2]; simp [up2, upA, cE]) (fun c' hc' => by simp [up2, upA, hc'])] at hP1
  exact kk H1 locs1 hP1 hS1
theorem x_zst (hx : p.tables.exec = Jvm.exec) (hb : c.code = cc) (hK : va_K dd vwCl (tyL Y) s) (ij : Ij G ad) (hP : va_P dd vwCl (wW Y G ad D) H) (hS : va_S (pA G ad) s.heap H locs) {q0 : Nat} (ha : AtK G q0 10) {i x : Int32} (hin : inB i (gN G q0) = true) (hdg : decode cc pc = .ok (.bastore, 1))
    (kk : ∀ (H1 : Heap) (locs1 : List Loc), va_P dd vwCl (wW Y G ad (up2 D q0 i.toNatClampNeg (vp_nar .boolean x))) H1 → va_S (pA G ad) s.heap H1 locs1 → W p l e R s m args below meth c H1 locs1 cells slots Q (F0 m (pc + 1) ls rest)) : W p l e R s m args below meth c H locs cells slots Q (F0 m pc ls (.int x :: .int i :: .ref (ad q0) :: rest)) := by
  refine va_zast (cA := Y.2.1) (n := gN G q0) (f := D q0) hx hb hK hP (wW_D ij) hS q0 1 (wW_at ha.1 (by rw [ha.2]; rfl)) rfl (inB_in hin) hdg (fun H1 locs1 hP1 _ hS1 => ?_)
  rw [wW_set (D' := up2 D q0 i.toNatClampNeg (vp_nar .boolean x)) ha.1 (by rw [ha.2]; simp [up2, upA, cE]) (fun c' hc' => by simp [up2, upA, hc'])] at hP1
  exact kk H1 locs1 hP1 hS1
theorem x_len (hx : p.tables.exec = Jvm.exec) (hb : c.code = cc) (hK : va_K dd vwCl (tyL Y) s) (hP : va_P dd vwCl (wW Y G ad D) H) {q0 : Nat} (ha : AtK G q0 9) (hdg : decode cc pc = .ok (.arraylength, 1))
    (kk : W p l e R s m args below meth c H locs cells slots Q (F0 m (pc + 1) ls (.int (nI (gN G q0)) :: rest))) : W p l e R s m args below meth c H locs cells slots Q (F0 m pc ls (.ref (ad q0) :: rest)) :=
  va_alen (cA := Y.1) (x := (gN G q0, .inl (D q0))) hx hb hK hP q0 0 (wW_at ha.1 (by rw [ha.2]; rfl)) rfl rfl hdg kk
theorem x_cpy (hx : p.tables.exec = Jvm.exec) (hb : c.code = cc) (hml : c.maxLocals = ls.size) {own : String} {index : Nat} (hown : s.vm.findClass own = some m.cls) (hlink : (Cond.methodLink own index arraycopyName).before args s = true) (hnat : (Cond.native arraycopyName).before args s = true) (hstat : (Cond.static arraycopyName).before args s = true) (hini : (Cond.initialized "java/lang/System").before args s = true) (hK : va_K dd vwCl (tyL Y) s) (ij : Ij G ad) (hP : va_P dd vwCl (wW Y G ad D) H) (hS : va_S (pA G ad) s.heap H locs) {q0 q1 : Nat} (ha : AtK G q0 9) (ha1 : AtK G q1 9) {sp dp n : Int32} (hc : (decide (¬ sp < 0 ∧ ¬ dp < 0 ∧ ¬ n < 0 ∧ sp.toNatClampNeg + n.toNatClampNeg ≤ gN G q0 ∧ dp.toNatClampNeg + n.toNatClampNeg ≤ gN G q1)) = true) (hfr : 1 ≤ R.frames) (hlo : (rest.map fun v => v.category).sum + (nativeFrameWords "java/lang/System" "arraycopy" 5 + 11) ≤ R.locals) (hdg : decode cc pc = .ok (.invokestatic index, 3))
    (kk : ∀ (H1 : Heap) (locs1 : List Loc), va_P dd vwCl (wW Y G ad (upA D q1 (va_cpy (D q0) (D q1) sp.toNatClampNeg dp.toNatClampNeg n.toNatClampNeg))) H1 → va_S (pA G ad) s.heap H1 locs1 → W p l e R s m args below meth c H1 locs1 cells slots Q (F0 m (pc + 3) ls rest)) : W p l e R s m args below meth c H locs cells slots Q (F0 m pc ls (.int n :: .int dp :: .ref (ad q1) :: .int sp :: .ref (ad q0) :: rest)) := by
  obtain ⟨h1, h2, h3, h4, h5⟩ := of_decide_eq_true hc
  refine va_copyi (c0 := Y.1) (c1 := Y.1) (n0 := gN G q0) (n1 := gN G q1) (f := D q0) (g := D q1) (ty := .int) hx hb hml hown hlink hnat hstat hini hK hP (wW_D ij) hS q0 q1 0 0 (wW_at ha.1 (by rw [ha.2]; rfl)) (wW_at ha1.1 (by rw [ha1.2]; rfl)) rfl rfl rfl h1 h2 h3 h4 h5 (fun _ _ => rfl) hfr hlo hdg (fun H1 locs1 hP1 _ hS1 => ?_)
  rw [wW_set (D' := upA D q1 (va_cpy (D q0) (D q1) sp.toNatClampNeg dp.toNatClampNeg n.toNatClampNeg)) ha1.1 (by rw [ha1.2]; simp [upA, cE]) (fun c' hc' => by simp [upA, hc'])] at hP1
  exact kk H1 locs1 hP1 hS1
theorem x_iret {ty : FieldType} {v r0 : Int32} {D' : Mm} (hx : p.tables.exec = Jvm.exec) (hb : c.code = cc) (hr : meth.sig.returnType = some ty) (hlocks : meth.locks = false) (hn : narrow ty (.int v) = .int v) (hP : va_P dd vwCl (wW Y G ad D) H) (hS : va_S (pA G ad) s.heap H locs) (h : some (v, D) = some (r0, D')) (hdg : decode cc pc = .ok (.ireturn, 1)) : W p l e R s m args below meth c H locs 0 0 (MQ below (Qi dd Y G ad ty r0 D') args s 0 0 (pA G ad)) (F0 m pc ls [.int v]) := by
  obtain ⟨e1, e2⟩ := Prod.mk.inj (Option.some.inj h)
  subst e1 e2
  exact W.zret hx hb hr hn (fun t ht hW => ⟨⟨v, D, rfl, ⟨rfl, rfl, hn⟩, by show va_P dd vwCl (wW Y G ad D) t.heap; rw [ht]; exact hP⟩, hS.F ht⟩) hS.2.2 hdg hlocks
theorem x_vret {r0 : Int32} {D' : Mm} (hx : p.tables.exec = Jvm.exec) (hb : c.code = cc) (hr : meth.sig.returnType = none) (hlocks : meth.locks = false) (hP : va_P dd vwCl (wW Y G ad D) H) (hS : va_S (pA G ad) s.heap H locs) (h : some ((0 : Int32), D) = some (r0, D')) (hdg : decode cc pc = .ok (.return_, 1)) : W p l e R s m args below meth c H locs 0 0 (MQ below (Qv dd Y G ad D') args s 0 0 (pA G ad)) (F0 m pc ls []) := by
  obtain ⟨e1, e2⟩ := Prod.mk.inj (Option.some.inj h)
  subst e2
  exact W.vret hx hb hr (fun t ht hW => ⟨⟨D, rfl, rfl, by show va_P dd vwCl (wW Y G ad D) t.heap; rw [ht]; exact hP⟩, hS.F ht⟩) hS.2.2 hdg hlocks
variable {y : MethodName} {bytes : ByteArray} {maxL nL n index : Nat} {ret : Option FieldType} {rm : Room} {own C : String} {h : Nat} {As : List Value} {D1 : Mm} {r0 : Int32} {ty : FieldType}
theorem x_callVi (S : CallFix p m c cc nL s args W0 own) (hK : va_K dd vwCl (tyL Y) s) (hT : Sta t (pA G ad) s) (hP : va_P dd vwCl (wW Y G ad D) H) (hS : va_S (pA G ad) s.heap H locs) (hM : Met l y (.code y bytes maxL ret :: W0) rm (va_Pc (.ref (ad h) :: As) (Wd dd Y t G ad D)) (Qi dd Y G ad ty r0 D1) 0 0 (pA G ad)) (h1 : Cond.methodLink own index y ∈ W0) (hs : Cond.instanceMethod y ∈ W0 ∧ Cond.selects C y y ∈ W0 ∧ Cond.initialized C ∈ W0 ∧ Cond.code y bytes maxL ret ∈ W0) (hd : y.cls = C ∧ y.cls ≠ "java/lang/invoke/MethodHandle" ∧ y.cls ≠ "java/lang/invoke/VarHandle" ∧ (parseMethodDescriptor y.desc).map (fun d => d.parameters.length) = some n) (hrc : rm.cells = 0) (hrs : rm.slots = 0) (hR : rm.frames + 1 ≤ R.frames ∧ 8 + (maxL + 11) + rm.locals ≤ R.locals)
    {ci : Nat} {T : u_T} {N : Nat} {fs : List Value} (hn : h < gn G) (he : cE Y (gK G h) (gN G h) (pE G ad h) (D h) = .inr (ci, fs)) (hc : vwCl[ci]? = some (C, T, N)) (hl : As.length = n) (hsize : ls.size = nL) (hst : st0 = As.reverse ++ .ref (ad h) :: rest) (hW : (rest.map fun v => v.category).sum ≤ 8) (hdg : decode cc pc = .ok (.invokevirtual index, 3)) (hcs : cells + 0 ≤ R.cells ∧ slots + 0 ≤ R.slots)
    (kk : ∀ (H1 : Heap) (locs1 : List Loc), narrow ty (.int r0) = .int r0 → va_P dd vwCl (wW Y G ad D1) H1 → va_S (pA G ad) s.heap H1 locs1 → W p l e R s m args below meth c H1 locs1 cells slots Q (F0 m (pc + 3) ls (.int r0 :: rest))) : W p l e R s m args below meth c H locs cells slots Q (F0 m pc ls st0) := by
  refine va_calli (va_runV (As := As) (rest := rest) S hM (cwV n S.2.2.2.2 (gV h1 hs.1 hs.2.1 hs.2.2.1 hs.2.2.2) rfl hrc hrs hd hR) ⟨Wd.blind, va_recv hK hP hc (wW_at hn he), fun U hU hW => ⟨rfl, Wd.go hP hK hT hS hU hW⟩⟩ rfl hl hsize hst (lv_room hW) hdg hcs) hS (fun _ _ h => h) (fun _ h => h) (fun r u t H1 locs1 ht _ hw hB _ _ hS1 => ?_)
  obtain ⟨rfl, rfl, hnr⟩ := hw
  rw [ht] at hB
  exact kk H1 locs1 hnr hB hS1
theorem x_callVv (S : CallFix p m c cc nL s args W0 own) (hK : va_K dd vwCl (tyL Y) s) (hT : Sta t (pA G ad) s) (hP : va_P dd vwCl (wW Y G ad D) H) (hS : va_S (pA G ad) s.heap H locs) (hM : Met l y (.code y bytes maxL ret :: W0) rm (va_Pc (.ref (ad h) :: As) (Wd dd Y t G ad D)) (Qv dd Y G ad D1) 0 0 (pA G ad)) (h1 : Cond.methodLink own index y ∈ W0) (hs : Cond.instanceMethod y ∈ W0 ∧ Cond.selects C y y ∈ W0 ∧ Cond.initialized C ∈ W0 ∧ Cond.code y bytes maxL ret ∈ W0) (hd : y.cls = C ∧ y.cls ≠ "java/lang/invoke/MethodHandle" ∧ y.cls ≠ "java/lang/invoke/VarHandle" ∧ (parseMethodDescriptor y.desc).map (fun d => d.parameters.length) = some n) (hrc : rm.cells = 0) (hrs : rm.slots = 0) (hR : rm.frames + 1 ≤ R.frames ∧ 8 + (maxL + 11) + rm.locals ≤ R.locals)
    {ci : Nat} {T : u_T} {N : Nat} {fs : List Value} (hn : h < gn G) (he : cE Y (gK G h) (gN G h) (pE G ad h) (D h) = .inr (ci, fs)) (hc : vwCl[ci]? = some (C, T, N)) (hl : As.length = n) (hsize : ls.size = nL) (hst : st0 = As.reverse ++ .ref (ad h) :: rest) (hW : (rest.map fun v => v.category).sum ≤ 8) (hdg : decode cc pc = .ok (.invokevirtual index, 3)) (hcs : cells + 0 ≤ R.cells ∧ slots + 0 ≤ R.slots)
    (kk : ∀ (H1 : Heap) (locs1 : List Loc), va_P dd vwCl (wW Y G ad D1) H1 → va_S (pA G ad) s.heap H1 locs1 → W p l e R s m args below meth c H1 locs1 cells slots Q (F0 m (pc + 3) ls rest)) : W p l e R s m args below meth c H locs cells slots Q (F0 m pc ls st0) := by
  refine va_callv (va_runV (As := As) (rest := rest) S hM (cwV n S.2.2.2.2 (gV h1 hs.1 hs.2.1 hs.2.2.1 hs.2.2.2) rfl hrc hrs hd hR) ⟨Wd.blind, va_recv hK hP hc (wW_at hn he), fun U hU hW => ⟨rfl, Wd.go hP hK hT hS hU hW⟩⟩ rfl hl hsize hst (lv_room hW) hdg hcs) hS (fun _ _ h => h) (fun _ h => h) (fun u t H1 locs1 ht _ hw hB _ _ hS1 => ?_)
  subst hw
  rw [ht] at hB
  exact kk H1 locs1 hB hS1
theorem x_callSi (S : CallFix p m c cc nL s args W0 own) (hK : va_K dd vwCl (tyL Y) s) (hT : Sta t (pA G ad) s) (hP : va_P dd vwCl (wW Y G ad D) H) (hS : va_S (pA G ad) s.heap H locs) (hM : Met l y (.code y bytes maxL ret :: W0) rm (va_Pc As (Wd dd Y t G ad D)) (Qi dd Y G ad ty r0 D1) 0 0 (pA G ad)) (h1 : Cond.methodLink own index y ∈ W0) (hs : Cond.static y ∈ W0 ∧ Cond.initialized y.cls ∈ W0 ∧ Cond.code y bytes maxL ret ∈ W0) (hd : y.cls = C ∧ y.cls ≠ "java/lang/invoke/MethodHandle" ∧ y.cls ≠ "java/lang/invoke/VarHandle" ∧ (parseMethodDescriptor y.desc).map (fun d => d.parameters.length) = some n) (hrc : rm.cells = 0) (hrs : rm.slots = 0) (hR : rm.frames + 1 ≤ R.frames ∧ 8 + (maxL + 11) + rm.locals ≤ R.locals)
    (hl : As.length = n) (hsize : ls.size = nL) (hst : st0 = As.reverse ++ rest) (hW : (rest.map fun v => v.category).sum ≤ 8) (hdg : decode cc pc = .ok (.invokestatic index, 3)) (hcs : cells + 0 ≤ R.cells ∧ slots + 0 ≤ R.slots)
    (kk : ∀ (H1 : Heap) (locs1 : List Loc), narrow ty (.int r0) = .int r0 → va_P dd vwCl (wW Y G ad D1) H1 → va_S (pA G ad) s.heap H1 locs1 → W p l e R s m args below meth c H1 locs1 cells slots Q (F0 m (pc + 3) ls (.int r0 :: rest))) : W p l e R s m args below meth c H locs cells slots Q (F0 m pc ls st0) := by
  refine va_calli (va_runS (As := As) (rest := rest) S hM (va_cwS n S.2.2.2.2 (gS h1 hs.1 hs.2.1 hs.2.2) rfl hrc hrs hd.2 hR) ⟨Wd.blind, fun U hU hW => ⟨rfl, Wd.go hP hK hT hS hU hW⟩⟩ rfl hl hsize hst (lv_room hW) hdg hcs) hS (fun _ _ h => h) (fun _ h => h) (fun r u t H1 locs1 ht _ hw hB _ _ hS1 => ?_)
  obtain ⟨rfl, rfl, hnr⟩ := hw
  rw [ht] at hB
  exact kk H1 locs1 hnr hB hS1
theorem x_callSv (S : CallFix p m c cc nL s args W0 own) (hK : va_K dd vwCl (tyL Y) s) (hT : Sta t (pA G ad) s) (hP : va_P dd vwCl (wW Y G ad D) H) (hS : va_S (pA G ad) s.heap H locs) (hM : Met l y (.code y bytes maxL ret :: W0) rm (va_Pc As (Wd dd Y t G ad D)) (Qv dd Y G ad D1) 0 0 (pA G ad)) (h1 : Cond.methodLink own index y ∈ W0) (hs : Cond.static y ∈ W0 ∧ Cond.initialized y.cls ∈ W0 ∧ Cond.code y bytes maxL ret ∈ W0) (hd : y.cls = C ∧ y.cls ≠ "java/lang/invoke/MethodHandle" ∧ y.cls ≠ "java/lang/invoke/VarHandle" ∧ (parseMethodDescriptor y.desc).map (fun d => d.parameters.length) = some n) (hrc : rm.cells = 0) (hrs : rm.slots = 0) (hR : rm.frames + 1 ≤ R.frames ∧ 8 + (maxL + 11) + rm.locals ≤ R.locals)
    (hl : As.length = n) (hsize : ls.size = nL) (hst : st0 = As.reverse ++ rest) (hW : (rest.map fun v => v.category).sum ≤ 8) (hdg : decode cc pc = .ok (.invokestatic index, 3)) (hcs : cells + 0 ≤ R.cells ∧ slots + 0 ≤ R.slots)
    (kk : ∀ (H1 : Heap) (locs1 : List Loc), va_P dd vwCl (wW Y G ad D1) H1 → va_S (pA G ad) s.heap H1 locs1 → W p l e R s m args below meth c H1 locs1 cells slots Q (F0 m (pc + 3) ls rest)) : W p l e R s m args below meth c H locs cells slots Q (F0 m pc ls st0) := by
  refine va_callv (va_runS (As := As) (rest := rest) S hM (va_cwS n S.2.2.2.2 (gS h1 hs.1 hs.2.1 hs.2.2) rfl hrc hrs hd.2 hR) ⟨Wd.blind, fun U hU hW => ⟨rfl, Wd.go hP hK hT hS hU hW⟩⟩ rfl hl hsize hst (lv_room hW) hdg hcs) hS (fun _ _ h => h) (fun _ h => h) (fun u t H1 locs1 ht _ hw hB _ _ hS1 => ?_)
  subst hw
  rw [ht] at hB
  exact kk H1 locs1 hB hS1
theorem x_callNi {host : String} (S : CallFix p m c cc nL s args W0 own) (hK : va_K dd vwCl (tyL Y) s) (hT : Sta t (pA G ad) s) (hP : va_P dd vwCl (wW Y G ad D) H) (hS : va_S (pA G ad) s.heap H locs) (hM : Met l y (.code y bytes maxL ret :: W0) rm (va_Pc As (Wd dd Y t G ad D)) (Qi dd Y G ad ty r0 D1) 0 0 (pA G ad)) (h1 : va_Nw (.methodLinkNest own index y host) s) (hs : Cond.static y ∈ W0 ∧ Cond.initialized y.cls ∈ W0 ∧ Cond.code y bytes maxL ret ∈ W0) (hd : y.cls = C ∧ y.cls ≠ "java/lang/invoke/MethodHandle" ∧ y.cls ≠ "java/lang/invoke/VarHandle" ∧ (parseMethodDescriptor y.desc).map (fun d => d.parameters.length) = some n) (hrc : rm.cells = 0) (hrs : rm.slots = 0) (hR : rm.frames + 1 ≤ R.frames ∧ 8 + (maxL + 11) + rm.locals ≤ R.locals)
    (hl : As.length = n) (hsize : ls.size = nL) (hst : st0 = As.reverse ++ rest) (hW : (rest.map fun v => v.category).sum ≤ 8) (hdg : decode cc pc = .ok (.invokestatic index, 3)) (hcs : cells + 0 ≤ R.cells ∧ slots + 0 ≤ R.slots)
    (kk : ∀ (H1 : Heap) (locs1 : List Loc), narrow ty (.int r0) = .int r0 → va_P dd vwCl (wW Y G ad D1) H1 → va_S (pA G ad) s.heap H1 locs1 → W p l e R s m args below meth c H1 locs1 cells slots Q (F0 m (pc + 3) ls (.int r0 :: rest))) : W p l e R s m args below meth c H locs cells slots Q (F0 m pc ls st0) := by
  refine va_calli (va_runSN (As := As) (rest := rest) S hM ⟨va_cnB n S.2.2.2.2 (gC hs.2.2) rfl hrc hrs h1 (S.2.2.2.2 _ hs.2.1) hd.2 hR, S.2.2.2.2 _ hs.1, trivial⟩ ⟨Wd.blind, fun U hU hW => ⟨rfl, Wd.go hP hK hT hS hU hW⟩⟩ rfl hl hsize hst (lv_room hW) hdg hcs) hS (fun _ _ h => h) (fun _ h => h) (fun r u t H1 locs1 ht _ hw hB _ _ hS1 => ?_)
  obtain ⟨rfl, rfl, hnr⟩ := hw
  rw [ht] at hB
  exact kk H1 locs1 hnr hB hS1
theorem x_callNv {host : String} (S : CallFix p m c cc nL s args W0 own) (hK : va_K dd vwCl (tyL Y) s) (hT : Sta t (pA G ad) s) (hP : va_P dd vwCl (wW Y G ad D) H) (hS : va_S (pA G ad) s.heap H locs) (hM : Met l y (.code y bytes maxL ret :: W0) rm (va_Pc As (Wd dd Y t G ad D)) (Qv dd Y G ad D1) 0 0 (pA G ad)) (h1 : va_Nw (.methodLinkNest own index y host) s) (hs : Cond.static y ∈ W0 ∧ Cond.initialized y.cls ∈ W0 ∧ Cond.code y bytes maxL ret ∈ W0) (hd : y.cls = C ∧ y.cls ≠ "java/lang/invoke/MethodHandle" ∧ y.cls ≠ "java/lang/invoke/VarHandle" ∧ (parseMethodDescriptor y.desc).map (fun d => d.parameters.length) = some n) (hrc : rm.cells = 0) (hrs : rm.slots = 0) (hR : rm.frames + 1 ≤ R.frames ∧ 8 + (maxL + 11) + rm.locals ≤ R.locals)
    (hl : As.length = n) (hsize : ls.size = nL) (hst : st0 = As.reverse ++ rest) (hW : (rest.map fun v => v.category).sum ≤ 8) (hdg : decode cc pc = .ok (.invokestatic index, 3)) (hcs : cells + 0 ≤ R.cells ∧ slots + 0 ≤ R.slots)
    (kk : ∀ (H1 : Heap) (locs1 : List Loc), va_P dd vwCl (wW Y G ad D1) H1 → va_S (pA G ad) s.heap H1 locs1 → W p l e R s m args below meth c H1 locs1 cells slots Q (F0 m (pc + 3) ls rest)) : W p l e R s m args below meth c H locs cells slots Q (F0 m pc ls st0) := by
  refine va_callv (va_runSN (As := As) (rest := rest) S hM ⟨va_cnB n S.2.2.2.2 (gC hs.2.2) rfl hrc hrs h1 (S.2.2.2.2 _ hs.2.1) hd.2 hR, S.2.2.2.2 _ hs.1, trivial⟩ ⟨Wd.blind, fun U hU hW => ⟨rfl, Wd.go hP hK hT hS hU hW⟩⟩ rfl hl hsize hst (lv_room hW) hdg hcs) hS (fun _ _ h => h) (fun _ h => h) (fun u t H1 locs1 ht _ hw hB _ _ hS1 => ?_)
  subst hw
  rw [ht] at hB
  exact kk H1 locs1 hB hS1
theorem x_callVq (S : CallFix p m c cc nL s args W0 own) (hK : va_K dd vwCl (tyL Y) s) (hT : Sta t (pA G ad) s) (hP : va_P dd vwCl (wW Y G ad D) H) (hS : va_S (pA G ad) s.heap H locs) {qo : Option Nat} (hM : Met l y (.code y bytes maxL ret :: W0) rm (va_Pc (.ref (ad h) :: As) (Wd dd Y t G ad D)) (va_Qq (fun (r : Option Nat) (u : Mm) => r = qo.map ad ∧ u = D1) (fun u t => va_P dd vwCl (wW Y G ad u) t.heap) (pA G ad)) 0 0 (pA G ad)) (h1 : Cond.methodLink own index y ∈ W0) (hs : Cond.instanceMethod y ∈ W0 ∧ Cond.selects C y y ∈ W0 ∧ Cond.initialized C ∈ W0 ∧ Cond.code y bytes maxL ret ∈ W0) (hd : y.cls = C ∧ y.cls ≠ "java/lang/invoke/MethodHandle" ∧ y.cls ≠ "java/lang/invoke/VarHandle" ∧ (parseMethodDescriptor y.desc).map (fun d => d.parameters.length) = some n) (hrc : rm.cells = 0) (hrs : rm.slots = 0) (hR : rm.frames + 1 ≤ R.frames ∧ 8 + (maxL + 11) + rm.locals ≤ R.locals)
    {ci : Nat} {T : u_T} {N : Nat} {fs : List Value} (hn : h < gn G) (he : cE Y (gK G h) (gN G h) (pE G ad h) (D h) = .inr (ci, fs)) (hc : vwCl[ci]? = some (C, T, N)) (hl : As.length = n) (hsize : ls.size = nL) (hst : st0 = As.reverse ++ .ref (ad h) :: rest) (hW : (rest.map fun v => v.category).sum ≤ 8) (hdg : decode cc pc = .ok (.invokevirtual index, 3)) (hcs : cells + 0 ≤ R.cells ∧ slots + 0 ≤ R.slots)
    (k0 : qo = none → ∀ (H1 : Heap) (locs1 : List Loc), va_P dd vwCl (wW Y G ad D1) H1 → va_S (pA G ad) s.heap H1 locs1 → W p l e R s m args below meth c H1 locs1 cells slots Q (F0 m (pc + 3) ls (.null :: rest)))
    (k1 : ∀ q, qo = some q → ∀ (H1 : Heap) (locs1 : List Loc), va_P dd vwCl (wW Y G ad D1) H1 → va_S (pA G ad) s.heap H1 locs1 → W p l e R s m args below meth c H1 locs1 cells slots Q (F0 m (pc + 3) ls (.ref (ad q) :: rest))) : W p l e R s m args below meth c H locs cells slots Q (F0 m pc ls st0) := by
  refine va_callq (va_runV (As := As) (rest := rest) S hM (cwV n S.2.2.2.2 (gV h1 hs.1 hs.2.1 hs.2.2.1 hs.2.2.2) rfl hrc hrs hd hR) ⟨Wd.blind, va_recv hK hP hc (wW_at hn he), fun U hU hW => ⟨rfl, Wd.go hP hK hT hS hU hW⟩⟩ rfl hl hsize hst (lv_room hW) hdg hcs) hS (fun _ _ h => h) (fun _ h => h) (fun r u t H1 locs1 ht _ hw hB _ _ hS1 => ?_)
  obtain ⟨rfl, rfl⟩ := hw
  rw [ht] at hB
  cases qo with
  | none => exact k0 rfl H1 locs1 hB hS1
  | some q => exact k1 q rfl H1 locs1 hB hS1
end X1
theorem x_sw {x : Int32} {k : Int32} (h : ¬ x = k) : x.toInt ≠ k.toInt := fun q => h (Int32.toInt_inj.mp q)
def bq (x : Option Nat) (a : Rs) (b : Nat → Rs) : Rs := match x with
  | none => a
  | some q => b q
theorem bq_n {x : Option Nat} {a : Rs} {b : Nat → Rs} {r : Int32 × Mm} (hq : x = none) (h : bq x a b = some r) : a = some r := by subst hq; exact h
theorem bq_s {x : Option Nat} {a : Rs} {b : Nat → Rs} {r : Int32 × Mm} {q : Nat} (hq : x = some q) (h : bq x a b = some r) : b q = some r := by subst hq; exact h

abbrev IArr (G : Gr) (c : Nat) : Prop := AtK G c 9
def RingAt (G : Gr) (h : Nat) : Prop := AtK G h 5 ∧ gP G h 0 = some (h + 1) ∧ gP G h 2 = some (h + 2) ∧ AtK G (h + 1) 9 ∧ AtK G (h + 2) 9
def BytesAt (G : Gr) (h : Nat) : Prop := AtK G h 1 ∧ gP G h 0 = some (h + 1) ∧ AtK G (h + 1) 9
