/-! DISK: frames of the calls on the disk; a block fetched, a block stored, the disk opened, names -/
def DX (l : List Nat) (Dx D1 : Mm) : Prop := D1 2 3 = Dx 2 3 ∧ ∀ c, 52 ≤ c → c ∉ l → D1 c = Dx c
def rdK : List Nat := [9, 10, 11, 12, 13, 14, 16, 17, 29, 30]
def DM (l k : List Nat) (Dm D1 : Mm) : Prop := (∀ c, 2 ≤ c → c ≠ 7 → c ≠ 8 → c ∉ l → D1 c = Dm c) ∧ ∀ j, j ∉ rdK → j ∉ k → D1 0 j = Dm 0 j
theorem DX.refl (l : List Nat) (D : Mm) : DX l D D := ⟨rfl, fun _ _ _ => rfl⟩
theorem DM.refl (l k : List Nat) (D : Mm) : DM l k D D := ⟨fun _ _ _ _ _ => rfl, fun _ _ _ => rfl⟩
theorem DX.trans {l : List Nat} {A B C : Mm} (h1 : DX l A B) (h2 : DX l B C) : DX l A C := ⟨h2.1.trans h1.1, fun c a b => (h2.2 c a b).trans (h1.2 c a b)⟩
theorem DM.trans {l k : List Nat} {A B C : Mm} (h1 : DM l k A B) (h2 : DM l k B C) : DM l k A C := ⟨fun c a b d e => (h2.1 c a b d e).trans (h1.1 c a b d e), fun j a b => (h2.2 j a b).trans (h1.2 j a b)⟩
theorem DX.mono {l m : List Nat} {A B : Mm} (h : DX l A B) (s : ∀ c, c ∈ l → c ∈ m) : DX m A B := ⟨h.1, fun c a b => h.2 c a (fun q => b (s c q))⟩
theorem DM.mono {l m k n : List Nat} {A B : Mm} (h : DM l k A B) (s : ∀ c, c ∈ l → c ∈ m) (s2 : ∀ c, c ∈ k → c ∈ n) : DM m n A B := ⟨fun c a b d e => h.1 c a b d (fun q => e (s c q)), fun j a b => h.2 j a (fun q => b (s2 j q))⟩
def tX (e t s : Int32) (D : Mm) : Mm := up2 (up2 (up2 D 1 0 e) 1 1 t) 1 2 s
def tM (e t s : Int32) (D : Mm) : Mm := up2 (up2 (up2 D 0 9 e) 0 10 t) 0 11 s
theorem tX_o {e t s : Int32} {D : Mm} {c : Nat} (h : c ≠ 1) : tX e t s D c = D c := by unfold tX; rw [up2_o h, up2_o h, up2_o h]
theorem tM_o {e t s : Int32} {D : Mm} {c : Nat} (h : c ≠ 0) : tM e t s D c = D c := by unfold tM; rw [up2_o h, up2_o h, up2_o h]
theorem tM_0 {e t s : Int32} {D : Mm} {k : Nat} (h : k ≠ 9 ∧ k ≠ 10 ∧ k ≠ 11) : tM e t s D 0 k = D 0 k := by unfold tM; rw [up2_app, if_neg (by omega), up2_app, if_neg (by omega), up2_app, if_neg (by omega)]
theorem tX_0 {e t s : Int32} {D : Mm} : tX e t s D 1 0 = e := by unfold tX; simp [up2_app]
theorem t_stt {e t s : Int32} {D E : Mm} : Stt (tX e t s D) (tM e t s E) := by unfold Stt tX tM; simp [up2_app]
theorem t_core {e t s : Int32} {D E : Mm} (h : Core D E) : Core (tX e t s D) (tM e t s E) :=
  h.ups (fun c a b => tX_o (by omega)) (fun c a b => tM_o (by omega)) (fun k hk => tM_0 (by omega))
theorem tX_dx {e t s : Int32} {D : Mm} (l : List Nat) : DX l D (tX e t s D) := ⟨by rw [tX_o (by decide)], fun c a _ => tX_o (by omega)⟩
theorem tM_dm {e t s : Int32} {D : Mm} (l k : List Nat) : DM l k D (tM e t s D) := ⟨fun c a _ _ _ => tM_o (by omega), fun j a _ => tM_0 ⟨fun q => a (by rw [q]; decide), fun q => a (by rw [q]; decide), fun q => a (by rw [q]; decide)⟩⟩
theorem RdX.dx {u : Nat} {A B : Mm} (h : RdX u A B) : DX [u] A B := ⟨h.2, fun c a b => h.1 c (fun q => b (by rw [q]; exact List.mem_singleton.mpr rfl)) (Or.inr a)⟩
theorem RdM.dm {A B : Mm} (h : RdM A B) (l k : List Nat) : DM l k A B := ⟨fun c a b d _ => h.1 c (by omega) b d, fun j a _ => h.2 j (fun q => a (by rw [q]; decide)) (fun q => a (by rw [q]; decide)) (fun q => a (by rw [q]; decide)) (fun q => a (by rw [q]; decide))⟩
theorem WbX.dx {A B : Mm} (h : WbX A B) (l : List Nat) : DX l A B := ⟨h.2, fun c a _ => h.1 c (Or.inr a)⟩
theorem WbM.dm {A B : Mm} (h : WbM A B) (l k : List Nat) : DM l k A B := ⟨fun c a b _ _ => h.1 c (by omega) (by omega) b, fun j a _ => h.2 j (fun q => a (by rw [q]; decide)) (fun q => a (by rw [q]; decide)) (fun q => a (by rw [q]; decide)) (fun q => a (by rw [q]; decide)) (fun q => a (by rw [q]; decide)) (fun q => a (by rw [q]; decide))⟩
theorem rd_pos {e : Int32} (h : rdErr e) : ¬ e = 0 ∧ ¬ e ≤ 0 := by rcases h with q | q | q | q | q | q | q <;> rw [q] <;> decide
theorem wr_pos {e : Int32} (h : isErr e) : ¬ e = 0 ∧ ¬ e ≤ 0 := by rcases h with q | q | q | q <;> rw [q] <;> decide
theorem ends_neg {N : Nat → Nat} {F : Nat} {e a b : Int32} {D : Mm} (h : ¬ e = 0) : bi (P_X8_ends N F e a b D) (fun r D => if r = 0 then some (1, D) else some (0, D)) = some (0, tM e a b D) := by
  show (if e = 0 then some (1, tM e a b D) else some (0, tM e a b D)) = _
  rw [if_neg h]
/-- the status of both sides is as it was -/
def StK (Dx Dm D1 E1 : Mm) : Prop := D1 1 = Dx 1 ∧ E1 0 9 = Dm 0 9 ∧ E1 0 10 = Dm 0 10 ∧ E1 0 11 = Dm 0 11
theorem StK.stt {Dx Dm D1 E1 : Mm} (h : StK Dx Dm D1 E1) (hs : Stt Dx Dm) : Stt D1 E1 := by
  unfold Stt at hs ⊢
  rw [h.1, h.2.1, h.2.2.1, h.2.2.2]
  exact hs
theorem StK.trans {A B A1 B1 A2 B2 : Mm} (h : StK A B A1 B1) (g : StK A1 B1 A2 B2) : StK A B A2 B2 := ⟨g.1.trans h.1, g.2.1.trans h.2.1, g.2.2.1.trans h.2.2.1, g.2.2.2.trans h.2.2.2⟩
theorem fetch_sim {Dx Dm : Mm} {F t s u : Nat} (hF : 9000 ≤ F) (h1 : 1 ≤ t) (ht : t ≤ 16) (hs : s < secN t) (hu : 55 ≤ u) (hNu : gN XG u = 64) (hid : ¬ Dx 2 3 = -1) (hc : Core Dx Dm) : ∃ (e : Int32) (D1 E1 : Mm), P_X0_fetch (gN XG) F u (nI t) (nI s) Dx = some (e, D1) ∧ P_X8_readBlock (gN MG) F (nI t) (nI s) Dm = some (e, E1) ∧ DX [u] Dx D1 ∧ DM [] [] Dm E1 ∧ ((e = 0 ∧ Core D1 E1 ∧ StK Dx Dm D1 E1 ∧ ∀ j, j < 64 → D1 u j = E1 8 j ∧ By (D1 u j)) ∨ (¬ e = 0 ∧ ¬ e ≤ 0 ∧ Core D1 (tM e (nI t) (nI s) E1) ∧ Stt D1 (tM e (nI t) (nI s) E1) ∧ D1 1 0 = e)) := by
  obtain ⟨e, D1, E1, p1, p2, p3, p4, p5, p6⟩ := read_sim hF h1 ht hs hu hNu hid hc
  rcases p6 with ⟨rfl, p7⟩ | p7
  · refine ⟨0, D1, E1, ?_, p2, p4.dx, p5.dm _ _, Or.inl ⟨rfl, p3, ⟨p4.1 1 (by omega) (by decide), p5.2 _ (by decide) (by decide) (by decide) (by decide), p5.2 _ (by decide) (by decide) (by decide) (by decide), p5.2 _ (by decide) (by decide) (by decide) (by decide)⟩, p7⟩⟩
    unfold P_X0_fetch
    rw [p1, bi_s, if_pos rfl]
  · obtain ⟨z1, z2⟩ := rd_pos p7
    refine ⟨e, tX e (nI t) (nI s) D1, E1, ?_, p2, p4.dx.trans (tX_dx _), p5.dm _ _, Or.inr ⟨z1, z2, t_core p3, t_stt, tX_0⟩⟩
    unfold P_X0_fetch
    rw [p1, bi_s, if_neg z1]
    rfl
theorem store_sim {Dx Dm : Mm} {F t s u : Nat} (hF : 9000 ≤ F) (h1 : 1 ≤ t) (ht : t ≤ 16) (hs : s < secN t) (hu : 55 ≤ u) (hNu : gN XG u = 64) (hid : ¬ Dx 2 3 = -1) (hc : Core Dx Dm) (hd : ∀ j, j < 64 → Dx u j = Dm 8 j) : ∃ (e : Int32) (D1 E1 : Mm), P_X0_store (gN XG) F u (nI t) (nI s) Dx = some (e, D1) ∧ P_X8_writeBlock (gN MG) F (nI t) (nI s) Dm = some (e, E1) ∧ DX [] Dx D1 ∧ DM [] [] Dm E1 ∧ ((e = 0 ∧ Core D1 E1 ∧ StK Dx Dm D1 E1) ∨ (¬ e = 0 ∧ ¬ e ≤ 0 ∧ Core D1 (tM e (nI t) (nI s) E1) ∧ Stt D1 (tM e (nI t) (nI s) E1) ∧ D1 1 0 = e)) := by
  obtain ⟨e, D1, E1, p1, p2, p3, p4, p5, p6⟩ := write_sim hF h1 ht hs hu hNu hid hc hd
  rcases p6 with rfl | p7
  · refine ⟨0, D1, E1, ?_, p2, p4.dx _, p5.dm _ _, Or.inl ⟨rfl, p3, ⟨p4.1 1 (by decide), p5.2 _ (by decide) (by decide) (by decide) (by decide) (by decide) (by decide), p5.2 _ (by decide) (by decide) (by decide) (by decide) (by decide) (by decide), p5.2 _ (by decide) (by decide) (by decide) (by decide) (by decide) (by decide)⟩⟩⟩
    unfold P_X0_store
    rw [p1, bi_s, if_pos rfl]
  · obtain ⟨z1, z2⟩ := wr_pos p7
    refine ⟨e, tX e (nI t) (nI s) D1, E1, ?_, p2, (p4.dx _).trans (tX_dx _), p5.dm _ _, Or.inr ⟨z1, z2, t_core p3, t_stt, tX_0⟩⟩
    unfold P_X0_store
    rw [p1, bi_s, if_neg z1]
    rfl
theorem begins_go {F : Nat} : ∀ (m fu i : Nat) (D : Mm), i + m = 64 → m < fu → ∃ r : Nat → Int32, P_X8_begins_63 (gN MG) F fu (nI i) D = some (1, upA D 9 r) ∧ (∀ j, j < i → r j = D 9 j) ∧ ∀ j, i ≤ j → j < 64 → r j = D 8 j := by
  have n8 : gN MG 8 = 64 := rfl
  have n9 : gN MG 9 = 64 := rfl
  intro m
  induction m with
  | zero =>
    intro fu i D hi hfu
    obtain ⟨fu, rfl⟩ : ∃ z, fu = z + 1 := ⟨fu - 1, by omega⟩
    refine ⟨D 9, ?_, fun _ _ => rfl, fun j _ _ => by omega⟩
    show (if (64 : Int32) ≤ nI i then _ else _) = _
    rw [if_pos (show (64 : Int32) ≤ nI i from nI_le (a := 64) (by omega) (by omega)), upA_id]
  | succ m ih =>
    intro fu i D hi hfu
    obtain ⟨fu, rfl⟩ : ∃ z, fu = z + 1 := ⟨fu - 1, by omega⟩
    obtain ⟨r, q1, q2, q3⟩ := ih fu (i + 1) (up2 D 9 i (D 8 i)) (by omega) (by omega)
    refine ⟨r, ?_, ?_, ?_⟩
    · show (if (64 : Int32) ≤ nI i then some (1, D) else (if inB (nI i) (gN MG 8) = true then (if inB (nI i) (gN MG 9) = true then (P_X8_begins_63 (gN MG) F fu (nI i + 1) (up2 D 9 (Int32.toNatClampNeg (nI i)) (D 8 (Int32.toNatClampNeg (nI i))))) else none) else none)) = _
      rw [if_neg (show ¬ (64 : Int32) ≤ nI i from nI_ge (b := 64) (by omega) (by omega)), n8, n9, if_pos (in_nI (by omega) (by omega)), if_pos (in_nI (by omega) (by omega)), nI_clamp (by omega), nI_1, q1, show upA (up2 D 9 i (D 8 i)) 9 r = upA D 9 r from upA_upA D _ _ r]
    · intro j hj
      rw [q2 j (by omega), up2_app, if_neg (by omega)]
    · intro j hj1 hj2
      by_cases e : j = i
      · subst e
        rw [q2 j (by omega), up2_app, if_pos ⟨rfl, rfl⟩]
      · rw [q3 j (by omega) hj2, up2_o (by decide)]
theorem open_sim {Dx Dm : Mm} {F : Nat} (hF : 9000 ≤ F) (hc : Core Dx Dm) (hid : IdOk (Dx 2 3)) : ∃ (e b : Int32) (D1 E1 : Mm), P_X7_openDisk (gN XG) F Dx = some (e, D1) ∧ P_X8_begins (gN MG) F Dm = some (b, E1) ∧ Core D1 E1 ∧ Stt D1 E1 ∧ D1 1 0 = e ∧ DX [57] Dx D1 ∧ DM [9] [] Dm E1 ∧ ((e = 0 ∧ b = 1 ∧ ¬ D1 2 3 = -1 ∧ ∀ j, j < 64 → D1 57 j = E1 9 j ∧ By (D1 57 j)) ∨ (¬ e = 0 ∧ b = 0)) := by
  have eid : Dx 2 3 = Dm 0 4 := hc.2.2.2.2.1
  have hc1 := t_core (e := 0) (t := 0) (s := 0) hc
  have st1 : Stt (tX 0 0 0 Dx) (tM 0 0 0 Dm) := t_stt
  have x0 : tX 0 0 0 Dx 1 0 = 0 := tX_0
  have dx1 : DX [57] Dx (tX 0 0 0 Dx) := tX_dx _
  have dm1 : DM [9] [] Dm (tM 0 0 0 Dm) := tM_dm _ _
  have i1 : tX 0 0 0 Dx 2 3 = Dx 2 3 := dx1.1
  have i2 : tM 0 0 0 Dm 0 4 = Dx 2 3 := by rw [dm1.2 4 (by decide) (by decide), eid]
  have ex : P_X7_openDisk (gN XG) F Dx = (if (tX 0 0 0 Dx 2 3) = (-1) then (bi (P_X6_tell (gN XG) F 74 0 0 (tX 0 0 0 Dx)) (fun r4 D4 => some (r4, D4))) else (bi (P_X0_fetch (gN XG) F 57 9 0 (tX 0 0 0 Dx)) (fun r3 D3 => some (r3, D3)))) := rfl
  have em : P_X8_begins (gN MG) F Dm = (if 0 ≤ (tM 0 0 0 Dm 0 4) then (bi (P_X8_readBlock (gN MG) F 9 0 (tM 0 0 0 Dm)) (fun r6 D6 => if r6 ≤ 0 then (P_X8_begins_63 (gN MG) F F 0 D6) else (bi (P_X8_ends (gN MG) F r6 9 0 D6) (fun r8 D8 => if r8 = 0 then (some (1, D8)) else (some (0, D8)))))) else (bi (P_X8_ends (gN MG) F 74 0 0 (tM 0 0 0 Dm)) (fun r10 D10 => if r10 = 0 then (some (1, D10)) else (some (0, D10))))) := rfl
  rw [ex, em, i1, i2]
  generalize tX 0 0 0 Dx = X at *
  generalize tM 0 0 0 Dm = M at *
  rcases id_cases hid with ⟨c1, c2⟩ | ⟨c1, c2⟩
  · rw [if_pos c1, if_neg c2, ends_neg (by decide)]
    exact ⟨74, 0, tX 74 0 0 X, _, rfl, rfl, t_core hc1, t_stt, tX_0, dx1.trans (tX_dx _), dm1.trans (tM_dm _ _), Or.inr ⟨by decide, rfl⟩⟩
  · rw [if_neg c1, if_pos c2]
    obtain ⟨e, D1, E1, p1, p2, p3, p4, p5⟩ := fetch_sim (F := F) (t := 9) (s := 0) (u := 57) hF (by decide) (by decide) (by decide) (by decide) rfl (by rw [i1]; exact c1) hc1
    have p1' : P_X0_fetch (gN XG) F 57 9 0 X = some (e, D1) := p1
    have p2' : P_X8_readBlock (gN MG) F 9 0 M = some (e, E1) := p2
    rw [p1', p2', bi_s, bi_s]
    rcases p5 with ⟨rfl, q1, q2, q3⟩ | ⟨z1, z2, q1, q2, q3⟩
    · obtain ⟨r, r1, _, r2⟩ := begins_go (F := F) 64 F 0 E1 (by decide) (by omega)
      have r1' : P_X8_begins_63 (gN MG) F F 0 E1 = some (1, upA E1 9 r) := r1
      rw [if_pos (by decide), r1']
      refine ⟨_, _, _, _, rfl, rfl, q1.ups (fun _ _ _ => rfl) (fun c a b => upA_ne (by omega)) (fun k hk => by rw [upA_ne (by decide)]), ?_, by rw [q2.1]; exact x0, dx1.trans p3, (dm1.trans (p4.mono (by decide) (by decide))).trans ⟨fun c a _ _ b => upA_ne (fun q => b (by rw [q]; decide)), fun j _ _ => by rw [upA_ne (by decide)]⟩, Or.inl ⟨rfl, rfl, by rw [p3.1, i1]; exact c1, fun j hj => by rw [upA_row, r2 j (by omega) hj]; exact q3 j hj⟩⟩
      have := q2.stt st1
      unfold Stt at this ⊢
      rw [upA_ne (by decide)]
      exact this
    · rw [if_neg z2, ends_neg z1]
      exact ⟨_, _, _, _, rfl, rfl, q1, q2, q3, dx1.trans p3, (dm1.trans (p4.mono (by decide) (by decide))).trans (tM_dm _ _), Or.inr ⟨z1, rfl⟩⟩
/-- a byte of a name -/
def nB (a b : Int32) (k : Nat) : Int32 := if 4 ≤ k then (b >>> (nI (56 - 8 * k) &&& 31)) &&& 255 else (a >>> (nI (24 - 8 * k) &&& 31)) &&& 255
theorem nB_by (a b : Int32) (k : Nat) : By (nB a b k) := by unfold nB; split <;> exact By_255 _
theorem xname_eq {N : Nat → Nat} {F k : Nat} {a b : Int32} (D : Mm) (hk : k < 8) : P_X7_nameByte N F a b (nI k) D = some (nB a b k, D) := by
  unfold P_X7_nameByte nB
  rw [show jrem (nI k) 4 = nI (k % 4) from jrem_nI (d := 4) (by omega) (by omega) (by omega), show (8 : Int32) * nI (k % 4) = nI (8 * (k % 4)) from pk_mul 8 _, show (24 : Int32) - nI (8 * (k % 4)) = nI (24 - 8 * (k % 4)) from pk_sub (a := 24) (by omega), ush_byte _ (by omega), ush_byte _ (by omega)]
  by_cases c : 4 ≤ k
  · rw [if_pos (show (4 : Int32) ≤ nI k from nI_le (a := 4) c (by omega)), if_pos c, show 24 - 8 * (k % 4) = 56 - 8 * k by omega]
  · rw [if_neg (show ¬ (4 : Int32) ≤ nI k from nI_ge (b := 4) (by omega) (by omega)), if_neg c, show 24 - 8 * (k % 4) = 24 - 8 * k by omega]
theorem mname_eq {N : Nat → Nat} {F k : Nat} {a b : Int32} (D : Mm) (hk : k < 8) : P_X8_nameByte N F a b (nI k) D = some (nB a b k, D) := by
  unfold P_X8_nameByte nB
  rw [show (8 : Int32) * nI k = nI (8 * k) from pk_mul 8 _]
  by_cases c : 4 ≤ k
  · rw [if_pos (show (4 : Int32) ≤ nI k from nI_le (a := 4) c (by omega)), if_pos c, show (56 : Int32) - nI (8 * k) = nI (56 - 8 * k) from pk_sub (a := 56) (by omega)]
  · rw [if_neg (show ¬ (4 : Int32) ≤ nI k from nI_ge (b := 4) (by omega) (by omega)), if_neg c, show (24 : Int32) - nI (8 * k) = nI (24 - 8 * k) from pk_sub (a := 24) (by omega)]
def NameAt (f : Nat → Int32) (p : Nat) (a b : Int32) (i : Nat) : Prop := ∀ k, i ≤ k → k < 8 → f (p + k) = nB a b k
theorem NameAt.dec (f : Nat → Int32) (p : Nat) (a b : Int32) (i : Nat) : NameAt f p a b i ∨ ¬ NameAt f p a b i := Classical.em _
theorem xhas_go {F p : Nat} {a b : Int32} {D : Mm} (hp : p + 8 ≤ 64) : ∀ (m fu i : Nat), i + m = 8 → m < fu → (NameAt (D 59) p a b i → P_X7_hasName_3 (gN XG) F 59 fu (nI p) a b (nI i) D = some (1, D)) ∧ (¬ NameAt (D 59) p a b i → P_X7_hasName_3 (gN XG) F 59 fu (nI p) a b (nI i) D = some (0, D)) := by
  have n59 : gN XG 59 = 64 := rfl
  intro m
  induction m with
  | zero =>
    intro fu i hi hfu
    obtain ⟨fu, rfl⟩ : ∃ z, fu = z + 1 := ⟨fu - 1, by omega⟩
    refine ⟨fun _ => ?_, fun q => absurd (fun k h1 h2 => by omega) q⟩
    show (if (8 : Int32) ≤ nI i then _ else _) = _
    rw [if_pos (show (8 : Int32) ≤ nI i from nI_le (a := 8) (by omega) (by omega))]
  | succ m ih =>
    intro fu i hi hfu
    obtain ⟨fu, rfl⟩ : ∃ z, fu = z + 1 := ⟨fu - 1, by omega⟩
    obtain ⟨i1, i2⟩ := ih fu (i + 1) (by omega) (by omega)
    have e : P_X7_hasName_3 (gN XG) F 59 (fu + 1) (nI p) a b (nI i) D = (if D 59 (p + i) = nB a b i then P_X7_hasName_3 (gN XG) F 59 fu (nI p) a b (nI (i + 1)) D else some (0, D)) := by
      show (if (8 : Int32) ≤ nI i then some (1, D) else (if inB (nI p + nI i) (gN XG 59) = true then (bi (P_X7_nameByte (gN XG) F a b (nI i) D) (fun r3 D3 => if (D 59 (Int32.toNatClampNeg (nI p + nI i))) = r3 then (P_X7_hasName_3 (gN XG) F 59 fu (nI p) a b (nI i + 1) D3) else (some (0, D3)))) else none)) = _
      rw [if_neg (show ¬ (8 : Int32) ≤ nI i from nI_ge (b := 8) (by omega) (by omega)), nI_add, n59, if_pos (in_nI (by omega) (by omega)), nI_clamp (by omega), xname_eq D (by omega), bi_s, nI_1]
    rw [e]
    constructor
    · intro h
      rw [if_pos (h i (by omega) (by omega))]
      exact i1 (fun k h1 h2 => h k (by omega) h2)
    · intro h
      by_cases c : D 59 (p + i) = nB a b i
      · rw [if_pos c]
        refine i2 (fun q => h (fun k h1 h2 => ?_))
        by_cases e : k = i
        · rw [e]; exact c
        · exact q k (by omega) h2
      · rw [if_neg c]
theorem mhas0 {F q : Nat} {a b : Int32} {D : Mm} : ∀ (m fu i : Nat), i + m = 8 → m < fu → P_X8_hasName_19 (gN MG) F fu (nI q) a b 0 (nI i) D = some (0, D) := by
  intro m
  induction m with
  | zero =>
    intro fu i hi hfu
    obtain ⟨fu, rfl⟩ : ∃ z, fu = z + 1 := ⟨fu - 1, by omega⟩
    show (if (8 : Int32) ≤ nI i then (if vp_nar .boolean 0 = 0 then some (0, D) else none) else _) = _
    rw [if_pos (show (8 : Int32) ≤ nI i from nI_le (a := 8) (by omega) (by omega)), if_pos (show vp_nar .boolean 0 = 0 from rfl)]
  | succ m ih =>
    intro fu i hi hfu
    obtain ⟨fu, rfl⟩ : ∃ z, fu = z + 1 := ⟨fu - 1, by omega⟩
    show (if (8 : Int32) ≤ nI i then _ else (if (0 : Int32) = 0 then (P_X8_hasName_19 (gN MG) F fu (nI q) a b 0 (nI i + 1) D) else _)) = _
    rw [if_neg (show ¬ (8 : Int32) ≤ nI i from nI_ge (b := 8) (by omega) (by omega)), if_pos rfl, nI_1]
    exact ih fu (i + 1) (by omega) (by omega)
theorem mhas1 {F q : Nat} {a b : Int32} {D : Mm} (hq : q + 12 ≤ 448) : ∀ (m fu i : Nat), i + m = 8 → m < fu → (NameAt (D 10) (q + 4) a b i → P_X8_hasName_19 (gN MG) F fu (nI q) a b 1 (nI i) D = some (1, D)) ∧ (¬ NameAt (D 10) (q + 4) a b i → P_X8_hasName_19 (gN MG) F fu (nI q) a b 1 (nI i) D = some (0, D)) := by
  have n10 : gN MG 10 = 448 := rfl
  intro m
  induction m with
  | zero =>
    intro fu i hi hfu
    obtain ⟨fu, rfl⟩ : ∃ z, fu = z + 1 := ⟨fu - 1, by omega⟩
    refine ⟨fun _ => ?_, fun q => absurd (fun k h1 h2 => by omega) q⟩
    show (if (8 : Int32) ≤ nI i then (if vp_nar .boolean 1 = 1 then some (1, D) else none) else _) = _
    rw [if_pos (show (8 : Int32) ≤ nI i from nI_le (a := 8) (by omega) (by omega)), if_pos (show vp_nar .boolean 1 = 1 from rfl)]
  | succ m ih =>
    intro fu i hi hfu
    obtain ⟨fu, rfl⟩ : ∃ z, fu = z + 1 := ⟨fu - 1, by omega⟩
    obtain ⟨i1, i2⟩ := ih fu (i + 1) (by omega) (by omega)
    have e : P_X8_hasName_19 (gN MG) F (fu + 1) (nI q) a b 1 (nI i) D = (if D 10 (q + 4 + i) = nB a b i then P_X8_hasName_19 (gN MG) F fu (nI q) a b 1 (nI (i + 1)) D else P_X8_hasName_19 (gN MG) F fu (nI q) a b 0 (nI (i + 1)) D) := by
      show (if (8 : Int32) ≤ nI i then _ else (if (1 : Int32) = 0 then _ else (if inB ((nI q + 4) + nI i) (gN MG 10) = true then (bi (P_X8_nameByte (gN MG) F a b (nI i) D) (fun r5 D5 => if (D 10 (Int32.toNatClampNeg ((nI q + 4) + nI i))) = r5 then (P_X8_hasName_19 (gN MG) F fu (nI q) a b 1 (nI i + 1) D5) else (P_X8_hasName_19 (gN MG) F fu (nI q) a b 0 (nI i + 1) D5))) else none))) = _
      rw [if_neg (show ¬ (8 : Int32) ≤ nI i from nI_ge (b := 8) (by omega) (by omega)), if_neg (by decide), show nI q + (4 : Int32) = nI (q + 4) from nI_add q 4, nI_add, n10, if_pos (in_nI (by omega) (by omega)), nI_clamp (by omega), mname_eq D (by omega), bi_s, nI_1]
    rw [e]
    constructor
    · intro h
      rw [if_pos (h i (by omega) (by omega))]
      exact i1 (fun k h1 h2 => h k (by omega) h2)
    · intro h
      by_cases c : D 10 (q + 4 + i) = nB a b i
      · rw [if_pos c]
        refine i2 (fun q => h (fun k h1 h2 => ?_))
        by_cases e : k = i
        · rw [e]; exact c
        · exact q k (by omega) h2
      · rw [if_neg c]
        exact mhas0 m fu (i + 1) (by omega) (by omega)
theorem mhas_eq {F q : Nat} {a b : Int32} {D : Mm} (hF : 100 ≤ F) (hq : q + 12 ≤ 448) : (¬ D 10 q = 0 ∧ NameAt (D 10) (q + 4) a b 0 → P_X8_hasName (gN MG) F (nI q) a b D = some (1, D)) ∧ (¬ (¬ D 10 q = 0 ∧ NameAt (D 10) (q + 4) a b 0) → P_X8_hasName (gN MG) F (nI q) a b D = some (0, D)) := by
  have n10 : gN MG 10 = 448 := rfl
  have e : P_X8_hasName (gN MG) F (nI q) a b D = (if D 10 q = 0 then P_X8_hasName_19 (gN MG) F F (nI q) a b 0 (nI 0) D else P_X8_hasName_19 (gN MG) F F (nI q) a b 1 (nI 0) D) := by
    unfold P_X8_hasName
    rw [n10, if_pos (in_nI (by omega) (by omega)), nI_clamp (by omega)]
    rfl
  obtain ⟨u1, u2⟩ := mhas1 (F := F) (a := a) (b := b) (D := D) hq 8 F 0 (by decide) (by omega)
  rw [e]
  constructor
  · intro h
    rw [if_neg h.1]
    exact u1 h.2
  · intro h
    by_cases c : D 10 q = 0
    · rw [if_pos c]
      exact mhas0 8 F 0 (by decide) (by omega)
    · rw [if_neg c]
      exact u2 (fun z => h ⟨c, z⟩)
