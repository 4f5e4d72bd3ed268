/-! THE CLAIM OUT OF ONE WALK OF THE LAW'S BODY. Your part is whole_start (and what it stands on); all else here is the same for every law, but numbers. -/
def R_law : String := "BitDriveLaw"
def lw_P (b : Addr) (xs : List Int32) (args : Array Value) (s : State) : Prop := args = #[.ref b] ∧ s.IntsAt b xs ∧ xs.length ≤ 3072 ∧ (Jvm.Cond.and given_1 narrow_1).before args s = true
def lw_Q (_ : Array Value) (s : State) (o : Outcome) (t : State) : Prop := o = .returned (some (.int 1)) ∧ Framed s o t [] 600000 7302250
def lw_Z (below : List Frame) (a : Array Value) (s : State) : State → Prop := fun t => ∃ o, t.status = .running ∧ Ended t below o ∧ lw_Q a s o t
/-- the law's own end, with 1 on the stack, nothing written that was there before, its room as the claim has it -/
theorem lw_ret {p : Program} {l : Launch} {e : Env} {s : State} {m : MethodId} {below : List Frame} {meth : Method} {c : Code} {b : Nat} (hx : p.tables.exec = Jvm.exec) (hb : c.code = code) (hr : meth.sig.returnType = ret) (hlocks : meth.locks = false) {pc : Nat} {H : Heap} {ls : Array Slot} (hdg : decode code pc = .ok (.ireturn, 1)) : W p l e room_1 s m #[Value.ref b] below meth c H [] 600000 7302250 (lw_Z below #[Value.ref b] s) (F0 m pc ls [.int 1]) := by
  intro T hT X
  obtain ⟨fs, hret, hrun, hended, hW, hframe⟩ := X.leave (v := some (.int 1)) (hlocks := hlocks) (fun h => by rw [hr] at h; cases h)
  have hmeth' : T.vm.method? m = some meth := X.method'
  refine ⟨T.setFrames fs, ?_, .returned (some (.int 1)), hrun, hended, rfl, ⟨_, rfl⟩, hW, hframe⟩
  jvm_step X.here [X.here.top, hx, hb, hdg, hmeth', hr, ret, narrow_b1]
  (try refine ⟨rfl, ?_⟩); (try refine ⟨rfl, ?_⟩)
  first | (intro acts; rw [hret _ acts rfl rfl rfl]) | rw [hret _ _ rfl rfl rfl]
  exact Steps.refl _
/-- what holds at the law's entry: the machine, the code, the tables' words (any of lw_tbl by 'hts w (by decide +kernel)'), the script of L ints xs at the cell b, what the Statement gives of the start (any of its parts by flat_of_before) -/
def lw_At (p : Program) (s : State) (m : MethodId) (meth : Method) (c : Code) (b L : Nat) (xs : Nat → Int32) : Prop :=
  p.tables.exec = Jvm.exec ∧ c.code = code ∧ meth.sig.returnType = ret ∧ c.maxLocals = 4 ∧ s.vm.findClass R_law = some m.cls ∧ (∀ w ∈ lw_tbl, w.before #[Value.ref b] s = true) ∧ va_X b L xs s s.heap ∧ b < s.heap.size ∧ meth.locks = false ∧ (Jvm.Cond.and given_1 narrow_1).before #[Value.ref b] s = true

/-! THE LAW: its loop, over a relation between the two memories that every call keeps -/
def Sim_feed (Rel : Mm → Mm → Prop) (F : Nat) : Prop := ∀ (Dx Dm : Mm) (a1 a2 a3 a4 a5 : Int32), Rel Dx Dm → ∃ (r : Int32) (Dx1 Dm1 : Mm), P_X7_feed (gN XG) F a1 a2 a3 a4 a5 Dx = some (r, Dx1) ∧ P_X8_feed (gN MG) F a1 a2 a3 a4 a5 Dm = some (r, Dm1) ∧ Rel Dx1 Dm1
def Sim_end (Rel : Mm → Mm → Prop) (F : Nat) : Prop := ∀ (Dx Dm : Mm) (a1 : Int32), Rel Dx Dm → ∃ (r : Int32) (Dx1 Dm1 : Mm), P_X7_end (gN XG) F a1 Dx = some (r, Dx1) ∧ P_X8_end (gN MG) F a1 Dm = some (r, Dm1) ∧ Rel Dx1 Dm1
def Sim_format (Rel : Mm → Mm → Prop) (F : Nat) : Prop := ∀ (Dx Dm : Mm) (a1 a2 a3 : Int32), Rel Dx Dm → ∃ (r : Int32) (Dx1 Dm1 : Mm), P_X7_format (gN XG) F a1 a2 a3 Dx = some (r, Dx1) ∧ P_X8_format (gN MG) F a1 a2 a3 Dm = some (r, Dm1) ∧ Rel Dx1 Dm1
def Sim_mount (Rel : Mm → Mm → Prop) (F : Nat) : Prop := ∀ (Dx Dm : Mm) (a1 : Int32), Rel Dx Dm → ∃ (r : Int32) (Dx1 Dm1 : Mm), P_X7_mount (gN XG) F a1 Dx = some (r, Dx1) ∧ P_X8_mount (gN MG) F a1 Dm = some (r, Dm1) ∧ Rel Dx1 Dm1
def Sim_save (Rel : Mm → Mm → Prop) (F : Nat) : Prop := ∀ (Dx Dm : Mm) (a1 a2 a3 : Int32), Rel Dx Dm → ∃ (r : Int32) (Dx1 Dm1 : Mm), P_X7_save (gN XG) F a1 a2 a3 Dx = some (r, Dx1) ∧ P_X8_save (gN MG) F a1 a2 a3 Dm = some (r, Dm1) ∧ Rel Dx1 Dm1
def Sim_load (Rel : Mm → Mm → Prop) (F : Nat) : Prop := ∀ (Dx Dm : Mm) (a1 a2 : Int32), Rel Dx Dm → ∃ (r : Int32) (Dx1 Dm1 : Mm), P_X7_load (gN XG) F a1 a2 Dx = some (r, Dx1) ∧ P_X8_load (gN MG) F a1 a2 Dm = some (r, Dm1) ∧ Rel Dx1 Dm1
def Sim_scratch (Rel : Mm → Mm → Prop) (F : Nat) : Prop := ∀ (Dx Dm : Mm) (a1 a2 : Int32), Rel Dx Dm → ∃ (r : Int32) (Dx1 Dm1 : Mm), P_X7_scratch (gN XG) F a1 a2 Dx = some (r, Dx1) ∧ P_X8_scratch (gN MG) F a1 a2 Dm = some (r, Dm1) ∧ Rel Dx1 Dm1
def Sim_list (Rel : Mm → Mm → Prop) (F : Nat) : Prop := ∀ (Dx Dm : Mm), Rel Dx Dm → ∃ (r : Int32) (Dx1 Dm1 : Mm), P_X7_list (gN XG) F Dx = some (r, Dx1) ∧ P_X8_list (gN MG) F Dm = some (r, Dm1) ∧ Rel Dx1 Dm1
def Sim_info (Rel : Mm → Mm → Prop) (F : Nat) : Prop := ∀ (Dx Dm : Mm), Rel Dx Dm → ∃ (r : Int32) (Dx1 Dm1 : Mm), P_X7_info (gN XG) F Dx = some (r, Dx1) ∧ P_X8_info (gN MG) F Dm = some (r, Dm1) ∧ Rel Dx1 Dm1
def Sim_out (Rel : Mm → Mm → Prop) (F : Nat) : Prop := ∀ (Dx Dm : Mm) (a1 : Int32), Rel Dx Dm → ∃ (r : Int32) (Dx1 Dm1 : Mm), P_X7_out (gN XG) F a1 Dx = some (r, Dx1) ∧ P_X8_out (gN MG) F a1 Dm = some (r, Dm1) ∧ Rel Dx1 Dm1
def Sim_status (Rel : Mm → Mm → Prop) (F : Nat) : Prop := ∀ (Dx Dm : Mm) (a1 : Int32), Rel Dx Dm → ∃ (r : Int32) (Dx1 Dm1 : Mm), P_X7_status (gN XG) F a1 Dx = some (r, Dx1) ∧ P_X8_status (gN MG) F a1 Dm = some (r, Dm1) ∧ Rel Dx1 Dm1
def Sim_peek (Rel : Mm → Mm → Prop) (F : Nat) : Prop := ∀ (Dx Dm : Mm) (a1 a2 : Int32), Rel Dx Dm → ∃ (r : Int32) (Dx1 Dm1 : Mm), P_X7_peek (gN XG) F a1 a2 Dx = some (r, Dx1) ∧ P_X8_peek (gN MG) F a1 a2 Dm = some (r, Dm1) ∧ Rel Dx1 Dm1
def Sim_poke (Rel : Mm → Mm → Prop) (F : Nat) : Prop := ∀ (Dx Dm : Mm) (a1 a2 a3 : Int32), Rel Dx Dm → ∃ (r : Int32) (Dx1 Dm1 : Mm), P_X7_poke (gN XG) F a1 a2 a3 Dx = some (r, Dx1) ∧ P_X8_poke (gN MG) F a1 a2 a3 Dm = some (r, Dm1) ∧ Rel Dx1 Dm1
def Sim_stamp (Rel : Mm → Mm → Prop) (F : Nat) : Prop := ∀ (Dx Dm : Mm) (a1 a2 a3 : Int32), Rel Dx Dm → ∃ (r : Int32) (Dx1 Dm1 : Mm), P_X7_stamp (gN XG) F a1 a2 a3 Dx = some (r, Dx1) ∧ P_X8_stamp (gN MG) F a1 a2 a3 Dm = some (r, Dm1) ∧ Rel Dx1 Dm1
def Sim_turn (Rel : Mm → Mm → Prop) (F : Nat) : Prop := ∀ (Dx Dm : Mm) (a1 a2 : Int32), Rel Dx Dm → ∃ (r : Int32) (Dx1 Dm1 : Mm), P_X7_turn (gN XG) F a1 a2 Dx = some (r, Dx1) ∧ P_X8_turn (gN MG) F a1 a2 Dm = some (r, Dm1) ∧ Rel Dx1 Dm1
def Sim_syncs (Rel : Mm → Mm → Prop) (F : Nat) : Prop := ∀ (Dx Dm : Mm) (a1 : Int32), Rel Dx Dm → ∃ (r : Int32) (Dx1 Dm1 : Mm), P_X7_syncs (gN XG) F a1 Dx = some (r, Dx1) ∧ P_X8_syncs (gN MG) F a1 Dm = some (r, Dm1) ∧ Rel Dx1 Dm1
def Sim_read (Rel : Mm → Mm → Prop) (F : Nat) : Prop := ∀ (Dx Dm : Mm) (a1 a2 : Int32), Rel Dx Dm → ∃ (r : Int32) (Dx1 Dm1 : Mm), P_X7_read (gN XG) F a1 a2 Dx = some (r, Dx1) ∧ P_X8_read (gN MG) F a1 a2 Dm = some (r, Dm1) ∧ Rel Dx1 Dm1
def Sim_write (Rel : Mm → Mm → Prop) (F : Nat) : Prop := ∀ (Dx Dm : Mm) (a1 a2 : Int32), Rel Dx Dm → ∃ (r : Int32) (Dx1 Dm1 : Mm), P_X7_write (gN XG) F a1 a2 Dx = some (r, Dx1) ∧ P_X8_write (gN MG) F a1 a2 Dm = some (r, Dm1) ∧ Rel Dx1 Dm1
def Sim_count (Rel : Mm → Mm → Prop) (F : Nat) : Prop := ∀ (Dx Dm : Mm) (a1 : Int32), Rel Dx Dm → ∃ (r : Int32) (Dx1 Dm1 : Mm), P_X7_count (gN XG) F a1 Dx = some (r, Dx1) ∧ P_X8_count (gN MG) F a1 Dm = some (r, Dm1) ∧ Rel Dx1 Dm1
def SimAll (Rel : Mm → Mm → Prop) (F : Nat) : Prop := Sim_feed Rel F ∧ Sim_end Rel F ∧ Sim_format Rel F ∧ Sim_mount Rel F ∧ Sim_save Rel F ∧ Sim_load Rel F ∧ Sim_scratch Rel F ∧ Sim_list Rel F ∧ Sim_info Rel F ∧ Sim_out Rel F ∧ Sim_status Rel F ∧ Sim_peek Rel F ∧ Sim_poke Rel F ∧ Sim_stamp Rel F ∧ Sim_turn Rel F ∧ Sim_syncs Rel F ∧ Sim_read Rel F ∧ Sim_write Rel F ∧ Sim_count Rel F
theorem y_keep {dd : Dd} {Y : Yc} {G1 G2 : Gr} {ad1 ad2 : Nat → Nat} {D2 : Mm} {H H1 : Heap} (hP : va_P dd vwCl (wW Y G2 ad2 D2) H) (hk : ∀ q : Nat, q < H.size → ¬ pA G1 ad1 q → H1[q]? = H[q]?) (hd : ∀ c c', c < gn G1 → c' < gn G2 → ad1 c ≠ ad2 c') : va_P dd vwCl (wW Y G2 ad2 D2) H1 := by
  refine va_P.kept hP (fun k q hq => ?_)
  refine hk q.1 ((hP k q hq).lt) ?_
  rintro ⟨c, hc, e⟩
  by_cases hn : k < gn G2
  · have : q.1 = ad2 k := by
      simp [wW, hn] at hq
      rw [← hq]
    exact hd c k hc hn (by rw [e, this])
  · simp [wW, hn] at hq
theorem law_gt {L i : Nat} (hL : L ≤ 3072) (hi : i ≤ 4000) : (Int32.ofNat L - 6 < nI i) ↔ L < i + 6 := by
  have e1 : (Int32.ofNat L - 6).toInt = (L : Int) - 6 := pk_sub_toInt (a := L) (b := 6) (by omega) (by omega)
  rw [Int32.lt_iff_toInt_lt, e1, nI_toInt (by omega)]
  omega
theorem law_in {L i k : Nat} (hL : L ≤ 3072) (h : i + k < L) : vp_in (nI i + nI k) L := by
  rw [nI_add]
  exact vp_in_nI h (by omega)
set_option maxHeartbeats 8000000 in
set_option maxRecDepth 100000 in
theorem law_loop {p : Program} {l : Launch} {e : Env} {s : State} {m : MethodId} {below : List Frame} {meth : Method} {c : Code} {dd : Dd} {Y : Yc} {t : Ts3} {b L F : Nat} {xs : Nat → Int32} {Rel : Mm → Mm → Prop} {adx adm : Nat → Nat} (hL : L ≤ 3072) (C0 : lw_At p s m meth c b L xs) (hK : va_K dd vwCl (tyL Y) s) (hT : Sta t (fun q : Nat => s.heap.size ≤ q) s) (hsim : SimAll Rel F) (hdj : ∀ c c', c < gn XG → c' < gn MG → adx c ≠ adm c') :
    ∀ (n i : Nat) (x3 : Int32), i ≤ L + 6 → L + 1 ≤ i + n → x3 = nI i → ∀ (Dx Dm : Mm), Rel Dx Dm → ∀ (H : Heap) (locs : List Loc), va_P dd vwCl (wW Y XG adx Dx) H → va_P dd vwCl (wW Y MG adm Dm) H → va_D (fun q : Nat => s.heap.size ≤ q) (wW Y XG adx Dx) → va_D (fun q : Nat => s.heap.size ≤ q) (wW Y MG adm Dm) → va_S (fun q : Nat => s.heap.size ≤ q) s.heap H locs → ∀ (ls : Array Slot), lv_has ls 4 [(0, .ref b), (1, .ref (adx 0)), (2, .ref (adm 0)), (3, .int x3)] → W p l e room_1 s m #[Value.ref b] below meth c H locs 1000 1000000 (lw_Z below #[Value.ref b] s) (F0 m 18 ls []) := by
  obtain ⟨hx, hb, hr, hml, hown, hts, hX, hbl, hlocks, hgv⟩ := C0
  have ht0 : ∀ w ∈ W0, w.before _ s = true := fun w h => hts w (W0_tbl h)
  have hown : s.vm.findClass RL = some m.cls := hown
  have hA : ∀ q : Nat, s.heap.size ≤ q → (fun q : Nat => s.heap.size ≤ q) q := fun _ h => h
  have hbA : ¬ (fun q : Nat => s.heap.size ≤ q) b := Nat.not_le.mpr hbl
  have hdj2 : ∀ c c', c < gn MG → c' < gn XG → adm c ≠ adx c' := fun c c' h1 h2 q => hdj c' c h2 h1 q.symm
  obtain ⟨sm_feed, sm_end, sm_format, sm_mount, sm_save, sm_load, sm_scratch, sm_list, sm_info, sm_out, sm_status, sm_peek, sm_poke, sm_stamp, sm_turn, sm_syncs, sm_read, sm_write, sm_count⟩ := hsim
  intro n
  induction n with
  | zero =>
    intro i x3 h1 h2 ex Dx Dm hrel H locs hPx hPm hDx hDm hS ls hl
    have h2 : L < i := by omega
    refine lv_iload_n hx hb dL_law_18 rfl (lv_at hl 3 rfl) ?_
    refine lv_aload_n hx hb dL_law_19 rfl (lv_at hl 0 rfl) ?_
    refine va_slen hx hb hX hbl hbA hS dL_law_20 ?_
    refine lv_bipush (v := 6) hx hb dL_law_21 (by decide) ?_
    refine lv_isub hx hb dL_law_23 ?_
    refine lv_icmp_gt (tgt := 727) hx hb dL_law_24 (by decide) (fun c_10 => ?_) (fun c_10 => ?_)
    · refine lv_iconst (v := 1) hx hb dL_law_727 (by decide) ?_
      refine va_forget (fun q hq => hS.2.2 q hq) ?_
      refine W.widen (k := 600000) (n := 7302250) (Nat.le_of_ble_eq_true rfl) (Nat.le_of_ble_eq_true rfl) ?_
      exact lw_ret hx hb hr hlocks dL_law_728
    · exact absurd (by rw [ex]; exact (law_gt hL (by omega)).mpr (by omega)) c_10
  | succ n ih =>
    intro i x3 h1 h2 ex Dx Dm hrel H locs hPx hPm hDx hDm hS ls hl
    refine lv_iload_n hx hb dL_law_18 rfl (lv_at hl 3 rfl) ?_
    refine lv_aload_n hx hb dL_law_19 rfl (lv_at hl 0 rfl) ?_
    refine va_slen hx hb hX hbl hbA hS dL_law_20 ?_
    refine lv_bipush (v := 6) hx hb dL_law_21 (by decide) ?_
    refine lv_isub hx hb dL_law_23 ?_
    refine lv_icmp_gt (tgt := 727) hx hb dL_law_24 (by decide) (fun c_10 => ?_) (fun c_10 => ?_)
    · refine lv_iconst (v := 1) hx hb dL_law_727 (by decide) ?_
      refine va_forget (fun q hq => hS.2.2 q hq) ?_
      refine W.widen (k := 600000) (n := 7302250) (Nat.le_of_ble_eq_true rfl) (Nat.le_of_ble_eq_true rfl) ?_
      exact lw_ret hx hb hr hlocks dL_law_728
    subst ex
    have hlt : i + 6 ≤ L := by
      rcases Nat.lt_or_ge L (i + 6) with q | q
      · exact absurd ((law_gt hL (by omega)).mpr q) c_10
      · exact q
    have hnext : ∀ (Dx Dm : Mm), Rel Dx Dm → ∀ (H : Heap) (locs : List Loc), va_P dd vwCl (wW Y XG adx Dx) H → va_P dd vwCl (wW Y MG adm Dm) H → va_D (fun q : Nat => s.heap.size ≤ q) (wW Y XG adx Dx) → va_D (fun q : Nat => s.heap.size ≤ q) (wW Y MG adm Dm) → va_S (fun q : Nat => s.heap.size ≤ q) s.heap H locs → W p l e room_1 s m #[Value.ref b] below meth c H locs 1000 1000000 (lw_Z below #[Value.ref b] s) (F0 m 721 ls []) := by
      intro Dx Dm hrel H locs hPx hPm hDx hDm hS
      refine lv_iinc (v := nI i + 6) (lv' := [(3, .int (nI i + 6)), (0, .ref b), (1, .ref (adx 0)), (2, .ref (adm 0))]) hx hb dL_law_721 hl (k := 3) rfl rfl (by decide) rfl (fun ls hl => ?_)
      refine lv_goto (tgt := 18) hx hb dL_law_724 (by decide) ?_
      exact ih (i + 6) (nI i + 6) (by omega) (by omega) (nI_add i 6) Dx Dm hrel H locs hPx hPm hDx hDm hS ls (lv_sub hl [1, 2, 3, 0] rfl)
    refine lv_aload_n hx hb dL_law_27 rfl (lv_at hl 0 rfl) ?_
    refine lv_iload_n hx hb dL_law_28 rfl (lv_at hl 3 rfl) ?_
    refine va_sld hx hb hX hbl hbA hS (vp_in_nI (show i < L by omega) (by omega)) dL_law_29 ?_
    refine lv_bipush (v := 31) hx hb dL_law_30 (by decide) ?_
    refine lv_iand hx hb dL_law_32 ?_
    have hin1 : vp_in (nI i + 1) L := law_in (k := 1) hL (by omega)
    have hin2 : vp_in (nI i + 2) L := law_in (k := 2) hL (by omega)
    have hin3 : vp_in (nI i + 3) L := law_in (k := 3) hL (by omega)
    have hin4 : vp_in (nI i + 4) L := law_in (k := 4) hL (by omega)
    have hin5 : vp_in (nI i + 5) L := law_in (k := 5) hL (by omega)
    generalize xs (nI i).toNatClampNeg &&& 31 = v
    by_cases c0 : v = 0
    · refine lv_tableIn (tgt := 124) hx hb dL_law_33 (by rw [c0]; decide) (by rw [c0]; decide) (by rw [c0]; rfl) (by decide) ?_
      obtain ⟨r, Dx1, Dm1, hp1, hp2, hrel1⟩ := sm_feed Dx Dm (xs (nI i + 1).toNatClampNeg) (xs (nI i + 2).toNatClampNeg) (xs (nI i + 3).toNatClampNeg) (xs (nI i + 4).toNatClampNeg) (xs (nI i + 5).toNatClampNeg) hrel
      refine lv_aload_n hx hb dL_law_124 rfl (lv_at hl 1 rfl) ?_
      refine lv_aload_n hx hb dL_law_125 rfl (lv_at hl 0 rfl) ?_
      refine lv_iload_n hx hb dL_law_126 rfl (lv_at hl 3 rfl) ?_
      refine lv_iconst (v := 1) hx hb dL_law_127 (by decide) ?_
      refine lv_iadd hx hb dL_law_128 ?_
      refine va_sld hx hb hX hbl hbA hS hin1 dL_law_129 ?_
      refine lv_aload_n hx hb dL_law_130 rfl (lv_at hl 0 rfl) ?_
      refine lv_iload_n hx hb dL_law_131 rfl (lv_at hl 3 rfl) ?_
      refine lv_iconst (v := 2) hx hb dL_law_132 (by decide) ?_
      refine lv_iadd hx hb dL_law_133 ?_
      refine va_sld hx hb hX hbl hbA hS hin2 dL_law_134 ?_
      refine lv_aload_n hx hb dL_law_135 rfl (lv_at hl 0 rfl) ?_
      refine lv_iload_n hx hb dL_law_136 rfl (lv_at hl 3 rfl) ?_
      refine lv_iconst (v := 3) hx hb dL_law_137 (by decide) ?_
      refine lv_iadd hx hb dL_law_138 ?_
      refine va_sld hx hb hX hbl hbA hS hin3 dL_law_139 ?_
      refine lv_aload_n hx hb dL_law_140 rfl (lv_at hl 0 rfl) ?_
      refine lv_iload_n hx hb dL_law_141 rfl (lv_at hl 3 rfl) ?_
      refine lv_iconst (v := 4) hx hb dL_law_142 (by decide) ?_
      refine lv_iadd hx hb dL_law_143 ?_
      refine va_sld hx hb hX hbl hbA hS hin4 dL_law_144 ?_
      refine lv_aload_n hx hb dL_law_145 rfl (lv_at hl 0 rfl) ?_
      refine lv_iload_n hx hb dL_law_146 rfl (lv_at hl 3 rfl) ?_
      refine lv_iconst (v := 5) hx hb dL_law_147 (by decide) ?_
      refine lv_iadd hx hb dL_law_148 ?_
      refine va_sld hx hb hX hbl hbA hS hin5 dL_law_149 ?_
      refine y_callVi (As := [.int (xs (nI i + 1).toNatClampNeg), .int (xs (nI i + 2).toNatClampNeg), .int (xs (nI i + 3).toNatClampNeg), .int (xs (nI i + 4).toNatClampNeg), .int (xs (nI i + 5).toNatClampNeg)]) ⟨hx, hb, hml, hown, ht0⟩ hK hT hPx hDx hS rfl (c_X7_feed l dd Y t adx (wD_ij hDx) F (xs (nI i + 1).toNatClampNeg) (xs (nI i + 2).toNatClampNeg) (xs (nI i + 3).toNatClampNeg) (xs (nI i + 4).toNatClampNeg) (xs (nI i + 5).toNatClampNeg) _ _ _ hp1) m_ML_L_13 sv_X7_feed hd_X7_feed rfl rfl ⟨Nat.le_of_ble_eq_true rfl, Nat.le_of_ble_eq_true rfl⟩ xk_0.1 (ce7 xk_0.2) rfl rfl hl.1 rfl (Nat.le_of_ble_eq_true rfl) dL_law_150 ⟨Nat.le_of_ble_eq_true rfl, Nat.le_of_ble_eq_true rfl⟩ (fun H locs hPx hk hS => ?_)
      have hPm := y_keep hPm hk hdj
      have hDx : va_D (fun q : Nat => s.heap.size ≤ q) (wW Y XG adx Dx1) := wD_any hDx
      refine lv_aload_n hx hb dL_law_153 rfl (lv_at hl 2 rfl) ?_
      refine lv_aload_n hx hb dL_law_154 rfl (lv_at hl 0 rfl) ?_
      refine lv_iload_n hx hb dL_law_155 rfl (lv_at hl 3 rfl) ?_
      refine lv_iconst (v := 1) hx hb dL_law_156 (by decide) ?_
      refine lv_iadd hx hb dL_law_157 ?_
      refine va_sld hx hb hX hbl hbA hS hin1 dL_law_158 ?_
      refine lv_aload_n hx hb dL_law_159 rfl (lv_at hl 0 rfl) ?_
      refine lv_iload_n hx hb dL_law_160 rfl (lv_at hl 3 rfl) ?_
      refine lv_iconst (v := 2) hx hb dL_law_161 (by decide) ?_
      refine lv_iadd hx hb dL_law_162 ?_
      refine va_sld hx hb hX hbl hbA hS hin2 dL_law_163 ?_
      refine lv_aload_n hx hb dL_law_164 rfl (lv_at hl 0 rfl) ?_
      refine lv_iload_n hx hb dL_law_165 rfl (lv_at hl 3 rfl) ?_
      refine lv_iconst (v := 3) hx hb dL_law_166 (by decide) ?_
      refine lv_iadd hx hb dL_law_167 ?_
      refine va_sld hx hb hX hbl hbA hS hin3 dL_law_168 ?_
      refine lv_aload_n hx hb dL_law_169 rfl (lv_at hl 0 rfl) ?_
      refine lv_iload_n hx hb dL_law_170 rfl (lv_at hl 3 rfl) ?_
      refine lv_iconst (v := 4) hx hb dL_law_171 (by decide) ?_
      refine lv_iadd hx hb dL_law_172 ?_
      refine va_sld hx hb hX hbl hbA hS hin4 dL_law_173 ?_
      refine lv_aload_n hx hb dL_law_174 rfl (lv_at hl 0 rfl) ?_
      refine lv_iload_n hx hb dL_law_175 rfl (lv_at hl 3 rfl) ?_
      refine lv_iconst (v := 5) hx hb dL_law_176 (by decide) ?_
      refine lv_iadd hx hb dL_law_177 ?_
      refine va_sld hx hb hX hbl hbA hS hin5 dL_law_178 ?_
      refine y_callVi (As := [.int (xs (nI i + 1).toNatClampNeg), .int (xs (nI i + 2).toNatClampNeg), .int (xs (nI i + 3).toNatClampNeg), .int (xs (nI i + 4).toNatClampNeg), .int (xs (nI i + 5).toNatClampNeg)]) ⟨hx, hb, hml, hown, ht0⟩ hK hT hPm hDm hS rfl (c_X8_feed l dd Y t adm (wD_ij hDm) F (xs (nI i + 1).toNatClampNeg) (xs (nI i + 2).toNatClampNeg) (xs (nI i + 3).toNatClampNeg) (xs (nI i + 4).toNatClampNeg) (xs (nI i + 5).toNatClampNeg) _ _ _ hp2) m_ML_L_17 sv_X8_feed hd_X8_feed rfl rfl ⟨Nat.le_of_ble_eq_true rfl, Nat.le_of_ble_eq_true rfl⟩ mk_0.1 (ce8 mk_0.2) rfl rfl hl.1 rfl (Nat.le_of_ble_eq_true rfl) dL_law_179 ⟨Nat.le_of_ble_eq_true rfl, Nat.le_of_ble_eq_true rfl⟩ (fun H locs hPm hk hS => ?_)
      have hPx := y_keep hPx hk hdj2
      have hDm : va_D (fun q : Nat => s.heap.size ≤ q) (wW Y MG adm Dm1) := wD_any hDm
      refine lv_icmp_eq (tgt := 721) hx hb dL_law_182 (by decide) (fun _ => ?_) (fun c_19 => absurd rfl c_19)
      exact hnext Dx1 Dm1 hrel1 H locs hPx hPm hDx hDm hS
    by_cases c1 : v = 1
    · refine lv_tableIn (tgt := 187) hx hb dL_law_33 (by rw [c1]; decide) (by rw [c1]; decide) (by rw [c1]; rfl) (by decide) ?_
      obtain ⟨r, Dx1, Dm1, hp1, hp2, hrel1⟩ := sm_end Dx Dm (xs (nI i + 1).toNatClampNeg) hrel
      refine lv_aload_n hx hb dL_law_187 rfl (lv_at hl 1 rfl) ?_
      refine lv_aload_n hx hb dL_law_188 rfl (lv_at hl 0 rfl) ?_
      refine lv_iload_n hx hb dL_law_189 rfl (lv_at hl 3 rfl) ?_
      refine lv_iconst (v := 1) hx hb dL_law_190 (by decide) ?_
      refine lv_iadd hx hb dL_law_191 ?_
      refine va_sld hx hb hX hbl hbA hS hin1 dL_law_192 ?_
      refine y_callVi (As := [.int (xs (nI i + 1).toNatClampNeg)]) ⟨hx, hb, hml, hown, ht0⟩ hK hT hPx hDx hS rfl (c_X7_end l dd Y t adx (wD_ij hDx) F (xs (nI i + 1).toNatClampNeg) _ _ _ hp1) m_ML_L_18 sv_X7_end hd_X7_end rfl rfl ⟨Nat.le_of_ble_eq_true rfl, Nat.le_of_ble_eq_true rfl⟩ xk_0.1 (ce7 xk_0.2) rfl rfl hl.1 rfl (Nat.le_of_ble_eq_true rfl) dL_law_193 ⟨Nat.le_of_ble_eq_true rfl, Nat.le_of_ble_eq_true rfl⟩ (fun H locs hPx hk hS => ?_)
      have hPm := y_keep hPm hk hdj
      have hDx : va_D (fun q : Nat => s.heap.size ≤ q) (wW Y XG adx Dx1) := wD_any hDx
      refine lv_aload_n hx hb dL_law_196 rfl (lv_at hl 2 rfl) ?_
      refine lv_aload_n hx hb dL_law_197 rfl (lv_at hl 0 rfl) ?_
      refine lv_iload_n hx hb dL_law_198 rfl (lv_at hl 3 rfl) ?_
      refine lv_iconst (v := 1) hx hb dL_law_199 (by decide) ?_
      refine lv_iadd hx hb dL_law_200 ?_
      refine va_sld hx hb hX hbl hbA hS hin1 dL_law_201 ?_
      refine y_callVi (As := [.int (xs (nI i + 1).toNatClampNeg)]) ⟨hx, hb, hml, hown, ht0⟩ hK hT hPm hDm hS rfl (c_X8_end l dd Y t adm (wD_ij hDm) F (xs (nI i + 1).toNatClampNeg) _ _ _ hp2) m_ML_L_22 sv_X8_end hd_X8_end rfl rfl ⟨Nat.le_of_ble_eq_true rfl, Nat.le_of_ble_eq_true rfl⟩ mk_0.1 (ce8 mk_0.2) rfl rfl hl.1 rfl (Nat.le_of_ble_eq_true rfl) dL_law_202 ⟨Nat.le_of_ble_eq_true rfl, Nat.le_of_ble_eq_true rfl⟩ (fun H locs hPm hk hS => ?_)
      have hPx := y_keep hPx hk hdj2
      have hDm : va_D (fun q : Nat => s.heap.size ≤ q) (wW Y MG adm Dm1) := wD_any hDm
      refine lv_icmp_eq (tgt := 721) hx hb dL_law_205 (by decide) (fun _ => ?_) (fun c_19 => absurd rfl c_19)
      exact hnext Dx1 Dm1 hrel1 H locs hPx hPm hDx hDm hS
    by_cases c2 : v = 2
    · refine lv_tableIn (tgt := 210) hx hb dL_law_33 (by rw [c2]; decide) (by rw [c2]; decide) (by rw [c2]; rfl) (by decide) ?_
      obtain ⟨r, Dx1, Dm1, hp1, hp2, hrel1⟩ := sm_format Dx Dm (xs (nI i + 1).toNatClampNeg) (xs (nI i + 2).toNatClampNeg) (xs (nI i + 3).toNatClampNeg) hrel
      refine lv_aload_n hx hb dL_law_210 rfl (lv_at hl 1 rfl) ?_
      refine lv_aload_n hx hb dL_law_211 rfl (lv_at hl 0 rfl) ?_
      refine lv_iload_n hx hb dL_law_212 rfl (lv_at hl 3 rfl) ?_
      refine lv_iconst (v := 1) hx hb dL_law_213 (by decide) ?_
      refine lv_iadd hx hb dL_law_214 ?_
      refine va_sld hx hb hX hbl hbA hS hin1 dL_law_215 ?_
      refine lv_aload_n hx hb dL_law_216 rfl (lv_at hl 0 rfl) ?_
      refine lv_iload_n hx hb dL_law_217 rfl (lv_at hl 3 rfl) ?_
      refine lv_iconst (v := 2) hx hb dL_law_218 (by decide) ?_
      refine lv_iadd hx hb dL_law_219 ?_
      refine va_sld hx hb hX hbl hbA hS hin2 dL_law_220 ?_
      refine lv_aload_n hx hb dL_law_221 rfl (lv_at hl 0 rfl) ?_
      refine lv_iload_n hx hb dL_law_222 rfl (lv_at hl 3 rfl) ?_
      refine lv_iconst (v := 3) hx hb dL_law_223 (by decide) ?_
      refine lv_iadd hx hb dL_law_224 ?_
      refine va_sld hx hb hX hbl hbA hS hin3 dL_law_225 ?_
      refine y_callVi (As := [.int (xs (nI i + 1).toNatClampNeg), .int (xs (nI i + 2).toNatClampNeg), .int (xs (nI i + 3).toNatClampNeg)]) ⟨hx, hb, hml, hown, ht0⟩ hK hT hPx hDx hS rfl (c_X7_format l dd Y t adx (wD_ij hDx) F (xs (nI i + 1).toNatClampNeg) (xs (nI i + 2).toNatClampNeg) (xs (nI i + 3).toNatClampNeg) _ _ _ hp1) m_ML_L_23 sv_X7_format hd_X7_format rfl rfl ⟨Nat.le_of_ble_eq_true rfl, Nat.le_of_ble_eq_true rfl⟩ xk_0.1 (ce7 xk_0.2) rfl rfl hl.1 rfl (Nat.le_of_ble_eq_true rfl) dL_law_226 ⟨Nat.le_of_ble_eq_true rfl, Nat.le_of_ble_eq_true rfl⟩ (fun H locs hPx hk hS => ?_)
      have hPm := y_keep hPm hk hdj
      have hDx : va_D (fun q : Nat => s.heap.size ≤ q) (wW Y XG adx Dx1) := wD_any hDx
      refine lv_aload_n hx hb dL_law_229 rfl (lv_at hl 2 rfl) ?_
      refine lv_aload_n hx hb dL_law_230 rfl (lv_at hl 0 rfl) ?_
      refine lv_iload_n hx hb dL_law_231 rfl (lv_at hl 3 rfl) ?_
      refine lv_iconst (v := 1) hx hb dL_law_232 (by decide) ?_
      refine lv_iadd hx hb dL_law_233 ?_
      refine va_sld hx hb hX hbl hbA hS hin1 dL_law_234 ?_
      refine lv_aload_n hx hb dL_law_235 rfl (lv_at hl 0 rfl) ?_
      refine lv_iload_n hx hb dL_law_236 rfl (lv_at hl 3 rfl) ?_
      refine lv_iconst (v := 2) hx hb dL_law_237 (by decide) ?_
      refine lv_iadd hx hb dL_law_238 ?_
      refine va_sld hx hb hX hbl hbA hS hin2 dL_law_239 ?_
      refine lv_aload_n hx hb dL_law_240 rfl (lv_at hl 0 rfl) ?_
      refine lv_iload_n hx hb dL_law_241 rfl (lv_at hl 3 rfl) ?_
      refine lv_iconst (v := 3) hx hb dL_law_242 (by decide) ?_
      refine lv_iadd hx hb dL_law_243 ?_
      refine va_sld hx hb hX hbl hbA hS hin3 dL_law_244 ?_
      refine y_callVi (As := [.int (xs (nI i + 1).toNatClampNeg), .int (xs (nI i + 2).toNatClampNeg), .int (xs (nI i + 3).toNatClampNeg)]) ⟨hx, hb, hml, hown, ht0⟩ hK hT hPm hDm hS rfl (c_X8_format l dd Y t adm (wD_ij hDm) F (xs (nI i + 1).toNatClampNeg) (xs (nI i + 2).toNatClampNeg) (xs (nI i + 3).toNatClampNeg) _ _ _ hp2) m_ML_L_27 sv_X8_format hd_X8_format rfl rfl ⟨Nat.le_of_ble_eq_true rfl, Nat.le_of_ble_eq_true rfl⟩ mk_0.1 (ce8 mk_0.2) rfl rfl hl.1 rfl (Nat.le_of_ble_eq_true rfl) dL_law_245 ⟨Nat.le_of_ble_eq_true rfl, Nat.le_of_ble_eq_true rfl⟩ (fun H locs hPm hk hS => ?_)
      have hPx := y_keep hPx hk hdj2
      have hDm : va_D (fun q : Nat => s.heap.size ≤ q) (wW Y MG adm Dm1) := wD_any hDm
      refine lv_icmp_eq (tgt := 721) hx hb dL_law_248 (by decide) (fun _ => ?_) (fun c_19 => absurd rfl c_19)
      exact hnext Dx1 Dm1 hrel1 H locs hPx hPm hDx hDm hS
    by_cases c3 : v = 3
    · refine lv_tableIn (tgt := 253) hx hb dL_law_33 (by rw [c3]; decide) (by rw [c3]; decide) (by rw [c3]; rfl) (by decide) ?_
      obtain ⟨r, Dx1, Dm1, hp1, hp2, hrel1⟩ := sm_mount Dx Dm (xs (nI i + 1).toNatClampNeg) hrel
      refine lv_aload_n hx hb dL_law_253 rfl (lv_at hl 1 rfl) ?_
      refine lv_aload_n hx hb dL_law_254 rfl (lv_at hl 0 rfl) ?_
      refine lv_iload_n hx hb dL_law_255 rfl (lv_at hl 3 rfl) ?_
      refine lv_iconst (v := 1) hx hb dL_law_256 (by decide) ?_
      refine lv_iadd hx hb dL_law_257 ?_
      refine va_sld hx hb hX hbl hbA hS hin1 dL_law_258 ?_
      refine y_callVi (As := [.int (xs (nI i + 1).toNatClampNeg)]) ⟨hx, hb, hml, hown, ht0⟩ hK hT hPx hDx hS rfl (c_X7_mount l dd Y t adx (wD_ij hDx) F (xs (nI i + 1).toNatClampNeg) _ _ _ hp1) m_ML_L_28 sv_X7_mount hd_X7_mount rfl rfl ⟨Nat.le_of_ble_eq_true rfl, Nat.le_of_ble_eq_true rfl⟩ xk_0.1 (ce7 xk_0.2) rfl rfl hl.1 rfl (Nat.le_of_ble_eq_true rfl) dL_law_259 ⟨Nat.le_of_ble_eq_true rfl, Nat.le_of_ble_eq_true rfl⟩ (fun H locs hPx hk hS => ?_)
      have hPm := y_keep hPm hk hdj
      have hDx : va_D (fun q : Nat => s.heap.size ≤ q) (wW Y XG adx Dx1) := wD_any hDx
      refine lv_aload_n hx hb dL_law_262 rfl (lv_at hl 2 rfl) ?_
      refine lv_aload_n hx hb dL_law_263 rfl (lv_at hl 0 rfl) ?_
      refine lv_iload_n hx hb dL_law_264 rfl (lv_at hl 3 rfl) ?_
      refine lv_iconst (v := 1) hx hb dL_law_265 (by decide) ?_
      refine lv_iadd hx hb dL_law_266 ?_
      refine va_sld hx hb hX hbl hbA hS hin1 dL_law_267 ?_
      refine y_callVi (As := [.int (xs (nI i + 1).toNatClampNeg)]) ⟨hx, hb, hml, hown, ht0⟩ hK hT hPm hDm hS rfl (c_X8_mount l dd Y t adm (wD_ij hDm) F (xs (nI i + 1).toNatClampNeg) _ _ _ hp2) m_ML_L_31 sv_X8_mount hd_X8_mount rfl rfl ⟨Nat.le_of_ble_eq_true rfl, Nat.le_of_ble_eq_true rfl⟩ mk_0.1 (ce8 mk_0.2) rfl rfl hl.1 rfl (Nat.le_of_ble_eq_true rfl) dL_law_268 ⟨Nat.le_of_ble_eq_true rfl, Nat.le_of_ble_eq_true rfl⟩ (fun H locs hPm hk hS => ?_)
      have hPx := y_keep hPx hk hdj2
      have hDm : va_D (fun q : Nat => s.heap.size ≤ q) (wW Y MG adm Dm1) := wD_any hDm
      refine lv_icmp_eq (tgt := 721) hx hb dL_law_271 (by decide) (fun _ => ?_) (fun c_19 => absurd rfl c_19)
      exact hnext Dx1 Dm1 hrel1 H locs hPx hPm hDx hDm hS
    by_cases c4 : v = 4
    · refine lv_tableIn (tgt := 276) hx hb dL_law_33 (by rw [c4]; decide) (by rw [c4]; decide) (by rw [c4]; rfl) (by decide) ?_
      obtain ⟨r, Dx1, Dm1, hp1, hp2, hrel1⟩ := sm_save Dx Dm (xs (nI i + 1).toNatClampNeg) (xs (nI i + 2).toNatClampNeg) (xs (nI i + 3).toNatClampNeg) hrel
      refine lv_aload_n hx hb dL_law_276 rfl (lv_at hl 1 rfl) ?_
      refine lv_aload_n hx hb dL_law_277 rfl (lv_at hl 0 rfl) ?_
      refine lv_iload_n hx hb dL_law_278 rfl (lv_at hl 3 rfl) ?_
      refine lv_iconst (v := 1) hx hb dL_law_279 (by decide) ?_
      refine lv_iadd hx hb dL_law_280 ?_
      refine va_sld hx hb hX hbl hbA hS hin1 dL_law_281 ?_
      refine lv_aload_n hx hb dL_law_282 rfl (lv_at hl 0 rfl) ?_
      refine lv_iload_n hx hb dL_law_283 rfl (lv_at hl 3 rfl) ?_
      refine lv_iconst (v := 2) hx hb dL_law_284 (by decide) ?_
      refine lv_iadd hx hb dL_law_285 ?_
      refine va_sld hx hb hX hbl hbA hS hin2 dL_law_286 ?_
      refine lv_aload_n hx hb dL_law_287 rfl (lv_at hl 0 rfl) ?_
      refine lv_iload_n hx hb dL_law_288 rfl (lv_at hl 3 rfl) ?_
      refine lv_iconst (v := 3) hx hb dL_law_289 (by decide) ?_
      refine lv_iadd hx hb dL_law_290 ?_
      refine va_sld hx hb hX hbl hbA hS hin3 dL_law_291 ?_
      refine y_callVi (As := [.int (xs (nI i + 1).toNatClampNeg), .int (xs (nI i + 2).toNatClampNeg), .int (xs (nI i + 3).toNatClampNeg)]) ⟨hx, hb, hml, hown, ht0⟩ hK hT hPx hDx hS rfl (c_X7_save l dd Y t adx (wD_ij hDx) F (xs (nI i + 1).toNatClampNeg) (xs (nI i + 2).toNatClampNeg) (xs (nI i + 3).toNatClampNeg) _ _ _ hp1) m_ML_L_32 sv_X7_save hd_X7_save rfl rfl ⟨Nat.le_of_ble_eq_true rfl, Nat.le_of_ble_eq_true rfl⟩ xk_0.1 (ce7 xk_0.2) rfl rfl hl.1 rfl (Nat.le_of_ble_eq_true rfl) dL_law_292 ⟨Nat.le_of_ble_eq_true rfl, Nat.le_of_ble_eq_true rfl⟩ (fun H locs hPx hk hS => ?_)
      have hPm := y_keep hPm hk hdj
      have hDx : va_D (fun q : Nat => s.heap.size ≤ q) (wW Y XG adx Dx1) := wD_any hDx
      refine lv_aload_n hx hb dL_law_295 rfl (lv_at hl 2 rfl) ?_
      refine lv_aload_n hx hb dL_law_296 rfl (lv_at hl 0 rfl) ?_
      refine lv_iload_n hx hb dL_law_297 rfl (lv_at hl 3 rfl) ?_
      refine lv_iconst (v := 1) hx hb dL_law_298 (by decide) ?_
      refine lv_iadd hx hb dL_law_299 ?_
      refine va_sld hx hb hX hbl hbA hS hin1 dL_law_300 ?_
      refine lv_aload_n hx hb dL_law_301 rfl (lv_at hl 0 rfl) ?_
      refine lv_iload_n hx hb dL_law_302 rfl (lv_at hl 3 rfl) ?_
      refine lv_iconst (v := 2) hx hb dL_law_303 (by decide) ?_
      refine lv_iadd hx hb dL_law_304 ?_
      refine va_sld hx hb hX hbl hbA hS hin2 dL_law_305 ?_
      refine lv_aload_n hx hb dL_law_306 rfl (lv_at hl 0 rfl) ?_
      refine lv_iload_n hx hb dL_law_307 rfl (lv_at hl 3 rfl) ?_
      refine lv_iconst (v := 3) hx hb dL_law_308 (by decide) ?_
      refine lv_iadd hx hb dL_law_309 ?_
      refine va_sld hx hb hX hbl hbA hS hin3 dL_law_310 ?_
      refine y_callVi (As := [.int (xs (nI i + 1).toNatClampNeg), .int (xs (nI i + 2).toNatClampNeg), .int (xs (nI i + 3).toNatClampNeg)]) ⟨hx, hb, hml, hown, ht0⟩ hK hT hPm hDm hS rfl (c_X8_save l dd Y t adm (wD_ij hDm) F (xs (nI i + 1).toNatClampNeg) (xs (nI i + 2).toNatClampNeg) (xs (nI i + 3).toNatClampNeg) _ _ _ hp2) m_ML_L_35 sv_X8_save hd_X8_save rfl rfl ⟨Nat.le_of_ble_eq_true rfl, Nat.le_of_ble_eq_true rfl⟩ mk_0.1 (ce8 mk_0.2) rfl rfl hl.1 rfl (Nat.le_of_ble_eq_true rfl) dL_law_311 ⟨Nat.le_of_ble_eq_true rfl, Nat.le_of_ble_eq_true rfl⟩ (fun H locs hPm hk hS => ?_)
      have hPx := y_keep hPx hk hdj2
      have hDm : va_D (fun q : Nat => s.heap.size ≤ q) (wW Y MG adm Dm1) := wD_any hDm
      refine lv_icmp_eq (tgt := 721) hx hb dL_law_314 (by decide) (fun _ => ?_) (fun c_19 => absurd rfl c_19)
      exact hnext Dx1 Dm1 hrel1 H locs hPx hPm hDx hDm hS
    by_cases c5 : v = 5
    · refine lv_tableIn (tgt := 319) hx hb dL_law_33 (by rw [c5]; decide) (by rw [c5]; decide) (by rw [c5]; rfl) (by decide) ?_
      obtain ⟨r, Dx1, Dm1, hp1, hp2, hrel1⟩ := sm_load Dx Dm (xs (nI i + 1).toNatClampNeg) (xs (nI i + 2).toNatClampNeg) hrel
      refine lv_aload_n hx hb dL_law_319 rfl (lv_at hl 1 rfl) ?_
      refine lv_aload_n hx hb dL_law_320 rfl (lv_at hl 0 rfl) ?_
      refine lv_iload_n hx hb dL_law_321 rfl (lv_at hl 3 rfl) ?_
      refine lv_iconst (v := 1) hx hb dL_law_322 (by decide) ?_
      refine lv_iadd hx hb dL_law_323 ?_
      refine va_sld hx hb hX hbl hbA hS hin1 dL_law_324 ?_
      refine lv_aload_n hx hb dL_law_325 rfl (lv_at hl 0 rfl) ?_
      refine lv_iload_n hx hb dL_law_326 rfl (lv_at hl 3 rfl) ?_
      refine lv_iconst (v := 2) hx hb dL_law_327 (by decide) ?_
      refine lv_iadd hx hb dL_law_328 ?_
      refine va_sld hx hb hX hbl hbA hS hin2 dL_law_329 ?_
      refine y_callVi (As := [.int (xs (nI i + 1).toNatClampNeg), .int (xs (nI i + 2).toNatClampNeg)]) ⟨hx, hb, hml, hown, ht0⟩ hK hT hPx hDx hS rfl (c_X7_load l dd Y t adx (wD_ij hDx) F (xs (nI i + 1).toNatClampNeg) (xs (nI i + 2).toNatClampNeg) _ _ _ hp1) m_ML_L_36 sv_X7_load hd_X7_load rfl rfl ⟨Nat.le_of_ble_eq_true rfl, Nat.le_of_ble_eq_true rfl⟩ xk_0.1 (ce7 xk_0.2) rfl rfl hl.1 rfl (Nat.le_of_ble_eq_true rfl) dL_law_330 ⟨Nat.le_of_ble_eq_true rfl, Nat.le_of_ble_eq_true rfl⟩ (fun H locs hPx hk hS => ?_)
      have hPm := y_keep hPm hk hdj
      have hDx : va_D (fun q : Nat => s.heap.size ≤ q) (wW Y XG adx Dx1) := wD_any hDx
      refine lv_aload_n hx hb dL_law_333 rfl (lv_at hl 2 rfl) ?_
      refine lv_aload_n hx hb dL_law_334 rfl (lv_at hl 0 rfl) ?_
      refine lv_iload_n hx hb dL_law_335 rfl (lv_at hl 3 rfl) ?_
      refine lv_iconst (v := 1) hx hb dL_law_336 (by decide) ?_
      refine lv_iadd hx hb dL_law_337 ?_
      refine va_sld hx hb hX hbl hbA hS hin1 dL_law_338 ?_
      refine lv_aload_n hx hb dL_law_339 rfl (lv_at hl 0 rfl) ?_
      refine lv_iload_n hx hb dL_law_340 rfl (lv_at hl 3 rfl) ?_
      refine lv_iconst (v := 2) hx hb dL_law_341 (by decide) ?_
      refine lv_iadd hx hb dL_law_342 ?_
      refine va_sld hx hb hX hbl hbA hS hin2 dL_law_343 ?_
      refine y_callVi (As := [.int (xs (nI i + 1).toNatClampNeg), .int (xs (nI i + 2).toNatClampNeg)]) ⟨hx, hb, hml, hown, ht0⟩ hK hT hPm hDm hS rfl (c_X8_load l dd Y t adm (wD_ij hDm) F (xs (nI i + 1).toNatClampNeg) (xs (nI i + 2).toNatClampNeg) _ _ _ hp2) m_ML_L_40 sv_X8_load hd_X8_load rfl rfl ⟨Nat.le_of_ble_eq_true rfl, Nat.le_of_ble_eq_true rfl⟩ mk_0.1 (ce8 mk_0.2) rfl rfl hl.1 rfl (Nat.le_of_ble_eq_true rfl) dL_law_344 ⟨Nat.le_of_ble_eq_true rfl, Nat.le_of_ble_eq_true rfl⟩ (fun H locs hPm hk hS => ?_)
      have hPx := y_keep hPx hk hdj2
      have hDm : va_D (fun q : Nat => s.heap.size ≤ q) (wW Y MG adm Dm1) := wD_any hDm
      refine lv_icmp_eq (tgt := 721) hx hb dL_law_347 (by decide) (fun _ => ?_) (fun c_19 => absurd rfl c_19)
      exact hnext Dx1 Dm1 hrel1 H locs hPx hPm hDx hDm hS
    by_cases c6 : v = 6
    · refine lv_tableIn (tgt := 352) hx hb dL_law_33 (by rw [c6]; decide) (by rw [c6]; decide) (by rw [c6]; rfl) (by decide) ?_
      obtain ⟨r, Dx1, Dm1, hp1, hp2, hrel1⟩ := sm_scratch Dx Dm (xs (nI i + 1).toNatClampNeg) (xs (nI i + 2).toNatClampNeg) hrel
      refine lv_aload_n hx hb dL_law_352 rfl (lv_at hl 1 rfl) ?_
      refine lv_aload_n hx hb dL_law_353 rfl (lv_at hl 0 rfl) ?_
      refine lv_iload_n hx hb dL_law_354 rfl (lv_at hl 3 rfl) ?_
      refine lv_iconst (v := 1) hx hb dL_law_355 (by decide) ?_
      refine lv_iadd hx hb dL_law_356 ?_
      refine va_sld hx hb hX hbl hbA hS hin1 dL_law_357 ?_
      refine lv_aload_n hx hb dL_law_358 rfl (lv_at hl 0 rfl) ?_
      refine lv_iload_n hx hb dL_law_359 rfl (lv_at hl 3 rfl) ?_
      refine lv_iconst (v := 2) hx hb dL_law_360 (by decide) ?_
      refine lv_iadd hx hb dL_law_361 ?_
      refine va_sld hx hb hX hbl hbA hS hin2 dL_law_362 ?_
      refine y_callVi (As := [.int (xs (nI i + 1).toNatClampNeg), .int (xs (nI i + 2).toNatClampNeg)]) ⟨hx, hb, hml, hown, ht0⟩ hK hT hPx hDx hS rfl (c_X7_scratch l dd Y t adx (wD_ij hDx) F (xs (nI i + 1).toNatClampNeg) (xs (nI i + 2).toNatClampNeg) _ _ _ hp1) m_ML_L_41 sv_X7_scratch hd_X7_scratch rfl rfl ⟨Nat.le_of_ble_eq_true rfl, Nat.le_of_ble_eq_true rfl⟩ xk_0.1 (ce7 xk_0.2) rfl rfl hl.1 rfl (Nat.le_of_ble_eq_true rfl) dL_law_363 ⟨Nat.le_of_ble_eq_true rfl, Nat.le_of_ble_eq_true rfl⟩ (fun H locs hPx hk hS => ?_)
      have hPm := y_keep hPm hk hdj
      have hDx : va_D (fun q : Nat => s.heap.size ≤ q) (wW Y XG adx Dx1) := wD_any hDx
      refine lv_aload_n hx hb dL_law_366 rfl (lv_at hl 2 rfl) ?_
      refine lv_aload_n hx hb dL_law_367 rfl (lv_at hl 0 rfl) ?_
      refine lv_iload_n hx hb dL_law_368 rfl (lv_at hl 3 rfl) ?_
      refine lv_iconst (v := 1) hx hb dL_law_369 (by decide) ?_
      refine lv_iadd hx hb dL_law_370 ?_
      refine va_sld hx hb hX hbl hbA hS hin1 dL_law_371 ?_
      refine lv_aload_n hx hb dL_law_372 rfl (lv_at hl 0 rfl) ?_
      refine lv_iload_n hx hb dL_law_373 rfl (lv_at hl 3 rfl) ?_
      refine lv_iconst (v := 2) hx hb dL_law_374 (by decide) ?_
      refine lv_iadd hx hb dL_law_375 ?_
      refine va_sld hx hb hX hbl hbA hS hin2 dL_law_376 ?_
      refine y_callVi (As := [.int (xs (nI i + 1).toNatClampNeg), .int (xs (nI i + 2).toNatClampNeg)]) ⟨hx, hb, hml, hown, ht0⟩ hK hT hPm hDm hS rfl (c_X8_scratch l dd Y t adm (wD_ij hDm) F (xs (nI i + 1).toNatClampNeg) (xs (nI i + 2).toNatClampNeg) _ _ _ hp2) m_ML_L_44 sv_X8_scratch hd_X8_scratch rfl rfl ⟨Nat.le_of_ble_eq_true rfl, Nat.le_of_ble_eq_true rfl⟩ mk_0.1 (ce8 mk_0.2) rfl rfl hl.1 rfl (Nat.le_of_ble_eq_true rfl) dL_law_377 ⟨Nat.le_of_ble_eq_true rfl, Nat.le_of_ble_eq_true rfl⟩ (fun H locs hPm hk hS => ?_)
      have hPx := y_keep hPx hk hdj2
      have hDm : va_D (fun q : Nat => s.heap.size ≤ q) (wW Y MG adm Dm1) := wD_any hDm
      refine lv_icmp_eq (tgt := 721) hx hb dL_law_380 (by decide) (fun _ => ?_) (fun c_19 => absurd rfl c_19)
      exact hnext Dx1 Dm1 hrel1 H locs hPx hPm hDx hDm hS
    by_cases c7 : v = 7
    · refine lv_tableIn (tgt := 385) hx hb dL_law_33 (by rw [c7]; decide) (by rw [c7]; decide) (by rw [c7]; rfl) (by decide) ?_
      obtain ⟨r, Dx1, Dm1, hp1, hp2, hrel1⟩ := sm_list Dx Dm hrel
      refine lv_aload_n hx hb dL_law_385 rfl (lv_at hl 1 rfl) ?_
      refine y_callVi (As := []) ⟨hx, hb, hml, hown, ht0⟩ hK hT hPx hDx hS rfl (c_X7_list l dd Y t adx (wD_ij hDx) F _ _ _ hp1) m_ML_L_45 sv_X7_list hd_X7_list rfl rfl ⟨Nat.le_of_ble_eq_true rfl, Nat.le_of_ble_eq_true rfl⟩ xk_0.1 (ce7 xk_0.2) rfl rfl hl.1 rfl (Nat.le_of_ble_eq_true rfl) dL_law_386 ⟨Nat.le_of_ble_eq_true rfl, Nat.le_of_ble_eq_true rfl⟩ (fun H locs hPx hk hS => ?_)
      have hPm := y_keep hPm hk hdj
      have hDx : va_D (fun q : Nat => s.heap.size ≤ q) (wW Y XG adx Dx1) := wD_any hDx
      refine lv_aload_n hx hb dL_law_389 rfl (lv_at hl 2 rfl) ?_
      refine y_callVi (As := []) ⟨hx, hb, hml, hown, ht0⟩ hK hT hPm hDm hS rfl (c_X8_list l dd Y t adm (wD_ij hDm) F _ _ _ hp2) m_ML_L_49 sv_X8_list hd_X8_list rfl rfl ⟨Nat.le_of_ble_eq_true rfl, Nat.le_of_ble_eq_true rfl⟩ mk_0.1 (ce8 mk_0.2) rfl rfl hl.1 rfl (Nat.le_of_ble_eq_true rfl) dL_law_390 ⟨Nat.le_of_ble_eq_true rfl, Nat.le_of_ble_eq_true rfl⟩ (fun H locs hPm hk hS => ?_)
      have hPx := y_keep hPx hk hdj2
      have hDm : va_D (fun q : Nat => s.heap.size ≤ q) (wW Y MG adm Dm1) := wD_any hDm
      refine lv_icmp_eq (tgt := 721) hx hb dL_law_393 (by decide) (fun _ => ?_) (fun c_19 => absurd rfl c_19)
      exact hnext Dx1 Dm1 hrel1 H locs hPx hPm hDx hDm hS
    by_cases c8 : v = 8
    · refine lv_tableIn (tgt := 398) hx hb dL_law_33 (by rw [c8]; decide) (by rw [c8]; decide) (by rw [c8]; rfl) (by decide) ?_
      obtain ⟨r, Dx1, Dm1, hp1, hp2, hrel1⟩ := sm_info Dx Dm hrel
      refine lv_aload_n hx hb dL_law_398 rfl (lv_at hl 1 rfl) ?_
      refine y_callVi (As := []) ⟨hx, hb, hml, hown, ht0⟩ hK hT hPx hDx hS rfl (c_X7_info l dd Y t adx (wD_ij hDx) F _ _ _ hp1) m_ML_L_50 sv_X7_info hd_X7_info rfl rfl ⟨Nat.le_of_ble_eq_true rfl, Nat.le_of_ble_eq_true rfl⟩ xk_0.1 (ce7 xk_0.2) rfl rfl hl.1 rfl (Nat.le_of_ble_eq_true rfl) dL_law_399 ⟨Nat.le_of_ble_eq_true rfl, Nat.le_of_ble_eq_true rfl⟩ (fun H locs hPx hk hS => ?_)
      have hPm := y_keep hPm hk hdj
      have hDx : va_D (fun q : Nat => s.heap.size ≤ q) (wW Y XG adx Dx1) := wD_any hDx
      refine lv_aload_n hx hb dL_law_402 rfl (lv_at hl 2 rfl) ?_
      refine y_callVi (As := []) ⟨hx, hb, hml, hown, ht0⟩ hK hT hPm hDm hS rfl (c_X8_info l dd Y t adm (wD_ij hDm) F _ _ _ hp2) m_ML_L_53 sv_X8_info hd_X8_info rfl rfl ⟨Nat.le_of_ble_eq_true rfl, Nat.le_of_ble_eq_true rfl⟩ mk_0.1 (ce8 mk_0.2) rfl rfl hl.1 rfl (Nat.le_of_ble_eq_true rfl) dL_law_403 ⟨Nat.le_of_ble_eq_true rfl, Nat.le_of_ble_eq_true rfl⟩ (fun H locs hPm hk hS => ?_)
      have hPx := y_keep hPx hk hdj2
      have hDm : va_D (fun q : Nat => s.heap.size ≤ q) (wW Y MG adm Dm1) := wD_any hDm
      refine lv_icmp_eq (tgt := 721) hx hb dL_law_406 (by decide) (fun _ => ?_) (fun c_19 => absurd rfl c_19)
      exact hnext Dx1 Dm1 hrel1 H locs hPx hPm hDx hDm hS
    by_cases c9 : v = 9
    · refine lv_tableIn (tgt := 411) hx hb dL_law_33 (by rw [c9]; decide) (by rw [c9]; decide) (by rw [c9]; rfl) (by decide) ?_
      obtain ⟨r, Dx1, Dm1, hp1, hp2, hrel1⟩ := sm_out Dx Dm (xs (nI i + 1).toNatClampNeg) hrel
      refine lv_aload_n hx hb dL_law_411 rfl (lv_at hl 1 rfl) ?_
      refine lv_aload_n hx hb dL_law_412 rfl (lv_at hl 0 rfl) ?_
      refine lv_iload_n hx hb dL_law_413 rfl (lv_at hl 3 rfl) ?_
      refine lv_iconst (v := 1) hx hb dL_law_414 (by decide) ?_
      refine lv_iadd hx hb dL_law_415 ?_
      refine va_sld hx hb hX hbl hbA hS hin1 dL_law_416 ?_
      refine y_callVi (As := [.int (xs (nI i + 1).toNatClampNeg)]) ⟨hx, hb, hml, hown, ht0⟩ hK hT hPx hDx hS rfl (c_X7_out l dd Y t adx (wD_ij hDx) F (xs (nI i + 1).toNatClampNeg) _ _ _ hp1) m_ML_L_54 sv_X7_out hd_X7_out rfl rfl ⟨Nat.le_of_ble_eq_true rfl, Nat.le_of_ble_eq_true rfl⟩ xk_0.1 (ce7 xk_0.2) rfl rfl hl.1 rfl (Nat.le_of_ble_eq_true rfl) dL_law_417 ⟨Nat.le_of_ble_eq_true rfl, Nat.le_of_ble_eq_true rfl⟩ (fun H locs hPx hk hS => ?_)
      have hPm := y_keep hPm hk hdj
      have hDx : va_D (fun q : Nat => s.heap.size ≤ q) (wW Y XG adx Dx1) := wD_any hDx
      refine lv_aload_n hx hb dL_law_420 rfl (lv_at hl 2 rfl) ?_
      refine lv_aload_n hx hb dL_law_421 rfl (lv_at hl 0 rfl) ?_
      refine lv_iload_n hx hb dL_law_422 rfl (lv_at hl 3 rfl) ?_
      refine lv_iconst (v := 1) hx hb dL_law_423 (by decide) ?_
      refine lv_iadd hx hb dL_law_424 ?_
      refine va_sld hx hb hX hbl hbA hS hin1 dL_law_425 ?_
      refine y_callVi (As := [.int (xs (nI i + 1).toNatClampNeg)]) ⟨hx, hb, hml, hown, ht0⟩ hK hT hPm hDm hS rfl (c_X8_out l dd Y t adm (wD_ij hDm) F (xs (nI i + 1).toNatClampNeg) _ _ _ hp2) m_ML_L_57 sv_X8_out hd_X8_out rfl rfl ⟨Nat.le_of_ble_eq_true rfl, Nat.le_of_ble_eq_true rfl⟩ mk_0.1 (ce8 mk_0.2) rfl rfl hl.1 rfl (Nat.le_of_ble_eq_true rfl) dL_law_426 ⟨Nat.le_of_ble_eq_true rfl, Nat.le_of_ble_eq_true rfl⟩ (fun H locs hPm hk hS => ?_)
      have hPx := y_keep hPx hk hdj2
      have hDm : va_D (fun q : Nat => s.heap.size ≤ q) (wW Y MG adm Dm1) := wD_any hDm
      refine lv_icmp_eq (tgt := 721) hx hb dL_law_429 (by decide) (fun _ => ?_) (fun c_19 => absurd rfl c_19)
      exact hnext Dx1 Dm1 hrel1 H locs hPx hPm hDx hDm hS
    by_cases c10 : v = 10
    · refine lv_tableIn (tgt := 434) hx hb dL_law_33 (by rw [c10]; decide) (by rw [c10]; decide) (by rw [c10]; rfl) (by decide) ?_
      obtain ⟨r, Dx1, Dm1, hp1, hp2, hrel1⟩ := sm_status Dx Dm (xs (nI i + 1).toNatClampNeg) hrel
      refine lv_aload_n hx hb dL_law_434 rfl (lv_at hl 1 rfl) ?_
      refine lv_aload_n hx hb dL_law_435 rfl (lv_at hl 0 rfl) ?_
      refine lv_iload_n hx hb dL_law_436 rfl (lv_at hl 3 rfl) ?_
      refine lv_iconst (v := 1) hx hb dL_law_437 (by decide) ?_
      refine lv_iadd hx hb dL_law_438 ?_
      refine va_sld hx hb hX hbl hbA hS hin1 dL_law_439 ?_
      refine y_callVi (As := [.int (xs (nI i + 1).toNatClampNeg)]) ⟨hx, hb, hml, hown, ht0⟩ hK hT hPx hDx hS rfl (c_X7_status l dd Y t adx (wD_ij hDx) F (xs (nI i + 1).toNatClampNeg) _ _ _ hp1) m_ML_L_58 sv_X7_status hd_X7_status rfl rfl ⟨Nat.le_of_ble_eq_true rfl, Nat.le_of_ble_eq_true rfl⟩ xk_0.1 (ce7 xk_0.2) rfl rfl hl.1 rfl (Nat.le_of_ble_eq_true rfl) dL_law_440 ⟨Nat.le_of_ble_eq_true rfl, Nat.le_of_ble_eq_true rfl⟩ (fun H locs hPx hk hS => ?_)
      have hPm := y_keep hPm hk hdj
      have hDx : va_D (fun q : Nat => s.heap.size ≤ q) (wW Y XG adx Dx1) := wD_any hDx
      refine lv_aload_n hx hb dL_law_443 rfl (lv_at hl 2 rfl) ?_
      refine lv_aload_n hx hb dL_law_444 rfl (lv_at hl 0 rfl) ?_
      refine lv_iload_n hx hb dL_law_445 rfl (lv_at hl 3 rfl) ?_
      refine lv_iconst (v := 1) hx hb dL_law_446 (by decide) ?_
      refine lv_iadd hx hb dL_law_447 ?_
      refine va_sld hx hb hX hbl hbA hS hin1 dL_law_448 ?_
      refine y_callVi (As := [.int (xs (nI i + 1).toNatClampNeg)]) ⟨hx, hb, hml, hown, ht0⟩ hK hT hPm hDm hS rfl (c_X8_status l dd Y t adm (wD_ij hDm) F (xs (nI i + 1).toNatClampNeg) _ _ _ hp2) m_ML_L_61 sv_X8_status hd_X8_status rfl rfl ⟨Nat.le_of_ble_eq_true rfl, Nat.le_of_ble_eq_true rfl⟩ mk_0.1 (ce8 mk_0.2) rfl rfl hl.1 rfl (Nat.le_of_ble_eq_true rfl) dL_law_449 ⟨Nat.le_of_ble_eq_true rfl, Nat.le_of_ble_eq_true rfl⟩ (fun H locs hPm hk hS => ?_)
      have hPx := y_keep hPx hk hdj2
      have hDm : va_D (fun q : Nat => s.heap.size ≤ q) (wW Y MG adm Dm1) := wD_any hDm
      refine lv_icmp_eq (tgt := 721) hx hb dL_law_452 (by decide) (fun _ => ?_) (fun c_19 => absurd rfl c_19)
      exact hnext Dx1 Dm1 hrel1 H locs hPx hPm hDx hDm hS
    by_cases c11 : v = 11
    · refine lv_tableIn (tgt := 457) hx hb dL_law_33 (by rw [c11]; decide) (by rw [c11]; decide) (by rw [c11]; rfl) (by decide) ?_
      obtain ⟨r, Dx1, Dm1, hp1, hp2, hrel1⟩ := sm_peek Dx Dm (xs (nI i + 1).toNatClampNeg) (xs (nI i + 2).toNatClampNeg) hrel
      refine lv_aload_n hx hb dL_law_457 rfl (lv_at hl 1 rfl) ?_
      refine lv_aload_n hx hb dL_law_458 rfl (lv_at hl 0 rfl) ?_
      refine lv_iload_n hx hb dL_law_459 rfl (lv_at hl 3 rfl) ?_
      refine lv_iconst (v := 1) hx hb dL_law_460 (by decide) ?_
      refine lv_iadd hx hb dL_law_461 ?_
      refine va_sld hx hb hX hbl hbA hS hin1 dL_law_462 ?_
      refine lv_aload_n hx hb dL_law_463 rfl (lv_at hl 0 rfl) ?_
      refine lv_iload_n hx hb dL_law_464 rfl (lv_at hl 3 rfl) ?_
      refine lv_iconst (v := 2) hx hb dL_law_465 (by decide) ?_
      refine lv_iadd hx hb dL_law_466 ?_
      refine va_sld hx hb hX hbl hbA hS hin2 dL_law_467 ?_
      refine y_callVi (As := [.int (xs (nI i + 1).toNatClampNeg), .int (xs (nI i + 2).toNatClampNeg)]) ⟨hx, hb, hml, hown, ht0⟩ hK hT hPx hDx hS rfl (c_X7_peek l dd Y t adx (wD_ij hDx) F (xs (nI i + 1).toNatClampNeg) (xs (nI i + 2).toNatClampNeg) _ _ _ hp1) m_ML_L_62 sv_X7_peek hd_X7_peek rfl rfl ⟨Nat.le_of_ble_eq_true rfl, Nat.le_of_ble_eq_true rfl⟩ xk_0.1 (ce7 xk_0.2) rfl rfl hl.1 rfl (Nat.le_of_ble_eq_true rfl) dL_law_468 ⟨Nat.le_of_ble_eq_true rfl, Nat.le_of_ble_eq_true rfl⟩ (fun H locs hPx hk hS => ?_)
      have hPm := y_keep hPm hk hdj
      have hDx : va_D (fun q : Nat => s.heap.size ≤ q) (wW Y XG adx Dx1) := wD_any hDx
      refine lv_aload_n hx hb dL_law_471 rfl (lv_at hl 2 rfl) ?_
      refine lv_aload_n hx hb dL_law_472 rfl (lv_at hl 0 rfl) ?_
      refine lv_iload_n hx hb dL_law_473 rfl (lv_at hl 3 rfl) ?_
      refine lv_iconst (v := 1) hx hb dL_law_474 (by decide) ?_
      refine lv_iadd hx hb dL_law_475 ?_
      refine va_sld hx hb hX hbl hbA hS hin1 dL_law_476 ?_
      refine lv_aload_n hx hb dL_law_477 rfl (lv_at hl 0 rfl) ?_
      refine lv_iload_n hx hb dL_law_478 rfl (lv_at hl 3 rfl) ?_
      refine lv_iconst (v := 2) hx hb dL_law_479 (by decide) ?_
      refine lv_iadd hx hb dL_law_480 ?_
      refine va_sld hx hb hX hbl hbA hS hin2 dL_law_481 ?_
      refine y_callVi (As := [.int (xs (nI i + 1).toNatClampNeg), .int (xs (nI i + 2).toNatClampNeg)]) ⟨hx, hb, hml, hown, ht0⟩ hK hT hPm hDm hS rfl (c_X8_peek l dd Y t adm (wD_ij hDm) F (xs (nI i + 1).toNatClampNeg) (xs (nI i + 2).toNatClampNeg) _ _ _ hp2) m_ML_L_65 sv_X8_peek hd_X8_peek rfl rfl ⟨Nat.le_of_ble_eq_true rfl, Nat.le_of_ble_eq_true rfl⟩ mk_0.1 (ce8 mk_0.2) rfl rfl hl.1 rfl (Nat.le_of_ble_eq_true rfl) dL_law_482 ⟨Nat.le_of_ble_eq_true rfl, Nat.le_of_ble_eq_true rfl⟩ (fun H locs hPm hk hS => ?_)
      have hPx := y_keep hPx hk hdj2
      have hDm : va_D (fun q : Nat => s.heap.size ≤ q) (wW Y MG adm Dm1) := wD_any hDm
      refine lv_icmp_eq (tgt := 721) hx hb dL_law_485 (by decide) (fun _ => ?_) (fun c_19 => absurd rfl c_19)
      exact hnext Dx1 Dm1 hrel1 H locs hPx hPm hDx hDm hS
    by_cases c12 : v = 12
    · refine lv_tableIn (tgt := 490) hx hb dL_law_33 (by rw [c12]; decide) (by rw [c12]; decide) (by rw [c12]; rfl) (by decide) ?_
      obtain ⟨r, Dx1, Dm1, hp1, hp2, hrel1⟩ := sm_poke Dx Dm (xs (nI i + 1).toNatClampNeg) (xs (nI i + 2).toNatClampNeg) (xs (nI i + 3).toNatClampNeg) hrel
      refine lv_aload_n hx hb dL_law_490 rfl (lv_at hl 1 rfl) ?_
      refine lv_aload_n hx hb dL_law_491 rfl (lv_at hl 0 rfl) ?_
      refine lv_iload_n hx hb dL_law_492 rfl (lv_at hl 3 rfl) ?_
      refine lv_iconst (v := 1) hx hb dL_law_493 (by decide) ?_
      refine lv_iadd hx hb dL_law_494 ?_
      refine va_sld hx hb hX hbl hbA hS hin1 dL_law_495 ?_
      refine lv_aload_n hx hb dL_law_496 rfl (lv_at hl 0 rfl) ?_
      refine lv_iload_n hx hb dL_law_497 rfl (lv_at hl 3 rfl) ?_
      refine lv_iconst (v := 2) hx hb dL_law_498 (by decide) ?_
      refine lv_iadd hx hb dL_law_499 ?_
      refine va_sld hx hb hX hbl hbA hS hin2 dL_law_500 ?_
      refine lv_aload_n hx hb dL_law_501 rfl (lv_at hl 0 rfl) ?_
      refine lv_iload_n hx hb dL_law_502 rfl (lv_at hl 3 rfl) ?_
      refine lv_iconst (v := 3) hx hb dL_law_503 (by decide) ?_
      refine lv_iadd hx hb dL_law_504 ?_
      refine va_sld hx hb hX hbl hbA hS hin3 dL_law_505 ?_
      refine y_callVi (As := [.int (xs (nI i + 1).toNatClampNeg), .int (xs (nI i + 2).toNatClampNeg), .int (xs (nI i + 3).toNatClampNeg)]) ⟨hx, hb, hml, hown, ht0⟩ hK hT hPx hDx hS rfl (c_X7_poke l dd Y t adx (wD_ij hDx) F (xs (nI i + 1).toNatClampNeg) (xs (nI i + 2).toNatClampNeg) (xs (nI i + 3).toNatClampNeg) _ _ _ hp1) m_ML_L_66 sv_X7_poke hd_X7_poke rfl rfl ⟨Nat.le_of_ble_eq_true rfl, Nat.le_of_ble_eq_true rfl⟩ xk_0.1 (ce7 xk_0.2) rfl rfl hl.1 rfl (Nat.le_of_ble_eq_true rfl) dL_law_506 ⟨Nat.le_of_ble_eq_true rfl, Nat.le_of_ble_eq_true rfl⟩ (fun H locs hPx hk hS => ?_)
      have hPm := y_keep hPm hk hdj
      have hDx : va_D (fun q : Nat => s.heap.size ≤ q) (wW Y XG adx Dx1) := wD_any hDx
      refine lv_aload_n hx hb dL_law_509 rfl (lv_at hl 2 rfl) ?_
      refine lv_aload_n hx hb dL_law_510 rfl (lv_at hl 0 rfl) ?_
      refine lv_iload_n hx hb dL_law_511 rfl (lv_at hl 3 rfl) ?_
      refine lv_iconst (v := 1) hx hb dL_law_512 (by decide) ?_
      refine lv_iadd hx hb dL_law_513 ?_
      refine va_sld hx hb hX hbl hbA hS hin1 dL_law_514 ?_
      refine lv_aload_n hx hb dL_law_515 rfl (lv_at hl 0 rfl) ?_
      refine lv_iload_n hx hb dL_law_516 rfl (lv_at hl 3 rfl) ?_
      refine lv_iconst (v := 2) hx hb dL_law_517 (by decide) ?_
      refine lv_iadd hx hb dL_law_518 ?_
      refine va_sld hx hb hX hbl hbA hS hin2 dL_law_519 ?_
      refine lv_aload_n hx hb dL_law_520 rfl (lv_at hl 0 rfl) ?_
      refine lv_iload_n hx hb dL_law_521 rfl (lv_at hl 3 rfl) ?_
      refine lv_iconst (v := 3) hx hb dL_law_522 (by decide) ?_
      refine lv_iadd hx hb dL_law_523 ?_
      refine va_sld hx hb hX hbl hbA hS hin3 dL_law_524 ?_
      refine y_callVi (As := [.int (xs (nI i + 1).toNatClampNeg), .int (xs (nI i + 2).toNatClampNeg), .int (xs (nI i + 3).toNatClampNeg)]) ⟨hx, hb, hml, hown, ht0⟩ hK hT hPm hDm hS rfl (c_X8_poke l dd Y t adm (wD_ij hDm) F (xs (nI i + 1).toNatClampNeg) (xs (nI i + 2).toNatClampNeg) (xs (nI i + 3).toNatClampNeg) _ _ _ hp2) m_ML_L_69 sv_X8_poke hd_X8_poke rfl rfl ⟨Nat.le_of_ble_eq_true rfl, Nat.le_of_ble_eq_true rfl⟩ mk_0.1 (ce8 mk_0.2) rfl rfl hl.1 rfl (Nat.le_of_ble_eq_true rfl) dL_law_525 ⟨Nat.le_of_ble_eq_true rfl, Nat.le_of_ble_eq_true rfl⟩ (fun H locs hPm hk hS => ?_)
      have hPx := y_keep hPx hk hdj2
      have hDm : va_D (fun q : Nat => s.heap.size ≤ q) (wW Y MG adm Dm1) := wD_any hDm
      refine lv_icmp_eq (tgt := 721) hx hb dL_law_528 (by decide) (fun _ => ?_) (fun c_19 => absurd rfl c_19)
      exact hnext Dx1 Dm1 hrel1 H locs hPx hPm hDx hDm hS
    by_cases c13 : v = 13
    · refine lv_tableIn (tgt := 533) hx hb dL_law_33 (by rw [c13]; decide) (by rw [c13]; decide) (by rw [c13]; rfl) (by decide) ?_
      obtain ⟨r, Dx1, Dm1, hp1, hp2, hrel1⟩ := sm_stamp Dx Dm (xs (nI i + 1).toNatClampNeg) (xs (nI i + 2).toNatClampNeg) (xs (nI i + 3).toNatClampNeg) hrel
      refine lv_aload_n hx hb dL_law_533 rfl (lv_at hl 1 rfl) ?_
      refine lv_aload_n hx hb dL_law_534 rfl (lv_at hl 0 rfl) ?_
      refine lv_iload_n hx hb dL_law_535 rfl (lv_at hl 3 rfl) ?_
      refine lv_iconst (v := 1) hx hb dL_law_536 (by decide) ?_
      refine lv_iadd hx hb dL_law_537 ?_
      refine va_sld hx hb hX hbl hbA hS hin1 dL_law_538 ?_
      refine lv_aload_n hx hb dL_law_539 rfl (lv_at hl 0 rfl) ?_
      refine lv_iload_n hx hb dL_law_540 rfl (lv_at hl 3 rfl) ?_
      refine lv_iconst (v := 2) hx hb dL_law_541 (by decide) ?_
      refine lv_iadd hx hb dL_law_542 ?_
      refine va_sld hx hb hX hbl hbA hS hin2 dL_law_543 ?_
      refine lv_aload_n hx hb dL_law_544 rfl (lv_at hl 0 rfl) ?_
      refine lv_iload_n hx hb dL_law_545 rfl (lv_at hl 3 rfl) ?_
      refine lv_iconst (v := 3) hx hb dL_law_546 (by decide) ?_
      refine lv_iadd hx hb dL_law_547 ?_
      refine va_sld hx hb hX hbl hbA hS hin3 dL_law_548 ?_
      refine y_callVi (As := [.int (xs (nI i + 1).toNatClampNeg), .int (xs (nI i + 2).toNatClampNeg), .int (xs (nI i + 3).toNatClampNeg)]) ⟨hx, hb, hml, hown, ht0⟩ hK hT hPx hDx hS rfl (c_X7_stamp l dd Y t adx (wD_ij hDx) F (xs (nI i + 1).toNatClampNeg) (xs (nI i + 2).toNatClampNeg) (xs (nI i + 3).toNatClampNeg) _ _ _ hp1) m_ML_L_70 sv_X7_stamp hd_X7_stamp rfl rfl ⟨Nat.le_of_ble_eq_true rfl, Nat.le_of_ble_eq_true rfl⟩ xk_0.1 (ce7 xk_0.2) rfl rfl hl.1 rfl (Nat.le_of_ble_eq_true rfl) dL_law_549 ⟨Nat.le_of_ble_eq_true rfl, Nat.le_of_ble_eq_true rfl⟩ (fun H locs hPx hk hS => ?_)
      have hPm := y_keep hPm hk hdj
      have hDx : va_D (fun q : Nat => s.heap.size ≤ q) (wW Y XG adx Dx1) := wD_any hDx
      refine lv_aload_n hx hb dL_law_552 rfl (lv_at hl 2 rfl) ?_
      refine lv_aload_n hx hb dL_law_553 rfl (lv_at hl 0 rfl) ?_
      refine lv_iload_n hx hb dL_law_554 rfl (lv_at hl 3 rfl) ?_
      refine lv_iconst (v := 1) hx hb dL_law_555 (by decide) ?_
      refine lv_iadd hx hb dL_law_556 ?_
      refine va_sld hx hb hX hbl hbA hS hin1 dL_law_557 ?_
      refine lv_aload_n hx hb dL_law_558 rfl (lv_at hl 0 rfl) ?_
      refine lv_iload_n hx hb dL_law_559 rfl (lv_at hl 3 rfl) ?_
      refine lv_iconst (v := 2) hx hb dL_law_560 (by decide) ?_
      refine lv_iadd hx hb dL_law_561 ?_
      refine va_sld hx hb hX hbl hbA hS hin2 dL_law_562 ?_
      refine lv_aload_n hx hb dL_law_563 rfl (lv_at hl 0 rfl) ?_
      refine lv_iload_n hx hb dL_law_564 rfl (lv_at hl 3 rfl) ?_
      refine lv_iconst (v := 3) hx hb dL_law_565 (by decide) ?_
      refine lv_iadd hx hb dL_law_566 ?_
      refine va_sld hx hb hX hbl hbA hS hin3 dL_law_567 ?_
      refine y_callVi (As := [.int (xs (nI i + 1).toNatClampNeg), .int (xs (nI i + 2).toNatClampNeg), .int (xs (nI i + 3).toNatClampNeg)]) ⟨hx, hb, hml, hown, ht0⟩ hK hT hPm hDm hS rfl (c_X8_stamp l dd Y t adm (wD_ij hDm) F (xs (nI i + 1).toNatClampNeg) (xs (nI i + 2).toNatClampNeg) (xs (nI i + 3).toNatClampNeg) _ _ _ hp2) m_ML_L_73 sv_X8_stamp hd_X8_stamp rfl rfl ⟨Nat.le_of_ble_eq_true rfl, Nat.le_of_ble_eq_true rfl⟩ mk_0.1 (ce8 mk_0.2) rfl rfl hl.1 rfl (Nat.le_of_ble_eq_true rfl) dL_law_568 ⟨Nat.le_of_ble_eq_true rfl, Nat.le_of_ble_eq_true rfl⟩ (fun H locs hPm hk hS => ?_)
      have hPx := y_keep hPx hk hdj2
      have hDm : va_D (fun q : Nat => s.heap.size ≤ q) (wW Y MG adm Dm1) := wD_any hDm
      refine lv_icmp_eq (tgt := 721) hx hb dL_law_571 (by decide) (fun _ => ?_) (fun c_19 => absurd rfl c_19)
      exact hnext Dx1 Dm1 hrel1 H locs hPx hPm hDx hDm hS
    by_cases c14 : v = 14
    · refine lv_tableIn (tgt := 576) hx hb dL_law_33 (by rw [c14]; decide) (by rw [c14]; decide) (by rw [c14]; rfl) (by decide) ?_
      obtain ⟨r, Dx1, Dm1, hp1, hp2, hrel1⟩ := sm_turn Dx Dm (xs (nI i + 1).toNatClampNeg) (xs (nI i + 2).toNatClampNeg) hrel
      refine lv_aload_n hx hb dL_law_576 rfl (lv_at hl 1 rfl) ?_
      refine lv_aload_n hx hb dL_law_577 rfl (lv_at hl 0 rfl) ?_
      refine lv_iload_n hx hb dL_law_578 rfl (lv_at hl 3 rfl) ?_
      refine lv_iconst (v := 1) hx hb dL_law_579 (by decide) ?_
      refine lv_iadd hx hb dL_law_580 ?_
      refine va_sld hx hb hX hbl hbA hS hin1 dL_law_581 ?_
      refine lv_aload_n hx hb dL_law_582 rfl (lv_at hl 0 rfl) ?_
      refine lv_iload_n hx hb dL_law_583 rfl (lv_at hl 3 rfl) ?_
      refine lv_iconst (v := 2) hx hb dL_law_584 (by decide) ?_
      refine lv_iadd hx hb dL_law_585 ?_
      refine va_sld hx hb hX hbl hbA hS hin2 dL_law_586 ?_
      refine y_callVi (As := [.int (xs (nI i + 1).toNatClampNeg), .int (xs (nI i + 2).toNatClampNeg)]) ⟨hx, hb, hml, hown, ht0⟩ hK hT hPx hDx hS rfl (c_X7_turn l dd Y t adx (wD_ij hDx) F (xs (nI i + 1).toNatClampNeg) (xs (nI i + 2).toNatClampNeg) _ _ _ hp1) m_ML_L_74 sv_X7_turn hd_X7_turn rfl rfl ⟨Nat.le_of_ble_eq_true rfl, Nat.le_of_ble_eq_true rfl⟩ xk_0.1 (ce7 xk_0.2) rfl rfl hl.1 rfl (Nat.le_of_ble_eq_true rfl) dL_law_587 ⟨Nat.le_of_ble_eq_true rfl, Nat.le_of_ble_eq_true rfl⟩ (fun H locs hPx hk hS => ?_)
      have hPm := y_keep hPm hk hdj
      have hDx : va_D (fun q : Nat => s.heap.size ≤ q) (wW Y XG adx Dx1) := wD_any hDx
      refine lv_aload_n hx hb dL_law_590 rfl (lv_at hl 2 rfl) ?_
      refine lv_aload_n hx hb dL_law_591 rfl (lv_at hl 0 rfl) ?_
      refine lv_iload_n hx hb dL_law_592 rfl (lv_at hl 3 rfl) ?_
      refine lv_iconst (v := 1) hx hb dL_law_593 (by decide) ?_
      refine lv_iadd hx hb dL_law_594 ?_
      refine va_sld hx hb hX hbl hbA hS hin1 dL_law_595 ?_
      refine lv_aload_n hx hb dL_law_596 rfl (lv_at hl 0 rfl) ?_
      refine lv_iload_n hx hb dL_law_597 rfl (lv_at hl 3 rfl) ?_
      refine lv_iconst (v := 2) hx hb dL_law_598 (by decide) ?_
      refine lv_iadd hx hb dL_law_599 ?_
      refine va_sld hx hb hX hbl hbA hS hin2 dL_law_600 ?_
      refine y_callVi (As := [.int (xs (nI i + 1).toNatClampNeg), .int (xs (nI i + 2).toNatClampNeg)]) ⟨hx, hb, hml, hown, ht0⟩ hK hT hPm hDm hS rfl (c_X8_turn l dd Y t adm (wD_ij hDm) F (xs (nI i + 1).toNatClampNeg) (xs (nI i + 2).toNatClampNeg) _ _ _ hp2) m_ML_L_77 sv_X8_turn hd_X8_turn rfl rfl ⟨Nat.le_of_ble_eq_true rfl, Nat.le_of_ble_eq_true rfl⟩ mk_0.1 (ce8 mk_0.2) rfl rfl hl.1 rfl (Nat.le_of_ble_eq_true rfl) dL_law_601 ⟨Nat.le_of_ble_eq_true rfl, Nat.le_of_ble_eq_true rfl⟩ (fun H locs hPm hk hS => ?_)
      have hPx := y_keep hPx hk hdj2
      have hDm : va_D (fun q : Nat => s.heap.size ≤ q) (wW Y MG adm Dm1) := wD_any hDm
      refine lv_icmp_eq (tgt := 721) hx hb dL_law_604 (by decide) (fun _ => ?_) (fun c_19 => absurd rfl c_19)
      exact hnext Dx1 Dm1 hrel1 H locs hPx hPm hDx hDm hS
    by_cases c15 : v = 15
    · refine lv_tableIn (tgt := 609) hx hb dL_law_33 (by rw [c15]; decide) (by rw [c15]; decide) (by rw [c15]; rfl) (by decide) ?_
      obtain ⟨r, Dx1, Dm1, hp1, hp2, hrel1⟩ := sm_syncs Dx Dm (xs (nI i + 1).toNatClampNeg) hrel
      refine lv_aload_n hx hb dL_law_609 rfl (lv_at hl 1 rfl) ?_
      refine lv_aload_n hx hb dL_law_610 rfl (lv_at hl 0 rfl) ?_
      refine lv_iload_n hx hb dL_law_611 rfl (lv_at hl 3 rfl) ?_
      refine lv_iconst (v := 1) hx hb dL_law_612 (by decide) ?_
      refine lv_iadd hx hb dL_law_613 ?_
      refine va_sld hx hb hX hbl hbA hS hin1 dL_law_614 ?_
      refine y_callVi (As := [.int (xs (nI i + 1).toNatClampNeg)]) ⟨hx, hb, hml, hown, ht0⟩ hK hT hPx hDx hS rfl (c_X7_syncs l dd Y t adx (wD_ij hDx) F (xs (nI i + 1).toNatClampNeg) _ _ _ hp1) m_ML_L_78 sv_X7_syncs hd_X7_syncs rfl rfl ⟨Nat.le_of_ble_eq_true rfl, Nat.le_of_ble_eq_true rfl⟩ xk_0.1 (ce7 xk_0.2) rfl rfl hl.1 rfl (Nat.le_of_ble_eq_true rfl) dL_law_615 ⟨Nat.le_of_ble_eq_true rfl, Nat.le_of_ble_eq_true rfl⟩ (fun H locs hPx hk hS => ?_)
      have hPm := y_keep hPm hk hdj
      have hDx : va_D (fun q : Nat => s.heap.size ≤ q) (wW Y XG adx Dx1) := wD_any hDx
      refine lv_aload_n hx hb dL_law_618 rfl (lv_at hl 2 rfl) ?_
      refine lv_aload_n hx hb dL_law_619 rfl (lv_at hl 0 rfl) ?_
      refine lv_iload_n hx hb dL_law_620 rfl (lv_at hl 3 rfl) ?_
      refine lv_iconst (v := 1) hx hb dL_law_621 (by decide) ?_
      refine lv_iadd hx hb dL_law_622 ?_
      refine va_sld hx hb hX hbl hbA hS hin1 dL_law_623 ?_
      refine y_callVi (As := [.int (xs (nI i + 1).toNatClampNeg)]) ⟨hx, hb, hml, hown, ht0⟩ hK hT hPm hDm hS rfl (c_X8_syncs l dd Y t adm (wD_ij hDm) F (xs (nI i + 1).toNatClampNeg) _ _ _ hp2) m_ML_L_81 sv_X8_syncs hd_X8_syncs rfl rfl ⟨Nat.le_of_ble_eq_true rfl, Nat.le_of_ble_eq_true rfl⟩ mk_0.1 (ce8 mk_0.2) rfl rfl hl.1 rfl (Nat.le_of_ble_eq_true rfl) dL_law_624 ⟨Nat.le_of_ble_eq_true rfl, Nat.le_of_ble_eq_true rfl⟩ (fun H locs hPm hk hS => ?_)
      have hPx := y_keep hPx hk hdj2
      have hDm : va_D (fun q : Nat => s.heap.size ≤ q) (wW Y MG adm Dm1) := wD_any hDm
      refine lv_icmp_eq (tgt := 721) hx hb dL_law_627 (by decide) (fun _ => ?_) (fun c_19 => absurd rfl c_19)
      exact hnext Dx1 Dm1 hrel1 H locs hPx hPm hDx hDm hS
    by_cases c16 : v = 16
    · refine lv_tableIn (tgt := 632) hx hb dL_law_33 (by rw [c16]; decide) (by rw [c16]; decide) (by rw [c16]; rfl) (by decide) ?_
      obtain ⟨r, Dx1, Dm1, hp1, hp2, hrel1⟩ := sm_read Dx Dm (xs (nI i + 1).toNatClampNeg) (xs (nI i + 2).toNatClampNeg) hrel
      refine lv_aload_n hx hb dL_law_632 rfl (lv_at hl 1 rfl) ?_
      refine lv_aload_n hx hb dL_law_633 rfl (lv_at hl 0 rfl) ?_
      refine lv_iload_n hx hb dL_law_634 rfl (lv_at hl 3 rfl) ?_
      refine lv_iconst (v := 1) hx hb dL_law_635 (by decide) ?_
      refine lv_iadd hx hb dL_law_636 ?_
      refine va_sld hx hb hX hbl hbA hS hin1 dL_law_637 ?_
      refine lv_aload_n hx hb dL_law_638 rfl (lv_at hl 0 rfl) ?_
      refine lv_iload_n hx hb dL_law_639 rfl (lv_at hl 3 rfl) ?_
      refine lv_iconst (v := 2) hx hb dL_law_640 (by decide) ?_
      refine lv_iadd hx hb dL_law_641 ?_
      refine va_sld hx hb hX hbl hbA hS hin2 dL_law_642 ?_
      refine y_callVi (As := [.int (xs (nI i + 1).toNatClampNeg), .int (xs (nI i + 2).toNatClampNeg)]) ⟨hx, hb, hml, hown, ht0⟩ hK hT hPx hDx hS rfl (c_X7_read l dd Y t adx (wD_ij hDx) F (xs (nI i + 1).toNatClampNeg) (xs (nI i + 2).toNatClampNeg) _ _ _ hp1) m_ML_L_82 sv_X7_read hd_X7_read rfl rfl ⟨Nat.le_of_ble_eq_true rfl, Nat.le_of_ble_eq_true rfl⟩ xk_0.1 (ce7 xk_0.2) rfl rfl hl.1 rfl (Nat.le_of_ble_eq_true rfl) dL_law_643 ⟨Nat.le_of_ble_eq_true rfl, Nat.le_of_ble_eq_true rfl⟩ (fun H locs hPx hk hS => ?_)
      have hPm := y_keep hPm hk hdj
      have hDx : va_D (fun q : Nat => s.heap.size ≤ q) (wW Y XG adx Dx1) := wD_any hDx
      refine lv_aload_n hx hb dL_law_646 rfl (lv_at hl 2 rfl) ?_
      refine lv_aload_n hx hb dL_law_647 rfl (lv_at hl 0 rfl) ?_
      refine lv_iload_n hx hb dL_law_648 rfl (lv_at hl 3 rfl) ?_
      refine lv_iconst (v := 1) hx hb dL_law_649 (by decide) ?_
      refine lv_iadd hx hb dL_law_650 ?_
      refine va_sld hx hb hX hbl hbA hS hin1 dL_law_651 ?_
      refine lv_aload_n hx hb dL_law_652 rfl (lv_at hl 0 rfl) ?_
      refine lv_iload_n hx hb dL_law_653 rfl (lv_at hl 3 rfl) ?_
      refine lv_iconst (v := 2) hx hb dL_law_654 (by decide) ?_
      refine lv_iadd hx hb dL_law_655 ?_
      refine va_sld hx hb hX hbl hbA hS hin2 dL_law_656 ?_
      refine y_callVi (As := [.int (xs (nI i + 1).toNatClampNeg), .int (xs (nI i + 2).toNatClampNeg)]) ⟨hx, hb, hml, hown, ht0⟩ hK hT hPm hDm hS rfl (c_X8_read l dd Y t adm (wD_ij hDm) F (xs (nI i + 1).toNatClampNeg) (xs (nI i + 2).toNatClampNeg) _ _ _ hp2) m_ML_L_85 sv_X8_read hd_X8_read rfl rfl ⟨Nat.le_of_ble_eq_true rfl, Nat.le_of_ble_eq_true rfl⟩ mk_0.1 (ce8 mk_0.2) rfl rfl hl.1 rfl (Nat.le_of_ble_eq_true rfl) dL_law_657 ⟨Nat.le_of_ble_eq_true rfl, Nat.le_of_ble_eq_true rfl⟩ (fun H locs hPm hk hS => ?_)
      have hPx := y_keep hPx hk hdj2
      have hDm : va_D (fun q : Nat => s.heap.size ≤ q) (wW Y MG adm Dm1) := wD_any hDm
      refine lv_icmp_eq (tgt := 721) hx hb dL_law_660 (by decide) (fun _ => ?_) (fun c_19 => absurd rfl c_19)
      exact hnext Dx1 Dm1 hrel1 H locs hPx hPm hDx hDm hS
    by_cases c17 : v = 17
    · refine lv_tableIn (tgt := 665) hx hb dL_law_33 (by rw [c17]; decide) (by rw [c17]; decide) (by rw [c17]; rfl) (by decide) ?_
      obtain ⟨r, Dx1, Dm1, hp1, hp2, hrel1⟩ := sm_write Dx Dm (xs (nI i + 1).toNatClampNeg) (xs (nI i + 2).toNatClampNeg) hrel
      refine lv_aload_n hx hb dL_law_665 rfl (lv_at hl 1 rfl) ?_
      refine lv_aload_n hx hb dL_law_666 rfl (lv_at hl 0 rfl) ?_
      refine lv_iload_n hx hb dL_law_667 rfl (lv_at hl 3 rfl) ?_
      refine lv_iconst (v := 1) hx hb dL_law_668 (by decide) ?_
      refine lv_iadd hx hb dL_law_669 ?_
      refine va_sld hx hb hX hbl hbA hS hin1 dL_law_670 ?_
      refine lv_aload_n hx hb dL_law_671 rfl (lv_at hl 0 rfl) ?_
      refine lv_iload_n hx hb dL_law_672 rfl (lv_at hl 3 rfl) ?_
      refine lv_iconst (v := 2) hx hb dL_law_673 (by decide) ?_
      refine lv_iadd hx hb dL_law_674 ?_
      refine va_sld hx hb hX hbl hbA hS hin2 dL_law_675 ?_
      refine y_callVi (As := [.int (xs (nI i + 1).toNatClampNeg), .int (xs (nI i + 2).toNatClampNeg)]) ⟨hx, hb, hml, hown, ht0⟩ hK hT hPx hDx hS rfl (c_X7_write l dd Y t adx (wD_ij hDx) F (xs (nI i + 1).toNatClampNeg) (xs (nI i + 2).toNatClampNeg) _ _ _ hp1) m_ML_L_86 sv_X7_write hd_X7_write rfl rfl ⟨Nat.le_of_ble_eq_true rfl, Nat.le_of_ble_eq_true rfl⟩ xk_0.1 (ce7 xk_0.2) rfl rfl hl.1 rfl (Nat.le_of_ble_eq_true rfl) dL_law_676 ⟨Nat.le_of_ble_eq_true rfl, Nat.le_of_ble_eq_true rfl⟩ (fun H locs hPx hk hS => ?_)
      have hPm := y_keep hPm hk hdj
      have hDx : va_D (fun q : Nat => s.heap.size ≤ q) (wW Y XG adx Dx1) := wD_any hDx
      refine lv_aload_n hx hb dL_law_679 rfl (lv_at hl 2 rfl) ?_
      refine lv_aload_n hx hb dL_law_680 rfl (lv_at hl 0 rfl) ?_
      refine lv_iload_n hx hb dL_law_681 rfl (lv_at hl 3 rfl) ?_
      refine lv_iconst (v := 1) hx hb dL_law_682 (by decide) ?_
      refine lv_iadd hx hb dL_law_683 ?_
      refine va_sld hx hb hX hbl hbA hS hin1 dL_law_684 ?_
      refine lv_aload_n hx hb dL_law_685 rfl (lv_at hl 0 rfl) ?_
      refine lv_iload_n hx hb dL_law_686 rfl (lv_at hl 3 rfl) ?_
      refine lv_iconst (v := 2) hx hb dL_law_687 (by decide) ?_
      refine lv_iadd hx hb dL_law_688 ?_
      refine va_sld hx hb hX hbl hbA hS hin2 dL_law_689 ?_
      refine y_callVi (As := [.int (xs (nI i + 1).toNatClampNeg), .int (xs (nI i + 2).toNatClampNeg)]) ⟨hx, hb, hml, hown, ht0⟩ hK hT hPm hDm hS rfl (c_X8_write l dd Y t adm (wD_ij hDm) F (xs (nI i + 1).toNatClampNeg) (xs (nI i + 2).toNatClampNeg) _ _ _ hp2) m_ML_L_89 sv_X8_write hd_X8_write rfl rfl ⟨Nat.le_of_ble_eq_true rfl, Nat.le_of_ble_eq_true rfl⟩ mk_0.1 (ce8 mk_0.2) rfl rfl hl.1 rfl (Nat.le_of_ble_eq_true rfl) dL_law_690 ⟨Nat.le_of_ble_eq_true rfl, Nat.le_of_ble_eq_true rfl⟩ (fun H locs hPm hk hS => ?_)
      have hPx := y_keep hPx hk hdj2
      have hDm : va_D (fun q : Nat => s.heap.size ≤ q) (wW Y MG adm Dm1) := wD_any hDm
      refine lv_icmp_eq (tgt := 721) hx hb dL_law_693 (by decide) (fun _ => ?_) (fun c_19 => absurd rfl c_19)
      exact hnext Dx1 Dm1 hrel1 H locs hPx hPm hDx hDm hS
    by_cases c18 : v = 18
    · refine lv_tableIn (tgt := 698) hx hb dL_law_33 (by rw [c18]; decide) (by rw [c18]; decide) (by rw [c18]; rfl) (by decide) ?_
      obtain ⟨r, Dx1, Dm1, hp1, hp2, hrel1⟩ := sm_count Dx Dm (xs (nI i + 1).toNatClampNeg) hrel
      refine lv_aload_n hx hb dL_law_698 rfl (lv_at hl 1 rfl) ?_
      refine lv_aload_n hx hb dL_law_699 rfl (lv_at hl 0 rfl) ?_
      refine lv_iload_n hx hb dL_law_700 rfl (lv_at hl 3 rfl) ?_
      refine lv_iconst (v := 1) hx hb dL_law_701 (by decide) ?_
      refine lv_iadd hx hb dL_law_702 ?_
      refine va_sld hx hb hX hbl hbA hS hin1 dL_law_703 ?_
      refine y_callVi (As := [.int (xs (nI i + 1).toNatClampNeg)]) ⟨hx, hb, hml, hown, ht0⟩ hK hT hPx hDx hS rfl (c_X7_count l dd Y t adx (wD_ij hDx) F (xs (nI i + 1).toNatClampNeg) _ _ _ hp1) m_ML_L_90 sv_X7_count hd_X7_count rfl rfl ⟨Nat.le_of_ble_eq_true rfl, Nat.le_of_ble_eq_true rfl⟩ xk_0.1 (ce7 xk_0.2) rfl rfl hl.1 rfl (Nat.le_of_ble_eq_true rfl) dL_law_704 ⟨Nat.le_of_ble_eq_true rfl, Nat.le_of_ble_eq_true rfl⟩ (fun H locs hPx hk hS => ?_)
      have hPm := y_keep hPm hk hdj
      have hDx : va_D (fun q : Nat => s.heap.size ≤ q) (wW Y XG adx Dx1) := wD_any hDx
      refine lv_aload_n hx hb dL_law_707 rfl (lv_at hl 2 rfl) ?_
      refine lv_aload_n hx hb dL_law_708 rfl (lv_at hl 0 rfl) ?_
      refine lv_iload_n hx hb dL_law_709 rfl (lv_at hl 3 rfl) ?_
      refine lv_iconst (v := 1) hx hb dL_law_710 (by decide) ?_
      refine lv_iadd hx hb dL_law_711 ?_
      refine va_sld hx hb hX hbl hbA hS hin1 dL_law_712 ?_
      refine y_callVi (As := [.int (xs (nI i + 1).toNatClampNeg)]) ⟨hx, hb, hml, hown, ht0⟩ hK hT hPm hDm hS rfl (c_X8_count l dd Y t adm (wD_ij hDm) F (xs (nI i + 1).toNatClampNeg) _ _ _ hp2) m_ML_L_93 sv_X8_count hd_X8_count rfl rfl ⟨Nat.le_of_ble_eq_true rfl, Nat.le_of_ble_eq_true rfl⟩ mk_0.1 (ce8 mk_0.2) rfl rfl hl.1 rfl (Nat.le_of_ble_eq_true rfl) dL_law_713 ⟨Nat.le_of_ble_eq_true rfl, Nat.le_of_ble_eq_true rfl⟩ (fun H locs hPm hk hS => ?_)
      have hPx := y_keep hPx hk hdj2
      have hDm : va_D (fun q : Nat => s.heap.size ≤ q) (wW Y MG adm Dm1) := wD_any hDm
      refine lv_icmp_eq (tgt := 721) hx hb dL_law_716 (by decide) (fun _ => ?_) (fun c_19 => absurd rfl c_19)
      exact hnext Dx1 Dm1 hrel1 H locs hPx hPm hDx hDm hS
    have e0 : v.toInt ≠ 0 := x_sw c0
    have e1 : v.toInt ≠ 1 := x_sw c1
    have e2 : v.toInt ≠ 2 := x_sw c2
    have e3 : v.toInt ≠ 3 := x_sw c3
    have e4 : v.toInt ≠ 4 := x_sw c4
    have e5 : v.toInt ≠ 5 := x_sw c5
    have e6 : v.toInt ≠ 6 := x_sw c6
    have e7 : v.toInt ≠ 7 := x_sw c7
    have e8 : v.toInt ≠ 8 := x_sw c8
    have e9 : v.toInt ≠ 9 := x_sw c9
    have e10 : v.toInt ≠ 10 := x_sw c10
    have e11 : v.toInt ≠ 11 := x_sw c11
    have e12 : v.toInt ≠ 12 := x_sw c12
    have e13 : v.toInt ≠ 13 := x_sw c13
    have e14 : v.toInt ≠ 14 := x_sw c14
    have e15 : v.toInt ≠ 15 := x_sw c15
    have e16 : v.toInt ≠ 16 := x_sw c16
    have e17 : v.toInt ≠ 17 := x_sw c17
    have e18 : v.toInt ≠ 18 := x_sw c18
    refine lv_tableOut (tgt := 721) hx hb dL_law_33 (by omega) (by decide) ?_
    exact hnext Dx Dm hrel H locs hPx hPm hDx hDm hS
