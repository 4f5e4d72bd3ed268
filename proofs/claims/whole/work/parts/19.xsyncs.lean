/-! XSYNCS: the class finds the syncs -/
theorem up2_id {D : Mm} {c k : Nat} {x : Int32} (h : D c k = x) : up2 D c k x = D := by
  funext c' k'
  rw [up2_app]
  split
  · rename_i q; rw [q.1, q.2, h]
  · rfl
theorem upA_id (D : Mm) (c : Nat) : upA D c (D c) = D := by
  funext c'
  unfold upA
  split
  · rename_i q; rw [q]
  · rfl
theorem bit128 (v : Int32) {j : Nat} (hj : j < 8) : ((v <<< (nI j &&& 31)) &&& 128) = 0 ↔ bt v (7 - j) = false := by
  have h0 : ∀ i, bt 128 i = decide (i = 7) := by
    intro i
    rcases Nat.lt_or_ge i 32 with h | h
    · exact (by decide +kernel : ∀ i, i < 32 → bt 128 i = decide (i = 7)) i h
    · rw [b_big h, decide_eq_false (by omega)]
  have e7 : bt (v <<< (nI j &&& 31)) 7 = bt v (7 - j) := by
    rw [b_shl j (by omega) v (by omega), decide_eq_true (by omega), Bool.true_and]
  constructor
  · intro h
    have := congrArg (fun x => bt x 7) h
    simp only [b_and, h0, e7, b_0] at this
    simpa using this
  · intro h
    apply b_ext
    intro i hi
    rw [b_and, h0, b_0]
    by_cases c : i = 7
    · subst c; rw [e7, h]; rfl
    · simp [c]
theorem bt_false {x : Int32} {i : Nat} (h : ¬ bt x i = true) : bt x i = false := by
  cases hb : bt x i with
  | false => rfl
  | true => exact absurd hb h
theorem trail_go {N : Nat → Nat} {F th : Nat} {k71 : Int32 → Int32 → Mm → Rs} {x3 v : Int32} {D : Mm} : ∀ (m n j : Nat), j + m = 8 → m < n → P_X5_findSyncs_179 N F th k71 n (nI j) x3 v D = k71 (nI (cnt (fun u => bt v u) m j)) (x3 + 1) D := by
  intro m
  induction m with
  | zero =>
    intro n j hj hn
    obtain ⟨n, rfl⟩ : ∃ z, n = z + 1 := ⟨n - 1, by omega⟩
    show (if (8 : Int32) ≤ nI j then k71 (nI j) (x3 + 1) D else _) = _
    rw [if_pos (show (8 : Int32) ≤ nI j from nI_le (a := 8) (by omega) (by omega))]
    rfl
  | succ m ih =>
    intro n j hj hn
    obtain ⟨n, rfl⟩ : ∃ z, n = z + 1 := ⟨n - 1, by omega⟩
    show (if (8 : Int32) ≤ nI j then k71 (nI j) (x3 + 1) D else (if ((v >>> (nI j &&& 31)) &&& 1) = 1 then (P_X5_findSyncs_179 N F th k71 n (nI j + 1) x3 v D) else (k71 (nI j) (x3 + 1) D))) = _
    rw [if_neg (show ¬ (8 : Int32) ≤ nI j from nI_ge (b := 8) (by omega) (by omega))]
    conv => rhs; unfold cnt
    by_cases c : bt v j = true
    · rw [if_pos ((bit1 v (by omega)).mpr c), if_pos c, nI_1]
      exact ih n (j + 1) (by omega) (by omega)
    · rw [if_neg (fun q => c ((bit1 v (by omega)).mp q)), if_neg c]
theorem lead_go {N : Nat → Nat} {F th : Nat} {k71 : Int32 → Int32 → Mm → Rs} {x2 x3 v : Int32} {D : Mm} : ∀ (m n j : Nat), j + m = 8 → m < n → P_X5_findSyncs_105 N F th k71 n x2 x3 v (nI j) D = P_X5_findSyncs_130 N F th k71 x2 x3 v (nI (cnt (fun u => bt v (7 - u)) m j)) D := by
  intro m
  induction m with
  | zero =>
    intro n j hj hn
    obtain ⟨n, rfl⟩ : ∃ z, n = z + 1 := ⟨n - 1, by omega⟩
    show (if (8 : Int32) ≤ nI j then P_X5_findSyncs_130 N F th k71 x2 x3 v (nI j) D else _) = _
    rw [if_pos (show (8 : Int32) ≤ nI j from nI_le (a := 8) (by omega) (by omega))]
    rfl
  | succ m ih =>
    intro n j hj hn
    obtain ⟨n, rfl⟩ : ∃ z, n = z + 1 := ⟨n - 1, by omega⟩
    show (if (8 : Int32) ≤ nI j then P_X5_findSyncs_130 N F th k71 x2 x3 v (nI j) D else (if ((v <<< (nI j &&& 31)) &&& 128) = 0 then (P_X5_findSyncs_130 N F th k71 x2 x3 v (nI j) D) else (P_X5_findSyncs_105 N F th k71 n x2 x3 v (nI j + 1) D))) = _
    rw [if_neg (show ¬ (8 : Int32) ≤ nI j from nI_ge (b := 8) (by omega) (by omega))]
    conv => rhs; unfold cnt
    by_cases c : bt v (7 - j) = true
    · rw [if_neg (fun q => by rw [(bit128 v (by omega)).mp q] at c; cases c), if_pos c, nI_1]
      exact ih n (j + 1) (by omega) (by omega)
    · rw [if_pos ((bit128 v (by omega)).mpr (bt_false c)), if_neg c]
theorem run16_go {N : Nat → Nat} {F th : Nat} {v : Int32} {D : Mm} : ∀ (m n j : Nat), j + m = 16 → m < n → P_X5_findSyncs_48 N F th n v (nI j) D = P_X5_findSyncs_71 N F th F (nI (cnt (fun u => bt v u) m j)) 0 D := by
  intro m
  induction m with
  | zero =>
    intro n j hj hn
    obtain ⟨n, rfl⟩ : ∃ z, n = z + 1 := ⟨n - 1, by omega⟩
    show (if (16 : Int32) ≤ nI j then P_X5_findSyncs_71 N F th F (nI j) 0 D else _) = _
    rw [if_pos (show (16 : Int32) ≤ nI j from nI_le (a := 16) (by omega) (by omega))]
    rfl
  | succ m ih =>
    intro n j hj hn
    obtain ⟨n, rfl⟩ : ∃ z, n = z + 1 := ⟨n - 1, by omega⟩
    show (if (16 : Int32) ≤ nI j then P_X5_findSyncs_71 N F th F (nI j) 0 D else (if ((v >>> (nI j &&& 31)) &&& 1) = 1 then (P_X5_findSyncs_48 N F th n v (nI j + 1) D) else (P_X5_findSyncs_71 N F th F (nI j) 0 D))) = _
    rw [if_neg (show ¬ (16 : Int32) ≤ nI j from nI_ge (b := 16) (by omega) (by omega))]
    conv => rhs; unfold cnt
    by_cases c : bt v j = true
    · rw [if_pos ((bit1 v (by omega)).mpr c), if_pos c, nI_1]
      exact ih n (j + 1) (by omega) (by omega)
    · rw [if_neg (fun q => c ((bit1 v (by omega)).mp q)), if_neg c]
theorem By_all {v : Int32} (hv : By v) (h : ∀ u, u < 8 → bt v (7 - u) = true) : v = 255 := by
  apply b_ext
  intro i hi
  rw [b_255]
  by_cases c : i < 8
  · rw [decide_eq_true c]
    have := h (7 - i) (by omega)
    rw [show 7 - (7 - i) = i by omega] at this
    exact this
  · rw [decide_eq_false c, hv i (by omega)]
theorem xfind_go {N : Nat → Nat} {F th n : Nat} (hF : 100 ≤ F) (h3 : 3 ≤ n) (hn : n ≤ 1060) (hN1 : N (th + 1) = n) (hN2 : N (th + 2) = 8 * n / 11) : ∀ (m fu i run c : Nat) (D : Mm), i + m = n → m < fu → run ≤ 8 * i + 16 → (∀ i, i < n → By (D (th + 1) i)) → D th 3 = nI c → c + (sy (rbit (D (th + 1))) (8 * m) (8 * i) run).length ≤ 8 * n / 11 → ∃ p : Nat → Int32, P_X5_findSyncs_71 N F th fu (nI run) (nI i) D = some (nI (c + (sy (rbit (D (th + 1))) (8 * m) (8 * i) run).length), up2 (up2 (upA D (th + 2) p) th 3 (nI (c + (sy (rbit (D (th + 1))) (8 * m) (8 * i) run).length))) th 4 1) ∧ (∀ j, j < c → p j = D (th + 2) j) ∧ ∀ j (hj : j < (sy (rbit (D (th + 1))) (8 * m) (8 * i) run).length), p (c + j) = nI ((sy (rbit (D (th + 1))) (8 * m) (8 * i) run)[j]) := by
  intro m
  induction m with
  | zero =>
    intro fu i run c D hi hfu hrun hby hc hlen
    obtain ⟨fu, rfl⟩ : ∃ z, fu = z + 1 := ⟨fu - 1, by omega⟩
    refine ⟨D (th + 2), ?_, fun _ _ => rfl, fun j hj => absurd hj (by simp [sy])⟩
    show (if nI (N (th + 1)) ≤ nI i then some ((up2 D th 4 1) th 3, up2 D th 4 1) else _) = _
    rw [hN1, if_pos (nI_le (by omega) (by omega)), upA_id]
    show some ((up2 D th 4 1) th 3, up2 D th 4 1) = some (nI (c + 0), up2 (up2 D th 3 (nI (c + 0))) th 4 1)
    rw [Nat.add_zero, up2_id hc, up2_app, if_neg (by omega), hc]
  | succ m ih =>
    intro fu i run c D hi hfu hrun hby hc hlen
    obtain ⟨fu, rfl⟩ : ∃ z, fu = z + 1 := ⟨fu - 1, by omega⟩
    show ∃ p : Nat → Int32, (if nI (N (th + 1)) ≤ nI i then some ((up2 D th 4 1) th 3, up2 D th 4 1) else (if inB (nI i) (N (th + 1)) = true then (P_X5_findSyncs_88 N F th (fun x2 x3 D => P_X5_findSyncs_71 N F th fu x2 x3 D) (nI run) (nI i) (D (th + 1) (Int32.toNatClampNeg (nI i))) D) else none)) = _ ∧ _
    rw [hN1, if_neg (nI_ge (by omega) (by omega)), if_pos (in_nI (by omega) (by omega)), nI_clamp (by omega)]
    have hv : By (D (th + 1) i) := hby i (by omega)
    have fb : ∀ u, u < 8 → rbit (D (th + 1)) (8 * i + u) = bt (D (th + 1) i) (7 - u) := fun u hu => rbit_at _ hu
    have e8 : 8 * (m + 1) = 8 * m + 8 := by omega
    have ei : 8 * i + 8 = 8 * (i + 1) := by omega
    unfold P_X5_findSyncs_88
    by_cases c255 : D (th + 1) i = 255
    · have hs : sy (rbit (D (th + 1))) (8 * (m + 1)) (8 * i) run = sy (rbit (D (th + 1))) (8 * m) (8 * (i + 1)) (run + 8) := by
        rw [e8, sy_ones 8 (8 * m) (8 * i) run (fun u hu => by rw [fb u hu, c255, b_255, decide_eq_true (by omega)]), ei]
      rw [if_pos c255, hs]
      rw [hs] at hlen
      have e1 : nI run + (8 : Int32) = nI (run + 8) := nI_add run 8
      show ∃ p : Nat → Int32, P_X5_findSyncs_71 N F th fu (nI run + 8) (nI i + 1) D = _ ∧ _
      rw [e1, nI_1]
      exact ih fu (i + 1) (run + 8) c D (by omega) (by omega) (by omega) hby hc hlen
    · rw [if_neg c255, show P_X5_findSyncs_105 N F th (fun x2 x3 D => P_X5_findSyncs_71 N F th fu x2 x3 D) F (nI run) (nI i) (D (th + 1) i) 0 D = P_X5_findSyncs_105 N F th (fun x2 x3 D => P_X5_findSyncs_71 N F th fu x2 x3 D) F (nI run) (nI i) (D (th + 1) i) (nI 0) D from rfl, lead_go 8 F 0 rfl (by omega)]
      obtain ⟨l1, l2, l3, l4⟩ := cnt_spec (fun u => bt (D (th + 1) i) (7 - u)) 8 0
      have l8 : cnt (fun u => bt (D (th + 1) i) (7 - u)) 8 0 < 8 := by
        rcases Nat.lt_or_ge (cnt (fun u => bt (D (th + 1) i) (7 - u)) 8 0) 8 with q | q
        · exact q
        · exact absurd (By_all hv (fun u hu => l3 u (by omega) (by omega))) c255
      generalize cnt (fun u => bt (D (th + 1) i) (7 - u)) 8 0 = lead at *
      have tl : cnt (fun u => rbit (D (th + 1)) (8 * i + 7 - u)) 8 0 = cnt (fun u => bt (D (th + 1) i) u) 8 0 := cnt_congr _ _ (fun u _ hu => by
        show rbit (D (th + 1)) (8 * i + 7 - u) = bt (D (th + 1) i) u
        rw [show 8 * i + 7 - u = 8 * i + (7 - u) by omega, fb (7 - u) (by omega), show 7 - (7 - u) = u by omega])
      have hs : sy (rbit (D (th + 1))) (8 * (m + 1)) (8 * i) run = (if 10 ≤ run + lead then [8 * i + lead] else []) ++ sy (rbit (D (th + 1))) (8 * m) (8 * (i + 1)) (cnt (fun u => bt (D (th + 1) i) u) 8 0) := by
        rw [e8, sy_byte (lead := lead) (fun u hu => by rw [fb u (by omega)]; exact l3 u (by omega) hu) (by rw [fb lead l8]; exact l4 (by omega)) l8, tl, ei]
      obtain ⟨t1, t2, _, _⟩ := cnt_spec (fun u => bt (D (th + 1) i) u) 8 0
      have k177 : ∀ D1 : Mm, P_X5_findSyncs_177 N F th (fun x2 x3 D => P_X5_findSyncs_71 N F th fu x2 x3 D) (nI i) (D (th + 1) i) D1 = P_X5_findSyncs_71 N F th fu (nI (cnt (fun u => bt (D (th + 1) i) u) 8 0)) (nI (i + 1)) D1 := by
        intro D1
        unfold P_X5_findSyncs_177
        have := trail_go (N := N) (F := F) (th := th) (k71 := fun x2 x3 D => P_X5_findSyncs_71 N F th fu x2 x3 D) (x3 := nI i) (v := D (th + 1) i) (D := D1) 8 F 0 rfl (by omega)
        rw [nI_1] at this
        exact this
      generalize cnt (fun u => bt (D (th + 1) i) u) 8 0 = trail at hs t1 t2 k177
      unfold P_X5_findSyncs_130
      rw [nI_add]
      by_cases c10 : 10 ≤ run + lead
      · rw [if_neg (show ¬ nI (run + lead) < 10 from nI_nlt (b := 10) c10 (by omega))]
        rw [if_pos c10] at hs
        rw [hs] at hlen
        rw [List.length_append, List.length_singleton] at hlen
        have e1 : (8 : Int32) * nI i + nI lead = nI (8 * i + lead) := by
          have : (8 : Int32) * nI i = nI (8 * i) := pk_mul 8 i
          rw [this, nI_add]
        rw [hN2, hc, if_neg (nI_ge (by omega) (by omega)), if_pos (in_nI (by omega) (by omega)), nI_clamp (by omega), e1, up2_app, if_neg (by omega), hc, nI_1, k177]
        have r1 : up2 (up2 D (th + 2) c (nI (8 * i + lead))) th 3 (nI (c + 1)) (th + 1) = D (th + 1) := by rw [up2_o (by omega), up2_o (by omega)]
        have r2 : up2 (up2 D (th + 2) c (nI (8 * i + lead))) th 3 (nI (c + 1)) (th + 2) = upd (D (th + 2)) c (nI (8 * i + lead)) := by rw [up2_o (by omega), up2_row]
        obtain ⟨p, p1, p2, p3⟩ := ih fu (i + 1) trail (c + 1) (up2 (up2 D (th + 2) c (nI (8 * i + lead))) th 3 (nI (c + 1))) (by omega) (by omega) (by omega) (by rw [r1]; exact hby) (by rw [up2_app, if_pos ⟨rfl, rfl⟩]) (by rw [r1]; omega)
        rw [r1] at p1 p3
        rw [r2] at p2
        refine ⟨p, ?_, fun j hj => ?_, fun j hj => ?_⟩
        · rw [p1, hs, List.length_append, List.length_singleton, show c + (1 + (sy (rbit (D (th + 1))) (8 * m) (8 * (i + 1)) trail).length) = c + 1 + (sy (rbit (D (th + 1))) (8 * m) (8 * (i + 1)) trail).length by omega]
          congr 2
          funext c' k'
          rw [up2_app, up2_app, up2_app, up2_app]
          by_cases q : c' = th ∧ k' = 4
          · rw [if_pos q, if_pos q]
          · rw [if_neg q, if_neg q]
            by_cases q3 : c' = th ∧ k' = 3
            · rw [if_pos q3, if_pos q3]
            · rw [if_neg q3, if_neg q3]
              by_cases q1 : c' = th + 2
              · subst q1; rw [upA_row, upA_row]
              · rw [upA_ne q1, upA_ne q1, up2_app, if_neg q3, up2_o q1]
        · rw [p2 j (by omega)]
          unfold upd
          rw [if_neg (by omega)]
        · rw [hs, List.length_append, List.length_singleton] at hj
          cases j with
          | zero =>
            rw [Nat.add_zero, p2 c (by omega)]
            unfold upd
            rw [if_pos rfl]
            simp [hs]
          | succ j =>
            rw [show c + (j + 1) = c + 1 + j by omega, p3 j (by omega)]
            simp [hs]
      · rw [if_pos (show nI (run + lead) < 10 from nI_lt (b := 10) (by omega) (by omega)), k177]
        rw [if_neg c10, List.nil_append] at hs
        rw [hs]
        rw [hs] at hlen
        exact ih fu (i + 1) trail c D (by omega) (by omega) (by omega) hby hc hlen
theorem two_bit {x y : Int32} (hx : By x) (hy : By y) {q : Nat} (hq : q < 32) : bt ((x <<< ((8 : Int32) &&& 31)) ||| y) q = if q < 8 then bt y q else if q < 16 then bt x (q - 8) else false := by
  rw [b_or, b_shl8 x hq]
  by_cases h1 : q < 8
  · rw [if_pos h1]; simp [show ¬ 8 ≤ q by omega]
  · rw [if_neg h1, hy q (by omega)]
    by_cases h2 : q < 16
    · rw [if_pos h2]; simp [show 8 ≤ q by omega]
    · rw [if_neg h2, hx (q - 8) (by omega)]; simp
/-- what is found is right, where it is said to be known -/
def KnownOk (th n : Nat) (D : Mm) : Prop := (D th 4 = 0 ∨ D th 4 = 1) ∧ (D th 4 = 1 → D th 3 = nI (SY (rbit (D (th + 1))) (8 * n)).length ∧ ∀ j (hj : j < (SY (rbit (D (th + 1))) (8 * n)).length), D (th + 2) j = nI ((SY (rbit (D (th + 1))) (8 * n))[j]))
theorem findSyncs_eq {N : Nat → Nat} {F th n : Nat} {D : Mm} (hF : 9000 ≤ F) (h : RingOk N th n D) (hN2 : N (th + 2) = 8 * n / 11) (hk : KnownOk th n D) : ∃ p : Nat → Int32, P_X5_findSyncs N F th D = some (nI (SY (rbit (D (th + 1))) (8 * n)).length, up2 (up2 (upA D (th + 2) p) th 3 (nI (SY (rbit (D (th + 1))) (8 * n)).length)) th 4 1) ∧ ∀ j (hj : j < (SY (rbit (D (th + 1))) (8 * n)).length), p j = nI ((SY (rbit (D (th + 1))) (8 * n))[j]) := by
  obtain ⟨h3, hm, hN, hbits, hby⟩ := h
  unfold P_X5_findSyncs
  by_cases c0 : D th 4 = 0
  · rw [if_pos c0, hN]
    have s2 : nI n - (2 : Int32) = nI (n - 2) := sub_nI (b := 2) (by omega)
    have s1 : nI n - (1 : Int32) = nI (n - 1) := sub_nI (b := 1) (by omega)
    rw [s2, s1, if_pos (in_nI (by omega) (by omega)), if_pos (in_nI (by omega) (by omega)), nI_clamp (by omega), nI_clamp (by omega)]
    have r1 : up2 D th 3 0 (th + 1) = D (th + 1) := up2_o (by omega)
    rw [r1]
    unfold P_X5_findSyncs_46
    generalize hla : ((D (th + 1) (n - 2)) <<< ((8 : Int32) &&& 31)) ||| (D (th + 1) (n - 1)) = last
    have hlb : ∀ u, u < 16 → bt last u = rbit (D (th + 1)) (8 * n - 1 - u) := by
      intro u hu
      rw [← hla, two_bit (hby _ (by omega)) (hby _ (by omega)) (by omega)]
      by_cases c : u < 8
      · rw [if_pos c, show 8 * n - 1 - u = 8 * (n - 1) + (7 - u) by omega, rbit_at _ (by omega)]
        congr 1
        omega
      · rw [if_neg c, if_pos hu, show 8 * n - 1 - u = 8 * (n - 2) + (15 - u) by omega, rbit_at _ (by omega)]
        congr 1
        omega
    rw [show P_X5_findSyncs_48 N F th F last 0 (up2 D th 3 0) = P_X5_findSyncs_48 N F th F last (nI 0) (up2 D th 3 0) from rfl, run16_go 16 F 0 rfl (by omega)]
    have hcap : SY (rbit (D (th + 1))) (8 * n) = sy (rbit (D (th + 1))) (8 * n) (8 * 0) (cnt (fun u => bt last u) 16 0) := by
      unfold SY
      refine sy_cap _ _ _ _ ?_
      have e1 : cnt (fun u => bt last u) 16 0 = cnt (fun u => rbit (D (th + 1)) (8 * n - 1 - u)) 16 0 := cnt_congr _ _ (fun u _ hu => hlb u (by omega))
      rw [e1]
      obtain ⟨a1, a2, a3, a4⟩ := cnt_spec (fun u => rbit (D (th + 1)) (8 * n - 1 - u)) (8 * n) 0
      obtain ⟨b1, b2, b3, b4⟩ := cnt_spec (fun u => rbit (D (th + 1)) (8 * n - 1 - u)) 16 0
      generalize cnt (fun u => rbit (D (th + 1)) (8 * n - 1 - u)) (8 * n) 0 = x at *
      generalize cnt (fun u => rbit (D (th + 1)) (8 * n - 1 - u)) 16 0 = y at *
      by_cases cy : y < 16
      · left
        rcases Nat.lt_trichotomy x y with q | q | q
        · have h1 := b3 x (by omega) q
          have h2 := a4 (by omega)
          rw [h1] at h2; cases h2
        · exact q
        · have h1 := a3 y (by omega) q
          have h2 := b4 (by omega)
          rw [h1] at h2; cases h2
      · right
        refine ⟨?_, by omega⟩
        rcases Nat.lt_or_ge x 10 with q | q
        · have h1 := b3 x (by omega) (by omega)
          have h2 := a4 (by omega)
          rw [h1] at h2; cases h2
        · exact q
    obtain ⟨t1, t2, _, _⟩ := cnt_spec (fun u => bt last u) 16 0
    have hlen := SY_len (f := rbit (D (th + 1))) (L := 8 * n)
    rw [hcap] at hlen ⊢
    generalize cnt (fun u => bt last u) 16 0 = run at *
    obtain ⟨p, p1, p2, p3⟩ := xfind_go (F := F) (by omega) h3 hm hN hN2 n F 0 run 0 (up2 D th 3 0) (by omega) (by omega) (by omega) (by rw [r1]; exact hby) (by rw [up2_app, if_pos ⟨rfl, rfl⟩]; rfl) (by rw [r1]; omega)
    rw [r1] at p1 p3
    refine ⟨p, ?_, fun j hj => ?_⟩
    · show P_X5_findSyncs_71 N F th F (nI run) (nI 0) (up2 D th 3 0) = _
      rw [p1, Nat.zero_add]
      congr 2
      funext c' k'
      rw [up2_app, up2_app, up2_app, up2_app]
      by_cases q : c' = th ∧ k' = 4
      · rw [if_pos q, if_pos q]
      · rw [if_neg q, if_neg q]
        by_cases q3 : c' = th ∧ k' = 3
        · rw [if_pos q3, if_pos q3]
        · rw [if_neg q3, if_neg q3]
          by_cases q1 : c' = th + 2
          · subst q1; rw [upA_row, upA_row]
          · rw [upA_ne q1, upA_ne q1, up2_app, if_neg q3]
    · have := p3 j hj
      rw [Nat.zero_add] at this
      exact this
  · rw [if_neg c0]
    have c1 : D th 4 = 1 := hk.1.resolve_left c0
    obtain ⟨k1, k2⟩ := hk.2 c1
    refine ⟨D (th + 2), ?_, k2⟩
    rw [upA_id, up2_id k1, up2_id c1, k1]
