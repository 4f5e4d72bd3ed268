/-! SYNCS: where they are, as a list; both sides find it -/
def sy (f : Nat → Bool) : Nat → Nat → Nat → List Nat
  | 0, _, _ => []
  | m + 1, k, run => if f k then sy f m (k + 1) (run + 1) else if 10 ≤ run then k :: sy f m (k + 1) 0 else sy f m (k + 1) 0
theorem sy_succ (f : Nat → Bool) (m k run : Nat) : sy f (m + 1) k run = if f k then sy f m (k + 1) (run + 1) else if 10 ≤ run then k :: sy f m (k + 1) 0 else sy f m (k + 1) 0 := rfl
/-- how far g is true from j on, at most m steps -/
def cnt (g : Nat → Bool) : Nat → Nat → Nat
  | 0, j => j
  | m + 1, j => if g j then cnt g m (j + 1) else j
theorem cnt_spec (g : Nat → Bool) : ∀ m j, j ≤ cnt g m j ∧ cnt g m j ≤ j + m ∧ (∀ u, j ≤ u → u < cnt g m j → g u = true) ∧ (cnt g m j < j + m → g (cnt g m j) = false)
  | 0, j => ⟨Nat.le_refl _, Nat.le_refl _, fun u h1 h2 => absurd h2 (by show ¬ u < j; omega), fun h => absurd h (by show ¬ j < j + 0; omega)⟩
  | m + 1, j => by
    unfold cnt
    by_cases c : g j = true
    · rw [if_pos c]
      obtain ⟨h1, h2, h3, h4⟩ := cnt_spec g m (j + 1)
      refine ⟨by omega, by omega, fun u hu1 hu2 => ?_, fun h => h4 (by omega)⟩
      by_cases e : u = j
      · rw [e]; exact c
      · exact h3 u (by omega) hu2
    · rw [if_neg c]
      refine ⟨Nat.le_refl _, by omega, fun u h1 h2 => by omega, fun _ => ?_⟩
      cases hg : g j with
      | false => rfl
      | true => exact absurd hg c
theorem sy_congr {f g : Nat → Bool} : ∀ m k run, (∀ q, k ≤ q → q < k + m → f q = g q) → sy f m k run = sy g m k run
  | 0, _, _, _ => rfl
  | m + 1, k, run, h => by
    unfold sy
    rw [h k (by omega) (by omega), sy_congr m (k + 1) (run + 1) (fun q h1 h2 => h q (by omega) (by omega)), sy_congr m (k + 1) 0 (fun q h1 h2 => h q (by omega) (by omega))]
theorem sy_cap {f : Nat → Bool} : ∀ m k r1 r2, (r1 = r2 ∨ (10 ≤ r1 ∧ 10 ≤ r2)) → sy f m k r1 = sy f m k r2
  | 0, _, _, _, _ => rfl
  | m + 1, k, r1, r2, h => by
    unfold sy
    rw [sy_cap m (k + 1) (r1 + 1) (r2 + 1) (by omega)]
    by_cases c : 10 ≤ r1
    · rw [if_pos c, if_pos (show 10 ≤ r2 by omega)]
    · rw [if_neg c, if_neg (show ¬ 10 ≤ r2 by omega)]
theorem sy_len {f : Nat → Bool} : ∀ m k run, 11 * (sy f m k run).length ≤ m + (if run < 10 then run else 10)
  | 0, _, _ => by unfold sy; simp
  | m + 1, k, run => by
    unfold sy
    have h1 := sy_len (f := f) m (k + 1) (run + 1)
    have h2 := sy_len (f := f) m (k + 1) 0
    rw [if_pos (by omega)] at h2
    split
    · by_cases c : run + 1 < 10
      · rw [if_pos c] at h1
        rw [if_pos (by omega)]
        omega
      · rw [if_neg c] at h1
        split <;> omega
    · split
      · rw [List.length_cons, if_neg (by omega)]
        omega
      · omega
theorem sy_ones {f : Nat → Bool} : ∀ j m k run, (∀ u, u < j → f (k + u) = true) → sy f (m + j) k run = sy f m (k + j) (run + j)
  | 0, _, _, _, _ => rfl
  | j + 1, m, k, run, h => by
    show sy f (m + j + 1) k run = _
    rw [sy_succ]
    have h0 := h 0 (by omega)
    rw [Nat.add_zero] at h0
    rw [if_pos h0, sy_ones j m (k + 1) (run + 1) (fun u hu => by rw [show k + 1 + u = k + (u + 1) by omega]; exact h (u + 1) (by omega))]
    rw [show k + 1 + j = k + (j + 1) by omega, show run + 1 + j = run + (j + 1) by omega]
theorem sy_all {f : Nat → Bool} : ∀ m k run, (∀ u, u < m → f (k + u) = true) → sy f m k run = [] := by
  intro m k run h
  have := sy_ones m 0 k run h
  rw [Nat.zero_add] at this
  rw [this]
  rfl
/-- a few bits make no sync: what is left of the run -/
def tr (f : Nat → Bool) : Nat → Nat → Nat → Nat
  | 0, _, s => s
  | r + 1, k, s => tr f r (k + 1) (if f k then s + 1 else 0)
theorem sy_short {f : Nat → Bool} : ∀ r m k s, s + r < 11 → sy f (m + r) k s = sy f m (k + r) (tr f r k s)
  | 0, _, _, _, _ => rfl
  | r + 1, m, k, s, h => by
    show sy f (m + r + 1) k s = sy f m (k + (r + 1)) (tr f r (k + 1) (if f k then s + 1 else 0))
    conv => lhs; unfold sy
    by_cases c : f k = true
    · rw [if_pos c, if_pos c, sy_short r m (k + 1) (s + 1) (by omega), show k + 1 + r = k + (r + 1) by omega]
    · rw [if_neg c, if_neg c, if_neg (by omega), sy_short r m (k + 1) 0 (by omega), show k + 1 + r = k + (r + 1) by omega]
theorem tr_snoc {f : Nat → Bool} : ∀ r k s, tr f (r + 1) k s = if f (k + r) then tr f r k s + 1 else 0
  | 0, k, s => rfl
  | r + 1, k, s => by
    show tr f (r + 1) (k + 1) _ = if f (k + (r + 1)) then tr f r (k + 1) _ + 1 else 0
    rw [tr_snoc r (k + 1), show k + 1 + r = k + (r + 1) by omega]
theorem cnt_shift {g h : Nat → Bool} : ∀ m j, (∀ u, j ≤ u → u < j + m → g (u + 1) = h u) → cnt g m (j + 1) = cnt h m j + 1
  | 0, _, _ => rfl
  | m + 1, j, e => by
    unfold cnt
    rw [e j (by omega) (by omega), cnt_shift m (j + 1) (fun u h1 h2 => e u (by omega) (by omega))]
    split <;> rfl
theorem cnt_stop {g : Nat → Bool} : ∀ m j p, j ≤ p → p ≤ j + m → (p < j + m → g p = false) → cnt g m j = cnt g (p - j) j
  | 0, j, p, h1, h2, _ => by rw [show p - j = 0 by omega]
  | m + 1, j, p, h1, h2, h3 => by
    by_cases e : p = j
    · subst e
      rw [Nat.sub_self]
      unfold cnt
      rw [if_neg (by rw [h3 (by omega)]; decide)]
    · obtain ⟨q, hq⟩ : ∃ q, p - j = q + 1 := ⟨p - j - 1, by omega⟩
      rw [hq]
      unfold cnt
      rw [cnt_stop m (j + 1) p (by omega) (by omega) (fun h => h3 (by omega)), show p - (j + 1) = q by omega]
theorem cnt_congr {g h : Nat → Bool} : ∀ m j, (∀ u, j ≤ u → u < j + m → g u = h u) → cnt g m j = cnt h m j
  | 0, _, _ => rfl
  | m + 1, j, e => by
    unfold cnt
    rw [e j (by omega) (by omega), cnt_congr m (j + 1) (fun u h1 h2 => e u (by omega) (by omega))]
theorem tr_cnt {f : Nat → Bool} : ∀ r k, tr f r k 0 = cnt (fun u => f (k + r - 1 - u)) r 0
  | 0, _ => rfl
  | r + 1, k => by
    rw [tr_snoc]
    unfold cnt
    rw [show k + (r + 1) - 1 - 0 = k + r by omega]
    by_cases c : f (k + r) = true
    · rw [if_pos c, if_pos c, cnt_shift (h := fun u => f (k + r - 1 - u)) r 0 (fun u _ _ => by show f (k + (r + 1) - 1 - (u + 1)) = f (k + r - 1 - u); congr 1; omega), tr_cnt r k]
    · rw [if_neg c, if_neg c]
/-- a byte, not all ones: the first bit 0 at lead, the ones at its end -/
theorem sy_byte {f : Nat → Bool} {m k run lead : Nat} (h1 : ∀ u, u < lead → f (k + u) = true) (h2 : f (k + lead) = false) (hl : lead < 8) : sy f (m + 8) k run = (if 10 ≤ run + lead then [k + lead] else []) ++ sy f m (k + 8) (cnt (fun u => f (k + 7 - u)) 8 0) := by
  have e1 : sy f (m + 8) k run = sy f (m + (8 - lead)) (k + lead) (run + lead) := by
    have := sy_ones (f := f) lead (m + (8 - lead)) k run h1
    rw [show m + (8 - lead) + lead = m + 8 by omega] at this
    exact this
  have e2 : cnt (fun u => f (k + 7 - u)) 8 0 = tr f (7 - lead) (k + lead + 1) 0 := by
    rw [tr_cnt, cnt_stop (g := fun u => f (k + 7 - u)) 8 0 (7 - lead) (by omega) (by omega) (fun _ => by show f (k + 7 - (7 - lead)) = false; rw [show k + 7 - (7 - lead) = k + lead by omega]; exact h2), Nat.sub_zero]
    exact cnt_congr _ _ (fun u _ _ => by show f (k + 7 - u) = f (k + lead + 1 + (7 - lead) - 1 - u); congr 1; omega)
  rw [e1, show m + (8 - lead) = m + (7 - lead) + 1 by omega, sy_succ]
  rw [if_neg (by rw [h2]; decide), sy_short (7 - lead) m (k + lead + 1) 0 (by omega), e2, show k + lead + 1 + (7 - lead) = k + 8 by omega]
  split <;> rfl
/-- the syncs of a ring of L bits -/
def SY (f : Nat → Bool) (L : Nat) : List Nat := sy f L 0 (cnt (fun u => f (L - 1 - u)) L 0)
theorem SY_len {f : Nat → Bool} {L : Nat} : 11 * (SY f L).length ≤ L := by
  unfold SY
  obtain ⟨h1, h2, h3, h4⟩ := cnt_spec (fun u => f (L - 1 - u)) L 0
  generalize cnt (fun u => f (L - 1 - u)) L 0 = c at *
  have e : sy f L 0 c = sy f (L - c) 0 c ++ [] := by
    rw [List.append_nil]
    have hh : ∀ m k run, k + m = L - c → sy f (m + c) k run = sy f m k run := by
      intro m
      induction m with
      | zero =>
        intro k run hk
        rw [Nat.zero_add, sy_all c k run (fun u hu => ?_)]
        · rfl
        · have := h3 (L - 1 - (k + u)) (by omega) (by omega)
          rw [show L - 1 - (L - 1 - (k + u)) = k + u by omega] at this
          exact this
      | succ m ih =>
        intro k run hk
        rw [show m + 1 + c = m + c + 1 by omega]
        unfold sy
        rw [ih (k + 1) (run + 1) (by omega), ih (k + 1) 0 (by omega)]
    have := hh (L - c) 0 c (by omega)
    rw [show L - c + c = L by omega] at this
    exact this
  rw [e, List.append_nil]
  have := sy_len (f := f) (L - c) 0 c
  split at this <;> omega
theorem sy_lt {f : Nat → Bool} : ∀ m k run x, x ∈ sy f m k run → x < k + m
  | 0, _, _, x, h => by unfold sy at h; cases h
  | m + 1, k, run, x, h => by
    unfold sy at h
    split at h
    · have := sy_lt m (k + 1) (run + 1) x h; omega
    · split at h
      · rcases List.mem_cons.mp h with h | h
        · omega
        · have := sy_lt m (k + 1) 0 x h; omega
      · have := sy_lt m (k + 1) 0 x h; omega
/-- the reference finds them -/
theorem mfind_go {N : Nat → Nat} {F t : Nat} (h1 : 1 ≤ t) (ht : t ≤ 16) (hN1 : N 1 = 124480) (hN7 : N 7 = 800) : ∀ (m n k run c : Nat) (D : Mm), k + m = 8 * byN t → m < n → run ≤ k + 8 * byN t → D 0 16 = nI c → c + (sy (mbit (D 1) (stN t)) m k run).length ≤ 800 → ∃ p : Nat → Int32, P_X8_findSyncs_49 N F n (nI (stN t)) (nI (8 * byN t)) (nI run) (nI k) D = some (0, up2 (upA D 7 p) 0 16 (nI (c + (sy (mbit (D 1) (stN t)) m k run).length))) ∧ (∀ j, j < c → p j = D 7 j) ∧ ∀ j (hj : j < (sy (mbit (D 1) (stN t)) m k run).length), p (c + j) = nI ((sy (mbit (D 1) (stN t)) m k run)[j]) := by
  have hb := byN_le t
  have hst := st_le t ⟨h1, ht⟩
  have up2_id : ∀ (D : Mm) (c k : Nat) (x : Int32), D c k = x → up2 D c k x = D := by
    intro D c k x h
    funext c' k'
    rw [up2_app]
    split
    · rename_i q; rw [q.1, q.2, h]
    · rfl
  have upA_id : ∀ (D : Mm) (c : Nat), upA D c (D c) = D := by
    intro D c
    funext c'
    unfold upA
    split
    · rename_i q; rw [q]
    · rfl
  intro m
  induction m with
  | zero =>
    intro n k run c D hk hn hr hc hlen
    obtain ⟨n, rfl⟩ : ∃ z, n = z + 1 := ⟨n - 1, by omega⟩
    refine ⟨D 7, ?_, fun _ _ => rfl, fun j hj => absurd hj (by unfold sy; simp)⟩
    show (if nI (8 * byN t) ≤ nI k then some (0, D) else _) = _
    rw [if_pos (nI_le (by omega) (by omega)), upA_id]
    show some (0, D) = some (0, up2 D 0 16 (nI (c + 0)))
    rw [Nat.add_zero, up2_id _ _ _ _ hc]
  | succ m ih =>
    intro n k run c D hk hn hr hc hlen
    obtain ⟨n, rfl⟩ : ∃ z, n = z + 1 := ⟨n - 1, by omega⟩
    have hin : inB (nI (stN t + k)) 124480 = true := in_nI (by omega) (by omega)
    show ∃ p : Nat → Int32, (if nI (8 * byN t) ≤ nI k then some (0, D) else (if inB (nI (stN t) + nI k) (N 1) = true then (if (D 1 (Int32.toNatClampNeg (nI (stN t) + nI k))) = 0 then (if nI run < 10 then (P_X8_findSyncs_95 N F (fun x2 x3 x4 x5 D => P_X8_findSyncs_49 N F n x2 x3 x4 x5 D) (nI (stN t)) (nI (8 * byN t)) (nI run) (nI k) D) else (if inB (D 0 16) (N 7) = true then (P_X8_findSyncs_95 N F (fun x2 x3 x4 x5 D => P_X8_findSyncs_49 N F n x2 x3 x4 x5 D) (nI (stN t)) (nI (8 * byN t)) (nI run) (nI k) (up2 (up2 D 7 (Int32.toNatClampNeg (D 0 16)) (nI k)) 0 16 (((up2 D 7 (Int32.toNatClampNeg (D 0 16)) (nI k)) 0 16) + 1))) else none)) else (P_X8_findSyncs_95 N F (fun x2 x3 x4 x5 D => P_X8_findSyncs_49 N F n x2 x3 x4 x5 D) (nI (stN t)) (nI (8 * byN t)) (nI run) (nI k) D)) else none)) = _ ∧ _
    rw [if_neg (nI_ge (by omega) (by omega)), nI_add, hN1, if_pos hin, nI_clamp (by omega)]
    have syS : sy (mbit (D 1) (stN t)) (m + 1) k run = if mbit (D 1) (stN t) k then sy (mbit (D 1) (stN t)) m (k + 1) (run + 1) else if 10 ≤ run then k :: sy (mbit (D 1) (stN t)) m (k + 1) 0 else sy (mbit (D 1) (stN t)) m (k + 1) 0 := rfl
    by_cases c0 : D 1 (stN t + k) = 0
    · rw [if_pos c0]
      rw [mbit_f c0, if_neg (by decide)] at syS
      by_cases c10 : run < 10
      · rw [if_pos (show nI run < 10 from nI_lt (b := 10) c10 (by omega))]
        rw [if_neg (by omega)] at syS
        unfold P_X8_findSyncs_95
        rw [nI_add, hN1, if_pos hin, nI_clamp (by omega), if_pos c0, nI_1, syS]
        rw [syS] at hlen
        exact ih n (k + 1) 0 c D (by omega) (by omega) (by omega) hc hlen
      · rw [if_neg (show ¬ nI run < 10 from nI_nlt (b := 10) (by omega) (by omega))]
        rw [if_pos (by omega)] at syS
        rw [syS, List.length_cons] at hlen
        rw [hc, hN7, if_pos (in_nI (by omega) (by omega)), nI_clamp (by omega), up2_app, if_neg (by omega), hc, nI_1]
        unfold P_X8_findSyncs_95
        have r1 : up2 (up2 D 7 c (nI k)) 0 16 (nI (c + 1)) 1 = D 1 := by rw [up2_o (by decide), up2_o (by decide)]
        rw [nI_add, hN1, if_pos hin, nI_clamp (by omega), r1, if_pos c0, nI_1]
        obtain ⟨p, p1, p2, p3⟩ := ih n (k + 1) 0 (c + 1) (up2 (up2 D 7 c (nI k)) 0 16 (nI (c + 1))) (by omega) (by omega) (by omega) (by rw [up2_app, if_pos ⟨rfl, rfl⟩]) (by rw [r1]; omega)
        rw [r1] at p1 p3
        have r7 : up2 (up2 D 7 c (nI k)) 0 16 (nI (c + 1)) 7 = upd (D 7) c (nI k) := by rw [up2_o (by decide), up2_row]
        rw [r7] at p2
        refine ⟨p, ?_, fun j hj => ?_, fun j hj => ?_⟩
        · show P_X8_findSyncs_49 N F n (nI (stN t)) (nI (8 * byN t)) (nI 0) (nI (k + 1)) _ = _
          rw [p1, syS, List.length_cons]
          congr 2
          rw [show c + 1 + (sy (mbit (D 1) (stN t)) m (k + 1) 0).length = c + ((sy (mbit (D 1) (stN t)) m (k + 1) 0).length + 1) by omega]
          funext c' k'
          rw [up2_app, up2_app]
          by_cases q : c' = 0 ∧ k' = 16
          · rw [if_pos q, if_pos q]
          · rw [if_neg q, if_neg q]
            by_cases q1 : c' = 7
            · subst q1; rw [upA_row, upA_row]
            · rw [upA_ne q1, upA_ne q1, up2_app, if_neg q, up2_o q1]
        · rw [p2 j (by omega)]
          unfold upd
          rw [if_neg (by omega)]
        · rw [syS, List.length_cons] at hj
          cases j with
          | zero =>
            rw [Nat.add_zero, p2 c (by omega)]
            unfold upd
            rw [if_pos rfl]
            simp [syS]
          | succ j =>
            rw [show c + (j + 1) = c + 1 + j by omega, p3 j (by omega)]
            simp [syS]
    · rw [if_neg c0]
      rw [mbit_t c0, if_pos rfl] at syS
      unfold P_X8_findSyncs_95
      rw [nI_add, hN1, if_pos hin, nI_clamp (by omega), if_neg c0, nI_1, nI_1, syS]
      rw [syS] at hlen
      exact ih n (k + 1) (run + 1) c D (by omega) (by omega) (by omega) hc hlen
theorem mrun_go {N : Nat → Nat} {F t : Nat} (h1 : 1 ≤ t) (ht : t ≤ 16) (hN1 : N 1 = 124480) (D : Mm) : ∀ (m n j : Nat), j + m = 8 * byN t → m < n → P_X8_findSyncs_13 N F n (nI (stN t)) (nI (8 * byN t)) (nI j) D = P_X8_findSyncs_49 N F F (nI (stN t)) (nI (8 * byN t)) (nI (cnt (fun u => mbit (D 1) (stN t) (8 * byN t - 1 - u)) m j)) 0 (up2 D 0 16 0) := by
  have hb := byN_le t
  have hst := st_le t ⟨h1, ht⟩
  intro m
  induction m with
  | zero =>
    intro n j hj hn
    obtain ⟨n, rfl⟩ : ∃ z, n = z + 1 := ⟨n - 1, by omega⟩
    show (if nI (8 * byN t) ≤ nI j then _ else _) = _
    rw [if_pos (nI_le (by omega) (by omega))]
    rfl
  | succ m ih =>
    intro n j hj hn
    obtain ⟨n, rfl⟩ : ∃ z, n = z + 1 := ⟨n - 1, by omega⟩
    show (if nI (8 * byN t) ≤ nI j then _ else (if inB (nI (stN t) + nI (8 * byN t) - 1 - nI j) (N 1) = true then (if (D 1 (Int32.toNatClampNeg (nI (stN t) + nI (8 * byN t) - 1 - nI j))) = 0 then P_X8_findSyncs_49 N F F (nI (stN t)) (nI (8 * byN t)) (nI j) 0 (up2 D 0 16 0) else (P_X8_findSyncs_13 N F n (nI (stN t)) (nI (8 * byN t)) (nI j + 1) D)) else none)) = _
    have e1 : nI (stN t) + nI (8 * byN t) - 1 - nI j = nI (stN t + (8 * byN t - 1 - j)) := by
      rw [nI_add]
      have : nI (stN t + 8 * byN t) - 1 = nI (stN t + 8 * byN t - 1) := sub_nI (b := 1) (by omega)
      rw [this, sub_nI (by omega)]
      congr 1
      omega
    rw [if_neg (nI_ge (by omega) (by omega)), e1, hN1, if_pos (in_nI (by omega) (by omega)), nI_clamp (by omega), nI_1]
    conv => rhs; unfold cnt
    by_cases c0 : D 1 (stN t + (8 * byN t - 1 - j)) = 0
    · rw [if_pos c0, if_neg (by rw [mbit_f c0]; decide)]
    · rw [if_neg c0, if_pos (mbit_t c0)]
      exact ih n (j + 1) (by omega) (by omega)
theorem mfindSyncs_eq {N : Nat → Nat} {F t : Nat} {D : Mm} (hF : 9000 ≤ F) (h1 : 1 ≤ t) (ht : t ≤ 16) (hN1 : N 1 = 124480) (hN7 : N 7 = 800) : ∃ p : Nat → Int32, P_X8_findSyncs N F (nI t) D = some (0, up2 (upA D 7 p) 0 16 (nI (SY (mbit (D 1) (stN t)) (8 * byN t)).length)) ∧ ∀ j (hj : j < (SY (mbit (D 1) (stN t)) (8 * byN t)).length), p j = nI ((SY (mbit (D 1) (stN t)) (8 * byN t))[j]) := by
  have hb := byN_le t
  unfold P_X8_findSyncs
  rw [startOf_eq D (by omega) h1 ht, bi_s, lengthOf_eq D ht, bi_s]
  have e0 : P_X8_findSyncs_13 N F F (nI (stN t)) (nI (8 * byN t)) 0 D = P_X8_findSyncs_13 N F F (nI (stN t)) (nI (8 * byN t)) (nI 0) D := rfl
  rw [e0, mrun_go h1 ht hN1 D (8 * byN t) F 0 (by omega) (by omega)]
  have hl := SY_len (f := mbit (D 1) (stN t)) (L := 8 * byN t)
  unfold SY at hl ⊢
  obtain ⟨c1, c2, _, _⟩ := cnt_spec (fun u => mbit (D 1) (stN t) (8 * byN t - 1 - u)) (8 * byN t) 0
  generalize cnt (fun u => mbit (D 1) (stN t) (8 * byN t - 1 - u)) (8 * byN t) 0 = run at *
  have r1 : up2 D 0 16 0 1 = D 1 := up2_o (by decide)
  obtain ⟨p, p1, p2, p3⟩ := mfind_go (F := F) h1 ht hN1 hN7 (8 * byN t) F 0 run 0 (up2 D 0 16 0) (by omega) (by omega) (by omega) (by rw [up2_app, if_pos ⟨rfl, rfl⟩]; rfl) (by rw [r1]; omega)
  rw [r1] at p1 p3
  refine ⟨p, ?_, fun j hj => ?_⟩
  · show P_X8_findSyncs_49 N F F (nI (stN t)) (nI (8 * byN t)) (nI run) (nI 0) (up2 D 0 16 0) = _
    rw [p1, Nat.zero_add]
    congr 2
    funext c' k'
    rw [up2_app, up2_app]
    by_cases q : c' = 0 ∧ k' = 16
    · rw [if_pos q, if_pos q]
    · rw [if_neg q, if_neg q]
      by_cases q1 : c' = 7
      · subst q1; rw [upA_row, upA_row]
      · rw [upA_ne q1, upA_ne q1, up2_app, if_neg q]
  · have := p3 j hj
    rw [Nat.zero_add] at this
    exact this
