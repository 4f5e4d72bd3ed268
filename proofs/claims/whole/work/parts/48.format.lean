/-! FORMAT -/
theorem f278_go {F t w : Nat} {g : Nat → Bool} {x5 : Int32} {E0 : Mm} {k173 : Int32 → Mm → Rs} {k194 : Int32 → Int32 → Mm → Rs} (hF : 9000 ≤ F) (h1 : 1 ≤ t) (ht : t ≤ 16) (hL : w + 48 ≤ 8 * byN t) (hg : ∀ x, x < 48 → g (w + x) = decide (x % 2 = 1)) : ∀ (m fu i : Nat) (E : Mm), i + m = 6 → m < fu → FA t (w + 8 * i) g E0 E → ∃ E1, P_X8_format_278 (gN MG) F k173 k194 fu (nI t) x5 (nI i) E = P_X8_format_302 (gN MG) F k173 k194 F (nI t) x5 (nI 0) E1 ∧ FA t (w + 48) g E0 E1 := by
  intro m
  induction m with
  | zero =>
    intro fu i E hi hfu h
    obtain ⟨fu, rfl⟩ : ∃ z, fu = z + 1 := ⟨fu - 1, by omega⟩
    have e : i = 6 := by omega
    subst e
    refine ⟨E, ?_, h⟩
    show (if (6 : Int32) ≤ nI 6 then P_X8_format_302 (gN MG) F k173 k194 F (nI t) x5 (nI 0) E else _) = _
    rw [if_pos (by decide)]
  | succ m ih =>
    intro fu i E hi hfu h
    obtain ⟨fu, rfl⟩ : ∃ z, fu = z + 1 := ⟨fu - 1, by omega⟩
    obtain ⟨E1, p1, p2, _⟩ := fa_85 (F := F) (by omega) h1 ht h (by omega) (fun x hx => by
      rw [show w + 8 * i + x = w + (8 * i + x) by omega, hg _ (by omega), show (8 * i + x) % 2 = x % 2 by omega])
    obtain ⟨E2, q1, q2⟩ := ih fu (i + 1) E1 (by omega) (by omega) (by rw [show w + 8 * (i + 1) = w + 8 * i + 8 by omega]; exact p2)
    refine ⟨E2, ?_, q2⟩
    show (if (6 : Int32) ≤ nI i then _ else (bi (P_X8_putBits (gN MG) F 85 8 E) (fun r15 D15 => P_X8_format_278 (gN MG) F k173 k194 fu (nI t) x5 (nI i + 1) D15))) = _
    rw [if_neg (show ¬ (6 : Int32) ≤ nI i from nI_ge (b := 6) (by omega) (by omega)), p1, bi_s, nI_1]
    exact q1
theorem f352_go {F t w : Nat} {g : Nat → Bool} {x5 : Int32} {E0 : Mm} {k173 : Int32 → Mm → Rs} {k194 : Int32 → Int32 → Mm → Rs} (hF : 9000 ≤ F) (h1 : 1 ≤ t) (ht : t ≤ 16) (hL : w + 64 ≤ 8 * byN t) (hg : ∀ x, x < 64 → g (w + x) = decide (x % 2 = 1)) : ∀ (m fu i : Nat) (E : Mm), i + m = 8 → m < fu → FA t (w + 8 * i) g E0 E → ∃ E1, P_X8_format_352 (gN MG) F k173 k194 fu (nI t) x5 (nI i) E = k194 (nI t) (x5 + 1) E1 ∧ FA t (w + 64) g E0 E1 := by
  intro m
  induction m with
  | zero =>
    intro fu i E hi hfu h
    obtain ⟨fu, rfl⟩ : ∃ z, fu = z + 1 := ⟨fu - 1, by omega⟩
    have e : i = 8 := by omega
    subst e
    refine ⟨E, ?_, h⟩
    show (if (8 : Int32) ≤ nI 8 then k194 (nI t) (x5 + 1) E else _) = _
    rw [if_pos (by decide)]
  | succ m ih =>
    intro fu i E hi hfu h
    obtain ⟨fu, rfl⟩ : ∃ z, fu = z + 1 := ⟨fu - 1, by omega⟩
    obtain ⟨E1, p1, p2, _⟩ := fa_85 (F := F) (by omega) h1 ht h (by omega) (fun x hx => by
      rw [show w + 8 * i + x = w + (8 * i + x) by omega, hg _ (by omega), show (8 * i + x) % 2 = x % 2 by omega])
    obtain ⟨E2, q1, q2⟩ := ih fu (i + 1) E1 (by omega) (by omega) (by rw [show w + 8 * (i + 1) = w + 8 * i + 8 by omega]; exact p2)
    refine ⟨E2, ?_, q2⟩
    show (if (8 : Int32) ≤ nI i then _ else (bi (P_X8_putBits (gN MG) F 85 8 E) (fun r5 D5 => P_X8_format_352 (gN MG) F k173 k194 fu (nI t) x5 (nI i + 1) D5))) = _
    rw [if_neg (show ¬ (8 : Int32) ≤ nI i from nI_ge (b := 8) (by omega) (by omega)), p1, bi_s, nI_1]
    exact q1
theorem f302_go {F t s : Nat} {k173 : Int32 → Mm → Rs} {k194 : Int32 → Int32 → Mm → Rs} (ht : t ≤ 16) (hs : s < 100) : ∀ (m fu i : Nat) (E : Mm), i + m = 64 → m < fu → ∃ r : Nat → Int32, P_X8_format_302 (gN MG) F k173 k194 fu (nI t) (nI s) (nI i) E = bi (P_X8_putData (gN MG) F (upA E 8 r)) (fun r7 D7 => P_X8_format_352 (gN MG) F k173 k194 F (nI t) (nI s) (nI 0) D7) ∧ ∀ j, r j = if i ≤ j ∧ j < 64 then rowOf t s (E 9) j else E 8 j := by
  have n8 : gN MG 8 = 64 := rfl
  have n9 : gN MG 9 = 64 := rfl
  intro m
  induction m with
  | zero =>
    intro fu i E hi hfu
    obtain ⟨fu, rfl⟩ : ∃ z, fu = z + 1 := ⟨fu - 1, by omega⟩
    refine ⟨E 8, ?_, fun j => by rw [if_neg (by omega)]⟩
    show (if (64 : Int32) ≤ nI i then (bi (P_X8_putData (gN MG) F E) (fun r7 D7 => P_X8_format_352 (gN MG) F k173 k194 F (nI t) (nI s) (nI 0) D7)) else _) = _
    rw [if_pos (show (64 : Int32) ≤ nI i from nI_le (a := 64) (by omega) (by omega)), upA_id]
  | succ m ih =>
    intro fu i E hi hfu
    obtain ⟨fu, rfl⟩ : ∃ z, fu = z + 1 := ⟨fu - 1, by omega⟩
    obtain ⟨r, q1, q2⟩ := ih fu (i + 1) (up2 E 8 i (rowOf t s (E 9) i)) (by omega) (by omega)
    refine ⟨r, ?_, fun j => ?_⟩
    · have key : P_X8_format_302 (gN MG) F k173 k194 (fu + 1) (nI t) (nI s) (nI i) E = P_X8_format_302 (gN MG) F k173 k194 fu (nI t) (nI s) (nI i + 1) (up2 E 8 i (rowOf t s (E 9) i)) := by
        show (if (64 : Int32) ≤ nI i then _ else (if nI t = 9 then (if nI s = 0 then (if inB (nI i) (gN MG 9) = true then (if inB (nI i) (gN MG 8) = true then (P_X8_format_302 (gN MG) F k173 k194 fu (nI t) (nI s) (nI i + 1) (up2 E 8 (Int32.toNatClampNeg (nI i)) (E 9 (Int32.toNatClampNeg (nI i))))) else none) else none) else (if inB (nI i) (gN MG 8) = true then (P_X8_format_302 (gN MG) F k173 k194 fu (nI t) (nI s) (nI i + 1) (up2 E 8 (Int32.toNatClampNeg (nI i)) 0)) else none)) else (if inB (nI i) (gN MG 8) = true then (P_X8_format_302 (gN MG) F k173 k194 fu (nI t) (nI s) (nI i + 1) (up2 E 8 (Int32.toNatClampNeg (nI i)) 0)) else none))) = _
        rw [if_neg (show ¬ (64 : Int32) ≤ nI i from nI_ge (b := 64) (by omega) (by omega)), n8, n9, nI_clamp (by omega)]
        unfold rowOf
        by_cases c : t = 9
        · rw [if_pos (show nI t = 9 by rw [c]; rfl)]
          by_cases d : s = 0
          · rw [if_pos (show nI s = 0 by rw [d]; rfl), if_pos (in_nI (by omega) (by omega)), if_pos (in_nI (by omega) (by omega)), if_pos ⟨c, d⟩]
          · rw [if_neg (show ¬ nI s = 0 from nI_z (by omega) (by omega)), if_pos (in_nI (by omega) (by omega)), if_neg (show ¬ (t = 9 ∧ s = 0) from fun q => d q.2)]
        · rw [if_neg (show ¬ nI t = 9 from fun q => c ((nI_eq (a := t) (b := 9) (by omega) (by omega)).mp q)), if_pos (in_nI (by omega) (by omega)), if_neg (show ¬ (t = 9 ∧ s = 0) from fun q => c q.1)]
      rw [key, nI_1, q1, show upA (up2 E 8 i (rowOf t s (E 9) i)) 8 r = upA E 8 r from upA_upA E _ _ r]
    · rw [q2 j, up2_o (show 9 ≠ 8 by decide), up2_app]
      by_cases c : j = i
      · subst c
        rw [if_neg (by omega), if_pos ⟨rfl, rfl⟩, if_pos (by omega)]
      · rw [show (if 8 = 8 ∧ j = i then rowOf t s (E 9) i else E 8 j) = E 8 j from if_neg (fun q => c q.2)]
        by_cases c2 : i + 1 ≤ j ∧ j < 64
        · rw [if_pos c2, if_pos (by omega)]
        · rw [if_neg c2, if_neg (by omega)]
theorem f379_go {F t : Nat} {g : Nat → Bool} {E0 : Mm} {k173 : Int32 → Mm → Rs} (hF : 9000 ≤ F) (h1 : 1 ≤ t) (ht : t ≤ 16) : ∀ (m fu w : Nat) (E : Mm), w + 8 * m = 8 * byN t → m < fu → (∀ x, w ≤ x → x < 8 * byN t → g x = decide (x % 2 = 1)) → FA t w g E0 E → ∃ E1, P_X8_format_379 (gN MG) F k173 fu (nI t) E = k173 (nI (t + 1)) E1 ∧ FA t (8 * byN t) g E0 E1 := by
  have hb := byN_le t
  intro m
  induction m with
  | zero =>
    intro fu w E hi hfu hg h
    obtain ⟨fu, rfl⟩ : ∃ z, fu = z + 1 := ⟨fu - 1, by omega⟩
    have e : w = 8 * byN t := by omega
    subst e
    refine ⟨E, ?_, h⟩
    show bi (P_X8_lengthOf (gN MG) F (nI t) E) (fun r1 D1 => if r1 ≤ (E 0 30) then (k173 (nI t + 1) D1) else _) = _
    rw [lengthOf_eq E ht, bi_s, h.2.2.2.2.1, if_pos (nI_le (by omega) (by omega)), nI_1]
  | succ m ih =>
    intro fu w E hi hfu hg h
    obtain ⟨fu, rfl⟩ : ∃ z, fu = z + 1 := ⟨fu - 1, by omega⟩
    obtain ⟨E1, p1, p2, _⟩ := fa_85 (F := F) (by omega) h1 ht h (by omega) (fun x hx => by
      rw [hg _ (by omega) (by omega), show (w + x) % 2 = x % 2 by omega])
    obtain ⟨E2, q1, q2⟩ := ih fu (w + 8) E1 (by omega) (by omega) (fun x a b => hg x (by omega) b) p2
    refine ⟨E2, ?_, q2⟩
    show bi (P_X8_lengthOf (gN MG) F (nI t) E) (fun r1 D1 => if r1 ≤ (E 0 30) then _ else (bi (P_X8_putBits (gN MG) F 85 8 D1) (fun r3 D3 => P_X8_format_379 (gN MG) F k173 fu (nI t) D3))) = _
    rw [lengthOf_eq E ht, bi_s, h.2.2.2.2.1, if_neg (nI_ge (by omega) (by omega)), p1, bi_s]
    exact q1
theorem fsec {F t s fu : Nat} {h l : Int32} {E0 E : Mm} {k173 : Int32 → Mm → Rs} (hF : 9000 ≤ F) (h1 : 1 ≤ t) (ht : t ≤ 16) (hs : s < secN t) (hm : MOk (gN MG) E0) (hh : h = E0 0 4 >>> (8 &&& 31)) (hl : l = E0 0 4 &&& 255) (hA : FA t (912 * s) (trB h l t (E0 9)) E0 E) : ∃ E1, P_X8_format_194 (gN MG) F k173 (fu + 1) (nI t) (nI s) E = P_X8_format_194 (gN MG) F k173 fu (nI t) (nI (s + 1)) E1 ∧ FA t (912 * (s + 1)) (trB h l t (E0 9)) E0 E1 := by
  have hb := byN_le t
  have hsn := secN_le t
  obtain ⟨hrm, _⟩ := sec_room t
  have hsl : 912 * (s + 1) ≤ 912 * secN t := Nat.mul_le_mul_left 912 (by omega)
  have hg : ∀ x, x < 912 → trB h l t (E0 9) (912 * s + x) = secB h l t s (rowOf t s (E0 9)) x := fun x hx => trB_sec hs hx
  obtain ⟨g, eg⟩ : ∃ z, z = trB h l t (E0 9) := ⟨_, rfl⟩
  rw [← eg] at hA hg ⊢
  have hF1 : 100 ≤ F := by omega
  have id4 : ∀ (w : Nat) (A : Mm), FA t w g E0 A → A 0 4 = E0 0 4 := fun w A q => q.2.2.2.2.2.2 4 (by decide) (by decide)
  have hd : ∀ (k x : Nat), k < 6 → x < 10 → g (912 * s + (40 + 10 * k + x)) = cb (hV h l t s k) x := fun k x hk hx => by rw [hg _ (by omega), sec_h hk hx]
  obtain ⟨A1, p1, q1, _⟩ := fa_sy (F := F) hF1 h1 ht hm hA (by omega) (fun x hx => by rw [hg x (by omega), sec_s hx])
  obtain ⟨A2, p2, q2, _⟩ := fa_cd (F := F) (v := 8) hF1 h1 ht hm q1 (by omega) (fun x hx => by rw [show 912 * s + 40 + x = 912 * s + (40 + 10 * 0 + x) by omega]; exact hd 0 x (by decide) hx)
  obtain ⟨A3, p3, q3, _⟩ := fa_cd (F := F) (v := ((nI s ^^^ nI t) ^^^ h) ^^^ l) hF1 h1 ht hm q2 (by omega) (fun x hx => by rw [show 912 * s + 40 + 10 + x = 912 * s + (40 + 10 * 1 + x) by omega]; exact hd 1 x (by decide) hx)
  obtain ⟨A4, p4, q4, _⟩ := fa_cd (F := F) (v := nI s) hF1 h1 ht hm q3 (by omega) (fun x hx => by rw [show 912 * s + 40 + 10 + 10 + x = 912 * s + (40 + 10 * 2 + x) by omega]; exact hd 2 x (by decide) hx)
  obtain ⟨A5, p5, q5, _⟩ := fa_cd (F := F) (v := nI t) hF1 h1 ht hm q4 (by omega) (fun x hx => by rw [show 912 * s + 40 + 10 + 10 + 10 + x = 912 * s + (40 + 10 * 3 + x) by omega]; exact hd 3 x (by decide) hx)
  obtain ⟨A6, p6, q6, _⟩ := fa_cd (F := F) (v := h) hF1 h1 ht hm q5 (by omega) (fun x hx => by rw [show 912 * s + 40 + 10 + 10 + 10 + 10 + x = 912 * s + (40 + 10 * 4 + x) by omega]; exact hd 4 x (by decide) hx)
  obtain ⟨A7, p7, q7, _⟩ := fa_cd (F := F) (v := l) hF1 h1 ht hm q6 (by omega) (fun x hx => by rw [show 912 * s + 40 + 10 + 10 + 10 + 10 + 10 + x = 912 * s + (40 + 10 * 5 + x) by omega]; exact hd 5 x (by decide) hx)
  have q7' : FA t (912 * s + 100 + 8 * 0) g E0 A7 := by rw [show 912 * s + 100 + 8 * 0 = 912 * s + 40 + 10 + 10 + 10 + 10 + 10 + 10 by omega]; exact q7
  obtain ⟨A8, p8, q8⟩ := f278_go (F := F) (x5 := nI s) (k173 := k173) (k194 := fun x4 x5 D => P_X8_format_194 (gN MG) F k173 fu x4 x5 D) hF h1 ht (by omega) (fun x hx => by
    rw [show 912 * s + 100 + x = 912 * s + (100 + x) by omega, hg _ (by omega), sec_g (by omega) (by omega), show (100 + x) % 2 = x % 2 by omega]) 6 F 0 A7 (by decide) (by omega) q7'
  obtain ⟨r, p9, r9⟩ := f302_go (F := F) (t := t) (s := s) (k173 := k173) (k194 := fun x4 x5 D => P_X8_format_194 (gN MG) F k173 fu x4 x5 D) ht (by omega) 64 F 0 A8 (by decide) (by omega)
  have e9 : A8 9 = E0 9 := q8.2.2.2.2.2.1 9 (by decide) (by decide) (by decide)
  have q8' : FA t (912 * s + 148) g E0 (upA A8 8 r) := by rw [show 912 * s + 148 = 912 * s + 100 + 48 by omega]; exact q8.blk
  obtain ⟨A9, p10, q10⟩ := fa_data (F := F) (row := r) hF1 h1 ht hm q8' (upA_row _ _ _) (by omega) (fun x hx => by
    rw [show 912 * s + 148 + x = 912 * s + (148 + x) by omega, hg _ (by omega), sec_d hx]
    exact pdB_congr (fun j hj => by rw [r9 j, if_pos (by omega), e9]) x)
  obtain ⟨A10, p11, q11⟩ := f352_go (F := F) (w := 912 * s + 148 + 700) (x5 := nI s) (k173 := k173) (k194 := fun x4 x5 D => P_X8_format_194 (gN MG) F k173 fu x4 x5 D) hF h1 ht (by omega) (fun x hx => by
    rw [show 912 * s + 148 + 700 + x = 912 * s + (848 + x) by omega, hg _ (by omega), sec_e (by omega), show (848 + x) % 2 = x % 2 by omega]) 8 F 0 A9 (by decide) (by omega) q10
  refine ⟨A10, ?_, by rw [show 912 * (s + 1) = 912 * s + 148 + 700 + 64 by omega]; exact q11⟩
  show bi (P_X8_sectorsOf (gN MG) F (nI t) E) (fun r16 D16 => if r16 ≤ nI s then (P_X8_format_379 (gN MG) F k173 F (nI t) D16) else (bi (P_X8_putSync (gN MG) F D16) (fun r18 D18 => bi (P_X8_putCoded (gN MG) F 8 D18) (fun r19 D19 => bi (P_X8_putCoded (gN MG) F (((nI s ^^^ nI t) ^^^ ((D19 0 4) >>> (8 &&& 31))) ^^^ ((D19 0 4) &&& 255)) D19) (fun r20 D20 => bi (P_X8_putCoded (gN MG) F (nI s) D20) (fun r21 D21 => bi (P_X8_putCoded (gN MG) F (nI t) D21) (fun r22 D22 => bi (P_X8_putCoded (gN MG) F ((D22 0 4) >>> (8 &&& 31)) D22) (fun r23 D23 => bi (P_X8_putCoded (gN MG) F ((D23 0 4) &&& 255) D23) (fun r24 D24 => P_X8_format_278 (gN MG) F k173 (fun x4 x5 D => P_X8_format_194 (gN MG) F k173 fu x4 x5 D) F (nI t) (nI s) (nI 0) D24))))))))) = _
  rw [msectorsOf_eq E ht, bi_s, if_neg (nI_ge (by omega) (by omega)), p1, bi_s, p2, bi_s, id4 _ _ q2, ← hh, ← hl, p3, bi_s, p4, bi_s, p5, bi_s, id4 _ _ q5, ← hh, p6, bi_s, id4 _ _ q6, ← hl, p7, bi_s, p8, p9, p10, bi_s, p11, nI_1]
theorem f194_go {F t : Nat} {h l : Int32} {E0 : Mm} {k173 : Int32 → Mm → Rs} (hF : 9000 ≤ F) (h1 : 1 ≤ t) (ht : t ≤ 16) (hm : MOk (gN MG) E0) (hh : h = E0 0 4 >>> (8 &&& 31)) (hl : l = E0 0 4 &&& 255) : ∀ (m fu s : Nat) (E : Mm), s + m = secN t → m < fu → FA t (912 * s) (trB h l t (E0 9)) E0 E → ∃ E1, P_X8_format_194 (gN MG) F k173 fu (nI t) (nI s) E = k173 (nI (t + 1)) E1 ∧ FA t (8 * byN t) (trB h l t (E0 9)) E0 E1 := by
  have hb := byN_le t
  have hsn := secN_le t
  obtain ⟨hrm, hr8⟩ := sec_room t
  intro m
  induction m with
  | zero =>
    intro fu s E hi hfu hA
    obtain ⟨fu, rfl⟩ : ∃ z, fu = z + 1 := ⟨fu - 1, by omega⟩
    have e : s = secN t := by omega
    subst e
    obtain ⟨E1, p1, p2⟩ := f379_go (F := F) (k173 := k173) hF h1 ht ((8 * byN t - 912 * secN t) / 8) F (912 * secN t) E (by omega) (by omega) (fun x a _ => trB_gap a) hA
    refine ⟨E1, ?_, p2⟩
    show bi (P_X8_sectorsOf (gN MG) F (nI t) E) (fun r16 D16 => if r16 ≤ nI (secN t) then (P_X8_format_379 (gN MG) F k173 F (nI t) D16) else _) = _
    rw [msectorsOf_eq E ht, bi_s, if_pos (nI_le (by omega) (by omega)), p1]
  | succ m ih =>
    intro fu s E hi hfu hA
    obtain ⟨fu, rfl⟩ : ∃ z, fu = z + 1 := ⟨fu - 1, by omega⟩
    obtain ⟨E1, p1, p2⟩ := fsec (F := F) (fu := fu) (k173 := k173) hF h1 ht (by omega) hm hh hl hA
    obtain ⟨E2, q1, q2⟩ := ih fu (s + 1) E1 (by omega) (by omega) p2
    exact ⟨E2, by rw [p1, q1], q2⟩
def FmA (h l : Int32) (E0 E : Mm) (n : Nat) : Prop := B01 E ∧ (∀ v, 1 ≤ v → v < n → ∀ q, q < 8 * byN v → mbit (E 1) (stN v) q = trB h l v (E0 9) q) ∧ (∀ c, c ≠ 0 → c ≠ 1 → c ≠ 8 → E c = E0 c) ∧ ∀ k, k ≠ 29 → k ≠ 30 → E 0 k = E0 0 k
theorem f173_go {F : Nat} {h l : Int32} {E0 : Mm} (hF : 9000 ≤ F) (hm : MOk (gN MG) E0) (hh : h = E0 0 4 >>> (8 &&& 31)) (hl : l = E0 0 4 &&& 255) : ∀ (m fu t : Nat) (E : Mm), t + m = 17 → 1 ≤ t → m < fu → FmA h l E0 E t → ∃ E1, P_X8_format_173 (gN MG) F fu (nI t) E = some (0, tM 0 0 0 E1) ∧ FmA h l E0 E1 17 := by
  intro m
  induction m with
  | zero =>
    intro fu t E hi h1 hfu hA
    obtain ⟨fu, rfl⟩ : ∃ z, fu = z + 1 := ⟨fu - 1, by omega⟩
    have e : t = 17 := by omega
    subst e
    refine ⟨E, ?_, hA⟩
    show (if (16 : Int32) < nI 17 then some (0, tM 0 0 0 E) else _) = _
    rw [if_pos (by decide)]
  | succ m ih =>
    intro fu t E hi h1 hfu hA
    obtain ⟨fu, rfl⟩ : ∃ z, fu = z + 1 := ⟨fu - 1, by omega⟩
    have hsn := secN_le t
    obtain ⟨a1, a2, a3, a4⟩ := hA
    obtain ⟨A, hA'⟩ : ∃ z, z = up2 (up2 E 0 29 (nI t)) 0 30 0 := ⟨_, rfl⟩
    have oA : ∀ c, c ≠ 0 → A c = E c := fun c hc => by rw [hA', up2_o hc, up2_o hc]
    have oA0 : ∀ k, k ≠ 29 → k ≠ 30 → A 0 k = E 0 k := fun k a b => by rw [hA', up2_app, if_neg (fun q => b q.2), up2_app, if_neg (fun q => a q.2)]
    have a9 : A 9 = E0 9 := by rw [oA 9 (by decide), a3 9 (by decide) (by decide) (by decide)]
    have am : MOk (gN MG) A := by
      obtain ⟨m1, m2, m3, m4, m5, m6, m7⟩ := hm
      exact ⟨m1, m2, m3, m4, m5, by rw [oA 4 (by decide), a3 4 (by decide) (by decide) (by decide)]; exact m6, by rw [oA 3 (by decide), a3 3 (by decide) (by decide) (by decide)]; exact m7⟩
    have i4 : A 0 4 = E0 0 4 := by rw [oA0 4 (by decide) (by decide), a4 4 (by decide) (by decide)]
    obtain ⟨E1, p1, b1, b2, b3, b4, b5, b6, b7⟩ := f194_go (F := F) (t := t) (h := h) (l := l) (E0 := A) (k173 := fun x4 D => P_X8_format_173 (gN MG) F fu x4 D) hF h1 (by omega) am (by rw [i4]; exact hh) (by rw [i4]; exact hl) (secN t) F 0 A (by omega) (by omega) ⟨fun x hx => by omega, fun _ _ => rfl, fun _ => Or.inl rfl, by rw [hA', up2_app, if_neg (by decide), up2_app, if_pos ⟨rfl, rfl⟩], by rw [hA', up2_app, if_pos ⟨rfl, rfl⟩]; rfl, fun _ _ _ _ => rfl, fun _ _ _ => rfl⟩
    rw [a9] at b1
    obtain ⟨E2, q1, q2⟩ := ih fu (t + 1) E1 (by omega) (by omega) (by omega) ⟨fun i => by
        rcases b3 i with q | q
        · rw [q, oA 1 (by decide)]; exact a1 i
        · exact q, fun v v1 v2 q hq => by
        by_cases e : v = t
        · subst e; exact b1 q hq
        · rw [← a2 v v1 (by omega) q hq]
          unfold mbit
          rw [b2 (stN v + q) (by have := stN_step t v h1 (by omega) v1 (by omega) (fun q => e q.symm); omega), oA 1 (by decide)], fun c a b d => by rw [b6 c a b d, oA c a, a3 c a b d], fun k a b => by rw [b7 k a b, oA0 k a b, a4 k a b]⟩
    refine ⟨E2, ?_, q2⟩
    show (if (16 : Int32) < nI t then _ else (P_X8_format_194 (gN MG) F (fun x4 D => P_X8_format_173 (gN MG) F fu x4 D) F (nI t) (nI 0) (up2 (up2 E 0 29 (nI t)) 0 30 0))) = _
    rw [if_neg (show ¬ (16 : Int32) < nI t from nI_nlt (a := 16) (by omega) (by omega)), ← hA', p1]
    exact q1
theorem secB_congr {h l : Int32} {t s : Nat} {r r' : Nat → Int32} (e : ∀ j, j < 64 → r j = r' j) (o : Nat) : secB h l t s r o = secB h l t s r' o := by
  unfold secB
  rw [pdB_congr e]
theorem trB_congr {h l : Int32} {t : Nat} {r r' : Nat → Int32} (e : ∀ j, j < 64 → r j = r' j) (i : Nat) : trB h l t r i = trB h l t r' i := by
  unfold trB
  rw [secB_congr (r := rowOf t (i / 912) r) (r' := rowOf t (i / 912) r') (fun j hj => by unfold rowOf; split; exact e j hj; rfl)]
theorem trB_n9 {h l : Int32} {t : Nat} {r : Nat → Int32} (ht : t ≠ 9) (i : Nat) : trB h l t r i = trB h l t Z0 i := by
  unfold trB
  rw [show rowOf t (i / 912) r = rowOf t (i / 912) Z0 by unfold rowOf; rw [if_neg (fun q => ht q.1), if_neg (fun q => ht q.1)]]
theorem trB_9 {h l : Int32} {r : Nat → Int32} {q : Nat} (hq : q < 7520) : trB h l 9 r q = if 148 ≤ q ∧ q < 856 then pdB r (q - 148) else trB h l 9 Z0 q := by
  have s9 : secN 9 = 8 := rfl
  by_cases c : 148 ≤ q ∧ q < 856
  · rw [if_pos c]
    have := trB_sec (h := h) (l := l) (t := 9) (s := 0) (o := q) (mp := r) (by decide) (by omega)
    rw [show 912 * 0 + q = q by omega, show rowOf 9 0 r = r from if_pos ⟨rfl, rfl⟩] at this
    rw [this]
    by_cases d : q < 848
    · have e := sec_d (h := h) (l := l) (t := 9) (s := 0) (row := r) (x := q - 148) (by omega)
      rw [show 148 + (q - 148) = q by omega] at e
      exact e
    · rw [sec_e (by omega)]
      unfold pdB
      rw [if_neg (by omega), if_neg (by omega), if_neg (by omega), if_neg (by omega), show (q - 148) % 2 = q % 2 by omega]
  · rw [if_neg c]
    unfold trB
    by_cases d : q < 912 * secN 9
    · rw [if_pos d, if_pos d]
      by_cases e : q / 912 = 0
      · rw [show q % 912 = q by omega]
        by_cases f : q < 148
        · unfold secB
          by_cases g1 : q < 40
          · rw [if_pos g1, if_pos g1]
          · rw [if_neg g1, if_neg g1]
            by_cases g2 : q < 100
            · rw [if_pos g2, if_pos g2]
            · rw [if_neg g2, if_neg g2, if_pos f, if_pos f]
        · rw [sec_e (by omega), sec_e (by omega)]
      · rw [show rowOf 9 (q / 912) r = rowOf 9 (q / 912) Z0 by unfold rowOf; rw [if_neg (fun q => e q.2), if_neg (fun q => e q.2)]]
    · rw [if_neg d, if_neg d]
theorem hi_eq {k : Nat} (hk : k < 65536) : (nI k >>> ((8 : Int32) &&& 31)) &&& 255 = nI k >>> ((8 : Int32) &&& 31) := by
  have e1 : nI k >>> ((8 : Int32) &&& 31) = nI (k / 256) := pk_shrN (by omega) _ 8 (by decide)
  have e2 : nI (k / 256) &&& 255 = nI (k / 256 % 256) := pk_andN (by omega) 8 (by decide)
  rw [e1, e2, show k / 256 % 256 = k / 256 by omega]
theorem sim_format {F : Nat} (hF : 9000 ≤ F) : Sim_format Rel F := by
  intro Dx Dm a1 a2 a3 hR
  obtain ⟨hc, hid, hst, htp, hou, h69, hsm⟩ := id hR
  obtain ⟨hX, hB, hb01, hM, hcnt⟩ := id hc
  obtain ⟨k, hk, ek⟩ := and65535 a1
  obtain ⟨D0, hD0⟩ : ∃ z, z = up2 Dx 2 3 (nI k) := ⟨_, rfl⟩
  obtain ⟨E0, hE0⟩ : ∃ z, z = up2 Dm 0 4 (nI k) := ⟨_, rfl⟩
  have oD0 : ∀ c, c ≠ 2 → D0 c = Dx c := fun c h => by rw [hD0, up2_o h]
  have iD0 : D0 2 3 = nI k := by rw [hD0, up2_app, if_pos ⟨rfl, rfl⟩]
  have oE0 : ∀ c, c ≠ 0 → E0 c = Dm c := fun c h => by rw [hE0, up2_o h]
  have iE0 : E0 0 4 = nI k := by rw [hE0, up2_app, if_pos ⟨rfl, rfl⟩]
  have zE0 : ∀ j, j ≠ 4 → E0 0 j = Dm 0 j := fun j hj => by rw [hE0, up2_app, if_neg (fun q => hj q.2)]
  obtain ⟨h, hh⟩ : ∃ z, z = nI k >>> ((8 : Int32) &&& 31) := ⟨_, rfl⟩
  obtain ⟨l, hl⟩ : ∃ z, z = nI k &&& 255 := ⟨_, rfl⟩
  have hhx : h = (nI k >>> ((8 : Int32) &&& 31)) &&& 255 := by rw [hi_eq hk]; exact hh
  obtain ⟨D1, x1, b1, b2, b3, b4⟩ := ftracks_go (F := F) (id := nI k) (h := h) (l := l) (D0 := D0) hF hhx hl iD0 16 F 1 D0 (by decide) (by decide) (by omega) ⟨hsm.keep (oD0 52 (by decide)) (oD0 53 (by decide)), fun v v1 v2 => by
      have := (hX v v1 v2).1
      exact ⟨this.1, this.2.1, this.2.2.1, by rw [oD0 (3 * v + 1) (by omega)]; exact this.2.2.2.1, by rw [oD0 (3 * v + 1 + 1) (by omega)]; exact this.2.2.2.2⟩, fun v a b => by omega, fun _ _ => rfl⟩
  have x1' : P_X0_formatTracks (gN XG) F D0 = some (0, D1) := x1
  have i1 : D1 2 3 = nI k := by rw [b4 2 (by omega)]; exact iD0
  obtain ⟨r, y1, y2⟩ := fillNew_eq (F := F) (x1 := nI k) (a := a2) (b := a3) (D := D1) hF
  rw [← hhx, ← hl] at y2
  obtain ⟨D2, hD2⟩ : ∃ z, z = upA D1 57 r := ⟨_, rfl⟩
  have oD2 : ∀ c, c ≠ 57 → D2 c = D1 c := fun c q => by rw [hD2, upA_ne q]
  have r28 : RingOk (gN XG) 28 940 D2 := by
    have := b2 9 (by decide) (by decide)
    exact ⟨this.1, this.2.1, this.2.2.1, by rw [oD2 28 (by decide)]; exact this.2.2.2.1, by rw [oD2 29 (by decide)]; exact this.2.2.2.2⟩
  obtain ⟨D3, z1, z2⟩ := putData_fx (N := gN XG) (F := F) (th := 28) (n := 940) (u := 57) (a := 40) (D := D2) (by omega) (by decide) (by decide) (by decide) (by decide) rfl r28
  have oD3 : ∀ c, c ≠ 28 → c ≠ 29 → D3 c = D2 c := fun c a b => z2.2.2.2.2 c a b
  have ex : P_X7_format (gN XG) F a1 a2 a3 Dx = some (0, tX 0 0 0 D3) := by
    have lf : P_X0_layFormatted (gN XG) F 57 9 0 D2 = some (0, D3) := by
      unfold P_X0_layFormatted
      rw [show P_X0_ringOf 9 = some 28 from ringOf_eq 9 (by decide) (by decide), bqS, show (8 : Int32) * ((114 * 0) + 5) = nI 40 by decide, z1, bi_s]
    unfold P_X7_format
    rw [ek, ← hD0, x1', bi_s, i1, y1, bi_s, ← hD2, lf, bi_s]
    rfl
  obtain ⟨r', u1, u2⟩ := f11_go (F := F) (a := a2) (b := a3) hF 64 F 0 E0 (by decide) (by omega) (fun j hj => by omega)
  rw [iE0, ← hh, ← hl] at u2
  obtain ⟨E1, hE1⟩ : ∃ z, z = upA E0 9 r' := ⟨_, rfl⟩
  have oE1 : ∀ c, c ≠ 9 → E1 c = E0 c := fun c q => by rw [hE1, upA_ne q]
  have m1 : MOk (gN MG) E1 := by
    obtain ⟨m1, m2, m3, m4, m5, m6, m7⟩ := hM
    exact ⟨m1, m2, m3, m4, m5, by rw [oE1 4 (by decide), oE0 4 (by decide)]; exact m6, by rw [oE1 3 (by decide), oE0 3 (by decide)]; exact m7⟩
  obtain ⟨E2, w1, c1, c2, c3, c4⟩ := f173_go (F := F) (h := h) (l := l) (E0 := E1) hF m1 (by rw [oE1 0 (by decide), iE0]; exact hh) (by rw [oE1 0 (by decide), iE0]; exact hl) 16 F 1 E1 (by decide) (by decide) (by omega) ⟨by intro i; rw [oE1 1 (by decide), oE0 1 (by decide)]; exact hb01 i, fun v a b => by omega, fun _ _ _ _ => rfl, fun _ _ _ => rfl⟩
  have em : P_X8_format (gN MG) F a1 a2 a3 Dm = some (0, tM 0 0 0 E2) := by
    unfold P_X8_format
    rw [ek, ← hE0]
    refine Eq.trans u1 ?_
    rw [← hE1]
    exact w1
  have e9 : E1 9 = r' := by rw [hE1, upA_row]
  have rr : ∀ j, j < 64 → r j = r' j := fun j hj => by rw [y2 j hj, u2 j hj]
  have d57 : D2 57 = r := by rw [hD2, upA_row]
  have core : Core D3 E2 := by
    refine ⟨?_, ?_, c1, ?_, ?_⟩
    · intro v v1 v2
      have h4 : D3 (3 * v + 1) 4 = 0 := by
        by_cases e : v = 9
        · subst e; exact z2.2.2.1
        · rw [oD3 (3 * v + 1) (by omega) (by omega), oD2 _ (by omega)]; exact (b3 v v1 (by omega)).1
      refine ⟨?_, Or.inl h4, fun q => ?_⟩
      · by_cases e : v = 9
        · subst e; exact z2.ring r28
        · have := b2 v v1 v2
          exact ⟨this.1, this.2.1, this.2.2.1, by rw [oD3 (3 * v + 1) (by omega) (by omega), oD2 _ (by omega)]; exact this.2.2.2.1, by rw [oD3 (3 * v + 1 + 1) (by omega) (by omega), oD2 _ (by omega)]; exact this.2.2.2.2⟩
      · rw [h4] at q
        exact absurd q (by decide)
    · intro v v1 v2 q hq
      rw [c2 v v1 (by omega) q hq, e9]
      by_cases e : v = 9
      · subst e
        have hq' : q < 7520 := hq
        rw [← trB_congr rr q, trB_9 hq']
        by_cases c : 148 ≤ q ∧ q < 856
        · rw [if_pos c]
          have := z2.1.1 (q - 148) (by omega)
          rw [d57, Nat.mod_eq_of_lt (by omega), show 40 + 108 + (q - 148) = q by omega] at this
          exact this
        · rw [if_neg c]
          have := z2.1.2 q (by omega) (fun x hx => by rw [Nat.mod_eq_of_lt (by omega)]; omega)
          show rbit (D3 29) q = _
          rw [show rbit (D3 29) q = rbit (D2 29) q from this, oD2 29 (by decide)]
          exact (b3 9 (by decide) (by decide)).2 q hq
      · rw [trB_n9 e, oD3 (3 * v + 2) (by omega) (by omega), oD2 _ (by omega)]
        exact (b3 v v1 (by omega)).2 q hq
    · obtain ⟨m1, m2, m3, m4, m5, m6, m7⟩ := m1
      exact ⟨m1, m2, m3, m4, m5, by rw [c3 4 (by decide) (by decide) (by decide)]; exact m6, by rw [c3 3 (by decide) (by decide) (by decide)]; exact m7⟩
    · obtain ⟨n1, n2, n3, n4⟩ := hcnt
      have q2 : ∀ j, j ≠ 3 → D3 2 j = Dx 2 j := fun j hj => by rw [oD3 2 (by decide) (by decide), oD2 2 (by decide), b4 2 (by omega), hD0, up2_app, if_neg (fun q => hj q.2)]
      have q0 : ∀ j, j ≠ 4 → j ≠ 29 → j ≠ 30 → E2 0 j = Dm 0 j := fun j a b d => by rw [c4 j b d, oE1 0 (by decide), zE0 j a]
      exact ⟨by rw [oD3 2 (by decide) (by decide), oD2 2 (by decide), i1, c4 4 (by decide) (by decide), oE1 0 (by decide), iE0], by rw [q2 4 (by decide), q0 12 (by decide) (by decide) (by decide)]; exact n2, by rw [q2 5 (by decide), q0 13 (by decide) (by decide) (by decide)]; exact n3, by rw [q2 6 (by decide), q0 14 (by decide) (by decide) (by decide)]; exact n4⟩
  have fx : ∀ c, 54 ≤ c → c ≠ 57 → tX 0 0 0 D3 c = Dx c := fun c a b => by rw [tX_o (by omega), oD3 c (by omega) (by omega), oD2 c b, b4 c (by omega), oD0 c (by omega)]
  have fm : ∀ c, c ≠ 0 → c ≠ 1 → c ≠ 8 → c ≠ 9 → tM 0 0 0 E2 c = Dm c := fun c a b d e => by rw [tM_o a, c3 c a b d, oE1 c e, oE0 c a]
  have f0 : ∀ j, j ≠ 4 → j ≠ 9 → j ≠ 10 → j ≠ 11 → j ≠ 29 → j ≠ 30 → tM 0 0 0 E2 0 j = Dm 0 j := fun j a b d e f g => by rw [tM_0 ⟨b, d, e⟩, c4 j f g, oE1 0 (by decide), zE0 j a]
  refine ⟨0, _, _, ex, em, t_core core, Or.inr ⟨k, hk, ?_⟩, t_stt, htp.keep (fx 65 (by decide) (by decide)) (fx 66 (by decide) (by decide)) (f0 6 (by decide) (by decide) (by decide) (by decide) (by decide) (by decide)) (fm 5 (by decide) (by decide) (by decide) (by decide)), hou.keep (fx 67 (by decide) (by decide)) (fx 68 (by decide) (by decide)) (f0 8 (by decide) (by decide) (by decide) (by decide) (by decide) (by decide)) (fm 6 (by decide) (by decide) (by decide) (by decide)), by rw [fx 69 (by decide) (by decide)]; exact h69, b1.keep ?_ ?_⟩
  · rw [tX_o (by decide), oD3 2 (by decide) (by decide), oD2 2 (by decide), i1]
  · rw [tX_o (by decide), oD3 52 (by decide) (by decide), oD2 52 (by decide)]
  · rw [tX_o (by decide), oD3 53 (by decide) (by decide), oD2 53 (by decide)]
