/-! SAVE -/
def LX : List Nat := [57, 58, 59, 60, 61, 62, 63, 64]
def LM : List Nat := [9, 10, 11, 12, 13, 14]
def KM : List Nat := [23, 24, 25, 28]
def Sv (Dx E0 D E : Mm) : Prop := Core D E ∧ Stt D E ∧ DX LX Dx D ∧ DM LM KM E0 E
def SvEnd (Dx E0 : Mm) (X M : Rs) : Prop := ∃ (e b' : Int32) (D E : Mm), X = some (e, up2 D 65 1 0) ∧ M = some (b', E) ∧ Sv Dx E0 D E ∧ D 1 0 = e
theorem lx_b {c : Nat} (h : c ∈ LX) : 57 ≤ c ∧ c ≤ 64 := by
  have : ∀ c, c ∈ LX → 57 ≤ c ∧ c ≤ 64 := by decide
  exact this c h
theorem lm_b {c : Nat} (h : c ∈ LM) : 9 ≤ c ∧ c ≤ 14 := by
  have : ∀ c, c ∈ LM → 9 ≤ c ∧ c ≤ 14 := by decide
  exact this c h
theorem km_b {k : Nat} (h : k ∈ KM) : 23 ≤ k := by
  have : ∀ c, c ∈ KM → 23 ≤ c := by decide
  exact this k h
theorem Sv.upX {Dx E0 D E : Mm} {c : Nat} {r : Nat → Int32} (h : Sv Dx E0 D E) (hc : c ∈ LX) : Sv Dx E0 (upA D c r) E := by
  have b := lx_b hc
  refine ⟨h.1.ups (fun c' _ b' => upA_ne (by omega)) (fun _ _ _ => rfl) (fun _ _ => rfl), ?_, h.2.2.1.trans ⟨by rw [upA_ne (by omega)], fun c' _ v => upA_ne (fun q => v (q ▸ hc))⟩, h.2.2.2⟩
  unfold Stt
  rw [upA_ne (show 1 ≠ c by omega)]
  exact h.2.1
theorem Sv.upM {Dx E0 D E : Mm} {c : Nat} {r : Nat → Int32} (h : Sv Dx E0 D E) (hc : c ∈ LM) : Sv Dx E0 D (upA E c r) := by
  have b := lm_b hc
  refine ⟨h.1.ups (fun _ _ _ => rfl) (fun c' _ b' => upA_ne (by omega)) (fun k _ => by rw [upA_ne (by omega)]), ?_, h.2.2.1, h.2.2.2.trans ⟨fun c' _ _ _ v => upA_ne (fun q => v (q ▸ hc)), fun j _ _ => by rw [upA_ne (by omega)]⟩⟩
  unfold Stt
  rw [upA_ne (show 0 ≠ c by omega)]
  exact h.2.1
theorem Sv.up0 {Dx E0 D E : Mm} {k : Nat} {v : Int32} (h : Sv Dx E0 D E) (hc : k ∈ KM) : Sv Dx E0 D (up2 E 0 k v) := by
  have b := km_b hc
  have o : ∀ j, j ≠ k → up2 E 0 k v 0 j = E 0 j := fun j hj => by rw [up2_app, if_neg (fun q => hj q.2)]
  refine ⟨h.1.ups (fun _ _ _ => rfl) (fun c' _ b' => up2_o (by omega)) (fun k' hk => o k' (by omega)), ?_, h.2.2.1, h.2.2.2.trans ⟨fun c' _ _ _ _ => up2_o (by omega), fun j _ q => o j (fun z => q (z ▸ hc))⟩⟩
  unfold Stt
  rw [o 9 (by omega), o 10 (by omega), o 11 (by omega)]
  exact h.2.1
theorem StEnd.sv {Dx E0 D E D1 E1 : Mm} {e b' : Int32} (g : StEnd D E D1 E1 e b') (h : Sv Dx E0 D E) (z : D 1 0 = 0) : Sv Dx E0 D1 E1 ∧ D1 1 0 = e ∧ ((e = 0 ∧ b' = 1) ∨ (¬ e = 0 ∧ b' = 0)) := by
  obtain ⟨g1, g2, g3, g4⟩ := g
  have dx : DX LX Dx D1 := h.2.2.1.trans (g2.mono (fun c q => absurd q (nn c)))
  have dm : DM LM KM E0 E1 := h.2.2.2.trans (g3.mono (fun c q => absurd q (nn c)) (fun c q => absurd q (nn c)))
  rcases g4 with ⟨rfl, rfl, k⟩ | ⟨a, rfl, s, b⟩
  · exact ⟨⟨g1, k.stt h.2.1, dx, dm⟩, by rw [k.1]; exact z, Or.inl ⟨rfl, rfl⟩⟩
  · exact ⟨⟨g1, s, dx, dm⟩, b, Or.inr ⟨a, rfl⟩⟩
theorem save_135n {F : Nat} {e : Int32} {D : Mm} (h : ¬ e = 0) : P_X7_save_135 (gN XG) F e D = some (e, up2 D 65 1 0) := by
  unfold P_X7_save_135
  rw [if_neg h]
theorem save_end {F n : Nat} {B : Nat → Int32} {Dx E0 D E : Mm} (hF : 9000 ≤ F) (hid : ¬ D 2 3 = -1) (h : Sv Dx E0 D E) (z : D 1 0 = 0) (hch : ChOk n D E) (h9 : E 9 = B) (hm : ∀ j, j < 64 → D 57 j = clr (E 13) (E 14) n B j) : SvEnd Dx E0 (P_X7_save_135 (gN XG) F 0 D) (P_X8_saves_409 (gN MG) F F 0 E) := by
  have hn := hch.1
  have k := s409_go (F := F) (n := n) (B := B) hn n F 0 E (by omega) (by omega) hch.2.2.1 (fun i hi => by obtain ⟨t, s, v, _, a, _, b⟩ := hch.2.2.2 i hi; exact ⟨t, s, v, a, b⟩) h9
  have k' : P_X8_saves_409 (gN MG) F F 0 E = _ := k
  have h' : Sv Dx E0 D (upA E 9 (clr (E 13) (E 14) n B)) := h.upM (by decide)
  obtain ⟨e, b', D1, E1, w1, w2, w3⟩ := wmap_sim (F := F) (D := D) (E := upA E 9 (clr (E 13) (E 14) n B)) hF hid h'.1 (fun j hj => by rw [upA_row]; exact hm j hj)
  obtain ⟨s1, s2, _⟩ := w3.sv h' z
  refine ⟨e, b', D1, E1, ?_, ?_, s1, s2⟩
  · unfold P_X7_save_135
    rw [if_pos rfl, w1, bi_s]
  · rw [k', w2, bi_s]
theorem enF_lo {f : Nat → Int32} {p j : Nat} {ty t0 s0 n a b : Int32} (h : j < p) : enF f p ty t0 s0 n a b j = f j := by
  unfold enF
  rw [if_neg (by omega), if_neg (by omega), if_neg (by omega), if_neg (by omega), if_neg (by omega)]
theorem ent_sim {F n k p t s : Nat} {ty a b x6 : Int32} {Dx E0 D E : Mm} (hF : 9000 ≤ F) (hn : 1 ≤ n) (hk : k < 7) (hp : 2 ≤ p) (hp2 : p + 12 ≤ 64) (hv : Vd t s) (hid : ¬ D 2 3 = -1) (h : Sv Dx E0 D E) (z : D 1 0 = 0) (hch : ChOk n D E) (h7 : D 58 7 = nI p) (h9 : D 58 9 = nI t) (h10 : D 58 10 = nI s) (e11 : E 11 k = nI t) (e12 : E 12 k = nI s) (h60 : ∀ j, j < 64 → D 60 j = E 10 (64 * k + j)) : ∃ (e b' : Int32) (D1 E1 : Mm), P_X7_storeEntry (gN XG) F ty a b D = (if e = 0 then (if (D1 58 11) = 0 then (some (e, D1)) else (bi (P_X3_storeLink (gN XG) F D1) (fun r5 D5 => some (r5, D5)))) else (some (e, D1))) ∧ P_X8_saves_288 (gN MG) F ty a b (nI (64 * k + p)) x6 E = sTail F x6 (some (b', E1)) ∧ Sv Dx E0 D1 E1 ∧ D1 1 0 = e ∧ ((e = 0 ∧ b' = 1) ∨ (¬ e = 0 ∧ b' = 0)) ∧ (∀ c, 52 ≤ c → c ≠ 60 → D1 c = D c) ∧ D1 2 3 = D 2 3 ∧ (∀ c, 9 ≤ c → c ≠ 10 → E1 c = E c) ∧ (∀ j, j < 64 * k → E1 10 j = E 10 j) ∧ E1 0 23 = E 0 23 ∧ E1 0 28 = E 0 28 := by
  obtain ⟨t0, s0, _, c1, c2, c3, c4⟩ := hch.2.2.2 0 (by omega)
  obtain ⟨D', hD'⟩ : ∃ z, z = upA D 60 (enF (D 60) p ty (D 62 0) (D 63 0) (D 61 4) a b) := ⟨_, rfl⟩
  obtain ⟨E', hE'⟩ : ∃ z, z = upA E 10 (enF (E 10) (64 * k + p) ty (E 13 0) (E 14 0) (E 0 28) a b) := ⟨_, rfl⟩
  have h' : Sv Dx E0 D' E' := by rw [hD', hE']; exact (h.upX (by decide)).upM (by decide)
  have oD : ∀ c, c ≠ 60 → D' c = D c := fun c hc => by rw [hD', upA_ne hc]
  have oE : ∀ c, c ≠ 10 → E' c = E c := fun c hc => by rw [hE', upA_ne hc]
  obtain ⟨e, b', D1, E1, w1, w2, w3⟩ := wdir_sim (F := F) (u := 60) (k := k) (D := D') (E := E') hF hk hv (by decide) rfl (by rw [oD 2 (by decide)]; exact hid) h'.1 (by rw [oE 11 (by decide)]; exact e11) (by rw [oE 12 (by decide)]; exact e12) (fun j hj => by
    rw [hD', hE', upA_row, upA_row, c1, c2, c3, c4, hch.2.1, hch.2.2.1]
    exact enF_shift h60 j hj)
  obtain ⟨s1, s2, s3⟩ := w3.sv h' (by rw [oD 1 (by decide)]; exact z)
  refine ⟨e, b', D1, E1, ?_, ?_, s1, s2, s3, ?_, ?_, ?_, ?_, ?_, ?_⟩
  · unfold P_X7_storeEntry
    rw [h7, fillE_eq hF hp hp2, bi_s, ← hD', oD 58 (by decide), h9, h10, w1, bi_s]
  · rw [s288_eq hF (by omega), ← hE', show (64 * k + p) / 64 = k by omega, w2]
  · intro c hc hne
    rw [w3.2.1.2 c hc (nn c), oD c hne]
  · rw [w3.2.1.1, oD 2 (by decide)]
  · intro c hc hne
    rw [w3.2.2.1.1 c (by omega) (by omega) (by omega) (nn c), oE c hne]
  · intro j hj
    rw [w3.2.2.1.1 10 (by decide) (by decide) (by decide) (nn 10), hE', upA_row, enF_lo (by omega)]
  · rw [w3.2.2.1.2 23 (by decide) (nn _), oE 0 (by decide)]
  · rw [w3.2.2.1.2 28 (by decide) (nn _), oE 0 (by decide)]
theorem ChOk.keep {n : Nat} {D E D1 E1 : Mm} (h : ChOk n D E) (a : D1 61 = D 61) (b : D1 62 = D 62) (c : D1 63 = D 63) (d : E1 0 28 = E 0 28) (e : E1 13 = E 13) (f : E1 14 = E 14) : ChOk n D1 E1 := by
  refine ⟨h.1, by rw [a]; exact h.2.1, by rw [d]; exact h.2.2.1, ?_⟩
  rw [b, c, e, f]
  exact h.2.2.2
theorem save_A {F n k p t s : Nat} {ty a b : Int32} {B : Nat → Int32} {Dx E0 D E : Mm} (hF : 9000 ≤ F) (hn : 1 ≤ n) (hk : k < 7) (hp : 2 ≤ p) (hp2 : p + 12 ≤ 64) (hv : Vd t s) (hid : ¬ D 2 3 = -1) (h : Sv Dx E0 D E) (z : D 1 0 = 0) (hch : ChOk n D E) (h7 : D 58 7 = nI p) (h9 : D 58 9 = nI t) (h10 : D 58 10 = nI s) (h11 : D 58 11 = 0) (e11 : E 11 k = nI t) (e12 : E 12 k = nI s) (h60 : ∀ j, j < 64 → D 60 j = E 10 (64 * k + j)) (hB : E 9 = B) (hm : ∀ j, j < 64 → D 57 j = clr (E 13) (E 14) n B j) : SvEnd Dx E0 (bi (P_X7_storeEntry (gN XG) F ty a b D) (fun r8 D8 => P_X7_save_135 (gN XG) F r8 D8)) (P_X8_saves_288 (gN MG) F ty a b (nI (64 * k + p)) 0 E) := by
  obtain ⟨e, b', D1, E1, w1, w2, s1, s2, s3, oD, oi, oE, oL, o23, o28⟩ := ent_sim (F := F) (ty := ty) (a := a) (b := b) (x6 := 0) hF hn hk hp hp2 hv hid h z hch h7 h9 h10 e11 e12 h60
  rw [w1, w2]
  unfold sTail
  rw [bi_s]
  rcases s3 with ⟨rfl, rfl⟩ | ⟨ne, rfl⟩
  · rw [if_pos rfl, oD 58 (by decide) (by decide), h11, if_pos rfl, bi_s, if_neg (show ¬ ((1 : Int32) = 0) by decide), if_pos rfl]
    refine save_end (n := n) (B := B) hF (by rw [oi]; exact hid) s1 s2 (hch.keep (oD _ (by decide) (by decide)) (oD _ (by decide) (by decide)) (oD _ (by decide) (by decide)) o28 (oE _ (by decide) (by decide)) (oE _ (by decide) (by decide))) (by rw [oE 9 (by decide) (by decide)]; exact hB) ?_
    rw [oD 57 (by decide) (by decide), oE 13 (by decide) (by decide), oE 14 (by decide) (by decide)]
    exact hm
  · rw [if_neg ne, bi_s, save_135n ne, if_pos rfl]
    exact ⟨e, 0, D1, E1, rfl, rfl, s1, s2⟩
/-- the reference's text where the directory grows -/
def sGrow (F : Nat) (x1 x2 x3 x6 x7 : Int32) (D29 : Mm) : Rs := (if inB (64 * ((D29 0 23) - 1)) (gN MG 10) = true then (if inB ((64 * ((D29 0 23) - 1)) + 1) (gN MG 10) = true then (P_X8_saves_204 (gN MG) F x1 x2 x3 x6 x7 (up2 (up2 D29 10 (Int32.toNatClampNeg (64 * ((D29 0 23) - 1))) 9) 10 (Int32.toNatClampNeg ((64 * ((D29 0 23) - 1)) + 1)) x7)) else none) else none)
theorem save_B {F n d t s f : Nat} {ty a b : Int32} {B : Nat → Int32} {Dx E0 D E : Mm} (hF : 9000 ≤ F) (hn : 1 ≤ n) (hd : d + 1 < 7) (hf : f < 8) (hv : Vd t s) (hid : ¬ D 2 3 = -1) (h : Sv Dx E0 D E) (z : D 1 0 = 0) (hch : ChOk n D E) (h3 : D 58 3 = nI t) (h4 : D 58 4 = nI s) (h7 : D 58 7 = 2) (h9 : D 58 9 = 9) (h10 : D 58 10 = nI f) (h11 : D 58 11 = 1) (h23 : E 0 23 = nI (d + 1)) (e11 : E 11 d = nI t) (e12 : E 12 d = nI s) (h59 : ∀ j, j < 64 → E 10 (64 * d + j) = D 59 j) (h60 : ∀ j, j < 64 → D 60 j = 0) (hB : sf 0 9 f (E 9) = B) (hm : ∀ j, j < 64 → D 57 j = clr (E 13) (E 14) n B j) : SvEnd Dx E0 (bi (P_X7_storeEntry (gN XG) F ty a b D) (fun r8 D8 => P_X7_save_135 (gN XG) F r8 D8)) (sGrow F ty a b 1 (nI f) E) := by
  have n10 : gN MG 10 = 448 := rfl
  have n59 : gN XG 59 = 64 := rfl
  have z0 : Int32.toNatClampNeg 0 = 0 := rfl
  have z1 : Int32.toNatClampNeg 1 = 1 := rfl
  obtain ⟨E', hE'⟩ : ∃ z, z = up2 (up2 E 10 (64 * d) 9) 10 (64 * d + 1) (nI f) := ⟨_, rfl⟩
  have h' : Sv Dx E0 D E' := by rw [hE']; exact (h.upM (c := 10) (by decide)).upM (c := 10) (by decide)
  have oE' : ∀ c, c ≠ 10 → E' c = E c := fun c hc => by rw [hE', up2_o hc, up2_o hc]
  obtain ⟨r, q1, q2⟩ := s207_go (F := F) (d := d) (ty := ty) (a := a) (b := b) (x6 := 1) (x7 := nI f) hd 64 F 0 E' (by decide) (by omega) (by rw [oE' 0 (by decide)]; exact h23)
  have g1 : sGrow F ty a b 1 (nI f) E = P_X8_saves_258 (gN MG) F ty a b 1 (nI f) (up2 (up2 (upA E' 10 r) 11 (d + 1) 9) 12 (d + 1) (nI f)) := by
    unfold sGrow
    rw [h23, show nI (d + 1) - (1 : Int32) = nI d from pk_sub (a := d + 1) (b := 1) (by omega), show (64 : Int32) * nI d = nI (64 * d) from pk_mul 64 d, show nI (64 * d) + (1 : Int32) = nI (64 * d + 1) from nI_add _ 1, n10, if_pos (in_nI (by omega) (by omega)), if_pos (in_nI (by omega) (by omega)), nI_clamp (by omega), nI_clamp (by omega), ← hE']
    exact q1
  obtain ⟨E2, hE2⟩ : ∃ z, z = up2 (up2 (upA E' 10 r) 11 (d + 1) 9) 12 (d + 1) (nI f) := ⟨_, rfl⟩
  have h2 : Sv Dx E0 D E2 := by rw [hE2]; exact ((h'.upM (c := 10) (by decide)).upM (c := 11) (by decide)).upM (c := 12) (by decide)
  have oE2 : ∀ c, c ≠ 10 → c ≠ 11 → c ≠ 12 → E2 c = E c := fun c a b d => by rw [hE2, up2_o d, up2_o b, upA_ne a, oE' c a]
  have r2 : E2 10 = r := by rw [hE2, up2_o (by decide), up2_o (by decide), upA_row]
  obtain ⟨E3, hE3⟩ : ∃ z, z = up2 (upA E2 9 (sf 0 9 f (E2 9))) 0 23 (nI (d + 2)) := ⟨_, rfl⟩
  have h3' : Sv Dx E0 D E3 := by rw [hE3]; exact (h2.upM (c := 9) (by decide)).up0 (by decide)
  have oE3 : ∀ c, c ≠ 0 → c ≠ 9 → E3 c = E2 c := fun c a b => by rw [hE3, up2_o a, upA_ne b]
  have g2 : sGrow F ty a b 1 (nI f) E = P_X8_saves_288 (gN MG) F ty a b (nI (64 * (d + 1) + 2)) 1 E3 := by
    rw [g1, ← hE2]
    unfold P_X8_saves_258
    rw [show (9 : Int32) = nI 9 from rfl, mset_eq E2 (v9 hf), bi_s, upA_ne (show 0 ≠ 9 by decide), oE2 0 (by decide) (by decide) (by decide), h23, show (64 : Int32) * nI (d + 1) = nI (64 * (d + 1)) from pk_mul 64 _, show nI (64 * (d + 1)) + (2 : Int32) = nI (64 * (d + 1) + 2) from nI_add _ 2, show nI (d + 1) + (1 : Int32) = nI (d + 2) from nI_add (d + 1) 1, ← hE3]
  have a11 : E2 11 (d + 1) = nI 9 := by rw [hE2, up2_o (by decide), up2_app, if_pos ⟨rfl, rfl⟩]; rfl
  have a12 : E2 12 (d + 1) = nI f := by rw [hE2, up2_app, if_pos ⟨rfl, rfl⟩]
  have ch3 : ChOk n D E3 := hch.keep rfl rfl rfl (by rw [hE3, up2_app, if_neg (by decide), upA_ne (by decide), oE2 0 (by decide) (by decide) (by decide)]) (by rw [oE3 _ (by decide) (by decide), oE2 _ (by decide) (by decide) (by decide)]) (by rw [oE3 _ (by decide) (by decide), oE2 _ (by decide) (by decide) (by decide)])
  obtain ⟨e, b', D1, E4, w1, w2, s1, s2, s3, oD, oi, oE, oL, o23, o28⟩ := ent_sim (F := F) (k := d + 1) (p := 2) (t := 9) (s := f) (ty := ty) (a := a) (b := b) (x6 := 1) hF hn hd (by decide) (by decide) (v9 hf) hid h3' z ch3 h7 h9 h10 (by rw [oE3 11 (by decide) (by decide)]; exact a11) (by rw [oE3 12 (by decide) (by decide)]; exact a12) (fun j hj => by
    rw [h60 j hj, oE3 10 (by decide) (by decide), r2, q2, if_pos (by omega)])
  rw [g2, w1, w2]
  unfold sTail
  rw [bi_s]
  rcases s3 with ⟨rfl, rfl⟩ | ⟨ne, rfl⟩
  · have k23 : E4 0 23 = nI (d + 2) := by rw [o23, hE3, up2_app, if_pos ⟨rfl, rfl⟩]
    have c58 : D1 58 = D 58 := oD 58 (by decide) (by decide)
    have c59 : D1 59 = D 59 := oD 59 (by decide) (by decide)
    obtain ⟨D2, hD2⟩ : ∃ z, z = up2 (up2 D1 59 0 9) 59 1 (nI f) := ⟨_, rfl⟩
    have h4' : Sv Dx E0 D2 E4 := by rw [hD2]; exact (s1.upX (c := 59) (by decide)).upX (c := 59) (by decide)
    have oD2 : ∀ c, c ≠ 59 → D2 c = D1 c := fun c hc => by rw [hD2, up2_o hc, up2_o hc]
    obtain ⟨e, b', D3, E5, y1, y2, y3⟩ := wdir_sim (F := F) (u := 59) (k := d) (t := t) (s := s) (D := D2) (E := E4) hF (by omega) hv (by decide) rfl (by rw [oD2 2 (by decide), oi]; exact hid) h4'.1 (by rw [oE 11 (by decide) (by decide), oE3 11 (by decide) (by decide), hE2, up2_o (by decide), up2_app, if_neg (by omega), upA_ne (by decide), oE' 11 (by decide)]; exact e11) (by rw [oE 12 (by decide) (by decide), oE3 12 (by decide) (by decide), hE2, up2_app, if_neg (by omega), up2_o (by decide), upA_ne (by decide), oE' 12 (by decide)]; exact e12) (fun j hj => by
      rw [oL (64 * d + j) (by omega), oE3 10 (by decide) (by decide), r2, q2, if_neg (by omega), hE', hD2, up2_app, up2_app, up2_app, up2_app, c59, h59 j hj]
      by_cases c1 : j = 1
      · rw [if_pos ⟨rfl, c1⟩, if_pos ⟨rfl, by omega⟩]
      · rw [if_neg (fun q => c1 q.2), if_neg (show ¬ (10 = 10 ∧ 64 * d + j = 64 * d + 1) by omega)]
        by_cases c0 : j = 0
        · rw [if_pos ⟨rfl, c0⟩, if_pos ⟨rfl, by omega⟩]
        · rw [if_neg (fun q => c0 q.2), if_neg (by omega)])
    obtain ⟨u1, u2, u3⟩ := y3.sv h4' (by rw [oD2 1 (by decide)]; exact s2)
    have el : P_X3_storeLink (gN XG) F D1 = some (e, D3) := by
      unfold P_X3_storeLink P_X3_storeLink_20
      rw [n59, if_pos (show inB 0 64 = true by decide), if_pos (show inB 1 64 = true by decide), z0, z1, show up2 D1 59 0 (D1 58 9) 58 = D1 58 from up2_o (by decide), c58, h9, h10, ← hD2, oD2 58 (by decide), c58, h3, h4, y1, bi_s]
    rw [if_pos rfl, c58, h11, if_neg (show ¬ ((1 : Int32) = 0) by decide), el, bi_s, bi_s, if_neg (show ¬ ((1 : Int32) = 0) by decide), if_neg (show ¬ ((1 : Int32) = 0) by decide), k23, show nI (d + 2) - (2 : Int32) = nI d from pk_sub (a := d + 2) (b := 2) (by omega), y2, bi_s]
    rcases u3 with ⟨rfl, rfl⟩ | ⟨ne, rfl⟩
    · rw [if_neg (show ¬ ((1 : Int32) = 0) by decide)]
      have p13 : E5 13 = E 13 := by rw [y3.2.2.1.1 13 (by decide) (by decide) (by decide) (nn _), oE 13 (by decide) (by decide), oE3 13 (by decide) (by decide), oE2 13 (by decide) (by decide) (by decide)]
      have p14 : E5 14 = E 14 := by rw [y3.2.2.1.1 14 (by decide) (by decide) (by decide) (nn _), oE 14 (by decide) (by decide), oE3 14 (by decide) (by decide), oE2 14 (by decide) (by decide) (by decide)]
      have pD : ∀ c, 52 ≤ c → c ≠ 59 → c ≠ 60 → D3 c = D c := fun c a b g => by rw [y3.2.1.2 c a (nn c), oD2 c b, oD c a g]
      refine save_end (n := n) (B := B) hF (by rw [y3.2.1.1, oD2 2 (by decide), oi]; exact hid) u1 u2 (hch.keep (pD _ (by decide) (by decide) (by decide)) (pD _ (by decide) (by decide) (by decide)) (pD _ (by decide) (by decide) (by decide)) ?_ p13 p14) ?_ ?_
      · rw [y3.2.2.1.2 28 (by decide) (nn _), o28, ch3.2.2.1, hch.2.2.1]
      · rw [y3.2.2.1.1 9 (by decide) (by decide) (by decide) (nn _), oE 9 (by decide) (by decide), hE3, up2_o (by decide), upA_row, oE2 9 (by decide) (by decide) (by decide)]
        exact hB
      · rw [p13, p14, pD 57 (by decide) (by decide) (by decide)]
        exact hm
    · rw [if_pos rfl, save_135n ne]
      exact ⟨e, 0, D3, E5, rfl, rfl, u1, u2⟩
  · rw [if_neg ne, bi_s, save_135n ne, if_pos rfl]
    exact ⟨e, 0, D1, E4, rfl, rfl, s1, s2⟩
theorem save_72 {F : Nat} {ty a b : Int32} {Dx E0 D E : Mm} (h : Sv Dx E0 D E) : SvEnd Dx E0 (bi (P_X6_tell (gN XG) F 72 0 0 D) (fun r12 D12 => P_X7_save_103 (gN XG) F ty a b r12 D12)) (P_X8_saves_137 (gN MG) F E) := by
  have e1 : P_X6_tell (gN XG) F 72 0 0 D = some (72, tX 72 0 0 D) := rfl
  have e2 : P_X8_saves_137 (gN MG) F E = some (0, tM 72 0 0 E) := ends_neg (by decide)
  rw [e1, bi_s, e2]
  unfold P_X7_save_103
  rw [if_neg (show ¬ ((72 : Int32) = 0) by decide), if_neg (show ¬ ((72 : Int32) = 0) by decide), save_135n (by decide)]
  exact ⟨72, 0, _, _, rfl, rfl, ⟨t_core h.1, t_stt, h.2.2.1.trans (tX_dx _), h.2.2.2.trans (tM_dm _ _)⟩, tX_0⟩
def needN (L : Nat) : Nat := if L = 0 then 1 else (L + 61) / 62
theorem needN_b {L : Nat} (h : L ≤ 2480) : 1 ≤ needN L ∧ needN L ≤ 40 ∧ ∀ i, i < needN L → 62 * i ≤ L := by
  unfold needN
  by_cases c : L = 0
  · rw [if_pos c]; exact ⟨by omega, by omega, fun i hi => by omega⟩
  · rw [if_neg c]; exact ⟨by omega, by omega, fun i hi => by omega⟩
theorem need_x {F L : Nat} {D : Mm} (h : L ≤ 2480) : P_X7_blocksNeeded (gN XG) F (nI L) D = some (nI (needN L), D) := by
  unfold P_X7_blocksNeeded needN
  rw [show nI L + (62 : Int32) = nI (L + 62) from nI_add L 62, show nI (L + 62) - (1 : Int32) = nI (L + 61) from pk_sub (a := L + 62) (b := 1) (by omega), show nI (L + 61) / (62 : Int32) = nI ((L + 61) / 62) from pk_div (d := 62) (by omega) (by omega) (by omega)]
  by_cases c : L = 0
  · subst c
    rfl
  · rw [if_neg c]
    by_cases c2 : 1 < (L + 61) / 62
    · rw [if_pos (show (1 : Int32) < nI ((L + 61) / 62) from nI_lt (a := 1) c2 (by omega))]
    · rw [if_neg (show ¬ (1 : Int32) < nI ((L + 61) / 62) from nI_nlt (a := 1) (by omega) (by omega)), show (L + 61) / 62 = 1 by omega]
      rfl
theorem need_m {F L : Nat} {ty a b x5 x6 x7 : Int32} {E : Mm} (h : L ≤ 2480) : P_X8_saves_111 (gN MG) F ty a b (nI L) x5 x6 x7 E = P_X8_saves_131 (gN MG) F ty a b (nI L) x5 x6 x7 (nI (needN L)) E := by
  unfold P_X8_saves_111 needN
  by_cases c : L = 0
  · subst c
    rfl
  · rw [if_neg (nI_z (by omega) (by omega)), if_neg c, show nI L + (62 : Int32) = nI (L + 62) from nI_add L 62, show nI (L + 62) - (1 : Int32) = nI (L + 61) from pk_sub (a := L + 62) (b := 1) (by omega), show nI (L + 61) / (62 : Int32) = nI ((L + 61) / 62) from pk_div (d := 62) (by omega) (by omega) (by omega)]
theorem save_mid {F L : Nat} {B : Nat → Int32} {Dx E0 D0 D E : Mm} {ty a b x5 x6 x7 : Int32} (hF : 9000 ≤ F) (hL : L ≤ 2480) (hte : P_X3_takeEntry (gN XG) F D0 = some (1, D)) (hid : ¬ D 2 3 = -1) (h : Sv Dx E0 D E) (z : D 1 0 = 0) (h65 : D 65 1 = nI L) (hb : ∀ i, i < L → D 66 i = E 5 i ∧ By (D 66 i)) (hB : ∀ j, j < 64 → D 57 j = B j) (hf : ∀ t s, Vd t s → t ≠ 9 → fr (D 57) t s = fr (E 9) t s) (go : ∀ (n : Nat) (D1 E1 : Mm), 1 ≤ n → ChOk n D1 E1 → ¬ D1 2 3 = -1 → Sv Dx E0 D1 E1 → D1 1 0 = 0 → (∀ c, c = 58 ∨ c = 59 ∨ c = 60 → D1 c = D c) → (∀ c, 9 ≤ c → c ≤ 12 → E1 c = E c) → E1 0 23 = E 0 23 → (∀ j, j < 64 → D1 57 j = clr (E1 13) (E1 14) n B j) → SvEnd Dx E0 (bi (P_X7_storeEntry (gN XG) F ty a b D1) (fun r8 D8 => P_X7_save_135 (gN XG) F r8 D8)) (if x6 = 0 then (P_X8_saves_288 (gN MG) F ty a b x5 x6 E1) else sGrow F ty a b x6 x7 E1)) : SvEnd Dx E0 (P_X7_save_78 (gN XG) F ty a b 0 D0) (P_X8_saves_111 (gN MG) F ty a b (nI L) x5 x6 x7 E) := by
  obtain ⟨n1, n2, n3⟩ := needN_b hL
  rw [need_m hL]
  obtain ⟨n, hn⟩ : ∃ z, z = needN L := ⟨_, rfl⟩
  have o61 : ∀ c, c ≠ 61 → up2 D 61 4 0 c = D c := fun c hc => up2_o hc
  have o0 : ∀ c, c ≠ 0 → up2 E 0 28 0 c = E c := fun c hc => up2_o hc
  have inv : TkInv (needN L) 0 B (fun t' _ => ∃ i, 0 ≤ i ∧ i < 15 ∧ fl i = t') (up2 D 61 4 0) (up2 E 0 28 0) := by
    refine ⟨⟨by omega, by rw [up2_app, if_pos ⟨rfl, rfl⟩]; rfl, by rw [up2_app, if_pos ⟨rfl, rfl⟩]; rfl, fun i hi => by omega⟩, by omega, ?_, ?_⟩
    · intro j hj
      rw [o61 57 (by decide)]
      exact hB j hj
    · intro t s v ⟨i, _, hi, e⟩
      rw [o61 57 (by decide), o0 9 (by decide)]
      exact hf t s v (by rw [← e]; exact fl_n9 i hi)
  obtain ⟨m, r, D1, E1, t1, t2, t3, t4, t5, t6⟩ := take_out (F := F) (need := needN L) (B := B) hF n2 15 0 F F 0 (up2 D 61 4 0) (up2 E 0 28 0) (by decide) (by omega) (by omega) inv
  have t1' : P_X2_take (gN XG) F (nI (needN L)) D = some (r, D1) := t1
  have t2' : P_X8_takes (gN MG) F (nI (needN L)) E = some (r, E1) := t2
  have oD1 : ∀ c, c ≠ 57 → c ≠ 61 → c ≠ 62 → c ≠ 63 → D1 c = D c := fun c a b d e => by rw [t4 c a b d e, o61 c b]
  have oE1 : ∀ c, c ≠ 0 → c ≠ 13 → c ≠ 14 → E1 c = E c := fun c a b d => by rw [t5.1 c a b d, o0 c a]
  have oE0 : ∀ j, j ≠ 28 → E1 0 j = E 0 j := fun j hj => by rw [t5.2 j hj, up2_app, if_neg (fun q => hj q.2)]
  have sv1 : Sv Dx E0 D1 E1 := by
    refine ⟨h.1.ups (fun c a b => oD1 c (by omega) (by omega) (by omega) (by omega)) (fun c a b => oE1 c (by omega) (by omega) (by omega)) (fun k hk => oE0 k (by omega)), ?_, h.2.2.1.trans ⟨by rw [oD1 2 (by decide) (by decide) (by decide) (by decide)], fun c _ v => oD1 c (fun q => v (by rw [q]; decide)) (fun q => v (by rw [q]; decide)) (fun q => v (by rw [q]; decide)) (fun q => v (by rw [q]; decide))⟩, h.2.2.2.trans ⟨fun c _ _ _ v => oE1 c (by omega) (fun q => v (by rw [q]; decide)) (fun q => v (by rw [q]; decide)), fun j _ v => oE0 j (fun q => v (by rw [q]; decide))⟩⟩
    unfold Stt
    rw [oD1 1 (by decide) (by decide) (by decide) (by decide), oE0 9 (by decide), oE0 10 (by decide), oE0 11 (by decide)]
    exact h.2.1
  have tr : P_X7_takeRoom (gN XG) F D0 = some (r, D1) := by
    unfold P_X7_takeRoom
    rw [hte, bi_s, if_neg (show ¬ ((1 : Int32) = 0) by decide), h65, need_x hL, bi_s, t1', bi_s]
    rcases t6 with ⟨rfl, _⟩ | rfl
    · rw [if_neg (show ¬ ((1 : Int32) = 0) by decide)]
    · rw [if_pos rfl]
  unfold P_X7_save_78 P_X8_saves_131
  rw [if_pos rfl, tr, bi_s, t2', bi_s]
  rcases t6 with ⟨rfl, rfl⟩ | rfl
  · rw [if_neg (show ¬ ((1 : Int32) = 0) by decide), if_neg (show ¬ ((1 : Int32) = 0) by decide)]
    have z1 : D1 1 0 = 0 := by rw [oD1 1 (by decide) (by decide) (by decide) (by decide)]; exact z
    obtain ⟨e, b', D2, E2, w1, w2, w3, w4, w5, w6⟩ := store_go (F := F) (n := needN L) (N := L) hF hL n2 n3 (needN L) 0 F F D1 E1 (by omega) (by omega) (by omega) (by rw [oD1 2 (by decide) (by decide) (by decide) (by decide)]; exact hid) sv1.1 t3.1 (by rw [oD1 65 (by decide) (by decide) (by decide) (by decide)]; exact h65) (by rw [oD1 66 (by decide) (by decide) (by decide) (by decide), oE1 5 (by decide) (by decide) (by decide)]; exact hb)
    have w1' : P_X2_store (gN XG) F D1 = some (e, D2) := w1
    have w2' : P_X8_writeFile (gN MG) F (nI L) E1 = some (b', E2) := w2
    unfold P_X7_save_103
    rw [if_pos rfl, w1', bi_s, w2', bi_s]
    have dx : DX LX Dx D2 := sv1.2.2.1.trans (w4.mono (by decide))
    have dm : DM LM KM E0 E2 := sv1.2.2.2.trans (w5.mono (fun c q => absurd q (nn c)) (fun c q => absurd q (nn c)))
    rcases w6 with ⟨rfl, rfl, k⟩ | ⟨ne, rfl, s, q⟩
    · rw [if_pos rfl, if_neg (show ¬ ((1 : Int32) = 0) by decide)]
      have pE : ∀ c, 9 ≤ c → E2 c = E1 c := fun c a => w5.1 c (by omega) (by omega) (by omega) (nn c)
      have pD : ∀ c, 52 ≤ c → c ≠ 64 → D2 c = D1 c := fun c a b => w4.2 c a (fun q => b (List.mem_singleton.mp q))
      refine go (needN L) D2 E2 n1 (t3.1.keep (pD _ (by decide) (by decide)) (pD _ (by decide) (by decide)) (pD _ (by decide) (by decide)) (w5.2 28 (by decide) (nn _)) (pE _ (by decide)) (pE _ (by decide))) (by rw [w4.1, oD1 2 (by decide) (by decide) (by decide) (by decide)]; exact hid) ⟨w3, k.stt sv1.2.1, dx, dm⟩ (by rw [k.1]; exact z1) (fun c hc => by rw [pD c (by omega) (by omega), oD1 c (by omega) (by omega) (by omega) (by omega)]) (fun c a b => by rw [pE c a, oE1 c (by omega) (by omega) (by omega)]) (by rw [w5.2 23 (by decide) (nn _), oE0 23 (by decide)]) ?_
      rw [pD 57 (by decide) (by decide), pE 13 (by decide), pE 14 (by decide)]
      exact t3.2.2.1
    · rw [if_neg ne, save_135n ne, if_pos rfl]
      exact ⟨e, 0, D2, E2, rfl, rfl, ⟨w3, s, dx, dm⟩, q⟩
  · rw [if_pos rfl, if_pos rfl]
    exact save_72 sv1
theorem save_29 {F L : Nat} {ty a b : Int32} {Dx E0 : Mm} (hF : 9000 ≤ F) (hc : Core Dx E0) (hid : IdOk (Dx 2 3)) (hL : L ≤ 2480) (h65 : Dx 65 1 = nI L) (hb : ∀ i, i < L → Dx 66 i = E0 5 i ∧ By (Dx 66 i)) : SvEnd Dx E0 (P_X7_save_29 (gN XG) F ty a b Dx) (P_X8_saves (gN MG) F ty a b (nI L) E0) := by
  have n11 : gN MG 11 = 7 := rfl
  have n12 : gN MG 12 = 7 := rfl
  obtain ⟨e, D1, E1, p1, p2, p3, p4, p5, p6, p7⟩ := look_sim (F := F) (a := a) (b := b) hF hc hid
  have sv : Sv Dx E0 D1 E1 := ⟨p2, p3, p5.mono (by decide), p6.mono (by decide) (by decide)⟩
  have f78 : ∀ (e : Int32) (D : Mm), ¬ e = 0 → P_X7_save_78 (gN XG) F ty a b e D = some (e, up2 D 65 1 0) := by
    intro e D ne
    unfold P_X7_save_78 P_X7_save_103
    rw [if_neg ne, if_neg ne, if_neg ne, save_135n ne]
  unfold P_X7_save_29 P_X8_saves
  rw [p1, bi_s]
  rcases p7 with ⟨ne, p8⟩ | ⟨rfl, p8, i1, i11, hmap, hfn⟩
  · rw [if_neg ne, f78 e D1 ne, p8]
    exact ⟨e, 0, D1, E1, rfl, rfl, sv, p4⟩
  · rw [if_pos rfl, p8]
    rcases hfn with ⟨k, i, t, s, hk, hi, hv, a1, a2, a3, a4, a5, a6, a7, a8⟩ | ⟨d, t, s, hd, hv, a1, a2, a3, a4, a5, a6, a7, a8, a9, hrm, hdv⟩
    · have e1 : P_X6_tell (gN XG) F 63 (nI t) (nI s) D1 = some (63, tX 63 (nI t) (nI s) D1) := rfl
      rw [a1, if_neg (nI_nm1 (by omega)), a4, a5, e1, bi_s, f78 _ _ (by decide), a2, if_neg (show ¬ nI k < 0 from nI_nlt (b := 0) (by omega) (by omega)), n11, n12, if_pos (in_nI (by omega) (by omega)), if_pos (in_nI (by omega) (by omega)), nI_clamp (by omega), a6, a7, ends_neg (by decide)]
      exact ⟨63, 0, _, _, rfl, rfl, ⟨t_core sv.1, t_stt, sv.2.2.1.trans (tX_dx _), sv.2.2.2.trans (tM_dm _ _)⟩, tX_0⟩
    · rw [a1, if_pos rfl, a2, if_pos (show (-1 : Int32) < 0 by decide)]
      have h65' : D1 65 1 = nI L := by rw [p5.2 65 (by decide) (by decide)]; exact h65
      have hb' : ∀ i, i < L → D1 66 i = E1 5 i ∧ By (D1 66 i) := by rw [p5.2 66 (by decide) (by decide), p6.1 5 (by decide) (by decide) (by decide) (by decide)]; exact hb
      have hm1 : MapEq D1 E1 := fun j hj => (hmap j hj).1
      rcases hrm with ⟨r1, r2⟩ | ⟨g, hg, r1, r2, r3, r4, r5, r6⟩
      · have em : P_X8_emptyEntry (gN MG) F E1 = some (-1, E1) := em2_none (F := F) (d := d + 1) hF (by omega) a3 (d + 1) F 0 (by omega) (by omega) (fun g _ hg => r2 g hg)
        rw [em, bi_s, if_neg (show ¬ ((0 : Int32) ≤ -1) by decide)]
        unfold P_X8_saves_75
        rw [if_neg (show ¬ ((1 : Int32) = 0) by decide)]
        have no : ∀ D, P_X3_takeEntry (gN XG) F D1 = some (0, D) → P_X7_save_78 (gN XG) F ty a b 0 D1 = bi (P_X6_tell (gN XG) F 72 0 0 D) (fun r12 D12 => P_X7_save_103 (gN XG) F ty a b r12 D12) := by
          intro D q
          unfold P_X7_save_78 P_X7_takeRoom
          rw [if_pos rfl, q, bi_s, if_pos rfl, bi_s, if_pos rfl]
        rcases lf_sim (F := F) (D := D1) (E := E1) hF hm1 with ⟨l1, l2⟩ | ⟨f, hf, l1, l2⟩
        · rw [l2, bi_s, if_neg (show ¬ ((1 : Int32) = 0) by decide), if_pos (show (-1 : Int32) < 0 by decide), no D1 (by unfold P_X3_takeEntry; rw [r1, if_pos rfl, l1, bi_s, if_pos rfl])]
          exact save_72 sv
        · rw [l2, bi_s, if_neg (show ¬ ((1 : Int32) = 0) by decide), if_neg (show ¬ nI f < 0 from nI_nlt (b := 0) (by omega) (by omega)), a3]
          by_cases c : d + 1 = 7
          · rw [if_pos (show nI (d + 1) = 7 by rw [c]; rfl), no D1 (by unfold P_X3_takeEntry; rw [r1, if_pos rfl, l1, bi_s, if_neg (nI_nm1 (by omega)), a4, if_neg (show ¬ nI (d + 1) < 7 from nI_nlt (b := 7) (by omega) (by omega))])]
            exact save_72 sv
          · rw [if_neg (show ¬ nI (d + 1) = 7 from fun q => c (by
              have u := (nI_leI (a := 7) (b := d + 1) (by omega) (by omega)).mp (by rw [q]; decide)
              omega))]
            obtain ⟨D2, hD2⟩ : ∃ z, z = up2 (up2 (up2 (up2 (upA D1 57 (sf 0 9 f (D1 57))) 58 11 1) 58 7 2) 58 9 9) 58 10 (nI f) := ⟨_, rfl⟩
            obtain ⟨r, c1, c2⟩ := clearRow_eq (F := F) (u := 60) (p := 0) (w := 64) (D := D2) hF rfl (by omega)
            have te : P_X3_takeEntry (gN XG) F D1 = some (1, upA D2 60 r) := by
              unfold P_X3_takeEntry
              rw [r1, if_pos rfl, l1, bi_s, if_neg (nI_nm1 (by omega)), a4, if_pos (show nI (d + 1) < 7 from nI_lt (b := 7) (by omega) (by omega)), show P_X4_setFree (gN XG) F 9 (nI f) 0 D1 = _ from xset_eq D1 (v9 hf), bi_s, ← hD2, show P_X7_clearRow (gN XG) F 60 0 64 D2 = _ from c1, bi_s]
            have sv2 : Sv Dx E0 (upA D2 60 r) E1 := by
              rw [hD2]
              exact (((((sv.upX (c := 57) (by decide)).upX (c := 58) (by decide)).upX (c := 58) (by decide)).upX (c := 58) (by decide)).upX (c := 58) (by decide)).upX (c := 60) (by decide)
            have oD : ∀ c, c ≠ 57 → c ≠ 58 → c ≠ 60 → upA D2 60 r c = D1 c := fun c a b g => by rw [upA_ne g, hD2, up2_o b, up2_o b, up2_o b, up2_o b, upA_ne a]
            have o57 : upA D2 60 r 57 = sf 0 9 f (D1 57) := by rw [upA_ne (by decide), hD2, up2_o (by decide), up2_o (by decide), up2_o (by decide), up2_o (by decide), upA_row]
            have q58 : upA D2 60 r 58 = D2 58 := upA_ne (by decide)
            have v58 : D2 58 3 = D1 58 3 ∧ D2 58 4 = D1 58 4 ∧ D2 58 7 = 2 ∧ D2 58 9 = 9 ∧ D2 58 10 = nI f ∧ D2 58 11 = 1 := by
              rw [hD2]
              simp only [up2_app, upA_ne (show 58 ≠ 57 by decide)]
              simp
            refine save_mid (B := sf 0 9 f (E1 9)) hF hL te (by rw [oD 2 (by decide) (by decide) (by decide)]; exact i1) sv2 (by rw [oD 1 (by decide) (by decide) (by decide)]; exact p4) (by rw [oD 65 (by decide) (by decide) (by decide)]; exact h65') (by rw [oD 66 (by decide) (by decide) (by decide)]; exact hb') (by rw [o57]; exact sf_eq (v9 hf) hm1) ?_ ?_
            · intro t s v h9
              rw [o57, fr_sf (v9 hf) v (Or.inl (fun q => h9 q.symm))]
              unfold fr
              rw [hm1 _ (by obtain ⟨_, x, y⟩ := v; have := secN_le t; omega)]
            · intro n D3 E3 hn hch hid3 sv3 z3 oD3 oE3 o23 hm3
              rw [if_neg (show ¬ ((1 : Int32) = 0) by decide)]
              obtain ⟨v3, v4, v7, v9', v10, v11⟩ := v58
              have w58 : D3 58 = D2 58 := by rw [oD3 58 (by omega), q58]
              have w59 : D3 59 = D1 59 := by rw [oD3 59 (by omega), oD 59 (by decide) (by decide) (by decide)]
              refine save_B (n := n) (d := d) (t := t) (s := s) (f := f) (B := sf 0 9 f (E1 9)) hF hn (by omega) hf hv hid3 sv3 z3 hch (by rw [w58, v3]; exact a5) (by rw [w58, v4]; exact a6) (by rw [w58]; exact v7) (by rw [w58]; exact v9') (by rw [w58]; exact v10) (by rw [w58]; exact v11) (by rw [o23]; exact a3) (by rw [oE3 11 (by decide) (by decide)]; exact a7) (by rw [oE3 12 (by decide) (by decide)]; exact a8) (by rw [oE3 10 (by decide) (by decide), w59]; exact a9) (fun j hj => by rw [oD3 60 (by omega), upA_row, c2 j, if_pos (by omega)]) (by rw [oE3 9 (by decide) (by decide)]) hm3
      · have em : P_X8_emptyEntry (gN MG) F E1 = some (nI (Ag g), E1) := em2_some (F := F) (d := d + 1) hF (by omega) hg r1 a3 (g / 5) F 0 (by omega) (by omega) (fun h _ hh => r2 h hh)
        have ag : Ag g = 64 * (g / 5) + (2 + 12 * (g % 5)) := by unfold Ag; omega
        obtain ⟨t', s', hv', b1, b2⟩ := hdv (g / 5) (by omega)
        rw [em, bi_s, ag, if_pos (show (0 : Int32) ≤ nI (64 * (g / 5) + (2 + 12 * (g % 5))) from nI_le (a := 0) (by omega) (by omega))]
        unfold P_X8_saves_75
        rw [if_pos rfl, if_pos rfl]
        refine save_mid (B := E1 9) (D := D1) hF hL (by unfold P_X3_takeEntry; rw [r3, if_neg (nI_nm1 (by omega))]) i1 sv p4 h65' hb' hm1 ?_ ?_
        · intro t s v h9
          unfold fr
          rw [hm1 _ (by obtain ⟨_, x, y⟩ := v; have := secN_le t; omega)]
        · intro n D3 E3 hn hch hid3 sv3 z3 oD3 oE3 o23 hm3
          rw [if_pos rfl]
          have w58 : D3 58 = D1 58 := oD3 58 (by omega)
          exact save_A (n := n) (k := g / 5) (p := 2 + 12 * (g % 5)) (t := t') (s := s') (B := E1 9) hF hn (by omega) (by omega) (by omega) hv' hid3 sv3 z3 hch (by rw [w58]; exact r3) (by rw [w58, r4]; exact b1) (by rw [w58, r5]; exact b2) (by rw [w58]; exact i11) (by rw [oE3 11 (by decide) (by decide)]; exact b1) (by rw [oE3 12 (by decide) (by decide)]; exact b2) (by rw [oD3 60 (by omega), oE3 10 (by decide) (by decide)]; exact r6) (oE3 9 (by decide) (by decide)) hm3
theorem sim_save {F : Nat} (hF : 9000 ≤ F) : Sim_save Rel F := by
  intro Dx Dm a1 a2 a3 h
  obtain ⟨hc, hid, hst, ⟨L, hL, h65, h06, hb⟩, hou, h69, hsm⟩ := id h
  obtain ⟨E0, hE0⟩ : ∃ z, z = up2 Dm 0 6 0 := ⟨_, rfl⟩
  have oE : ∀ c, c ≠ 0 → E0 c = Dm c := fun c hc => by rw [hE0, up2_o hc]
  have oE0 : ∀ j, j ≠ 6 → E0 0 j = Dm 0 j := fun j hj => by rw [hE0, up2_app, if_neg (fun q => hj q.2)]
  have hc0 : Core Dx E0 := hc.ups (fun _ _ _ => rfl) (fun c _ _ => oE c (by omega)) (fun k hk => oE0 k (by omega))
  have fin : ∀ (D E : Mm), Sv Dx E0 D E → Rel (up2 D 65 1 0) E := by
    intro D E ⟨c, s, dx, dm⟩
    have o : ∀ c, c ≠ 65 → up2 D 65 1 0 c = D c := fun c hc => up2_o hc
    refine h.asm (c.ups (fun c _ _ => o c (by omega)) (fun _ _ _ => rfl) (fun _ _ => rfl)) (by rw [o 2 (by decide)]; exact dx.1) (fun c hc => by rw [o c (by omega)]; exact dx.2 c (by omega) (by rcases hc with q | q | q <;> rw [q] <;> decide)) ?_ ?_ ?_
    · unfold Stt
      rw [o 1 (by decide)]
      exact s
    · exact ⟨0, by omega, by rw [up2_app, if_pos ⟨rfl, rfl⟩]; rfl, by rw [dm.2 6 (by decide) (by decide), hE0, up2_app, if_pos ⟨rfl, rfl⟩]; rfl, fun i hi => by omega⟩
    · exact hou.keep (by rw [o 67 (by decide)]; exact dx.2 67 (by decide) (by decide)) (by rw [o 68 (by decide)]; exact dx.2 68 (by decide) (by decide)) (by rw [dm.2 8 (by decide) (by decide), oE0 8 (by decide)]) (by rw [dm.1 6 (by decide) (by decide) (by decide) (by decide), oE 6 (by decide)])
  have st0 : Stt Dx E0 := by
    unfold Stt
    rw [oE0 9 (by decide), oE0 10 (by decide), oE0 11 (by decide)]
    exact hst
  have bad : ∃ (r : Int32) (Dx1 Dm1 : Mm), some ((-1 : Int32), up2 Dx 65 1 0) = some (r, Dx1) ∧ some ((-1 : Int32), E0) = some (r, Dm1) ∧ Rel Dx1 Dm1 := ⟨-1, _, _, rfl, rfl, fin Dx E0 ⟨hc0, st0, DX.refl _ _, DM.refl _ _ _⟩⟩
  have ok : ∃ (r : Int32) (Dx1 Dm1 : Mm), P_X7_save_29 (gN XG) F a1 a2 a3 Dx = some (r, Dx1) ∧ bi (P_X8_saves (gN MG) F a1 a2 a3 (Dm 0 6) E0) (fun r4 D4 => some (D4 0 9, D4)) = some (r, Dm1) ∧ Rel Dx1 Dm1 := by
    obtain ⟨e, b', D, E, x1, x2, x3, x4⟩ := save_29 (F := F) (ty := a1) (a := a2) (b := a3) hF hc0 hid hL h65 (by rw [oE 5 (by decide)]; exact hb)
    rw [h06, x1, x2, bi_s]
    exact ⟨e, _, _, rfl, by rw [← x3.2.1.1, x4], fin D E x3⟩
  unfold P_X7_save P_X8_save P_X8_isIn
  rw [← hE0]
  by_cases c1 : a1 < 1
  · rw [if_pos c1, if_pos c1, bi_s, if_pos rfl]; exact bad
  rw [if_neg c1, if_neg c1]
  by_cases c2 : 9 < a1
  · rw [if_pos c2, if_pos c2, bi_s, if_pos rfl]; exact bad
  rw [if_neg c2, if_neg c2, bi_s, if_neg (show ¬ ((1 : Int32) = 0) by decide)]
  by_cases c3 : a2 = 0
  · rw [if_pos c3, if_pos c3]
    by_cases c4 : a3 = 0
    · rw [if_pos c4, if_pos c4]; exact bad
    · rw [if_neg c4, if_neg c4]; exact ok
  · rw [if_neg c3, if_neg c3]; exact ok
