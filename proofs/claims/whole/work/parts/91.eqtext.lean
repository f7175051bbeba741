section
/-! ===== text(): class and reference alike ===== -/
theorem pPart_len {b : By} {n p q : Nat} {key : Int32} {c : List Int32} (hk : ¬ key = 0) (hp : p ≤ n) (h : pPart b n key p = (q, some c)) : p + c.length + 2 ≤ q ∧ q ≤ n := by
  unfold pPart at h
  by_cases ht : tkC b n p = key
  · rw [if_pos ht] at h
    have hn := nx_gt (b := b) (lt_of_tk ht hk)
    have h3 := pL_ok b n 5 0 (nx b n p) hn.2
    rcases hq : pL b n 5 0 (nx b n p) with ⟨q1, _ | c1⟩
    · rw [hq] at h; cases h
    · rw [hq] at h h3
      have a1 := h3.1; have a2 := h3.2.1; have a3 := h3.2.2 c1 rfl; dsimp only at a1 a2 a3 h
      by_cases h4 : tkC b n q1 = 59
      · rw [if_pos h4] at h
        have hn2 := nx_gt (b := b) (lt_of_tk h4 (by decide))
        cases h
        omega
      · rw [if_neg h4] at h; cases h
  · rw [if_neg ht] at h; cases h
theorem h_readPart {nt n p : Nat} {b : By} {c : List Int32} {g : Sg} {key : Int32} {Q : Int32 → Sg → Prop} (hP : PsC g b n p c) (hk : ¬ key = 0) (h0 : ∀ q, pPart b n key p = (q, none) → ∀ g', FrC g g' → TkC g' b n q → Q 0 g') (h1 : ∀ q c', pPart b n key p = (q, some c') → ∀ g', FrC g g' → PsC g' b n q (c ++ c') → Q 1 g') : vv_X2_readPart nt key g Q := by
  unfold vv_X2_readPart
  refine h_accept hP hk (fun ht g1 P1 F1 => ⟨fun z => absurd z (by decide), fun _ => ?_⟩) (fun ht => ⟨fun _ => h0 p (by unfold pPart; rw [if_neg ht]) g (FrC.rf g) hP.1, fun z => absurd rfl z⟩)
  have lev := (rs_lev (nt := nt) (n := n) (b := b) 5 (by decide)).2.2.2.2.2 50 (by decide)
  refine lev g1 (nx b n p) c _ P1 (fun q hq g2 F2 T2 => ⟨fun _ => h0 q (by unfold pPart; rw [if_pos ht, hq]) g2 (F1.tr F2) T2, fun z => absurd rfl z⟩) (fun q c' hq g2 F2 P2 => ⟨fun z => absurd z (by decide), fun _ => h_accept P2 (by decide) (fun ht2 g3 P3 F3 => ⟨fun z => absurd z (by decide), fun _ => h1 (nx b n q) c' (by unfold pPart; rw [if_pos ht, hq]; dsimp only; rw [if_pos ht2]) g3 ((F1.tr F2).tr F3) P3⟩) (fun ht2 => ⟨fun _ => h0 q (by unfold pPart; rw [if_pos ht, hq]; dsimp only; rw [if_neg ht2]) g2 (F1.tr F2) P2.1, fun z => absurd rfl z⟩)⟩)
theorem h_readC {nt n : Nat} {b : By} {g : Sg} {Qn : Sg → Prop} {Qt : Int32 → Int32 → Nat → Sg → Prop} (hL : LetC g b n) (h0 : ∀ q, pRead b n = (q, none) → ∀ u, FrC g u → u 8 2 = nI q → Qn u) (h1 : ∀ q c0 c1 c2, pRead b n = (q, some (c0, c1, c2)) → c0.length + c1.length + c2.length < 160 → ∀ u, FrC g u → (∀ i, i < (c0 ++ c1 ++ c2).length → u 11 i = (c0 ++ c1 ++ c2).getD i 0) → Qt (nI c0.length) (nI (c0.length + c1.length)) (c0.length + c1.length + c2.length) u) : vv_X2_readText nt g Qn Qt := by
  have h160 := hL.2.1
  unfold vv_X2_readText
  rintro g1 rfl
  have L1 : LetC (st g 10 2 0) b n := ⟨by rw [st_ne (by decide)]; exact hL.1, h160, fun i hi => by rw [st_ne (by decide)]; exact hL.2.2 i hi⟩
  refine h_rewind L1 (fun g2 T2 F2 => ?_)
  have P2 : PsC g2 b n (skF isBl b n 0) [] := ⟨T2, ⟨by rw [F2 10 (by decide), st_on]; rfl, fun i hi => absurd hi (by simp)⟩, Nat.zero_le _⟩
  have G2 : FrC g g2 := fun k a1 a2 a3 => by rw [F2 k a1, st_ne a2]
  refine h_readPart P2 (by decide) (fun q e g3 F3 T3 => ⟨fun _ => h0 q (by unfold pRead; rw [e]) g3 (G2.tr F3) T3.2.1, fun z => absurd rfl z⟩) (fun q0 c0 e0 g3 F3 P3 => ⟨fun z => absurd z (by decide), fun _ => ?_⟩)
  refine h_readPart P3 (by decide) (fun q e g4 F4 T4 => ⟨fun _ => h0 q (by unfold pRead; rw [e0]; dsimp only; rw [e]) g4 ((G2.tr F3).tr F4) T4.2.1, fun z => absurd rfl z⟩) (fun q1 c1 e1 g4 F4 P4 => ⟨fun z => absurd z (by decide), fun _ => ?_⟩)
  refine h_readPart P4 (by decide) (fun q e g5 F5 T5 => ⟨fun _ => h0 q (by unfold pRead; rw [e0]; dsimp only; rw [e1]; dsimp only; rw [e]) g5 (((G2.tr F3).tr F4).tr F5) T5.2.1, fun z => absurd rfl z⟩) (fun q2 c2 e2 g5 F5 P5 => ⟨fun z => absurd z (by decide), fun _ => ?_⟩)
  have G5 := ((G2.tr F3).tr F4).tr F5
  rw [P5.1.2.2.1]
  refine ⟨fun z => h0 q2 (by unfold pRead; rw [e0]; dsimp only; rw [e1]; dsimp only; rw [e2]; dsimp only; rw [if_neg z]) g5 G5 P5.1.2.1, fun z => ?_⟩
  have l0 := pPart_len (by decide) T2.2.2.2.2.2 e0
  have l1 := pPart_len (by decide) l0.2 e1
  have l2 := pPart_len (by decide) l1.2 e2
  have e10 := P5.2.1.1
  have e11 := P5.2.1.2
  rw [List.nil_append] at e10 e11
  have n3 := P3.2.1.1
  rw [List.nil_append] at n3
  have n4 := P4.2.1.1
  rw [List.nil_append, List.length_append] at n4
  rw [List.length_append, List.length_append] at e10
  refine ⟨c0.length + c1.length + c2.length, by omega, e10, ?_⟩
  rw [n3, n4]
  exact h1 q2 c0 c1 c2 (by unfold pRead; rw [e0]; dsimp only; rw [e1]; dsimp only; rw [e2]; dsimp only; rw [if_pos z]) (by omega) g5 G5 e11
/-- the reference -/
def TxF (m m' : Sg) (nt k : Nat) (b : By) : Prop := (∀ j, j ≠ 0 → j ≠ 1 → j ≠ 2 → m' j = m j) ∧ (∀ j, (j < 18 ∨ 26 < j) → j ≠ 6 → m' 0 j = m 0 j) ∧ m' 0 6 = 0 ∧ (∀ t, t ≠ nt → m' 2 t = m 2 t) ∧ (∀ i, i < 160 * nt → m' 1 i = m 1 i) ∧ TxM m' b k nt
theorem ix160 (s t : Nat) : (160 : Int32) * nI s + nI t = nI (160 * s + t) := by
  rw [show (160 : Int32) = nI 160 from rfl, pk_mul, nI_add]
theorem txM_L {m : Sg} {nt k : Nat} {b : By} {Q : Int32 → Sg → Prop} (hnt : nt < 6) (h3 : m 0 3 = nI nt) (h6 : m 0 6 = nI k) (hk : k ≤ 160) (hb : ∀ i, i < k → m 3 i = b i) (hp : ∀ i, i < k → 0 ≤ b i) (hbad : ∀ q, pRead b k = (q, none) → ∀ m', TxF m m' nt k b → Q (-100 - nI q) m') (hgood : ∀ q c0 c1 c2, pRead b k = (q, some (c0, c1, c2)) → ∀ m', TxF m m' nt k b → Q (nI nt) (st m' 0 3 (nI nt + 1))) : ∀ d i g, i + d = k → (∀ j, j ≠ 1 → g j = m j) → (∀ j, j < 160 * nt → g 1 j = m 1 j) → (∀ j, j < i → g 1 (160 * nt + j) = b j) → vv_X8_text_L14 Q (d + 1) (nI i) g := by
  intro d
  induction d with
  | zero =>
    intro i g hi F A1 A2
    have e : i = k := by omega
    subst e
    unfold vv_X8_text_L14
    rw [F 0 (by decide), h6, h3]
    refine ⟨fun _ => ⟨vp_in_nI hnt (by decide), ?_⟩, fun z => absurd (Int32.le_refl _) z⟩
    rintro g4 rfl g5 rfl
    rw [nI_clamp (by omega)]
    have T5 : TxM (st (st g 2 nt (nI i)) 0 6 0) b i nt := ⟨by rw [st_ne (by decide), st_on], hk, hnt, fun j hj => by rw [st_ne (by decide), st_ne (by decide)]; exact A2 j hj, hp⟩
    have e03 : st (st g 2 nt (nI i)) 0 6 0 0 3 = nI nt := by rw [st_off _ (by decide), st_ne (by decide), F 0 (by decide)]; exact h3
    rw [e03]
    have TF : ∀ m', FrR (st (st g 2 nt (nI i)) 0 6 0) m' → TxF m m' nt i b := fun m' G => ⟨fun j a0 a1 a2 => by rw [G.1 j a0, st_ne a0, st_ne a2, F j a1], fun j hj a6 => by rw [G.2 j hj, st_off _ a6, st_ne (by decide), F 0 (by decide)], by rw [G.2 6 (by omega), st_on], fun t ht => by rw [G.1 2 (by decide), st_ne (by decide), st_off _ ht, F 2 (by decide)], fun j hj => by rw [G.1 1 (by decide), st_ne (by decide), st_ne (by decide)]; exact A1 j hj, by unfold TxM at *; rw [G.1 1 (by decide), G.1 2 (by decide)]; exact T5⟩
    refine h_read (w := 0) T5 (by decide) (fun q e m' v G B => ?_) (fun q c0 c1 c2 e m' v G e25 _ => ?_)
    · rintro y rfl
      refine ⟨fun z => absurd (B.1.symm.trans z) (by decide), fun _ => ?_⟩
      rw [B.2]
      exact hbad q e m' (TF m' G)
    · rintro y rfl
      refine ⟨fun _ => ?_, fun z => absurd e25 z⟩
      rintro g10 rfl
      have e3 : m' 0 3 = nI nt := by rw [(TF m' G).2.1 3 (by omega) (by decide)]; exact h3
      rw [st_on, e3, show nI nt + 1 - 1 = nI nt by grind]
      exact hgood q c0 c1 c2 e m' (TF m' G)
  | succ d ih =>
    intro i g hi F A1 A2
    unfold vv_X8_text_L14
    rw [F 0 (by decide), h6, h3, ix160, nI_clamp (n := 160 * nt + i) (by omega), nI_clamp (n := i) (by omega)]
    refine ⟨fun z => absurd z (nI_ge (by omega) (by omega)), fun _ => ⟨vp_in_nI (by omega) (by decide), vp_in_nI (by omega) (by decide), ?_⟩⟩
    rintro g1 rfl x rfl
    rw [nI_1]
    refine ih (i + 1) _ (by omega) (fun j hj => by rw [st_ne hj]; exact F j hj) (fun j hj => by rw [st_off _ (by omega)]; exact A1 j hj) (fun j hj => ?_)
    rw [st_at]
    by_cases q : j = i
    · rw [if_pos (by omega), F 3 (by decide), q]; exact hb i (by omega)
    · rw [if_neg (by omega)]; exact A2 j (by omega)
end
