/-! ===== image(), back() ===== -/
theorem h_pbec {nt P P' : Nat} {g : Sg} {Q : Sg → Prop} (hP : isP P) (hP' : isP P') (hne : P ≠ P') (hQ : ∀ g', (∀ k, k ≠ P → g' k = g k) → (∀ j, j < 6 → g' P j = g P' j) → Q g') : vv_X1_become nt P P' g Q := by
  unfold vv_X1_become
  refine ⟨hP, hP', ?_⟩
  rintro g1 rfl g2 rfl g3 rfl g4 rfl g5 rfl g6 rfl
  refine hQ _ (fun k hk => by rw [st_ne hk, st_ne hk, st_ne hk, st_ne hk, st_ne hk, st_ne hk]) (fun j hj => ?_)
  rw [st_ne hne.symm, st_ne hne.symm, st_ne hne.symm, st_ne hne.symm, st_ne hne.symm]
  rcases (show j = 0 ∨ j = 1 ∨ j = 2 ∨ j = 3 ∨ j = 4 ∨ j = 5 by omega) with rfl | rfl | rfl | rfl | rfl | rfl <;> simp [st, hne.symm]
def BcC (c c' : Sg) (a b n : Nat) : Prop := (∀ k, k ≠ a → ¬ (18 + 8 * a ≤ k ∧ k < 18 + 8 * a + n) → c' k = c k) ∧ (∀ j, j < 4 → c' a j = c b j) ∧ ∀ i, i < n → ∀ j, j < 6 → c' (18 + 8 * a + i) j = c (18 + 8 * b + i) j
theorem pp3 {a i : Nat} (ha : 1 ≤ a) (h : i < 2 ^ 31) : pp (a + 3) (nI i) = 18 + 8 * a + i := by unfold pp; rw [nI_clamp h]; omega
theorem bec_L {nt a b : Nat} {c : Sg} {Q : Sg → Prop} (ha : isB a) (hb : isB b) (hne : a ≠ b) (hQ : ∀ c', BcC c c' a b 8 → Q c') : ∀ d i g, i + d = 8 → BcC c g a b i → vv_X0_become_L34 nt Q (d + 1) a b (nI i) g := by
  intro d
  have ha1 := ha.1
  have ha2 := ha.2
  have hb1 := hb.1
  have hb2 := hb.2
  induction d with
  | zero =>
    intro i g hi hg
    have e : i = 8 := by omega
    subst e
    unfold vv_X0_become_L34
    exact ⟨fun _ => hQ g hg, fun z => absurd (show (8 : Int32) ≤ nI 8 from by decide) z⟩
  | succ d ih =>
    intro i g hi hg
    unfold vv_X0_become_L34
    rw [pp3 ha.1 (by omega), pp3 hb.1 (by omega)]
    refine ⟨fun z => absurd z (nI_ge (b := 8) (by omega) (by omega)), fun _ => ⟨vp_in_nI (by omega) (by decide), vp_in_nI (by omega) (by decide), h_pbec (Or.inr (by omega)) (Or.inr (by omega)) (by omega) (fun g' h1 h2 => ?_)⟩⟩
    rintro j rfl
    rw [nI_1]
    refine ih _ _ (by omega) ⟨fun k hk hk' => by rw [h1 k (by omega)]; exact hg.1 k hk (by omega), fun j hj => by rw [h1 a (by omega)]; exact hg.2.1 j hj, fun k hk j hj => ?_⟩
    by_cases q : k = i
    · subst q
      rw [h2 j hj, hg.1 _ (by omega) (by omega)]
    · rw [h1 _ (by omega)]; exact hg.2.2 k (by omega) j hj
theorem h_bec {nt a b : Nat} {c : Sg} {Q : Sg → Prop} (ha : isB a) (hb : isB b) (hne : a ≠ b) (hQ : ∀ c', BcC c c' a b 8 → Q c') : vv_X0_become nt a b c Q := by
  unfold vv_X0_become
  have ha1 := ha.1
  have ha2 := ha.2
  have hb1 := hb.1
  have hb2 := hb.2
  refine ⟨ha, hb, ?_⟩
  rintro g1 rfl g2 rfl g3 rfl g4 rfl x rfl
  refine ⟨9, bec_L ha hb hne hQ 8 0 _ (by omega) ⟨fun k hk hk' => by rw [st_ne hk, st_ne hk, st_ne hk, st_ne hk], fun j hj => ?_, fun i hi => absurd hi (by omega)⟩⟩
  rw [st_ne hne.symm, st_ne hne.symm, st_ne hne.symm]
  rcases (show j = 0 ∨ j = 1 ∨ j = 2 ∨ j = 3 by omega) with rfl | rfl | rfl | rfl <;> simp [st]
theorem imgM_L {m : Sg} {Q : Int32 → Sg → Prop} (hQ : ∀ m', (∀ k, k ≠ 0 → k ≠ 8 → m' k = m k) → (∀ j, j < 40 → m' 8 j = m 5 j) → (∀ j, ¬ (32 ≤ j ∧ j ≤ 35) → m' 0 j = m 0 j) → m' 0 32 = m 0 11 → m' 0 33 = m 0 7 → m' 0 34 = m 0 8 → m' 0 35 = m 0 4 → Q (m 0 11) m') : ∀ d i g, i + d = 40 → (∀ k, k ≠ 8 → g k = m k) → (∀ j, j < i → g 8 j = m 5 j) → vv_X8_image_L2 Q (d + 1) (nI i) g := by
  intro d
  induction d with
  | zero =>
    intro i g hi h1 h2
    have e : i = 40 := by omega
    subst e
    unfold vv_X8_image_L2
    refine ⟨fun _ => ?_, fun z => absurd (show (40 : Int32) ≤ nI 40 from by decide) z⟩
    rintro g1 rfl g2 rfl g3 rfl g4 rfl
    have e0 := h1 0 (by decide)
    have := hQ (st (st (st (st g 0 32 (g 0 11)) 0 33 (st g 0 32 (g 0 11) 0 7)) 0 34 (st (st g 0 32 (g 0 11)) 0 33 (st g 0 32 (g 0 11) 0 7) 0 8)) 0 35 (st (st (st g 0 32 (g 0 11)) 0 33 (st g 0 32 (g 0 11) 0 7)) 0 34 (st (st g 0 32 (g 0 11)) 0 33 (st g 0 32 (g 0 11) 0 7) 0 8) 0 4)) (fun k hk h8 => by rw [st_ne hk, st_ne hk, st_ne hk, st_ne hk]; exact h1 k h8) (fun j hj => by rw [st_ne (by decide), st_ne (by decide), st_ne (by decide), st_ne (by decide)]; exact h2 j hj) (fun j hj => by rw [st_off _ (by omega), st_off _ (by omega), st_off _ (by omega), st_off _ (by omega), e0]) (by simp [st, e0]) (by simp [st, e0]) (by simp [st, e0]) (by simp [st, e0])
    rw [st_off _ (by decide), st_off _ (by decide), st_off _ (by decide), st_off _ (by decide), e0]
    rw [e0] at this
    exact this
  | succ d ih =>
    intro i g hi h1 h2
    unfold vv_X8_image_L2
    refine ⟨fun z => absurd z (nI_ge (b := 40) (by omega) (by omega)), fun _ => ⟨vp_in_nI (by omega) (by decide), vp_in_nI (by omega) (by decide), ?_⟩⟩
    rintro g' rfl j rfl
    rw [nI_1, nI_clamp (by omega)]
    refine ih _ _ (by omega) (fun k hk => by rw [st_ne hk]; exact h1 k hk) (fun j hj => ?_)
    rw [st_at]
    by_cases q : j = i
    · rw [if_pos q, h1 5 (by decide), q]
    · rw [if_neg q]; exact h2 j (by omega)
theorem backM_L {m : Sg} {Q : Int32 → Sg → Prop} (hQ : ∀ m', (∀ k, k ≠ 0 → k ≠ 5 → m' k = m k) → (∀ j, j < 40 → m' 5 j = m 8 j) → (∀ j, j ≠ 11 → j ≠ 7 → j ≠ 8 → j ≠ 4 → m' 0 j = m 0 j) → m' 0 11 = m 0 32 → m' 0 7 = m 0 33 → m' 0 8 = m 0 34 → m' 0 4 = m 0 35 → Q (m 0 32) m') : ∀ d i g, i + d = 40 → (∀ k, k ≠ 5 → g k = m k) → (∀ j, j < i → g 5 j = m 8 j) → vv_X8_back_L13 Q (d + 1) (nI i) g := by
  intro d
  induction d with
  | zero =>
    intro i g hi h1 h2
    have e : i = 40 := by omega
    subst e
    unfold vv_X8_back_L13
    refine ⟨fun _ => ?_, fun z => absurd (show (40 : Int32) ≤ nI 40 from by decide) z⟩
    have e0 := h1 0 (by decide)
    intro g1 e1 g2 e2 g3 e3 g4 e4
    rw [e0] at e1
    have e1' : g1 = st g 0 11 (m 0 32) := e1
    have e2' : g2 = st (st g 0 11 (m 0 32)) 0 7 (m 0 33) := by rw [e2, e1', st_off _ (by decide), e0]
    have e3' : g3 = st (st (st g 0 11 (m 0 32)) 0 7 (m 0 33)) 0 8 (m 0 34) := by rw [e3, e2', st_off _ (by decide), st_off _ (by decide), e0]
    have e4' : g4 = st (st (st (st g 0 11 (m 0 32)) 0 7 (m 0 33)) 0 8 (m 0 34)) 0 4 (m 0 35) := by rw [e4, e3', st_off _ (by decide), st_off _ (by decide), st_off _ (by decide), e0]
    have e11 : g4 0 11 = m 0 32 := by rw [e4', st_off _ (by decide), st_off _ (by decide), st_off _ (by decide), st_on]
    rw [e11]
    refine hQ g4 (fun k hk h5 => by rw [e4', st_ne hk, st_ne hk, st_ne hk, st_ne hk]; exact h1 k h5) (fun j hj => by rw [e4', st_ne (by decide), st_ne (by decide), st_ne (by decide), st_ne (by decide)]; exact h2 j hj) (fun j h11 h7 h8 h4 => by rw [e4', st_off _ h4, st_off _ h8, st_off _ h7, st_off _ h11, e0]) e11 (by rw [e4', st_off _ (by decide), st_off _ (by decide), st_on]) (by rw [e4', st_off _ (by decide), st_on]) (by rw [e4', st_on])
  | succ d ih =>
    intro i g hi h1 h2
    unfold vv_X8_back_L13
    refine ⟨fun z => absurd z (nI_ge (b := 40) (by omega) (by omega)), fun _ => ⟨vp_in_nI (by omega) (by decide), vp_in_nI (by omega) (by decide), ?_⟩⟩
    rintro g' rfl j rfl
    rw [nI_1, nI_clamp (by omega)]
    refine ih _ _ (by omega) (fun k hk => by rw [st_ne hk]; exact h1 k hk) (fun j hj => ?_)
    rw [st_at]
    by_cases q : j = i
    · rw [if_pos q, h1 8 (by decide), q]
    · rw [if_neg q]; exact h2 j (by omega)
theorem eq_image {m c : Sg} {nt : Nat} (h : Rel m c nt) : vv_X7_image nt c (fun r c' => vv_X8_image m (fun r' m' => r = r' ∧ Rel m' c' nt)) := by
  obtain ⟨N, hp, hd, ⟨r, d1, d2, d3⟩, ht, ha, hi, hs⟩ := h
  unfold vv_X7_image
  refine h_bec ⟨by decide, by decide⟩ ⟨by decide, by decide⟩ (by decide) (fun c' hc => ?_)
  rintro c2 rfl
  unfold vv_X8_image
  rintro x rfl
  refine ⟨41, imgM_L (fun m' a1 a2 a3 b1 b2 b3 b4 => ?_) 40 0 m (by omega) (fun _ _ => rfl) (fun j hj => absurd hj (by omega))⟩
  have k0 : ∀ j, j ≠ 3 → (st c' 0 3 1) 0 j = c 0 j := fun j hj => by rw [st_off _ hj, hc.1 0 (by decide) (by omega)]
  have kk : ∀ k, k ≠ 0 → k ≠ 2 → ¬ (34 ≤ k ∧ k < 42) → (st c' 0 3 1) k = c k := fun k h0 h2 h3 => by rw [st_ne h0, hc.1 k h2 (by omega)]
  have h8 := hp.2.2.1
  refine ⟨?_, N, hp.keep (a3 11 (by omega)) (a1 4 (by decide) (by decide)) (a1 5 (by decide) (by decide)) (by rw [kk 1 (by decide) (by decide) (by decide)]) (fun i hi => kk _ (by omega) (by omega) (by omega)), hd.keep (a3 7 (by omega)) (a3 8 (by omega)) (by rw [kk 1 (by decide) (by decide) (by decide)]) (by rw [kk 1 (by decide) (by decide) (by decide)]) (by rw [kk 25 (by decide) (by decide) (by decide)]), ⟨r, d1, by rw [a3 4 (by omega)]; exact d2, by rw [kk 1 (by decide) (by decide) (by decide)]; exact d3⟩, ht.keep (a3 3 (by omega)) (a1 1 (by decide) (by decide)) (a1 2 (by decide) (by decide)) (k0 8 (by decide)) (kk 12 (by decide) (by decide) (by decide)) (fun k h1 h2 => kk k (by omega) (by omega) (by omega)), ha.keep (a3 6 (by omega)) (a1 3 (by decide) (by decide)) (by rw [kk 8 (by decide) (by decide) (by decide)]) (kk 9 (by decide) (by decide) (by decide)), ?_, hs.keep (a1 9 (by decide) (by decide)) (a1 10 (by decide) (by decide)) (a1 11 (by decide) (by decide)) (a1 12 (by decide) (by decide)) (fun k h1 h2 => kk k (by omega) (by omega) (by omega))⟩
  · rw [st_ne (by decide), hc.2.1 2 (by decide), hp.2.1, hp.1]
  · have q2 : ∀ j, j < 4 → (st c' 0 3 1) 2 j = c 1 j := fun j hj => by rw [st_ne (by decide), hc.2.1 j hj]
    refine Or.inr ⟨st_on _ _ _ _, N, r, Nat.le_refl N, d1, by rw [b1]; exact hp.1, by rw [q2 2 (by decide)]; exact hp.2.1, by rw [b2, q2 0 (by decide)]; exact hd.1, by rw [b2]; exact hd.2.1, by rw [b3, q2 3 (by decide)]; exact hd.2.2.1, by rw [b3]; exact hd.2.2.2.1, by rw [b4]; exact d2, by rw [q2 1 (by decide)]; exact d3, fun i hi => ?_⟩
    have e : ∀ j, j < 6 → pvK m' i j = pvM m i j := fun j hj => by
      unfold pvK pvM
      by_cases q : j = 0
      · rw [if_pos q, if_pos q, a1 4 (by decide) (by decide)]
      · rw [if_neg q, if_neg q, a2 _ (by omega)]
    obtain ⟨f1, f2⟩ := hp.2.2.2 i hi
    refine ⟨fun j hj => ?_, ?_⟩
    · rw [e j hj, st_ne (by omega), ← f1 j hj]
      exact hc.2.2 i (by omega) j hj
    · unfold PapOk at *
      rw [e 0 (by decide), e 1 (by decide), e 2 (by decide), e 3 (by decide), e 4 (by decide), e 5 (by decide)]
      exact f2
theorem eq_back {m c : Sg} {nt : Nat} (h : Rel m c nt) : vv_X7_back nt c (fun r c' => vv_X8_back m (fun r' m' => r = r' ∧ Rel m' c' nt)) := by
  have h' := h
  obtain ⟨N, hp, hd, hr, ht, ha, hi, hs⟩ := h
  unfold vv_X7_back
  rcases hi with ⟨g1, g2⟩ | ⟨g1, K, r, p1, p2, p3, p4, p5, p6, p7, p8, p9, p10, p11⟩
  · refine ⟨fun z => absurd g2 z, fun _ => ?_⟩
    unfold vv_X8_back
    exact ⟨fun z => absurd g1 z, fun _ => ⟨rfl, h'⟩⟩
  · refine ⟨fun _ => h_bec ⟨by decide, by decide⟩ ⟨by decide, by decide⟩ (by decide) (fun c' hc => ?_), fun z => absurd (g1.symm.trans z) (by decide)⟩
    unfold vv_X8_back
    have h8 := hp.2.2.1
    refine ⟨fun _ => ?_, fun z => absurd (p3.symm.trans z) (fun q => nI_pos (n := K) (by omega) (by rw [q]; decide))⟩
    rintro x rfl
    refine ⟨41, backM_L (fun m' a1 a2 a3 b1 b2 b3 b4 => ?_) 40 0 m (by omega) (fun _ _ => rfl) (fun j hj => absurd hj (by omega))⟩
    have kk : ∀ k, k ≠ 1 → ¬ (26 ≤ k ∧ k < 34) → c' k = c k := fun k h0 h2 => hc.1 k h0 (by omega)
    refine ⟨by rw [hc.2.1 2 (by decide), p4, p3], K, ⟨by rw [b1]; exact p3, by rw [hc.2.1 2 (by decide)]; exact p4, by omega, fun i hi => ?_⟩, ⟨by rw [b2, hc.2.1 0 (by decide)]; exact p5, by rw [b2]; exact p6, by rw [b3, hc.2.1 3 (by decide)]; exact p7, by rw [b3]; exact p8, by rw [kk 25 (by decide) (by decide)]; exact hd.2.2.2.2⟩, ⟨r, p2, by rw [b4]; exact p9, by rw [hc.2.1 1 (by decide)]; exact p10⟩, ht.keep (a3 3 (by decide) (by decide) (by decide) (by decide)) (a1 1 (by decide) (by decide)) (a1 2 (by decide) (by decide)) (by rw [kk 0 (by decide) (by decide)]) (kk 12 (by decide) (by decide)) (fun k h1 h2 => kk k (by omega) (by omega)), ha.keep (a3 6 (by decide) (by decide) (by decide) (by decide)) (a1 3 (by decide) (by decide)) (by rw [kk 8 (by decide) (by decide)]) (kk 9 (by decide) (by decide)), ?_, hs.keep (a1 9 (by decide) (by decide)) (a1 10 (by decide) (by decide)) (a1 11 (by decide) (by decide)) (a1 12 (by decide) (by decide)) (fun k h1 h2 => kk k (by omega) (by omega))⟩
    · have e : ∀ j, j < 6 → pvM m' i j = pvK m i j := fun j hj => by
        unfold pvK pvM
        by_cases q : j = 0
        · rw [if_pos q, if_pos q, a1 4 (by decide) (by decide)]
        · rw [if_neg q, if_neg q, a2 _ (by omega)]
      obtain ⟨f1, f2⟩ := p11 i hi
      refine ⟨fun j hj => ?_, ?_⟩
      · rw [e j hj, ← f1 j hj]
        exact hc.2.2 i (by omega) j hj
      · unfold PapOk at *
        rw [e 0 (by decide), e 1 (by decide), e 2 (by decide), e 3 (by decide), e 4 (by decide), e 5 (by decide)]
        exact f2
    · refine Or.inr ⟨by rw [kk 0 (by decide) (by decide)]; exact g1, K, r, Nat.le_refl K, p2, by rw [a3 32 (by decide) (by decide) (by decide) (by decide)]; exact p3, by rw [kk 2 (by decide) (by decide)]; exact p4, by rw [a3 33 (by decide) (by decide) (by decide) (by decide), kk 2 (by decide) (by decide)]; exact p5, by rw [a3 33 (by decide) (by decide) (by decide) (by decide)]; exact p6, by rw [a3 34 (by decide) (by decide) (by decide) (by decide), kk 2 (by decide) (by decide)]; exact p7, by rw [a3 34 (by decide) (by decide) (by decide) (by decide)]; exact p8, by rw [a3 35 (by decide) (by decide) (by decide) (by decide)]; exact p9, by rw [kk 2 (by decide) (by decide)]; exact p10, fun i hi => ?_⟩
      have ek : pvK m' i = pvK m i := by funext j; unfold pvK; rw [a1 4 (by decide) (by decide), a1 8 (by decide) (by decide)]
      rw [ek, kk _ (by omega) (by omega)]; exact p11 i hi
