/-! ===== run() ===== -/
def pdI (P : Nat → Nat → Int32) (D : Int32) (co : Nat → List Int32) : Nat → Nat → Nat → Int32
  | 0 => P
  | n + 1 => pdP (pdI P D co n) (D + nI n) co
theorem pdI_ne {P : Nat → Nat → Int32} {D : Int32} {co : Nat → List Int32} {n i j : Nat} (h : j ≠ 4) : pdI P D co n i j = P i j := by
  induction n with
  | zero => rfl
  | succ n ih => rw [pdI, pdP, if_neg (fun z => h z.1)]; exact ih
def rnS (P : Nat → Nat → Int32) (N : Nat) (D E : Int32) (co : Nat → List Int32) (n w : Nat) : Int32 := if w = 8 then nI (pop (ctS (pdI P D co n) N (D + nI n) E co)) else sdS (pdI P D co n) N (D + nI n) co (nI w) 1 0
theorem dn_1 (D : Int32) (n : Nat) : D + nI n + 1 = D + nI (n + 1) := by rw [Int32.add_assoc, nI_1]
theorem FrP.K {c c' : Sg} (h : FrP c c' 3) : FrK c c' := ⟨fun k k1 k2 _ k4 k5 => h.1 k k2 (by omega) k1, by rw [h.1 25 (by decide) (by decide) (by decide)]⟩
theorem runC_L {nt n w : Nat} {c : Sg} {N : Nat} {P : Nat → Nat → Int32} {D E : Int32} {co : Nat → List Int32} {Q : Int32 → Sg → Prop} (hn : n ≤ 40) (hw : w ≤ 8) (hQ : ∀ c', FrK c c' → Q (rnS P N D E co n w) c') : ∀ d i g, i + d = n → FrK c g → BkC nt g 3 N (pdI P D co i) (D + nI i) E co → vv_X7_run_L36 nt Q (d + 1) (nI n) (nI w) (nI i) g := by
  intro d
  induction d with
  | zero =>
    intro i g hi F hg
    have e : i = n := by omega
    subst e
    unfold vv_X7_run_L36
    refine ⟨fun _ => ⟨fun q => ?_, fun q => ?_⟩, fun z => absurd (Int32.le_refl _) z⟩
    · have hw8 : w < 8 := by
        rcases Nat.lt_or_ge w 8 with z | z
        · exact z
        · exact absurd (show nI w = 8 by rw [show w = 8 by omega]; rfl) q
      refine h_weigC hg (fun c1 F1 e22 e25 e23 => h_divC (hg.keep F1) hw8 e23 (fun c2 F2 f23 f25 f222 f0 f1 f24 => ?_))
      have := hQ c2 ((F.tr F1.K).tr F2.K)
      unfold rnS at this
      rw [if_neg (by omega)] at this
      rw [f0]; exact this
    · have hw8 : w = 8 := (nI_eq (b := 8) (by omega) (by decide)).mp q
      refine h_carSC hg (fun c1 F1 => h_bitC (ctS_lt _ _ _ _ _) ?_)
      have := hQ c1 (F.tr F1.K)
      unfold rnS at this
      rw [if_pos hw8] at this
      exact this
  | succ d ih =>
    intro i g hi F hg
    unfold vv_X7_run_L36
    refine ⟨fun z => absurd z (nI_ge (by omega) (by omega)), fun _ => h_passC hg (fun g' F' hg' => ?_)⟩
    intro y ey
    rw [ey, nI_1]
    rw [dn_1] at hg'
    exact ih _ _ (by omega) (F.tr F'.K) hg'
def FrE (m m' : Sg) : Prop := (∀ k, k ≠ 0 → k ≠ 5 → k ≠ 6 → m' k = m k) ∧ ∀ j, j ≠ 7 → (j < 12 ∨ 26 < j) → m' 0 j = m 0 j
theorem FrE.tr {a b c : Sg} (h1 : FrE a b) (h2 : FrE b c) : FrE a c := ⟨fun k x y z => by rw [h2.1 k x y z, h1.1 k x y z], fun j x y => by rw [h2.2 j x y, h1.2 j x y]⟩
theorem FrD.E {a b : Sg} (h : FrD a b) : FrE a b := ⟨fun k x y _ => h.1 k x y, h.2⟩
theorem resM_L {m : Sg} {N n : Nat} {P : Nat → Nat → Int32} {D a : Int32} {co : Nat → List Int32} {Q : Int32 → Sg → Prop} (h8 : N ≤ 8) (hN : m 0 11 = nI N) (hQ : ∀ m', FrE m m' → m' 0 7 = D → (∀ i, i < N → ∀ j, j < 6 → pvM m' i j = P i j) → Q a m') : ∀ d i g, i + d = N → FrE m g → (∀ j, j < N → g 6 j = P j 4) → (∀ k, k < N → ∀ j, j < 6 → pvM g k j = if k < i then P k j else pdI P D co n k j) → vv_X8_run_L115 Q (d + 1) D a (nI i) g := by
  intro d
  induction d with
  | zero =>
    intro i g hi F h6 hp
    have e : i = N := by omega
    subst e
    unfold vv_X8_run_L115
    rw [F.2 11 (by decide) (by omega), hN]
    refine ⟨fun _ => ?_, fun z => absurd (Int32.le_refl _) z⟩
    rintro g' rfl
    refine hQ _ ⟨fun k h0 h5 h6 => by rw [st_ne h0]; exact F.1 k h0 h5 h6, fun j hj hj' => by rw [st_off _ hj]; exact F.2 j hj hj'⟩ (st_on _ _ _ _) (fun k hk j hj => ?_)
    rw [pv_st0, hp k hk j hj, if_pos hk]
  | succ d ih =>
    intro i g hi F h6 hp
    unfold vv_X8_run_L115
    rw [F.2 11 (by decide) (by omega), hN, ix5_3, nI_clamp (by omega), nI_clamp (by omega), h6 i (by omega)]
    refine ⟨fun z => absurd z (nI_ge (by omega) (by omega)), fun _ => ⟨vp_in_nI (by omega) (by decide), vp_in_nI (by omega) (by decide), ?_⟩⟩
    rintro g' rfl y rfl
    rw [nI_1]
    refine ih _ _ (by omega) ⟨fun k h0 h5 h6 => by rw [st_ne h5]; exact F.1 k h0 h5 h6, fun j hj hj' => by rw [st_ne (by decide)]; exact F.2 j hj hj'⟩ (fun j hj => by rw [st_ne (by decide)]; exact h6 j hj) (fun k hk j hj => ?_)
    rw [pv_st5 _ _ (by decide) _ hj, hp k hk j hj]
    by_cases w : k = i
    · subst w
      rw [if_neg (show ¬ k < k by omega), if_pos (show k < k + 1 by omega)]
      by_cases wj : j = 4
      · rw [if_pos ⟨rfl, wj⟩, wj]
      · rw [if_neg (fun z => wj z.2), pdI_ne wj]
    · rw [if_neg (fun z => w z.1)]
      by_cases w' : k < i
      · rw [if_pos w', if_pos (by omega)]
      · rw [if_neg w', if_neg (by omega)]
theorem runM_L {m : Sg} {N n w : Nat} {P : Nat → Nat → Int32} {D E : Int32} {co : Nat → List Int32} {Q : Int32 → Sg → Prop} (h : BkM m N P D E co) (hn : n ≤ 40) (hw : w ≤ 8) (hQ : ∀ m', FrE m m' → m' 0 7 = D → (∀ i, i < N → ∀ j, j < 6 → pvM m' i j = P i j) → Q (rnS P N D E co n w) m') : ∀ d i g, i + d = n → FrE m g → (∀ j, j < N → g 6 j = P j 4) → BkM g N (pdI P D co i) (D + nI i) E co → vv_X8_run_L71 Q (d + 1) (nI n) (nI w) D (nI i) g := by
  intro d
  have h8 := h.2.1
  induction d with
  | zero =>
    intro i g hi F h6 hg
    have e : i = n := by omega
    subst e
    have go : ∀ g' a, FrS g g' → a = rnS P N D E co i w → vv_X8_run_J110 D a g' Q := by
      intro g' a F' ha
      unfold vv_X8_run_J110
      intro a' ea' x ex
      rw [ea', ex]
      refine ⟨N + 1, resM_L (n := i) (co := co) h8 h.1 (fun m' G1 G2 G3 => by rw [ha]; exact hQ m' G1 G2 G3) N 0 g' (by omega) (F.tr F'.D.E) (fun j hj => by rw [F'.1 6 (by decide)]; exact h6 j hj) (fun k hk j hj => ?_)⟩
      rw [if_neg (by omega), F'.pv]
      exact (hg.2.2.1 k hk).1 j hj
    unfold vv_X8_run_L71
    refine ⟨fun _ => ⟨fun q => h_sideM (S := 0) hg (by decide) (fun g' F' => go g' _ F' ?_), fun q => h_carSM hg (fun g' F' => h_bitsM (ctS_lt _ _ _ _ _) (go g' _ F' ?_))⟩, fun z => absurd (Int32.le_refl _) z⟩
    · unfold rnS
      rw [if_neg (fun z => q (by rw [z]; rfl))]
    · unfold rnS
      rw [if_pos ((nI_eq (b := 8) (by omega) (by decide)).mp q)]
  | succ d ih =>
    intro i g hi F h6 hg
    unfold vv_X8_run_L71
    refine ⟨fun z => absurd z (nI_ge (by omega) (by omega)), fun _ => h_passM hg (fun g' F' hg' => ?_)⟩
    intro y ey
    rw [ey, nI_1]
    rw [dn_1] at hg'
    exact ih _ _ (by omega) (F.tr F'.E) (fun j hj => by rw [F'.1 6 (by decide) (by decide)]; exact h6 j hj) hg'
theorem savM_L {m : Sg} {N n w : Nat} {P : Nat → Nat → Int32} {D E : Int32} {co : Nat → List Int32} {Q : Int32 → Sg → Prop} (h : BkM m N P D E co) (hn : n ≤ 40) (hw : w ≤ 8) (hQ : ∀ m', FrE m m' → m' 0 7 = D → (∀ i, i < N → ∀ j, j < 6 → pvM m' i j = P i j) → Q (rnS P N D E co n w) m') : ∀ d i g, i + d = N → (∀ k, k ≠ 6 → g k = m k) → (∀ j, j < i → g 6 j = P j 4) → vv_X8_run_L35 Q (d + 1) (nI n) (nI w) D (nI i) g := by
  intro d
  have h8 := h.2.1
  induction d with
  | zero =>
    intro i g hi F h6
    have e : i = N := by omega
    subst e
    unfold vv_X8_run_L35
    have FQ : FrQ m g := ⟨fun k _ h6 _ => F k h6, fun j _ => by rw [F 0 (by decide)]⟩
    rw [F 0 (by decide), h.1]
    refine ⟨fun _ => ?_, fun z => absurd (Int32.le_refl _) z⟩
    intro y ey
    rw [ey]
    have hg := h.keep FQ
    exact ⟨n + 1, runM_L h hn hw hQ n 0 g (by omega) ⟨fun k _ _ h6 => F k h6, fun j _ _ => by rw [F 0 (by decide)]⟩ h6 (by rw [show D + nI 0 = D from Int32.add_zero D]; exact hg)⟩
  | succ d ih =>
    intro i g hi F h6
    unfold vv_X8_run_L35
    have e3 : m 5 (5 * i + 3) = P i 4 := (pv_succ m i 3).symm.trans ((h.2.2.1 i (by omega)).1 4 (by decide))
    rw [F 0 (by decide), h.1, ix5_3, nI_clamp (by omega), nI_clamp (by omega), F 5 (by decide), e3]
    refine ⟨fun z => absurd z (nI_ge (by omega) (by omega)), fun _ => ⟨vp_in_nI (by omega) (by decide), vp_in_nI (by omega) (by decide), ?_⟩⟩
    rintro g' rfl y rfl
    rw [nI_1]
    refine ih _ _ (by omega) (fun k hk => by rw [st_ne hk]; exact F k hk) (fun j hj => ?_)
    rw [st_at]
    by_cases q : j = i
    · rw [if_pos q, q]
    · rw [if_neg q]; exact h6 j (by omega)
theorem eq_run {m c : Sg} {nt : Nat} (h : Rel m c nt) (x1 x2 : Int32) : vv_X7_run nt x1 x2 c (fun r c' => vv_X8_run x1 x2 m (fun r' m' => r = r' ∧ Rel m' c' nt)) := by
  obtain ⟨N, P, D, E, co, hM, hC, hD, hE, h25⟩ := h.bk
  have h' := h
  obtain ⟨N', hp, hd, hr, ht, ha, hi, hs⟩ := h
  have eN : N' = N := (nI_eq (by have := hp.2.2.1; omega) (by have := hM.2.1; omega)).mp (hp.1.symm.trans hM.1)
  subst eN
  have h8 := hp.2.2.1
  have bad : ¬ (((0 : Int32) ≤ x1 ∧ x1 ≤ 40) ∧ (0 : Int32) ≤ x2 ∧ x2 ≤ 8) → vv_X8_run x1 x2 m (fun r' m' => -2 = r' ∧ Rel m' c nt) := fun z => by
    unfold vv_X8_run
    refine h_in (l := 0) (h := 40) rfl rfl ?_
    by_cases q1 : (0 : Int32) ≤ x1 ∧ x1 ≤ 40
    · rw [if_pos q1]
      refine ⟨fun z => absurd z (by decide), fun _ => h_in (l := 0) (h := 8) rfl rfl ?_⟩
      rw [if_neg (fun q2 => z ⟨q1, q2⟩)]
      exact ⟨fun z => absurd rfl z, fun _ => ⟨rfl, h'⟩⟩
    · rw [if_neg q1]; exact ⟨fun _ => ⟨rfl, h'⟩, fun z => absurd rfl z⟩
  unfold vv_X7_run
  refine ⟨fun z => bad (fun q => absurd q.1.1 (Int32.not_le.mpr z)), fun z1 => ⟨fun z => bad (fun q => absurd q.1.2 (Int32.not_le.mpr z)), fun z2 => ⟨fun z => bad (fun q => absurd q.2.1 (Int32.not_le.mpr z)), fun z3 => ⟨fun z4 => ?_, fun z => bad (fun q => z q.2.2)⟩⟩⟩⟩
  obtain ⟨n, hn, rfl⟩ := rng_nI (n := 40) (by decide) ⟨Int32.not_lt.mp z1, Int32.not_lt.mp z2⟩
  obtain ⟨w, hw, rfl⟩ := rng_nI (n := 8) (by decide) ⟨Int32.not_lt.mp z3, z4⟩
  refine h_bec ⟨by decide, by decide⟩ ⟨by decide, by decide⟩ (by decide) (fun c1 hb => ?_)
  have F1 : FrK c c1 := ⟨fun k k1 k2 _ k4 k5 => hb.1 k k2 (by omega), by rw [hb.1 25 (by decide) (by omega)]⟩
  have hC1 : BkC nt c1 3 N' P D E co := by
    refine ⟨⟨by decide, by decide⟩, by rw [hb.2.1 2 (by decide)]; exact hC.2.1, h8, fun i hi => ⟨fun j hj => ?_, (hC.2.2.2.1 i hi).2⟩, by rw [hb.2.1 0 (by decide)]; exact hC.2.2.2.2.1, by rw [hb.2.1 3 (by decide)]; exact hC.2.2.2.2.2.1, ?_⟩
    · rw [hb.2.2 i (by omega) j hj]; exact (hC.2.2.2.1 i hi).1 j hj
    · obtain ⟨r, a1, a2, a3, a4⟩ := hC.2.2.2.2.2.2
      have e := tx_keep (hb.1 12 (by decide) (by omega)) (nI r)
      have t1 := a3.1
      have t2 := a3.2.1
      exact ⟨r, a1, by rw [hb.2.1 1 (by decide)]; exact a2, by rw [e]; exact a3, by rw [e]; exact a4.keep (hb.1 _ (by omega) (by omega)) (hb.1 _ (by omega) (by omega))⟩
  intro y ey
  rw [ey]
  refine ⟨n + 1, runC_L (c := c) hn hw (fun c' F => ?_) n 0 c1 (by omega) F1 (by rw [show D + nI 0 = D from Int32.add_zero D]; exact hC1)⟩
  unfold vv_X8_run
  refine h_in (l := 0) (h := 40) rfl rfl ?_
  rw [if_pos ⟨Int32.not_lt.mp z1, Int32.not_lt.mp z2⟩]
  refine ⟨fun z => absurd z (by decide), fun _ => h_in (l := 0) (h := 8) rfl rfl ?_⟩
  rw [if_pos ⟨Int32.not_lt.mp z3, z4⟩]
  refine ⟨fun _ => ?_, fun z => absurd z (by decide)⟩
  intro a ea b eb
  rw [ea, eb, hM.2.2.2.1]
  refine ⟨N' + 1, savM_L hM hn hw (fun m' G1 G2 G3 => ⟨rfl, ?_⟩) N' 0 m (by omega) (fun _ _ => rfl) (fun j hj => absurd hj (by omega))⟩
  have f1 : c' 1 = c 1 := F.1 1 (by decide) (by decide) (by decide) (by decide) (by decide)
  refine Rel.rows hp hr ht ha hi hs (fun k k0 k5 k6 _ => G1.1 k k0 k5 k6) (fun j hj hj' => G1.2 j hj (by omega)) (fun k _ _ k3 k4 k5 k6 k7 => F.1 k k3 k4 k5 k6 k7) (fun j _ => by rw [f1]) ⟨by rw [G1.2 11 (by decide) (by omega)]; exact hp.1, by rw [f1]; exact hp.2.1, h8, fun i hi => ?_⟩ ⟨by rw [G2, f1]; exact hC.2.2.2.2.1.symm, by rw [G2]; exact hD, by rw [G1.2 8 (by decide) (by omega), f1]; exact hd.2.2.1, by rw [G1.2 8 (by decide) (by omega)]; exact hd.2.2.2.1, by rw [F.2]; exact h25⟩
  have e := G3 i hi
  refine ⟨fun j hj => ?_, ?_⟩
  · rw [F.1 (26 + i) (by omega) (by omega) (by omega) (by omega) (by omega), e j hj]
    exact (hC.2.2.2.1 i hi).1 j hj
  · have pk := (hM.2.2.1 i hi).2
    unfold PapOk at *
    rw [e 0 (by decide), e 1 (by decide), e 2 (by decide), e 3 (by decide), e 4 (by decide), e 5 (by decide)]
    exact pk
