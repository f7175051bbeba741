/-! ===== a day passes ===== -/
def pdP (P : Nat → Nat → Int32) (D : Int32) (co : Nat → List Int32) (i j : Nat) : Int32 := if j = 4 ∧ P i 5 = 0 then cl (P i 4 - smS (P i) D co) 0 99 else P i j
def mxP (P P' : Nat → Nat → Int32) (n i j : Nat) : Int32 := if i < n then P' i j else P i j
theorem pd_ok {P : Nat → Nat → Int32} {D : Int32} {co : Nat → List Int32} {i : Nat} (h : PapOk (P i)) : PapOk (pdP P D co i) := by
  obtain ⟨h0, h1, h2, h3, h4, h5⟩ := h
  refine ⟨h0, h1, h2, h3, ?_, h5⟩
  unfold pdP
  split
  · exact cl_rng (by decide)
  · exact h4
theorem mx_ok {P P' : Nat → Nat → Int32} {n i : Nat} (h : PapOk (P i)) (h' : PapOk (P' i)) : PapOk (mxP P P' n i) := by
  unfold mxP PapOk
  by_cases q : i < n
  · simp only [q, if_true]; exact h'
  · simp only [q, if_false]; exact h
theorem mx_new (P P' : Nat → Nat → Int32) (i j : Nat) : mxP P P' (i + 1) i j = P' i j := by unfold mxP; rw [if_pos (by omega)]
theorem cl_pos {x : Int32} (h : x.toInt ≤ 99) : (if (0 : Int32) < x then x else 0) = cl x 0 99 := by
  unfold cl
  have e99 : (99 : Int32).toInt = 99 := by decide
  by_cases q : (0 : Int32) < x
  · rw [if_pos q, if_pos (Int32.le_of_lt q), if_pos (i_le.mpr (by rw [e99]; exact h))]
  · rw [if_neg q]
    by_cases w : (0 : Int32) ≤ x
    · rw [if_pos w, if_pos (i_le.mpr (by rw [e99]; exact h))]
      exact Int32.le_antisymm w (Int32.not_lt.mp q)
    · rw [if_neg w]
theorem cl_id {x : Int32} (h : rngI x 0 99) : cl (x - 0) 0 99 = x := by
  rw [show x - 0 = x by grind]
  unfold cl; rw [if_pos h.1, if_pos h.2]
theorem cr_sub {P : Nat → Nat → Int32} {D : Int32} {co : Nat → List Int32} {i : Nat} (h : PapOk (P i)) : (P i 4 - smS (P i) D co).toInt ≤ 99 := by
  have h4 := h.2.2.2.2.1
  have h1 := i_le.mp h4.1
  have h2 := i_le.mp h4.2
  rw [i_0] at h1
  rw [show (99 : Int32).toInt = 99 by decide] at h2
  have h3 := sm_rng (P i) D co
  rw [i_sub (by omega)]; omega
def FrP (c c' : Sg) (B : Nat) : Prop := (∀ k, k ≠ B → ¬ (18 + 8 * B ≤ k ∧ k < 18 + 8 * B + 8) → (k < 50 ∨ k % 3 ≠ 1) → c' k = c k) ∧ ∀ j, j ≠ 0 → c' B j = c B j
theorem passC_L {nt : Nat} {c : Sg} {B N : Nat} {P : Nat → Nat → Int32} {D E : Int32} {co : Nat → List Int32} {Q : Sg → Prop} (h : BkC nt c B N P D E co) (hQ : ∀ c', FrP c c' B → BkC nt c' B N (pdP P D co) (D + 1) E co → Q c') : ∀ d i g, i + d = N → FrP c g B → BkC nt g B N (mxP P (pdP P D co) i) D E co → vv_X7_passDay_L2 nt Q (d + 1) B (nI i) g := by
  intro d
  have h8 := h.2.2.1
  have b1 := h.1.1
  have b2 := h.1.2
  induction d with
  | zero =>
    intro i g hi F hg
    have e : i = N := by omega
    subst e
    unfold vv_X7_passDay_L2
    rw [hg.2.1]
    refine ⟨fun _ => ?_, fun z => absurd (Int32.le_refl _) z⟩
    rintro g' rfl
    refine hQ _ ⟨fun k hk hk' hk2 => by rw [st_ne hk]; exact F.1 k hk hk' hk2, fun j hj => by rw [st_off _ hj]; exact F.2 j hj⟩ ⟨hg.1, by rw [st_off _ (by decide)]; exact hg.2.1, h8, fun i hi => ?_, by rw [st_on, hg.2.2.2.2.1], by rw [st_off _ (by decide)]; exact hg.2.2.2.2.2.1, hg.2.2.2.2.2.2.keep (by rw [st_ne (by omega)]) (by rw [st_off _ (by decide)]) (fun k hk hk' => st_ne (by omega))⟩
    rw [st_ne (by omega)]
    obtain ⟨f1, f2⟩ := hg.2.2.2.1 i hi
    refine ⟨fun j hj => ?_, pd_ok (h.2.2.2.1 i hi).2⟩
    rw [f1 j hj]; unfold mxP; rw [if_pos hi]
  | succ d ih =>
    intro i g hi F hg
    unfold vv_X7_passDay_L2
    obtain ⟨f1, f2⟩ := hg.2.2.2.1 i (by omega)
    have em : ∀ j, mxP P (pdP P D co) i i j = P i j := fun j => by unfold mxP; rw [if_neg (by omega)]
    have emf : mxP P (pdP P D co) i i = P i := funext em
    have pok := (h.2.2.2.1 i (by omega)).2
    rw [hg.2.1, pp3 b1 (by omega), f1 5 (by decide), f1 4 (by decide), em, em]
    unfold vv_X7_passDay_J43
    refine ⟨fun z => absurd z (nI_ge (by omega) (by omega)), fun _ => ⟨vp_in_nI (by omega) (by decide), fun q => ?_, fun q => h_smoothC hg.1 (hg.P (by omega)) hg.2.2.2.2.2.2 (fun g1 F1 => ?_)⟩⟩
    · intro y ey
      rw [ey, nI_1]
      refine ih _ _ (by omega) F ⟨hg.1, hg.2.1, h8, fun k hk => ?_, hg.2.2.2.2⟩
      obtain ⟨k1, k2⟩ := hg.2.2.2.1 k hk
      refine ⟨fun j hj => ?_, mx_ok (h.2.2.2.1 k hk).2 (pd_ok (h.2.2.2.1 k hk).2)⟩
      rw [k1 j hj]
      unfold mxP
      by_cases w : k = i
      · subst w
        rw [if_neg (by omega), if_pos (by omega)]
        unfold pdP; rw [if_neg (fun z => q z.2)]
      · by_cases w' : k < i
        · rw [if_pos w', if_pos (by omega)]
        · rw [if_neg w', if_neg (by omega)]
    · intro g2 e2 y ey
      have f1' : ∀ j, j < 6 → g (18 + 8 * B + i) j = P i j := fun j hj => (f1 j hj).trans (em j)
      rw [smS_congr f1', hg.2.2.2.2.1, cl_pos (cr_sub pok)] at e2
      rw [ey, nI_1]
      subst e2
      refine ih _ _ (by omega) ⟨fun k hk hk' hk2 => by rw [st_ne (by omega), F1 k hk2]; exact F.1 k hk hk' hk2, fun j hj => by rw [st_ne (by omega), F1 B (by omega)]; exact F.2 j hj⟩ ⟨hg.1, by rw [st_ne (by omega), F1 B (by omega)]; exact hg.2.1, h8, fun k hk => ?_, by rw [st_ne (by omega), F1 B (by omega)]; exact hg.2.2.2.2.1, by rw [st_ne (by omega), F1 B (by omega)]; exact hg.2.2.2.2.2.1, hg.2.2.2.2.2.2.keep (by rw [st_ne (by omega), F1 12 (by omega)]) (by rw [st_ne (by omega), F1 B (by omega)]) (fun k hk hk' => by rw [st_ne (by omega), F1 k (by omega)])⟩
      obtain ⟨k1, k2⟩ := hg.2.2.2.1 k hk
      refine ⟨fun j hj => ?_, mx_ok (h.2.2.2.1 k hk).2 (pd_ok (h.2.2.2.1 k hk).2)⟩
      by_cases w : k = i
      · subst w
        rw [st_at, F1 _ (by omega), k1 j hj, em]
        rw [mx_new]
        unfold pdP
        by_cases wj : j = 4
        · rw [if_pos wj, if_pos ⟨wj, q⟩]
        · rw [if_neg wj, if_neg (fun z => wj z.1)]
      · rw [st_ne (by omega), F1 _ (by omega), k1 j hj]
        unfold mxP
        by_cases w' : k < i
        · rw [if_pos w', if_pos (by omega)]
        · rw [if_neg w', if_neg (by omega)]
theorem mx_0 (P P' : Nat → Nat → Int32) : mxP P P' 0 = P := by funext i j; unfold mxP; rw [if_neg (by omega)]
theorem h_passC {nt : Nat} {c : Sg} {B N : Nat} {P : Nat → Nat → Int32} {D E : Int32} {co : Nat → List Int32} {Q : Sg → Prop} (h : BkC nt c B N P D E co) (hQ : ∀ c', FrP c c' B → BkC nt c' B N (pdP P D co) (D + 1) E co → Q c') : vv_X7_passDay nt B c Q := by
  unfold vv_X7_passDay
  refine ⟨h.1, ?_⟩
  rintro x rfl
  exact ⟨N + 1, passC_L h hQ N 0 c (by omega) ⟨fun _ _ _ _ => rfl, fun _ _ => rfl⟩ (by rw [mx_0]; exact h)⟩
def FrD (m m' : Sg) : Prop := (∀ k, k ≠ 0 → k ≠ 5 → m' k = m k) ∧ ∀ j, j ≠ 7 → (j < 12 ∨ 26 < j) → m' 0 j = m 0 j
theorem FrD.rf (m : Sg) : FrD m m := ⟨fun _ _ _ => rfl, fun _ _ _ => rfl⟩
theorem FrD.tr {a b c : Sg} (h1 : FrD a b) (h2 : FrD b c) : FrD a c := ⟨fun k x y => by rw [h2.1 k x y, h1.1 k x y], fun j x y => by rw [h2.2 j x y, h1.2 j x y]⟩
theorem FrS.D {a b : Sg} (h : FrS a b) : FrD a b := ⟨fun k x _ => h.1 k x, fun j _ y => h.2 j y⟩
theorem BkM.keepD {m m' : Sg} {N : Nat} {P P' : Nat → Nat → Int32} {D D' E : Int32} {co : Nat → List Int32} (h : BkM m N P D E co) (F : FrD m m') (hP : ∀ i, i < N → (∀ j, j < 6 → pvM m' i j = P' i j) ∧ PapOk (P' i)) (hD : m' 0 7 = D') : BkM m' N P' D' E co := by
  obtain ⟨h2, h3, h4, h5, h6, h7⟩ := h
  exact ⟨by rw [F.2 11 (by decide) (by omega)]; exact h2, h3, hP, hD, by rw [F.2 8 (by decide) (by omega)]; exact h6, h7.keep (F.2 4 (by decide) (by omega)) (F.1 1 (by decide) (by decide)) (F.1 2 (by decide) (by decide))⟩
theorem passM_L {m : Sg} {N : Nat} {P : Nat → Nat → Int32} {D E : Int32} {co : Nat → List Int32} {Q : Sg → Prop} (h : BkM m N P D E co) (hQ : ∀ m', FrD m m' → BkM m' N (pdP P D co) (D + 1) E co → Q m') : ∀ d i g, i + d = N → FrD m g → BkM g N (mxP P (pdP P D co) i) D E co → vv_X8_passes_L2 Q (d + 1) (nI i) g := by
  intro d
  have h8 := h.2.1
  induction d with
  | zero =>
    intro i g hi F hg
    have e : i = N := by omega
    subst e
    unfold vv_X8_passes_L2
    rw [hg.1]
    refine ⟨fun _ => ?_, fun z => absurd (Int32.le_refl _) z⟩
    rintro g' rfl
    have F' : FrD g (st g 0 7 (g 0 7 + 1)) := ⟨fun k hk _ => st_ne hk, fun j hj _ => st_off _ hj _⟩
    refine hQ _ (F.tr F') (hg.keepD F' (fun i hi => ?_) (by rw [st_on, hg.2.2.2.1]))
    rw [pv_st0]
    obtain ⟨f1, f2⟩ := hg.2.2.1 i hi
    refine ⟨fun j hj => ?_, pd_ok (h.2.2.1 i hi).2⟩
    rw [f1 j hj]; unfold mxP; rw [if_pos hi]
  | succ d ih =>
    intro i g hi F hg
    unfold vv_X8_passes_L2
    obtain ⟨f1, f2⟩ := hg.2.2.1 i (by omega)
    have em : ∀ j, mxP P (pdP P D co) i i j = P i j := fun j => by unfold mxP; rw [if_neg (by omega)]
    have pok := (h.2.2.1 i (by omega)).2
    have e3 : g 5 (5 * i + 3) = P i 4 := (pv_succ g i 3).symm.trans ((f1 4 (by decide)).trans (em 4))
    rw [hg.1, ix5_3, nI_clamp (by omega), e3]
    have go : ∀ g1 x, FrS g g1 → cl (P i 4 - x) 0 99 = pdP P D co i 4 → vv_X8_passes_J46 (vv_X8_passes_L2 Q (d + 1)) (nI i) (nI (5 * i + 3)) (P i 4) x g1 Q := by
      intro g1 x F1 hx
      unfold vv_X8_passes_J46
      refine h_within ⟨vp_in_nI (by omega) (by decide), ?_⟩
      rw [nI_clamp (by omega)]
      intro g2 e2 y ey
      rw [ey, nI_1, e2, hx]
      have F2 : FrD g (st g1 5 (5 * i + 3) (pdP P D co i 4)) := F1.D.tr ⟨fun k _ hk => st_ne hk, fun j _ _ => by rw [st_ne (by decide)]⟩
      refine ih _ _ (by omega) (F.tr F2) (hg.keepD F2 (fun k hk => ?_) (by rw [st_ne (by decide), F1.2 7 (by omega)]; exact hg.2.2.2.1))
      obtain ⟨k1, k2⟩ := hg.2.2.1 k hk
      refine ⟨fun j hj => ?_, mx_ok (h.2.2.1 k hk).2 (pd_ok (h.2.2.1 k hk).2)⟩
      rw [pv_st5 _ _ (by decide) _ hj, F1.pv, k1 j hj]
      by_cases w : k = i
      · subst w
        rw [em]
        rw [mx_new]
        by_cases wj : j = 4
        · rw [if_pos ⟨rfl, wj⟩, wj]
        · rw [if_neg (fun z => wj z.2)]
          unfold pdP; rw [if_neg (fun z => wj z.1)]
      · rw [if_neg (fun z => w z.1)]
        unfold mxP
        by_cases w' : k < i
        · rw [if_pos w', if_pos (by omega)]
        · rw [if_neg w', if_neg (by omega)]
    refine ⟨fun z => absurd z (nI_ge (by omega) (by omega)), fun _ => ⟨vp_in_nI (by omega) (by decide), h_isWhole (by omega) ?_⟩⟩
    have e4 : g 5 (5 * i + 4) = P i 5 := (pv_succ g i 4).symm.trans ((f1 5 (by decide)).trans (em 5))
    rw [e4]
    by_cases q : P i 5 = 0
    · rw [if_pos q]
      refine ⟨fun z => absurd z (by decide), fun _ => h_smoothsM (by omega) hg.2.2.2.2.2 (fun g1 F1 => go g1 _ F1 ?_)⟩
      rw [smS_congr (fun j hj => (f1 j hj).trans (em j)), hg.2.2.2.1]
      unfold pdP; rw [if_pos ⟨rfl, q⟩]
    · rw [if_neg q]
      refine ⟨fun _ => go g 0 (FrS.rf g) ?_, fun z => absurd rfl z⟩
      rw [cl_id pok.2.2.2.2.1]
      unfold pdP; rw [if_neg (fun z => q z.2)]
theorem h_passM {m : Sg} {N : Nat} {P : Nat → Nat → Int32} {D E : Int32} {co : Nat → List Int32} {Q : Sg → Prop} (h : BkM m N P D E co) (hQ : ∀ m', FrD m m' → BkM m' N (pdP P D co) (D + 1) E co → Q m') : vv_X8_passes m Q := by
  unfold vv_X8_passes
  rintro x rfl
  exact ⟨N + 1, passM_L h hQ N 0 m (by omega) (FrD.rf m) (by rw [mx_0]; exact h)⟩
/-- how many are smooth -/
def smF (P : Nat → Nat → Int32) (i : Nat) : Int32 := if P i 5 = 0 ∧ P i 4 = 0 then 1 else 0
theorem dayC_L {nt : Nat} {c : Sg} {N : Nat} {P : Nat → Nat → Int32} {D E : Int32} {co : Nat → List Int32} {Q : Int32 → Sg → Prop} (h : BkC nt c 1 N P D E co) (hQ : Q (sumN (smF P) N) c) : ∀ d i, i + d = N → vv_X7_day_L28 nt Q (d + 1) (sumN (smF P) i) (nI i) c := by
  intro d
  have h8 := h.2.2.1
  induction d with
  | zero =>
    intro i hi
    have e : i = N := by omega
    subst e
    unfold vv_X7_day_L28
    rw [h.2.1]
    exact ⟨fun _ => hQ, fun z => absurd (Int32.le_refl _) z⟩
  | succ d ih =>
    intro i hi
    unfold vv_X7_day_L28
    obtain ⟨f1, f2⟩ := h.2.2.2.1 i (by omega)
    rw [h.2.1, pp4 i (by omega), show c (26 + i) 4 = P i 4 from f1 4 (by decide), show c (26 + i) 5 = P i 5 from f1 5 (by decide)]
    have nx := ih (i + 1) (by omega)
    rw [sumN] at nx
    unfold vv_X7_day_J72
    refine ⟨fun z => absurd z (nI_ge (by omega) (by omega)), fun _ => ⟨vp_in_nI (by omega) (by decide), fun q => ?_, fun q => ⟨vp_in_nI (by omega) (by decide), fun w => ?_, fun w => ?_⟩⟩⟩
    · intro y ey
      rw [ey, nI_1]
      rw [smF, if_neg (fun z => q z.2), Int32.add_zero] at nx; exact nx
    · intro y ey
      rw [ey, nI_1]
      rw [smF, if_neg (fun z => w z.1), Int32.add_zero] at nx; exact nx
    · intro x ex y ey
      rw [ex, ey, nI_1]
      rw [smF, if_pos ⟨w, q⟩] at nx; exact nx
theorem dayM_L {m : Sg} {N : Nat} {P : Nat → Nat → Int32} {D E : Int32} {co : Nat → List Int32} {Q : Int32 → Sg → Prop} (h : BkM m N P D E co) (hQ : Q (sumN (smF P) N) m) : ∀ d i, i + d = N → vv_X8_day_L21 Q (d + 1) (sumN (smF P) i) (nI i) m := by
  intro d
  have h8 := h.2.1
  induction d with
  | zero =>
    intro i hi
    have e : i = N := by omega
    subst e
    unfold vv_X8_day_L21
    rw [h.1]
    exact ⟨fun _ => hQ, fun z => absurd (Int32.le_refl _) z⟩
  | succ d ih =>
    intro i hi
    unfold vv_X8_day_L21
    obtain ⟨f1, f2⟩ := h.2.2.1 i (by omega)
    have e3 : m 5 (5 * i + 3) = P i 4 := (pv_succ m i 3).symm.trans (f1 4 (by decide))
    have e4 : m 5 (5 * i + 4) = P i 5 := (pv_succ m i 4).symm.trans (f1 5 (by decide))
    rw [h.1]
    have nx := ih (i + 1) (by omega)
    rw [sumN] at nx
    unfold vv_X8_day_J55 vv_X8_day_J56
    refine ⟨fun z => absurd z (nI_ge (by omega) (by omega)), fun _ => h_isWhole (by omega) ?_⟩
    rw [e4, ix5_3, nI_clamp (by omega), e3]
    by_cases w : P i 5 = 0
    · rw [if_pos w]
      refine ⟨fun z => absurd z (by decide), fun _ => ⟨vp_in_nI (by omega) (by decide), fun q => ?_, fun q => ?_⟩⟩
      · intro x ex y ey
        rw [ex, ey, nI_1]
        rw [smF, if_neg (fun z => q z.2)] at nx; exact nx
      · intro x ex y ey
        rw [ex, ey, nI_1]
        rw [smF, if_pos ⟨w, q⟩] at nx; exact nx
    · rw [if_neg w]
      refine ⟨fun _ => ?_, fun z => absurd rfl z⟩
      intro x ex y ey
      rw [ex, ey, nI_1]
      rw [smF, if_neg (fun z => w z.1)] at nx; exact nx
theorem eq_day {m c : Sg} {nt : Nat} (h : Rel m c nt) : vv_X7_day nt c (fun r c' => vv_X8_day m (fun r' m' => r = r' ∧ Rel m' c' nt)) := by
  obtain ⟨N, P, D, E, co, hM, hC, hD, hE, h25⟩ := h.bk
  have h' := h
  obtain ⟨N', hp, hd, hr, ht, ha, hi, hs⟩ := h
  have eN : N' = N := (nI_eq (by have := hp.2.2.1; omega) (by have := hM.2.1; omega)).mp (hp.1.symm.trans hM.1)
  subst eN
  have k999 : (999 : Int32).toInt = 999 := by decide
  have d1 := i_le.mp hD.1
  have d2 := i_le.mp hD.2
  rw [i_0] at d1
  rw [k999] at d2
  unfold vv_X7_day
  rw [hC.2.2.2.2.1]
  refine ⟨fun q => h_passC hC (fun c' F hC' => ?_), fun q => ?_⟩
  · rintro a rfl b rfl
    refine ⟨N' + 1, dayC_L hC' ?_ N' 0 (by omega)⟩
    unfold vv_X8_day
    rw [hM.2.2.2.1]
    refine ⟨fun _ => h_passM hM (fun m' G hM' => ?_), fun z => absurd q (by rw [z]; decide)⟩
    rintro a rfl b rfl
    refine ⟨N' + 1, dayM_L hM' ⟨rfl, ?_⟩ N' 0 (by omega)⟩
    have h8 := hp.2.2.1
    have q' := i_lt.mp q
    rw [k999] at q'
    have dd : (D + 1).toInt = D.toInt + 1 := by rw [i_add (by rw [show (1 : Int32).toInt = 1 by decide]; omega), show (1 : Int32).toInt = 1 by decide]
    refine Rel.rows hp hr ht ha hi hs (fun k h0 h5 _ _ => G.1 k h0 h5) (fun j hj hj' => G.2 j hj (by omega)) (fun k k1 k2 k3 _ _ _ _ => F.1 k k1 (by omega) k3) F.2 ⟨hM'.1, hC'.2.1, h8, fun i hi => ?_⟩ ⟨by rw [hM'.2.2.2.1, hC'.2.2.2.2.1], ?_, by rw [hM'.2.2.2.2.1, hC'.2.2.2.2.2.1], by rw [hM'.2.2.2.2.1]; exact hE, by rw [F.1 25 (by decide) (by decide) (by decide)]; exact h25⟩
    · obtain ⟨a1, a2⟩ := hM'.2.2.1 i hi
      obtain ⟨b1, b2⟩ := hC'.2.2.2.1 i hi
      refine ⟨fun j hj => ?_, ?_⟩
      · rw [a1 j hj]; exact b1 j hj
      · unfold PapOk at *
        rw [a1 0 (by decide), a1 1 (by decide), a1 2 (by decide), a1 3 (by decide), a1 4 (by decide), a1 5 (by decide)]
        exact a2
    · rw [hM'.2.2.2.1]
      exact ⟨i_le.mpr (by rw [i_0, dd]; omega), i_le.mpr (by rw [k999, dd]; omega)⟩
  · unfold vv_X8_day
    have e : D = 999 := Int32.le_antisymm hD.2 (Int32.not_lt.mp q)
    rw [hM.2.2.2.1]
    exact ⟨fun z => absurd e z, fun _ => ⟨rfl, h'⟩⟩
