/-! ===== cell(), film(), papers() ===== -/
def cvS (t v : Int32) : Int32 := if t = 0 then v.toInt8.toInt32 else if t = 1 then v.toInt16.toInt32 else v
theorem h_sput {nt s i z : Nat} {v : Int32} {c : Sg} {Q : Sg → Prop} (hs : s < 4) (hz : c (14 + s) 1 = nI z) (h40 : z ≤ 40) (hi : i < z) (hQ : Q (st c (18 + s) i (cvS (c (14 + s) 0) v))) : vv_X3_put nt (14 + s) (nI i) v c Q := by
  unfold vv_X3_put
  rw [hz]
  refine ⟨⟨by omega, by omega⟩, fun q => absurd q (nI_pos (by omega)), fun _ => ⟨fun q => absurd q (nI_ge hi (by omega)), fun _ => ?_⟩⟩
  unfold vv_X3_put_J43
  rw [show 14 + s + 4 = 18 + s by omega, nI_clamp (by omega)]
  unfold cvS at hQ
  refine ⟨fun n0 => ⟨fun n1 => ⟨vp_in_nI (by omega) (by decide), ?_⟩, fun n1 => ⟨vp_in_nI (by omega) (by decide), ?_⟩⟩, fun n0 => ⟨vp_in_nI (by omega) (by decide), ?_⟩⟩
  · rintro g rfl; rw [if_neg n0, if_neg n1] at hQ; exact hQ
  · rintro g rfl; rw [if_neg n0, if_pos n1] at hQ; exact hQ
  · rintro g rfl; rw [if_pos n0] at hQ; exact hQ
theorem Rel.item {m c : Sg} {nt s i z : Nat} {v : Int32} (h : Rel m c nt) (hs : s < 4) (h9 : m 9 s = 1) (hz : c (14 + s) 1 = nI z) (h40 : z ≤ 40) (hi : i < z) : Rel (st m 12 (40 * s + i) v) (st c (18 + s) i v) nt := by
  refine h.sheets (fun k _ _ _ hk => st_ne (by omega)) (fun j _ => by rw [st_ne (by decide)]) (fun k hk _ _ _ _ _ => st_ne (by omega)) (by rw [st_ne (by omega)]) ?_
  obtain ⟨N, hp, hd, hr, ht, ha, hig, hsh⟩ := h
  refine hsh.put hs (fun r hr => ⟨by rw [st_ne (by decide)], by rw [st_ne (by decide)], by rw [st_ne (by decide)]⟩) (fun r j hr hj => by rw [st_off _ (by omega)]) (fun r hr hr' => ⟨st_ne (by omega), st_ne (by omega)⟩) ?_
  rw [st_ne (show (9 : Nat) ≠ 12 by decide), st_ne (show (10 : Nat) ≠ 12 by decide), st_ne (show (11 : Nat) ≠ 12 by decide), st_ne (show 14 + s ≠ 18 + s by omega)]
  rcases hsh s hs with ⟨q1, q2⟩ | ⟨q1, q2, q3, z', q4, q5, q6, q7⟩
  · exact absurd (h9.symm.trans q1) (by decide)
  · refine Or.inr ⟨q1, q2, q3, z', q4, q5, q6, fun j hj => ?_⟩
    rw [st_at, st_at]
    by_cases q : j = i
    · rw [if_pos (by omega), if_pos q]
    · rw [if_neg (by omega), if_neg q]; exact q7 j hj
theorem eq_cell {m c : Sg} {nt : Nat} (h : Rel m c nt) (x1 x2 x3 : Int32) : vv_X7_cell nt x1 x2 x3 c (fun r c' => vv_X8_cell x1 x2 x3 m (fun r' m' => r = r' ∧ Rel m' c' nt)) := by
  have h' := h
  obtain ⟨N, hp, hd, hr, ht, ha, hig, hsh⟩ := h
  unfold vv_X7_cell
  refine h_isSheetC (fun s hs e => ⟨fun _ => ?_, fun z => absurd z (by decide)⟩) (fun no => ⟨fun z => absurd rfl z, fun _ => ?_⟩)
  · subst e
    rw [ss_nI (by omega)]
    refine ⟨vp_in_nI hs (by decide), ?_⟩
    unfold vv_X8_cell
    rcases hsh s hs with ⟨q1, q2⟩ | ⟨q1, q2, q3, z, q4, q5, q6, q7⟩
    · refine ⟨fun q => absurd q2 q, fun _ => h_isSheetM (fun s' hs' e => ⟨fun _ => ⟨vp_in_nI hs (by decide), ?_⟩, fun z => absurd z (by decide)⟩) (fun no => absurd ⟨s, hs, rfl⟩ no)⟩
      rw [nI_clamp (by omega)]
      exact ⟨fun q => absurd q1 q, fun _ => ⟨rfl, h'⟩⟩
    · have out : ¬ (∃ i, i < z ∧ x2 = nI i) → ¬ ((0 : Int32) ≤ x2 ∧ x2 ≤ nI z - 1) := by
        rintro no ⟨a, b⟩
        rcases Nat.eq_zero_or_pos z with e | e
        · subst e; exact absurd (Int32.le_trans a b) (by decide)
        · rw [nI_sub1 e] at b
          obtain ⟨i, hi, rfl⟩ := rng_nI (n := z - 1) (by omega) ⟨a, b⟩
          exact no ⟨i, by omega, rfl⟩
      have bad : ¬ (∃ i, i < z ∧ x2 = nI i) → vv_X8_isSheet (nI s) m (fun r_2 g_1 => ((¬ r_2 = 0) → (vp_in (nI s) 4 ∧ (((¬ (g_1 9 (nI s).toNatClampNeg) = 0) → (vp_in (nI s) 4 ∧ (vv_X8_in (x2.toInt64) (0 : Int64) (((g_1 11 (nI s).toNatClampNeg) - (1 : Int32)).toInt64) g_1 (fun r_6 g_5 => ((¬ r_6 = 0) → (vp_in (nI s) 4 ∧ (((¬ (g_5 10 (nI s).toNatClampNeg) = 0) → (vp_in (nI s) 4 ∧ (((¬ (g_5 10 (nI s).toNatClampNeg) = (1 : Int32)) → (vv_X8_cell_J83 (((40 : Int32) * (nI s)) + x2) x3 g_5 (fun r' m' => -12 = r' ∧ Rel m' c nt))) ∧ (((g_5 10 (nI s).toNatClampNeg) = (1 : Int32)) → (vv_X8_cell_J83 (((40 : Int32) * (nI s)) + x2) (x3.toInt16.toInt32) g_5 (fun r' m' => -12 = r' ∧ Rel m' c nt)))))) ∧ (((g_5 10 (nI s).toNatClampNeg) = 0) → (vv_X8_cell_J83 (((40 : Int32) * (nI s)) + x2) (x3.toInt8.toInt32) g_5 (fun r' m' => -12 = r' ∧ Rel m' c nt)))))) ∧ ((r_6 = 0) → (-12 = (-12 : Int32) ∧ Rel g_5 c nt)))))) ∧ (((g_1 9 (nI s).toNatClampNeg) = 0) → (-12 = (-11 : Int32) ∧ Rel g_1 c nt))))) ∧ ((r_2 = 0) → (-12 = (-2 : Int32) ∧ Rel g_1 c nt))) := by
        intro no
        refine h_isSheetM (fun s' hs' e => ⟨fun _ => ⟨vp_in_nI hs (by decide), ?_⟩, fun z => absurd z (by decide)⟩) (fun no => absurd ⟨s, hs, rfl⟩ no)
        rw [nI_clamp (by omega)]
        refine ⟨fun _ => ⟨vp_in_nI hs (by decide), h_in (l := 0) (h := nI z - 1) rfl (by rw [q5]) ?_⟩, fun q => absurd (q1.symm.trans q) (by decide)⟩
        rw [if_neg (out no)]
        exact ⟨fun q => absurd rfl q, fun _ => ⟨rfl, h'⟩⟩
      refine ⟨fun _ => ⟨fun q => bad ?_, fun n0 => ⟨fun q => ?_, fun q => bad ?_⟩⟩, fun q => ?_⟩
      · rintro ⟨i, hi, rfl⟩; exact absurd q (nI_pos (by omega))
      · obtain ⟨i, hi, rfl⟩ := nI_of n0
        rw [q6] at q
        have hiz := (nI_ltI hi (by omega)).mp q
        refine h_sput hs q6 q4 hiz ?_
        refine h_isSheetM (fun s' hs' e => ⟨fun _ => ⟨vp_in_nI hs (by decide), ?_⟩, fun z => absurd z (by decide)⟩) (fun no => absurd ⟨s, hs, rfl⟩ no)
        rw [nI_clamp (by omega)]
        refine ⟨fun _ => ⟨vp_in_nI hs (by decide), h_in (l := 0) (h := nI z - 1) rfl (by rw [q5]) ?_⟩, fun q => absurd (q1.symm.trans q) (by decide)⟩
        rw [if_pos (by rw [nI_sub1 (by omega)]; exact ⟨nI_pos' (by omega), nI_le (by omega) (by omega)⟩)]
        have fin : ∀ v, v = cvS (c (14 + s) 0) x3 → vv_X8_cell_J83 (nI (40 * s + i)) v m (fun r' m' => 1 = r' ∧ Rel m' (st c (18 + s) i (cvS (c (14 + s) 0) x3)) nt) := by
          rintro v rfl
          unfold vv_X8_cell_J83
          refine ⟨vp_in_nI (by omega) (by decide), ?_⟩
          rintro g rfl
          rw [nI_clamp (by omega)]
          exact ⟨rfl, h'.item hs q1 q6 q4 hiz⟩
        refine ⟨fun _ => ⟨vp_in_nI hs (by decide), fun n1 => ⟨vp_in_nI hs (by decide), fun n2 => ?_, fun n2 => ?_⟩, fun n1 => ?_⟩, fun q => absurd q (by decide)⟩
        · rw [ix40]; exact fin _ (by rw [← q2]; unfold cvS; rw [if_neg n1, if_neg n2])
        · rw [ix40]; exact fin _ (by rw [← q2]; unfold cvS; rw [if_neg n1, if_pos n2])
        · rw [ix40]; exact fin _ (by rw [← q2]; unfold cvS; rw [if_pos n1])
      · rintro ⟨i, hi, rfl⟩; exact q (by rw [q6]; exact nI_lt hi (by omega))
      · rw [← q2] at q
        rcases q3 with w | w | w <;> exact absurd (w.symm.trans q) (by decide)
  · unfold vv_X8_cell
    exact h_isSheetM (fun s hs e => absurd ⟨s, hs, e⟩ no) (fun _ => ⟨fun z => absurd rfl z, fun _ => ⟨rfl, h'⟩⟩)
/-- what a rule needs -/
theorem RuC.keep {nt : Nat} {c c' : Sg} {B : Nat} {cods : Nat → List Int32} (hr : RuC nt c B cods) (h12 : c' 12 = c 12) (hB : c' B 1 = c B 1) (hk : ∀ k, 50 ≤ k → k % 3 ≠ 1 → c' k = c k) : RuC nt c' B cods := by
  obtain ⟨r, a1, a2, a3, a4⟩ := hr
  have e := tx_keep h12 (nI r)
  have t1 := a3.1
  have t2 := a3.2.1
  exact ⟨r, a1, by rw [hB]; exact a2, by rw [e]; exact a3, by rw [e]; exact a4.keep (hk _ (by omega) (by omega)) (hk _ (by omega) (by omega))⟩
theorem sgn8 (x : Int32) : (sgn x).toInt8.toInt32 = sgn x := by
  unfold sgn
  split
  · split <;> decide
  · decide
def fmF (f : Nat → Int32) (d : Int32) (cods : Nat → List Int32) (t : Nat) : Int32 := if vtS f (nI t) d cods = 0 then 0 else 1
theorem filmC_L {nt i s : Nat} {c : Sg} {cods : Nat → List Int32} {Q : Int32 → Sg → Prop} (hs : s < 4) (hi : i < 8) (hR : RuC nt c 1 cods) (hz : c (14 + s) 1 = nI 8) (h0 : c (14 + s) 0 = 0) (hQ : ∀ c', (∀ k, k ≠ 18 + s → (k < 50 ∨ k % 3 ≠ 1) → c' k = c k) → (∀ t, t < 8 → c' (18 + s) t = vtS (c (26 + i)) (nI t) (c 1 0) cods) → Q (sumN (fmF (c (26 + i)) (c 1 0) cods) 8) c') : ∀ d t g a, t + d = 8 → (∀ k, k ≠ 18 + s → (k < 50 ∨ k % 3 ≠ 1) → g k = c k) → (∀ j, j < t → g (18 + s) j = vtS (c (26 + i)) (nI j) (c 1 0) cods) → a = sumN (fmF (c (26 + i)) (c 1 0) cods) t → vv_X7_film_L38 nt Q (d + 1) (nI i) (14 + s) a (nI t) g := by
  intro d
  induction d with
  | zero =>
    intro t g a ht h1 h2 ha
    have e : t = 8 := by omega
    subst e
    unfold vv_X7_film_L38
    exact ⟨fun _ => by rw [ha]; exact hQ g h1 h2, fun z => absurd (show (8 : Int32) ≤ nI 8 from by decide) z⟩
  | succ d ih =>
    intro t g a ht h1 h2 ha
    unfold vv_X7_film_L38
    refine ⟨fun z => absurd z (nI_ge (b := 8) (by omega) (by omega)), fun _ => ⟨vp_in_nI hi (by decide), ?_⟩⟩
    obtain ⟨r, a1, a2, a3, a4⟩ := hR.keep (c' := g) (h1 12 (by omega) (by omega)) (by rw [h1 1 (by omega) (by omega)]) (fun k hk hk' => h1 k (by omega) (by omega))
    rw [a2]
    refine h_textOf a1 a3 ⟨a3, ?_⟩
    rw [pp4 i (by omega)]
    refine h_voteC a3 (isP_now hi) a4 (par_nI t (by omega)) (fun g' F => ?_)
    rw [h1 (26 + i) (by omega) (by omega), h1 1 (by omega) (by omega)]
    rintro y rfl
    refine h_sput (z := 8) (i := t) hs (by rw [F _ (by omega), h1 _ (by omega) (by omega)]; exact hz) (by omega) (by omega) ?_
    rw [F (14 + s) (by omega), h1 (14 + s) (by omega) (by omega), h0]
    have ev : cvS 0 (vtS (c (26 + i)) (nI t) (c 1 0) cods) = vtS (c (26 + i)) (nI t) (c 1 0) cods := by
      unfold cvS vtS; rw [if_pos rfl]; exact sgn8 _
    rw [ev]
    have go : ∀ b, b = fmF (c (26 + i)) (c 1 0) cods t → vv_X7_film_J99 nt (vv_X7_film_L38 nt Q (d + 1)) (nI i) (14 + s) (nI t) a b (st g' (18 + s) t (vtS (c (26 + i)) (nI t) (c 1 0) cods)) Q := by
      rintro b rfl
      unfold vv_X7_film_J99
      rintro a' rfl j rfl
      rw [nI_1]
      refine ih _ _ _ (by omega) (fun k hk hk' => by rw [st_ne hk, F k hk']; exact h1 k hk hk') (fun j hj => ?_) (by rw [ha]; rfl)
      rw [st_at]
      by_cases q : j = t
      · rw [if_pos q, q]
      · rw [if_neg q, F _ (by omega)]; exact h2 j (by omega)
    exact ⟨fun z => go 1 (by unfold fmF; rw [if_neg z]), fun z => go 0 (by unfold fmF; rw [if_pos z])⟩
theorem filmM_L {i s : Nat} {m : Sg} {cods : Nat → List Int32} {Q : Int32 → Sg → Prop} (hs : s < 4) (hi : i < 8) (hR : RuM m cods) (hQ : ∀ m', (∀ k, k ≠ 0 → k ≠ 12 → m' k = m k) → (∀ j, (j < 12 ∨ 26 < j) → m' 0 j = m 0 j) → (∀ j, m' 12 j = if 40 * s ≤ j ∧ j < 40 * s + 8 then vtS (pvM m i) (nI (j - 40 * s)) (m 0 7) cods else m 12 j) → Q (sumN (fmF (pvM m i) (m 0 7) cods) 8) m') : ∀ d t g a, t + d = 8 → (∀ k, k ≠ 0 → k ≠ 12 → g k = m k) → (∀ j, (j < 12 ∨ 26 < j) → g 0 j = m 0 j) → (∀ j, g 12 j = if 40 * s ≤ j ∧ j < 40 * s + t then vtS (pvM m i) (nI (j - 40 * s)) (m 0 7) cods else m 12 j) → a = sumN (fmF (pvM m i) (m 0 7) cods) t → vv_X8_film_L32 Q (d + 1) (nI s) (nI i) a (nI t) g := by
  intro d
  induction d with
  | zero =>
    intro t g a ht h1 h0 h2 ha
    have e : t = 8 := by omega
    subst e
    unfold vv_X8_film_L32
    exact ⟨fun _ => by rw [ha]; exact hQ g h1 h0 h2, fun z => absurd (show (8 : Int32) ≤ nI 8 from by decide) z⟩
  | succ d ih =>
    intro t g a ht h1 h0 h2 ha
    unfold vv_X8_film_L32
    refine ⟨fun z => absurd z (nI_ge (b := 8) (by omega) (by omega)), fun _ => h_voteM hi (hR.keep (h0 4 (by omega)) (h1 1 (by decide) (by decide)) (h1 2 (by decide) (by decide))) (fun g' F => ?_)⟩
    have epv : pvM g i = pvM m i := by funext j; unfold pvM; rw [h1 4 (by decide) (by decide), h1 5 (by decide) (by decide)]
    rw [epv, h0 7 (by omega), ix40, nI_clamp (by omega)]
    refine ⟨vp_in_nI (by omega) (by decide), ?_⟩
    rintro g2 rfl
    rw [st_on]
    refine ⟨vp_in_nI (by omega) (by decide), ?_⟩
    have go : ∀ b, b = fmF (pvM m i) (m 0 7) cods t → vv_X8_film_J79 (vv_X8_film_L32 Q (d + 1)) (nI s) (nI i) (nI t) a b (st g' 12 (40 * s + t) (vtS (pvM m i) (nI t) (m 0 7) cods)) Q := by
      rintro b rfl
      unfold vv_X8_film_J79
      rintro a' rfl j rfl
      rw [nI_1]
      refine ih _ _ _ (by omega) (fun k hk hk' => by rw [st_ne hk', F.1 k hk]; exact h1 k hk hk') (fun j hj => by rw [st_ne (by decide), F.2 j hj]; exact h0 j hj) (fun j => ?_) (by rw [ha]; rfl)
      rw [st_at]
      by_cases q : j = 40 * s + t
      · rw [if_pos q, if_pos (by omega), q]
        rw [show 40 * s + t - 40 * s = t by omega]
      · rw [if_neg q, F.1 12 (by decide), h2 j]
        by_cases q' : 40 * s ≤ j ∧ j < 40 * s + t
        · rw [if_pos q', if_pos (by omega)]
        · rw [if_neg q', if_neg (by omega)]
    exact ⟨fun z => go 1 (by unfold fmF; rw [if_neg z]), fun z => go 0 (by unfold fmF; rw [if_pos z])⟩

theorem eq_film {m c : Sg} {nt : Nat} (h : Rel m c nt) (x1 x2 : Int32) : vv_X7_film nt x1 x2 c (fun r c' => vv_X8_film x1 x2 m (fun r' m' => r = r' ∧ Rel m' c' nt)) := by
  have h' := h
  obtain ⟨cods, hM, hC⟩ := h.rule
  obtain ⟨N, hp, hd, hr, ht, ha, hig, hsh⟩ := h
  have h8 := hp.2.2.1
  have bad : ((¬ ∃ s, s < 4 ∧ x1 = nI s) ∨ ¬ ∃ i, i < N ∧ x2 = nI i) → vv_X8_film x1 x2 m (fun r' m' => -2 = r' ∧ Rel m' c nt) := fun z => by
    unfold vv_X8_film
    exact h_isSheetM (fun s hs e => ⟨fun z => absurd z (by decide), fun _ => h_isOne hp.1 h8 (fun i hi e' => absurd z (fun q => q.elim (fun q => q ⟨s, hs, e⟩) (fun q => q ⟨i, hi, e'⟩))) (fun _ => ⟨fun z => absurd rfl z, fun _ => ⟨rfl, h'⟩⟩)⟩) (fun _ => ⟨fun _ => ⟨rfl, h'⟩, fun z => absurd rfl z⟩)
  unfold vv_X7_film
  refine h_isSheetC (fun s hs e => ⟨fun z => absurd z (by decide), fun _ => h_isPaper hp.2.1 h8 (fun i hi e' => ⟨fun _ => ?_, fun z => absurd z (by decide)⟩) (fun no => ⟨fun z => absurd rfl z, fun _ => bad (Or.inr no)⟩)⟩) (fun no => ⟨fun _ => bad (Or.inl no), fun z => absurd rfl z⟩)
  subst e; subst e'
  rw [ss_nI (by omega)]
  refine ⟨vp_in_nI hs (by decide), h_sbec hs (fun c1 hC1 => ?_)⟩
  rintro a rfl b rfl
  have hR1 : RuC nt c1 1 cods := hC.keep (hC1.1 12 (by omega) (by omega)) (by rw [hC1.1 1 (by omega) (by omega)]) (fun k _ _ => hC1.1 k (by omega) (by omega))
  refine ⟨9, filmC_L hs (by omega) hR1 hC1.2.2.1 hC1.2.1 (fun c' k1 k2 => ?_) 8 0 c1 0 (by omega) (fun _ _ _ => rfl) (fun j hj => absurd hj (by omega)) rfl⟩
  unfold vv_X8_film
  refine h_isSheetM (fun s' hs' e => ⟨fun z => absurd z (by decide), fun _ => h_isOne hp.1 h8 (fun i' hi' e' => ⟨fun _ => ?_, fun z => absurd z (by decide)⟩) (fun no => absurd ⟨i, hi, rfl⟩ no)⟩) (fun no => absurd ⟨s, hs, rfl⟩ no)
  unfold vv_X8_sheet
  refine h_isSheetM (fun s' hs' e => ⟨fun z => absurd z (by decide), fun _ => ?_⟩) (fun no => absurd ⟨s, hs, rfl⟩ no)
  refine h_in (l := -1) (h := 2) rfl rfl ?_
  rw [if_pos (by decide)]
  refine ⟨fun z => absurd z (by decide), fun _ => ⟨fun q => absurd q (by decide), fun _ => ⟨fun _ => shM_J (n := 8) hs (by decide) (by decide) (fun m1 hM1 => ?_), fun q => absurd (by decide) q⟩⟩⟩
  rintro a rfl b rfl
  have hR2 : RuM m1 cods := hM.keep (by rw [hM1.1 0 (by decide)]) (hM1.1 1 (by decide)) (hM1.1 2 (by decide))
  refine ⟨9, filmM_L hs (by omega) hR2 (fun m' b1 b0 b2 => ?_) 8 0 m1 0 (by omega) (fun _ _ _ => rfl) (fun _ _ => rfl) (fun j => by rw [if_neg (by omega)]) rfl⟩
  obtain ⟨f1, f2⟩ := hp.2.2.2 i hi
  have epv : pvM m1 i = pvM m i := by funext j; unfold pvM; rw [hM1.1 4 (by decide), hM1.1 5 (by decide)]
  have ed : m1 0 7 = c1 1 0 := by rw [hM1.1 0 (by decide), hC1.1 1 (by omega) (by omega)]; exact hd.1
  have ef : ∀ j, j < 6 → c1 (26 + i) j = pvM m1 i j := fun j hj => by rw [epv, hC1.1 _ (by omega) (by omega)]; exact f1 j hj
  have ev : ∀ t : Int32, vtS (c1 (26 + i)) t (c1 1 0) cods = vtS (pvM m1 i) t (m1 0 7) cods := fun t => by rw [vtS_congr ef, ed]
  have h1 := h'.shM (x := 0) hs (by decide) (Or.inl rfl) hM1 hC1
  refine ⟨?_, h1.sheets (fun k hk _ _ hk' => b1 k hk (by omega)) (fun j hj => b0 j (by omega)) (fun k hk hk' _ _ _ _ => k1 k (by omega) hk') (by rw [k1 25 (by omega) (by omega)]) ?_⟩
  · congr 1
    funext t
    unfold fmF
    rw [ev]
  · obtain ⟨N', -, -, -, -, -, -, hsh1⟩ := h1
    refine hsh1.put hs (fun r hr => ⟨by rw [b1 9 (by decide) (by decide)], by rw [b1 10 (by decide) (by decide)], by rw [b1 11 (by decide) (by decide)]⟩) (fun r i hr hi => by rw [b2, if_neg (by omega)]) (fun r hr hr' => ⟨k1 _ (by omega) (by omega), k1 _ (by omega) (by omega)⟩) (Or.inr ⟨by rw [b1 9 (by decide) (by decide), hM1.2.1, if_pos rfl], by rw [b1 10 (by decide) (by decide), hM1.2.2.1, if_pos rfl, k1 _ (by omega) (by omega), hC1.2.1], by rw [b1 10 (by decide) (by decide), hM1.2.2.1, if_pos rfl]; exact Or.inl rfl, 8, by decide, by rw [b1 11 (by decide) (by decide), hM1.2.2.2.1, if_pos rfl], by rw [k1 _ (by omega) (by omega)]; exact hC1.2.2.1, fun t ht => ?_⟩)
    rw [b2, if_pos (by omega), k2 t ht, ev, show 40 * s + t - 40 * s = t by omega]
