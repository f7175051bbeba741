/-! ===== sheet(), cell() ===== -/
theorem h_isSheetC {nt : Nat} {c : Sg} {x : Int32} {Q : Int32 → Sg → Prop} (h1 : ∀ s, s < 4 → x = nI s → Q 1 c) (h0 : (¬ ∃ s, s < 4 ∧ x = nI s) → Q 0 c) : vv_X7_isSheet nt x c Q := by
  unfold vv_X7_isSheet
  refine ⟨fun z => h0 ?_, fun z => ⟨fun y => h0 ?_, fun y => ?_⟩⟩
  · rintro ⟨i, hi, rfl⟩; exact absurd z (nI_pos (by omega))
  · rintro ⟨i, hi, rfl⟩; exact absurd y (nI_ge (b := 4) hi (by omega))
  · obtain ⟨j, hj, rfl⟩ := nI_of z
    exact h1 j (Nat.lt_of_not_le (fun q => y (nI_le (a := 4) q hj))) rfl
theorem h_isSheetM {m : Sg} {x : Int32} {Q : Int32 → Sg → Prop} (h1 : ∀ s, s < 4 → x = nI s → Q 1 m) (h0 : (¬ ∃ s, s < 4 ∧ x = nI s) → Q 0 m) : vv_X8_isSheet x m Q := by
  unfold vv_X8_isSheet
  refine h_in (l := 0) (h := 3) rfl rfl ?_
  by_cases h : (0 : Int32) ≤ x ∧ x ≤ 3
  · rw [if_pos h]
    obtain ⟨a, ha, e⟩ := rng_nI (n := 3) (by decide) h
    exact ⟨Or.inr rfl, h1 a (by omega) e⟩
  · rw [if_neg h]
    refine ⟨Or.inl rfl, h0 ?_⟩
    rintro ⟨i, hi, rfl⟩
    exact h ⟨nI_pos' (by omega), nI_le (b := 3) (by omega) (by omega)⟩
/-- sheets have changed, and what is free -/
theorem Rel.sheets {m m' c c' : Sg} {nt : Nat} (h : Rel m c nt) (hm : ∀ k, k ≠ 0 → k ≠ 6 → k ≠ 7 → ¬ (9 ≤ k ∧ k ≤ 12) → m' k = m k) (hm0 : ∀ j, (j < 12 ∨ 30 < j) → m' 0 j = m 0 j) (hc : ∀ k, ¬ (14 ≤ k ∧ k < 22) → (k < 50 ∨ k % 3 ≠ 1) → k ≠ 3 → k ≠ 7 → ¬ (22 ≤ k ∧ k ≤ 25) → ¬ (42 ≤ k ∧ k ≤ 49) → c' k = c k) (h25 : c' 25 0 = c 25 0) (hs' : Rsht m' c') : Rel m' c' nt := by
  obtain ⟨N, hp, hd, hr, ht, ha, hi, hs⟩ := h
  refine ⟨N, hp.keep (hm0 11 (by omega)) (hm 4 (by decide) (by decide) (by decide) (by decide)) (hm 5 (by decide) (by decide) (by decide) (by decide)) (by rw [hc 1 (by decide) (by decide) (by decide) (by decide) (by decide) (by decide)]) (fun i hi => hc _ (by omega) (by omega) (by omega) (by omega) (by omega) (by omega)), hd.keep (hm0 7 (by omega)) (hm0 8 (by omega)) (by rw [hc 1 (by decide) (by decide) (by decide) (by decide) (by decide) (by decide)]) (by rw [hc 1 (by decide) (by decide) (by decide) (by decide) (by decide) (by decide)]) h25, hr.keep (hm0 4 (by omega)) (by rw [hc 1 (by decide) (by decide) (by decide) (by decide) (by decide) (by decide)]), ht.keep (hm0 3 (by omega)) (hm 1 (by decide) (by decide) (by decide) (by decide)) (hm 2 (by decide) (by decide) (by decide) (by decide)) (by rw [hc 0 (by decide) (by decide) (by decide) (by decide) (by decide) (by decide)]) (hc 12 (by decide) (by decide) (by decide) (by decide) (by decide) (by decide)) (fun k h1 h2 => hc k (by omega) (by omega) (by omega) (by omega) (by omega) (by omega)), ha.keep (hm0 6 (by omega)) (hm 3 (by decide) (by decide) (by decide) (by decide)) (by rw [hc 8 (by decide) (by decide) (by decide) (by decide) (by decide) (by decide)]) (hc 9 (by decide) (by decide) (by decide) (by decide) (by decide) (by decide)), hi.keep (Nat.le_refl N) (fun j h1 h2 => hm0 j (by omega)) (fun i hi => by rw [hm 4 (by decide) (by decide) (by decide) (by decide)]) (hm 8 (by decide) (by decide) (by decide) (by decide)) (by rw [hc 0 (by decide) (by decide) (by decide) (by decide) (by decide) (by decide)]) (hc 2 (by decide) (by decide) (by decide) (by decide) (by decide) (by decide)) (fun i hi => hc _ (by omega) (by omega) (by omega) (by omega) (by omega) (by omega)) hp.2.2.1, hs'⟩
def ShM (m : Sg) (s : Nat) (t x y : Int32) (n : Nat) (m' : Sg) : Prop := (∀ k, ¬ (9 ≤ k ∧ k ≤ 12) → m' k = m k) ∧ (∀ j, m' 9 j = if j = s then t else m 9 j) ∧ (∀ j, m' 10 j = if j = s then x else m 10 j) ∧ (∀ j, m' 11 j = if j = s then y else m 11 j) ∧ ∀ j, m' 12 j = if 40 * s ≤ j ∧ j < 40 * s + n then 0 else m 12 j
theorem ix40 (s j : Nat) : (40 : Int32) * nI s + nI j = nI (40 * s + j) := by rw [show (40 : Int32) = nI 40 from rfl, pk_mul, nI_add]
theorem shM_L {m : Sg} {s n : Nat} {t x : Int32} {Q : Int32 → Sg → Prop} (hs : s < 4) (hn : n ≤ 40) (hx : ¬ x < 0) (hQ : ∀ m', ShM m s t x (nI n) n m' → Q 1 m') : ∀ d i g, i + d = n → ShM m s t x (nI n) i g → vv_X8_sheet_L77 Q (d + 1) (nI s) x (nI n) (nI i) g := by
  intro d
  induction d with
  | zero =>
    intro i g hi hg
    have e : i = n := by omega
    subst e
    unfold vv_X8_sheet_L77
    exact ⟨fun _ => hQ g hg, fun z => absurd (Int32.le_refl _) z⟩
  | succ d ih =>
    intro i g hi hg
    unfold vv_X8_sheet_L77
    rw [ix40, nI_clamp (by omega)]
    refine ⟨fun z => absurd z (nI_ge (by omega) (by omega)), fun _ => ⟨fun z => absurd z hx, fun _ => ⟨vp_in_nI (by omega) (by decide), ?_⟩⟩⟩
    rintro g' rfl j rfl
    rw [nI_1]
    refine ih _ _ (by omega) ⟨fun k hk => by rw [st_ne (by omega)]; exact hg.1 k hk, by rw [st_ne (by decide)]; exact hg.2.1, by rw [st_ne (by decide)]; exact hg.2.2.1, by rw [st_ne (by decide)]; exact hg.2.2.2.1, fun j => ?_⟩
    rw [st_at]
    by_cases q : j = 40 * s + i
    · rw [if_pos q, if_pos (by omega)]
    · rw [if_neg q, hg.2.2.2.2 j]
      by_cases q' : 40 * s ≤ j ∧ j < 40 * s + i
      · rw [if_pos q', if_pos (by omega)]
      · rw [if_neg q', if_neg (by omega)]
theorem shM_0 {m : Sg} {s : Nat} {t x y : Int32} : ShM m s t x y 0 (st (st (st m 9 s t) 10 s x) 11 s y) := by
  refine ⟨fun k hk => by rw [st_ne (by omega), st_ne (by omega), st_ne (by omega)], fun j => ?_, fun j => ?_, fun j => ?_, fun j => ?_⟩
  · rw [st_ne (by decide), st_ne (by decide), st_at]
  · rw [st_ne (by decide), st_at, st_ne (by decide)]
  · rw [st_at, st_ne (by decide), st_ne (by decide)]
  · rw [st_ne (by decide), st_ne (by decide), st_ne (by decide), if_neg (by omega)]
theorem shM_J {m : Sg} {s n : Nat} {x : Int32} {Q : Int32 → Sg → Prop} (hs : s < 4) (hn : n ≤ 40) (hx : ¬ x < 0) (hQ : ∀ m', ShM m s 1 x (nI n) n m' → Q 1 m') : vv_X8_sheet_J34 (nI s) x (nI n) m Q := by
  unfold vv_X8_sheet_J34 vv_X8_sheet_J45 vv_X8_sheet_J59
  refine ⟨fun z => absurd z hx, fun _ => ⟨fun _ => ⟨fun z => absurd z hx, fun _ => ⟨vp_in_nI hs (by decide), Or.inr rfl, ?_⟩⟩, fun z => absurd (nI_pos' (by omega)) z⟩⟩
  rintro g1 rfl
  refine ⟨vp_in_nI hs (by decide), ?_⟩
  rintro g2 rfl
  refine ⟨vp_in_nI hs (by decide), ?_⟩
  rintro g3 rfl j rfl
  rw [nI_clamp (by omega)]
  exact ⟨n + 1, shM_L hs hn hx hQ n 0 _ (by omega) shM_0⟩
theorem shM_neg {m : Sg} {s : Nat} {y : Int32} {Q : Int32 → Sg → Prop} (hs : s < 4) (hQ : ∀ m', ShM m s 0 (-1) y 0 m' → Q 1 m') : vv_X8_sheet_J34 (nI s) (-1) y m Q := by
  unfold vv_X8_sheet_J34 vv_X8_sheet_J45 vv_X8_sheet_J59
  refine ⟨fun _ => ⟨fun _ => ⟨vp_in_nI hs (by decide), Or.inl rfl, ?_⟩, fun z => absurd (show (-1 : Int32) < 0 by decide) z⟩, fun z => absurd (show (-1 : Int32) < 0 by decide) z⟩
  rintro g1 rfl
  refine ⟨vp_in_nI hs (by decide), ?_⟩
  rintro g2 rfl
  refine ⟨vp_in_nI hs (by decide), ?_⟩
  rintro g3 rfl j rfl
  rw [nI_clamp (by omega)]
  refine ⟨1, ?_⟩
  unfold vv_X8_sheet_L77
  exact ⟨fun _ => hQ _ shM_0, fun _ => ⟨fun _ => hQ _ shM_0, fun z => absurd (show (-1 : Int32) < 0 by decide) z⟩⟩
theorem fil_L {nt K : Nat} {v : Int32} {g0 : Sg} {Q : Sg → Prop} (hQ : ∀ g, (∀ k, k ≠ K → g k = g0 k) → (∀ j, j < 40 → g K j = v) → Q g) : ∀ d i g, i + d = 40 → (∀ k, k ≠ K → g k = g0 k) → (∀ j, j < i → g K j = v) → vv_J7_fill_53178_L5 nt Q (d + 1) K v (nI i) 40 g := by
  intro d
  induction d with
  | zero =>
    intro i g hi h1 h2
    have e : i = 40 := by omega
    subst e
    unfold vv_J7_fill_53178_L5
    exact ⟨fun _ => hQ g h1 h2, fun z => absurd (show (40 : Int32) ≤ nI 40 from by decide) z⟩
  | succ d ih =>
    intro i g hi h1 h2
    unfold vv_J7_fill_53178_L5
    refine ⟨fun z => absurd z (nI_ge (b := 40) (by omega) (by omega)), fun _ => ⟨vp_in_nI (by omega) (by decide), ?_⟩⟩
    rintro g' rfl j rfl
    rw [nI_1, nI_clamp (by omega)]
    refine ih _ _ (by omega) (fun k hk => by rw [st_ne hk]; exact h1 k hk) (fun j hj => ?_)
    rw [st_at]
    by_cases q : j = i
    · rw [if_pos q]
    · rw [if_neg q]; exact h2 j (by omega)
def ShC (c : Sg) (s : Nat) (x y : Int32) (c' : Sg) : Prop := (∀ k, k ≠ 14 + s → k ≠ 18 + s → c' k = c k) ∧ c' (14 + s) 0 = x ∧ c' (14 + s) 1 = y ∧ ∀ j, j < 40 → c' (18 + s) j = 0
theorem ss_nI {s : Nat} (h : s < 2 ^ 31) : ss (nI s) = 14 + s := by unfold ss; rw [nI_clamp h]
theorem h_sbec {nt s : Nat} {x y : Int32} {c : Sg} {Q : Sg → Prop} (hs : s < 4) (hQ : ∀ c', ShC c s x y c' → Q c') : vv_X3_become nt (14 + s) x y c Q := by
  unfold vv_X3_become
  refine ⟨⟨by omega, by omega⟩, ?_⟩
  rintro g1 rfl g2 rfl
  unfold vv_J7_fill_53178
  refine ⟨⟨by omega, by omega⟩, ?_⟩
  rintro a rfl b rfl
  refine ⟨41, fil_L (fun g h1 h2 => hQ g ⟨fun k hk hk' => ?_, ?_, ?_, fun j hj => ?_⟩) 40 0 _ (by omega) (fun _ _ => rfl) (fun j hj => absurd hj (by omega))⟩
  · rw [h1 k (by omega), st_ne hk, st_ne hk]
  · rw [h1 _ (by omega), st_off _ (by decide), st_on]
  · rw [h1 _ (by omega), st_on]
  · rw [show 18 + s = 14 + s + 4 by omega]; exact h2 j hj
theorem Rsht.put {m m' c c' : Sg} {s : Nat} (h : Rsht m c) (hs : s < 4) (h1 : ∀ r, r ≠ s → m' 9 r = m 9 r ∧ m' 10 r = m 10 r ∧ m' 11 r = m 11 r) (h2 : ∀ r i, r ≠ s → i < 40 → m' 12 (40 * r + i) = m 12 (40 * r + i)) (h3 : ∀ r, r < 4 → r ≠ s → c' (14 + r) = c (14 + r) ∧ c' (18 + r) = c (18 + r)) (hz : (m' 9 s = 0 ∧ c' (14 + s) 0 = -1) ∨ (m' 9 s = 1 ∧ m' 10 s = c' (14 + s) 0 ∧ (m' 10 s = 0 ∨ m' 10 s = 1 ∨ m' 10 s = 2) ∧ ∃ z : Nat, z ≤ 40 ∧ m' 11 s = nI z ∧ c' (14 + s) 1 = nI z ∧ ∀ i, i < z → m' 12 (40 * s + i) = c' (18 + s) i)) : Rsht m' c' := by
  intro r hr
  by_cases q : r = s
  · subst q; exact hz
  · rw [(h1 r q).1, (h1 r q).2.1, (h1 r q).2.2, (h3 r hr q).1, (h3 r hr q).2]
    rcases h r hr with z | ⟨z1, z2, z3, z, z4, z5, z6, z7⟩
    · exact Or.inl z
    · exact Or.inr ⟨z1, z2, z3, z, z4, z5, z6, fun i hi => by rw [h2 r i q (by omega)]; exact z7 i hi⟩
theorem Rel.shM {m m' c c' : Sg} {nt s n : Nat} {x : Int32} (h : Rel m c nt) (hs : s < 4) (hn : n ≤ 40) (hx : x = 0 ∨ x = 1 ∨ x = 2) (hM : ShM m s 1 x (nI n) n m') (hC : ShC c s x (nI n) c') : Rel m' c' nt := by
  refine h.sheets (fun k _ _ _ hk => hM.1 k hk) (fun j _ => by rw [hM.1 0 (by decide)]) (fun k hk _ _ _ _ _ => hC.1 k (by omega) (by omega)) (by rw [hC.1 25 (by omega) (by omega)]) ?_
  obtain ⟨N, hp, hd, hr, ht, ha, hi, hsh⟩ := h
  refine hsh.put hs (fun r hr => ⟨by rw [hM.2.1, if_neg hr], by rw [hM.2.2.1, if_neg hr], by rw [hM.2.2.2.1, if_neg hr]⟩) (fun r i hr hi => by rw [hM.2.2.2.2, if_neg (by omega)]) (fun r hr hr' => ⟨hC.1 _ (by omega) (by omega), hC.1 _ (by omega) (by omega)⟩) (Or.inr ⟨by rw [hM.2.1, if_pos rfl], by rw [hM.2.2.1, if_pos rfl, hC.2.1], by rw [hM.2.2.1, if_pos rfl]; exact hx, n, hn, by rw [hM.2.2.2.1, if_pos rfl], hC.2.2.1, fun i hi => by rw [hM.2.2.2.2, if_pos (by omega), hC.2.2.2 i (by omega)]⟩)
theorem Rel.shN {m m' c c' : Sg} {nt s : Nat} {y y' : Int32} (h : Rel m c nt) (hs : s < 4) (hM : ShM m s 0 (-1) y 0 m') (hC : ShC c s (-1) y' c') : Rel m' c' nt := by
  refine h.sheets (fun k _ _ _ hk => hM.1 k hk) (fun j _ => by rw [hM.1 0 (by decide)]) (fun k hk _ _ _ _ _ => hC.1 k (by omega) (by omega)) (by rw [hC.1 25 (by omega) (by omega)]) ?_
  obtain ⟨N, hp, hd, hr, ht, ha, hi, hsh⟩ := h
  refine hsh.put hs (fun r hr => ⟨by rw [hM.2.1, if_neg hr], by rw [hM.2.2.1, if_neg hr], by rw [hM.2.2.2.1, if_neg hr]⟩) (fun r i hr hi => by rw [hM.2.2.2.2, if_neg (by omega)]) (fun r hr hr' => ⟨hC.1 _ (by omega) (by omega), hC.1 _ (by omega) (by omega)⟩) (Or.inl ⟨by rw [hM.2.1, if_pos rfl], hC.2.1⟩)
theorem lt0_le {x : Int32} (h : x < 0) : x ≤ -1 := by
  rw [Int32.lt_iff_toInt_lt] at h
  rw [Int32.le_iff_toInt_le]
  have : (-1 : Int32).toInt = -1 := by decide
  have e0 : (0 : Int32).toInt = 0 := by decide
  omega
theorem eq_sheet {m c : Sg} {nt : Nat} (h : Rel m c nt) (x1 x2 x3 : Int32) : vv_X7_sheet nt x1 x2 x3 c (fun r c' => vv_X8_sheet x1 x2 x3 m (fun r' m' => r = r' ∧ Rel m' c' nt)) := by
  have bad : ((¬ ∃ s, s < 4 ∧ x1 = nI s) ∨ ¬ ((-1 : Int32) ≤ x2 ∧ x2 ≤ 2) ∨ (¬ x2 < 0 ∧ ¬ x3 ≤ 40)) → vv_X8_sheet x1 x2 x3 m (fun r' m' => -2 = r' ∧ Rel m' c nt) := fun z => by
    unfold vv_X8_sheet
    refine h_isSheetM (fun s hs e => ⟨fun z => absurd z (by decide), fun _ => ?_⟩) (fun _ => ⟨fun _ => ⟨rfl, h⟩, fun z => absurd rfl z⟩)
    refine h_in (l := -1) (h := 2) rfl rfl ?_
    by_cases q : (-1 : Int32) ≤ x2 ∧ x2 ≤ 2
    · rw [if_pos q]
      rcases z with z | z | z
      · exact absurd ⟨s, hs, e⟩ z
      · exact absurd q z
      · exact ⟨fun z => absurd z (by decide), fun _ => ⟨fun q => absurd q z.1, fun _ => ⟨fun q => absurd q z.2, fun _ => ⟨rfl, h⟩⟩⟩⟩
    · rw [if_neg q]
      exact ⟨fun _ => ⟨rfl, h⟩, fun z => absurd rfl z⟩
  unfold vv_X7_sheet
  refine h_isSheetC (fun s hs e => ⟨fun z => absurd z (by decide), fun _ => ⟨fun z => bad (Or.inr (Or.inl (fun q => absurd q.1 (Int32.not_le.mpr z)))), fun z1 => ⟨fun z2 => ⟨fun z3 => ⟨fun z4 => ⟨fun z5 => ?_, fun z5 => ?_⟩, fun z4 => ?_⟩, fun z3 => ?_⟩, fun z2 => bad (Or.inr (Or.inl (fun q => z2 q.2)))⟩⟩⟩) (fun no => ⟨fun _ => bad (Or.inl no), fun z => absurd rfl z⟩)
  · subst e
    have n0 : ¬ x2 < 0 := fun q => z3 (Int32.le_antisymm (lt0_le q) (Int32.not_lt.mp z1))
    obtain ⟨n, hn, rfl⟩ := rng_nI (n := 40) (by decide) ⟨z5, z4⟩
    rw [ss_nI (by omega)]
    refine ⟨vp_in_nI hs (by decide), h_sbec hs (fun c' hC => ?_)⟩
    unfold vv_X8_sheet
    refine h_isSheetM (fun s' hs' e => ⟨fun z => absurd z (by decide), fun _ => ?_⟩) (fun no => absurd ⟨s, hs, rfl⟩ no)
    refine h_in (l := -1) (h := 2) rfl rfl ?_
    rw [if_pos ⟨Int32.not_lt.mp z1, z2⟩]
    refine ⟨fun z => absurd z (by decide), fun _ => ⟨fun q => absurd q n0, fun _ => ⟨fun _ => shM_J hs hn n0 (fun m' hM => ⟨rfl, ?_⟩), fun q => absurd z4 q⟩⟩⟩
    obtain ⟨b, hb, rfl⟩ := rng_nI (n := 2) (by decide) ⟨Int32.not_lt.mp n0, z2⟩
    refine h.shM hs hn ?_ hM hC
    rcases (show b = 0 ∨ b = 1 ∨ b = 2 by omega) with rfl | rfl | rfl
    · exact Or.inl rfl
    · exact Or.inr (Or.inl rfl)
    · exact Or.inr (Or.inr rfl)
  · subst e
    have n0 : ¬ x2 < 0 := fun q => z3 (Int32.le_antisymm (lt0_le q) (Int32.not_lt.mp z1))
    unfold vv_X8_sheet
    refine h_isSheetM (fun s' hs' e => ⟨fun z => absurd z (by decide), fun _ => ?_⟩) (fun no => absurd ⟨s, hs, rfl⟩ no)
    refine h_in (l := -1) (h := 2) rfl rfl ?_
    rw [if_pos ⟨Int32.not_lt.mp z1, z2⟩]
    refine ⟨fun z => absurd z (by decide), fun _ => ⟨fun q => absurd q n0, fun _ => ⟨fun _ => ?_, fun q => absurd z4 q⟩⟩⟩
    unfold vv_X8_sheet_J34
    exact ⟨fun q => absurd q n0, fun _ => ⟨fun q => absurd q z5, fun _ => ⟨rfl, h⟩⟩⟩
  · have n0 : ¬ x2 < 0 := fun q => z3 (Int32.le_antisymm (lt0_le q) (Int32.not_lt.mp z1))
    exact bad (Or.inr (Or.inr ⟨n0, z4⟩))
  · subst e; subst z3
    rw [ss_nI (by omega)]
    refine ⟨vp_in_nI hs (by decide), h_sbec hs (fun c' hC => ?_)⟩
    unfold vv_X8_sheet
    refine h_isSheetM (fun s' hs' e => ⟨fun z => absurd z (by decide), fun _ => ?_⟩) (fun no => absurd ⟨s, hs, rfl⟩ no)
    refine h_in (l := -1) (h := 2) rfl rfl ?_
    rw [if_pos ⟨Int32.not_lt.mp z1, z2⟩]
    exact ⟨fun z => absurd z (by decide), fun _ => ⟨fun _ => shM_neg hs (fun m' hM => ⟨rfl, h.shN hs hM hC⟩), fun q => absurd (show (-1 : Int32) < 0 by decide) q⟩⟩
