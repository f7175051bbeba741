/-! ===== burn(), image(), back() ===== -/
/-- papers and day have changed, and what is free -/
theorem Rel.rows {m m' c c' : Sg} {nt N : Nat} (hp : Rpap m c N) (hr : Rrul m c nt) (ht : Rtxt m c nt) (ha : Rtap m c) (hi : Rimg m c N nt) (hs : Rsht m c) (hm : ∀ k, k ≠ 0 → k ≠ 5 → k ≠ 6 → k ≠ 7 → m' k = m k) (hm0 : ∀ j, j ≠ 7 → (j < 12 ∨ 30 < j) → m' 0 j = m 0 j) (hc : ∀ k, k ≠ 1 → ¬ (26 ≤ k ∧ k < 34) → (k < 50 ∨ k % 3 ≠ 1) → k ≠ 3 → k ≠ 7 → ¬ (22 ≤ k ∧ k ≤ 25) → ¬ (42 ≤ k ∧ k ≤ 49) → c' k = c k) (hc1 : ∀ j, j ≠ 0 → c' 1 j = c 1 j) (hp' : Rpap m' c' N) (hd' : Rday m' c') : Rel m' c' nt := by
  refine ⟨N, hp', hd', hr.keep (hm0 4 (by decide) (by omega)) (hc1 1 (by decide)), ht.keep (hm0 3 (by decide) (by omega)) (hm 1 (by decide) (by decide) (by decide) (by decide)) (hm 2 (by decide) (by decide) (by decide) (by decide)) (by rw [hc 0 (by decide) (by decide) (by decide) (by decide) (by decide) (by decide) (by decide)]) (hc 12 (by decide) (by decide) (by decide) (by decide) (by decide) (by decide) (by decide)) (fun k h1 h2 => hc k (by omega) (by omega) (by omega) (by omega) (by omega) (by omega) (by omega)), ha.keep (hm0 6 (by decide) (by omega)) (hm 3 (by decide) (by decide) (by decide) (by decide)) (by rw [hc 8 (by decide) (by decide) (by decide) (by decide) (by decide) (by decide) (by decide)]) (hc 9 (by decide) (by decide) (by decide) (by decide) (by decide) (by decide) (by decide)), hi.keep (Nat.le_refl N) (fun j h1 h2 => hm0 j (by omega) (by omega)) (fun i hi => by rw [hm 4 (by decide) (by decide) (by decide) (by decide)]) (hm 8 (by decide) (by decide) (by decide) (by decide)) (by rw [hc 0 (by decide) (by decide) (by decide) (by decide) (by decide) (by decide) (by decide)]) (hc 2 (by decide) (by decide) (by decide) (by decide) (by decide) (by decide) (by decide)) (fun i hi => hc _ (by omega) (by omega) (by omega) (by omega) (by omega) (by omega) (by omega)) hp.2.2.1, hs.keep (hm 9 (by decide) (by decide) (by decide) (by decide)) (hm 10 (by decide) (by decide) (by decide) (by decide)) (hm 11 (by decide) (by decide) (by decide) (by decide)) (hm 12 (by decide) (by decide) (by decide) (by decide)) (fun k h1 h2 => hc k (by omega) (by omega) (by omega) (by omega) (by omega) (by omega) (by omega))⟩
def sumN (F : Nat → Int32) : Nat → Int32
  | 0 => 0
  | n + 1 => sumN F n + F n
/-- the first n papers are burnt where they lie at that desk -/
def BnC (c : Sg) (x : Int32) (n : Nat) (c' : Sg) : Prop := (∀ k, ¬ (26 ≤ k ∧ k < 26 + n) → c' k = c k) ∧ ∀ i, i < n → ∀ j, c' (26 + i) j = if j = 5 ∧ c (26 + i) 3 = x then 1 else c (26 + i) j
def BnM (m : Sg) (x : Int32) (n : Nat) (m' : Sg) : Prop := (∀ k, k ≠ 5 → m' k = m k) ∧ ∀ i j, j < 5 → m' 5 (5 * i + j) = if i < n ∧ j = 4 ∧ m 5 (5 * i + 2) = x then 1 else m 5 (5 * i + j)
def bnF (m : Sg) (x : Int32) (i : Nat) : Int32 := if m 5 (5 * i + 2) = x then (if m 5 (5 * i + 4) = 0 then 1 else 0) else 0
theorem burnC_L {nt N : Nat} {m c : Sg} {x : Int32} {Q : Int32 → Sg → Prop} (hp : Rpap m c N) (hQ : ∀ c', BnC c x N c' → Q (sumN (bnF m x) N) c') : ∀ d i g a, i + d = N → BnC c x i g → a = sumN (bnF m x) i → vv_X7_burn_L15 nt Q (d + 1) x a (nI i) g := by
  intro d
  induction d with
  | zero =>
    intro i g a hi hg ha
    unfold vv_X7_burn_L15
    have e : i = N := by omega
    subst e
    rw [hg.1 1 (by omega), hp.2.1]
    refine ⟨fun _ => by rw [ha]; exact hQ g hg, fun z => absurd (Int32.le_refl _) z⟩
  | succ d ih =>
    intro i g a hi hg ha
    unfold vv_X7_burn_L15
    have h8 := hp.2.2.1
    obtain ⟨f1, f2⟩ := hp.2.2.2 i (by omega)
    have e26 : g (26 + i) = c (26 + i) := hg.1 _ (by omega)
    rw [hg.1 1 (by omega), hp.2.1, pp4 i (by omega), e26, f1 3 (by decide), f1 5 (by decide)]
    refine ⟨fun z => absurd z (nI_ge (by omega) (by omega)), fun _ => ⟨vp_in_nI (by omega) (by decide), fun z => ?_, fun z => ⟨fun y => ?_, fun y => ?_⟩⟩⟩
    · unfold vv_X7_burn_J63
      rintro j rfl
      rw [nI_1]
      refine ih _ _ _ (by omega) ⟨fun k hk => hg.1 k (by omega), fun k hk j => ?_⟩ ?_
      · by_cases hki : k = i
        · subst hki
          rw [e26, if_neg (fun q => z ((f1 3 (by decide)) ▸ q.2))]
        · exact hg.2 k (by omega) j
      · rw [ha, sumN, bnF, if_neg (show ¬ m 5 (5 * i + 2) = x from z), Int32.add_zero]
    · unfold vv_X7_burn_J63
      rintro j rfl
      rw [nI_1]
      have y1 := f2.2.2.2.2.2.resolve_left y
      refine ih _ _ _ (by omega) ⟨fun k hk => hg.1 k (by omega), fun k hk j => ?_⟩ ?_
      · by_cases hki : k = i
        · subst hki
          rw [e26]
          by_cases hj : j = 5
          · subst hj
            rw [if_pos ⟨rfl, (f1 3 (by decide)).trans z⟩, f1 5 (by decide)]; exact y1
          · rw [if_neg (fun q => hj q.1)]
        · exact hg.2 k (by omega) j
      · rw [ha, sumN, bnF, if_pos (show m 5 (5 * i + 2) = x from z), if_neg (show ¬ m 5 (5 * i + 4) = 0 from y), Int32.add_zero]
    · rintro g' rfl b rfl
      unfold vv_X7_burn_J63
      rintro j rfl
      rw [nI_1]
      refine ih _ _ _ (by omega) ⟨fun k hk => by rw [st_ne (by omega)]; exact hg.1 k (by omega), fun k hk j => ?_⟩ ?_
      · by_cases hki : k = i
        · subst hki
          rw [st_at, e26]
          by_cases hj : j = 5
          · rw [if_pos hj, if_pos ⟨hj, (f1 3 (by decide)).trans z⟩]
          · rw [if_neg hj, if_neg (fun q => hj q.1)]
        · rw [st_ne (by omega)]; exact hg.2 k (by omega) j
      · rw [ha, sumN, bnF, if_pos (show m 5 (5 * i + 2) = x from z), if_pos (show m 5 (5 * i + 4) = 0 from y)]
theorem burnM_L {N : Nat} {m : Sg} {x : Int32} {Q : Int32 → Sg → Prop} (hN : m 0 11 = nI N) (h8 : N ≤ 8) (hQ : ∀ m', BnM m x N m' → Q (sumN (bnF m x) N) m') : ∀ d i g a, i + d = N → BnM m x i g → a = sumN (bnF m x) i → vv_X8_burn_L19 Q (d + 1) x a (nI i) g := by
  intro d
  induction d with
  | zero =>
    intro i g a hi hg ha
    unfold vv_X8_burn_L19
    have e : i = N := by omega
    subst e
    rw [hg.1 0 (by decide), hN]
    refine ⟨fun _ => by rw [ha]; exact hQ g hg, fun z => absurd (Int32.le_refl _) z⟩
  | succ d ih =>
    intro i g a hi hg ha
    unfold vv_X8_burn_L19
    have e2 : g 5 (5 * i + 2) = m 5 (5 * i + 2) := by rw [hg.2 i 2 (by decide), if_neg (by omega)]
    have e4 : g 5 (5 * i + 4) = m 5 (5 * i + 4) := by rw [hg.2 i 4 (by decide), if_neg (by omega)]
    rw [hg.1 0 (by decide), hN, ix5_2, nI_clamp (by omega), e2]
    refine ⟨fun z => absurd z (nI_ge (by omega) (by omega)), fun _ => ⟨vp_in_nI (by omega) (by decide), fun z => ?_, fun z => h_isWhole (by omega) ?_⟩⟩
    · unfold vv_X8_burn_J68
      rintro j rfl
      rw [nI_1]
      refine ih _ _ _ (by omega) ⟨hg.1, fun k j hj => ?_⟩ ?_
      · rw [hg.2 k j hj]
        by_cases hki : k = i
        · subst hki
          rw [if_neg (by omega), if_neg (fun q => z q.2.2)]
        · by_cases q : k < i ∧ j = 4 ∧ m 5 (5 * k + 2) = x
          · rw [if_pos q, if_pos ⟨by omega, q.2⟩]
          · rw [if_neg q, if_neg (fun q' => q ⟨by omega, q'.2⟩)]
      · rw [ha, sumN, bnF, if_neg z, Int32.add_zero]
    · have go : ∀ b, b = sumN (bnF m x) (i + 1) → vv_X8_burn_J55 (vv_X8_burn_L19 Q (d + 1)) x (nI i) a (b - a) g Q := by
        intro b hb
        unfold vv_X8_burn_J55
        rintro y rfl
        rw [ix5_4, nI_clamp (by omega)]
        refine ⟨vp_in_nI (by omega) (by decide), ?_⟩
        rintro g' rfl
        unfold vv_X8_burn_J68
        rintro j rfl
        rw [nI_1]
        refine ih _ _ _ (by omega) ⟨fun k hk => by rw [st_ne hk]; exact hg.1 k hk, fun k j hj => ?_⟩ ?_
        · rw [st_at]
          by_cases q : 5 * k + j = 5 * i + 4
          · have q1 : k = i := by omega
            have q2 : j = 4 := by omega
            subst q1; subst q2
            rw [if_pos rfl, if_pos ⟨by omega, rfl, z⟩]
          · rw [if_neg q, hg.2 k j hj]
            by_cases q : k < i ∧ j = 4 ∧ m 5 (5 * k + 2) = x
            · rw [if_pos q, if_pos ⟨by omega, q.2⟩]
            · rw [if_neg q, if_neg (fun q' => q ⟨by omega, q'.2⟩)]
        · rw [hb]; grind
      rw [e4]
      by_cases w : m 5 (5 * i + 4) = 0
      · rw [if_pos w]
        refine ⟨fun z => absurd z (by decide), fun _ => ?_⟩
        have := go (a + 1) (by rw [ha, sumN, bnF, if_pos z, if_pos w])
        rw [show a + 1 - a = 1 by grind] at this
        exact this
      · rw [if_neg w]
        refine ⟨fun _ => ?_, fun z => absurd rfl z⟩
        have := go a (by rw [ha, sumN, bnF, if_pos z, if_neg w, Int32.add_zero])
        rw [show a - a = 0 by grind] at this
        exact this
theorem pv_succ (m : Sg) (i j : Nat) : pvM m i (j + 1) = m 5 (5 * i + j) := by unfold pvM; rw [if_neg (by omega)]; rfl
theorem pv_0 (m : Sg) (i : Nat) : pvM m i 0 = m 4 i := rfl
theorem eq_burn {m c : Sg} {nt : Nat} (h : Rel m c nt) (x : Int32) : vv_X7_burn nt x c (fun r c' => vv_X8_burn x m (fun r' m' => r = r' ∧ Rel m' c' nt)) := by
  have h' := h
  obtain ⟨N, hp, hd, hr, ht, ha, hi, hs⟩ := h
  unfold vv_X7_burn vv_X8_burn
  refine h_range (w := 4) (by decide) ?_
  by_cases r1 : tL 4 ≤ x ∧ x ≤ tG 4
  · rw [if_pos r1]
    refine ⟨fun _ => ?_, fun z => absurd z (by decide)⟩
    rintro a rfl b rfl
    refine ⟨N + 1, burnC_L hp (fun c' hC => ?_) N 0 c 0 (by omega) ⟨fun _ _ => rfl, fun i hi => absurd hi (by omega)⟩ rfl⟩
    refine h_in (l := 0) (h := 3) rfl rfl ?_
    rw [if_pos (show (0 : Int32) ≤ x ∧ x ≤ 3 from r1)]
    refine ⟨fun _ => ?_, fun z => absurd z (by decide)⟩
    rintro a rfl b rfl
    refine ⟨N + 1, burnM_L hp.1 hp.2.2.1 (fun m' hM => ⟨rfl, ?_⟩) N 0 m 0 (by omega) ⟨fun _ _ => rfl, fun i j hj => by rw [if_neg (by omega)]⟩ rfl⟩
    have h8 := hp.2.2.1
    refine Rel.rows hp hr ht ha hi hs (fun k _ h5 _ _ => hM.1 k h5) (fun j _ _ => by rw [hM.1 0 (by decide)]) (fun k h1 h2 _ _ _ _ _ => hC.1 k (by omega)) (fun j _ => by rw [hC.1 1 (by omega)]) ⟨by rw [hM.1 0 (by decide)]; exact hp.1, by rw [hC.1 1 (by omega)]; exact hp.2.1, h8, fun i hi => ?_⟩ (hd.keep (by rw [hM.1 0 (by decide)]) (by rw [hM.1 0 (by decide)]) (by rw [hC.1 1 (by omega)]) (by rw [hC.1 1 (by omega)]) (by rw [hC.1 25 (by omega)]))
    obtain ⟨f1, f2⟩ := hp.2.2.2 i hi
    have key : ∀ j, j < 6 → pvM m' i j = if j = 5 ∧ pvM m i 3 = x then 1 else pvM m i j := by
      intro j hj
      rcases (show j = 0 ∨ ∃ k, j = k + 1 ∧ k < 5 by rcases j with _ | j; exact Or.inl rfl; exact Or.inr ⟨j, rfl, by omega⟩) with rfl | ⟨k, rfl, hk⟩
      · rw [pv_0, hM.1 4 (by decide), if_neg (by omega), pv_0]
      · rw [pv_succ m' i k, hM.2 i k hk, pv_succ m i k, show pvM m i 3 = m 5 (5 * i + 2) from pv_succ m i 2]
        by_cases q : k + 1 = 5 ∧ m 5 (5 * i + 2) = x
        · rw [if_pos ⟨hi, by omega, q.2⟩, if_pos q]
        · rw [if_neg (fun q' => q ⟨by omega, q'.2.2⟩), if_neg q]
    refine ⟨fun j hj => ?_, ?_⟩
    · rw [hC.2 i hi j, key j hj, f1 3 (by decide), f1 j hj]
    · unfold PapOk
      rw [key 0 (by decide), key 1 (by decide), key 2 (by decide), key 3 (by decide), key 4 (by decide), key 5 (by decide), if_neg (by omega), if_neg (by omega), if_neg (by omega), if_neg (by omega), if_neg (by omega)]
      refine ⟨f2.1, f2.2.1, f2.2.2.1, f2.2.2.2.1, f2.2.2.2.2.1, ?_⟩
      by_cases q : (5 : Nat) = 5 ∧ pvM m i 3 = x
      · rw [if_pos q]; exact Or.inr rfl
      · rw [if_neg q]; exact f2.2.2.2.2.2
  · rw [if_neg r1]
    refine ⟨fun z => absurd rfl z, fun _ => h_in (l := 0) (h := 3) rfl rfl ?_⟩
    rw [if_neg (show ¬ ((0 : Int32) ≤ x ∧ x ≤ 3) from r1)]
    exact ⟨fun z => absurd rfl z, fun _ => ⟨rfl, h'⟩⟩
