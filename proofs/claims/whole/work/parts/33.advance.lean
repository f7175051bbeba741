/-! ===== the class's tape: it goes on by a token ===== -/
def TkC (g : Sg) (b : By) (n p : Nat) : Prop := LetC g b n ∧ g 8 2 = nI p ∧ g 8 3 = tkC b n p ∧ g 8 4 = vlC b n p ∧ g 8 5 = nI (stp b n p) ∧ p ≤ n
theorem tn_end {nt : Nat} {b : By} {n p e : Nat} {g : Sg} {Q : Sg → Prop} (hL : LetC g b n) (h5 : g 8 5 = nI e) (h2 : g 8 2 = nI p) (hpe : p ≤ e) (he : e ≤ n) (hQ : ∀ g', LetC g' b n → g' 8 5 = nI e → g' 8 2 = nI p → g' 8 4 = g 8 4 → g' 8 3 = (if 4 < e - p then 1 else 2) → (∀ k, k ≠ 8 → g' k = g k) → Q g') : vv_X5_takeNumber_J63 nt g Q := by
  have h160 := hL.2.1
  unfold vv_X5_takeNumber_J63 vv_X5_takeNumber_J82
  rw [h5, h2, pk_sub hpe]
  refine ⟨fun h => ?_, fun h => ?_⟩
  · rintro g2 rfl
    have h4 : e - p ≤ 4 := (nI_leI (a := e - p) (b := 4) (by omega) (by omega)).mp h
    exact hQ _ (hL.put (by decide) _) (by rw [st_off _ (by decide)]; exact h5) (by rw [st_off _ (by decide)]; exact h2) (by rw [st_off _ (by decide)]) (by rw [st_on, if_neg (by omega)]) (fun k hk => st_ne hk)
  · rintro g2 rfl
    have h4 : ¬ e - p ≤ 4 := fun q => h ((nI_leI (a := e - p) (b := 4) (by omega) (by omega)).mpr q)
    exact hQ _ (hL.put (by decide) _) (by rw [st_off _ (by decide)]; exact h5) (by rw [st_off _ (by decide)]; exact h2) (by rw [st_off _ (by decide)]) (by rw [st_on, if_pos (by omega)]) (fun k hk => st_ne hk)
theorem tn_loop {nt : Nat} {b : By} {n p : Nat} {Q : Sg → Prop} : ∀ (f j : Nat) (g : Sg), n - j ≤ f → j ≤ n → p ≤ j → LetC g b n → g 8 5 = nI j → g 8 2 = nI p → g 8 4 = dcI b p (j - p) →
    (∀ g', LetC g' b n → g' 8 5 = nI (skF isDg b n j) → g' 8 2 = nI p → g' 8 4 = dcI b p (skF isDg b n j - p) → g' 8 3 = (if 4 < skF isDg b n j - p then 1 else 2) → (∀ k, k ≠ 8 → g' k = g k) → Q g') → ∃ k, vv_X5_takeNumber_L0 nt Q k g := by
  intro f
  induction f with
  | zero =>
    intro j g h1 h2 hpj hL h5 hs h4 hQ
    have h160 := hL.2.1
    have hj : j = n := by omega
    subst hj
    refine ⟨1, ?_⟩
    unfold vv_X5_takeNumber_L0
    rw [h5, hL.1]
    rw [skF_stop (by omega)] at hQ
    refine ⟨fun _ => tn_end hL h5 hs hpj h2 (fun g' a1 a2 a3 a4 a5 a6 => hQ g' a1 a2 a3 (by rw [a4, h4]) a5 a6), fun h => absurd (nI_le (Nat.le_refl j) (by omega)) h⟩
  | succ f ih =>
    intro j g h1 h2 hpj hL h5 hs h4 hQ
    have h160 := hL.2.1
    by_cases hj : j < n
    · by_cases hP : isDg (b j) = true
      · have ed : dcI b p (j + 1 - p) = dcI b p (j - p) * 10 + b j - 48 := by
          rw [show j + 1 - p = (j - p) + 1 by omega]
          show dcI b p (j - p) * 10 + b (p + (j - p)) - 48 = _
          rw [show p + (j - p) = j by omega]
        obtain ⟨k, hk⟩ := ih (j + 1) (st (st g 8 4 (dcI b p (j + 1 - p))) 8 5 (nI (j + 1))) (by omega) (by omega) (by omega) ((hL.put (by decide) _).put (by decide) _) (st_on _ _ _ _) (by rw [st_off _ (by decide), st_off _ (by decide)]; exact hs) (by rw [st_off _ (by decide), st_on])
          (by rw [← skF_step hj hP]; exact fun g' a1 a2 a3 a4 a5 a6 => hQ g' a1 a2 a3 a4 a5 (fun k hk => by rw [a6 k hk, st_ne hk, st_ne hk]))
        refine ⟨k + 1, ?_⟩
        unfold vv_X5_takeNumber_L0
        rw [h5, hL.1, nI_clamp (by omega)]
        refine ⟨fun h => absurd h (nI_ge hj (by omega)), fun _ => ⟨vp_in_nI (by omega) (by decide), h_isDigit ?_⟩⟩
        rw [hL.2.2 j hj, if_pos hP]
        refine ⟨fun h => absurd h (by decide), fun _ => ⟨by rw [h5]; exact vp_in_nI (by omega) (by decide), ?_⟩⟩
        rintro g2 rfl g3 rfl
        rw [h5, nI_clamp (by omega), hL.2.2 j hj, h4, st_off _ (by decide), h5, nI_1, ← ed]
        exact hk
      · refine ⟨1, ?_⟩
        unfold vv_X5_takeNumber_L0
        rw [h5, hL.1, nI_clamp (by omega)]
        refine ⟨fun h => absurd h (nI_ge hj (by omega)), fun _ => ⟨vp_in_nI (by omega) (by decide), h_isDigit ?_⟩⟩
        rw [hL.2.2 j hj, if_neg hP]
        rw [skF_stop (fun q => hP q.2)] at hQ
        exact ⟨fun _ => tn_end hL h5 hs hpj h2 (fun g' a1 a2 a3 a4 a5 a6 => hQ g' a1 a2 a3 (by rw [a4, h4]) a5 a6), fun h => absurd rfl h⟩
    · have hj : j = n := by omega
      subst hj
      refine ⟨1, ?_⟩
      unfold vv_X5_takeNumber_L0
      rw [h5, hL.1]
      rw [skF_stop (by omega)] at hQ
      refine ⟨fun _ => tn_end hL h5 hs hpj h2 (fun g' a1 a2 a3 a4 a5 a6 => hQ g' a1 a2 a3 (by rw [a4, h4]) a5 a6), fun h => absurd (nI_le (Nat.le_refl j) (by omega)) h⟩
theorem ad_end {nt : Nat} {b : By} {n p : Nat} {g : Sg} {Q : Sg → Prop} (hL : LetC g b n) (h5 : g 8 5 = nI p) (hp : p ≤ n) (hQ : ∀ g', TkC g' b n p → (∀ k, k ≠ 8 → g' k = g k) → Q g') : vv_X5_advance_J52 nt g Q := by
  have h160 := hL.2.1
  unfold vv_X5_advance_J52
  rintro g2 rfl g3 rfl
  obtain ⟨g3, hg3⟩ : ∃ x, x = st (st g 8 2 (g 8 5)) 8 4 0 := ⟨_, rfl⟩
  rw [← hg3]
  have L3 : LetC g3 b n := by rw [hg3]; exact (hL.put (by decide) _).put (by decide) _
  have e2 : g3 8 2 = nI p := by rw [hg3, st_off _ (by decide), st_on, h5]
  have e4 : g3 8 4 = 0 := by rw [hg3, st_on]
  have e5 : g3 8 5 = nI p := by rw [hg3, st_off _ (by decide), st_off _ (by decide), h5]
  have fr : ∀ k, k ≠ 8 → g3 k = g k := fun k hk => by rw [hg3, st_ne hk, st_ne hk]
  rw [e5, L3.1]
  refine ⟨fun h => ?_, fun h => ?_⟩
  · have hlt : p < n := (nI_ltI (by omega) (by omega)).mp h
    have hs := stp_gt (b := b) hlt
    refine ⟨vp_in_nI (by omega) (by decide), ?_⟩
    rw [nI_clamp (by omega), L3.2.2 p hlt]
    rintro x rfl
    refine h_isLower ?_
    by_cases h1 : isLo (b p) = true
    · rw [if_pos h1]
      refine ⟨fun h => absurd h (by decide), fun _ => ?_⟩
      unfold vv_X5_skipWord
      have es : stp b n p = skF isLo b n p := by unfold stp; rw [if_neg (by omega), if_pos h1]
      refine sk_loopL (b := b) (n := n) (n - p) p g3 (Nat.le_refl _) hp L3 e5 ?_
      rw [← es]
      refine h_word (L3.put (by decide) _) (by rw [st_off _ (by decide)]; exact e2) (st_on _ _ _ _) hs.2 (by omega) ?_
      rintro g4 rfl
      have et : tkC b n p = wtk (wix (wl b p (stp b n p))) := by unfold tkC; rw [if_neg (by omega), if_pos h1, es]
      have ev : vlC b n p = if wtk (wix (wl b p (stp b n p))) = 3 then 10000 + nI (wix (wl b p (stp b n p)) - 1) else 0 := by unfold vlC; rw [if_neg (by omega), if_pos h1, es]
      by_cases h3 : wtk (wix (wl b p (stp b n p))) = 3
      · rw [if_pos h3]
        rw [if_pos h3] at ev
        refine hQ _ ⟨((L3.put (by decide) _).put (by decide) _).put (by decide) _, ?_, ?_, ?_, ?_, hp⟩ (fun k hk => by rw [st_ne hk, st_ne hk, st_ne hk]; exact fr k hk)
        · rw [st_off _ (by decide), st_off _ (by decide), st_off _ (by decide)]; exact e2
        · rw [st_on, et]
        · rw [st_off _ (by decide), st_on, ev]
        · rw [st_off _ (by decide), st_off _ (by decide), st_on]
      · rw [if_neg h3]
        rw [if_neg h3] at ev
        refine hQ _ ⟨(L3.put (by decide) _).put (by decide) _, ?_, ?_, ?_, ?_, hp⟩ (fun k hk => by rw [st_ne hk, st_ne hk]; exact fr k hk)
        · rw [st_off _ (by decide), st_off _ (by decide)]; exact e2
        · rw [st_on, et]
        · rw [st_off _ (by decide), st_off _ (by decide), e4, ev]
        · rw [st_off _ (by decide), st_on]
    · rw [if_neg h1]
      refine ⟨fun _ => h_isDigit ?_, fun h => absurd rfl h⟩
      by_cases h2 : isDg (b p) = true
      · rw [if_pos h2]
        refine ⟨fun h => absurd h (by decide), fun _ => ?_⟩
        unfold vv_X5_takeNumber
        have es : stp b n p = skF isDg b n p := by unfold stp; rw [if_neg (by omega), if_neg h1, if_pos h2]
        have et : tkC b n p = if 4 < stp b n p - p then 1 else 2 := by unfold tkC; rw [if_neg (by omega), if_neg h1, if_pos h2, es]
        have ev : vlC b n p = dcI b p (stp b n p - p) := by unfold vlC; rw [if_neg (by omega), if_neg h1, if_pos h2, es]
        refine tn_loop (b := b) (n := n) (p := p) (n - p) p g3 (Nat.le_refl _) hp (Nat.le_refl _) L3 e5 e2 (by rw [e4, Nat.sub_self]; rfl) ?_
        rw [← es]
        exact fun g' a1 a2 a3 a4 a5 a6 => hQ g' ⟨a1, a3, by rw [a5, et], by rw [a4, ev], a2, hp⟩ (fun k hk => by rw [a6 k hk]; exact fr k hk)
      · rw [if_neg h2]
        refine ⟨fun _ => h_isSign ?_, fun h => absurd rfl h⟩
        have es : stp b n p = p + 1 := by unfold stp; rw [if_neg (by omega), if_neg h1, if_neg h2]
        have ev : vlC b n p = 0 := by unfold vlC; rw [if_neg (by omega), if_neg h1, if_neg h2]
        have fin : ∀ t, t = tkC b n p → vv_X5_advance_J141 nt t g3 Q := by
          intro t ht
          unfold vv_X5_advance_J141
          rintro g4 rfl g5 rfl
          refine hQ _ ⟨(L3.put (by decide) _).put (by decide) _, ?_, ?_, ?_, ?_, hp⟩ (fun k hk => by rw [st_ne hk, st_ne hk]; exact fr k hk)
          · rw [st_off _ (by decide), st_off _ (by decide)]; exact e2
          · rw [st_off _ (by decide), st_on, ht]
          · rw [st_off _ (by decide), st_off _ (by decide), e4, ev]
          · rw [st_on, st_off _ (by decide), e5, nI_1, es]
        by_cases h3 : isSg (b p) = true
        · rw [if_pos h3]
          exact ⟨fun h => absurd h (by decide), fun _ => fin _ (by unfold tkC; rw [if_neg (by omega), if_neg h1, if_neg h2, if_pos h3])⟩
        · rw [if_neg h3]
          exact ⟨fun _ => fin _ (by unfold tkC; rw [if_neg (by omega), if_neg h1, if_neg h2, if_neg h3]), fun h => absurd rfl h⟩
  · have hge : n ≤ p := Nat.le_of_not_lt (fun q => h ((nI_ltI (by omega) (by omega)).mpr q))
    rintro g4 rfl
    refine hQ _ ⟨L3.put (by decide) _, ?_, ?_, ?_, ?_, hp⟩ (fun k hk => by rw [st_ne hk]; exact fr k hk)
    · rw [st_off _ (by decide)]; exact e2
    · rw [st_on]; unfold tkC; rw [if_pos hge]
    · rw [st_off _ (by decide), e4]; unfold vlC; rw [if_pos hge]
    · rw [st_off _ (by decide), e5]; unfold stp; rw [if_pos hge]
theorem ad_loop {nt : Nat} {b : By} {n : Nat} {Q : Sg → Prop} : ∀ (f j : Nat) (g : Sg), n - j ≤ f → j ≤ n → LetC g b n → g 8 5 = nI j → (∀ g', TkC g' b n (skF isBl b n j) → (∀ k, k ≠ 8 → g' k = g k) → Q g') → ∃ k, vv_X5_advance_L0 nt Q k g := by
  intro f
  induction f with
  | zero =>
    intro j g h1 h2 hL h5 hQ
    have h160 := hL.2.1
    have hj : j = n := by omega
    subst hj
    refine ⟨1, ?_⟩
    unfold vv_X5_advance_L0
    rw [h5, hL.1]
    rw [skF_stop (by omega)] at hQ
    exact ⟨fun _ => ad_end hL h5 h2 hQ, fun h => absurd (nI_le (Nat.le_refl j) (by omega)) h⟩
  | succ f ih =>
    intro j g h1 h2 hL h5 hQ
    have h160 := hL.2.1
    by_cases hj : j < n
    · by_cases hP : isBl (b j) = true
      · obtain ⟨k, hk⟩ := ih (j + 1) (st g 8 5 (nI (j + 1))) (by omega) (by omega) (hL.put (by decide) _) (st_on _ _ _ _) (by rw [← skF_step hj hP]; exact fun g' a1 a2 => hQ g' a1 (fun k hk => by rw [a2 k hk, st_ne hk]))
        have fin : vv_X5_advance_J39 nt (vv_X5_advance_L0 nt Q k) g Q := by
          unfold vv_X5_advance_J39
          rintro g2 rfl
          rw [h5, nI_1]; exact hk
        refine ⟨k + 1, ?_⟩
        unfold vv_X5_advance_L0
        rw [h5, hL.1, nI_clamp (by omega), hL.2.2 j hj]
        refine ⟨fun h => absurd h (nI_ge hj (by omega)), fun _ => ⟨vp_in_nI (by omega) (by decide), fun _ => fin, fun n1 => ⟨vp_in_nI (by omega) (by decide), fun n2 => ?_, fun _ => fin⟩⟩⟩
        unfold isBl at hP
        simp [n1, n2] at hP
      · have fin : vv_X5_advance_J52 nt g Q := by
          rw [skF_stop (fun q => hP q.2)] at hQ
          exact ad_end hL h5 h2 hQ
        have e1 : ¬ b j = 32 := fun q => hP (by unfold isBl; simp [q])
        have e2 : ¬ b j = 10 := fun q => hP (by unfold isBl; simp [q])
        refine ⟨1, ?_⟩
        unfold vv_X5_advance_L0
        rw [h5, hL.1, nI_clamp (by omega), hL.2.2 j hj]
        exact ⟨fun h => absurd h (nI_ge hj (by omega)), fun _ => ⟨vp_in_nI (by omega) (by decide), fun h => absurd h e1, fun _ => ⟨vp_in_nI (by omega) (by decide), fun _ => fin, fun h => absurd h e2⟩⟩⟩
    · have hj : j = n := by omega
      subst hj
      refine ⟨1, ?_⟩
      unfold vv_X5_advance_L0
      rw [h5, hL.1]
      rw [skF_stop (by omega)] at hQ
      exact ⟨fun _ => ad_end hL h5 h2 hQ, fun h => absurd (nI_le (Nat.le_refl j) (by omega)) h⟩
theorem h_advance {nt : Nat} {b : By} {n p : Nat} {g : Sg} {Q : Sg → Prop} (h : TkC g b n p) (hlt : p < n) (hQ : ∀ g', TkC g' b n (nx b n p) → (∀ k, k ≠ 8 → g' k = g k) → Q g') : vv_X5_advance nt g Q := by
  unfold vv_X5_advance
  exact ad_loop (b := b) (n := n) (n - stp b n p) (stp b n p) g (Nat.le_refl _) (stp_gt hlt).2 h.1 h.2.2.2.2.1 hQ
theorem h_rewind {nt : Nat} {b : By} {n : Nat} {g : Sg} {Q : Sg → Prop} (h : LetC g b n) (hQ : ∀ g', TkC g' b n (skF isBl b n 0) → (∀ k, k ≠ 8 → g' k = g k) → Q g') : vv_X5_rewind nt g Q := by
  unfold vv_X5_rewind
  rintro g1 rfl
  unfold vv_X5_advance
  exact ad_loop (b := b) (n := n) n 0 (st g 8 5 0) (by omega) (Nat.zero_le _) (h.put (by decide) _) (st_on _ _ _ _) (fun g' a1 a2 => hQ g' a1 (fun k hk => by rw [a2 k hk, st_ne hk]))
