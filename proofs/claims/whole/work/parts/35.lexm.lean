/-! ===== the reference's tokens ===== -/
theorem i64_int (x : Int32) : x.toInt64.toInt = x.toInt := by first | exact Int32.toInt_toInt64 x | simp
theorem i64_lt (x y : Int32) : x.toInt64 < y.toInt64 ↔ x < y := by
  first
  | (rw [Int64.lt_iff_toInt_lt, Int32.lt_iff_toInt_lt, i64_int, i64_int]; done)
  | (simp [Int64.lt_iff_toInt_lt, Int32.lt_iff_toInt_lt]; done)
theorem i64_eq (x y : Int32) : x.toInt64 = y.toInt64 ↔ x = y := by
  constructor
  · intro h
    have := congrArg Int64.toInt h
    rw [i64_int, i64_int] at this
    exact Int32.toInt_inj.mp this
  · intro h; rw [h]
theorem i64_32 (x : Int32) : x.toInt64.toInt32 = x := by first | exact Int32.toInt32_toInt64 x | simp
theorem i64_lin (x y : Int32) : (((10 : Int64) * x.toInt64 + y.toInt64) - 48).toInt32 = x * 10 + y - 48 := by
  first
  | (rw [Int64.toInt32_sub, Int64.toInt32_add, Int64.toInt32_mul, i64_32, i64_32, show (10 : Int64).toInt32 = 10 from rfl, show (48 : Int64).toInt32 = 48 from rfl, Int32.mul_comm]; done)
  | (simp [i64_32, Int32.mul_comm]; done)
theorem h_in {x l h : Int32} {lo hi : Int64} {m : Sg} {Q : Int32 → Sg → Prop} (hl : lo = l.toInt64) (hh : hi = h.toInt64) (hQ : Q (if l ≤ x ∧ x ≤ h then 1 else 0) m) : vv_X8_in x.toInt64 lo hi m Q := by
  subst hl; subst hh
  unfold vv_X8_in
  rw [lg_cmp_lt, lg_cmp_gt, i64_lt, i64_lt]
  refine ⟨fun h1 => ?_, fun h1 => ⟨fun h2 => ?_, fun h2 => ?_⟩⟩
  · rw [if_neg (fun q => Int32.not_le.mpr h1 q.1)] at hQ; exact hQ
  · rw [if_neg (fun q => Int32.not_le.mpr h2 q.2)] at hQ; exact hQ
  · rw [if_pos ⟨Int32.not_lt.mp h1, Int32.not_lt.mp h2⟩] at hQ; exact hQ
def LetM (m : Sg) (b : By) (n t : Nat) : Prop := m 0 18 = nI (160 * t) ∧ m 0 19 = nI n ∧ n ≤ 160 ∧ t < 6 ∧ (∀ i, i < n → m 1 (160 * t + i) = b i) ∧ ∀ i, i < n → 0 ≤ b i
theorem LetM.put {m : Sg} {b : By} {n t : Nat} (h : LetM m b n t) {j : Nat} (h1 : j ≠ 18) (h2 : j ≠ 19) (x : Int32) : LetM (st m 0 j x) b n t := by
  obtain ⟨a1, a2, a3, a4, a5, a6⟩ := h
  exact ⟨by rw [st_off _ (Ne.symm h1)]; exact a1, by rw [st_off _ (Ne.symm h2)]; exact a2, a3, a4, fun i hi => by rw [st_ne (by decide)]; exact a5 i hi, a6⟩
def byM (b : By) (n j : Nat) : Int32 := if j < n then b j else -1
theorem h_byteAt {m : Sg} {b : By} {n t j : Nat} {Q : Int32 → Sg → Prop} (hL : LetM m b n t) (hj : j ≤ 160) (hQ : Q (byM b n j) m) : vv_X8_byteAt (nI j) m Q := by
  obtain ⟨a1, a2, a3, a4, a5, a6⟩ := hL
  unfold vv_X8_byteAt
  unfold byM at hQ
  rw [a1, a2]
  refine ⟨fun h => ?_, fun h => ?_⟩
  · have := (nI_leI (by omega) (by omega)).mp h
    rw [if_neg (by omega)] at hQ
    exact hQ
  · have hlt : j < n := Nat.lt_of_not_le (fun q => h (nI_le q (by omega)))
    rw [nI_add, nI_clamp (by omega), a5 j hlt]
    rw [if_pos hlt] at hQ
    exact ⟨vp_in_nI (by omega) (by decide), hQ⟩
theorem skp_all (P : Int32 → Bool) (b : By) (n : Nat) : ∀ f p i, p ≤ i → i < skp P b n f p → P (b i) = true ∧ i < n
  | 0, p, i, h1, h2 => by simp only [skp] at h2; omega
  | f + 1, p, i, h1, h2 => by
    simp only [skp] at h2
    split at h2
    · rename_i h
      by_cases hi : i = p
      · subst hi; exact ⟨h.2, h.1⟩
      · exact skp_all P b n f (p + 1) i (by omega) h2
    · omega
theorem skF_all {P : Int32 → Bool} {b : By} {n p i : Nat} (h1 : p ≤ i) (h2 : i < skF P b n p) : P (b i) = true ∧ i < n := skp_all P b n _ p i h1 h2
theorem isLo_iff (x : Int32) : isLo x = true ↔ (97 : Int32) ≤ x ∧ x ≤ 122 := by unfold isLo; simp
theorem isDg_iff (x : Int32) : isDg x = true ↔ (48 : Int32) ≤ x ∧ x ≤ 57 := by unfold isDg; simp
theorem isDg_nI {x : Int32} (h : isDg x = true) : ∃ c : Nat, 48 ≤ c ∧ c ≤ 57 ∧ x = nI c := by
  obtain ⟨h1, h2⟩ := (isDg_iff x).mp h
  have h0 : ¬ x < 0 := fun q => absurd (Int32.lt_of_lt_of_le q (by decide : (0 : Int32) ≤ 48)) (Int32.not_lt.mpr h1)
  obtain ⟨j, hj, rfl⟩ := nI_of2 (n := 57) (M := 57) (by decide) h0 h2
  exact ⟨j, (nI_leI (a := 48) (by omega) (by omega)).mp h1, hj, rfl⟩
theorem dcI_nI {b : By} {p : Nat} : ∀ k, k ≤ 4 → (∀ i, i < k → isDg (b (p + i)) = true) → ∃ a : Nat, a < 10 ^ k ∧ dcI b p k = nI a
  | 0, _, _ => ⟨0, by decide, rfl⟩
  | k + 1, hk, h => by
    obtain ⟨a, ha, e⟩ := dcI_nI k (by omega) (fun i hi => h i (by omega))
    obtain ⟨c, c1, c2, ec⟩ := isDg_nI (h k (by omega))
    refine ⟨a * 10 + c - 48, ?_, ?_⟩
    · rw [Nat.pow_succ]; omega
    · show dcI b p k * 10 + b (p + k) - 48 = _
      rw [e, ec, show (10 : Int32) = nI 10 from rfl, show (48 : Int32) = nI 48 from rfl, pk_mul, nI_add, pk_sub (by omega)]
def tkM (b : By) (n p : Nat) : Int32 := if n ≤ p then 0 else if isLo (b p) = true then 1 else if isDg (b p) = true then (if 4 < skF isDg b n p - p then 4 else 2) else if isSg (b p) = true then 3 else 4
def FrN (m m' : Sg) : Prop := (∀ k, k ≠ 0 → m' k = m k) ∧ ∀ j, (j < 20 ∨ 23 < j) → m' 0 j = m 0 j
theorem FrN.rf (m : Sg) : FrN m m := ⟨fun _ _ => rfl, fun _ _ => rfl⟩
theorem FrN.tr {a b c : Sg} (h1 : FrN a b) (h2 : FrN b c) : FrN a c := ⟨fun k hk => by rw [h2.1 k hk, h1.1 k hk], fun j hj => by rw [h2.2 j hj, h1.2 j hj]⟩
theorem FrN.put (m : Sg) {j : Nat} (h : 20 ≤ j ∧ j ≤ 23) (x : Int32) : FrN m (st m 0 j x) := ⟨fun k hk => st_ne hk, fun i hi => st_off m (by omega) x⟩
def TkM (m : Sg) (b : By) (n t p : Nat) : Prop := LetM m b n t ∧ m 0 22 = nI p ∧ m 0 21 = tkM b n p ∧ (¬ tkM b n p = 4 → m 0 20 = nI (stp b n p)) ∧ (tkM b n p = 2 → m 0 23 = dcI b p (stp b n p - p)) ∧ (tkM b n p = 3 → m 0 23 = b p) ∧ p ≤ n
theorem nx_word {b : By} {n t : Nat} {Q : Sg → Prop} : ∀ (f j : Nat) (m : Sg), n - j ≤ f → j ≤ n → LetM m b n t → m 0 20 = nI j → Q (st m 0 20 (nI (skF isLo b n j))) → ∃ k, vv_X8_next_L100 Q k m := by
  intro f
  induction f with
  | zero =>
    intro j m h1 h2 hL h20 hQ
    have hj : j = n := by omega
    subst hj
    have h160 := hL.2.2.1
    refine ⟨1, ?_⟩
    unfold vv_X8_next_L100
    rw [h20]
    refine h_byteAt hL (by omega) (h_in (l := 97) (h := 122) rfl rfl ?_)
    rw [show byM b j j = -1 by unfold byM; rw [if_neg (by omega)], if_neg (by decide)]
    rw [skF_stop (by omega), st_same h20] at hQ
    exact ⟨fun _ => hQ, fun h => absurd rfl h⟩
  | succ f ih =>
    intro j m h1 h2 hL h20 hQ
    have h160 := hL.2.2.1
    by_cases hP : j < n ∧ isLo (b j) = true
    · obtain ⟨k, hk⟩ := ih (j + 1) (st m 0 20 (nI (j + 1))) (by omega) (by omega) (hL.put (by decide) (by decide) _) (st_on _ _ _ _) (by rw [st_st, ← skF_step hP.1 hP.2]; exact hQ)
      refine ⟨k + 1, ?_⟩
      unfold vv_X8_next_L100
      rw [h20]
      refine h_byteAt hL (by omega) (h_in (l := 97) (h := 122) rfl rfl ?_)
      rw [show byM b n j = b j by unfold byM; rw [if_pos hP.1], if_pos ((isLo_iff _).mp hP.2)]
      refine ⟨fun h => absurd h (by decide), fun _ => ?_⟩
      rintro m2 rfl
      rw [h20, nI_1]; exact hk
    · refine ⟨1, ?_⟩
      unfold vv_X8_next_L100
      rw [h20]
      refine h_byteAt hL (by omega) (h_in (l := 97) (h := 122) rfl rfl ?_)
      have e : ¬ ((97 : Int32) ≤ byM b n j ∧ byM b n j ≤ 122) := by
        unfold byM
        by_cases hj : j < n
        · rw [if_pos hj]; exact fun q => hP ⟨hj, (isLo_iff _).mpr q⟩
        · rw [if_neg hj]; decide
      rw [if_neg e]
      rw [skF_stop hP, st_same h20] at hQ
      exact ⟨fun _ => hQ, fun h => absurd rfl h⟩
theorem nx_num {b : By} {n t p : Nat} {Q : Sg → Prop} : ∀ (f j : Nat) (m : Sg), n - j ≤ f → j ≤ n → p ≤ j → (∀ i, p ≤ i → i < j → isDg (b i) = true) → LetM m b n t → m 0 20 = nI j → m 0 23 = dcI b p (if j - p ≤ 4 then j - p else 4) →
    (∀ m', LetM m' b n t → m' 0 20 = nI (skF isDg b n j) → m' 0 22 = m 0 22 → m' 0 21 = (if 4 < skF isDg b n j - p then 4 else 2) → m' 0 23 = dcI b p (if skF isDg b n j - p ≤ 4 then skF isDg b n j - p else 4) → FrN m m' → Q m') → ∃ k, vv_X8_next_L160 Q k (nI (j - p)) m := by
  have fin : ∀ (j : Nat) (m : Sg), j ≤ 160 → p ≤ j → LetM m b n t → m 0 20 = nI j → (∀ m', LetM m' b n t → m' 0 20 = nI j → m' 0 22 = m 0 22 → m' 0 21 = (if 4 < j - p then 4 else 2) → m' 0 23 = m 0 23 → FrN m m' → Q m') → ((nI (j - p) ≤ 4 → vv_X8_next_J246 2 m Q) ∧ (¬ nI (j - p) ≤ 4 → vv_X8_next_J246 4 m Q)) := by
    intro j m hj hp hL h20 hQ
    unfold vv_X8_next_J246
    refine ⟨fun h => ?_, fun h => ?_⟩
    · have h4 : j - p ≤ 4 := (nI_leI (b := 4) (by omega) (by omega)).mp h
      rintro m2 rfl
      exact hQ _ (hL.put (by decide) (by decide) _) (by rw [st_off _ (by decide)]; exact h20) (by rw [st_off _ (by decide)]) (by rw [st_on, if_neg (by omega)]) (by rw [st_off _ (by decide)]) (FrN.put m (by decide) _)
    · have h4 : ¬ j - p ≤ 4 := fun q => h ((nI_leI (b := 4) (by omega) (by omega)).mpr q)
      rintro m2 rfl
      exact hQ _ (hL.put (by decide) (by decide) _) (by rw [st_off _ (by decide)]; exact h20) (by rw [st_off _ (by decide)]) (by rw [st_on, if_pos (by omega)]) (by rw [st_off _ (by decide)]) (FrN.put m (by decide) _)
  intro f
  induction f with
  | zero =>
    intro j m h1 h2 hp hd hL h20 h23 hQ
    have hj : j = n := by omega
    subst hj
    have h160 := hL.2.2.1
    refine ⟨1, ?_⟩
    unfold vv_X8_next_L160
    rw [h20]
    refine h_byteAt hL (by omega) (h_in (l := 48) (h := 57) rfl rfl ?_)
    rw [show byM b j j = -1 by unfold byM; rw [if_neg (by omega)], if_neg (by decide)]
    rw [skF_stop (by omega)] at hQ
    exact ⟨fun _ => fin j m (by omega) hp hL h20 (fun m' a1 a2 a3 a4 a5 a6 => hQ m' a1 a2 a3 a4 (by rw [a5, h23]) a6), fun h => absurd rfl h⟩
  | succ f ih =>
    intro j m h1 h2 hp hd hL h20 h23 hQ
    have h160 := hL.2.2.1
    by_cases hP : j < n ∧ isDg (b j) = true
    · have hd' : ∀ i, p ≤ i → i < j + 1 → isDg (b i) = true := fun i a1 a2 => by
        by_cases hi : i = j
        · rw [hi]; exact hP.2
        · exact hd i a1 (by omega)
      have ejp : j + 1 - p = (j - p) + 1 := by omega
      have go : ∀ w : Int32, w = dcI b p (if j + 1 - p ≤ 4 then j + 1 - p else 4) → ∃ k, vv_X8_next_L160 Q k (nI (j + 1 - p)) (st (st m 0 23 w) 0 20 (nI (j + 1))) := fun w hw =>
        ih (j + 1) _ (by omega) (by omega) (by omega) hd' ((hL.put (by decide) (by decide) _).put (by decide) (by decide) _) (st_on _ _ _ _) (by rw [st_off _ (by decide), st_on, hw])
          (by rw [← skF_step hP.1 hP.2]; exact fun m' a1 a2 a3 a4 a5 a6 => hQ m' a1 a2 (by rw [a3, st_off _ (by decide), st_off _ (by decide)]) a4 a5 (((FrN.put m (by decide) _).tr (FrN.put _ (by decide) _)).tr a6))
      by_cases h4 : 4 ≤ j - p
      · have e4 : (if j - p ≤ 4 then j - p else 4) = (if j + 1 - p ≤ 4 then j + 1 - p else 4) := by
          rw [if_neg (show ¬ j + 1 - p ≤ 4 by omega)]
          by_cases h5 : j - p ≤ 4
          · rw [if_pos h5]; omega
          · rw [if_neg h5]
        obtain ⟨k, hk⟩ := go (m 0 23) (by rw [h23, e4])
        refine ⟨k + 1, ?_⟩
        unfold vv_X8_next_L160
        rw [h20]
        refine h_byteAt hL (by omega) (h_in (l := 48) (h := 57) rfl rfl ?_)
        rw [show byM b n j = b j by unfold byM; rw [if_pos hP.1], if_pos ((isDg_iff _).mp hP.2)]
        refine ⟨fun h => absurd h (by decide), fun _ => ⟨fun _ => ?_, fun h => absurd (nI_le (a := 4) h4 (by omega)) h⟩⟩
        unfold vv_X8_next_J216
        rw [i64_32]
        refine ⟨rfl, ?_⟩
        rintro m2 rfl x rfl m3 rfl
        rw [st_off _ (by decide), h20, nI_1, nI_1, ← ejp]
        exact hk
      · obtain ⟨a, ha, ea⟩ := dcI_nI (b := b) (p := p) (j - p) (by omega) (fun i hi => hd (p + i) (by omega) (by omega))
        obtain ⟨c, c1, c2, ec⟩ := isDg_nI hP.2
        have ha3 : a < 1000 := Nat.lt_of_lt_of_le ha (Nat.pow_le_pow_right (by decide) (by omega : j - p ≤ 3))
        rw [if_pos (by omega)] at h23
        have ed : dcI b p (if j + 1 - p ≤ 4 then j + 1 - p else 4) = m 0 23 * 10 + b j - 48 := by
          rw [if_pos (by omega), ejp, h23]
          show dcI b p (j - p) * 10 + b (p + (j - p)) - 48 = _
          rw [show p + (j - p) = j by omega]
        obtain ⟨k, hk⟩ := go _ ed.symm
        refine ⟨k + 1, ?_⟩
        unfold vv_X8_next_L160
        rw [h20]
        refine h_byteAt hL (by omega) (h_in (l := 48) (h := 57) rfl rfl ?_)
        rw [show byM b n j = b j by unfold byM; rw [if_pos hP.1], if_pos ((isDg_iff _).mp hP.2)]
        refine ⟨fun h => absurd h (by decide), fun _ => ⟨fun h => absurd ((nI_leI (a := 4) (by omega) (by omega)).mp h) h4, fun _ => ?_⟩⟩
        rw [h20]
        refine h_byteAt hL (by omega) ?_
        rw [show byM b n j = b j by unfold byM; rw [if_pos hP.1]]
        unfold vv_X8_next_J216
        rw [i64_lin]
        refine ⟨?_, ?_⟩
        · rw [h23, ea, ec, show (10 : Int32) = nI 10 from rfl, show (48 : Int32) = nI 48 from rfl, pk_mul, nI_add, pk_sub (by omega), nI_l (by omega), nI_l (by omega), nI_l (by omega), show (10 : Int64) = lN 10 from rfl, show (48 : Int64) = lN 48 from rfl, lN_mul, lN_add, lN_sub (by omega), Nat.mul_comm]
        · rintro m2 rfl x rfl m3 rfl
          rw [st_off _ (by decide), h20, nI_1, nI_1, ← ejp]
          exact hk
    · refine ⟨1, ?_⟩
      unfold vv_X8_next_L160
      rw [h20]
      refine h_byteAt hL (by omega) (h_in (l := 48) (h := 57) rfl rfl ?_)
      have e : ¬ ((48 : Int32) ≤ byM b n j ∧ byM b n j ≤ 57) := by
        unfold byM
        by_cases hj : j < n
        · rw [if_pos hj]; exact fun q => hP ⟨hj, (isDg_iff _).mpr q⟩
        · rw [if_neg hj]; decide
      rw [if_neg e]
      rw [skF_stop hP] at hQ
      exact ⟨fun _ => fin j m (by omega) hp hL h20 (fun m' a1 a2 a3 a4 a5 a6 => hQ m' a1 a2 a3 a4 (by rw [a5, h23]) a6), fun h => absurd rfl h⟩
theorem nx_loop {b : By} {n t : Nat} {Q : Sg → Prop} : ∀ (f j : Nat) (m : Sg), n - j ≤ f → j ≤ n → LetM m b n t → m 0 20 = nI j → (∀ m', TkM m' b n t (skF isBl b n j) → FrN m m' → Q m') → ∃ k, vv_X8_next_L0 Q k m := by
  have fin : ∀ (p : Nat) (m : Sg), p ≤ n → LetM m b n t → m 0 20 = nI p → ¬ (p < n ∧ isBl (b p) = true) → (∀ m', TkM m' b n t p → FrN m m' → Q m') → vv_X8_next_L0 Q 1 m := by
    intro p m hp hL h20 hB hQ
    have h160 := hL.2.2.1
    have n1 : ¬ byM b n p = 32 := by
      unfold byM
      by_cases hlt : p < n
      · rw [if_pos hlt]; exact fun q => hB ⟨hlt, by unfold isBl; simp [q]⟩
      · rw [if_neg hlt]; decide
    have n2 : ¬ byM b n p = 10 := by
      unfold byM
      by_cases hlt : p < n
      · rw [if_pos hlt]; exact fun q => hB ⟨hlt, by unfold isBl; simp [q]⟩
      · rw [if_neg hlt]; decide
    unfold vv_X8_next_L0
    rw [h20]
    refine h_byteAt hL (by omega) ⟨fun h => absurd h n1, fun _ => ?_⟩
    rw [h20]
    refine h_byteAt hL (by omega) ⟨fun _ => ?_, fun h => absurd h n2⟩
    rw [h20]
    rintro m2 rfl
    have L2 := hL.put (j := 22) (by decide) (by decide) (nI p)
    rw [st_off _ (by decide), h20]
    refine h_byteAt L2 (by omega) ?_
    rintro x rfl m3 rfl
    have L3 := L2.put (j := 21) (by decide) (by decide) 4
    obtain ⟨m3, em3⟩ : ∃ y, y = st (st m 0 22 (nI p)) 0 21 4 := ⟨_, rfl⟩
    rw [← em3] at L3 ⊢
    have e20 : m3 0 20 = nI p := by rw [em3, st_off _ (by decide), st_off _ (by decide), h20]
    have e21 : m3 0 21 = 4 := by rw [em3, st_on]
    have e22 : m3 0 22 = nI p := by rw [em3, st_off _ (by decide), st_on]
    have F3 : FrN m m3 := by rw [em3]; exact (FrN.put m (by decide) _).tr (FrN.put _ (by decide) _)
    by_cases hlt : p < n
    · have eb : byM b n p = b p := by unfold byM; rw [if_pos hlt]
      have hb0 := hL.2.2.2.2.2 p hlt
      rw [eb]
      refine ⟨fun _ => h_in (l := 97) (h := 122) rfl rfl ?_, fun h => absurd hb0 h⟩
      by_cases h1 : isLo (b p) = true
      · rw [if_pos ((isLo_iff _).mp h1)]
        refine ⟨fun h => absurd h (by decide), fun _ => ?_⟩
        rintro m4 rfl
        have et : tkM b n p = 1 := by unfold tkM; rw [if_neg (by omega), if_pos h1]
        have es : stp b n p = skF isLo b n p := by unfold stp; rw [if_neg (by omega), if_pos h1]
        refine nx_word (b := b) (n := n) (t := t) (n - p) p _ (Nat.le_refl _) hp (L3.put (by decide) (by decide) _) (by rw [st_off _ (by decide)]; exact e20) ?_
        refine hQ _ ⟨(L3.put (by decide) (by decide) _).put (by decide) (by decide) _, ?_, ?_, fun _ => ?_, fun h => ?_, fun h => ?_, hp⟩ ((F3.tr (FrN.put _ (by decide) _)).tr (FrN.put _ (by decide) _))
        · rw [st_off _ (by decide), st_off _ (by decide)]; exact e22
        · rw [st_off _ (by decide), st_on, et]
        · rw [st_on, es]
        · rw [et] at h; exact absurd h (by decide)
        · rw [et] at h; exact absurd h (by decide)
      · rw [if_neg (fun q => h1 ((isLo_iff _).mpr q))]
        refine ⟨fun _ => h_in (l := 48) (h := 57) rfl rfl ?_, fun h => absurd rfl h⟩
        by_cases h2 : isDg (b p) = true
        · rw [if_pos ((isDg_iff _).mp h2)]
          refine ⟨fun h => absurd h (by decide), fun _ => ?_⟩
          rintro m4 rfl
          refine ⟨rfl, ?_⟩
          rintro m5 rfl x rfl
          have es : stp b n p = skF isDg b n p := by unfold stp; rw [if_neg (by omega), if_neg h1, if_pos h2]
          have et : tkM b n p = if 4 < stp b n p - p then 4 else 2 := by rw [es]; unfold tkM; rw [if_neg (by omega), if_neg h1, if_pos h2]
          have L5 := (L3.put (j := 21) (by decide) (by decide) 2).put (j := 23) (by decide) (by decide) (Int64.toInt32 0)
          have key := nx_num (b := b) (n := n) (t := t) (p := p) (Q := Q) (n - p) p _ (Nat.le_refl _) hp (Nat.le_refl _) (fun i a1 a2 => by omega) L5 (by rw [st_off _ (by decide), st_off _ (by decide)]; exact e20) (by rw [st_on, Nat.sub_self]; rfl)
          rw [Nat.sub_self] at key
          refine key (fun m' a1 a2 a3 a4 a5 a6 => ?_)
          rw [← es] at a2 a4 a5
          refine hQ m' ⟨a1, ?_, ?_, fun _ => a2, fun h => ?_, fun h => ?_, hp⟩ (((F3.tr (FrN.put _ (by decide) _)).tr (FrN.put _ (by decide) _)).tr a6)
          · rw [a3, st_off _ (by decide), st_off _ (by decide)]; exact e22
          · rw [a4, et]
          · rw [a5]
            by_cases h4 : 4 < stp b n p - p
            · rw [et, if_pos h4] at h; exact absurd h (by decide)
            · rw [if_pos (by omega)]
          · by_cases h4 : 4 < stp b n p - p
            · rw [et, if_pos h4] at h; exact absurd h (by decide)
            · rw [et, if_neg h4] at h; exact absurd h (by decide)
        · rw [if_neg (fun q => h2 ((isDg_iff _).mpr q))]
          refine ⟨fun _ => ?_, fun h => absurd rfl h⟩
          have es : stp b n p = p + 1 := by unfold stp; rw [if_neg (by omega), if_neg h1, if_neg h2]
          have sg : isSg (b p) = true → vv_X8_next_J300 (b p) m3 Q := by
            intro h3
            have et : tkM b n p = 3 := by unfold tkM; rw [if_neg (by omega), if_neg h1, if_neg h2, if_pos h3]
            unfold vv_X8_next_J300
            rw [i64_32]
            rintro m4 rfl
            refine ⟨rfl, ?_⟩
            rintro m5 rfl m6 rfl
            refine hQ _ ⟨((L3.put (by decide) (by decide) _).put (by decide) (by decide) _).put (by decide) (by decide) _, ?_, ?_, fun _ => ?_, fun h => ?_, fun h => ?_, hp⟩ (((F3.tr (FrN.put _ (by decide) _)).tr (FrN.put _ (by decide) _)).tr (FrN.put _ (by decide) _))
            · rw [st_off _ (by decide), st_off _ (by decide), st_off _ (by decide)]; exact e22
            · rw [st_off _ (by decide), st_off _ (by decide), st_on, et]
            · rw [st_on, st_off _ (by decide), st_off _ (by decide), e20, nI_1, es]
            · rw [et] at h; exact absurd h (by decide)
            · rw [st_off _ (by decide), st_on]
          refine ⟨fun e => sg (by unfold isSg; simp [e]), fun k1 => ⟨fun e => sg (by unfold isSg; simp [e]), fun k2 => ⟨fun e => sg (by unfold isSg; simp [e]), fun k3 => ⟨fun e => sg (by unfold isSg; simp [e]), fun k4 => ⟨fun e => sg (by unfold isSg; simp [e]), fun k5 => ⟨fun e => sg (by unfold isSg; simp [e]), fun k6 => ⟨fun e => sg (by unfold isSg; simp [e]), fun k7 => ⟨fun k8 => ?_, fun e => sg (by unfold isSg; simp [e])⟩⟩⟩⟩⟩⟩⟩⟩
          have h3 : ¬ isSg (b p) = true := by unfold isSg; simp [k1, k2, k3, k4, k5, k6, k7, k8]
          have et : tkM b n p = 4 := by unfold tkM; rw [if_neg (by omega), if_neg h1, if_neg h2, if_neg h3]
          exact hQ _ ⟨L3, e22, by rw [e21, et], fun h => absurd et h, fun h => by rw [et] at h; exact absurd h (by decide), fun h => by rw [et] at h; exact absurd h (by decide), hp⟩ F3
    · have hn : p = n := by omega
      have eb : byM b n p = -1 := by unfold byM; rw [if_neg hlt]
      rw [eb]
      refine ⟨fun h => absurd h (by decide), fun _ => ?_⟩
      rintro m4 rfl m5 rfl
      have et : tkM b n p = 0 := by unfold tkM; rw [if_pos (by omega)]
      have es : stp b n p = p := by unfold stp; rw [if_pos (by omega)]
      refine hQ _ ⟨(L3.put (by decide) (by decide) _).put (by decide) (by decide) _, ?_, ?_, fun _ => ?_, fun h => ?_, fun h => ?_, hp⟩ ((F3.tr (FrN.put _ (by decide) _)).tr (FrN.put _ (by decide) _))
      · rw [st_on, st_off _ (by decide), L3.2.1, hn]
      · rw [st_off _ (by decide), st_on, et]
      · rw [st_off _ (by decide), st_off _ (by decide), e20, es]
      · rw [et] at h; exact absurd h (by decide)
      · rw [et] at h; exact absurd h (by decide)
  intro f
  induction f with
  | zero =>
    intro j m h1 h2 hL h20 hQ
    have hj : ¬ (j < n ∧ isBl (b j) = true) := by omega
    rw [skF_stop hj] at hQ
    exact ⟨1, fin j m h2 hL h20 hj hQ⟩
  | succ f ih =>
    intro j m h1 h2 hL h20 hQ
    have h160 := hL.2.2.1
    by_cases hP : j < n ∧ isBl (b j) = true
    · obtain ⟨k, hk⟩ := ih (j + 1) (st m 0 20 (nI (j + 1))) (by omega) (by omega) (hL.put (by decide) (by decide) _) (st_on _ _ _ _) (by rw [← skF_step hP.1 hP.2]; exact fun m' a1 a2 => hQ m' a1 ((FrN.put m (by decide) _).tr a2))
      have go : vv_X8_next_J26 (vv_X8_next_L0 Q k) m Q := by
        unfold vv_X8_next_J26
        rintro m2 rfl
        rw [h20, nI_1]; exact hk
      refine ⟨k + 1, ?_⟩
      unfold vv_X8_next_L0
      rw [h20]
      refine h_byteAt hL (by omega) ⟨fun _ => go, fun n1 => ?_⟩
      rw [h20]
      refine h_byteAt hL (by omega) ⟨fun n2 => ?_, fun _ => go⟩
      have hh := hP.2
      rw [show byM b n j = b j by unfold byM; rw [if_pos hP.1]] at n1 n2
      unfold isBl at hh
      simp [n1, n2] at hh
    · rw [skF_stop hP] at hQ
      exact ⟨1, fin j m h2 hL h20 hP hQ⟩
theorem h_next {b : By} {n t p : Nat} {m : Sg} {Q : Sg → Prop} (h : TkM m b n t p) (hlt : p < n) (h4 : ¬ tkM b n p = 4) (hQ : ∀ m', TkM m' b n t (nx b n p) → FrN m m' → Q m') : vv_X8_next m Q := by
  unfold vv_X8_next
  exact nx_loop (b := b) (n := n) (t := t) (n - stp b n p) (stp b n p) m (Nat.le_refl _) (stp_gt hlt).2 h.1 (h.2.2.2.1 h4) hQ
