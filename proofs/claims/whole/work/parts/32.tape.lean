/-! ===== the class's tape: what a token is ===== -/
theorem st_st (g : Sg) (k j : Nat) (a b : Int32) : st (st g k j a) k j b = st g k j b := by
  funext x y
  unfold st
  by_cases h1 : x = k
  · by_cases h2 : y = j <;> simp [h1, h2]
  · simp [h1]
theorem st_comm (g : Sg) {k j j' : Nat} (h : j ≠ j') (a b : Int32) : st (st g k j a) k j' b = st (st g k j' b) k j a := by
  funext x y
  unfold st
  by_cases h1 : x = k
  · by_cases h2 : y = j
    · by_cases h3 : y = j'
      · omega
      · simp [h1, h2, h]
    · by_cases h3 : y = j' <;> simp [h1, h3, h, Ne.symm h]
  · simp [h1]
theorem st_off (g : Sg) {k j j' : Nat} (h : j' ≠ j) (a : Int32) : st g k j a k j' = g k j' := by rw [st_at, if_neg h]
theorem st_on (g : Sg) (k j : Nat) (a : Int32) : st g k j a k j = a := by rw [st_at, if_pos rfl]
def LetC (g : Sg) (b : By) (n : Nat) : Prop := g 8 1 = nI n ∧ n ≤ 160 ∧ ∀ i, i < n → g 9 i = b i
theorem LetC.put {g : Sg} {b : By} {n : Nat} (h : LetC g b n) {j : Nat} (hj : j ≠ 1) (x : Int32) : LetC (st g 8 j x) b n := ⟨by rw [st_off g (Ne.symm hj)]; exact h.1, h.2.1, fun i hi => by rw [st_ne (by decide)]; exact h.2.2 i hi⟩
theorem h_isLower {nt : Nat} {x : Int32} {g : Sg} {Q : Int32 → Sg → Prop} (h : Q (if isLo x = true then 1 else 0) g) : vv_X5_isLower nt x g Q := by
  unfold vv_X5_isLower
  unfold isLo at h
  refine ⟨fun h1 => ?_, fun h1 => ⟨fun h2 => ?_, fun h2 => ?_⟩⟩
  · rw [if_neg (by simp [Int32.not_le.mpr h1])] at h; exact h
  · rw [if_neg (by simp [Int32.not_le.mpr h2])] at h; exact h
  · rw [if_pos (by simp [Int32.not_lt.mp h1, Int32.not_lt.mp h2])] at h; exact h
theorem h_isDigit {nt : Nat} {x : Int32} {g : Sg} {Q : Int32 → Sg → Prop} (h : Q (if isDg x = true then 1 else 0) g) : vv_X5_isDigit nt x g Q := by
  unfold vv_X5_isDigit
  unfold isDg at h
  refine ⟨fun h1 => ?_, fun h1 => ⟨fun h2 => ?_, fun h2 => ?_⟩⟩
  · rw [if_neg (by simp [Int32.not_le.mpr h1])] at h; exact h
  · rw [if_neg (by simp [Int32.not_le.mpr h2])] at h; exact h
  · rw [if_pos (by simp [Int32.not_lt.mp h1, Int32.not_lt.mp h2])] at h; exact h
theorem h_isSign {nt : Nat} {x : Int32} {g : Sg} {Q : Int32 → Sg → Prop} (h : Q (if isSg x = true then 1 else 0) g) : vv_X5_isSign nt x g Q := by
  unfold vv_X5_isSign vv_X5_isSign_J48
  unfold isSg at h
  refine ⟨fun e => ?_, fun n1 => ⟨fun e => ?_, fun n2 => ⟨fun e => ?_, fun n3 => ⟨fun e => ?_, fun n4 => ⟨fun e => ?_, fun n5 => ⟨fun e => ?_, fun n6 => ⟨fun e => ?_, fun n7 => ⟨fun n8 => ?_, fun e => ?_⟩⟩⟩⟩⟩⟩⟩⟩
  all_goals first | (subst e; exact h) | (rw [if_neg (by simp [n1, n2, n3, n4, n5, n6, n7, n8])] at h; exact h)
theorem sk_loopL {nt : Nat} {b : By} {n : Nat} {Q : Sg → Prop} : ∀ (f j : Nat) (g : Sg), n - j ≤ f → j ≤ n → LetC g b n → g 8 5 = nI j → Q (st g 8 5 (nI (skF isLo b n j))) → ∃ k, vv_X5_skipWord_L0 nt Q k g := by
  intro f
  induction f with
  | zero =>
    intro j g h1 h2 hL h5 hQ
    have hj : j = n := by omega
    subst hj
    refine ⟨1, ?_⟩
    unfold vv_X5_skipWord_L0
    rw [h5, hL.1]
    refine ⟨fun _ => ?_, fun h => absurd (nI_le (Nat.le_refl j) (by have := hL.2.1; omega)) h⟩
    rw [skF_stop (by omega), ← h5] at hQ
    rw [show st g 8 5 (g 8 5) = g by funext x y; unfold st; split <;> (try split) <;> simp_all] at hQ
    exact hQ
  | succ f ih =>
    intro j g h1 h2 hL h5 hQ
    have h160 := hL.2.1
    by_cases hj : j < n
    · by_cases hP : isLo (b j) = true
      · obtain ⟨k, hk⟩ := ih (j + 1) (st g 8 5 (nI (j + 1))) (by omega) (by omega) (hL.put (by decide) _) (st_on _ _ _ _) (by rw [st_st, ← skF_step hj hP]; exact hQ)
        refine ⟨k + 1, ?_⟩
        unfold vv_X5_skipWord_L0
        rw [h5, hL.1, nI_clamp (by omega)]
        refine ⟨fun h => absurd h (nI_ge hj (by omega)), fun _ => ⟨vp_in_nI (by omega) (by decide), h_isLower ?_⟩⟩
        rw [hL.2.2 j hj, if_pos hP]
        refine ⟨fun h => absurd h (by decide), fun _ => ?_⟩
        rintro g2 rfl
        rw [h5, nI_1]; exact hk
      · refine ⟨1, ?_⟩
        unfold vv_X5_skipWord_L0
        rw [h5, hL.1, nI_clamp (by omega)]
        refine ⟨fun h => absurd h (nI_ge hj (by omega)), fun _ => ⟨vp_in_nI (by omega) (by decide), h_isLower ?_⟩⟩
        rw [hL.2.2 j hj, if_neg hP]
        refine ⟨fun _ => ?_, fun h => absurd rfl h⟩
        rw [skF_stop (fun q => hP q.2), ← h5] at hQ
        rw [show st g 8 5 (g 8 5) = g by funext x y; unfold st; split <;> (try split) <;> simp_all] at hQ
        exact hQ
    · have hj : j = n := by omega
      subst hj
      refine ⟨1, ?_⟩
      unfold vv_X5_skipWord_L0
      rw [h5, hL.1]
      refine ⟨fun _ => ?_, fun h => absurd (nI_le (Nat.le_refl j) (by omega)) h⟩
      rw [skF_stop (by omega), ← h5] at hQ
      rw [show st g 8 5 (g 8 5) = g by funext x y; unfold st; split <;> (try split) <;> simp_all] at hQ
      exact hQ
theorem st_same {g : Sg} {k j : Nat} {v : Int32} (h : g k j = v) : st g k j v = g := by
  subst h
  funext x y
  unfold st
  split
  · rename_i h; subst h; split
    · rename_i h; subst h; rfl
    · rfl
  · rfl
/-- String constants -/
theorem sN_len : ∀ w, w < 13 → sN.getD w 0 = (sB.getD w []).length := by decide +kernel
theorem sB_chr : ∀ w, w < 13 → ∀ i, i < 44 → ((((sB.getD w []).getD i 0) &&& (255 : Int32)).toUInt32 % 65536).toInt32 = (sB.getD w []).getD i 0 := by decide +kernel
theorem sN_le : ∀ w, w < 13 → sN.getD w 0 ≤ 44 := by decide +kernel
theorem sN_sh : ∀ w, w < 13 → (Int32.ofNat (sN.getD w 0)) >>> ((0 : Int32) &&& 31) = nI (sN.getD w 0) := by decide +kernel
theorem h_slen {nt w : Nat} {g : Sg} {Q : Int32 → Sg → Prop} (hw : w < 13) (h : Q (nI (sN.getD w 0)) g) : vv_J0_length_8abf5 nt w g Q := by
  unfold vv_J0_length_8abf5 vv_J0_coder_7d493
  refine ⟨hw, hw, fun h => absurd h (by decide), fun _ => ?_⟩
  show Q (Int32.ofNat (sN.getD w 0) >>> ((0 : Int32) &&& 31)) g
  rw [sN_sh w hw]; exact h
theorem h_schr {nt w i : Nat} {g : Sg} {Q : Int32 → Sg → Prop} (hw : w < 13) (hi : i < sN.getD w 0) (h : Q ((sB.getD w []).getD i 0) g) : vv_J0_charAt_5068e nt w (nI i) g Q := by
  have h44 := sN_le w hw
  have e := sB_chr w hw i (by omega)
  have hn : narrow .char (.int ((sB.getD w []).getD i 0)) = .int ((sB.getD w []).getD i 0) := by
    rw [← e]; exact pk_nc _
  unfold vv_J0_charAt_5068e vv_J0_isLatin1_aae02 vv_J1_charAt_3b067 vv_J0_checkIndex_df160
  refine ⟨hw, hw, fun h => absurd h (by decide), fun _ => ⟨fun h => absurd rfl h, fun _ => ⟨fun h => absurd h (by decide), fun _ => ⟨hw, nI_pos (by omega), nI_lt hi (by omega), vp_in_nI hi (by omega), ?_⟩⟩⟩⟩
  rw [nI_clamp (by omega), e]
  exact ⟨hn, hn, h⟩
def eqF (b : By) (p w : Nat) : Nat → Nat → Bool
  | 0, _ => true
  | f + 1, i => decide ((sB.getD w []).getD i 0 = b (p + i)) && eqF b p w f (i + 1)
theorem eqF_iff (b : By) (p w : Nat) : ∀ f i, eqF b p w f i = true ↔ ∀ k, i ≤ k → k < i + f → (sB.getD w []).getD k 0 = b (p + k)
  | 0, i => ⟨fun _ k h1 h2 => by omega, fun _ => rfl⟩
  | f + 1, i => by
    simp only [eqF, Bool.and_eq_true, decide_eq_true_eq, eqF_iff b p w f (i + 1)]
    constructor
    · rintro ⟨h1, h2⟩ k h3 h4
      by_cases hk : k = i
      · rw [hk]; exact h1
      · exact h2 k (by omega) (by omega)
    · intro h
      exact ⟨h i (Nat.le_refl i) (by omega), fun k h1 h2 => h k (by omega) (by omega)⟩
theorem eqF_wl {b : By} {p q w : Nat} (hl : q - p = (sB.getD w []).length) : (eqF b p w (q - p) 0 = true ↔ wl b p q = sB.getD w []) := by
  rw [eqF_iff]
  generalize sB.getD w [] = W at hl ⊢
  constructor
  · intro h
    apply List.ext_getElem?
    intro i
    unfold wl
    by_cases hi : i < q - p
    · rw [List.getElem?_map, List.getElem?_range hi]
      have := h i (Nat.zero_le _) (by omega)
      rw [List.getElem?_eq_getElem (by omega)]
      simp only [Option.map_some]
      rw [← this]
      simp [List.getD, List.getElem?_eq_getElem (show i < W.length by omega)]
    · rw [List.getElem?_eq_none (by simp; omega), List.getElem?_eq_none (by omega)]
  · intro h k _ hk
    rw [← h]
    unfold wl
    simp [List.getD, List.getElem?_map, List.getElem?_range (show k < q - p by omega)]
theorem sp_loop {nt w : Nat} {b : By} {n p q : Nat} {g : Sg} {Q : Int32 → Sg → Prop} (hw : w < 13) (hL : LetC g b n) (h2 : g 8 2 = nI p) (hq : q ≤ n) (hpq : p ≤ q) (hlen : sN.getD w 0 = q - p) : ∀ (f i : Nat), i + f = q - p → Q (if eqF b p w f i = true then 1 else 0) g → ∃ k, vv_X5_spells_L20 nt Q k w (nI i) g := by
  have h44 := sN_le w hw
  have h160 := hL.2.1
  intro f
  induction f with
  | zero =>
    intro i hi hQ
    refine ⟨1, ?_⟩
    unfold vv_X5_spells_L20
    refine h_slen hw ⟨fun _ => hQ, fun h => absurd (nI_le (by omega) (by omega)) h⟩
  | succ f ih =>
    intro i hi hQ
    by_cases he : (sB.getD w []).getD i 0 = b (p + i)
    · obtain ⟨k, hk⟩ := ih (i + 1) (by omega) (by simp only [eqF, he, decide_true, Bool.true_and] at hQ; exact hQ)
      refine ⟨k + 1, ?_⟩
      unfold vv_X5_spells_L20
      refine h_slen hw ⟨fun h => absurd h (nI_ge (by omega) (by omega)), fun _ => h_schr hw (by omega) ?_⟩
      rw [h2, nI_add, nI_clamp (by omega), hL.2.2 _ (by omega)]
      refine ⟨vp_in_nI (by omega) (by decide), fun _ => ?_, fun h => absurd he h⟩
      rintro x rfl
      rw [nI_1]; exact hk
    · refine ⟨1, ?_⟩
      unfold vv_X5_spells_L20
      refine h_slen hw ⟨fun h => absurd h (nI_ge (by omega) (by omega)), fun _ => h_schr hw (by omega) ?_⟩
      rw [h2, nI_add, nI_clamp (by omega), hL.2.2 _ (by omega)]
      refine ⟨vp_in_nI (by omega) (by decide), fun h => absurd h he, fun _ => ?_⟩
      simp only [eqF, he, decide_false, Bool.false_and] at hQ
      exact hQ
theorem h_spells {nt w : Nat} {b : By} {n p q : Nat} {g : Sg} {Q : Int32 → Sg → Prop} (hw : w < 13) (hL : LetC g b n) (h2 : g 8 2 = nI p) (h5 : g 8 5 = nI q) (hq : q ≤ n) (hpq : p ≤ q) (hQ : Q (if wl b p q = sB.getD w [] then 1 else 0) g) : vv_X5_spells nt w g Q := by
  have h44 := sN_le w hw
  have h160 := hL.2.1
  unfold vv_X5_spells
  refine ⟨hw, h_slen hw ?_⟩
  rw [h5, h2, pk_sub hpq]
  refine ⟨fun h => ?_, fun h => ?_⟩
  · have hl : sN.getD w 0 = q - p := (nI_eq (by omega) (by omega)).mp h
    rintro x rfl
    refine sp_loop hw hL h2 hq hpq hl (q - p) 0 (by omega) ?_
    have e := eqF_wl (b := b) (p := p) (q := q) (w := w) (by rw [← hl]; exact sN_len w hw)
    by_cases he : eqF b p w (q - p) 0 = true
    · rw [if_pos (e.mp he)] at hQ; rw [if_pos he]; exact hQ
    · rw [if_neg (fun z => he (e.mpr z))] at hQ; rw [if_neg he]; exact hQ
  · rw [if_neg (fun z => h (by
      have := congrArg List.length z
      rw [← sN_len w hw] at this
      simp only [wl, List.length_map, List.length_range] at this
      rw [this]))] at hQ
    exact hQ
theorem h_word {nt : Nat} {b : By} {n p q : Nat} {g : Sg} {Q : Int32 → Sg → Prop} (hL : LetC g b n) (h2 : g 8 2 = nI p) (h5 : g 8 5 = nI q) (hq : q ≤ n) (hpq : p ≤ q) (hQ : Q (wtk (wix (wl b p q))) (if wtk (wix (wl b p q)) = 3 then st g 8 4 (10000 + nI (wix (wl b p q) - 1)) else g)) : vv_X5_wordAtHand nt g Q := by
  have sp : ∀ (w : Nat) (Q' : Int32 → Sg → Prop), w < 13 → (wl b p q = sB.getD w [] → Q' 1 g) → (¬ wl b p q = sB.getD w [] → Q' 0 g) → vv_X5_spells nt w g Q' := by
    intro w Q' hw k1 k2
    refine h_spells hw hL h2 h5 hq hpq ?_
    by_cases h : wl b p q = sB.getD w []
    · rw [if_pos h]; exact k1 h
    · rw [if_neg h]; exact k2 h
  have name : ∀ (k : Nat) (x : Int32), 1 ≤ k → k < 7 → x = nI (k - 1) → ¬ x = -1 → wl b p q = sB.getD k [] → vv_X5_wordAtHand_J79 nt x g Q := by
    intro k x h1 h7 hx hn hw
    have e := (wix_of k h1 (by omega)).mp hw
    have ew : wtk k = 3 := by unfold wtk; rw [if_neg (by omega), if_pos h7]
    unfold vv_X5_wordAtHand_J79
    rintro y rfl
    refine ⟨fun h => absurd h hn, fun _ => ?_⟩
    rintro g2 rfl
    rw [e, ew, if_pos rfl, ← hx] at hQ
    exact hQ
  have key : ∀ (k : Nat) (t : Int32), 7 ≤ k → k < 13 → t = nI (k - 3) → wl b p q = sB.getD k [] → Q t g := by
    intro k t h1 h7 ht hw
    have e := (wix_of k (by omega) (by omega)).mp hw
    have ew : wtk k = t := by unfold wtk; rw [if_neg (by omega), if_neg (by omega), ht]
    rw [e, ew, if_neg] at hQ
    · exact hQ
    · rw [ht]; intro h
      have := (nI_eq (a := k - 3) (b := 3) (by omega) (by omega)).mp h
      omega
  unfold vv_X5_wordAtHand
  refine sp 1 _ (by decide) (fun h => ⟨fun h => absurd h (by decide), fun _ => name 1 0 (by decide) (by decide) rfl (by decide) h⟩) (fun n1 => ⟨fun _ => ?_, fun h => absurd rfl h⟩)
  refine sp 2 _ (by decide) (fun h => ⟨fun h => absurd h (by decide), fun _ => name 2 1 (by decide) (by decide) rfl (by decide) h⟩) (fun n2 => ⟨fun _ => ?_, fun h => absurd rfl h⟩)
  refine sp 3 _ (by decide) (fun h => ⟨fun h => absurd h (by decide), fun _ => name 3 2 (by decide) (by decide) rfl (by decide) h⟩) (fun n3 => ⟨fun _ => ?_, fun h => absurd rfl h⟩)
  refine sp 4 _ (by decide) (fun h => ⟨fun h => absurd h (by decide), fun _ => name 4 3 (by decide) (by decide) rfl (by decide) h⟩) (fun n4 => ⟨fun _ => ?_, fun h => absurd rfl h⟩)
  refine sp 5 _ (by decide) (fun h => ⟨fun h => absurd h (by decide), fun _ => name 5 4 (by decide) (by decide) rfl (by decide) h⟩) (fun n5 => ⟨fun _ => ?_, fun h => absurd rfl h⟩)
  refine sp 6 _ (by decide) (fun h => ⟨fun h => absurd h (by decide), fun _ => name 6 5 (by decide) (by decide) rfl (by decide) h⟩) (fun n6 => ⟨fun _ => ?_, fun h => absurd rfl h⟩)
  unfold vv_X5_wordAtHand_J79
  rintro x rfl
  refine ⟨fun _ => ?_, fun h => absurd rfl h⟩
  refine sp 7 _ (by decide) (fun h => ⟨fun h => absurd h (by decide), fun _ => key 7 4 (by decide) (by decide) rfl h⟩) (fun n7 => ⟨fun _ => ?_, fun h => absurd rfl h⟩)
  refine sp 8 _ (by decide) (fun h => ⟨fun h => absurd h (by decide), fun _ => key 8 5 (by decide) (by decide) rfl h⟩) (fun n8 => ⟨fun _ => ?_, fun h => absurd rfl h⟩)
  refine sp 9 _ (by decide) (fun h => ⟨fun h => absurd h (by decide), fun _ => key 9 6 (by decide) (by decide) rfl h⟩) (fun n9 => ⟨fun _ => ?_, fun h => absurd rfl h⟩)
  refine sp 10 _ (by decide) (fun h => ⟨fun h => absurd h (by decide), fun _ => key 10 7 (by decide) (by decide) rfl h⟩) (fun n10 => ⟨fun _ => ?_, fun h => absurd rfl h⟩)
  refine sp 11 _ (by decide) (fun h => ⟨fun h => absurd h (by decide), fun _ => key 11 8 (by decide) (by decide) rfl h⟩) (fun n11 => ⟨fun _ => ?_, fun h => absurd rfl h⟩)
  refine sp 12 _ (by decide) (fun h => ⟨fun h => absurd h (by decide), fun _ => key 12 9 (by decide) (by decide) rfl h⟩) (fun n12 => ⟨fun _ => ?_, fun h => absurd rfl h⟩)
  have e0 : wix (wl b p q) = 0 := by unfold wix; rw [if_neg n1, if_neg n2, if_neg n3, if_neg n4, if_neg n5, if_neg n6, if_neg n7, if_neg n8, if_neg n9, if_neg n10, if_neg n11, if_neg n12]
  rw [e0] at hQ
  exact hQ
