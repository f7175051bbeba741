/-! ===== the reference's signs, words, names ===== -/
theorem wix_lt (w : List Int32) : wix w < 13 := by
  unfold wix
  split
  · decide
  split
  · decide
  split
  · decide
  split
  · decide
  split
  · decide
  split
  · decide
  split
  · decide
  split
  · decide
  split
  · decide
  split
  · decide
  split
  · decide
  split
  · decide
  · decide
theorem tkC_sign {b : By} {n p : Nat} {s : Int32} (hs : isSg s = true) : tkC b n p = s ↔ (tkM b n p = 3 ∧ b p = s) := by
  have hs' : s = 40 ∨ s = 41 ∨ s = 59 ∨ s = 43 ∨ s = 45 ∨ s = 42 ∨ s = 60 ∨ s = 61 := by
    unfold isSg at hs
    simpa [or_assoc] using hs
  have sm : ∀ k : Nat, k < 13 → ¬ wtk k = s := by
    intro k hk
    have : ∀ k, k < 13 → wtk k = 1 ∨ wtk k = 3 ∨ wtk k = 4 ∨ wtk k = 5 ∨ wtk k = 6 ∨ wtk k = 7 ∨ wtk k = 8 ∨ wtk k = 9 := by decide +kernel
    rcases this k hk with h | h | h | h | h | h | h | h <;> (rw [h]; rcases hs' with q | q | q | q | q | q | q | q <;> (rw [q]; decide))
  have lt13 := wix_lt
  unfold tkC tkM
  by_cases h0 : n ≤ p
  · rw [if_pos h0, if_pos h0]
    refine ⟨fun h => ?_, fun h => absurd h.1 (by decide)⟩
    rcases hs' with q | q | q | q | q | q | q | q <;> (rw [q] at h; exact absurd h (by decide))
  rw [if_neg h0, if_neg h0]
  by_cases h1 : isLo (b p) = true
  · rw [if_pos h1, if_pos h1]
    exact ⟨fun h => absurd h (sm _ (lt13 _)), fun h => absurd h.1 (by decide)⟩
  rw [if_neg h1, if_neg h1]
  by_cases h2 : isDg (b p) = true
  · rw [if_pos h2, if_pos h2]
    refine ⟨fun h => ?_, fun h => ?_⟩
    · split at h <;> (rcases hs' with q | q | q | q | q | q | q | q <;> (rw [q] at h; exact absurd h (by decide)))
    · split at h <;> exact absurd h.1 (by decide)
  rw [if_neg h2, if_neg h2]
  by_cases h3 : isSg (b p) = true
  · rw [if_pos h3, if_pos h3]
    exact ⟨fun h => ⟨rfl, h⟩, fun h => h.2⟩
  · rw [if_neg h3, if_neg h3]
    refine ⟨fun h => ?_, fun h => absurd h.1 (by decide)⟩
    rcases hs' with q | q | q | q | q | q | q | q <;> (rw [q] at h; exact absurd h (by decide))
theorem tkC_two {b : By} {n p : Nat} : tkC b n p = 2 ↔ tkM b n p = 2 := by
  have w2 : ∀ k, k < 13 → ¬ wtk k = 2 := by decide +kernel
  have lt13 := wix_lt
  unfold tkC tkM
  by_cases h0 : n ≤ p
  · rw [if_pos h0, if_pos h0]
  rw [if_neg h0, if_neg h0]
  by_cases h1 : isLo (b p) = true
  · rw [if_pos h1, if_pos h1]
    exact ⟨fun h => absurd h (w2 _ (lt13 _)), fun h => absurd h (by decide)⟩
  rw [if_neg h1, if_neg h1]
  by_cases h2 : isDg (b p) = true
  · rw [if_pos h2, if_pos h2]
    split <;> simp
  rw [if_neg h2, if_neg h2]
  by_cases h3 : isSg (b p) = true
  · rw [if_pos h3, if_pos h3]
    refine ⟨fun h => ?_, fun h => absurd h (by decide)⟩
    rw [h] at h3; exact absurd h3 (by decide)
  · rw [if_neg h3, if_neg h3]
    exact ⟨fun h => absurd h (by decide), fun h => absurd h (by decide)⟩
theorem tkC_zero {b : By} {n p : Nat} : tkC b n p = 0 ↔ tkM b n p = 0 := by
  have w2 : ∀ k, k < 13 → ¬ wtk k = 0 := by decide +kernel
  have lt13 := wix_lt
  unfold tkC tkM
  by_cases h0 : n ≤ p
  · rw [if_pos h0, if_pos h0]
  rw [if_neg h0, if_neg h0]
  by_cases h1 : isLo (b p) = true
  · rw [if_pos h1, if_pos h1]
    exact ⟨fun h => absurd h (w2 _ (lt13 _)), fun h => absurd h (by decide)⟩
  rw [if_neg h1, if_neg h1]
  by_cases h2 : isDg (b p) = true
  · rw [if_pos h2, if_pos h2]
    split <;> simp
  rw [if_neg h2, if_neg h2]
  by_cases h3 : isSg (b p) = true
  · rw [if_pos h3, if_pos h3]
    refine ⟨fun h => ?_, fun h => absurd h (by decide)⟩
    rw [h] at h3; exact absurd h3 (by decide)
  · rw [if_neg h3, if_neg h3]
    exact ⟨fun h => absurd h (by decide), fun h => absurd h (by decide)⟩
/-- the word at p -/
def wdA (b : By) (n p : Nat) : Nat := wix (wl b p (stp b n p))
theorem tkM_one {b : By} {n p : Nat} (h : tkM b n p = 1) : p < n ∧ isLo (b p) = true := by
  unfold tkM at h
  by_cases h0 : n ≤ p
  · rw [if_pos h0] at h; exact absurd h (by decide)
  rw [if_neg h0] at h
  by_cases h1 : isLo (b p) = true
  · exact ⟨by omega, h1⟩
  rw [if_neg h1] at h
  by_cases h2 : isDg (b p) = true
  · rw [if_pos h2] at h; split at h <;> exact absurd h (by decide)
  rw [if_neg h2] at h
  split at h <;> exact absurd h (by decide)
theorem tkC_word {b : By} {n p : Nat} (h : tkM b n p = 1) : tkC b n p = wtk (wdA b n p) ∧ stp b n p = skF isLo b n p := by
  obtain ⟨hlt, h1⟩ := tkM_one h
  have es : stp b n p = skF isLo b n p := by unfold stp; rw [if_neg (by omega), if_pos h1]
  exact ⟨by unfold tkC wdA; rw [if_neg (by omega), if_pos h1, es], es⟩
theorem wdA_lt (b : By) (n p : Nat) : wdA b n p < 13 := by
  exact wix_lt _
/-- a key's token: codes 4 .. 9 for words 7 .. 12 -/
theorem tkC_key {b : By} {n p : Nat} {k : Nat} (h7 : 7 ≤ k) (h13 : k < 13) : tkC b n p = nI (k - 3) ↔ (tkM b n p = 1 ∧ wdA b n p = k) := by
  have inj : ∀ a, a < 13 → ∀ k, k < 13 → 7 ≤ k → (wtk a = nI (k - 3) ↔ a = k) := by decide +kernel
  have bad : ∀ k, k < 13 → 7 ≤ k → ¬ (0 : Int32) = nI (k - 3) ∧ ¬ (1 : Int32) = nI (k - 3) ∧ ¬ (2 : Int32) = nI (k - 3) ∧ ¬ (isSg (nI (k - 3)) = true) := by decide +kernel
  constructor
  · intro h
    by_cases h1 : tkM b n p = 1
    · rw [(tkC_word h1).1, inj _ (wdA_lt b n p) _ h13 h7] at h
      exact ⟨h1, h⟩
    · exfalso
      unfold tkC at h
      unfold tkM at h1
      by_cases h0 : n ≤ p
      · rw [if_pos h0] at h; exact (bad k h13 h7).1 h
      rw [if_neg h0] at h h1
      by_cases hl : isLo (b p) = true
      · rw [if_pos hl] at h1; exact h1 rfl
      rw [if_neg hl] at h
      by_cases h2 : isDg (b p) = true
      · rw [if_pos h2] at h
        split at h
        · exact (bad k h13 h7).2.1 h
        · exact (bad k h13 h7).2.2.1 h
      rw [if_neg h2] at h
      by_cases h3 : isSg (b p) = true
      · rw [if_pos h3] at h; rw [h] at h3; exact (bad k h13 h7).2.2.2 h3
      · rw [if_neg h3] at h; exact (bad k h13 h7).2.1 h
  · rintro ⟨h1, h2⟩
    rw [(tkC_word h1).1, inj _ (wdA_lt b n p) _ h13 h7]; exact h2
theorem tkC_name {b : By} {n p : Nat} : tkC b n p = 3 ↔ (tkM b n p = 1 ∧ 1 ≤ wdA b n p ∧ wdA b n p < 7) := by
  have inj : ∀ a, a < 13 → (wtk a = 3 ↔ 1 ≤ a ∧ a < 7) := by decide +kernel
  constructor
  · intro h
    by_cases h1 : tkM b n p = 1
    · rw [(tkC_word h1).1, inj _ (wdA_lt b n p)] at h
      exact ⟨h1, h⟩
    · exfalso
      unfold tkC at h
      unfold tkM at h1
      by_cases h0 : n ≤ p
      · rw [if_pos h0] at h; exact absurd h (by decide)
      rw [if_neg h0] at h h1
      by_cases hl : isLo (b p) = true
      · rw [if_pos hl] at h1; exact h1 rfl
      rw [if_neg hl] at h
      by_cases h2 : isDg (b p) = true
      · rw [if_pos h2] at h
        split at h <;> exact absurd h (by decide)
      rw [if_neg h2] at h
      by_cases h3 : isSg (b p) = true
      · rw [if_pos h3] at h; rw [h] at h3; exact absurd h3 (by decide)
      · rw [if_neg h3] at h; exact absurd h (by decide)
  · rintro ⟨h1, h2⟩
    rw [(tkC_word h1).1, inj _ (wdA_lt b n p)]; exact h2
theorem h_isSignM {b : By} {n t p : Nat} {m : Sg} {s : Int32} {Q : Int32 → Sg → Prop} (h : TkM m b n t p) (hbad : m 0 25 = 0) (hs : isSg s = true) (h1 : tkC b n p = s → Q 1 m) (h0 : ¬ tkC b n p = s → Q 0 m) : vv_X8_isSign s m Q := by
  obtain ⟨hL, e22, e21, e20, e2, e3, hp⟩ := h
  unfold vv_X8_isSign
  rw [e21]
  refine ⟨fun z => absurd hbad z, fun _ => ⟨fun z => h0 (fun q => z (((tkC_sign hs).mp q).1)), fun z => ?_⟩⟩
  rw [lg_cmp_eq, e3 z, i64_eq]
  exact ⟨fun q => h0 (fun r => q ((tkC_sign hs).mp r).2), fun q => h1 ((tkC_sign hs).mpr ⟨z, q⟩)⟩
theorem h_isSignB {m : Sg} {s : Int32} {Q : Int32 → Sg → Prop} (hbad : m 0 25 = 1) (h0 : Q 0 m) : vv_X8_isSign s m Q := by
  unfold vv_X8_isSign
  rw [hbad]
  exact ⟨fun _ => h0, fun z => absurd z (by decide)⟩
def ltr (w i : Nat) : Int32 := (sB.getD w []).getD i 0
theorem h_isLetter {b : By} {n t p q i : Nat} {m : Sg} {x : Int32} {Q : Int32 → Sg → Prop} (hL : LetM m b n t) (e22 : m 0 22 = nI p) (e20 : m 0 20 = nI q) (hq : q ≤ n) (hi : i < 8) (hp : p ≤ n) (hQ : Q (if (if p + i < q then b (p + i) else 0) = x then 1 else 0) m) : vv_X8_isLetter (nI i) x m Q := by
  have h160 := hL.2.2.1
  unfold vv_X8_isLetter
  rw [e20, e22, nI_add]
  refine ⟨fun h => ?_, fun h => ?_⟩
  · have := (nI_leI (by omega) (by omega)).mp h
    rw [if_neg (show ¬ p + i < q by omega)] at hQ
    exact ⟨fun z => by rw [if_neg (fun y => z y.symm)] at hQ; exact hQ, fun z => by rw [if_pos z.symm] at hQ; exact hQ⟩
  · have hlt : p + i < q := Nat.lt_of_not_le (fun z => h (nI_le z (by omega)))
    rw [if_pos hlt] at hQ
    refine h_byteAt hL (by omega) ?_
    rw [show byM b n (p + i) = b (p + i) by unfold byM; rw [if_pos (by omega)]]
    exact ⟨fun z => by rw [if_neg z] at hQ; exact hQ, fun z => by rw [if_pos z] at hQ; exact hQ⟩
theorem ltr_zero : ∀ w, w < 13 → 1 ≤ w → ∀ i, i < 8 → (ltr w i = 0 ↔ (sB.getD w []).length ≤ i) := by decide +kernel
theorem ltr_len : ∀ w, w < 13 → 1 ≤ w → (sB.getD w []).length ≤ 8 := by decide +kernel
theorem word_iff {b : By} {n p q w : Nat} (h1 : 1 ≤ w) (h13 : w < 13) (hq : ∀ i, p ≤ i → i < q → isLo (b i) = true) (h8 : q ≤ p + 8) : (∀ i, i < 8 → (if p + i < q then b (p + i) else 0) = ltr w i) ↔ wl b p q = sB.getD w [] := by
  have hz := ltr_zero w h13 h1
  have hlen := ltr_len w h13 h1
  have ne0 : ∀ i, p ≤ i → i < q → ¬ b i = 0 := fun i a1 a2 e => by
    have := hq i a1 a2
    rw [e] at this
    exact absurd this (by decide)
  constructor
  · intro h
    have e1 : q - p ≤ (sB.getD w []).length := by
      rcases Nat.lt_or_ge (sB.getD w []).length (q - p) with z | z
      · exfalso
        have h2 := h (sB.getD w []).length (by omega)
        rw [if_pos (by omega), (hz _ (by omega)).mpr (Nat.le_refl _)] at h2
        exact ne0 _ (by omega) (by omega) h2
      · exact z
    have e2 : (sB.getD w []).length ≤ q - p := by
      rcases Nat.lt_or_ge (q - p) (sB.getD w []).length with z | z
      · exfalso
        have h2 := h (q - p) (by omega)
        rw [if_neg (by omega)] at h2
        have := (hz (q - p) (by omega)).mp h2.symm
        omega
      · exact z
    apply (eqF_wl (by omega)).mp
    rw [eqF_iff]
    intro k _ hk
    have := h k (by omega)
    rw [if_pos (by omega)] at this
    exact this.symm
  · intro h i hi
    have el : q - p = (sB.getD w []).length := by
      have := congrArg List.length h
      simpa [wl] using this
    by_cases hlt : p + i < q
    · rw [if_pos hlt]
      have := (eqF_iff b p w (q - p) 0).mp ((eqF_wl el).mpr h) i (Nat.zero_le _) (by omega)
      exact this.symm
    · rw [if_neg hlt]
      exact ((hz i hi).mpr (by omega)).symm
theorem h_isWordM {b : By} {n t p w : Nat} {m : Sg} {Q : Int32 → Sg → Prop} (h : TkM m b n t p) (hbad : m 0 25 = 0) (h1 : 1 ≤ w) (h13 : w < 13) (hy : tkM b n p = 1 → wdA b n p = w → Q 1 m) (hn : ¬ (tkM b n p = 1 ∧ wdA b n p = w) → Q 0 m) : vv_X8_isWord (ltr w 0) (ltr w 1) (ltr w 2) (ltr w 3) (ltr w 4) (ltr w 5) (ltr w 6) (ltr w 7) m Q := by
  obtain ⟨hL, e22, e21, e20, e2, e3, hp⟩ := h
  have h160 := hL.2.2.1
  unfold vv_X8_isWord
  rw [e21]
  refine ⟨fun z => absurd hbad z, fun _ => ⟨fun z => hn (fun q => z q.1), fun z => ?_⟩⟩
  obtain ⟨hlt, hlo⟩ := tkM_one z
  obtain ⟨ec, es⟩ := tkC_word z
  have hsp := stp_gt (b := b) hlt
  have f20 := e20 (by rw [z]; decide)
  have hq : ∀ i, p ≤ i → i < stp b n p → isLo (b i) = true := fun i a1 a2 => by rw [es] at a2; exact (skF_all a1 a2).1
  rw [e22, f20, show (8 : Int32) = nI 8 from rfl, nI_add]
  refine ⟨fun h8 => ?_, fun h8 => ?_⟩
  · have h8' := (nI_ltI (by omega) (by omega)).mp h8
    refine hn (fun q => ?_)
    have hw := (wix_of w h1 h13).mpr q.2
    have := congrArg List.length hw
    have hlen := ltr_len w h13 h1
    simp only [wl, List.length_map, List.length_range] at this
    omega
  · have h8' : stp b n p ≤ p + 8 := Nat.le_of_not_lt (fun q => h8 (nI_lt q (by omega)))
    have wi := word_iff (b := b) (n := n) (p := p) (q := stp b n p) h1 h13 hq h8'
    have no : ∀ i, i < 8 → ¬ (if p + i < stp b n p then b (p + i) else 0) = ltr w i → Q 0 m := fun i hi hne => hn (fun q => hne (wi.mpr ((wix_of w h1 h13).mpr q.2) i hi))
    have lt : ∀ (i : Nat) (Q' : Int32 → Sg → Prop), i < 8 → ((if p + i < stp b n p then b (p + i) else 0) = ltr w i → Q' 1 m) → (¬ (if p + i < stp b n p then b (p + i) else 0) = ltr w i → Q' 0 m) → vv_X8_isLetter (nI i) (ltr w i) m Q' := by
      intro i Q' hi k1 k0
      refine h_isLetter hL e22 f20 hsp.2 hi hp ?_
      by_cases hc : (if p + i < stp b n p then b (p + i) else 0) = ltr w i
      · rw [if_pos hc]; exact k1 hc
      · rw [if_neg hc]; exact k0 hc
    refine lt 0 _ (by decide) (fun c0 => ⟨fun h => absurd h (by decide), fun _ => ?_⟩) (fun c => ⟨fun _ => no 0 (by decide) c, fun h => absurd rfl h⟩)
    refine lt 1 _ (by decide) (fun c1 => ⟨fun h => absurd h (by decide), fun _ => ?_⟩) (fun c => ⟨fun _ => no 1 (by decide) c, fun h => absurd rfl h⟩)
    refine lt 2 _ (by decide) (fun c2 => ⟨fun h => absurd h (by decide), fun _ => ?_⟩) (fun c => ⟨fun _ => no 2 (by decide) c, fun h => absurd rfl h⟩)
    refine lt 3 _ (by decide) (fun c3 => ⟨fun h => absurd h (by decide), fun _ => ?_⟩) (fun c => ⟨fun _ => no 3 (by decide) c, fun h => absurd rfl h⟩)
    refine lt 4 _ (by decide) (fun c4 => ⟨fun h => absurd h (by decide), fun _ => ?_⟩) (fun c => ⟨fun _ => no 4 (by decide) c, fun h => absurd rfl h⟩)
    refine lt 5 _ (by decide) (fun c5 => ⟨fun h => absurd h (by decide), fun _ => ?_⟩) (fun c => ⟨fun _ => no 5 (by decide) c, fun h => absurd rfl h⟩)
    refine lt 6 _ (by decide) (fun c6 => ⟨fun h => absurd h (by decide), fun _ => ?_⟩) (fun c => ⟨fun _ => no 6 (by decide) c, fun h => absurd rfl h⟩)
    refine lt 7 _ (by decide) (fun c7 => ⟨fun h => absurd h (by decide), fun _ => ?_⟩) (fun c => ⟨fun _ => no 7 (by decide) c, fun h => absurd rfl h⟩)
    refine hy z ((wix_of w h1 h13).mp (wi.mp (fun i hi => ?_)))
    rcases (show i = 0 ∨ i = 1 ∨ i = 2 ∨ i = 3 ∨ i = 4 ∨ i = 5 ∨ i = 6 ∨ i = 7 by omega) with rfl | rfl | rfl | rfl | rfl | rfl | rfl | rfl
    · exact c0
    · exact c1
    · exact c2
    · exact c3
    · exact c4
    · exact c5
    · exact c6
    · exact c7
theorem h_isWordB {m : Sg} {a b c d e f g h : Int32} {Q : Int32 → Sg → Prop} (hbad : m 0 25 = 1) (h0 : Q 0 m) : vv_X8_isWord a b c d e f g h m Q := by
  unfold vv_X8_isWord
  rw [hbad]
  exact ⟨fun _ => h0, fun z => absurd z (by decide)⟩
/-- what a failing reading leaves: bad, and where -/
def FrM (m m' : Sg) : Prop := (∀ k, k ≠ 0 → m' k = m k) ∧ ∀ j, (j < 20 ∨ 26 < j) → m' 0 j = m 0 j
theorem FrM.rf (m : Sg) : FrM m m := ⟨fun _ _ => rfl, fun _ _ => rfl⟩
theorem FrM.tr {a b c : Sg} (h1 : FrM a b) (h2 : FrM b c) : FrM a c := ⟨fun k hk => by rw [h2.1 k hk, h1.1 k hk], fun j hj => by rw [h2.2 j hj, h1.2 j hj]⟩
theorem FrM.put (m : Sg) {j : Nat} (h : 20 ≤ j ∧ j ≤ 26) (x : Int32) : FrM m (st m 0 j x) := ⟨fun k hk => st_ne hk, fun i hi => st_off m (by omega) x⟩
theorem FrN.M {a b : Sg} (h : FrN a b) : FrM a b := ⟨h.1, fun j hj => h.2 j (by omega)⟩
def BdM (m : Sg) (q : Nat) : Prop := m 0 25 = 1 ∧ m 0 26 = nI q
theorem h_fail {b : By} {n t p : Nat} {m : Sg} {Q : Sg → Prop} (h : TkM m b n t p) (hbad : m 0 25 = 0) (hQ : ∀ m', BdM m' p → FrM m m' → Q m') : vv_X8_fail m Q := by
  unfold vv_X8_fail
  refine ⟨fun z => absurd hbad z, fun _ => ?_⟩
  rintro m2 rfl m3 rfl
  exact hQ _ ⟨by rw [st_off _ (by decide), st_on], by rw [st_on, st_off _ (by decide)]; exact h.2.1⟩ ((FrM.put m (by decide) _).tr (FrM.put _ (by decide) _))
theorem h_failB {q : Nat} {m : Sg} {Q : Sg → Prop} (h : BdM m q) (hQ : Q m) : vv_X8_fail m Q := by
  unfold vv_X8_fail
  rw [h.1]
  exact ⟨fun _ => hQ, fun z => absurd z (by decide)⟩
