/-! ===== taken(), burn(), image(), back() ===== -/
def upP (a : Nat) : List Int32 := if a = 0 then [0] else if a = 1 then [1, 0] else if a = 2 then [2, 0] else if a = 3 then [3, 1, 0] else if a = 4 then [4, 2, 0] else [5, 0]
theorem und_s {nt n : Nat} {k x y j : Int32} {c : Sg} {Q : Int32 → Sg → Prop} (h1 : ¬ (6 : Int32) ≤ j) (h2 : ¬ x < 0) (h3 : ¬ (6 : Int32) ≤ x) (h4 : ¬ (x < 0 ∨ 6 ≤ x.toNatClampNeg)) (h5 : tA x.toNatClampNeg = y) (hy : x = k → Q 1 c) (hn : ¬ x = k → vv_X7_isUnder_L4 nt Q n k y (j + 1) c) : vv_X7_isUnder_L4 nt Q (n + 1) k x j c := by
  unfold vv_X7_isUnder_L4
  refine ⟨fun z => absurd z h1, fun _ => ⟨fun z => absurd z h2, fun _ => ⟨fun z => absurd z h3, fun _ => ⟨fun z => ⟨h4, ?_⟩, hy⟩⟩⟩⟩
  rintro a rfl b rfl
  rw [h5]; exact hn z
theorem und_e {nt n : Nat} {k j : Int32} {c : Sg} {Q : Int32 → Sg → Prop} (hQ : Q 0 c) : vv_X7_isUnder_L4 nt Q (n + 1) k (-1) j c := by
  unfold vv_X7_isUnder_L4
  exact ⟨fun _ => hQ, fun _ => ⟨fun _ => hQ, fun z => absurd (show (-1 : Int32) < 0 by decide) z⟩⟩
theorem und_0 {nt n : Nat} {k j : Int32} {c : Sg} {Q : Int32 → Sg → Prop} (hj : ¬ (6 : Int32) ≤ j) (hy : 0 = k → Q 1 c) (hn : ¬ 0 = k → Q 0 c) : vv_X7_isUnder_L4 nt Q (n + 2) k 0 j c :=
  und_s hj (by decide) (by decide) (by decide) (y := -1) rfl hy (fun z => und_e (hn z))
theorem h_under {nt a : Nat} {k : Int32} {c : Sg} {Q : Int32 → Sg → Prop} (ha : a < 6) (hQ : Q (if k ∈ upP a then 1 else 0) c) : vv_X7_isUnder nt (nI a) k c Q := by
  unfold vv_X7_isUnder
  rintro x rfl j rfl
  refine ⟨4, ?_⟩
  rcases (show a = 0 ∨ a = 1 ∨ a = 2 ∨ a = 3 ∨ a = 4 ∨ a = 5 by omega) with rfl | rfl | rfl | rfl | rfl | rfl
  · refine und_0 (by decide) (fun z => ?_) (fun z => ?_)
    · subst z; exact hQ
    · rw [if_neg (by simp [upP]; exact fun q => z q.symm)] at hQ; exact hQ
  · refine und_s (x := 1) (y := 0) (by decide) (by decide) (by decide) (by decide) rfl (fun z => ?_) (fun z => und_0 (by decide) (fun z => ?_) (fun z' => ?_))
    · subst z; exact hQ
    · subst z; exact hQ
    · rw [if_neg (by simp [upP]; exact ⟨fun q => z q.symm, fun q => z' q.symm⟩)] at hQ; exact hQ
  · refine und_s (x := 2) (y := 0) (by decide) (by decide) (by decide) (by decide) rfl (fun z => ?_) (fun z => und_0 (by decide) (fun z => ?_) (fun z' => ?_))
    · subst z; exact hQ
    · subst z; exact hQ
    · rw [if_neg (by simp [upP]; exact ⟨fun q => z q.symm, fun q => z' q.symm⟩)] at hQ; exact hQ
  · refine und_s (x := 3) (y := 1) (by decide) (by decide) (by decide) (by decide) rfl (fun z => ?_) (fun z => und_s (x := 1) (y := 0) (by decide) (by decide) (by decide) (by decide) rfl (fun z => ?_) (fun z' => und_0 (by decide) (fun z => ?_) (fun z'' => ?_)))
    · subst z; exact hQ
    · subst z; exact hQ
    · subst z; exact hQ
    · rw [if_neg (by simp [upP]; exact ⟨fun q => z q.symm, fun q => z' q.symm, fun q => z'' q.symm⟩)] at hQ; exact hQ
  · refine und_s (x := 4) (y := 2) (by decide) (by decide) (by decide) (by decide) rfl (fun z => ?_) (fun z => und_s (x := 2) (y := 0) (by decide) (by decide) (by decide) (by decide) rfl (fun z => ?_) (fun z' => und_0 (by decide) (fun z => ?_) (fun z'' => ?_)))
    · subst z; exact hQ
    · subst z; exact hQ
    · subst z; exact hQ
    · rw [if_neg (by simp [upP]; exact ⟨fun q => z q.symm, fun q => z' q.symm, fun q => z'' q.symm⟩)] at hQ; exact hQ
  · refine und_s (x := 5) (y := 0) (by decide) (by decide) (by decide) (by decide) rfl (fun z => ?_) (fun z => und_0 (by decide) (fun z => ?_) (fun z' => ?_))
    · subst z; exact hQ
    · subst z; exact hQ
    · rw [if_neg (by simp [upP]; exact ⟨fun q => z q.symm, fun q => z' q.symm⟩)] at hQ; exact hQ
theorem ovr_s {n : Nat} {p k x y : Int32} {m : Sg} {Q : Int32 → Sg → Prop} (h1 : ¬ x = -1) (h2 : ∀ R : Int32 → Sg → Prop, R y m → vv_X8_over x m R) (hy : x = k → vv_X8_taken_J51 p k x m Q) (hn : ¬ x = k → vv_X8_taken_L33 Q n p k y m) : vv_X8_taken_L33 Q (n + 1) p k x m := by
  unfold vv_X8_taken_L33
  refine ⟨fun z => absurd z h1, fun _ => ⟨hy, fun z => h2 _ ?_⟩⟩
  rintro a rfl
  exact hn z
theorem ovr_e {n : Nat} {p k : Int32} {m : Sg} {Q : Int32 → Sg → Prop} (h : vv_X8_taken_J51 p k (-1) m Q) : vv_X8_taken_L33 Q (n + 1) p k (-1) m := by
  unfold vv_X8_taken_L33
  exact ⟨fun _ => h, fun z => absurd rfl z⟩
theorem ov_0 {m : Sg} (R : Int32 → Sg → Prop) (h : R (-1) m) : vv_X8_over 0 m R := by unfold vv_X8_over; exact ⟨fun z => absurd rfl z, fun _ => h⟩
theorem ov_3 {m : Sg} (R : Int32 → Sg → Prop) (h : R 1 m) : vv_X8_over 3 m R := by unfold vv_X8_over; exact ⟨fun _ => ⟨fun z => absurd rfl z, fun _ => h⟩, fun z => absurd z (by decide)⟩
theorem ov_4 {m : Sg} (R : Int32 → Sg → Prop) (h : R 2 m) : vv_X8_over 4 m R := by unfold vv_X8_over; exact ⟨fun _ => ⟨fun _ => ⟨fun z => absurd rfl z, fun _ => h⟩, fun z => absurd z (by decide)⟩, fun z => absurd z (by decide)⟩
theorem ov_o {m : Sg} {x : Int32} (h0 : ¬ x = 0) (h3 : ¬ x = 3) (h4 : ¬ x = 4) (R : Int32 → Sg → Prop) (h : R 0 m) : vv_X8_over x m R := by unfold vv_X8_over; exact ⟨fun _ => ⟨fun _ => ⟨fun _ => h, fun z => absurd z h4⟩, fun z => absurd z h3⟩, fun z => absurd z h0⟩
theorem h_over {a i : Nat} {k : Int32} {m : Sg} {Q : Int32 → Sg → Prop} (ha : a < 6) (hi : i < 8) (hk : ¬ k = -1) (hQ : Q (if k ∈ upP a then m 5 (5 * i) else -13) m) : ∃ f, vv_X8_taken_L33 Q f (nI i) k (nI a) m := by
  refine ⟨4, ?_⟩
  have yes : k ∈ upP a → ∀ x, x = k → vv_X8_taken_J51 (nI i) k x m Q := fun e x hx => by
    unfold vv_X8_taken_J51
    rw [if_pos e] at hQ
    refine ⟨fun z => absurd hx z, fun _ => ?_⟩
    rw [ix5, nI_clamp (by omega)]
    exact ⟨vp_in_nI (by omega) (by decide), hQ⟩
  have no : k ∉ upP a → vv_X8_taken_J51 (nI i) k (-1) m Q := fun e => by
    unfold vv_X8_taken_J51
    rw [if_neg e] at hQ
    exact ⟨fun _ => hQ, fun z => absurd z.symm hk⟩
  rcases (show a = 0 ∨ a = 1 ∨ a = 2 ∨ a = 3 ∨ a = 4 ∨ a = 5 by omega) with rfl | rfl | rfl | rfl | rfl | rfl
  · refine ovr_s (x := 0) (by decide) ov_0 (fun z => yes (by subst z; simp [upP]) _ z) (fun z => ovr_e (no (by simp [upP]; exact fun q => z q.symm)))
  · refine ovr_s (x := 1) (by decide) (ov_o (by decide) (by decide) (by decide)) (fun z => yes (by subst z; simp [upP]) _ z) (fun z => ovr_s (x := 0) (by decide) ov_0 (fun z => yes (by subst z; simp [upP]) _ z) (fun z' => ovr_e (no (by simp [upP]; exact ⟨fun q => z q.symm, fun q => z' q.symm⟩))))
  · refine ovr_s (x := 2) (by decide) (ov_o (by decide) (by decide) (by decide)) (fun z => yes (by subst z; simp [upP]) _ z) (fun z => ovr_s (x := 0) (by decide) ov_0 (fun z => yes (by subst z; simp [upP]) _ z) (fun z' => ovr_e (no (by simp [upP]; exact ⟨fun q => z q.symm, fun q => z' q.symm⟩))))
  · refine ovr_s (x := 3) (by decide) ov_3 (fun z => yes (by subst z; simp [upP]) _ z) (fun z => ovr_s (x := 1) (by decide) (ov_o (by decide) (by decide) (by decide)) (fun z => yes (by subst z; simp [upP]) _ z) (fun z' => ovr_s (x := 0) (by decide) ov_0 (fun z => yes (by subst z; simp [upP]) _ z) (fun z'' => ovr_e (no (by simp [upP]; exact ⟨fun q => z q.symm, fun q => z' q.symm, fun q => z'' q.symm⟩)))))
  · refine ovr_s (x := 4) (by decide) ov_4 (fun z => yes (by subst z; simp [upP]) _ z) (fun z => ovr_s (x := 2) (by decide) (ov_o (by decide) (by decide) (by decide)) (fun z => yes (by subst z; simp [upP]) _ z) (fun z' => ovr_s (x := 0) (by decide) ov_0 (fun z => yes (by subst z; simp [upP]) _ z) (fun z'' => ovr_e (no (by simp [upP]; exact ⟨fun q => z q.symm, fun q => z' q.symm, fun q => z'' q.symm⟩)))))
  · refine ovr_s (x := 5) (by decide) (ov_o (by decide) (by decide) (by decide)) (fun z => yes (by subst z; simp [upP]) _ z) (fun z => ovr_s (x := 0) (by decide) ov_0 (fun z => yes (by subst z; simp [upP]) _ z) (fun z' => ovr_e (no (by simp [upP]; exact ⟨fun q => z q.symm, fun q => z' q.symm⟩))))
theorem rng_nI {x : Int32} {n : Nat} (hn : n < 2 ^ 31) (h : (0 : Int32) ≤ x ∧ x ≤ nI n) : ∃ a : Nat, a ≤ n ∧ x = nI a := by
  obtain ⟨j, hj, rfl⟩ := nI_of (Int32.not_lt.mpr h.1)
  exact ⟨j, (nI_leI hj hn).mp h.2, rfl⟩
theorem eq_taken {m c : Sg} {nt : Nat} (h : Rel m c nt) (x1 x2 : Int32) : vv_X7_taken nt x1 x2 c (fun r c' => vv_X8_taken x1 x2 m (fun r' m' => r = r' ∧ Rel m' c' nt)) := by
  have h' := h
  obtain ⟨N, hp, hd, hr, ht, ha, hi, hs⟩ := h
  unfold vv_X7_taken vv_X8_taken
  refine h_range (w := 7) (by decide) ?_
  by_cases r1 : tL 7 ≤ x2 ∧ x2 ≤ tG 7
  · rw [if_pos r1]
    refine ⟨fun _ => h_isPaper hp.2.1 hp.2.2.1 (fun i hi e => ⟨fun _ => ?_, fun z => absurd z (by decide)⟩) (fun no => ⟨fun z => absurd rfl z, fun _ => ?_⟩), fun z => absurd z (by decide)⟩
    · subst e
      obtain ⟨f1, f2⟩ := hp.2.2.2 i hi
      obtain ⟨a, ha, ea⟩ := rng_nI (n := 5) (by decide) f2.1
      have hi8 : i < 8 := by have := hp.2.2.1; omega
      refine ⟨vp_in_nI hi8 (by decide), ?_⟩
      rw [pp4 i (by omega), f1 0 (by decide), ea]
      refine h_under (by omega) ?_
      have fin : vv_X8_in x2.toInt64 0 5 m (fun r_2 g_1 => ((¬ r_2 = 0) → (vv_X8_isOne (nI i) g_1 (fun r_5 g_4 => ((¬ r_5 = 0) → (vp_in (nI i) 8 ∧ (∀ x3_7 : Int32, x3_7 = (g_4 4 (nI i).toNatClampNeg) → (∃ k9, vv_X8_taken_L33 (fun r' m' => (if x2 ∈ upP a then m 5 (5 * i) else -13) = r' ∧ Rel m' c nt) k9 (nI i) x2 x3_7 g_4)))) ∧ ((r_5 = 0) → (((if x2 ∈ upP a then m 5 (5 * i) else -13) = (-11 : Int32)) ∧ Rel g_4 c nt))))) ∧ ((r_2 = 0) → (((if x2 ∈ upP a then m 5 (5 * i) else -13) = (-2 : Int32)) ∧ Rel g_1 c nt))) := by
        refine h_in (l := 0) (h := 5) rfl rfl ?_
        rw [if_pos (show (0 : Int32) ≤ x2 ∧ x2 ≤ 5 from r1)]
        refine ⟨fun _ => h_isOne hp.1 hp.2.2.1 (fun j hj e => ⟨fun _ => ⟨vp_in_nI hi8 (by decide), ?_⟩, fun z => absurd z (by decide)⟩) (fun no => absurd ⟨i, hi, rfl⟩ no), fun z => absurd z (by decide)⟩
        rintro k rfl
        rw [nI_clamp (by omega), show m 4 i = nI a from ea]
        exact h_over (by omega) hi8 (fun z => absurd (z ▸ r1.1) (by decide)) ⟨rfl, h'⟩
      by_cases hk : x2 ∈ upP a
      · rw [if_pos hk]
        rw [if_pos hk] at fin
        refine ⟨fun z => absurd z (by decide), fun _ => ?_⟩
        rw [f1 1 (by decide)]
        exact fin
      · rw [if_neg hk]
        rw [if_neg hk] at fin
        exact ⟨fun _ => fin, fun z => absurd rfl z⟩
    · refine h_in (l := 0) (h := 5) rfl rfl ?_
      rw [if_pos (show (0 : Int32) ≤ x2 ∧ x2 ≤ 5 from r1)]
      exact ⟨fun _ => h_isOne hp.1 hp.2.2.1 (fun i hi e => absurd ⟨i, hi, e⟩ no) (fun _ => ⟨fun z => absurd rfl z, fun _ => ⟨rfl, h'⟩⟩), fun z => absurd z (by decide)⟩
  · rw [if_neg r1]
    refine ⟨fun z => absurd rfl z, fun _ => h_in (l := 0) (h := 5) rfl rfl ?_⟩
    rw [if_neg (show ¬ ((0 : Int32) ≤ x2 ∧ x2 ≤ 5) from r1)]
    exact ⟨fun z => absurd rfl z, fun _ => ⟨rfl, h'⟩⟩
