/-! ===== papers(), copy() ===== -/
theorem papBoth {m c : Sg} {nt : Nat} (h : Rel m c nt) (x1 x2 x3 : Int32) : ∃ (r : Int32) (m1 c1 : Sg), Rel m1 c1 nt ∧ m1 9 = m 9 ∧ m1 11 = m 11 ∧ (∀ Q : Int32 → Sg → Prop, Q r c1 → vv_X7_paper nt x1 x2 x3 c Q) ∧ (∀ Q : Int32 → Sg → Prop, Q r m1 → vv_X8_paper x1 x2 x3 m Q) := by
  have h' := h
  obtain ⟨N, hp, hd, hr, ht, ha, hi, hs⟩ := h
  by_cases ok : okP3 x1 x2 x3
  · rcases Nat.lt_or_ge N 8 with hlt | hge
    · exact ⟨nI N, bgM m N x1 x2 x3, bgC c N x1 x2 x3, Rel.paper hp hd hr ht ha hi hs ok hlt, bgM_ne (by decide) (by decide) (by decide), bgM_ne (by decide) (by decide) (by decide), fun Q hQ => h_paperC hp.2.1 hp.2.2.1 (fun no => absurd ok no) (fun _ h8 => absurd h8 (by omega)) (fun _ _ => hQ), fun Q hQ => h_paperM hp.1 hp.2.2.1 (fun no => absurd ok no) (fun _ h8 => absurd h8 (by omega)) (fun _ _ => hQ)⟩
    · exact ⟨-4, m, c, h', rfl, rfl, fun Q hQ => h_paperC hp.2.1 hp.2.2.1 (fun no => absurd ok no) (fun _ _ => hQ) (fun _ q => absurd q (by omega)), fun Q hQ => h_paperM hp.1 hp.2.2.1 (fun no => absurd ok no) (fun _ _ => hQ) (fun _ q => absurd q (by omega))⟩
  · exact ⟨-2, m, c, h', rfl, rfl, fun Q hQ => h_paperC hp.2.1 hp.2.2.1 (fun _ => hQ) (fun q => absurd q ok) (fun q => absurd q ok), fun Q hQ => h_paperM hp.1 hp.2.2.1 (fun _ => hQ) (fun q => absurd q ok) (fun q => absurd q ok)⟩
theorem h_holds {nt s z p n : Nat} {c : Sg} {Q : Int32 → Sg → Prop} (hs : s < 4) (hz : c (14 + s) 1 = nI z) (h40 : z ≤ 40) (hp : p < 2 ^ 31) (hn : n < 2 ^ 31) (hQ : Q (if p + n ≤ z then 1 else 0) c) : vv_X3_holds nt (14 + s) (nI p) (nI n) c Q := by
  unfold vv_X3_holds
  rw [hz]
  refine ⟨⟨by omega, by omega⟩, fun q => absurd q (nI_pos hp), fun _ => ⟨fun q => absurd q (nI_pos hn), fun _ => ⟨fun q => ?_, fun q => ?_⟩⟩⟩
  · have := (nI_ltI (by omega) hp).mp q
    rw [if_neg (by omega)] at hQ; exact hQ
  · have hpz : p ≤ z := Nat.le_of_not_lt (fun w => q (nI_lt w hp))
    rw [pk_sub hpz]
    refine ⟨fun w => ?_, fun w => ?_⟩
    · have := (nI_ltI (by omega) hn).mp w
      rw [if_neg (by omega)] at hQ; exact hQ
    · have : n ≤ z - p := Nat.le_of_not_lt (fun w' => w (nI_lt w' hn))
      rw [if_pos (by omega)] at hQ; exact hQ
theorem h_holds_n {nt s : Nat} {x y : Int32} {c : Sg} {Q : Int32 → Sg → Prop} (hs : s < 4) (hx : x < 0 ∨ y < 0) (hQ : Q 0 c) : vv_X3_holds nt (14 + s) x y c Q := by
  unfold vv_X3_holds
  exact ⟨⟨by omega, by omega⟩, fun _ => hQ, fun q => ⟨fun _ => hQ, fun q' => absurd hx (fun w => w.elim q q')⟩⟩
theorem h_sget {nt s z p : Nat} {c : Sg} {Q : Int32 → Sg → Prop} (hs : s < 4) (hz : c (14 + s) 1 = nI z) (h40 : z ≤ 40) (hp : p < z) (hQ : Q (c (18 + s) p) c) : vv_X3_get nt (14 + s) (nI p) c Q := by
  unfold vv_X3_get
  rw [hz]
  refine ⟨⟨by omega, by omega⟩, fun q => absurd q (nI_pos (by omega)), fun _ => ⟨fun q => absurd q (nI_ge hp (by omega)), fun _ => ⟨vp_in_nI (by omega) (by decide), ?_⟩⟩⟩
  rw [nI_clamp (by omega), show 14 + s + 4 = 18 + s by omega]
  exact hQ
theorem le_sub {a z k : Nat} (ha : a < 2 ^ 31) (hz : z ≤ 40) (hk : k < 2 ^ 30) : (nI a ≤ nI z - nI k) ↔ a + k ≤ z := by
  rw [Int32.le_iff_toInt_le, pk_sub_toInt (by omega) hk, nI_toInt ha]
  omega
theorem papers_L {nt s z a n : Nat} (hs : s < 4) (hn : n ≤ 8) (ha : a < 2 ^ 31) (h40 : z ≤ 40) : ∀ d i m c acc, i + d = n → (i = 0 ∨ a + 3 * i ≤ z) → Rel m c nt → m 9 s = 1 → m 11 s = nI z → ∃ (r : Int32) (m' c' : Sg), Rel m' c' nt ∧ (∀ Q : Int32 → Sg → Prop, Q r c' → vv_X7_papers_L72 nt Q (d + 1) (nI n) (14 + s) acc (nI (a + 3 * i)) (nI i) c) ∧ (∀ Q : Int32 → Sg → Prop, Q r m' → vv_X8_papers_L75 Q (d + 1) (nI s) (nI a) (nI n) acc (nI i) m) := by
  intro d
  induction d with
  | zero =>
    intro i m c acc hi hz h h9 h11
    have e : i = n := by omega
    subst e
    refine ⟨acc, m, c, h, fun Q hQ => ?_, fun Q hQ => ?_⟩
    · unfold vv_X7_papers_L72; exact ⟨fun _ => hQ, fun z => absurd (Int32.le_refl _) z⟩
    · unfold vv_X8_papers_L75; exact ⟨fun _ => hQ, fun z => absurd (Int32.le_refl _) z⟩
  | succ d ih =>
    intro i m c acc hi hz h h9 h11
    have hlt : ¬ nI n ≤ nI i := nI_ge (by omega) (by omega)
    have hai : a + 3 * i < 2 ^ 31 := by omega
    have e3 : nI z - 3 * nI i - 3 = nI z - nI (3 * i + 3) := by
      rw [← nI_add, ← pk_mul, show nI 3 = 3 from rfl]; grind
    have key : (nI a ≤ nI z - 3 * nI i - 3) ↔ a + 3 * i + 3 ≤ z := by
      rw [e3, le_sub ha h40 (by omega)]; omega
    obtain ⟨z', hz4, hz5, hz6, hz7⟩ : ∃ z' : Nat, z' ≤ 40 ∧ m 11 s = nI z' ∧ c (14 + s) 1 = nI z' ∧ ∀ i, i < z' → m 12 (40 * s + i) = c (18 + s) i := by
      obtain ⟨N, hp, hd, hr, ht, hta, hig, hsh⟩ := h
      rcases hsh s hs with ⟨q1, q2⟩ | ⟨q1, q2, q3, z', q4, q5, q6, q7⟩
      · exact absurd (h9.symm.trans q1) (by decide)
      · exact ⟨z', q4, q5, q6, q7⟩
    have ez : z' = z := (nI_eq (by omega) (by omega)).mp (hz5.symm.trans h11)
    subst ez
    by_cases ok : a + 3 * i + 3 ≤ z'
    · obtain ⟨r, m1, c1, hR1, k9, k11, k1, k2⟩ := papBoth h (c (18 + s) (a + 3 * i)) (c (18 + s) (a + 3 * i + 1)) (c (18 + s) (a + 3 * i + 2))
      obtain ⟨r', m', c', hR', j1, j2⟩ := ih (i + 1) m1 c1 (if r < 0 then acc else acc + 1) (by omega) (Or.inr (by omega)) hR1 (by rw [k9]; exact h9) (by rw [k11]; exact h11)
      refine ⟨r', m', c', hR', fun Q hQ => ?_, fun Q hQ => ?_⟩
      · unfold vv_X7_papers_L72
        refine ⟨fun q => absurd q hlt, fun _ => h_holds (n := 3) hs hz6 h40 hai (by decide) ?_⟩
        rw [if_pos ok]
        refine ⟨fun _ => h_sget hs hz6 h40 (by omega) ?_, fun q => absurd q (by decide)⟩
        rw [nI_1, show nI (a + 3 * i) + 2 = nI (a + 3 * i + 2) from nI_add _ 2]
        refine h_sget hs hz6 h40 (by omega) (h_sget hs hz6 h40 (by omega) (k1 _ ?_))
        have jj := j1 Q hQ
        unfold vv_X7_papers_J128
        refine ⟨fun q => ?_, fun q => ?_⟩
        · rintro b rfl e rfl
          rw [if_pos q] at jj
          rw [nI_1, show nI (a + 3 * i) + 3 = nI (a + 3 * (i + 1)) from nI_add _ 3]
          exact jj
        · rintro acc' rfl b rfl e rfl
          rw [if_neg q] at jj
          rw [nI_1, show nI (a + 3 * i) + 3 = nI (a + 3 * (i + 1)) from nI_add _ 3]
          exact jj
      · unfold vv_X8_papers_L75
        rw [nI_clamp (by omega), h11]
        refine ⟨fun q => absurd q hlt, fun _ => ⟨fun q => absurd q (nI_pos ha), fun _ => ⟨vp_in_nI hs (by decide), fun _ => ?_, fun q => absurd (key.mpr ok) q⟩⟩⟩
        intro x7 e7
        have e7' : x7 = nI (40 * s + (a + 3 * i)) := by
          rw [e7, ← nI_add, ← nI_add, ← pk_mul, ← pk_mul, show nI 40 = 40 from rfl, show nI 3 = 3 from rfl, Int32.add_assoc]
        rw [e7', nI_1, show nI (40 * s + (a + 3 * i)) + 2 = nI (40 * s + (a + 3 * i) + 2) from nI_add _ 2, nI_clamp (by omega), nI_clamp (by omega), nI_clamp (by omega)]
        refine ⟨vp_in_nI (by omega) (by decide), vp_in_nI (by omega) (by decide), vp_in_nI (by omega) (by decide), ?_⟩
        rw [hz7 (a + 3 * i) (by omega), show m 12 (40 * s + (a + 3 * i) + 1) = c (18 + s) (a + 3 * i + 1) from hz7 (a + 3 * i + 1) (by omega), show m 12 (40 * s + (a + 3 * i) + 2) = c (18 + s) (a + 3 * i + 2) from hz7 (a + 3 * i + 2) (by omega)]
        refine k2 _ ?_
        have jj := j2 Q hQ
        unfold vv_X8_papers_J158
        refine ⟨fun q => ?_, fun q => ?_⟩
        · rintro b rfl e rfl
          rw [if_pos q] at jj
          rw [nI_1, Int32.add_zero]
          exact jj
        · rintro acc' rfl b rfl
          rw [if_neg q] at jj
          rw [nI_1]
          exact jj
    · refine ⟨-12, m, c, h, fun Q hQ => ?_, fun Q hQ => ?_⟩
      · unfold vv_X7_papers_L72
        refine ⟨fun q => absurd q hlt, fun _ => h_holds (n := 3) hs hz6 h40 hai (by decide) ?_⟩
        rw [if_neg ok]
        exact ⟨fun q => absurd rfl q, fun _ => hQ⟩
      · unfold vv_X8_papers_L75
        rw [nI_clamp (by omega), h11]
        exact ⟨fun q => absurd q hlt, fun _ => ⟨fun q => absurd q (nI_pos ha), fun _ => ⟨vp_in_nI hs (by decide), fun q => absurd (key.mp q) ok, fun _ => hQ⟩⟩⟩
theorem eq_papers {m c : Sg} {nt : Nat} (h : Rel m c nt) (x1 x2 x3 x4 : Int32) : vv_X7_papers nt x1 x2 x3 x4 c (fun r c' => vv_X8_papers x1 x2 x3 x4 m (fun r' m' => r = r' ∧ Rel m' c' nt)) := by
  have h' := h
  obtain ⟨N, hp, hd, hr, ht, hta, hig, hsh⟩ := h
  have bad : ((¬ ∃ s, s < 4 ∧ x1 = nI s) ∨ ¬ ((0 : Int32) ≤ x2 ∧ x2 ≤ 2) ∨ ¬ ((0 : Int32) ≤ x4 ∧ x4 ≤ 8)) → vv_X8_papers x1 x2 x3 x4 m (fun r' m' => -2 = r' ∧ Rel m' c nt) := fun z => by
    unfold vv_X8_papers
    refine h_isSheetM (fun s hs e => ⟨fun z => absurd z (by decide), fun _ => h_in (l := 0) (h := 2) rfl rfl ?_⟩) (fun _ => ⟨fun _ => ⟨rfl, h'⟩, fun z => absurd rfl z⟩)
    by_cases q : (0 : Int32) ≤ x2 ∧ x2 ≤ 2
    · rw [if_pos q]
      refine ⟨fun z => absurd z (by decide), fun _ => h_in (l := 0) (h := 8) rfl rfl ?_⟩
      by_cases q' : (0 : Int32) ≤ x4 ∧ x4 ≤ 8
      · exact absurd z (fun w => w.elim (fun w => w ⟨s, hs, e⟩) (fun w => w.elim (fun w => w q) (fun w => w q')))
      · rw [if_neg q']; exact ⟨fun z => absurd rfl z, fun _ => ⟨rfl, h'⟩⟩
    · rw [if_neg q]; exact ⟨fun _ => ⟨rfl, h'⟩, fun z => absurd rfl z⟩
  unfold vv_X7_papers
  refine h_isSheetC (fun s hs e => ⟨fun z => absurd z (by decide), fun _ => ⟨fun z => bad (Or.inr (Or.inl (fun q => absurd q.1 (Int32.not_le.mpr z)))), fun z1 => ⟨fun z => bad (Or.inr (Or.inl (fun q => absurd q.2 (Int32.not_le.mpr z)))), fun z2 => ⟨fun z => bad (Or.inr (Or.inr (fun q => absurd q.1 (Int32.not_le.mpr z)))), fun z3 => ⟨fun z4 => ?_, fun z => bad (Or.inr (Or.inr (fun q => z q.2)))⟩⟩⟩⟩⟩) (fun no => ⟨fun _ => bad (Or.inl no), fun z => absurd rfl z⟩)
  subst e
  rw [ss_nI (by omega)]
  refine ⟨vp_in_nI hs (by decide), ?_⟩
  obtain ⟨n, hn, rfl⟩ := rng_nI (n := 8) (by decide) ⟨Int32.not_lt.mp z3, z4⟩
  have pre : ∀ Q : Int32 → Sg → Prop, (m 9 s = 0 → Q (-11) m) → (¬ m 9 s = 0 → ¬ m 10 s = x2 → Q (-13) m) → (¬ m 9 s = 0 → m 10 s = x2 → ∃ f, vv_X8_papers_L75 Q f (nI s) x3 (nI n) 0 0 m) → vv_X8_papers (nI s) x2 x3 (nI n) m Q := by
    intro Q k0 k1 k2
    unfold vv_X8_papers
    refine h_isSheetM (fun s' hs' e => ⟨fun z => absurd z (by decide), fun _ => h_in (l := 0) (h := 2) rfl rfl ?_⟩) (fun no => absurd ⟨s, hs, rfl⟩ no)
    rw [if_pos ⟨Int32.not_lt.mp z1, Int32.not_lt.mp z2⟩]
    refine ⟨fun z => absurd z (by decide), fun _ => h_in (l := 0) (h := 8) rfl rfl ?_⟩
    rw [if_pos ⟨Int32.not_lt.mp z3, z4⟩]
    unfold vv_X8_papers_J57
    rw [nI_clamp (by omega)]
    refine ⟨fun _ => ⟨vp_in_nI hs (by decide), fun q => ⟨vp_in_nI hs (by decide), fun q' => absurd q q', fun _ => k0 q⟩, fun q => ⟨vp_in_nI hs (by decide), fun q' => ⟨vp_in_nI hs (by decide), fun _ => ?_, fun w => absurd w q⟩, fun q' => k1 q q'⟩⟩, fun q => absurd q (by decide)⟩
    rintro a rfl b rfl
    exact k2 q q'
  rcases hsh s hs with ⟨q1, q2⟩ | ⟨q1, q2, q3, z, q4, q5, q6, q7⟩
  · exact ⟨fun q => absurd q2 q, fun _ => pre _ (fun _ => ⟨rfl, h'⟩) (fun q => absurd q1 q) (fun q => absurd q1 q)⟩
  · have n9 : ¬ m 9 s = 0 := fun q => absurd (q1.symm.trans q) (by decide)
    refine ⟨fun _ => ⟨fun e2 => ?_, fun e2 => pre _ (fun q => absurd q n9) (fun _ _ => ⟨rfl, h'⟩) (fun _ q => absurd (q2.symm.trans q) e2)⟩, fun q => ?_⟩
    · rintro a rfl b rfl j rfl
      by_cases hneg : b < 0
      · rcases Nat.eq_zero_or_pos n with e | e
        · subst e
          refine ⟨1, ?_⟩
          unfold vv_X7_papers_L72
          refine ⟨fun _ => pre _ (fun q => absurd q n9) (fun _ q => absurd (q2.trans e2) q) (fun _ _ => ⟨1, ?_⟩), fun q => absurd (show nI 0 ≤ (0 : Int32) from by decide) q⟩
          unfold vv_X8_papers_L75
          exact ⟨fun _ => ⟨rfl, h'⟩, fun q => absurd (show nI 0 ≤ (0 : Int32) from by decide) q⟩
        · have hlt : ¬ nI n ≤ 0 := nI_nle e (by omega)
          refine ⟨1, ?_⟩
          unfold vv_X7_papers_L72
          refine ⟨fun q => absurd q hlt, fun _ => h_holds_n hs (Or.inl hneg) ⟨fun q => absurd rfl q, fun _ => pre _ (fun q => absurd q n9) (fun _ q => absurd (q2.trans e2) q) (fun _ _ => ⟨1, ?_⟩)⟩⟩
          unfold vv_X8_papers_L75
          exact ⟨fun q => absurd q hlt, fun _ => ⟨fun _ => ⟨rfl, h'⟩, fun q => absurd hneg q⟩⟩
      · obtain ⟨a, ha, rfl⟩ := nI_of hneg
        obtain ⟨r, m', c', hR, j1, j2⟩ := papers_L (nt := nt) (z := z) (a := a) hs hn ha q4 n 0 m c 0 (by omega) (Or.inl rfl) h' q1 q5
        exact ⟨n + 1, j1 _ (pre _ (fun q => absurd q n9) (fun _ q => absurd (q2.trans e2) q) (fun _ _ => ⟨n + 1, j2 _ ⟨rfl, hR⟩⟩))⟩
    · rw [← q2] at q
      rcases q3 with w | w | w <;> exact absurd (w.symm.trans q) (by decide)
