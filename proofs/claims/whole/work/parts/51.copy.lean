/-! ===== copy() ===== -/
theorem sub_toInt' {z n : Nat} (hz : z ≤ 40) (hn : n < 2 ^ 31) : (nI z - nI n).toInt = (z : Int) - n := by
  rw [Int32.toInt_sub, nI_toInt (by omega), nI_toInt hn]
  exact Int.bmod_eq_of_le (by omega) (by omega)
theorem le_sub' {a z n : Nat} (ha : a < 2 ^ 31) (hz : z ≤ 40) (hn : n < 2 ^ 31) : (nI a ≤ nI z - nI n) ↔ a + n ≤ z := by
  rw [Int32.le_iff_toInt_le, sub_toInt' hz hn, nI_toInt ha]
  omega
theorem ix40p (s i q : Nat) : (40 : Int32) * nI s + nI i + nI q = nI (40 * s + i + q) := by rw [ix40, nI_add]
theorem cpU_L {m : Sg} {s t i j n : Nat} {Q : Int32 → Sg → Prop} (hs : s < 4) (ht : t < 4) (hi : i + n ≤ 40) (hj : j + n ≤ 40) (hne : s ≠ t ∨ j ≤ i) (hQ : ∀ m', (∀ k, k ≠ 12 → m' k = m k) → (∀ x, m' 12 x = if 40 * t + j ≤ x ∧ x < 40 * t + j + n then m 12 (40 * s + i + (x - (40 * t + j))) else m 12 x) → Q (nI n) m') : ∀ d k g, k + d = n → (∀ c, c ≠ 12 → g c = m c) → (∀ x, g 12 x = if 40 * t + j ≤ x ∧ x < 40 * t + j + k then m 12 (40 * s + i + (x - (40 * t + j))) else m 12 x) → vv_X8_copy_L121 Q (d + 1) (nI s) (nI i) (nI t) (nI j) (nI n) 0 (nI k) g := by
  intro d
  induction d with
  | zero =>
    intro k g hk h1 h2
    have e : k = n := by omega
    subst e
    unfold vv_X8_copy_L121
    exact ⟨fun _ => hQ g h1 h2, fun z => absurd (Int32.le_refl _) z⟩
  | succ d ih =>
    intro k g hk h1 h2
    unfold vv_X8_copy_L121
    refine ⟨fun z => absurd z (nI_ge (by omega) (by omega)), fun _ => ⟨fun _ => ?_, fun z => absurd rfl z⟩⟩
    unfold vv_X8_copy_J145
    rintro q rfl
    rw [ix40p, ix40p, nI_clamp (by omega), nI_clamp (by omega)]
    refine ⟨vp_in_nI (by omega) (by decide), vp_in_nI (by omega) (by decide), ?_⟩
    rintro g' rfl b rfl
    rw [nI_1]
    refine ih _ _ (by omega) (fun c hc => by rw [st_ne hc]; exact h1 c hc) (fun x => ?_)
    rw [st_at]
    by_cases q : x = 40 * t + j + k
    · rw [if_pos q, if_pos (by omega), h2, if_neg (by omega), q, show 40 * t + j + k - (40 * t + j) = k by omega]
    · rw [if_neg q, h2 x]
      by_cases q' : 40 * t + j ≤ x ∧ x < 40 * t + j + k
      · rw [if_pos q', if_pos (by omega)]
      · rw [if_neg q', if_neg (by omega)]
theorem cpD_L {m : Sg} {s t i j n : Nat} {Q : Int32 → Sg → Prop} (hs : s < 4) (ht : t < 4) (hi : i + n ≤ 40) (hj : j + n ≤ 40) (hne : s = t ∧ i < j) (hQ : ∀ m', (∀ k, k ≠ 12 → m' k = m k) → (∀ x, m' 12 x = if 40 * t + j ≤ x ∧ x < 40 * t + j + n then m 12 (40 * s + i + (x - (40 * t + j))) else m 12 x) → Q (nI n) m') : ∀ d k g, k + d = n → (∀ c, c ≠ 12 → g c = m c) → (∀ x, g 12 x = if 40 * t + j + (n - k) ≤ x ∧ x < 40 * t + j + n then m 12 (40 * s + i + (x - (40 * t + j))) else m 12 x) → vv_X8_copy_L121 Q (d + 1) (nI s) (nI i) (nI t) (nI j) (nI n) 1 (nI k) g := by
  intro d
  induction d with
  | zero =>
    intro k g hk h1 h2
    have e : k = n := by omega
    subst e
    unfold vv_X8_copy_L121
    refine ⟨fun _ => hQ g h1 (fun x => ?_), fun z => absurd (Int32.le_refl _) z⟩
    rw [h2 x, Nat.sub_self, Nat.add_zero]
  | succ d ih =>
    intro k g hk h1 h2
    unfold vv_X8_copy_L121
    refine ⟨fun z => absurd z (nI_ge (by omega) (by omega)), fun _ => ⟨fun z => absurd z (by decide), fun _ => ?_⟩⟩
    unfold vv_X8_copy_J145
    intro q eq
    have eq' : q = nI (n - 1 - k) := by rw [eq, nI_sub1 (by omega), pk_sub (by omega)]
    rw [eq', ix40p, ix40p, nI_clamp (by omega), nI_clamp (by omega)]
    refine ⟨vp_in_nI (by omega) (by decide), vp_in_nI (by omega) (by decide), ?_⟩
    rintro g' rfl b rfl
    rw [nI_1]
    refine ih _ _ (by omega) (fun c hc => by rw [st_ne hc]; exact h1 c hc) (fun x => ?_)
    rw [st_at]
    by_cases q : x = 40 * t + j + (n - 1 - k)
    · rw [if_pos q, if_pos (by omega), h2, if_neg (by omega), q, show 40 * t + j + (n - 1 - k) - (40 * t + j) = n - 1 - k by omega]
    · rw [if_neg q, h2 x]
      by_cases q' : 40 * t + j + (n - k) ≤ x ∧ x < 40 * t + j + n
      · rw [if_pos q', if_pos (by omega)]
      · rw [if_neg q', if_neg (by omega)]
theorem h_copyM {m : Sg} {s t i j n : Nat} {Q : Int32 → Sg → Prop} (hs : s < 4) (ht : t < 4) (hi : i + n ≤ 40) (hj : j + n ≤ 40) (hQ : ∀ m', (∀ k, k ≠ 12 → m' k = m k) → (∀ x, m' 12 x = if 40 * t + j ≤ x ∧ x < 40 * t + j + n then m 12 (40 * s + i + (x - (40 * t + j))) else m 12 x) → Q (nI n) m') : ((¬ nI s = nI t) → (vv_X8_copy_J115 (nI s) (nI i) (nI t) (nI j) (nI n) m Q)) ∧ ((nI s = nI t) → (((nI j ≤ nI i) → (vv_X8_copy_J115 (nI s) (nI i) (nI t) (nI j) (nI n) m Q)) ∧ ((¬ (nI j ≤ nI i)) → (vv_X8_copy_J116 (nI s) (nI i) (nI t) (nI j) (nI n) (1 : Int32) m Q)))) := by
  have up : (s ≠ t ∨ j ≤ i) → vv_X8_copy_J115 (nI s) (nI i) (nI t) (nI j) (nI n) m Q := fun hne => by
    unfold vv_X8_copy_J115 vv_X8_copy_J116
    rintro a rfl b rfl
    exact ⟨n + 1, cpU_L hs ht hi hj hne hQ n 0 m (by omega) (fun _ _ => rfl) (fun x => by rw [if_neg (by omega)])⟩
  refine ⟨fun z => up (Or.inl (fun q => z (by rw [q]))), fun z => ⟨fun y => up (Or.inr ((nI_leI (by omega) (by omega)).mp y)), fun y => ?_⟩⟩
  have e : s = t := (nI_eq (by omega) (by omega)).mp z
  have hl : i < j := Nat.lt_of_not_le (fun q => y (nI_le q (by omega)))
  unfold vv_X8_copy_J116
  rintro a rfl b rfl
  exact ⟨n + 1, cpD_L hs ht hi hj ⟨e, hl⟩ hQ n 0 m (by omega) (fun _ _ => rfl) (fun x => by rw [if_neg (by omega)])⟩
theorem eq_copy {m c : Sg} {nt : Nat} (h : Rel m c nt) (x1 x2 x3 x4 x5 : Int32) : vv_X7_copy nt x1 x2 x3 x4 x5 c (fun r c' => vv_X8_copy x1 x2 x3 x4 x5 m (fun r' m' => r = r' ∧ Rel m' c' nt)) := by
  have h' := h
  obtain ⟨N, hp, hd, hr, ht, hta, hig, hsh⟩ := h
  have bad : ¬ ((∃ s, s < 4 ∧ x1 = nI s) ∧ ∃ s, s < 4 ∧ x3 = nI s) → vv_X8_copy x1 x2 x3 x4 x5 m (fun r' m' => -2 = r' ∧ Rel m' c nt) := fun z => by
    unfold vv_X8_copy
    exact h_isSheetM (fun s hs e => ⟨fun z => absurd z (by decide), fun _ => h_isSheetM (fun t ht e' => absurd ⟨⟨s, hs, e⟩, t, ht, e'⟩ z) (fun _ => ⟨fun z => absurd rfl z, fun _ => ⟨rfl, h'⟩⟩)⟩) (fun _ => ⟨fun _ => ⟨rfl, h'⟩, fun z => absurd rfl z⟩)
  unfold vv_X7_copy
  refine h_isSheetC (fun s hs e => ⟨fun z => absurd z (by decide), fun _ => h_isSheetC (fun t ht e' => ⟨fun _ => ?_, fun z => absurd z (by decide)⟩) (fun no => ⟨fun z => absurd rfl z, fun _ => bad (fun q => no q.2)⟩)⟩) (fun no => ⟨fun _ => bad (fun q => no q.1), fun z => absurd rfl z⟩)
  subst e; subst e'
  rw [ss_nI (by omega), ss_nI (by omega)]
  refine ⟨vp_in_nI hs (by decide), vp_in_nI ht (by decide), ?_⟩
  have out : ∀ Q : Int32 → Sg → Prop, m 9 s = 1 → m 9 t = 1 → m 10 s = m 10 t → (x5 < 0 ∨ x2 < 0 ∨ x4 < 0 → Q (-12) m) → (∀ i j n : Nat, i < 2 ^ 31 → j < 2 ^ 31 → n < 2 ^ 31 → x2 = nI i → x4 = nI j → x5 = nI n → ((m 11 s - nI n < nI i → Q (-12) m) ∧ (¬ m 11 s - nI n < nI i → ((nI j ≤ m 11 t - nI n → (((¬ nI s = nI t) → (vv_X8_copy_J115 (nI s) (nI i) (nI t) (nI j) (nI n) m Q)) ∧ ((nI s = nI t) → (((nI j ≤ nI i) → (vv_X8_copy_J115 (nI s) (nI i) (nI t) (nI j) (nI n) m Q)) ∧ ((¬ (nI j ≤ nI i)) → (vv_X8_copy_J116 (nI s) (nI i) (nI t) (nI j) (nI n) (1 : Int32) m Q)))))) ∧ (¬ nI j ≤ m 11 t - nI n → Q (-12) m))))) → vv_X8_copy (nI s) x2 (nI t) x4 x5 m Q := by
    intro Q h9 h9' h10 k1 k2
    unfold vv_X8_copy
    refine h_isSheetM (fun s' hs' e => ⟨fun z => absurd z (by decide), fun _ => h_isSheetM (fun t' ht' e' => ⟨fun _ => ⟨vp_in_nI hs (by decide), ?_⟩, fun z => absurd z (by decide)⟩) (fun no => absurd ⟨t, ht, rfl⟩ no)⟩) (fun no => absurd ⟨s, hs, rfl⟩ no)
    rw [nI_clamp (by omega), nI_clamp (by omega)]
    refine ⟨fun q => absurd (h9.symm.trans q) (by decide), fun _ => ⟨vp_in_nI ht (by decide), fun _ => ⟨vp_in_nI hs (by decide), vp_in_nI ht (by decide), fun _ => ⟨fun z => k1 (Or.inl z), fun n1 => ⟨fun z => k1 (Or.inr (Or.inl z)), fun n2 => ⟨fun z => k1 (Or.inr (Or.inr z)), fun n3 => ?_⟩⟩⟩, fun q => absurd h10 q⟩, fun q => absurd (h9'.symm.trans q) (by decide)⟩⟩
    obtain ⟨n, hn, rfl⟩ := nI_of n1
    obtain ⟨i, hi, rfl⟩ := nI_of n2
    obtain ⟨j, hj, rfl⟩ := nI_of n3
    obtain ⟨w1, w2⟩ := k2 i j n hi hj hn rfl rfl rfl
    exact ⟨vp_in_nI hs (by decide), w1, fun q => ⟨vp_in_nI ht (by decide), (w2 q).1, (w2 q).2⟩⟩
  have no11 : (m 9 s = 0 ∨ m 9 t = 0) → vv_X8_copy (nI s) x2 (nI t) x4 x5 m (fun r' m' => -11 = r' ∧ Rel m' c nt) := fun z => by
    unfold vv_X8_copy
    refine h_isSheetM (fun s' hs' e => ⟨fun z => absurd z (by decide), fun _ => h_isSheetM (fun t' ht' e' => ⟨fun _ => ⟨vp_in_nI hs (by decide), ?_⟩, fun z => absurd z (by decide)⟩) (fun no => absurd ⟨t, ht, rfl⟩ no)⟩) (fun no => absurd ⟨s, hs, rfl⟩ no)
    rw [nI_clamp (by omega), nI_clamp (by omega)]
    exact ⟨fun _ => ⟨rfl, h'⟩, fun q => ⟨vp_in_nI ht (by decide), fun q' => absurd z (fun w => w.elim q q'), fun _ => ⟨rfl, h'⟩⟩⟩
  rcases hsh s hs with ⟨q1, q2⟩ | ⟨q1, q2, q3, z, q4, q5, q6, q7⟩
  · exact ⟨fun _ => no11 (Or.inl q1), fun q => absurd q2 q⟩
  · rcases hsh t ht with ⟨u1, u2⟩ | ⟨u1, u2, u3, y, u4, u5, u6, u7⟩
    · exact ⟨fun q => absurd (q2.trans q) (fun q => by rcases q3 with w | w | w <;> exact absurd (w.symm.trans q) (by decide)), fun _ => ⟨fun q => absurd u2 q, fun _ => no11 (Or.inr u1)⟩⟩
    · refine ⟨fun q => absurd (q2.trans q) (fun q => by rcases q3 with w | w | w <;> exact absurd (w.symm.trans q) (by decide)), fun _ => ⟨fun _ => ⟨fun e10 => ?_, fun e10 => ?_⟩, fun q => absurd (u2.trans q) (fun q => by rcases u3 with w | w | w <;> exact absurd (w.symm.trans q) (by decide))⟩⟩
      · have e10' : m 10 s = m 10 t := by rw [q2, u2, e10]
        by_cases hneg : x5 < 0 ∨ x2 < 0 ∨ x4 < 0
        · have fin : vv_X8_copy (nI s) x2 (nI t) x4 x5 m (fun r' m' => -12 = r' ∧ Rel m' c nt) := out _ q1 u1 e10' (fun _ => ⟨rfl, h'⟩) (fun i j n hi hj hn e1 e2 e3 => absurd hneg (by rw [e1, e2, e3]; exact fun w => w.elim (nI_pos hn) (fun w => w.elim (nI_pos hi) (nI_pos hj))))
          by_cases h1 : x2 < 0 ∨ x5 < 0
          · exact h_holds_n hs h1 ⟨fun _ => fin, fun q => absurd rfl q⟩
          · obtain ⟨i, hi, rfl⟩ := nI_of (fun q => h1 (Or.inl q))
            obtain ⟨n, hn, rfl⟩ := nI_of (fun q => h1 (Or.inr q))
            have h4 : x4 < 0 := hneg.resolve_left (fun q => h1 (Or.inr q)) |>.resolve_left (fun q => h1 (Or.inl q))
            refine h_holds hs q6 q4 hi hn ?_
            by_cases w : i + n ≤ z
            · rw [if_pos w]
              exact ⟨fun q => absurd q (by decide), fun _ => h_holds_n ht (Or.inl h4) ⟨fun q => absurd rfl q, fun _ => fin⟩⟩
            · rw [if_neg w]; exact ⟨fun _ => fin, fun q => absurd rfl q⟩
        · obtain ⟨n, hn, rfl⟩ := nI_of (fun q => hneg (Or.inl q))
          obtain ⟨i, hi, rfl⟩ := nI_of (fun q => hneg (Or.inr (Or.inl q)))
          obtain ⟨j, hj, rfl⟩ := nI_of (fun q => hneg (Or.inr (Or.inr q)))
          have fin : ¬ (i + n ≤ z ∧ j + n ≤ y) → vv_X8_copy (nI s) (nI i) (nI t) (nI j) (nI n) m (fun r' m' => -12 = r' ∧ Rel m' c nt) := fun no => out _ q1 u1 e10' (fun _ => ⟨rfl, h'⟩) (fun i' j' n' hi' hj' hn' e1 e2 e3 => by
            have a1 : i' = i := (nI_eq hi' hi).mp e1.symm
            have a2 : j' = j := (nI_eq hj' hj).mp e2.symm
            have a3 : n' = n := (nI_eq hn' hn).mp e3.symm
            subst a1; subst a2; subst a3
            rw [q5, u5]
            exact ⟨fun _ => ⟨rfl, h'⟩, fun w => ⟨fun w' => absurd ⟨(le_sub' hi q4 hn).mp (Int32.not_lt.mp w), (le_sub' hj u4 hn).mp w'⟩ no, fun _ => ⟨rfl, h'⟩⟩⟩)
          refine h_holds hs q6 q4 hi hn ?_
          by_cases w : i + n ≤ z
          · rw [if_pos w]
            refine ⟨fun q => absurd q (by decide), fun _ => h_holds ht u6 u4 hj hn ?_⟩
            by_cases w' : j + n ≤ y
            · rw [if_pos w']
              refine ⟨fun _ => ⟨⟨nI_pos hi, nI_pos hj, nI_pos hn, by rw [nI_clamp hi, nI_clamp hn]; omega, by rw [nI_clamp hj, nI_clamp hn]; omega⟩, ?_⟩, fun q => absurd q (by decide)⟩
              rw [nI_clamp hi, nI_clamp hj, nI_clamp hn, show 14 + s + 4 = 18 + s by omega, show 14 + t + 4 = 18 + t by omega]
              rintro c' rfl
              refine out _ q1 u1 e10' (fun q => absurd q hneg) (fun i' j' n' hi' hj' hn' e1 e2 e3 => ?_)
              have a1 : i' = i := (nI_eq hi' hi).mp e1.symm
              have a2 : j' = j := (nI_eq hj' hj).mp e2.symm
              have a3 : n' = n := (nI_eq hn' hn).mp e3.symm
              subst a1; subst a2; subst a3
              rw [q5, u5]
              refine ⟨fun q => absurd ((le_sub' hi q4 hn).mpr w) (Int32.not_le.mpr q), fun _ => ⟨fun _ => h_copyM hs ht (by omega) (by omega) (fun m' k1 k2 => ⟨rfl, ?_⟩), fun q => absurd ((le_sub' hj u4 hn).mpr w') q⟩⟩
              refine h'.sheets (fun k _ _ _ hk => k1 k (by omega)) (fun l _ => by rw [k1 0 (by decide)]) (fun k hk _ _ _ _ _ => wr_ne (by omega)) (by rw [wr_ne (by omega)]) ?_
              refine hsh.put ht (fun r hr => ⟨by rw [k1 9 (by decide)], by rw [k1 10 (by decide)], by rw [k1 11 (by decide)]⟩) (fun r l hr hl => by rw [k2, if_neg (by omega)]) (fun r hr hr' => ⟨wr_ne (by omega), wr_ne (by omega)⟩) (Or.inr ⟨by rw [k1 9 (by decide)]; exact u1, by rw [k1 10 (by decide), wr_ne (by omega)]; exact u2, by rw [k1 10 (by decide)]; exact u3, y, u4, by rw [k1 11 (by decide)]; exact u5, by rw [wr_ne (by omega)]; exact u6, fun l hl => ?_⟩)
              rw [wr_at, k2]
              by_cases v : j' ≤ l ∧ l < j' + n'
              · rw [if_pos (by omega), pk_cpy_in v.1 v.2, ← q7 _ (by omega)]
                congr 1; omega
              · rw [if_neg (by omega), pk_cpy_out (by omega)]; exact u7 l hl
            · rw [if_neg w']; exact ⟨fun q => absurd rfl q, fun _ => fin (fun q => w' q.2)⟩
          · rw [if_neg w]; exact ⟨fun _ => fin (fun q => w q.1), fun q => absurd rfl q⟩
      · unfold vv_X8_copy
        refine h_isSheetM (fun s' hs' e => ⟨fun z => absurd z (by decide), fun _ => h_isSheetM (fun t' ht' e' => ⟨fun _ => ⟨vp_in_nI hs (by decide), ?_⟩, fun z => absurd z (by decide)⟩) (fun no => absurd ⟨t, ht, rfl⟩ no)⟩) (fun no => absurd ⟨s, hs, rfl⟩ no)
        rw [nI_clamp (by omega), nI_clamp (by omega)]
        exact ⟨fun q => absurd (q1.symm.trans q) (by decide), fun _ => ⟨vp_in_nI ht (by decide), fun _ => ⟨vp_in_nI hs (by decide), vp_in_nI ht (by decide), fun q => absurd (q2.symm.trans (q.trans u2)) e10, fun _ => ⟨rfl, h'⟩⟩, fun q => absurd (u1.symm.trans q) (by decide)⟩⟩
