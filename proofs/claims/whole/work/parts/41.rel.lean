/-! ===== how a state of the reference and one of the class belong together ===== -/
def rngI (x lo hi : Int32) : Prop := lo ≤ x ∧ x ≤ hi
/-- a paper's fields are such -/
def PapOk (f : Nat → Int32) : Prop := rngI (f 0) 0 5 ∧ rngI (f 1) 0 9 ∧ rngI (f 2) (-9) 9 ∧ rngI (f 3) 0 3 ∧ rngI (f 4) 0 99 ∧ (f 5 = 0 ∨ f 5 = 1)
def Rpap (m c : Sg) (N : Nat) : Prop := m 0 11 = nI N ∧ c 1 2 = nI N ∧ N ≤ 8 ∧ ∀ i, i < N → (∀ j, j < 6 → c (26 + i) j = pvM m i j) ∧ PapOk (pvM m i)
def Rday (m c : Sg) : Prop := m 0 7 = c 1 0 ∧ rngI (m 0 7) 0 999 ∧ m 0 8 = c 1 3 ∧ rngI (m 0 8) 1 999 ∧ c 25 0 = 0
def Rrul (m c : Sg) (nt : Nat) : Prop := ∃ r : Nat, r < nt ∧ m 0 4 = nI r ∧ c 1 1 = nI r
def Rtxt (m c : Sg) (nt : Nat) : Prop := m 0 3 = nI nt ∧ c 0 8 = nI nt ∧ 1 ≤ nt ∧ nt ≤ 6 ∧ (∀ i, i < 6 → c 12 i = nI (if i < nt then i else 0)) ∧ ∀ t, t < nt → ∃ (b : By) (n q : Nat) (cods : Nat → List Int32), TxM m b n t ∧ pRead b n = (q, some (cods 0, cods 1, cods 2)) ∧ CodC c (50 + 3 * t) cods
def Rtap (m c : Sg) : Prop := ∃ k : Nat, m 0 6 = nI k ∧ c 8 1 = nI k ∧ k ≤ 160 ∧ ∀ i, i < k → m 3 i = c 9 i ∧ rngI (m 3 i) 0 255
def pvK (m : Sg) (p : Nat) : Nat → Int32 := fun j => if j = 0 then m 4 p else m 8 (5 * p + (j - 1))
def Rimg (m c : Sg) (N nt : Nat) : Prop := (m 0 32 = -1 ∧ c 0 3 = 0) ∨ (c 0 3 = 1 ∧ ∃ K r : Nat, K ≤ N ∧ r < nt ∧ m 0 32 = nI K ∧ c 2 2 = nI K ∧ m 0 33 = c 2 0 ∧ rngI (m 0 33) 0 999 ∧ m 0 34 = c 2 3 ∧ rngI (m 0 34) 1 999 ∧ m 0 35 = nI r ∧ c 2 1 = nI r ∧ ∀ i, i < K → (∀ j, j < 6 → c (34 + i) j = pvK m i j) ∧ PapOk (pvK m i))
def Rsht (m c : Sg) : Prop := ∀ s, s < 4 → (m 9 s = 0 ∧ c (14 + s) 0 = -1) ∨ (m 9 s = 1 ∧ m 10 s = c (14 + s) 0 ∧ (m 10 s = 0 ∨ m 10 s = 1 ∨ m 10 s = 2) ∧ ∃ z : Nat, z ≤ 40 ∧ m 11 s = nI z ∧ c (14 + s) 1 = nI z ∧ ∀ i, i < z → m 12 (40 * s + i) = c (18 + s) i)
def Rel (m c : Sg) (nt : Nat) : Prop := ∃ N : Nat, Rpap m c N ∧ Rday m c ∧ Rrul m c nt ∧ Rtxt m c nt ∧ Rtap m c ∧ Rimg m c N nt ∧ Rsht m c
/-- what is free to change -/
def FrQ (m m' : Sg) : Prop := (∀ k, k ≠ 0 → k ≠ 6 → k ≠ 7 → m' k = m k) ∧ ∀ j, (j < 12 ∨ 30 < j) → m' 0 j = m 0 j
def FrK (c c' : Sg) : Prop := (∀ k, (k < 50 ∨ k % 3 ≠ 1) → k ≠ 3 → k ≠ 7 → ¬ (22 ≤ k ∧ k ≤ 25) → ¬ (42 ≤ k ∧ k ≤ 49) → c' k = c k) ∧ c' 25 0 = c 25 0
theorem FrQ.rf (m : Sg) : FrQ m m := ⟨fun _ _ _ _ => rfl, fun _ _ => rfl⟩
theorem FrK.rf (c : Sg) : FrK c c := ⟨fun _ _ _ _ _ _ => rfl, rfl⟩
theorem FrQ.tr {a b c : Sg} (h1 : FrQ a b) (h2 : FrQ b c) : FrQ a c := ⟨fun k x y z => by rw [h2.1 k x y z, h1.1 k x y z], fun j hj => by rw [h2.2 j hj, h1.2 j hj]⟩
theorem FrK.tr {a b c : Sg} (h1 : FrK a b) (h2 : FrK b c) : FrK a c := ⟨fun k x y z u v => by rw [h2.1 k x y z u v, h1.1 k x y z u v], by rw [h2.2, h1.2]⟩
theorem FrS.Q {a b : Sg} (h : FrS a b) : FrQ a b := ⟨fun k x _ _ => h.1 k x, fun j hj => h.2 j (by omega)⟩
theorem FrT.K {a b : Sg} (h : FrT a b) : FrK a b := ⟨fun k x _ _ _ _ => h k x, by rw [h 25 (Or.inl (by decide))]⟩
theorem FrQ.pv {m m' : Sg} (h : FrQ m m') (p : Nat) : pvM m' p = pvM m p := by
  funext j; unfold pvM; rw [h.1 4 (by decide) (by decide) (by decide), h.1 5 (by decide) (by decide) (by decide)]
theorem Rel.frame {m m' c c' : Sg} {nt : Nat} (h : Rel m c nt) (hm : FrQ m m') (hc : FrK c c') : Rel m' c' nt := by
  obtain ⟨N, ⟨a1, a2, a3, a4⟩, ⟨b1, b2, b3, b4, b5⟩, ⟨r, d1, d2, d3⟩, ⟨e1, e2, e3, e4, e5, e6⟩, ⟨k, f1, f2, f3, f4⟩, g1, i1⟩ := h
  have ck : ∀ k, k < 50 → k ≠ 3 → k ≠ 7 → ¬ (22 ≤ k ∧ k ≤ 25) → ¬ (42 ≤ k ∧ k ≤ 49) → c' k = c k := fun k x => hc.1 k (Or.inl x)
  have mk := fun k (h0 : k ≠ 0) (h6 : k ≠ 6) (h7 : k ≠ 7) => hm.1 k h0 h6 h7
  have m0 := fun j (hj : j < 12 ∨ 30 < j) => hm.2 j hj
  refine ⟨N, ⟨by rw [m0 11 (by omega)]; exact a1, by rw [ck 1 (by decide) (by decide) (by decide) (by decide) (by decide)]; exact a2, a3, fun i hi => ?_⟩, ?_, ⟨r, d1, by rw [m0 4 (by omega)]; exact d2, by rw [ck 1 (by decide) (by decide) (by decide) (by decide) (by decide)]; exact d3⟩, ⟨by rw [m0 3 (by omega)]; exact e1, by rw [ck 0 (by decide) (by decide) (by decide) (by decide) (by decide)]; exact e2, e3, e4, fun i hi => by rw [ck 12 (by decide) (by decide) (by decide) (by decide) (by decide)]; exact e5 i hi, fun t ht => ?_⟩, ⟨k, by rw [m0 6 (by omega)]; exact f1, by rw [ck 8 (by decide) (by decide) (by decide) (by decide) (by decide)]; exact f2, f3, fun i hi => by rw [mk 3 (by decide) (by decide) (by decide), ck 9 (by decide) (by decide) (by decide) (by decide) (by decide)]; exact f4 i hi⟩, ?_, fun s hs => ?_⟩
  · rw [hm.pv, ck (26 + i) (by omega) (by omega) (by omega) (by omega) (by omega)]; exact a4 i hi
  · rw [Rday, m0 7 (by omega), m0 8 (by omega), ck 1 (by decide) (by decide) (by decide) (by decide) (by decide), hc.2]; exact ⟨b1, b2, b3, b4, b5⟩
  · obtain ⟨b, n, q, cods, x1, x2, x3⟩ := e6 t ht
    refine ⟨b, n, q, cods, ?_, x2, x3.keep (hc.1 _ (Or.inr (by omega)) (by omega) (by omega) (by omega) (by omega)) (hc.1 _ (Or.inr (by omega)) (by omega) (by omega) (by omega) (by omega))⟩
    unfold TxM at *
    rw [mk 1 (by decide) (by decide) (by decide), mk 2 (by decide) (by decide) (by decide)]; exact x1
  · rcases g1 with ⟨g1, g2⟩ | ⟨g1, K, r, h1, h2, h3, h4, h5, h6, h7, h8, h9, h10, h11⟩
    · exact Or.inl ⟨by rw [m0 32 (by omega)]; exact g1, by rw [ck 0 (by decide) (by decide) (by decide) (by decide) (by decide)]; exact g2⟩
    · refine Or.inr ⟨by rw [ck 0 (by decide) (by decide) (by decide) (by decide) (by decide)]; exact g1, K, r, h1, h2, by rw [m0 32 (by omega)]; exact h3, by rw [ck 2 (by decide) (by decide) (by decide) (by decide) (by decide)]; exact h4, by rw [m0 33 (by omega), ck 2 (by decide) (by decide) (by decide) (by decide) (by decide)]; exact h5, by rw [m0 33 (by omega)]; exact h6, by rw [m0 34 (by omega), ck 2 (by decide) (by decide) (by decide) (by decide) (by decide)]; exact h7, by rw [m0 34 (by omega)]; exact h8, by rw [m0 35 (by omega)]; exact h9, by rw [ck 2 (by decide) (by decide) (by decide) (by decide) (by decide)]; exact h10, fun i hi => ?_⟩
      have ek : pvK m' i = pvK m i := by funext j; unfold pvK; rw [mk 4 (by decide) (by decide) (by decide), mk 8 (by decide) (by decide) (by decide)]
      rw [ek, ck (34 + i) (by omega) (by omega) (by omega) (by omega) (by omega)]; exact h11 i hi
  · rw [mk 9 (by decide) (by decide) (by decide), mk 10 (by decide) (by decide) (by decide), mk 11 (by decide) (by decide) (by decide), mk 12 (by decide) (by decide) (by decide), ck (14 + s) (by omega) (by omega) (by omega) (by omega) (by omega), ck (18 + s) (by omega) (by omega) (by omega) (by omega) (by omega)]; exact i1 s hs
/-- both have one rule -/
theorem Rel.rule {m c : Sg} {nt : Nat} (h : Rel m c nt) : ∃ cods : Nat → List Int32, RuM m cods ∧ RuC nt c 1 cods := by
  obtain ⟨N, -, -, ⟨r, d1, d2, d3⟩, ⟨e1, e2, e3, e4, e5, e6⟩, -⟩ := h
  obtain ⟨b, n, q, cods, x1, x2, x3⟩ := e6 r d1
  have et : tx c (nI r) = 50 + 3 * r := by
    unfold tx
    rw [nI_clamp (by omega), e5 r (by omega), if_pos d1, nI_clamp (by omega)]
  exact ⟨cods, ⟨r, b, n, q, d2, x1, x2⟩, ⟨r, by omega, d3, by rw [et]; exact ⟨by omega, by omega, by omega⟩, by rw [et]; exact x3⟩⟩
/-- fields beyond the sixth don't matter -/
theorem envP_congr {f g : Nat → Int32} (h : ∀ j, j < 6 → f j = g j) (t d : Int32) : envP f t d = envP g t d := by
  funext k; unfold envP; rw [h 4 (by decide), h 1 (by decide), h 2 (by decide), h 3 (by decide)]
theorem flS_congr {f g : Nat → Int32} (h : ∀ j, j < 6 → f j = g j) (t d : Int32) (cods : Nat → List Int32) : flS f t d cods = flS g t d cods := by
  unfold flS; rw [envP_congr h, h 0 (by decide), h 1 (by decide), h 2 (by decide)]
theorem vtS_congr {f g : Nat → Int32} (h : ∀ j, j < 6 → f j = g j) (t d : Int32) (cods : Nat → List Int32) : vtS f t d cods = vtS g t d cods := by
  unfold vtS; rw [flS_congr h]
theorem wgS_congr {f g : Nat → Int32} (h : ∀ j, j < 6 → f j = g j) (d : Int32) (cods : Nat → List Int32) : wgS f d cods = wgS g d cods := by
  unfold wgS; rw [envP_congr h, h 0 (by decide), h 1 (by decide)]
theorem smS_congr {f g : Nat → Int32} (h : ∀ j, j < 6 → f j = g j) (d : Int32) (cods : Nat → List Int32) : smS f d cods = smS g d cods := by
  unfold smS; rw [envP_congr h, h 0 (by decide), h 1 (by decide)]
theorem pp4 (i : Nat) (h : i < 2 ^ 31) : pp 4 (nI i) = 26 + i := by unfold pp; rw [nI_clamp h]
theorem isP_now {i : Nat} (h : i < 8) : isP (26 + i) := Or.inr ⟨by omega, by omega⟩
/-- which numbers are papers -/
theorem h_isPaper {nt N : Nat} {c : Sg} {x : Int32} {Q : Int32 → Sg → Prop} (hN : c 1 2 = nI N) (h8 : N ≤ 8) (h1 : ∀ i, i < N → x = nI i → Q 1 c) (h0 : (¬ ∃ i, i < N ∧ x = nI i) → Q 0 c) : vv_X7_isPaper nt x c Q := by
  unfold vv_X7_isPaper
  rw [hN]
  refine ⟨fun z => h0 ?_, fun z => ⟨fun y => h0 ?_, fun y => ?_⟩⟩
  · rintro ⟨i, hi, rfl⟩; exact absurd z (nI_pos (by omega))
  · rintro ⟨i, hi, rfl⟩; exact absurd y (nI_ge hi (by omega))
  · obtain ⟨j, hj, rfl⟩ := nI_of z
    have : j < N := Nat.lt_of_not_le (fun q => y ((nI_leI (by omega) hj).mpr q))
    exact h1 j this rfl
theorem h_isOne {N : Nat} {m : Sg} {x : Int32} {Q : Int32 → Sg → Prop} (hN : m 0 11 = nI N) (h8 : N ≤ 8) (h1 : ∀ i, i < N → x = nI i → Q 1 m) (h0 : (¬ ∃ i, i < N ∧ x = nI i) → Q 0 m) : vv_X8_isOne x m Q := by
  unfold vv_X8_isOne
  rw [hN]
  refine h_in (l := 0) (h := nI N - 1) rfl rfl ?_
  have key : ((0 : Int32) ≤ x ∧ x ≤ nI N - 1) ↔ ∃ i, i < N ∧ x = nI i := by
    constructor
    · rintro ⟨a, b⟩
      obtain ⟨j, hj, rfl⟩ := nI_of (Int32.not_lt.mpr a)
      rcases Nat.eq_zero_or_pos N with z | z
      · subst z
        exact absurd (Int32.le_trans a b) (by decide)
      · rw [nI_sub1 z] at b
        have := (nI_leI hj (by omega)).mp b
        exact ⟨j, by omega, rfl⟩
    · rintro ⟨i, hi, rfl⟩
      rw [nI_sub1 (by omega)]
      exact ⟨nI_pos' (by omega), nI_le (by omega) (by omega)⟩
  by_cases h : ∃ i, i < N ∧ x = nI i
  · rw [if_pos (key.mpr h)]
    obtain ⟨i, hi, e⟩ := h
    exact ⟨Or.inr rfl, h1 i hi e⟩
  · rw [if_neg (fun z => h (key.mp z))]
    exact ⟨Or.inl rfl, h0 h⟩
theorem h_isWhole {m : Sg} {p : Nat} {Q : Int32 → Sg → Prop} (hp : p < 8) (hQ : Q (if m 5 (5 * p + 4) = 0 then 1 else 0) m) : vv_X8_isWhole (nI p) m Q := by
  unfold vv_X8_isWhole
  rw [ix5_4, nI_clamp (by omega)]
  exact ⟨vp_in_nI (by omega) (by decide), fun z => by rw [if_neg z] at hQ; exact hQ, fun z => by rw [if_pos z] at hQ; exact hQ⟩
