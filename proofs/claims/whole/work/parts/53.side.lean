/-! ===== a basket's picture; weights and votes of a division ===== -/
def BkC (nt : Nat) (c : Sg) (B N : Nat) (P : Nat → Nat → Int32) (D E : Int32) (co : Nat → List Int32) : Prop := isB B ∧ c B 2 = nI N ∧ N ≤ 8 ∧ (∀ i, i < N → (∀ j, j < 6 → c (18 + 8 * B + i) j = P i j) ∧ PapOk (P i)) ∧ c B 0 = D ∧ c B 3 = E ∧ RuC nt c B co
def BkM (m : Sg) (N : Nat) (P : Nat → Nat → Int32) (D E : Int32) (co : Nat → List Int32) : Prop := m 0 11 = nI N ∧ N ≤ 8 ∧ (∀ i, i < N → (∀ j, j < 6 → pvM m i j = P i j) ∧ PapOk (P i)) ∧ m 0 7 = D ∧ m 0 8 = E ∧ RuM m co
theorem Rel.bk {m c : Sg} {nt : Nat} (h : Rel m c nt) : ∃ (N : Nat) (P : Nat → Nat → Int32) (D E : Int32) (co : Nat → List Int32), BkM m N P D E co ∧ BkC nt c 1 N P D E co ∧ rngI D 0 999 ∧ rngI E 1 999 ∧ c 25 0 = 0 := by
  obtain ⟨cods, hM, hC⟩ := h.rule
  obtain ⟨N, hp, hd, -⟩ := h
  exact ⟨N, pvM m, m 0 7, m 0 8, cods, ⟨hp.1, hp.2.2.1, fun i hi => ⟨fun _ _ => rfl, (hp.2.2.2 i hi).2⟩, rfl, rfl, hM⟩, ⟨⟨by decide, by decide⟩, hp.2.1, hp.2.2.1, fun i hi => hp.2.2.2 i hi, hd.1.symm, hd.2.2.1.symm, hC⟩, hd.2.1, hd.2.2.2.1, hd.2.2.2.2⟩
/-- the class: all but the tally and the stacks of texts -/
def FrV (c c' : Sg) : Prop := (∀ k, (k < 50 ∨ k % 3 ≠ 1) → ¬ (22 ≤ k ∧ k ≤ 25) → c' k = c k) ∧ c' 25 0 = c 25 0
theorem FrV.rf (c : Sg) : FrV c c := ⟨fun _ _ _ => rfl, rfl⟩
theorem FrV.tr {a b c : Sg} (h1 : FrV a b) (h2 : FrV b c) : FrV a c := ⟨fun k x y => by rw [h2.1 k x y, h1.1 k x y], by rw [h2.2, h1.2]⟩
theorem FrV.K {a b : Sg} (h : FrV a b) : FrK a b := ⟨fun k x _ _ y _ => h.1 k x y, h.2⟩
theorem FrT.V {a b : Sg} (h : FrT a b) : FrV a b := ⟨fun k x _ => h k x, by rw [h 25 (Or.inl (by decide))]⟩
theorem FrV.put (c : Sg) {k j : Nat} (h : 22 ≤ k ∧ k ≤ 24) (x : Int32) : FrV c (st c k j x) := ⟨fun i _ hi => st_ne (by omega), by rw [st_ne (by omega)]⟩
theorem BkC.keep {nt : Nat} {c c' : Sg} {B N : Nat} {P : Nat → Nat → Int32} {D E : Int32} {co : Nat → List Int32} (h : BkC nt c B N P D E co) (F : FrV c c') : BkC nt c' B N P D E co := by
  obtain ⟨h1, h2, h3, h4, h5, h6, h7⟩ := h
  have b1 := h1.1
  have b2 := h1.2
  have e : c' B = c B := F.1 B (by omega) (by omega)
  exact ⟨h1, by rw [e]; exact h2, h3, fun i hi => by rw [F.1 (18 + 8 * B + i) (by omega) (by omega)]; exact h4 i hi, by rw [e]; exact h5, by rw [e]; exact h6, h7.keep (F.1 12 (by omega) (by omega)) (by rw [e]) (fun k hk hk' => F.1 k (by omega) (by omega))⟩
theorem BkM.keep {m m' : Sg} {N : Nat} {P : Nat → Nat → Int32} {D E : Int32} {co : Nat → List Int32} (h : BkM m N P D E co) (F : FrQ m m') : BkM m' N P D E co := by
  obtain ⟨h2, h3, h4, h5, h6, h7⟩ := h
  exact ⟨by rw [F.2 11 (by omega)]; exact h2, h3, fun i hi => by rw [F.pv]; exact h4 i hi, by rw [F.2 7 (by omega)]; exact h5, by rw [F.2 8 (by omega)]; exact h6, h7.keep (F.2 4 (by omega)) (F.1 1 (by decide) (by decide) (by decide)) (F.1 2 (by decide) (by decide) (by decide))⟩
theorem BkC.P {nt : Nat} {c : Sg} {B N i : Nat} {P : Nat → Nat → Int32} {D E : Int32} {co : Nat → List Int32} (h : BkC nt c B N P D E co) (hi : i < 8) : isP (18 + 8 * B + i) := Or.inr (by have := h.1.1; have := h.1.2; omega)
/-- what one weighs, votes; whether it stands -/
def wtP (P : Nat → Nat → Int32) (D : Int32) (co : Nat → List Int32) (i : Nat) : Int32 := wgS (P i) D co
def lvP (P : Nat → Nat → Int32) (N i : Nat) : Bool := decide (i < N) && decide (P i 5 = 0)
def voP (P : Nat → Nat → Int32) (D : Int32) (co : Nat → List Int32) (t : Int32) (i : Nat) : Int32 := vtS (P i) t D co
/-- the sum of one side, but of a set -/
def sdF (P : Nat → Nat → Int32) (N : Nat) (D : Int32) (co : Nat → List Int32) (t v : Int32) (S : Nat) (i : Nat) : Int32 := if lvP P N i = true ∧ bt S i = false ∧ voP P D co t i = v then wtP P D co i else 0
def sdS (P : Nat → Nat → Int32) (N : Nat) (D : Int32) (co : Nat → List Int32) (t v : Int32) (S : Nat) : Int32 := sumN (sdF P N D co t v S) N
def stS (P : Nat → Nat → Int32) (N : Nat) : Nat := bsN (lvP P N) 8
theorem lv_ge {P : Nat → Nat → Int32} {N i : Nat} (h : N ≤ i) : lvP P N i = false := by unfold lvP; rw [decide_eq_false (by omega)]; rfl
theorem stS_lt (P : Nat → Nat → Int32) (N : Nat) : stS P N < 256 := bsN_256 _ (by omega)
theorem stS_N {P : Nat → Nat → Int32} {N : Nat} (h : N ≤ 8) : stS P N = bsN (lvP P N) N := bsN_to h (fun _ hi => lv_ge hi)
theorem h_weighM {m : Sg} {N i : Nat} {P : Nat → Nat → Int32} {D E : Int32} {co : Nat → List Int32} {Q : Int32 → Sg → Prop} (h : BkM m N P D E co) (hi : i < N) (hQ : ∀ m', FrS m m' → Q (wtP P D co i) m') : vv_X8_weighsOf (nI i) m Q := by
  have h8 := h.2.1
  refine h_weighsM (by omega) h.2.2.2.2.2 (fun m' F => ?_)
  rw [h.2.2.2.1, wgS_congr (h.2.2.1 i hi).1]
  exact hQ m' F
theorem h_votM {m : Sg} {N i : Nat} {P : Nat → Nat → Int32} {D E t : Int32} {co : Nat → List Int32} {Q : Int32 → Sg → Prop} (h : BkM m N P D E co) (hi : i < N) (hQ : ∀ m', FrS m m' → Q (voP P D co t i) m') : vv_X8_voteOf (nI i) t m Q := by
  have h8 := h.2.1
  refine h_voteM (by omega) h.2.2.2.2.2 (fun m' F => ?_)
  rw [h.2.2.2.1, vtS_congr (h.2.2.1 i hi).1]
  exact hQ m' F
theorem h_whoM {m : Sg} {N i : Nat} {P : Nat → Nat → Int32} {D E : Int32} {co : Nat → List Int32} {Q : Int32 → Sg → Prop} (h : BkM m N P D E co) (hi : i < N) (hQ : Q (if lvP P N i then 1 else 0) m) : vv_X8_isWhole (nI i) m Q := by
  have h8 := h.2.1
  refine h_isWhole (by omega) ?_
  have e : m 5 (5 * i + 4) = P i 5 := (pv_succ m i 4).symm.trans ((h.2.2.1 i hi).1 5 (by decide))
  rw [e]
  unfold lvP at hQ
  rw [decide_eq_true hi, Bool.true_and] at hQ
  by_cases q : P i 5 = 0
  · rw [if_pos q]; rw [if_pos (decide_eq_true q)] at hQ; exact hQ
  · rw [if_neg q]; rw [decide_eq_false q] at hQ; exact hQ
theorem sideM_L {m : Sg} {N S : Nat} {P : Nat → Nat → Int32} {D E t v : Int32} {co : Nat → List Int32} {Q : Int32 → Sg → Prop} (h : BkM m N P D E co) (hS : S < 256) (hQ : ∀ m', FrS m m' → Q (sdS P N D co t v S) m') : ∀ d i g a, i + d = N → FrS m g → a = sumN (sdF P N D co t v S) i → vv_X8_sideOf_L6 Q (d + 1) t v (nI S) a (nI i) g := by
  intro d
  induction d with
  | zero =>
    intro i g a hi F ha
    have e : i = N := by omega
    subst e
    unfold vv_X8_sideOf_L6
    rw [(h.keep F.Q).1]
    exact ⟨fun _ => by rw [ha]; exact hQ g F, fun z => absurd (Int32.le_refl _) z⟩
  | succ d ih =>
    intro i g a hi F ha
    have hg := h.keep F.Q
    have h8 := h.2.1
    unfold vv_X8_sideOf_L6
    rw [hg.1, b_sh S hS i (by omega)]
    have go : ∀ g' b, FrS m g' → b = sumN (sdF P N D co t v S) (i + 1) → vv_X8_sideOf_J55 (vv_X8_sideOf_L6 Q (d + 1)) t v (nI S) b (nI i) g' Q := by
      intro g' b F' hb
      unfold vv_X8_sideOf_J55
      rintro j rfl
      rw [nI_1]
      exact ih _ _ _ (by omega) F' hb
    have no : ¬ (lvP P N i = true ∧ bt S i = false ∧ voP P D co t i = v) → a = sumN (sdF P N D co t v S) (i + 1) := fun q => by
      rw [sumN, sdF, if_neg q, Int32.add_zero]; exact ha
    refine ⟨fun z => absurd z (nI_ge (by omega) (by omega)), fun _ => ⟨fun z => go g a F (no (fun q => ?_)), fun z => h_whoM hg (by omega) ?_⟩⟩
    · have := q.2.1
      unfold bt at this
      have e : S / 2 ^ i % 2 = 0 := by
        have h1 : ¬ S / 2 ^ i % 2 = 1 := by simpa using this
        omega
      exact z (by rw [e]; rfl)
    · have hb : bt S i = false := by
        unfold bt
        have h1 := Nat.mod_lt (S / 2 ^ i) (show 2 > 0 by decide)
        have h2 : ¬ S / 2 ^ i % 2 = 1 := fun q => by rw [q] at z; exact absurd z (by decide)
        simpa using h2
      by_cases hl : lvP P N i = true
      · rw [hl]
        refine ⟨fun z => absurd z (by decide), fun _ => h_votM hg (by omega) (fun g1 F1 => ⟨fun q => go g1 a (F.tr F1) (no (fun w => q w.2.2)), fun q => h_weighM (hg.keep F1.Q) (by omega) (fun g2 F2 => ?_)⟩)⟩
        rintro a' rfl
        refine go g2 _ ((F.tr F1).tr F2) ?_
        rw [sumN, sdF, if_pos ⟨hl, hb, q⟩, ha]
      · rw [if_neg hl]
        exact ⟨fun _ => go g a F (no (fun w => hl w.1)), fun z => absurd rfl z⟩
theorem h_sideM {m : Sg} {N S : Nat} {P : Nat → Nat → Int32} {D E t v : Int32} {co : Nat → List Int32} {Q : Int32 → Sg → Prop} (h : BkM m N P D E co) (hS : S < 256) (hQ : ∀ m', FrS m m' → Q (sdS P N D co t v S) m') : vv_X8_sideOf t v (nI S) m Q := by
  unfold vv_X8_sideOf
  rintro a rfl b rfl
  exact ⟨N + 1, sideM_L h hS hQ N 0 m 0 (by omega) (FrS.rf m) rfl⟩
/-- who stands, in the class -/
theorem BkC.b5 {nt : Nat} {c : Sg} {B N i : Nat} {P : Nat → Nat → Int32} {D E : Int32} {co : Nat → List Int32} (h : BkC nt c B N P D E co) (hi : i < N) : 1 - c (18 + 8 * B + i) 5 = if lvP P N i then 1 else 0 := by
  obtain ⟨f1, f2⟩ := h.2.2.2.1 i hi
  rw [f1 5 (by decide)]
  unfold lvP
  rw [decide_eq_true hi, Bool.true_and]
  rcases f2.2.2.2.2.2 with e | e <;> rw [e] <;> decide
theorem stC_L {nt : Nat} {c : Sg} {B N : Nat} {P : Nat → Nat → Int32} {D E : Int32} {co : Nat → List Int32} {Q : Int32 → Sg → Prop} (h : BkC nt c B N P D E co) (hQ : Q (nI (stS P N)) c) : ∀ d i, i + d = N → vv_X0_standingBits_L4 nt Q (d + 1) B (nI (bsN (lvP P N) i)) (nI i) c := by
  intro d
  have h8 := h.2.2.1
  induction d with
  | zero =>
    intro i hi
    have e : i = N := by omega
    subst e
    unfold vv_X0_standingBits_L4
    rw [h.2.1, ← stS_N h8]
    exact ⟨fun _ => hQ, fun z => absurd (Int32.le_refl _) z⟩
  | succ d ih =>
    intro i hi
    unfold vv_X0_standingBits_L4
    rw [h.2.1, pp3 h.1.1 (by omega), h.b5 (by omega)]
    refine ⟨fun z => absurd z (nI_ge (by omega) (by omega)), fun _ => ⟨fun z => absurd z (nI_ge (b := 8) (by omega) (by omega)), fun _ => ⟨vp_in_nI (by omega) (by decide), ?_⟩⟩⟩
    intro x ex y ey
    rw [ex, ey, b_bsN (by omega), nI_1]
    exact ih _ (by omega)
theorem h_stC {nt : Nat} {c : Sg} {B N : Nat} {P : Nat → Nat → Int32} {D E : Int32} {co : Nat → List Int32} {Q : Int32 → Sg → Prop} (h : BkC nt c B N P D E co) (hQ : Q (nI (stS P N)) c) : vv_X0_standingBits nt B c Q := by
  unfold vv_X0_standingBits
  refine ⟨h.1, ?_⟩
  rintro x rfl y rfl
  exact ⟨N + 1, stC_L h hQ N 0 (by omega)⟩
theorem h_weightP {nt : Nat} {c : Sg} {B N i : Nat} {P : Nat → Nat → Int32} {D E : Int32} {co : Nat → List Int32} {Q : Int32 → Sg → Prop} (h : BkC nt c B N P D E co) (hi : i < N) (hQ : ∀ c', FrT c c' → Q (wtP P D co i) c') : vv_X7_weightOf nt B (18 + 8 * B + i) c Q := by
  have h8 := h.2.2.1
  refine h_weightC h.1 (h.P (by omega)) h.2.2.2.2.2.2 (fun c' F => ?_)
  rw [h.2.2.2.2.1, wgS_congr (h.2.2.2.1 i hi).1]
  exact hQ c' F
/-- weights are laid out -/
def wlP (P : Nat → Nat → Int32) (N : Nat) (D : Int32) (co : Nat → List Int32) (i : Nat) : Int32 := if lvP P N i then wtP P D co i else 0
theorem weigC_L {nt : Nat} {c : Sg} {B N : Nat} {P : Nat → Nat → Int32} {D E : Int32} {co : Nat → List Int32} {Q : Sg → Prop} (h : BkC nt c B N P D E co) (hQ : ∀ c', FrV c c' → c' 22 = (st c 22 2 (nI (stS P N))) 22 → c' 24 = c 24 → c' 25 = c 25 → (∀ i, i < 8 → c' 23 i = wlP P N D co i) → Q c') : ∀ d i g, i + d = 8 → FrV c g → g 22 = (st c 22 2 (nI (stS P N))) 22 → g 24 = c 24 → g 25 = c 25 → (∀ j, j < i → g 23 j = wlP P N D co j) → vv_X7_weighAll_L13 nt Q (d + 1) B (nI i) g := by
  intro d
  have h8 := h.2.2.1
  induction d with
  | zero =>
    intro i g hi F h22 h24 h25 h23
    have e : i = 8 := by omega
    subst e
    unfold vv_X7_weighAll_L13
    exact ⟨fun _ => hQ g F h22 h24 h25 h23, fun z => absurd (show (8 : Int32) ≤ nI 8 from by decide) z⟩
  | succ d ih =>
    intro i g hi F h22 h24 h25 h23
    have hg := h.keep F
    unfold vv_X7_weighAll_L13
    rw [h22, st_on, b_sh _ (stS_lt P N) i (by omega)]
    have hb : bt (stS P N) i = lvP P N i := by
      unfold stS; rw [bt_bsN, decide_eq_true (by omega), Bool.true_and]
    have go : ∀ g' x, FrT g g' → x = wlP P N D co i → vv_X7_weighAll_J57 nt (vv_X7_weighAll_L13 nt Q (d + 1)) B (nI i) (nI i) x g' Q := by
      intro g' x F' hx
      unfold vv_X7_weighAll_J57
      refine ⟨vp_in_nI (by omega) (by decide), ?_⟩
      rintro g2 rfl y rfl
      rw [nI_1, nI_clamp (by omega)]
      refine ih _ _ (by omega) ((F.tr F'.V).tr (FrV.put _ (by decide) _)) (by rw [st_ne (by decide), F' 22 (by omega)]; exact h22) (by rw [st_ne (by decide), F' 24 (by omega)]; exact h24) (by rw [st_ne (by decide), F' 25 (by omega)]; exact h25) (fun j hj => ?_)
      rw [st_at]
      by_cases q : j = i
      · rw [if_pos q, q]; exact hx
      · rw [if_neg q, F' 23 (by omega)]; exact h23 j (by omega)
    refine ⟨fun z => absurd z (nI_ge (b := 8) (by omega) (by omega)), fun _ => ⟨fun z => go g 0 (FrT.rf g) ?_, fun z => ⟨vp_in_nI (by omega) (by decide), ?_⟩⟩⟩
    · have : bt (stS P N) i = false := by
        unfold bt
        have h2 : ¬ stS P N / 2 ^ i % 2 = 1 := fun q => by rw [q] at z; exact z rfl
        simpa using h2
      rw [hb] at this
      unfold wlP; rw [this]; rfl
    · have : bt (stS P N) i = true := by
        unfold bt
        have h1 := Nat.mod_lt (stS P N / 2 ^ i) (show 2 > 0 by decide)
        have h2 : stS P N / 2 ^ i % 2 = 1 := by
          rcases (show stS P N / 2 ^ i % 2 = 0 ∨ stS P N / 2 ^ i % 2 = 1 by omega) with q | q
          · rw [q] at z; exact absurd z (by decide)
          · exact q
        simpa using h2
      rw [hb] at this
      have hi' : i < N := Nat.lt_of_not_le (fun q => by rw [lv_ge q] at this; exact absurd this (by decide))
      rw [pp3 h.1.1 (by omega)]
      refine h_weightP hg hi' (fun g' F' => go g' _ F' ?_)
      unfold wlP; rw [this]; rfl
theorem h_weigC {nt : Nat} {c : Sg} {B N : Nat} {P : Nat → Nat → Int32} {D E : Int32} {co : Nat → List Int32} {Q : Sg → Prop} (h : BkC nt c B N P D E co) (hQ : ∀ c', FrV c c' → c' 22 2 = nI (stS P N) → c' 25 = c 25 → (∀ i, i < 8 → c' 23 i = wlP P N D co i) → Q c') : vv_X7_weighAll nt B c Q := by
  unfold vv_X7_weighAll
  refine ⟨h.1, h_stC h ?_⟩
  rintro g rfl x rfl
  have hk := h.keep (FrV.put c (k := 22) (j := 2) (by decide) (nI (stS P N)))
  refine ⟨9, weigC_L hk (fun c' F h22 h24 h25 h23 => hQ c' ((FrV.put c (by decide) _).tr F) ?_ (by rw [h25, st_ne (by decide)]) h23) 8 0 _ (by omega) (FrV.rf _) ?_ rfl rfl (fun j hj => absurd hj (by omega))⟩
  · rw [h22, st_on]
  · rw [st_st]
