/-! ===== the class's parser reads what pL reads ===== -/
def CdC (g : Sg) (c : List Int32) : Prop := g 10 2 = nI c.length ∧ ∀ i, i < c.length → g 11 i = c.getD i 0
def PsC (g : Sg) (b : By) (n p : Nat) (c : List Int32) : Prop := TkC g b n p ∧ CdC g c ∧ c.length ≤ p
def FrC (g g' : Sg) : Prop := ∀ k, k ≠ 8 → k ≠ 10 → k ≠ 11 → g' k = g k
theorem FrC.rf (g : Sg) : FrC g g := fun _ _ _ _ => rfl
theorem FrC.tr {a b c : Sg} (h1 : FrC a b) (h2 : FrC b c) : FrC a c := fun k x y z => by rw [h2 k x y z, h1 k x y z]
theorem TkC.keep {g g' : Sg} {b : By} {n p : Nat} (h : TkC g b n p) (h8 : g' 8 = g 8) (h9 : g' 9 = g 9) : TkC g' b n p := by
  unfold TkC LetC at *
  rw [h8, h9]; exact h
theorem CdC.keep {g g' : Sg} {c : List Int32} (h : CdC g c) (h10 : g' 10 = g 10) (h11 : g' 11 = g 11) : CdC g' c := by
  unfold CdC at *
  rw [h10, h11]; exact h
theorem h_emit {nt : Nat} {v : Int32} {g : Sg} {c : List Int32} {Q : Sg → Prop} (hc : CdC g c) (hl : c.length < 160) (hQ : ∀ g', CdC g' (c ++ [v]) → (∀ k, k ≠ 10 → k ≠ 11 → g' k = g k) → Q g') : vv_X2_emit nt v g Q := by
  unfold vv_X2_emit
  rw [hc.1]
  refine ⟨fun h => absurd h (nI_ge (b := 160) hl (by decide)), fun _ => ⟨vp_in_nI hl (by decide), ?_⟩⟩
  rintro g2 rfl g3 rfl
  rw [nI_clamp (by omega)]
  refine hQ _ ⟨?_, fun i hi => ?_⟩ (fun k h10 h11 => by rw [st_ne h10, st_ne h11])
  · rw [st_on, st_ne (by decide), hc.1, nI_1, List.length_append]; rfl
  · rw [st_ne (by decide), st_at]
    simp only [List.length_append, List.length_cons, List.length_nil] at hi
    by_cases h : i = c.length
    · subst h; simp
    · rw [if_neg h, hc.2 i (by omega)]
      simp [List.getD, List.getElem?_append_left (show i < c.length by omega)]
theorem h_adv2 {nt : Nat} {b : By} {n p : Nat} {c : List Int32} {g : Sg} {Q : Sg → Prop} (h : PsC g b n p c) (hlt : p < n) (hQ : ∀ g', PsC g' b n (nx b n p) c → FrC g g' → Q g') : vv_X5_advance nt g Q :=
  h_advance h.1 hlt (fun g' a1 a2 => hQ g' ⟨a1, h.2.1.keep (a2 10 (by decide)) (a2 11 (by decide)), by have := h.2.2; have := (nx_gt (b := b) hlt).1; omega⟩ (fun k h8 _ _ => a2 k h8))
theorem h_emit2 {nt : Nat} {b : By} {n p : Nat} {v : Int32} {c : List Int32} {g : Sg} {Q : Sg → Prop} (h : PsC g b n p c) (hl : c.length + 1 ≤ p) (hQ : ∀ g', PsC g' b n p (c ++ [v]) → FrC g g' → Q g') : vv_X2_emit nt v g Q := by
  have hp := h.1.2.2.2.2.2
  have h160 := h.1.1.2.1
  exact h_emit h.2.1 (by omega) (fun g' a1 a2 => hQ g' ⟨h.1.keep (a2 8 (by decide) (by decide)) (a2 9 (by decide) (by decide)), a1, by simp only [List.length_append, List.length_cons, List.length_nil]; omega⟩ (fun k h8 h10 h11 => a2 k h10 h11))
def RSp (b : By) (n : Nat) (V : Sg → (Int32 → Sg → Prop) → Prop) (f : Pf) : Prop := ∀ (g : Sg) (p : Nat) (c : List Int32) (Q : Int32 → Sg → Prop), PsC g b n p c →
  (∀ q, f p = (q, none) → ∀ g', FrC g g' → TkC g' b n q → Q 0 g') → (∀ q c', f p = (q, some c') → ∀ g', FrC g g' → PsC g' b n q (c ++ c') → Q 1 g') → V g Q
theorem lp_either {rec : RT} {nt n : Nat} {b : By} {x : Int32} {sub : Pf} {Q : Int32 → Sg → Prop} (hs : RSp b n (rec 1 x) sub) (hok : okF n sub) : ∀ (f i : Nat) (g : Sg) (p : Nat) (cp c : List Int32), i + f = 160 → PsC g b n p (cp ++ c) →
    (∀ q, pLoop b n sub opOr f p c = (q, none) → ∀ g', FrC g g' → TkC g' b n q → Q 0 g') → (∀ q c', pLoop b n sub opOr f p c = (q, some c') → ∀ g', FrC g g' → PsC g' b n q (cp ++ c') → Q 1 g') → vb_X2_either_L12 rec nt Q (f + 1) x (nI i) g := by
  intro f
  induction f with
  | zero =>
    intro i g p cp c hi hP h0 h1
    unfold vb_X2_either_L12
    exact ⟨fun _ => h1 p c rfl g (FrC.rf g) hP, fun h => absurd (nI_le (a := 160) (by omega) (by omega)) h⟩
  | succ f ih =>
    intro i g p cp c hi hP h0 h1
    have et : g 8 3 = tkC b n p := hP.1.2.2.1
    by_cases ht : tkC b n p = 7
    · have eop : opOr (tkC b n p) = 20000 := by rw [ht]; rfl
      have hlt : p < n := tkC_lt (fun q => by rw [q] at ht; revert ht; decide)
      have hnx := nx_gt (b := b) hlt
      have hk := hok (nx b n p) hnx.2
      have step : pLoop b n sub opOr (f + 1) p c = (match sub (nx b n p) with | (q, none) => (q, none) | (q, some c') => pLoop b n sub opOr f q (c ++ c' ++ [20000])) := by
        simp only [pLoop, eop]
        rw [if_neg (by decide)]
        rfl
      unfold vb_X2_either_L12
      refine ⟨fun h => absurd h (nI_ge (b := 160) (by omega) (by decide)), fun _ => ⟨fun h => absurd (et.trans ht) h, fun _ => h_adv2 hP hlt (fun g1 P1 F1 => hs g1 _ _ _ P1 (fun q e g2 F2 T2 => ?_) (fun q c2 e g2 F2 P2 => ?_))⟩⟩
      · rw [e] at step
        exact ⟨fun h => absurd rfl h, fun _ => h0 _ step g2 (F1.tr F2) T2⟩
      · rw [e] at step hk
        have a3 := hk.2.2 c2 rfl
        dsimp only at a3
        have hl0 := hP.2.2
        rw [List.length_append] at hl0
        refine ⟨fun _ => h_emit2 P2 (by rw [List.length_append, List.length_append]; omega) (fun g3 P3 F3 => ?_), fun h => absurd h (by decide)⟩
        rintro y rfl
        rw [nI_1]
        have e3 : cp ++ c ++ c2 ++ [20000] = cp ++ (c ++ c2 ++ [20000]) := by simp only [List.append_assoc]
        rw [e3] at P3
        exact ih (i + 1) g3 q cp _ (by omega) P3 (fun q' e' g' F T => h0 q' (step.trans e') g' (((F1.tr F2).tr F3).tr F) T) (fun q' c' e' g' F P => h1 q' c' (step.trans e') g' (((F1.tr F2).tr F3).tr F) P)
    · have eop : opOr (tkC b n p) = 0 := by unfold opOr; rw [if_neg ht]
      have step : pLoop b n sub opOr (f + 1) p c = (p, some c) := by simp only [pLoop, eop, if_true]
      unfold vb_X2_either_L12
      exact ⟨fun h => absurd h (nI_ge (b := 160) (by omega) (by decide)), fun _ => ⟨fun _ => h1 p c step g (FrC.rf g) hP, fun h => absurd (et.symm.trans h) ht⟩⟩
theorem rs_either {rec : RT} {nt n : Nat} {b : By} {x : Int32} {sub : Pf} (hs : RSp b n (rec 1 x) sub) (hok : okF n sub) : RSp b n (vb_X2_either rec nt x) (pSeq b n sub opOr) := by
  intro g p c Q hP h0 h1
  unfold vb_X2_either
  refine hs g p c _ hP (fun q e g2 F2 T2 => ⟨fun h => absurd rfl h, fun _ => h0 q (by unfold pSeq; rw [e]) g2 F2 T2⟩) (fun q c2 e g2 F2 P2 => ⟨fun _ => ?_, fun h => absurd h (by decide)⟩)
  rintro y rfl
  have es : pSeq b n sub opOr p = pLoop b n sub opOr 160 q c2 := by unfold pSeq; rw [e]
  exact ⟨161, lp_either hs hok 160 0 g2 q c c2 rfl P2 (fun q' e' g' F T => h0 q' (es.trans e') g' (F2.tr F) T) (fun q' c' e' g' F P => h1 q' c' (es.trans e') g' (F2.tr F) P)⟩
theorem lp_both {rec : RT} {nt n : Nat} {b : By} {x : Int32} {sub : Pf} {Q : Int32 → Sg → Prop} (hs : RSp b n (rec 2 x) sub) (hok : okF n sub) : ∀ (f i : Nat) (g : Sg) (p : Nat) (cp c : List Int32), i + f = 160 → PsC g b n p (cp ++ c) →
    (∀ q, pLoop b n sub opAnd f p c = (q, none) → ∀ g', FrC g g' → TkC g' b n q → Q 0 g') → (∀ q c', pLoop b n sub opAnd f p c = (q, some c') → ∀ g', FrC g g' → PsC g' b n q (cp ++ c') → Q 1 g') → vb_X2_both_L12 rec nt Q (f + 1) x (nI i) g := by
  intro f
  induction f with
  | zero =>
    intro i g p cp c hi hP h0 h1
    unfold vb_X2_both_L12
    exact ⟨fun _ => h1 p c rfl g (FrC.rf g) hP, fun h => absurd (nI_le (a := 160) (by omega) (by omega)) h⟩
  | succ f ih =>
    intro i g p cp c hi hP h0 h1
    have et : g 8 3 = tkC b n p := hP.1.2.2.1
    by_cases ht : tkC b n p = 8
    · have eop : opAnd (tkC b n p) = 20001 := by rw [ht]; rfl
      have hlt : p < n := tkC_lt (fun q => by rw [q] at ht; revert ht; decide)
      have hnx := nx_gt (b := b) hlt
      have hk := hok (nx b n p) hnx.2
      have step : pLoop b n sub opAnd (f + 1) p c = (match sub (nx b n p) with | (q, none) => (q, none) | (q, some c') => pLoop b n sub opAnd f q (c ++ c' ++ [20001])) := by
        simp only [pLoop, eop]
        rw [if_neg (by decide)]
        rfl
      unfold vb_X2_both_L12
      refine ⟨fun h => absurd h (nI_ge (b := 160) (by omega) (by decide)), fun _ => ⟨fun h => absurd (et.trans ht) h, fun _ => h_adv2 hP hlt (fun g1 P1 F1 => hs g1 _ _ _ P1 (fun q e g2 F2 T2 => ?_) (fun q c2 e g2 F2 P2 => ?_))⟩⟩
      · rw [e] at step
        exact ⟨fun h => absurd rfl h, fun _ => h0 _ step g2 (F1.tr F2) T2⟩
      · rw [e] at step hk
        have a3 := hk.2.2 c2 rfl
        dsimp only at a3
        have hl0 := hP.2.2
        rw [List.length_append] at hl0
        refine ⟨fun _ => h_emit2 P2 (by rw [List.length_append, List.length_append]; omega) (fun g3 P3 F3 => ?_), fun h => absurd h (by decide)⟩
        rintro y rfl
        rw [nI_1]
        have e3 : cp ++ c ++ c2 ++ [20001] = cp ++ (c ++ c2 ++ [20001]) := by simp only [List.append_assoc]
        rw [e3] at P3
        exact ih (i + 1) g3 q cp _ (by omega) P3 (fun q' e' g' F T => h0 q' (step.trans e') g' (((F1.tr F2).tr F3).tr F) T) (fun q' c' e' g' F P => h1 q' c' (step.trans e') g' (((F1.tr F2).tr F3).tr F) P)
    · have eop : opAnd (tkC b n p) = 0 := by unfold opAnd; rw [if_neg ht]
      have step : pLoop b n sub opAnd (f + 1) p c = (p, some c) := by simp only [pLoop, eop, if_true]
      unfold vb_X2_both_L12
      exact ⟨fun h => absurd h (nI_ge (b := 160) (by omega) (by decide)), fun _ => ⟨fun _ => h1 p c step g (FrC.rf g) hP, fun h => absurd (et.symm.trans h) ht⟩⟩
theorem rs_both {rec : RT} {nt n : Nat} {b : By} {x : Int32} {sub : Pf} (hs : RSp b n (rec 2 x) sub) (hok : okF n sub) : RSp b n (vb_X2_both rec nt x) (pSeq b n sub opAnd) := by
  intro g p c Q hP h0 h1
  unfold vb_X2_both
  refine hs g p c _ hP (fun q e g2 F2 T2 => ⟨fun h => absurd rfl h, fun _ => h0 q (by unfold pSeq; rw [e]) g2 F2 T2⟩) (fun q c2 e g2 F2 P2 => ⟨fun _ => ?_, fun h => absurd h (by decide)⟩)
  rintro y rfl
  have es : pSeq b n sub opAnd p = pLoop b n sub opAnd 160 q c2 := by unfold pSeq; rw [e]
  exact ⟨161, lp_both hs hok 160 0 g2 q c c2 rfl P2 (fun q' e' g' F T => h0 q' (es.trans e') g' (F2.tr F) T) (fun q' c' e' g' F P => h1 q' c' (es.trans e') g' (F2.tr F) P)⟩
theorem lp_term {rec : RT} {nt n : Nat} {b : By} {x : Int32} {sub : Pf} {Q : Int32 → Sg → Prop} (hs : RSp b n (rec 5 x) sub) (hok : okF n sub) : ∀ (f i : Nat) (g : Sg) (p : Nat) (cp c : List Int32), i + f = 160 → PsC g b n p (cp ++ c) →
    (∀ q, pLoop b n sub opMul f p c = (q, none) → ∀ g', FrC g g' → TkC g' b n q → Q 0 g') → (∀ q c', pLoop b n sub opMul f p c = (q, some c') → ∀ g', FrC g g' → PsC g' b n q (cp ++ c') → Q 1 g') → vb_X2_term_L12 rec nt Q (f + 1) x (nI i) g := by
  intro f
  induction f with
  | zero =>
    intro i g p cp c hi hP h0 h1
    unfold vb_X2_term_L12
    exact ⟨fun _ => h1 p c rfl g (FrC.rf g) hP, fun h => absurd (nI_le (a := 160) (by omega) (by omega)) h⟩
  | succ f ih =>
    intro i g p cp c hi hP h0 h1
    have et : g 8 3 = tkC b n p := hP.1.2.2.1
    by_cases ht : tkC b n p = 42
    · have eop : opMul (tkC b n p) = 20006 := by rw [ht]; rfl
      have hlt : p < n := tkC_lt (fun q => by rw [q] at ht; revert ht; decide)
      have hnx := nx_gt (b := b) hlt
      have hk := hok (nx b n p) hnx.2
      have step : pLoop b n sub opMul (f + 1) p c = (match sub (nx b n p) with | (q, none) => (q, none) | (q, some c') => pLoop b n sub opMul f q (c ++ c' ++ [20006])) := by
        simp only [pLoop, eop]
        rw [if_neg (by decide)]
        rfl
      unfold vb_X2_term_L12
      refine ⟨fun h => absurd h (nI_ge (b := 160) (by omega) (by decide)), fun _ => ⟨fun h => absurd (et.trans ht) h, fun _ => h_adv2 hP hlt (fun g1 P1 F1 => hs g1 _ _ _ P1 (fun q e g2 F2 T2 => ?_) (fun q c2 e g2 F2 P2 => ?_))⟩⟩
      · rw [e] at step
        exact ⟨fun h => absurd rfl h, fun _ => h0 _ step g2 (F1.tr F2) T2⟩
      · rw [e] at step hk
        have a3 := hk.2.2 c2 rfl
        dsimp only at a3
        have hl0 := hP.2.2
        rw [List.length_append] at hl0
        refine ⟨fun _ => h_emit2 P2 (by rw [List.length_append, List.length_append]; omega) (fun g3 P3 F3 => ?_), fun h => absurd h (by decide)⟩
        rintro y rfl
        rw [nI_1]
        have e3 : cp ++ c ++ c2 ++ [20006] = cp ++ (c ++ c2 ++ [20006]) := by simp only [List.append_assoc]
        rw [e3] at P3
        exact ih (i + 1) g3 q cp _ (by omega) P3 (fun q' e' g' F T => h0 q' (step.trans e') g' (((F1.tr F2).tr F3).tr F) T) (fun q' c' e' g' F P => h1 q' c' (step.trans e') g' (((F1.tr F2).tr F3).tr F) P)
    · have eop : opMul (tkC b n p) = 0 := by unfold opMul; rw [if_neg ht]
      have step : pLoop b n sub opMul (f + 1) p c = (p, some c) := by simp only [pLoop, eop, if_true]
      unfold vb_X2_term_L12
      exact ⟨fun h => absurd h (nI_ge (b := 160) (by omega) (by decide)), fun _ => ⟨fun _ => h1 p c step g (FrC.rf g) hP, fun h => absurd (et.symm.trans h) ht⟩⟩
theorem rs_term {rec : RT} {nt n : Nat} {b : By} {x : Int32} {sub : Pf} (hs : RSp b n (rec 5 x) sub) (hok : okF n sub) : RSp b n (vb_X2_term rec nt x) (pSeq b n sub opMul) := by
  intro g p c Q hP h0 h1
  unfold vb_X2_term
  refine hs g p c _ hP (fun q e g2 F2 T2 => ⟨fun h => absurd rfl h, fun _ => h0 q (by unfold pSeq; rw [e]) g2 F2 T2⟩) (fun q c2 e g2 F2 P2 => ⟨fun _ => ?_, fun h => absurd h (by decide)⟩)
  rintro y rfl
  have es : pSeq b n sub opMul p = pLoop b n sub opMul 160 q c2 := by unfold pSeq; rw [e]
  exact ⟨161, lp_term hs hok 160 0 g2 q c c2 rfl P2 (fun q' e' g' F T => h0 q' (es.trans e') g' (F2.tr F) T) (fun q' c' e' g' F P => h1 q' c' (es.trans e') g' (F2.tr F) P)⟩
theorem lp_sum {rec : RT} {nt n : Nat} {b : By} {x : Int32} {sub : Pf} {Q : Int32 → Sg → Prop} (hs : RSp b n (rec 4 x) sub) (hok : okF n sub) : ∀ (f i : Nat) (g : Sg) (p : Nat) (cp c : List Int32), i + f = 160 → PsC g b n p (cp ++ c) →
    (∀ q, pLoop b n sub opAdd f p c = (q, none) → ∀ g', FrC g g' → TkC g' b n q → Q 0 g') → (∀ q c', pLoop b n sub opAdd f p c = (q, some c') → ∀ g', FrC g g' → PsC g' b n q (cp ++ c') → Q 1 g') → vb_X2_sum_L12 rec nt Q (f + 1) x (nI i) g := by
  intro f
  induction f with
  | zero =>
    intro i g p cp c hi hP h0 h1
    unfold vb_X2_sum_L12
    exact ⟨fun _ => h1 p c rfl g (FrC.rf g) hP, fun h => absurd (nI_le (a := 160) (by omega) (by omega)) h⟩
  | succ f ih =>
    intro i g p cp c hi hP h0 h1
    have et : g 8 3 = tkC b n p := hP.1.2.2.1
    have body : ∀ op : Int32, opAdd (tkC b n p) = op → ¬ op = 0 → (tkC b n p = 43 → op = 20004) → (¬ tkC b n p = 43 → op = 20005) → vb_X2_sum_J43 rec nt (vb_X2_sum_L12 rec nt Q (f + 1)) x (nI i) g Q := by
      intro op eop hop o1 o2
      have hlt : p < n := tkC_lt (fun q => hop (by rw [← eop, q]; rfl))
      have hnx := nx_gt (b := b) hlt
      have hk := hok (nx b n p) hnx.2
      have step : pLoop b n sub opAdd (f + 1) p c = (match sub (nx b n p) with | (q, none) => (q, none) | (q, some c') => pLoop b n sub opAdd f q (c ++ c' ++ [op])) := by
        simp only [pLoop, eop]
        rw [if_neg hop]
        rfl
      unfold vb_X2_sum_J43
      rintro y rfl
      refine h_adv2 hP hlt (fun g1 P1 F1 => hs g1 _ _ _ P1 (fun q e g2 F2 T2 => ?_) (fun q c2 e g2 F2 P2 => ?_))
      · rw [e] at step
        exact ⟨fun h => absurd rfl h, fun _ => h0 _ step g2 (F1.tr F2) T2⟩
      · rw [e] at step hk
        have a3 := hk.2.2 c2 rfl
        dsimp only at a3
        have hl0 := hP.2.2
        rw [List.length_append] at hl0
        have fin : vb_X2_sum_J84 rec nt (vb_X2_sum_L12 rec nt Q (f + 1)) x (nI i) op g2 Q := by
          unfold vb_X2_sum_J84
          refine h_emit2 P2 (by rw [List.length_append, List.length_append]; omega) (fun g3 P3 F3 => ?_)
          rintro y rfl
          rw [nI_1]
          have e3 : cp ++ c ++ c2 ++ [op] = cp ++ (c ++ c2 ++ [op]) := by simp only [List.append_assoc]
          rw [e3] at P3
          exact ih (i + 1) g3 q cp _ (by omega) P3 (fun q' e' g' F T => h0 q' (step.trans e') g' (((F1.tr F2).tr F3).tr F) T) (fun q' c' e' g' F P => h1 q' c' (step.trans e') g' (((F1.tr F2).tr F3).tr F) P)
        refine ⟨fun _ => ⟨fun h => ?_, fun h => ?_⟩, fun h => absurd h (by decide)⟩
        · rw [et] at h; rw [← o2 h]; exact fin
        · rw [et] at h; rw [← o1 h]; exact fin
    unfold vb_X2_sum_L12
    rw [et]
    refine ⟨fun h => absurd h (nI_ge (b := 160) (by omega) (by decide)), fun _ => ⟨fun h => body 20004 (by rw [h]; rfl) (by decide) (fun _ => rfl) (fun q => absurd h q), fun h => ⟨fun h2 => ?_, fun h2 => body 20005 (by rw [h2]; rfl) (by decide) (fun q => absurd q h) (fun _ => rfl)⟩⟩⟩
    have step : pLoop b n sub opAdd (f + 1) p c = (p, some c) := by
      simp only [pLoop]
      rw [if_pos (by unfold opAdd; rw [if_neg h, if_neg h2])]
    exact h1 p c step g (FrC.rf g) hP
theorem rs_sum {rec : RT} {nt n : Nat} {b : By} {x : Int32} {sub : Pf} (hs : RSp b n (rec 4 x) sub) (hok : okF n sub) : RSp b n (vb_X2_sum rec nt x) (pSeq b n sub opAdd) := by
  intro g p c Q hP h0 h1
  unfold vb_X2_sum
  refine hs g p c _ hP (fun q e g2 F2 T2 => ⟨fun h => absurd rfl h, fun _ => h0 q (by unfold pSeq; rw [e]) g2 F2 T2⟩) (fun q c2 e g2 F2 P2 => ⟨fun _ => ?_, fun h => absurd h (by decide)⟩)
  rintro y rfl
  have es : pSeq b n sub opAdd p = pLoop b n sub opAdd 160 q c2 := by unfold pSeq; rw [e]
  exact ⟨161, lp_sum hs hok 160 0 g2 q c c2 rfl P2 (fun q' e' g' F T => h0 q' (es.trans e') g' (F2.tr F) T) (fun q' c' e' g' F P => h1 q' c' (es.trans e') g' (F2.tr F) P)⟩
theorem rs_neg {rec : RT} {nt n d : Nat} {b : By} {lo : Nat → Pf} {sum : Pf} (hd : d ≤ 5) (hs : RSp b n (rec 3 (nI (5 - d))) sum) (hok : okF n sum) (hlo : 0 < d → RSp b n (rec 2 (nI (5 - d) + 1)) (lo 2)) (hlok : okF n (lo 2)) : RSp b n (vb_X2_negation rec nt (nI (5 - d))) (pNot b n d lo sum) := by
  intro g p c Q hP h0 h1
  have et : g 8 3 = tkC b n p := hP.1.2.2.1
  have hl0 := hP.2.2
  unfold vb_X2_negation
  rw [et]
  refine ⟨fun ht => ?_, fun ht => ?_⟩
  · have eN : pNot b n d lo sum p = (match sum p with | (q, none) => (q, none) | (q, some c) => if opCmp (tkC b n q) = 0 then (q, some c) else match sum (nx b n q) with | (r, none) => (r, none) | (r, some c') => (r, some (c ++ c' ++ [opCmp (tkC b n q)]))) := by
      unfold pNot; rw [if_neg ht]; rfl
    refine hs g p c _ hP (fun q e g2 F2 T2 => ⟨fun h => absurd rfl h, fun _ => h0 q (by rw [eN, e]) g2 F2 T2⟩) (fun q c2 e g2 F2 P2 => ⟨fun _ => ?_, fun h => absurd h (by decide)⟩)
    rw [e] at eN
    dsimp only at eN
    have et2 : g2 8 3 = tkC b n q := P2.1.2.2.1
    rintro y rfl
    have body : ∀ op : Int32, opCmp (tkC b n q) = op → ¬ op = 0 → (tkC b n q = 60 → op = 20002) → (¬ tkC b n q = 60 → op = 20003) → vb_X2_negation_J77 rec nt (nI (5 - d)) (g2 8 3) g2 Q := by
      intro op eop hop o1 o2
      have hlt : q < n := tkC_lt (fun z => hop (by rw [← eop, z]; rfl))
      have hnx := nx_gt (b := b) hlt
      have hk := hok (nx b n q) hnx.2
      rw [eop, if_neg hop] at eN
      unfold vb_X2_negation_J77
      refine h_adv2 P2 hlt (fun g3 P3 F3 => hs g3 _ _ _ P3 (fun r e3 g4 F4 T4 => ?_) (fun r c4 e3 g4 F4 P4 => ?_))
      · rw [e3] at eN
        exact ⟨fun h => absurd rfl h, fun _ => h0 r eN g4 ((F2.tr F3).tr F4) T4⟩
      · rw [e3] at eN hk
        have a3 := hk.2.2 c4 rfl
        dsimp only at a3 eN
        have hl2 := P2.2.2
        have fin : vb_X2_negation_J110 rec nt op g4 Q := by
          unfold vb_X2_negation_J110
          refine h_emit2 P4 (by rw [List.length_append]; omega) (fun g5 P5 F5 => ?_)
          have e5 : c ++ c2 ++ c4 ++ [op] = c ++ (c2 ++ c4 ++ [op]) := by simp only [List.append_assoc]
          rw [e5] at P5
          exact h1 r _ eN g5 (((F2.tr F3).tr F4).tr F5) P5
        refine ⟨fun _ => ⟨fun h => ?_, fun h => ?_⟩, fun h => absurd h (by decide)⟩
        · rw [et2] at h; rw [← o2 h]; exact fin
        · rw [et2] at h; rw [← o1 h]; exact fin
    refine ⟨fun h => ?_, fun h => ⟨fun h2 => ?_, fun h2 => ?_⟩⟩
    · rw [et2] at h
      exact body 20002 (by rw [h]; rfl) (by decide) (fun _ => rfl) (fun z => absurd h z)
    · rw [et2] at h h2
      rw [if_pos (by unfold opCmp; rw [if_neg h, if_neg h2])] at eN
      exact h1 q c2 eN g2 F2 P2
    · rw [et2] at h h2
      exact body 20003 (by rw [h2]; rfl) (by decide) (fun z => absurd z h) (fun _ => rfl)
  · have hlt : p < n := tkC_lt (fun z => by rw [z] at ht; revert ht; decide)
    have hnx := nx_gt (b := b) hlt
    have hk := hlok (nx b n p) hnx.2
    refine ⟨fun hx => ?_, fun hx => ?_⟩
    · have hd0 : 0 < d := by
        rcases Nat.eq_zero_or_pos d with z | z
        · subst z; exact absurd hx (by decide)
        · exact z
      have eN : pNot b n d lo sum p = (match lo 2 (nx b n p) with | (q, none) => (q, none) | (q, some c) => (q, some (c ++ [20007]))) := by
        unfold pNot; rw [if_pos ht, if_neg (by omega)]; rfl
      refine h_adv2 hP hlt (fun g1 P1 F1 => hlo hd0 g1 _ _ _ P1 (fun q e g2 F2 T2 => ⟨fun h => absurd rfl h, fun _ => h0 q (by rw [eN, e]) g2 (F1.tr F2) T2⟩) (fun q c2 e g2 F2 P2 => ⟨fun _ => ?_, fun h => absurd h (by decide)⟩))
      rw [e] at hk eN
      have a3 := hk.2.2 c2 rfl
      dsimp only at a3
      refine h_emit2 P2 (by rw [List.length_append]; omega) (fun g3 P3 F3 => ?_)
      rw [List.append_assoc] at P3
      exact h1 q _ eN g3 ((F1.tr F2).tr F3) P3
    · have hd0 : d = 0 := by
        rcases Nat.eq_zero_or_pos d with z | z
        · exact z
        · exact absurd (nI_lt (a := 5 - d) (b := 5) (by omega) (by decide)) hx
      exact h0 p (by unfold pNot; rw [if_pos ht, if_pos hd0]) g (FrC.rf g) hP.1
theorem rs_one {rec : RT} {nt n d : Nat} {b : By} {lo : Nat → Pf} (hd : d ≤ 5) (hlo5 : 0 < d → RSp b n (rec 5 (nI (5 - d) + 1)) (lo 5)) (hlo0 : 0 < d → RSp b n (rec 0 (nI (5 - d) + 1)) (lo 0)) (hok : ∀ i, okF n (lo i)) : RSp b n (vb_X2_one rec nt (nI (5 - d))) (pOne b n d lo) := by
  intro g p c Q hP h0 h1
  have et : g 8 3 = tkC b n p := hP.1.2.2.1
  have ev : g 8 4 = vlC b n p := hP.1.2.2.2.1
  have hl0 := hP.2.2
  unfold vb_X2_one
  rintro y rfl
  rw [et]
  have leaf : tkC b n p = 2 ∨ tkC b n p = 3 → vb_X2_one_J18 rec nt g Q := by
    intro ht
    have hlt : p < n := tkC_lt (fun z => by rw [z] at ht; revert ht; decide)
    have hnx := nx_gt (b := b) hlt
    have h160 := hP.1.1.2.1
    unfold vb_X2_one_J18
    rw [ev]
    refine h_emit hP.2.1 (by omega) (fun g1 C1 F1 => ?_)
    have T1 := hP.1.keep (F1 8 (by decide) (by decide)) (F1 9 (by decide) (by decide))
    refine h_advance T1 hlt (fun g2 T2 F2 => ?_)
    exact h1 (nx b n p) [vlC b n p] (by unfold pOne; rw [if_pos ht]) g2 (fun k k8 k10 k11 => by rw [F2 k k8, F1 k k10 k11]) ⟨T2, C1.keep (F2 10 (by decide)) (F2 11 (by decide)), by simp only [List.length_append, List.length_cons, List.length_nil]; omega⟩
  have deep : tkC b n p = 45 ∨ tkC b n p = 40 → vb_X2_one_J50 rec nt (nI (5 - d)) (tkC b n p) g Q := by
    intro ht
    have hlt : p < n := tkC_lt (fun z => by rw [z] at ht; revert ht; decide)
    have hnx := nx_gt (b := b) hlt
    have n23 : ¬ (tkC b n p = 2 ∨ tkC b n p = 3) := by rcases ht with z | z <;> (rw [z]; decide)
    unfold vb_X2_one_J50
    refine ⟨fun hx => ?_, fun hx => ?_⟩
    · have hd0 : 0 < d := by
        rcases Nat.eq_zero_or_pos d with z | z
        · subst z; exact absurd hx (by decide)
        · exact z
      refine h_adv2 hP hlt (fun g1 P1 F1 => ⟨fun n40 => ?_, fun e40 => ?_⟩)
      · have e45 : tkC b n p = 45 := ht.resolve_right n40
        have hk := hok 5 (nx b n p) hnx.2
        have eO : pOne b n d lo p = (match lo 5 (nx b n p) with | (q, none) => (q, none) | (q, some c) => (q, some (c ++ [20008]))) := by
          unfold pOne; rw [if_neg n23, if_pos e45, if_neg (by omega)]; rfl
        refine hlo5 hd0 g1 _ _ _ P1 (fun q e g2 F2 T2 => ⟨fun h => absurd rfl h, fun _ => h0 q (by rw [eO, e]) g2 (F1.tr F2) T2⟩) (fun q c2 e g2 F2 P2 => ⟨fun _ => ?_, fun h => absurd h (by decide)⟩)
        rw [e] at hk eO
        have a3 := hk.2.2 c2 rfl
        dsimp only at a3
        refine h_emit2 P2 (by rw [List.length_append]; omega) (fun g3 P3 F3 => ?_)
        rw [List.append_assoc] at P3
        exact h1 q _ eO g3 ((F1.tr F2).tr F3) P3
      · have n45 : ¬ tkC b n p = 45 := by rw [e40]; decide
        have eO : pOne b n d lo p = (match lo 0 (nx b n p) with | (q, none) => (q, none) | (q, some c) => if tkC b n q = 41 then (nx b n q, some c) else (q, none)) := by
          unfold pOne; rw [if_neg n23, if_neg n45, if_pos e40, if_neg (by omega)]; rfl
        refine hlo0 hd0 g1 _ _ _ P1 (fun q e g2 F2 T2 => ⟨fun _ => h0 q (by rw [eO, e]) g2 (F1.tr F2) T2, fun h => absurd rfl h⟩) (fun q c2 e g2 F2 P2 => ⟨fun h => absurd h (by decide), fun _ => ?_⟩)
        rw [e] at eO
        dsimp only at eO
        have et2 : g2 8 3 = tkC b n q := P2.1.2.2.1
        unfold vv_X2_accept
        rw [et2]
        refine ⟨fun h41 => ?_, fun h41 => ?_⟩
        · rw [if_pos h41] at eO
          have hlt2 : q < n := tkC_lt (fun z => by rw [z] at h41; revert h41; decide)
          exact h_adv2 P2 hlt2 (fun g3 P3 F3 => ⟨fun h => absurd h (by decide), fun _ => h1 _ _ eO g3 ((F1.tr F2).tr F3) P3⟩)
        · rw [if_neg h41] at eO
          exact ⟨fun _ => h0 q eO g2 (F1.tr F2) P2.1, fun h => absurd rfl h⟩
    · have hd0 : d = 0 := by
        rcases Nat.eq_zero_or_pos d with z | z
        · exact z
        · exact absurd (nI_lt (a := 5 - d) (b := 5) (by omega) (by decide)) hx
      refine h0 p ?_ g (FrC.rf g) hP.1
      unfold pOne
      rw [if_neg n23]
      rcases ht with z | z
      · rw [if_pos z, if_pos hd0]
      · rw [if_neg (by rw [z]; decide), if_pos z, if_pos hd0]
  refine ⟨fun h => leaf (Or.inl h), fun n2 => ⟨fun n3 => ⟨fun h => deep (Or.inl h), fun n45 => ⟨fun n40 => ?_, fun h => deep (Or.inr h)⟩⟩, fun h => leaf (Or.inr h)⟩⟩
  exact h0 p (by unfold pOne; rw [if_neg (fun z => z.elim n2 n3), if_neg n45, if_neg n40]) g (FrC.rf g) hP.1
/-- all six, at a depth that is enough -/
theorem rs_lev {nt n : Nat} {b : By} : ∀ (d : Nat), d ≤ 5 → (∀ D, 6 * d + 1 ≤ D → RSp b n (vr_X2 nt D 5 (nI (5 - d))) (pL b n d 5)) ∧ (∀ D, 6 * d + 2 ≤ D → RSp b n (vr_X2 nt D 4 (nI (5 - d))) (pL b n d 4)) ∧ (∀ D, 6 * d + 3 ≤ D → RSp b n (vr_X2 nt D 3 (nI (5 - d))) (pL b n d 3)) ∧ (∀ D, 6 * d + 4 ≤ D → RSp b n (vr_X2 nt D 2 (nI (5 - d))) (pL b n d 2)) ∧ (∀ D, 6 * d + 5 ≤ D → RSp b n (vr_X2 nt D 1 (nI (5 - d))) (pL b n d 1)) ∧ (∀ D, 6 * d + 6 ≤ D → RSp b n (vr_X2 nt D 0 (nI (5 - d))) (pL b n d 0)) := by
  have mk : ∀ (d : Nat) (lo : Nat → Pf), d ≤ 5 → (∀ i, okF n (lo i)) → (0 < d → (∀ D, 6 * d ≤ D → RSp b n (vr_X2 nt D 5 (nI (5 - d) + 1)) (lo 5)) ∧ (∀ D, 6 * d ≤ D → RSp b n (vr_X2 nt D 0 (nI (5 - d) + 1)) (lo 0)) ∧ (∀ D, 6 * d ≤ D → RSp b n (vr_X2 nt D 2 (nI (5 - d) + 1)) (lo 2))) →
      (∀ D, 6 * d + 1 ≤ D → RSp b n (vr_X2 nt D 5 (nI (5 - d))) (mkO b n d lo)) ∧ (∀ D, 6 * d + 2 ≤ D → RSp b n (vr_X2 nt D 4 (nI (5 - d))) (mkT b n d lo)) ∧ (∀ D, 6 * d + 3 ≤ D → RSp b n (vr_X2 nt D 3 (nI (5 - d))) (mkS b n d lo)) ∧ (∀ D, 6 * d + 4 ≤ D → RSp b n (vr_X2 nt D 2 (nI (5 - d))) (mkN b n d lo)) ∧ (∀ D, 6 * d + 5 ≤ D → RSp b n (vr_X2 nt D 1 (nI (5 - d))) (mkB b n d lo)) ∧ (∀ D, 6 * d + 6 ≤ D → RSp b n (vr_X2 nt D 0 (nI (5 - d))) (mkE b n d lo)) := by
    intro d lo hd hok hl
    have kO : okF n (mkO b n d lo) := pOne_ok hok
    have kT : okF n (mkT b n d lo) := pSeq_ok (by decide) kO
    have kS : okF n (mkS b n d lo) := pSeq_ok (by decide) kT
    have kN : okF n (mkN b n d lo) := pNot_ok hok kS
    have kB : okF n (mkB b n d lo) := pSeq_ok (by decide) kN
    have O : ∀ D, 6 * d + 1 ≤ D → RSp b n (vr_X2 nt D 5 (nI (5 - d))) (mkO b n d lo) := by
      intro D hD
      obtain ⟨E, rfl⟩ : ∃ E, D = E + 1 := ⟨D - 1, by omega⟩
      exact rs_one (rec := vr_X2 nt E) (nt := nt) hd (fun z => (hl z).1 E (by omega)) (fun z => (hl z).2.1 E (by omega)) hok
    have T : ∀ D, 6 * d + 2 ≤ D → RSp b n (vr_X2 nt D 4 (nI (5 - d))) (mkT b n d lo) := by
      intro D hD
      obtain ⟨E, rfl⟩ : ∃ E, D = E + 1 := ⟨D - 1, by omega⟩
      exact rs_term (rec := vr_X2 nt E) (nt := nt) (O E (by omega)) kO
    have S : ∀ D, 6 * d + 3 ≤ D → RSp b n (vr_X2 nt D 3 (nI (5 - d))) (mkS b n d lo) := by
      intro D hD
      obtain ⟨E, rfl⟩ : ∃ E, D = E + 1 := ⟨D - 1, by omega⟩
      exact rs_sum (rec := vr_X2 nt E) (nt := nt) (T E (by omega)) kT
    have N : ∀ D, 6 * d + 4 ≤ D → RSp b n (vr_X2 nt D 2 (nI (5 - d))) (mkN b n d lo) := by
      intro D hD
      obtain ⟨E, rfl⟩ : ∃ E, D = E + 1 := ⟨D - 1, by omega⟩
      exact rs_neg (rec := vr_X2 nt E) (nt := nt) hd (S E (by omega)) kS (fun z => (hl z).2.2 E (by omega)) (hok 2)
    have B : ∀ D, 6 * d + 5 ≤ D → RSp b n (vr_X2 nt D 1 (nI (5 - d))) (mkB b n d lo) := by
      intro D hD
      obtain ⟨E, rfl⟩ : ∃ E, D = E + 1 := ⟨D - 1, by omega⟩
      exact rs_both (rec := vr_X2 nt E) (nt := nt) (N E (by omega)) kN
    refine ⟨O, T, S, N, B, fun D hD => ?_⟩
    obtain ⟨E, rfl⟩ : ∃ E, D = E + 1 := ⟨D - 1, by omega⟩
    exact rs_either (rec := vr_X2 nt E) (nt := nt) (B E (by omega)) kB
  intro d
  induction d with
  | zero => intro _; exact mk 0 (fun _ p => (p, none)) (by decide) (fun _ p hp => ⟨Nat.le_refl p, hp, fun c h => by cases h⟩) (fun z => absurd z (by decide))
  | succ d ih =>
    intro hd
    obtain ⟨a5, a4, a3, a2, a1, a0⟩ := ih (by omega)
    have e : nI (5 - (d + 1)) + 1 = nI (5 - d) := by rw [nI_1]; congr 1; omega
    exact mk (d + 1) (pL b n d) hd (pL_ok b n d) (fun _ => by rw [e]; exact ⟨fun D hD => a5 D (by omega), fun D hD => a0 D (by omega), fun D hD => a2 D (by omega)⟩)
theorem h_accept {nt n p : Nat} {b : By} {c : List Int32} {t : Int32} {g : Sg} {Q : Int32 → Sg → Prop} (hP : PsC g b n p c) (ht : ¬ t = 0) (h1 : tkC b n p = t → ∀ g', PsC g' b n (nx b n p) c → FrC g g' → Q 1 g') (h0 : ¬ tkC b n p = t → Q 0 g) : vv_X2_accept nt t g Q := by
  have et : g 8 3 = tkC b n p := hP.1.2.2.1
  unfold vv_X2_accept
  rw [et]
  refine ⟨fun h => h_adv2 hP (tkC_lt (fun z => ht (by rw [← h, z]))) (fun g1 P1 F1 => h1 h g1 P1 F1), h0⟩
