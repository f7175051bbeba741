section
/-! ===== goesWith() ===== -/
def caS (P : Nat → Nat → Int32) (D : Int32) (co : Nat → List Int32) (t : Int32) (i : Nat) : Int32 := if P i 5 = 1 then 0 else voP P D co t i
def akP (P : Nat → Nat → Int32) (D : Int32) (co : Nat → List Int32) (p q t : Nat) : Bool := decide (caS P D co (nI t) p = caS P D co (nI t) q)
def akN (P : Nat → Nat → Int32) (D : Int32) (co : Nat → List Int32) (p q : Nat) : Int32 := nI (ctB (akP P D co p q) 8)
def gwS (P : Nat → Nat → Int32) (N : Nat) (D : Int32) (co : Nat → List Int32) (p : Nat) : Nat → Int32 × Int32
  | 0 => (-1, -1)
  | k + 1 => if k = p ∨ lvP P N k = false then gwS P N D co p k else if akN P D co p k ≤ (gwS P N D co p k).2 then gwS P N D co p k else (nI k, akN P D co p k)
theorem ca_lv {P : Nat → Nat → Int32} {N q : Nat} {D t : Int32} {co : Nat → List Int32} (hl : lvP P N q = true) : caS P D co t q = voP P D co t q := by
  unfold lvP at hl
  rw [Bool.and_eq_true] at hl
  have e := of_decide_eq_true hl.2
  unfold caS
  rw [e, if_neg (by decide)]
theorem h_castP {nt : Nat} {c : Sg} {N i t : Nat} {P : Nat → Nat → Int32} {D E : Int32} {co : Nat → List Int32} {Q : Int32 → Sg → Prop} (h : BkC nt c 1 N P D E co) (hi : i < N) (ht : t < 8) (hQ : ∀ c', FrT c c' → Q (caS P D co (nI t) i) c') : vv_X7_castVote nt 1 (26 + i) (nI t) c Q := by
  have h8 := h.2.2.1
  refine h_castC h.1 (isP_now (by omega)) h.2.2.2.2.2.2 (par_nI t ht) (fun c' F => ?_)
  have e : ∀ j, j < 6 → c (26 + i) j = P i j := (h.2.2.2.1 i hi).1
  rw [e 5 (by decide), vtS_congr e, h.2.2.2.2.1]
  exact hQ c' F
theorem alkC_L {nt : Nat} {c : Sg} {N p q : Nat} {P : Nat → Nat → Int32} {D E : Int32} {co : Nat → List Int32} {Q : Int32 → Sg → Prop} (h : BkC nt c 1 N P D E co) (hp : p < N) (hq : q < N) (hQ : ∀ c', FrT c c' → Q (akN P D co p q) c') : ∀ d t g, t + d = 8 → FrT c g → vv_X7_alikeTopics_L5 nt Q (d + 1) (26 + p) (26 + q) (nI (ctB (akP P D co p q) t)) (nI t) g := by
  intro d
  induction d with
  | zero =>
    intro t g ht F
    have e : t = 8 := by omega
    subst e
    unfold vv_X7_alikeTopics_L5
    exact ⟨fun _ => hQ g F, fun z => absurd (show (8 : Int32) ≤ nI 8 from by decide) z⟩
  | succ d ih =>
    intro t g ht F
    unfold vv_X7_alikeTopics_L5
    refine ⟨fun z => absurd z (nI_ge (b := 8) (by omega) (by omega)), fun _ => h_castP (h.keep F.V) hp (by omega) (fun g1 F1 => h_castP (h.keep (F.tr F1).V) hq (by omega) (fun g2 F2 => ?_))⟩
    unfold vv_X7_alikeTopics_J40
    have nx := ih (t + 1) g2 (by omega) ((F.tr F1).tr F2)
    rw [ctB] at nx
    refine ⟨fun z => ?_, fun z => ?_⟩
    · intro a ea
      rw [ea, nI_1]
      rw [show akP P D co p q t = false from decide_eq_false z] at nx
      exact nx
    · intro b eb a ea
      rw [eb, ea, nI_1, nI_1]
      rw [show akP P D co p q t = true from decide_eq_true z] at nx
      exact nx
theorem gw_same {P : Nat → Nat → Int32} {N p k : Nat} {D : Int32} {co : Nat → List Int32} (h : k = p ∨ lvP P N k = false) : gwS P N D co p (k + 1) = gwS P N D co p k := by rw [gwS, if_pos h]
theorem gw_le {P : Nat → Nat → Int32} {N p k : Nat} {D : Int32} {co : Nat → List Int32} (h : ¬ k = p) (hl : lvP P N k = true) (q : akN P D co p k ≤ (gwS P N D co p k).2) : gwS P N D co p (k + 1) = gwS P N D co p k := by rw [gwS, if_neg (fun z => z.elim h (fun w => by rw [hl] at w; exact absurd w (by decide))), if_pos q]
theorem gw_gt {P : Nat → Nat → Int32} {N p k : Nat} {D : Int32} {co : Nat → List Int32} (h : ¬ k = p) (hl : lvP P N k = true) (q : ¬ akN P D co p k ≤ (gwS P N D co p k).2) : gwS P N D co p (k + 1) = (nI k, akN P D co p k) := by rw [gwS, if_neg (fun z => z.elim h (fun w => by rw [hl] at w; exact absurd w (by decide))), if_neg q]
def gwR (P : Nat → Nat → Int32) (N : Nat) (D : Int32) (co : Nat → List Int32) (p : Nat) (x2 : Int32) : Int32 := if x2 = 0 then (gwS P N D co p N).1 else (gwS P N D co p N).2
theorem gwC_L {nt : Nat} {c : Sg} {N p : Nat} {P : Nat → Nat → Int32} {D E x2 : Int32} {co : Nat → List Int32} {Q : Int32 → Sg → Prop} (h : BkC nt c 1 N P D E co) (hp : p < N) (hQ : ∀ c', FrT c c' → Q (gwR P N D co p x2) c') : ∀ d k g, k + d = N → FrT c g → vv_X7_goesWith_L28 nt Q (d + 1) (nI p) x2 (gwS P N D co p k).1 (gwS P N D co p k).2 (nI k) g := by
  intro d
  have h8 := h.2.2.1
  induction d with
  | zero =>
    intro k g hk F
    have e : k = N := by omega
    subst e
    unfold vv_X7_goesWith_L28
    rw [show g 1 2 = nI k from (h.keep F.V).2.1]
    have fin := hQ g F
    unfold gwR at fin
    exact ⟨fun _ => ⟨fun q => by rw [if_neg q] at fin; exact fin, fun q => by rw [if_pos q] at fin; exact fin⟩, fun z => absurd (Int32.le_refl _) z⟩
  | succ d ih =>
    intro k g hk F
    unfold vv_X7_goesWith_L28
    rw [show g 1 2 = nI N from (h.keep F.V).2.1]
    have same : ∀ g2, FrT c g2 → gwS P N D co p (k + 1) = gwS P N D co p k → vv_X7_goesWith_J101 nt (vv_X7_goesWith_L28 nt Q (d + 1)) (nI p) x2 (gwS P N D co p k).1 (gwS P N D co p k).2 (nI k) g2 Q := fun g2 F2 e => by
      unfold vv_X7_goesWith_J101
      intro a ea
      have nx := ih (k + 1) g2 (by omega) F2
      rw [e] at nx
      rw [ea, nI_1]
      exact nx
    have kl := h.keep F.V
    have ev : g (26 + k) 5 = P k 5 := (kl.2.2.2.1 k (by omega)).1 5 (by decide)
    have el : lvP P N k = decide (P k 5 = 0) := by unfold lvP; rw [decide_eq_true (show k < N by omega), Bool.true_and]
    rw [pp4 k (by omega), ev]
    refine ⟨fun z => absurd z (nI_ge (by omega) (by omega)), fun _ => ⟨fun q => same g F (gw_same (Or.inl ((nI_eq (by omega) (by omega)).mp q))), fun q => ⟨vp_in_nI (by omega) (by decide), fun q1 => same g F (gw_same (Or.inr (by rw [el]; exact decide_eq_false q1))), fun q1 => ⟨vp_in_nI (by omega) (by decide), vp_in_nI (by omega) (by decide), ?_⟩⟩⟩⟩
    have hne : ¬ k = p := fun w => q (by rw [w])
    have hl : lvP P N k = true := by rw [el]; exact decide_eq_true q1
    rw [pp4 p (by omega)]
    unfold vv_X7_alikeTopics
    refine ⟨isP_now (by omega), isP_now (by omega), ?_⟩
    intro a ea b eb
    rw [ea, eb]
    refine ⟨9, alkC_L kl hp (by omega) (fun g2 F2 => ?_) 8 0 g (by omega) (FrT.rf g)⟩
    intro u eu
    rw [eu]
    refine ⟨fun w => same g2 (F.tr F2) (gw_le hne hl w), fun w => ?_⟩
    intro v ev' y ey
    rw [ev', ey]
    unfold vv_X7_goesWith_J101
    intro x ex
    have nx := ih (k + 1) g2 (by omega) (F.tr F2)
    rw [gw_gt hne hl w] at nx
    rw [ex, nI_1]
    exact nx
theorem td_cast {pf : Nat → Int32} {d n : Int32} {cods : Nat → List Int32} {t : Nat} (ht : t < 8) : tdS pf d n cods (20 + t) = if pf 5 = 1 then 0 else vtS pf (nI t) d cods := by
  unfold tdS
  rw [if_neg (by omega), if_neg (by omega), if_neg (by omega), if_neg (by omega), if_neg (by omega), if_neg (by omega), if_neg (by omega), if_neg (by omega), if_pos (by omega), show 20 + t - 20 = t by omega]
theorem h_castM {m : Sg} {N i t : Nat} {P : Nat → Nat → Int32} {D E : Int32} {co : Nat → List Int32} {Q : Int32 → Sg → Prop} (h : BkM m N P D E co) (hi : i < N) (ht : t < 8) (hQ : ∀ m', FrS m m' → Q (caS P D co (nI t) i) m') : vv_X8_told (nI i) (20 + nI t) m Q := by
  have h8 := h.2.1
  have e := (h.2.2.1 i hi).1
  have hb : m 5 (5 * i + 4) = 0 ∨ m 5 (5 * i + 4) = 1 := by
    rw [show m 5 (5 * i + 4) = P i 5 from (pv_succ m i 4).symm.trans (e 5 (by decide))]
    exact (h.2.2.1 i hi).2.2.2.2.2.2
  rw [show (20 : Int32) = nI 20 from rfl, nI_add]
  refine tdM_in h.1 h8 hi h.2.2.2.2.2 hb (by omega) (fun m' F => ?_)
  rw [td_cast ht, e 5 (by decide), vtS_congr e, h.2.2.2.1]
  exact hQ m' F
theorem alkM_L {m : Sg} {N p q : Nat} {P : Nat → Nat → Int32} {D E x2 b s : Int32} {co : Nat → List Int32} {Q : Int32 → Sg → Prop} {rc : Int32 → Int32 → Int32 → Int32 → Int32 → Sg → Prop} (h : BkM m N P D E co) (hp : p < N) (hq : q < N) (hl : lvP P N q = true) (h1 : ∀ g, FrS m g → akN P D co p q ≤ s → rc (nI p) x2 b s (nI (q + 1)) g) (h2 : ∀ g, FrS m g → ¬ akN P D co p q ≤ s → rc (nI p) x2 (nI q) (akN P D co p q) (nI (q + 1)) g) : ∀ d t g, t + d = 8 → FrS m g → vv_X8_goesWith_L59 rc Q (d + 1) (nI p) x2 b s (nI q) (nI (ctB (akP P D co p q) t)) (nI t) g := by
  intro d
  induction d with
  | zero =>
    intro t g ht F
    have e : t = 8 := by omega
    subst e
    unfold vv_X8_goesWith_L59 vv_X8_goesWith_J117
    refine ⟨fun _ => ⟨fun w => ?_, fun w => ?_⟩, fun z => absurd (show (8 : Int32) ≤ nI 8 from by decide) z⟩
    · intro a ea
      rw [ea, nI_1]
      exact h1 g F w
    · intro x ex y ey a ea
      rw [ex, ey, ea, nI_1]
      exact h2 g F w
  | succ d ih =>
    intro t g ht F
    unfold vv_X8_goesWith_L59
    refine ⟨fun z => absurd z (nI_ge (b := 8) (by omega) (by omega)), fun _ => h_votM (h.keep F.Q) hq (fun g1 F1 => h_castM (h.keep (F.tr F1).Q) hp (by omega) (fun g2 F2 => ?_))⟩
    unfold vv_X8_goesWith_J94
    have nx := ih (t + 1) g2 (by omega) ((F.tr F1).tr F2)
    rw [ctB] at nx
    rw [← ca_lv hl]
    refine ⟨fun z => ?_, fun z => ?_⟩
    · intro b eb a ea
      rw [eb, ea, nI_1, Int32.add_zero]
      rw [show akP P D co p q t = false from decide_eq_false (fun w => z w.symm)] at nx
      exact nx
    · intro b eb a ea
      rw [eb, ea, nI_1, nI_1]
      rw [show akP P D co p q t = true from decide_eq_true z.symm] at nx
      exact nx
theorem gwM_L {m : Sg} {N p : Nat} {P : Nat → Nat → Int32} {D E x2 : Int32} {co : Nat → List Int32} {Q : Int32 → Sg → Prop} (h : BkM m N P D E co) (hp : p < N) (hQ : ∀ m', FrS m m' → Q (gwR P N D co p x2) m') : ∀ d k g, k + d = N → FrS m g → vv_X8_goesWith_L29 Q (d + 1) (nI p) x2 (gwS P N D co p k).1 (gwS P N D co p k).2 (nI k) g := by
  intro d
  have h8 := h.2.1
  induction d with
  | zero =>
    intro k g hk F
    have e : k = N := by omega
    subst e
    unfold vv_X8_goesWith_L29
    rw [show g 0 11 = nI k from (h.keep F.Q).1]
    have fin := hQ g F
    unfold gwR at fin
    exact ⟨fun _ => ⟨fun q => by rw [if_neg q] at fin; exact fin, fun q => by rw [if_pos q] at fin; exact fin⟩, fun z => absurd (Int32.le_refl _) z⟩
  | succ d ih =>
    intro k g hk F
    unfold vv_X8_goesWith_L29
    rw [show g 0 11 = nI N from (h.keep F.Q).1]
    have same : ∀ g2, FrS m g2 → gwS P N D co p (k + 1) = gwS P N D co p k → vv_X8_goesWith_J117 (vv_X8_goesWith_L29 Q (d + 1)) (nI p) x2 (gwS P N D co p k).1 (gwS P N D co p k).2 (nI k) g2 Q := fun g2 F2 e => by
      unfold vv_X8_goesWith_J117
      intro a ea
      have nx := ih (k + 1) g2 (by omega) F2
      rw [e] at nx
      rw [ea, nI_1]
      exact nx
    refine ⟨fun z => absurd z (nI_ge (by omega) (by omega)), fun _ => ⟨fun q => same g F (gw_same (Or.inl ((nI_eq (by omega) (by omega)).mp q))), fun q => h_whoM (h.keep F.Q) (by omega) ?_⟩⟩
    have hne : ¬ k = p := fun w => q (by rw [w])
    cases hl : lvP P N k with
    | false => exact ⟨fun _ => same g F (gw_same (Or.inr hl)), fun z => absurd rfl z⟩
    | true =>
      refine ⟨fun z => absurd z (by decide), fun _ => ?_⟩
      intro a ea b eb
      rw [ea, eb]
      refine ⟨9, alkM_L (h.keep F.Q) hp (by omega) hl (fun g2 F2 w => ?_) (fun g2 F2 w => ?_) 8 0 g (by omega) (FrS.rf g)⟩
      · have nx := ih (k + 1) g2 (by omega) (F.tr F2)
        rw [gw_le hne hl w] at nx
        exact nx
      · have nx := ih (k + 1) g2 (by omega) (F.tr F2)
        rw [gw_gt hne hl w] at nx
        exact nx
theorem eq_goesWith {m c : Sg} {nt : Nat} (h : Rel m c nt) (x x2 : Int32) : vv_X7_goesWith nt x x2 c (fun r c' => vv_X8_goesWith x x2 m (fun r' m' => r = r' ∧ Rel m' c' nt)) := by
  obtain ⟨N, P, D, E, co, hM, hC, hD, hE, h25⟩ := h.bk
  have h8 := hM.2.1
  have ref : ¬ ((0 : Int32) ≤ x2 ∧ x2 ≤ 1) → vv_X8_goesWith x x2 m (fun r' m' => -2 = r' ∧ Rel m' c nt) := fun hx => by
    unfold vv_X8_goesWith
    refine h_isOne hM.1 h8 (fun i hi e => ⟨fun z => absurd z (by decide), fun _ => h_in (l := 0) (h := 1) rfl rfl ?_⟩) (fun _ => ⟨fun _ => ⟨rfl, h⟩, fun z => absurd rfl z⟩)
    rw [if_neg hx]
    exact ⟨fun z => absurd rfl z, fun _ => ⟨rfl, h⟩⟩
  unfold vv_X7_goesWith
  refine h_isPaper hC.2.1 h8 (fun p hp e => ⟨fun z => absurd z (by decide), fun _ => ⟨fun z => ref (fun q => absurd q.1 (Int32.not_le.mpr z)), fun z1 => ⟨fun z2 => ?_, fun z => ref (fun q => z q.2)⟩⟩⟩) (fun no => ⟨fun _ => ?_, fun z => absurd rfl z⟩)
  · subst e
    intro a ea b eb u eu
    rw [ea, eb, eu]
    refine ⟨N + 1, gwC_L hC hp (fun c' F => ?_) N 0 c (by omega) (FrT.rf c)⟩
    unfold vv_X8_goesWith
    refine h_isOne hM.1 h8 (fun i hi e => ⟨fun z => absurd z (by decide), fun _ => h_in (l := 0) (h := 1) rfl rfl ?_⟩) (fun no => absurd ⟨p, hp, rfl⟩ no)
    rw [if_pos ⟨Int32.not_lt.mp z1, z2⟩]
    refine ⟨fun _ => ?_, fun z => absurd z (by decide)⟩
    intro a ea b eb u eu
    rw [ea, eb, eu]
    exact ⟨N + 1, gwM_L hM hp (fun m' G => ⟨rfl, h.frame G.Q F.K⟩) N 0 m (by omega) (FrS.rf m)⟩
  · unfold vv_X8_goesWith
    exact h_isOne hM.1 h8 (fun i hi e => absurd ⟨i, hi, e⟩ no) (fun _ => ⟨fun _ => ⟨rfl, h⟩, fun z => absurd rfl z⟩)
end
