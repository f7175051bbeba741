/-! ===== fewest(), stop() ===== -/
/-- the first of the smallest sets below n that are such; how many there are -/
def mnB (p : Nat → Bool) : Nat → Option Nat
  | 0 => none
  | n + 1 => if p n then (match mnB p n with | none => some n | some b => if pop b ≤ pop n then some b else some n) else mnB p n
def ctB (p : Nat → Bool) : Nat → Nat
  | 0 => 0
  | n + 1 => ctB p n + if p n then 1 else 0
theorem mnB_lt {p : Nat → Bool} {n b : Nat} (h : mnB p n = some b) : b < n ∧ p b = true := by
  induction n generalizing b with
  | zero => simp [mnB] at h
  | succ n ih =>
    rw [mnB] at h
    by_cases q : p n = true
    · rw [if_pos q] at h
      cases e : mnB p n with
      | none => rw [e] at h; simp at h; subst h; exact ⟨by omega, q⟩
      | some b' =>
        rw [e] at h
        simp only [] at h
        by_cases w : pop b' ≤ pop n
        · rw [if_pos w] at h; simp at h; subst h; have := ih e; exact ⟨by omega, this.2⟩
        · rw [if_neg w] at h; simp at h; subst h; exact ⟨by omega, q⟩
    · rw [if_neg q] at h; have := ih h; exact ⟨by omega, this.2⟩
theorem mnB_min {p : Nat → Bool} {n j : Nat} (hj : j < n) (hp : p j = true) : ∃ b, mnB p n = some b ∧ pop b ≤ pop j := by
  induction n with
  | zero => omega
  | succ n ih =>
    rw [mnB]
    by_cases q : p n = true
    · rw [if_pos q]
      by_cases e : j = n
      · subst e
        cases e : mnB p j with
        | none => exact ⟨j, rfl, Nat.le_refl _⟩
        | some b =>
          simp only []
          by_cases w : pop b ≤ pop j
          · rw [if_pos w]; exact ⟨b, rfl, w⟩
          · rw [if_neg w]; exact ⟨j, rfl, Nat.le_refl _⟩
      · obtain ⟨b, hb, hb'⟩ := ih (by omega)
        rw [hb]
        simp only []
        by_cases w : pop b ≤ pop n
        · rw [if_pos w]; exact ⟨b, rfl, hb'⟩
        · rw [if_neg w]; exact ⟨n, rfl, by omega⟩
    · rw [if_neg q]
      refine ih ?_
      rcases Nat.lt_or_ge j n with z | z
      · exact z
      · exact absurd (show p n = true by rw [show n = j by omega]; exact hp) q
theorem mnB_to {p : Nat → Bool} {n k : Nat} (hk : n ≤ k) (h : ∀ i, n ≤ i → i < k → p i = false) : mnB p k = mnB p n := by
  induction k with
  | zero => rw [show n = 0 by omega]
  | succ k ih =>
    rcases Nat.lt_or_ge k n with z | z
    · rw [show n = k + 1 by omega]
    · rw [mnB, h k z (by omega)]
      simp only [Bool.false_eq_true, if_false]
      exact ih z (fun i h1 h2 => h i h1 (by omega))
theorem ctB_to {p : Nat → Bool} {n k : Nat} (hk : n ≤ k) (h : ∀ i, n ≤ i → i < k → p i = false) : ctB p k = ctB p n := by
  induction k with
  | zero => rw [show n = 0 by omega]
  | succ k ih =>
    rcases Nat.lt_or_ge k n with z | z
    · rw [show n = k + 1 by omega]
    · rw [ctB, h k z (by omega)]
      simp only [Bool.false_eq_true, if_false, Nat.add_zero]
      exact ih z (fun i h1 h2 => h i h1 (by omega))
def enB (o : Option Nat) : Int32 := match o with | none => -1 | some b => nI b
def enP (o : Option Nat) : Int32 := match o with | none => 9 | some b => nI (pop b)
def fwA (p : Nat → Bool) (n : Nat) (x : Int32) : Int32 := if x = 2 then nI (ctB p n) else if x = 0 then enB (mnB p n) else match mnB p n with | none => -1 | some b => nI (pop b)
def fwP (P : Nat → Nat → Int32) (N : Nat) (D E : Int32) (co : Nat → List Int32) (S : Nat) : Bool := decide (anN S (stS P N) = 0) && decide (¬ wS (wlP P N D co) S < E)
theorem enB_ne {b : Nat} (h : b < 256) : ¬ nI b = -1 := fun q => nI_pos (n := b) (by omega) (by rw [q]; decide)
theorem fewC_L {nt : Nat} {c : Sg} {N : Nat} {P : Nat → Nat → Int32} {D E x : Int32} {co : Nat → List Int32} {Q : Int32 → Sg → Prop} (hE : c 1 3 = E) (h22 : c 22 2 = nI (stS P N)) (h25 : ∀ S, S < 256 → c 25 S = wS (wlP P N D co) S) (hQ : Q (fwA (fwP P N D E co) (stS P N + 1) x) c) : ∀ d k, k + d = stS P N + 1 → vv_X7_fewest_L27 nt Q (d + 1) x (enB (mnB (fwP P N D E co) k)) (enP (mnB (fwP P N D E co) k)) (nI (ctB (fwP P N D E co) k)) (nI k) c := by
  intro d
  have hs := stS_lt P N
  induction d with
  | zero =>
    intro k hk
    have e : k = stS P N + 1 := by omega
    subst e
    unfold vv_X7_fewest_L27 vv_X7_fewest_J117
    rw [h22]
    unfold fwA at hQ
    refine ⟨fun _ => ⟨fun q => ⟨fun w => ?_, fun w => ?_⟩, fun q => ?_⟩, fun z => absurd (nI_lt (by omega) (by omega)) z⟩
    · rw [if_neg q, if_pos w] at hQ; exact hQ
    · rw [if_neg q, if_neg w] at hQ
      cases e : mnB (fwP P N D E co) (stS P N + 1) with
      | none => rw [e] at hQ; exact ⟨fun z => absurd rfl z, fun _ => hQ⟩
      | some b =>
        rw [e] at hQ
        have := (mnB_lt e).1
        exact ⟨fun _ => hQ, fun z => absurd z (enB_ne (by omega))⟩
    · rw [if_pos q] at hQ; exact hQ
  | succ d ih =>
    intro k hk
    have hk' : k < 256 := by omega
    have nx := ih (k + 1) (by omega)
    unfold vv_X7_fewest_L27
    rw [h22, an_I hk' hs]
    have no : fwP P N D E co k = false → vv_X7_fewest_J94 nt (vv_X7_fewest_L27 nt Q (d + 1)) x (enB (mnB (fwP P N D E co) k)) (enP (mnB (fwP P N D E co) k)) (nI (ctB (fwP P N D E co) k)) (nI k) c Q := fun q => by
      unfold vv_X7_fewest_J94
      intro y ey
      rw [ey, nI_1]
      rw [mnB, ctB, q] at nx
      simpa using nx
    refine ⟨fun z => absurd z (nI_nlt (by omega) (by omega)), fun _ => ⟨fun q => no ?_, fun q => h_wos hk' h25 ?_⟩⟩
    · unfold fwP
      rw [decide_eq_false (fun w => q (by rw [w]; rfl))]; rfl
    · have q' : anN k (stS P N) = 0 := (nI_eq (b := 0) (by have := an_le k (stS P N); omega) (by decide)).mp q
      rw [hE]
      refine ⟨fun w => no ?_, fun w => ?_⟩
      · unfold fwP; rw [decide_eq_true q', decide_eq_false (fun z => z w)]; rfl
      · have yes : fwP P N D E co k = true := by unfold fwP; rw [decide_eq_true q', decide_eq_true w]; rfl
        intro y ey
        rw [ey, nI_1]
        refine h_bitC hk' ?_
        rw [mnB, ctB, yes] at nx
        simp only [if_true] at nx
        unfold vv_X7_fewest_J94
        cases e : mnB (fwP P N D E co) k with
        | none =>
          rw [e] at nx
          refine ⟨fun z => absurd z (nI_ge (b := 9) (by have := pop_le k hk'; omega) (by decide)), fun _ => h_bitC hk' ?_⟩
          intro a ea b eb z ez
          rw [ea, eb, ez, nI_1]
          exact nx
        | some b =>
          rw [e] at nx
          simp only [] at nx
          have hb := (mnB_lt e).1
          have pb := pop_le b (by omega)
          have pk := pop_le k hk'
          refine ⟨fun z => ?_, fun z => h_bitC hk' ?_⟩
          · have w' : pop b ≤ pop k := (nI_leI (by omega) (by omega)).mp z
            intro a ea
            rw [ea, nI_1]
            rw [if_pos w'] at nx; exact nx
          · have w' : ¬ pop b ≤ pop k := fun w => z (nI_le w (by omega))
            intro a ea b' eb z ez
            rw [ea, eb, ez, nI_1]
            rw [if_neg w'] at nx; exact nx
theorem fewM_L {m : Sg} {N : Nat} {P : Nat → Nat → Int32} {D E x : Int32} {co : Nat → List Int32} {Q : Int32 → Sg → Prop} (h : BkM m N P D E co) (hQ : ∀ m', FrS m m' → Q (fwA (fwP P N D E co) (2 ^ N) x) m') : ∀ d k g, k + d = 2 ^ N → FrS m g → vv_X8_fewest_L28 Q (d + 1) x (nI (stS P N)) (enB (mnB (fwP P N D E co) k)) (nI (ctB (fwP P N D E co) k)) (nI k) g := by
  intro d
  have hs := stS_lt P N
  have h8 := h.2.1
  have hp : 2 ^ N ≤ 256 := Nat.pow_le_pow_right (n := 2) (j := 8) (by decide) h8
  induction d with
  | zero =>
    intro k g hk F
    have e : k = 2 ^ N := by omega
    subst e
    unfold vv_X8_fewest_L28 vv_X8_fewest_J113
    rw [(h.keep F.Q).1, b_1 N (by omega)]
    have fin := hQ g F
    unfold fwA at fin
    refine ⟨fun _ => ⟨fun q => ?_, fun q => ?_⟩, fun z => absurd (Int32.le_refl _) z⟩
    · rw [if_neg q] at fin
      cases e : mnB (fwP P N D E co) (2 ^ N) with
      | none =>
        rw [e] at fin
        refine ⟨fun _ => ?_, fun z => absurd rfl z⟩
        simp only [enB, ite_self] at fin
        exact fin
      | some b =>
        rw [e] at fin
        have hb := (mnB_lt e).1
        refine ⟨fun z => absurd z (enB_ne (by omega)), fun _ => ⟨fun w => h_bitsM (by omega) ?_, fun w => ?_⟩⟩
        · rw [if_neg w] at fin; exact fin
        · rw [if_pos w] at fin; exact fin
    · rw [if_pos q] at fin; exact fin
  | succ d ih =>
    intro k g hk F
    have hk' : k < 256 := by omega
    have hg := h.keep F.Q
    unfold vv_X8_fewest_L28
    rw [hg.1, b_1 N (by omega), an_I hk' hs]
    have no : ∀ g', FrS m g' → fwP P N D E co k = false → vv_X8_fewest_J88 (vv_X8_fewest_L28 Q (d + 1)) x (nI (stS P N)) (enB (mnB (fwP P N D E co) k)) (nI (ctB (fwP P N D E co) k)) (nI k) g' Q := fun g' F' q => by
      unfold vv_X8_fewest_J88
      intro y ey
      rw [ey, nI_1]
      have nx := ih (k + 1) g' (by omega) F'
      rw [mnB, ctB, q] at nx
      simpa using nx
    refine ⟨fun z => absurd z (nI_ge (by omega) (by omega)), fun _ => ⟨fun q => no g F ?_, fun q => ?_⟩⟩
    · unfold fwP
      rw [decide_eq_false (fun w => q (by rw [w]; rfl))]; rfl
    · have q' : anN k (stS P N) = 0 := (nI_eq (b := 0) (by have := an_le k (stS P N); omega) (by decide)).mp q
      refine h_allM hg hk' q' (fun g1 F1 => ?_)
      rw [(hg.keep F1.Q).2.2.2.2.1]
      refine ⟨fun w => no g1 (F.tr F1) ?_, fun w => ?_⟩
      · unfold fwP; rw [decide_eq_true q', decide_eq_false (fun z => z w)]; rfl
      · have yes : fwP P N D E co k = true := by unfold fwP; rw [decide_eq_true q', decide_eq_true w]; rfl
        have nx := ih (k + 1) g1 (by omega) (F.tr F1)
        rw [mnB, ctB, yes] at nx
        simp only [if_true] at nx
        intro y ey
        rw [ey, nI_1]
        unfold vv_X8_fewest_J81 vv_X8_fewest_J87 vv_X8_fewest_J88
        cases e : mnB (fwP P N D E co) k with
        | none =>
          rw [e] at nx
          refine ⟨fun _ => ?_, fun z => absurd rfl z⟩
          intro a ea b eb
          rw [ea, eb, nI_1]
          exact nx
        | some b =>
          rw [e] at nx
          simp only [] at nx
          have hb := (mnB_lt e).1
          have pb := pop_le b (by omega)
          have pk := pop_le k hk'
          refine ⟨fun z => absurd z (enB_ne (by omega)), fun _ => h_bitsM hk' (h_bitsM (by omega) ⟨fun z => ?_, fun z => ?_⟩)⟩
          · have w' : pop b ≤ pop k := (nI_leI (by omega) (by omega)).mp z
            intro a ea b' eb
            rw [ea, eb, nI_1]
            rw [if_pos w'] at nx; exact nx
          · have w' : ¬ pop b ≤ pop k := fun w => z (nI_le w (by omega))
            intro a ea b' eb
            rw [ea, eb, nI_1]
            rw [if_neg w'] at nx; exact nx
theorem st_pow {P : Nat → Nat → Int32} {N : Nat} (h : N ≤ 8) : stS P N + 1 ≤ 2 ^ N := by rw [stS_N h]; exact bsN_lt _ N
theorem eq_fewest {m c : Sg} {nt : Nat} (h : Rel m c nt) (x : Int32) : vv_X7_fewest nt x c (fun r c' => vv_X8_fewest x m (fun r' m' => r = r' ∧ Rel m' c' nt)) := by
  obtain ⟨N, P, D, E, co, hM, hC, hD, hE, h25⟩ := h.bk
  have h8 := hM.2.1
  have bad : ¬ ((0 : Int32) ≤ x ∧ x ≤ 2) → vv_X8_fewest x m (fun r' m' => -2 = r' ∧ Rel m' c nt) := fun z => by
    unfold vv_X8_fewest
    refine h_in (l := 0) (h := 2) rfl rfl ?_
    rw [if_neg z]; exact ⟨fun z => absurd rfl z, fun _ => ⟨rfl, h⟩⟩
  unfold vv_X7_fewest
  refine ⟨fun z => bad (fun q => absurd q.1 (Int32.not_le.mpr z)), fun z1 => ⟨fun z2 => h_coal hC h25 (fun c1 F1 e22 e23 e25 => ?_), fun z => bad (fun q => z q.2)⟩⟩
  intro a ea b eb a2 ea2 a3 ea3
  rw [ea, eb, ea2, ea3]
  have hp : 2 ^ N ≤ 256 := Nat.pow_le_pow_right (n := 2) (j := 8) (by decide) h8
  refine ⟨stS P N + 2, fewC_L (nt := nt) (N := N) (P := P) (D := D) (E := E) (co := co) (by rw [F1.1 1 (by decide) (by decide)]; exact hC.2.2.2.2.2.1) e22 e25 ?_ (stS P N + 1) 0 (by omega)⟩
  have out : ∀ i, stS P N + 1 ≤ i → i < 2 ^ N → fwP P N D E co i = false := fun i h1 h2 => by
    unfold fwP
    rw [decide_eq_false (fun q => by have := an_sub (by omega) (stS_lt P N) q; omega)]; rfl
  unfold vv_X8_fewest
  refine h_in (l := 0) (h := 2) rfl rfl ?_
  rw [if_pos ⟨Int32.not_lt.mp z1, z2⟩]
  refine ⟨fun _ => h_whoS hM ?_, fun z => absurd z (by decide)⟩
  intro a ea b eb a2 ea2 a3 ea3
  rw [ea, eb, ea2, ea3]
  refine ⟨2 ^ N + 1, fewM_L (N := N) (P := P) (D := D) (E := E) (co := co) hM (fun m' G => ⟨?_, h.frame G.Q F1.K⟩) (2 ^ N) 0 m (by omega) (FrS.rf m)⟩
  unfold fwA
  rw [mnB_to (st_pow h8) out, ctB_to (st_pow h8) out]
/-- a set without which it isn't carried -/
def spP (P : Nat → Nat → Int32) (N : Nat) (D E : Int32) (co : Nat → List Int32) (t : Int32) (S : Nat) : Bool := decide (crd (sdS P N D co t 1 S) (sdS P N D co t (-1) S) E = 0)
theorem wS_sd {P : Nat → Nat → Int32} {N : Nat} {D : Int32} {co : Nat → List Int32} {t v : Int32} {S : Nat} (h8 : N ≤ 8) (hS : S < 256) : wS (wlP P N D co) (anN (vsS P N D co t v) S) = sdS P N D co t v S := by
  rw [← sd_8 h8]
  unfold wS
  refine sumN_congr (fun i hi => ?_)
  rw [an_bt hS (by omega)]
  have e : bt (vsS P N D co t v) i = vsP P N D co t v i := by unfold vsS; rw [bt_bsN, decide_eq_true hi, Bool.true_and]
  rw [e]
  unfold vsP sdF wlP
  by_cases hl : lvP P N i = true
  · rw [hl]
    by_cases hb : bt S i = true
    · rw [hb]; simp
    · have hb' : bt S i = false := by simpa using hb
      rw [hb']; simp
  · have hl' : lvP P N i = false := by simpa using hl
    rw [hl']; simp
def spA (p : Nat → Bool) (n : Nat) (x : Int32) : Int32 := match mnB p n with | none => 0 | some b => if x = 0 then nI b else nI (pop b)
theorem stopC_L {nt : Nat} {c : Sg} {N : Nat} {P : Nat → Nat → Int32} {D E x t : Int32} {co : Nat → List Int32} {Q : Int32 → Sg → Prop} (h8 : N ≤ 8) (hE : c 1 3 = E) (h22 : c 22 2 = nI (stS P N)) (h25 : ∀ S, S < 256 → c 25 S = wS (wlP P N D co) S) (hsome : ∃ b, mnB (spP P N D E co t) (stS P N + 1) = some b) (hQ : Q (spA (spP P N D E co t) (stS P N + 1) x) c) : ∀ d k, k + d = stS P N + 1 → vv_X7_stop_L61 nt Q (d + 1) x (nI (vsS P N D co t 1)) (nI (vsS P N D co t (-1))) (match mnB (spP P N D E co t) k with | none => 0 | some b => nI b) (enP (mnB (spP P N D E co t) k)) (nI k) c := by
  intro d
  have hs := stS_lt P N
  induction d with
  | zero =>
    intro k hk
    have e : k = stS P N + 1 := by omega
    subst e
    unfold vv_X7_stop_L61
    rw [h22]
    obtain ⟨b, eb⟩ := hsome
    unfold spA at hQ
    rw [eb] at hQ
    rw [eb]
    simp only [] at hQ
    have hb := (mnB_lt eb).1
    refine ⟨fun _ => ⟨fun w => h_bitC (by omega) ?_, fun w => ?_⟩, fun z => absurd (nI_lt (by omega) (by omega)) z⟩
    · rw [if_neg w] at hQ; exact hQ
    · rw [if_pos w] at hQ; exact hQ
  | succ d ih =>
    intro k hk
    have hk' : k < 256 := by omega
    have nx := ih (k + 1) (by omega)
    have a1 := Nat.lt_of_le_of_lt (an_le (vsS P N D co t 1) k) (vsS_lt P N D co t 1)
    have a2 := Nat.lt_of_le_of_lt (an_le (vsS P N D co t (-1)) k) (vsS_lt P N D co t (-1))
    unfold vv_X7_stop_L61
    rw [h22, an_I (vsS_lt P N D co t 1) hk', an_I (vsS_lt P N D co t (-1)) hk']
    refine ⟨fun z => absurd z (nI_nlt (by omega) (by omega)), fun _ => h_wos a1 h25 ?_⟩
    intro y ey
    refine h_wos a2 h25 ?_
    intro z ez
    refine h_bitC hk' ?_
    rw [wS_sd h8 hk'] at ey
    rw [wS_sd h8 hk'] at ez
    rw [ey, ez, hE]
    rw [mnB] at nx
    unfold vv_X7_stop_J142
    have upd : ∀ o, mnB (spP P N D E co t) k = o → (∀ b, o = some b → ¬ pop b ≤ pop k) → vv_X7_carried nt (sdS P N D co t 1 k) (sdS P N D co t (-1) k) E c (fun r_34 g_33 => ((¬ r_34 = 0) → (∀ x7_32 : Int32, x7_32 = nI k + (1 : Int32) → (vv_X7_stop_L61 nt Q (d + 1) x (nI (vsS P N D co t 1)) (nI (vsS P N D co t (-1))) (match o with | none => 0 | some b => nI b) (enP o) x7_32 g_33))) ∧ ((r_34 = 0) → (vv_J6_bitCount_0f7a4 nt (nI k) g_33 (fun r_37 g_36 => ∀ x6_38 : Int32, x6_38 = r_37 → (∀ x5_39 : Int32, x5_39 = nI k → (∀ x7_32 : Int32, x7_32 = nI k + (1 : Int32) → (vv_X7_stop_L61 nt Q (d + 1) x (nI (vsS P N D co t 1)) (nI (vsS P N D co t (-1))) x5_39 x6_38 x7_32 g_36))))))) := by
      intro o eo ho
      rw [eo] at nx
      refine h_crdC ⟨fun w => ?_, fun w => h_bitC hk' ?_⟩
      · intro u eu
        rw [eu, nI_1]
        rw [show spP P N D E co t k = false by unfold spP; exact decide_eq_false w] at nx
        exact nx
      · intro u eu v ev s es
        rw [eu, ev, es, nI_1]
        rw [show spP P N D E co t k = true by unfold spP; exact decide_eq_true w] at nx
        cases o with
        | none => exact nx
        | some b => simp only [if_true] at nx; rw [if_neg (ho b rfl)] at nx; exact nx
    cases e : mnB (spP P N D E co t) k with
    | none =>
      exact ⟨fun z => absurd z (nI_ge (b := 9) (by have := pop_le k hk'; omega) (by decide)), fun _ => upd none e (fun b hb => by cases hb)⟩
    | some b =>
      have hb := (mnB_lt e).1
      have pb := pop_le b (by omega)
      have pk := pop_le k hk'
      refine ⟨fun z => ?_, fun z => upd (some b) e (fun b' hb' => by cases hb'; exact fun w => z (nI_le w (by omega)))⟩
      have w' : pop b ≤ pop k := (nI_leI (by omega) (by omega)).mp z
      intro u eu
      rw [eu, nI_1]
      rw [e] at nx
      simp only [] at nx
      rw [if_pos w', ite_self] at nx
      exact nx
theorem stopM_L {m : Sg} {N : Nat} {P : Nat → Nat → Int32} {D E x t : Int32} {co : Nat → List Int32} {Q : Int32 → Sg → Prop} (h : BkM m N P D E co) (hsome : ∃ b, mnB (spP P N D E co t) (2 ^ N) = some b) (hQ : ∀ m', FrS m m' → Q (spA (spP P N D E co t) (2 ^ N) x) m') : ∀ d k g, k + d = 2 ^ N → FrS m g → vv_X8_stop_L30 Q (d + 1) t x (enB (mnB (spP P N D E co t) k)) (nI k) g := by
  intro d
  have h8 := h.2.1
  have hp : 2 ^ N ≤ 256 := Nat.pow_le_pow_right (n := 2) (j := 8) (by decide) h8
  induction d with
  | zero =>
    intro k g hk F
    have e : k = 2 ^ N := by omega
    subst e
    unfold vv_X8_stop_L30
    rw [(h.keep F.Q).1, b_1 N (by omega)]
    have fin := hQ g F
    obtain ⟨b, eb⟩ := hsome
    unfold spA at fin
    rw [eb] at fin
    rw [eb]
    simp only [] at fin
    have hb := (mnB_lt eb).1
    refine ⟨fun _ => ⟨fun w => h_bitsM (by omega) ?_, fun w => ?_⟩, fun z => absurd (Int32.le_refl _) z⟩
    · rw [if_neg w] at fin; exact fin
    · rw [if_pos w] at fin; exact fin
  | succ d ih =>
    intro k g hk F
    have hk' : k < 256 := by omega
    have hg := h.keep F.Q
    unfold vv_X8_stop_L30
    rw [hg.1, b_1 N (by omega)]
    have upd : ∀ o, mnB (spP P N D E co t) k = o → (∀ b, o = some b → ¬ pop b ≤ pop k) → vv_X8_stop_J58 (vv_X8_stop_L30 Q (d + 1)) t x (enB o) (nI k) g Q := by
      intro o eo ho
      unfold vv_X8_stop_J58 vv_X8_stop_J84
      refine h_sideM hg hk' (fun g1 F1 => h_sideM (hg.keep F1.Q) hk' (fun g2 F2 => h_crdM ?_))
      rw [((hg.keep F1.Q).keep F2.Q).2.2.2.2.1]
      have nx := ih (k + 1) g2 (by omega) ((F.tr F1).tr F2)
      rw [mnB, eo] at nx
      refine ⟨fun w => ?_, fun w => ?_⟩
      · intro u eu
        rw [eu, nI_1]
        rw [show spP P N D E co t k = false by unfold spP; exact decide_eq_false w] at nx
        exact nx
      · intro u eu v ev
        rw [eu, ev, nI_1]
        rw [show spP P N D E co t k = true by unfold spP; exact decide_eq_true w] at nx
        cases o with
        | none => exact nx
        | some b => simp only [if_true] at nx; rw [if_neg (ho b rfl)] at nx; exact nx
    refine ⟨fun z => absurd z (nI_ge (by omega) (by omega)), fun _ => ?_⟩
    cases e : mnB (spP P N D E co t) k with
    | none => exact ⟨fun _ => upd none e (fun b hb => by cases hb), fun z => absurd rfl z⟩
    | some b =>
      have hb := (mnB_lt e).1
      have pb := pop_le b (by omega)
      have pk := pop_le k hk'
      refine ⟨fun z => absurd z (enB_ne (by omega)), fun _ => h_bitsM hk' (h_bitsM (by omega) ⟨fun z => ?_, fun z => upd (some b) e (fun b' hb' => by cases hb'; exact fun w => z (nI_le w (by omega)))⟩)⟩
      have w' : pop b ≤ pop k := (nI_leI (by omega) (by omega)).mp z
      have nx := ih (k + 1) g (by omega) F
      rw [mnB, e] at nx
      simp only [] at nx
      rw [if_pos w', ite_self] at nx
      unfold vv_X8_stop_J84
      intro u eu
      rw [eu, nI_1]
      exact nx
theorem sd_and {P : Nat → Nat → Int32} {N : Nat} {D : Int32} {co : Nat → List Int32} {t v : Int32} {S : Nat} (h8 : N ≤ 8) : sdS P N D co t v (S &&& stS P N) = sdS P N D co t v S := by
  unfold sdS
  refine sumN_congr (fun i hi => ?_)
  unfold sdF
  by_cases hl : lvP P N i = true
  · have e : bt (S &&& stS P N) i = bt S i := by
      rw [bt_tb, Nat.testBit_and, ← bt_tb, ← bt_tb]
      have : bt (stS P N) i = true := by unfold stS; rw [bt_bsN, decide_eq_true (by omega), Bool.true_and]; exact hl
      rw [this, Bool.and_true]
    rw [e]
  · rw [if_neg (fun z => hl z.1), if_neg (fun z => hl z.1)]
theorem sp_all {P : Nat → Nat → Int32} {N : Nat} {D E : Int32} {co : Nat → List Int32} {t : Int32} (h8 : N ≤ 8) (hE : rngI E 1 999) : spP P N D E co t (stS P N) = true := by
  unfold spP
  refine decide_eq_true ?_
  have e : sdS P N D co t 1 (stS P N) = 0 := by
    unfold sdS
    rw [sumN_congr (G := fun _ => 0) (fun i hi => ?_)]
    · have : ∀ n, sumN (fun _ => (0 : Int32)) n = 0 := fun n => by
        induction n with
        | zero => rfl
        | succ n ih => rw [sumN, ih]; rfl
      exact this N
    · unfold sdF
      refine if_neg (fun z => ?_)
      have : bt (stS P N) i = true := by unfold stS; rw [bt_bsN, decide_eq_true (by omega), Bool.true_and]; exact z.1
      rw [this] at z
      exact absurd z.2.1 (by decide)
  rw [e]
  unfold crd
  rw [if_pos]
  have := i_le.mp hE.1
  rw [i_lt, i_0]
  rw [show (1 : Int32).toInt = 1 by decide] at this
  omega
theorem sp_to {P : Nat → Nat → Int32} {N : Nat} {D E : Int32} {co : Nat → List Int32} {t : Int32} (h8 : N ≤ 8) {k : Nat} (hk : stS P N + 1 ≤ k) : mnB (spP P N D E co t) k = mnB (spP P N D E co t) (stS P N + 1) := by
  induction k with
  | zero => omega
  | succ k ih =>
    rcases Nat.lt_or_ge k (stS P N + 1) with z | z
    · rw [show k = stS P N by omega]
    · rw [mnB, ih z]
      by_cases q : spP P N D E co t k = true
      · rw [if_pos q]
        have hl : spP P N D E co t (k &&& stS P N) = true := by
          unfold spP at *
          rw [sd_and h8, sd_and h8]; exact q
        obtain ⟨b, eb, hb⟩ := mnB_min (p := spP P N D E co t) (n := stS P N + 1) (j := k &&& stS P N) (Nat.lt_succ_of_le Nat.and_le_right) hl
        rw [eb]
        simp only []
        rw [if_pos (Nat.le_trans hb (pop_and k (stS P N)))]
      · rw [if_neg q]
theorem eq_stop {m c : Sg} {nt : Nat} (h : Rel m c nt) (x1 x2 : Int32) : vv_X7_stop nt x1 x2 c (fun r c' => vv_X8_stop x1 x2 m (fun r' m' => r = r' ∧ Rel m' c' nt)) := by
  obtain ⟨N, P, D, E, co, hM, hC, hD, hE, h25⟩ := h.bk
  have h8 := hM.2.1
  have bad : ¬ (((0 : Int32) ≤ x1 ∧ x1 ≤ 7) ∧ (0 : Int32) ≤ x2 ∧ x2 ≤ 1) → vv_X8_stop x1 x2 m (fun r' m' => -2 = r' ∧ Rel m' c nt) := fun z => by
    unfold vv_X8_stop
    refine h_in (l := 0) (h := 7) rfl rfl ?_
    by_cases q : (0 : Int32) ≤ x1 ∧ x1 ≤ 7
    · rw [if_pos q]
      refine ⟨fun z => absurd z (by decide), fun _ => h_in (l := 0) (h := 1) rfl rfl ?_⟩
      rw [if_neg (fun w => z ⟨q, w⟩)]
      exact ⟨fun z => absurd rfl z, fun _ => ⟨rfl, h⟩⟩
    · rw [if_neg q]; exact ⟨fun _ => ⟨rfl, h⟩, fun z => absurd rfl z⟩
  unfold vv_X7_stop
  refine h_isTopC (fun t ht e => ⟨fun z => absurd z (by decide), fun _ => ⟨fun z => bad (fun q => absurd q.2.1 (Int32.not_le.mpr z)), fun z1 => ⟨fun z2 => ?_, fun z => bad (fun q => z q.2.2)⟩⟩⟩) (fun no => ⟨fun _ => bad (fun q => no q.1), fun z => absurd rfl z⟩)
  subst e
  refine h_coal hC h25 (fun c1 F1 e22 e23 e25 => h_divC (hC.keep F1) ht e23 (fun c2 F2 f23 f25 f222 f0 f1 f24 => h_bitsC (by decide) f24 ?_))
  intro a ea
  refine h_bitsC (by decide) f24 ?_
  intro b eb a2 ea2 a3 ea3 a4 ea4
  rw [ea, eb, ea2, ea3, ea4]
  have FF := F1.tr F2
  have hp : 2 ^ N ≤ 256 := Nat.pow_le_pow_right (n := 2) (j := 8) (by decide) h8
  obtain ⟨b0, hb0, -⟩ := mnB_min (p := spP P N D E co (nI t)) (n := stS P N + 1) (j := stS P N) (by omega) (sp_all h8 hE)
  refine ⟨stS P N + 2, stopC_L (nt := nt) (N := N) (P := P) (D := D) (E := E) (co := co) h8 (by rw [FF.1 1 (by decide) (by decide)]; exact hC.2.2.2.2.2.1) (by rw [f222]; exact e22) (fun S hS => by rw [f25]; exact e25 S hS) ⟨b0, hb0⟩ ?_ (stS P N + 1) 0 (by omega)⟩
  unfold vv_X8_stop
  refine h_in (l := 0) (h := 7) rfl rfl ?_
  rw [if_pos (top7 ht)]
  refine ⟨fun z => absurd z (by decide), fun _ => h_in (l := 0) (h := 1) rfl rfl ?_⟩
  rw [if_pos ⟨Int32.not_lt.mp z1, z2⟩]
  refine ⟨fun _ => ?_, fun z => absurd z (by decide)⟩
  intro a ea b eb
  rw [ea, eb]
  have ept := sp_to (P := P) (D := D) (E := E) (co := co) (t := nI t) h8 (st_pow (P := P) h8)
  refine ⟨2 ^ N + 1, stopM_L (N := N) (P := P) (D := D) (E := E) (co := co) hM ⟨b0, by rw [ept]; exact hb0⟩ (fun m' G => ⟨?_, h.frame G.Q FF.K⟩) (2 ^ N) 0 m (by omega) (FrS.rf m)⟩
  unfold spA
  rw [ept]
