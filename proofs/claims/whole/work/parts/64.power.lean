/-! ===== often(), torn(), power() ===== -/
def dcd (E v x : Int32) : Nat := if ¬ E ≤ x ∧ ¬ x + v < E then 1 else 0
theorem dcG_d (E v x : Int32) : dcG E v (x + v) = dcd E v x := by
  unfold dcG dcd
  rw [show x + v - v = x by grind]
  by_cases h1 : E ≤ x <;> by_cases h2 : x + v < E <;> simp [h1, h2]
theorem h_dec {nt : Nat} {x v E : Int32} {c : Sg} {Q : Int32 → Sg → Prop} (hE : c 1 3 = E) (h1 : dcd E v x = 1 → Q 1 c) (h0 : dcd E v x = 0 → Q 0 c) : vv_X7_decides nt x v c Q := by
  unfold vv_X7_decides
  rw [hE]
  refine ⟨fun q => h0 ?_, fun q => ⟨fun w => h0 ?_, fun w => h1 ?_⟩⟩
  · unfold dcd; rw [if_neg (fun z => z.1 q)]
  · unfold dcd; rw [if_neg (fun z => z.2 w)]
  · unfold dcd; rw [if_pos ⟨q, w⟩]
theorem h_stands {nt : Nat} {c : Sg} {N : Nat} {P : Nat → Nat → Int32} {D E x : Int32} {co : Nat → List Int32} {Q : Int32 → Sg → Prop} (h : BkC nt c 1 N P D E co) (h1 : ∀ i, i < N → x = nI i → lvP P N i = true → Q 1 c) (h0 : (¬ ∃ i, i < N ∧ x = nI i ∧ lvP P N i = true) → Q 0 c) : vv_X7_stands nt x c Q := by
  unfold vv_X7_stands
  have h8 := h.2.2.1
  refine h_isPaper h.2.1 h8 (fun i hi e => ⟨fun z => absurd z (by decide), fun _ => ?_⟩) (fun no => ⟨fun _ => h0 (fun q => no ⟨q.choose, q.choose_spec.1, q.choose_spec.2.1⟩), fun z => absurd rfl z⟩)
  subst e
  rw [pp4 i (by omega), show c (26 + i) 5 = P i 5 from (h.2.2.2.1 i hi).1 5 (by decide)]
  have el : lvP P N i = decide (P i 5 = 0) := by unfold lvP; rw [decide_eq_true hi, Bool.true_and]
  refine ⟨vp_in_nI (by omega) (by decide), fun q => h0 ?_, fun q => h1 i hi rfl (by rw [el]; exact decide_eq_true q)⟩
  rintro ⟨j, hj, e, hl⟩
  have : i = j := (nI_eq (by omega) (by omega)).mp e
  subst this
  rw [el] at hl
  exact q (of_decide_eq_true hl)
theorem sub_bad {P : Nat → Nat → Int32} {N p S : Nat} (hS : S < 256) (h : bsN (otP P N p) 8 < S) : ¬ anN S (bsN (otP P N p) 8) = 0 := fun q => by
  have := an_sub hS (bsN_256 _ (by omega)) q; omega
theorem tO_C' {P : Nat → Nat → Int32} {N p : Nat} {D : Int32} {co : Nat → List Int32} {G : Nat → Int32 → Nat} (h8 : N ≤ 8) : sR (fun S => if anN S (bsN (otP P N p) 8) = 0 then G (pop S) (wS (wlP P N D co) S) else 0) (bsN (otP P N p) 8 + 1) = tO P N D co p G := by
  rw [← tO_C h8]
  have hb : bsN (otP P N p) 8 < 256 := bsN_256 _ (by omega)
  exact (sR_to (by omega) (fun i h1 h2 => if_neg (sub_bad h2 (by omega)))).symm
theorem oftC_L {nt : Nat} {c : Sg} {N p : Nat} {P : Nat → Nat → Int32} {D E : Int32} {co : Nat → List Int32} {Q : Int32 → Sg → Prop} (hp : p < 8) (hE : c 1 3 = E) (h23 : c 23 p = wtP P D co p) (h25 : ∀ S, S < 256 → c 25 S = wS (wlP P N D co) S) (hQ : Q (nI (sR (fun S => if anN S (bsN (otP P N p) 8) = 0 then dcd E (wtP P D co p) (wS (wlP P N D co) S) else 0) (bsN (otP P N p) 8 + 1))) c) : ∀ d S, S + d = bsN (otP P N p) 8 + 1 → vv_X7_often_L34 nt Q (d + 1) (nI p) (nI (bsN (otP P N p) 8)) (nI (sR (fun S => if anN S (bsN (otP P N p) 8) = 0 then dcd E (wtP P D co p) (wS (wlP P N D co) S) else 0) S)) (nI S) c := by
  intro d
  have hb : bsN (otP P N p) 8 < 256 := bsN_256 _ (by omega)
  induction d with
  | zero =>
    intro S hS
    have e : S = bsN (otP P N p) 8 + 1 := by omega
    subst e
    unfold vv_X7_often_L34
    exact ⟨fun _ => hQ, fun z => absurd (nI_lt (by omega) (by omega)) z⟩
  | succ d ih =>
    intro S hS
    have hS' : S < 256 := by omega
    unfold vv_X7_often_L34
    rw [an_I hS' hb]
    have nx := ih (S + 1) (by omega)
    rw [sR] at nx
    unfold vv_X7_often_J77
    have no : (if anN S (bsN (otP P N p) 8) = 0 then dcd E (wtP P D co p) (wS (wlP P N D co) S) else 0) = 0 → ∀ x4_11 : Int32, x4_11 = nI S + 1 → vv_X7_often_L34 nt Q (d + 1) (nI p) (nI (bsN (otP P N p) 8)) (nI (sR (fun S => if anN S (bsN (otP P N p) 8) = 0 then dcd E (wtP P D co p) (wS (wlP P N D co) S) else 0) S)) x4_11 c := fun z a ea => by
      rw [ea, nI_1]
      rw [z] at nx; exact nx
    refine ⟨fun z => absurd z (nI_nlt (by omega) (by omega)), fun _ => ⟨fun q => no (if_neg (fun w => q (by rw [w]; rfl))), fun q => h_wos hS' h25 ⟨vp_in_nI hp (by decide), ?_⟩⟩⟩
    have q' : anN S (bsN (otP P N p) 8) = 0 := (nI_eq (b := 0) (by have := an_le S (bsN (otP P N p) 8); omega) (by decide)).mp q
    rw [nI_clamp (by omega), h23]
    rw [if_pos q'] at no
    rw [if_pos q'] at nx
    refine h_dec hE (fun w => ⟨fun z => absurd z (by decide), fun _ => ?_⟩) (fun w => ⟨fun _ => no w, fun z => absurd rfl z⟩)
    intro a ea b eb
    rw [ea, eb, nI_1, nI_1]
    rw [w] at nx; exact nx
theorem pre_M {m : Sg} {N p : Nat} {P : Nat → Nat → Int32} {D E : Int32} {co : Nat → List Int32} {R : Int32 → Sg → Prop} (h : BkM m N P D E co) (hp : p < N) (hl : lvP P N p = true) (hR : R 1 m) : vv_X8_isWhole (nI p) m R := h_whoM h hp (by rw [hl]; exact hR)
theorem lv_no {N i : Nat} {P : Nat → Nat → Int32} (no : ¬ ∃ j, j < N ∧ nI i = nI j ∧ lvP P N j = true) (hi : i < N) : lvP P N i = false := by
  cases e : lvP P N i with
  | false => rfl
  | true => exact absurd ⟨i, hi, rfl, e⟩ no
theorem ln_oft {m g : Sg} {N p : Nat} {P : Nat → Nat → Int32} {D E : Int32} {co : Nat → List Int32} (h : BkM m N P D E co) (hp : p < N) (hl : lvP P N p = true) (hg : LnM m g P N D co p N) : g 0 8 = E ∧ g 0 29 = nI (rkP P N N) ∧ g 0 30 = nI (rkP P N p) ∧ g 7 (rkP P N p) = wtP P D co p ∧ rkP P N p < rkP P N N ∧ rkP P N N ≤ 8 := by
  refine ⟨?_, hg.2.1, ?_, hg.2.2.2 p hp hl, ctB_lt hp hl, ?_⟩
  · exact (h.keep hg.1).2.2.2.2.1
  · rw [hg.2.2.1, if_pos hp]
  · have := ctB_le (lvP P N) N; have := h.2.1; unfold rkP; omega
theorem E_pos {E : Int32} (h : rngI E 1 999) : (0 : Int32) < E := by
  have := i_le.mp h.1
  rw [i_lt, i_0]
  rw [show (1 : Int32).toInt = 1 by decide] at this
  omega
theorem eq_often {m c : Sg} {nt : Nat} (h : Rel m c nt) (x : Int32) : vv_X7_often nt x c (fun r c' => vv_X8_often x m (fun r' m' => r = r' ∧ Rel m' c' nt)) := by
  obtain ⟨N, P, D, E, co, hM, hC, hD, hE, h25⟩ := h.bk
  have h8 := hM.2.1
  unfold vv_X7_often
  refine h_stands hC (fun p hp e hl => ⟨fun _ => h_coal hC h25 (fun c1 F1 e22 e23 e25 => ?_), fun z => absurd z (by decide)⟩) (fun no => ⟨fun z => absurd rfl z, fun _ => ?_⟩)
  · subst e
    rw [e22, b_1 p (by omega), an_I (stS_lt P N) (Nat.pow_lt_pow_right (a := 2) (n := 8) (by decide) (by omega)), ot_an (by omega)]
    intro a ea b eb a2 ea2
    rw [ea, eb, ea2]
    have e23p : c1 23 p = wtP P D co p := by rw [e23 p (by omega)]; unfold wlP; rw [if_pos hl]
    refine ⟨bsN (otP P N p) 8 + 2, oftC_L (by omega) (E := E) (by rw [F1.1 1 (by decide) (by decide)]; exact hC.2.2.2.2.2.1) e23p e25 ?_ (bsN (otP P N p) 8 + 1) 0 (by omega)⟩
    rw [tO_C' (G := fun _ x => dcd E (wtP P D co p) x) h8]
    unfold vv_X8_often
    refine h_isOne hM.1 h8 (fun i hi e => ⟨fun z => absurd z (by decide), fun _ => pre_M hM hp hl ⟨fun _ => h_lineM hM hp hl (fun g hg => ?_), fun z => absurd z (by decide)⟩⟩) (fun no => absurd ⟨p, hp, rfl⟩ no)
    obtain ⟨g8, g29, g30, g7, lt, le⟩ := ln_oft hM hp hl hg
    rw [g30]
    refine h_oftM (w := fun k => g 7 k) (by omega) lt (E_pos hE) g8 g29 (fun _ _ => rfl) ⟨?_, h.frame hg.1 F1.K⟩
    congr 1
    rw [tS_must (md := fun k => if k = rkP P N p then 2 else 1) (p := rkP P N p) (if_pos rfl) lt]
    rw [tO_M hp hl (fun i hi hli _ => hg.2.2.2 i hi hli)]
    rw [g7]
    congr 1
    funext c x
    rw [dcG_d]
  · unfold vv_X8_often
    refine h_isOne hM.1 h8 (fun i hi e => ⟨fun z => absurd z (by decide), fun _ => ?_⟩) (fun _ => ⟨fun _ => ⟨rfl, h⟩, fun z => absurd rfl z⟩)
    subst e
    refine h_whoM hM hi ?_
    rw [lv_no no hi]
    exact ⟨fun z => absurd rfl z, fun _ => ⟨rfl, h⟩⟩
/-- torn in two -/
def trF (E a b x : Int32) : Nat := dcd E a x + dcd E a (x + b) + dcd E b x + dcd E b (x + a)
theorem torC_L {nt : Nat} {c : Sg} {N p : Nat} {P : Nat → Nat → Int32} {D E a b : Int32} {co : Nat → List Int32} {Q : Int32 → Sg → Prop} (hE : c 1 3 = E) (h25 : ∀ S, S < 256 → c 25 S = wS (wlP P N D co) S) (hQ : Q (nI (sR (fun S => if anN S (bsN (otP P N p) 8) = 0 then trF E a b (wS (wlP P N D co) S) else 0) (bsN (otP P N p) 8 + 1))) c) : ∀ d S, S + d = bsN (otP P N p) 8 + 1 → vv_X7_torn_L60 nt Q (d + 1) (nI (bsN (otP P N p) 8)) a b (nI (sR (fun S => if anN S (bsN (otP P N p) 8) = 0 then trF E a b (wS (wlP P N D co) S) else 0) S)) (nI S) c := by
  intro d
  have hb : bsN (otP P N p) 8 < 256 := bsN_256 _ (by omega)
  induction d with
  | zero =>
    intro S hS
    have e : S = bsN (otP P N p) 8 + 1 := by omega
    subst e
    unfold vv_X7_torn_L60
    exact ⟨fun _ => hQ, fun z => absurd (nI_lt (by omega) (by omega)) z⟩
  | succ d ih =>
    intro S hS
    have hS' : S < 256 := by omega
    unfold vv_X7_torn_L60
    rw [an_I hS' hb]
    have nx := ih (S + 1) (by omega)
    rw [sR] at nx
    generalize eA : sR (fun S => if anN S (bsN (otP P N p) 8) = 0 then trF E a b (wS (wlP P N D co) S) else 0) S = A at nx
    unfold vv_X7_torn_J103 vv_X7_torn_J126 vv_X7_torn_J147 vv_X7_torn_J170 vv_X7_torn_J173
    refine ⟨fun z => absurd z (nI_nlt (by omega) (by omega)), fun _ => ⟨fun q => ?_, fun q => h_wos hS' h25 ?_⟩⟩
    · intro u eu
      rw [eu, nI_1]
      rw [if_neg (fun w => q (by rw [w]; rfl))] at nx
      exact nx
    · have q' : anN S (bsN (otP P N p) 8) = 0 := (nI_eq (b := 0) (by have := an_le S (bsN (otP P N p) 8); omega) (by decide)).mp q
      rw [if_pos q'] at nx
      generalize wS (wlP P N D co) S = x at nx
      intro x' ex'
      subst ex'
      unfold trF at nx
      have s4 : ∀ k t, k = dcd E a x' + dcd E a (x' + b) + dcd E b x' → t = dcd E b (x' + a) → ∀ x5_32 : Int32, x5_32 = nI (A + k) + nI t → ∀ x6_13 : Int32, x6_13 = nI S + 1 → vv_X7_torn_L60 nt Q (d + 1) (nI (bsN (otP P N p) 8)) a b x5_32 x6_13 c := by
        intro k t hk ht u eu v ev
        rw [eu, ev, nI_add, nI_1]
        rw [show A + k + t = A + (dcd E a x' + dcd E a (x' + b) + dcd E b x' + dcd E b (x' + a)) by omega]
        exact nx
      have s3 : ∀ k t, k = dcd E a x' + dcd E a (x' + b) → t = dcd E b x' → ∀ x5_28 : Int32, x5_28 = nI (A + k) + nI t → (vv_X7_decides nt (x' + a) b c (fun r_30 g_29 => ((r_30 = 0) → (∀ x5_32 : Int32, x5_32 = (x5_28 + 0) → (∀ x6_13 : Int32, x6_13 = nI S + (1 : Int32) → (vv_X7_torn_L60 nt Q (d + 1) (nI (bsN (otP P N p) 8)) a b x5_32 x6_13 g_29)))) ∧ ((¬ (r_30 = 0)) → (∀ x5_32 : Int32, x5_32 = (x5_28 + 1) → (∀ x6_13 : Int32, x6_13 = nI S + (1 : Int32) → (vv_X7_torn_L60 nt Q (d + 1) (nI (bsN (otP P N p) 8)) a b x5_32 x6_13 g_29)))))) := by
        intro k t hk ht u eu
        rw [eu, nI_add, show A + k + t = A + (k + t) by omega]
        exact h_dec hE (fun w => ⟨fun z => absurd z (by decide), fun _ => s4 (k + t) 1 (by omega) w.symm⟩) (fun w => ⟨fun _ => s4 (k + t) 0 (by omega) w.symm, fun z => absurd rfl z⟩)
      have s2 : ∀ k t, k = dcd E a x' → t = dcd E a (x' + b) → ∀ x5_24 : Int32, x5_24 = nI (A + k) + nI t → (vv_X7_decides nt x' b c (fun r_26 g_25 => ((r_26 = 0) → (∀ x5_28 : Int32, x5_28 = (x5_24 + 0) → (vv_X7_decides nt (x' + a) b g_25 (fun r_30 g_29 => ((r_30 = 0) → (∀ x5_32 : Int32, x5_32 = (x5_28 + 0) → (∀ x6_13 : Int32, x6_13 = nI S + (1 : Int32) → (vv_X7_torn_L60 nt Q (d + 1) (nI (bsN (otP P N p) 8)) a b x5_32 x6_13 g_29)))) ∧ ((¬ (r_30 = 0)) → (∀ x5_32 : Int32, x5_32 = (x5_28 + 1) → (∀ x6_13 : Int32, x6_13 = nI S + (1 : Int32) → (vv_X7_torn_L60 nt Q (d + 1) (nI (bsN (otP P N p) 8)) a b x5_32 x6_13 g_29)))))))) ∧ ((¬ (r_26 = 0)) → (∀ x5_28 : Int32, x5_28 = (x5_24 + 1) → (vv_X7_decides nt (x' + a) b g_25 (fun r_30 g_29 => ((r_30 = 0) → (∀ x5_32 : Int32, x5_32 = (x5_28 + 0) → (∀ x6_13 : Int32, x6_13 = nI S + (1 : Int32) → (vv_X7_torn_L60 nt Q (d + 1) (nI (bsN (otP P N p) 8)) a b x5_32 x6_13 g_29)))) ∧ ((¬ (r_30 = 0)) → (∀ x5_32 : Int32, x5_32 = (x5_28 + 1) → (∀ x6_13 : Int32, x6_13 = nI S + (1 : Int32) → (vv_X7_torn_L60 nt Q (d + 1) (nI (bsN (otP P N p) 8)) a b x5_32 x6_13 g_29)))))))))) := by
        intro k t hk ht u eu
        rw [eu, nI_add, show A + k + t = A + (k + t) by omega]
        exact h_dec hE (fun w => ⟨fun z => absurd z (by decide), fun _ => s3 (k + t) 1 (by omega) w.symm⟩) (fun w => ⟨fun _ => s3 (k + t) 0 (by omega) w.symm, fun z => absurd rfl z⟩)
      refine h_dec hE (fun w => ⟨fun z => absurd z (by decide), fun _ => ?_⟩) (fun w => ⟨fun _ => ?_, fun z => absurd rfl z⟩)
      · intro u eu
        rw [eu, nI_1]
        exact h_dec hE (fun w' => ⟨fun z => absurd z (by decide), fun _ => s2 1 1 w.symm w'.symm⟩) (fun w' => ⟨fun _ => s2 1 0 w.symm w'.symm, fun z => absurd rfl z⟩)
      · intro u eu
        rw [eu, show nI A + 0 = nI A from Int32.add_zero _]
        exact h_dec hE (fun w' => ⟨fun z => absurd z (by decide), fun _ => s2 0 1 w.symm w'.symm⟩) (fun w' => ⟨fun _ => s2 0 0 w.symm w'.symm, fun z => absurd rfl z⟩)
theorem eq_torn {m c : Sg} {nt : Nat} (h : Rel m c nt) (x : Int32) : vv_X7_torn nt x c (fun r c' => vv_X8_torn x m (fun r' m' => r = r' ∧ Rel m' c' nt)) := by
  obtain ⟨N, P, D, E, co, hM, hC, hD, hE, h25⟩ := h.bk
  have h8 := hM.2.1
  unfold vv_X7_torn
  refine h_stands hC (fun p hp e hl => ⟨fun _ => h_coal hC h25 (fun c1 F1 e22 e23 e25 => ?_), fun z => absurd z (by decide)⟩) (fun no => ⟨fun z => absurd rfl z, fun _ => ?_⟩)
  · subst e
    have e23p : c1 23 p = wtP P D co p := by rw [e23 p (by omega)]; unfold wlP; rw [if_pos hl]
    rw [e22, b_1 p (by omega), an_I (stS_lt P N) (Nat.pow_lt_pow_right (a := 2) (n := 8) (by decide) (by omega)), ot_an (by omega), nI_clamp (by omega), e23p]
    intro a ea
    refine ⟨vp_in_nI (by omega) (by decide), ?_⟩
    intro hf ehf
    refine ⟨vp_in_nI (by omega) (by decide), ?_⟩
    intro rs ers b eb a2 ea2
    rw [ea, eb, ea2]
    refine ⟨bsN (otP P N p) 8 + 2, torC_L (E := E) (by rw [F1.1 1 (by decide) (by decide)]; exact hC.2.2.2.2.2.1) e25 ?_ (bsN (otP P N p) 8 + 1) 0 (by omega)⟩
    rw [tO_C' (G := fun _ x => trF E hf rs x) h8]
    unfold vv_X8_torn
    refine h_isOne hM.1 h8 (fun i hi e => ⟨fun z => absurd z (by decide), fun _ => pre_M hM hp hl ⟨fun _ => h_lineM hM hp hl (fun g hg => ?_), fun z => absurd z (by decide)⟩⟩) (fun no => absurd ⟨p, hp, rfl⟩ no)
    obtain ⟨g8, g29, g30, g7, lt, le⟩ := ln_oft hM hp hl hg
    rw [g30, g29, nI_clamp (show rkP P N p < 2 ^ 31 by omega), nI_clamp (show rkP P N N < 2 ^ 31 by omega), g7]
    refine ⟨vp_in_nI (by omega) (by decide), ?_⟩
    intro hf' ehf'
    have eh : hf' = hf := by rw [ehf', ehf]
    subst eh
    refine ⟨vp_in_nI (by omega) (by decide), vp_in_nI (by omega) (by decide), ?_⟩
    rintro g1 rfl
    rw [st_ne (by decide), g30, nI_clamp (show rkP P N p < 2 ^ 31 by omega)]
    refine ⟨vp_in_nI (by omega) (by decide), ?_⟩
    rintro g2 rfl
    rw [st_ne (by decide), st_ne (by decide), g29, nI_1]
    rintro g3 rfl
    rw [← ers]
    have w0 : ∀ j, j ≠ 29 → (st (st (st g 7 (rkP P N N) rs) 7 (rkP P N p) hf') 0 29 (nI (rkP P N N + 1))) 0 j = g 0 j := fun j hj => by rw [st_off _ hj, st_ne (by decide), st_ne (by decide)]
    have w29 : (st (st (st g 7 (rkP P N N) rs) 7 (rkP P N p) hf') 0 29 (nI (rkP P N N + 1))) 0 29 = nI (rkP P N N + 1) := st_on _ _ _ _
    have w7 : ∀ k, (st (st (st g 7 (rkP P N N) rs) 7 (rkP P N p) hf') 0 29 (nI (rkP P N N + 1))) 7 k = if k = rkP P N p then hf' else if k = rkP P N N then rs else g 7 k := fun k => by
      rw [st_ne (by decide), st_at]
      by_cases q : k = rkP P N p
      · rw [if_pos q, if_pos q]
      · rw [if_neg q, if_neg q, st_at]
    have FQ : FrQ m (st (st (st g 7 (rkP P N N) rs) 7 (rkP P N p) hf') 0 29 (nI (rkP P N N + 1))) := hg.1.tr ⟨fun k k0 _ k7 => by rw [st_ne k0, st_ne k7, st_ne k7], fun j hj => w0 j (by omega)⟩
    rw [w0 30 (by decide), g30]
    generalize st (st (st g 7 (rkP P N N) rs) 7 (rkP P N p) hf') 0 29 (nI (rkP P N N + 1)) = g4 at w0 w29 w7 FQ
    let ww : Nat → Int32 := fun k => if k = rkP P N p then hf' else if k = rkP P N N then rs else g 7 k
    have wwp : ww (rkP P N p) = hf' := if_pos rfl
    have wwN : ww (rkP P N N) = rs := by
      show (if rkP P N N = rkP P N p then hf' else if rkP P N N = rkP P N N then rs else g 7 (rkP P N N)) = rs
      rw [if_neg (by omega), if_pos rfl]
    have ww7 : ∀ i, i < N → lvP P N i = true → i ≠ p → ww (rkP P N i) = wtP P D co i := fun i hi hli hne => by
      show (if rkP P N i = rkP P N p then hf' else if rkP P N i = rkP P N N then rs else g 7 (rkP P N i)) = _
      have l1 : rkP P N i < rkP P N N := ctB_lt hi hli
      have l2 : ¬ rkP P N i = rkP P N p := fun z => hne (ctB_inj hli hl z)
      rw [if_neg l2, if_neg (by omega)]
      exact hg.2.2.2 i hi hli
    refine h_oftM (w := ww) (V := rkP P N N + 1) (by omega) (by omega) (E_pos hE) (by rw [w0 8 (by decide)]; exact g8) w29 (fun k _ => w7 k) ?_
    rw [w29, nI_pred]
    refine h_oftM (w := ww) (V := rkP P N N + 1) (by omega) (by omega) (E_pos hE) (by rw [w0 8 (by decide)]; exact g8) w29 (fun k _ => w7 k) ⟨?_, h.frame FQ F1.K⟩
    rw [nI_add]
    congr 1
    have t1 : tS ww (fun k => if k = rkP P N p then 2 else 1) (rkP P N N + 1) (fun _ x => dcG E (ww (rkP P N p)) x) = tO P N D co p (fun _ x => dcd E hf' x) + tO P N D co p (fun _ x => dcd E hf' (x + rs)) := by
      rw [tS, wwp, wwN, if_neg (show rkP P N N ≠ rkP P N p by omega)]
      simp only [show ¬ (1 : Nat) = 0 by decide, if_false, if_true]
      rw [tS_must (md := fun k => if k = rkP P N p then 2 else 1) (p := rkP P N p) (if_pos rfl) lt, tS_must (md := fun k => if k = rkP P N p then 2 else 1) (p := rkP P N p) (if_pos rfl) lt, tO_M hp hl ww7, tO_M hp hl ww7, wwp]
      congr 1
      · congr 1; funext c x; rw [dcG_d]
      · congr 1; funext c x
        rw [show x + hf' + rs = x + rs + hf' by grind, dcG_d]
    have t2 : tS ww (fun k => if k = rkP P N N then 2 else 1) (rkP P N N + 1) (fun _ x => dcG E (ww (rkP P N N)) x) = tO P N D co p (fun _ x => dcd E rs x) + tO P N D co p (fun _ x => dcd E rs (x + hf')) := by
      rw [tS, wwN]
      simp only [show ¬ (2 : Nat) = 0 by decide, show ¬ (2 : Nat) = 1 by decide, if_false, if_true]
      rw [show (fun (c : Nat) (x : Int32) => dcG E rs (x + rs)) = fun _ x => dcd E rs x from by funext c x; rw [dcG_d]]
      rw [tS_congr (md' := fun k => if k = rkP P N p then 1 else 1) (w' := ww) (fun i hi => ⟨by rw [if_neg (by omega)]; simp, fun _ => rfl⟩)]
      rw [tS_opt (md := fun k => if k = rkP P N p then 1 else 1) (p := rkP P N p) (if_pos rfl) lt, tO_M hp hl ww7, tO_M hp hl ww7, wwp]
    have t3 : tO P N D co p (fun _ x => trF E hf' rs x) = tO P N D co p (fun _ x => dcd E hf' x) + tO P N D co p (fun _ x => dcd E hf' (x + rs)) + tO P N D co p (fun _ x => dcd E rs x) + tO P N D co p (fun _ x => dcd E rs (x + hf')) := by
      unfold tO trF
      rw [tS_lin (G := fun _ x => dcd E hf' x + dcd E hf' (x + rs) + dcd E rs x) (H := fun _ x => dcd E rs (x + hf')), tS_lin (G := fun _ x => dcd E hf' x + dcd E hf' (x + rs)) (H := fun _ x => dcd E rs x), tS_lin (G := fun _ x => dcd E hf' x) (H := fun _ x => dcd E hf' (x + rs))]
    rw [t3, t1, t2]
    omega
  · unfold vv_X8_torn
    refine h_isOne hM.1 h8 (fun i hi e => ⟨fun z => absurd z (by decide), fun _ => ?_⟩) (fun _ => ⟨fun _ => ⟨rfl, h⟩, fun z => absurd rfl z⟩)
    subst e
    refine h_whoM hM hi ?_
    rw [lv_no no hi]
    exact ⟨fun z => absurd rfl z, fun _ => ⟨rfl, h⟩⟩
