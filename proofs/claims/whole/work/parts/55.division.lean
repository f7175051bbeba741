/-! ===== division(), topics() ===== -/
def vsP (P : Nat → Nat → Int32) (N : Nat) (D : Int32) (co : Nat → List Int32) (t v : Int32) (i : Nat) : Bool := lvP P N i && decide (voP P D co t i = v)
def vsS (P : Nat → Nat → Int32) (N : Nat) (D : Int32) (co : Nat → List Int32) (t v : Int32) : Nat := bsN (vsP P N D co t v) 8
theorem vs_ge {P : Nat → Nat → Int32} {N i : Nat} {D : Int32} {co : Nat → List Int32} {t v : Int32} (h : N ≤ i) : vsP P N D co t v i = false := by unfold vsP; rw [lv_ge h]; rfl
theorem vsS_lt (P : Nat → Nat → Int32) (N : Nat) (D : Int32) (co : Nat → List Int32) (t v : Int32) : vsS P N D co t v < 256 := bsN_256 _ (by omega)
theorem votM_L {m : Sg} {N : Nat} {P : Nat → Nat → Int32} {D E t v : Int32} {co : Nat → List Int32} {Q : Int32 → Sg → Prop} (h : BkM m N P D E co) (hQ : ∀ m', FrS m m' → Q (nI (vsS P N D co t v)) m') : ∀ d i g, i + d = N → FrS m g → vv_X8_votersOf_L5 Q (d + 1) t v (nI (bsN (vsP P N D co t v) i)) (nI i) g := by
  intro d
  have h8 := h.2.1
  induction d with
  | zero =>
    intro i g hi F
    have e : i = N := by omega
    subst e
    unfold vv_X8_votersOf_L5
    rw [(h.keep F.Q).1]
    refine ⟨fun _ => ?_, fun z => absurd (Int32.le_refl _) z⟩
    have := hQ g F
    unfold vsS at this
    rw [bsN_to h8 (fun _ hi => vs_ge hi)] at this
    exact this
  | succ d ih =>
    intro i g hi F
    have hg := h.keep F.Q
    unfold vv_X8_votersOf_L5
    rw [hg.1]
    have go : ∀ g' b, FrS m g' → b = (if vsP P N D co t v i then (1 : Int32) else 0) → vv_X8_votersOf_J40 (vv_X8_votersOf_L5 Q (d + 1)) t v (nI i) (nI (bsN (vsP P N D co t v) i)) b g' Q := by
      rintro g' b F' rfl
      unfold vv_X8_votersOf_J40
      intro x ex y ey
      rw [ex, ey, nI_1, b_bsN (by omega)]
      exact ih _ _ (by omega) F'
    unfold vv_X8_votersOf_J39
    refine ⟨fun z => absurd z (nI_ge (by omega) (by omega)), fun _ => h_whoM hg (by omega) ?_⟩
    by_cases hl : lvP P N i = true
    · rw [hl]
      refine ⟨fun z => absurd z (by decide), fun _ => h_votM hg (by omega) (fun g1 F1 => ⟨fun q => go _ _ (F.tr F1) ?_, fun q => go _ _ (F.tr F1) ?_⟩)⟩
      · unfold vsP; rw [hl, decide_eq_false q]; rfl
      · unfold vsP; rw [hl, decide_eq_true q]; rfl
    · rw [if_neg hl]
      refine ⟨fun _ => go _ _ F ?_, fun z => absurd rfl z⟩
      unfold vsP; rw [show lvP P N i = false by simpa using hl]; rfl
theorem h_votsM {m : Sg} {N : Nat} {P : Nat → Nat → Int32} {D E t v : Int32} {co : Nat → List Int32} {Q : Int32 → Sg → Prop} (h : BkM m N P D E co) (hQ : ∀ m', FrS m m' → Q (nI (vsS P N D co t v)) m') : vv_X8_votersOf t v m Q := by
  unfold vv_X8_votersOf
  rintro x rfl y rfl
  exact ⟨N + 1, votM_L h hQ N 0 m (by omega) (FrS.rf m)⟩
theorem bitsC_L {nt : Nat} {c : Sg} {N : Nat} {P : Nat → Nat → Int32} {D t v : Int32} {co : Nat → List Int32} {Q : Int32 → Sg → Prop} (hv : ¬ v = 0) (h24 : ∀ i, i < 8 → c 24 i = vlP P N D co t i) (hQ : Q (nI (vsS P N D co t v)) c) : ∀ d i, i + d = 8 → vv_X4_bitsOf_L4 nt Q (d + 1) v (nI (bsN (vsP P N D co t v) i)) (nI i) c := by
  intro d
  induction d with
  | zero =>
    intro i hi
    have e : i = 8 := by omega
    subst e
    unfold vv_X4_bitsOf_L4
    exact ⟨fun _ => hQ, fun z => absurd (show (8 : Int32) ≤ nI 8 from by decide) z⟩
  | succ d ih =>
    intro i hi
    unfold vv_X4_bitsOf_L4
    rw [nI_clamp (by omega), h24 i (by omega)]
    have acc := b_bsN (p := vsP P N D co t v) (i := i) (by omega)
    have key : vlP P N D co t i = v ↔ vsP P N D co t v i = true := by
      unfold vlP vsP
      by_cases hl : lvP P N i = true
      · rw [hl]; simp
      · rw [show lvP P N i = false by simpa using hl]; simp; exact fun q => hv q.symm
    unfold vv_X4_bitsOf_J28
    refine ⟨fun z => absurd z (nI_ge (b := 8) (by omega) (by omega)), fun _ => ⟨vp_in_nI (by omega) (by decide), fun q => ?_, fun q => ?_⟩⟩
    · intro x ex y ey
      rw [show vsP P N D co t v i = false by simpa using fun w => q (key.mpr w)] at acc
      have acc' : nI (bsN (vsP P N D co t v) i) ||| 0 = nI (bsN (vsP P N D co t v) (i + 1)) := by rw [← acc]; simp [b_0 i (by omega)]
      rw [ex, ey, nI_1, acc']
      exact ih _ (by omega)
    · intro x ex y ey
      rw [key.mp q] at acc
      have acc' : nI (bsN (vsP P N D co t v) i) ||| 1 <<< (nI i &&& 31) = nI (bsN (vsP P N D co t v) (i + 1)) := by rw [← acc]; simp
      rw [ex, ey, nI_1, acc']
      exact ih _ (by omega)
theorem h_bitsC {nt : Nat} {c : Sg} {N : Nat} {P : Nat → Nat → Int32} {D t v : Int32} {co : Nat → List Int32} {Q : Int32 → Sg → Prop} (hv : ¬ v = 0) (h24 : ∀ i, i < 8 → c 24 i = vlP P N D co t i) (hQ : Q (nI (vsS P N D co t v)) c) : vv_X4_bitsOf nt v c Q := by
  unfold vv_X4_bitsOf
  rintro x rfl y rfl
  exact ⟨9, bitsC_L hv h24 hQ 8 0 (by omega)⟩
/-- who alone decides it -/
def blP (P : Nat → Nat → Int32) (N : Nat) (D E : Int32) (co : Nat → List Int32) (t : Int32) (i : Nat) : Bool := decide (¬ crd (sdS P N D co t 1 0 - vlP P N D co t i * wlP P N D co i) (sdS P N D co t (-1) 0 + vlP P N D co t i * wlP P N D co i) E = crd (sdS P N D co t 1 0) (sdS P N D co t (-1) 0) E)
def blS (P : Nat → Nat → Int32) (N : Nat) (D E : Int32) (co : Nat → List Int32) (t : Int32) : Nat := bsN (blP P N D E co t) 8
theorem bl_0 {P : Nat → Nat → Int32} {N i : Nat} {D E : Int32} {co : Nat → List Int32} {t : Int32} (h : vlP P N D co t i = 0) : blP P N D E co t i = false := by
  unfold blP; rw [h, show (0 : Int32) * wlP P N D co i = 0 by simp, show ∀ a : Int32, a - 0 = a from fun a => by grind, show ∀ a : Int32, a + 0 = a from fun a => by grind]; simp
theorem balC_L {nt : Nat} {c : Sg} {N : Nat} {P : Nat → Nat → Int32} {D E t : Int32} {co : Nat → List Int32} {Q : Int32 → Sg → Prop} (h0 : c 22 0 = sdS P N D co t 1 0) (h1 : c 22 1 = sdS P N D co t (-1) 0) (hE : c 1 3 = E) (h23 : ∀ i, i < 8 → c 23 i = wlP P N D co i) (h24 : ∀ i, i < 8 → c 24 i = vlP P N D co t i) (hQ : Q (nI (blS P N D E co t)) c) : ∀ d i, i + d = 8 → vv_X7_balance_L29 nt Q (d + 1) (crd (sdS P N D co t 1 0) (sdS P N D co t (-1) 0) E) (nI (bsN (blP P N D E co t) i)) (nI i) c := by
  intro d
  induction d with
  | zero =>
    intro i hi
    have e : i = 8 := by omega
    subst e
    unfold vv_X7_balance_L29
    exact ⟨fun _ => hQ, fun z => absurd (show (8 : Int32) ≤ nI 8 from by decide) z⟩
  | succ d ih =>
    intro i hi
    unfold vv_X7_balance_L29
    rw [nI_clamp (by omega), h24 i (by omega), h23 i (by omega), h0, h1, hE]
    have acc := b_bsN (p := blP P N D E co t) (i := i) (by omega)
    refine ⟨fun z => absurd z (nI_ge (b := 8) (by omega) (by omega)), fun _ => ⟨vp_in_nI (by omega) (by decide), vp_in_nI (by omega) (by decide), ?_⟩⟩
    rintro w rfl
    refine h_crdC ?_
    unfold vv_X7_balance_J96
    refine ⟨fun q => ?_, fun q => ?_⟩
    · intro y ey
      rw [show blP P N D E co t i = false by unfold blP; rw [q]; simp] at acc
      have acc' : nI (bsN (blP P N D E co t) i) = nI (bsN (blP P N D E co t) (i + 1)) := by rw [← acc]; simp [b_0 i (by omega)]
      rw [ey, nI_1, acc']
      exact ih _ (by omega)
    · intro x ex y ey
      rw [show blP P N D E co t i = true by unfold blP; exact decide_eq_true q] at acc
      have acc' : nI (bsN (blP P N D E co t) i) ||| 1 <<< (nI i &&& 31) = nI (bsN (blP P N D E co t) (i + 1)) := by rw [← acc]; simp
      rw [ex, ey, nI_1, acc']
      exact ih _ (by omega)
theorem balM_L {m : Sg} {N : Nat} {P : Nat → Nat → Int32} {D E t : Int32} {co : Nat → List Int32} {Q : Int32 → Sg → Prop} (h : BkM m N P D E co) (hQ : ∀ m', FrS m m' → Q (nI (blS P N D E co t)) m') : ∀ d i g, i + d = N → FrS m g → vv_X8_balanceOf_L22 Q (d + 1) t (sdS P N D co t 1 0) (sdS P N D co t (-1) 0) (nI (bsN (blP P N D E co t) i)) (nI i) g := by
  intro d
  have h8 := h.2.1
  induction d with
  | zero =>
    intro i g hi F
    have e : i = N := by omega
    subst e
    unfold vv_X8_balanceOf_L22
    rw [(h.keep F.Q).1]
    refine ⟨fun _ => ?_, fun z => absurd (Int32.le_refl _) z⟩
    have := hQ g F
    unfold blS at this
    rw [bsN_to h8 (fun j hj => bl_0 (by unfold vlP; rw [lv_ge hj]; rfl))] at this
    exact this
  | succ d ih =>
    intro i g hi F
    have hg := h.keep F.Q
    unfold vv_X8_balanceOf_L22
    rw [hg.1]
    have go : ∀ g' b, FrS m g' → b = (if blP P N D E co t i then (1 : Int32) else 0) → vv_X8_balanceOf_J97 (vv_X8_balanceOf_L22 Q (d + 1)) t (sdS P N D co t 1 0) (sdS P N D co t (-1) 0) (nI i) (nI (bsN (blP P N D E co t) i)) b g' Q := by
      rintro g' b F' rfl
      unfold vv_X8_balanceOf_J97
      intro x ex y ey
      rw [ex, ey, nI_1, b_bsN (by omega)]
      exact ih _ _ (by omega) F'
    have mid : ∀ g' x, FrS m g' → x = vlP P N D co t i → vv_X8_balanceOf_J51 (vv_X8_balanceOf_L22 Q (d + 1)) t (sdS P N D co t 1 0) (sdS P N D co t (-1) 0) (nI (bsN (blP P N D E co t) i)) (nI i) x g' Q := by
      intro g' x F' hx
      unfold vv_X8_balanceOf_J51
      intro x' ex'
      subst ex'
      refine h_weighM (h.keep F'.Q) (by omega) (fun g2 F2 => ?_)
      intro w ew
      unfold vv_X8_balanceOf_J96
      have h2 := (h.keep F'.Q).keep F2.Q
      refine ⟨fun q => go g2 _ (F'.tr F2) ?_, fun q => ?_⟩
      · rw [bl_0 (hx.symm.trans q)]; rfl
      · have hl : lvP P N i = true := by
          by_cases w : lvP P N i = true
          · exact w
          · exact absurd (hx.trans (by unfold vlP; rw [if_neg w])) q
        have ew' : w = vlP P N D co t i * wlP P N D co i := by rw [ew, hx]; unfold wlP; rw [hl]; rfl
        refine h_crdM (h_crdM ?_)
        rw [h2.2.2.2.2.1, ew']
        refine ⟨fun z => go g2 _ (F'.tr F2) ?_, fun z => go g2 _ (F'.tr F2) ?_⟩
        · rw [show blP P N D E co t i = false by unfold blP; rw [z]; simp]; rfl
        · rw [show blP P N D E co t i = true by unfold blP; exact decide_eq_true z]; rfl
    refine ⟨fun z => absurd z (nI_ge (by omega) (by omega)), fun _ => h_whoM hg (by omega) ?_⟩
    by_cases hl : lvP P N i = true
    · rw [hl]
      refine ⟨fun z => absurd z (by decide), fun _ => h_votM hg (by omega) (fun g1 F1 => mid _ _ (F.tr F1) ?_)⟩
      unfold vlP; rw [hl]; rfl
    · rw [if_neg hl]
      refine ⟨fun _ => mid _ _ F ?_, fun z => absurd rfl z⟩
      unfold vlP; rw [if_neg hl]
theorem h_isTopC {nt : Nat} {c : Sg} {x : Int32} {Q : Int32 → Sg → Prop} (h1 : ∀ t, t < 8 → x = nI t → Q 1 c) (h0 : ¬ ((0 : Int32) ≤ x ∧ x ≤ 7) → Q 0 c) : vv_X7_isTopic nt x c Q := by
  unfold vv_X7_isTopic
  refine ⟨fun z => h0 (fun q => absurd q.1 (Int32.not_le.mpr z)), fun z => ⟨fun y => h0 (fun q => absurd (Int32.le_trans y q.2) (by decide)), fun y => ?_⟩⟩
  obtain ⟨j, hj, rfl⟩ := nI_of z
  exact h1 j (Nat.lt_of_not_le (fun q => y (nI_le (a := 8) q hj))) rfl
theorem top7 {t : Nat} (h : t < 8) : (0 : Int32) ≤ nI t ∧ nI t ≤ 7 := ⟨nI_pos' (by omega), nI_le (b := 7) (by omega) (by omega)⟩
theorem eq_division {m c : Sg} {nt : Nat} (h : Rel m c nt) (x1 x2 : Int32) : vv_X7_division nt x1 x2 c (fun r c' => vv_X8_division x1 x2 m (fun r' m' => r = r' ∧ Rel m' c' nt)) := by
  obtain ⟨N, P, D, E, co, hM, hC, hD, hE, h25⟩ := h.bk
  have bad : ¬ ((0 : Int32) ≤ x1 ∧ x1 ≤ 7) ∨ ¬ ((0 : Int32) ≤ x2 ∧ x2 ≤ 5) → vv_X8_division x1 x2 m (fun r' m' => -2 = r' ∧ Rel m' c nt) := fun z => by
    unfold vv_X8_division
    refine h_in (l := 0) (h := 7) rfl rfl ?_
    by_cases q : (0 : Int32) ≤ x1 ∧ x1 ≤ 7
    · rw [if_pos q]
      refine ⟨fun z => absurd z (by decide), fun _ => h_in (l := 0) (h := 5) rfl rfl ?_⟩
      rw [if_neg (z.resolve_left (fun w => w q))]
      exact ⟨fun z => absurd rfl z, fun _ => ⟨rfl, h⟩⟩
    · rw [if_neg q]; exact ⟨fun _ => ⟨rfl, h⟩, fun z => absurd rfl z⟩
  unfold vv_X7_division
  refine h_isTopC (fun t ht e => ⟨fun z => absurd z (by decide), fun _ => ⟨fun z => bad (Or.inr (fun q => absurd q.1 (Int32.not_le.mpr z))), fun z1 => ⟨fun z2 => ?_, fun z => bad (Or.inr (fun q => z q.2))⟩⟩⟩) (fun no => ⟨fun _ => bad (Or.inl no), fun z => absurd rfl z⟩)
  subst e
  obtain ⟨w, hw, rfl⟩ := rng_nI (n := 5) (by decide) ⟨Int32.not_lt.mp z1, z2⟩
  have pre : ∀ Q : Int32 → Sg → Prop, (((2 : Int32) ≤ nI w) → (((¬ nI w = (2 : Int32)) → (((¬ nI w = (5 : Int32)) → (((¬ nI w = (3 : Int32)) → (vv_X8_division_J94 (nI t) (-1 : Int32) m Q)) ∧ ((nI w = (3 : Int32)) → (vv_X8_division_J94 (nI t) (1 : Int32) m Q)))) ∧ ((nI w = (5 : Int32)) → (vv_X8_balanceOf (nI t) m (fun r_14 g_13 => Q r_14 g_13))))) ∧ ((nI w = (2 : Int32)) → (vv_X8_carries (nI t) m (fun r_16 g_15 => ((r_16 = 0) → (Q (0 : Int32) g_15)) ∧ ((¬ (r_16 = 0)) → (Q (1 : Int32) g_15))))))) ∧ ((¬ ((2 : Int32) ≤ nI w)) → (((¬ nI w = 0) → (vv_X8_division_J43 (nI t) (-1 : Int32) m Q)) ∧ ((nI w = 0) → (vv_X8_division_J43 (nI t) (1 : Int32) m Q)))) → vv_X8_division (nI t) (nI w) m Q := by
    intro Q hQ
    unfold vv_X8_division
    refine h_in (l := 0) (h := 7) rfl rfl ?_
    rw [if_pos (top7 ht)]
    refine ⟨fun z => absurd z (by decide), fun _ => h_in (l := 0) (h := 5) rfl rfl ?_⟩
    rw [if_pos ⟨Int32.not_lt.mp z1, z2⟩]
    exact ⟨fun _ => hQ, fun z => absurd z (by decide)⟩
  refine h_weigC hC (fun c1 F1 e22 e25 e23 => h_divC (hC.keep F1) ht e23 (fun c2 F2 f23 f25 f222 f0 f1 f24 => ?_))
  have FF := F1.tr F2
  have hC2 := hC.keep FF
  have g23 : ∀ i, i < 8 → c2 23 i = wlP P N D co i := fun i hi => by rw [f23]; exact e23 i hi
  rcases (show w = 0 ∨ w = 1 ∨ w = 2 ∨ w = 3 ∨ w = 4 ∨ w = 5 by omega) with rfl | rfl | rfl | rfl | rfl | rfl
  · refine ⟨fun _ => ?_, fun q => absurd q (by decide), fun q => absurd q (by decide), fun q => absurd q (by decide), fun q => absurd q (by decide), fun q => absurd rfl q⟩
    refine pre _ ⟨fun q => absurd q (by decide), fun _ => ⟨fun q => absurd rfl q, fun _ => ?_⟩⟩
    unfold vv_X8_division_J43
    exact h_sideM (S := 0) hM (by decide) (fun m' G => ⟨f0, h.frame G.Q FF.K⟩)
  · refine ⟨fun q => absurd q (by decide), fun _ => ?_, fun q => absurd q (by decide), fun q => absurd q (by decide), fun q => absurd q (by decide), fun _ q => absurd rfl q⟩
    refine pre _ ⟨fun q => absurd q (by decide), fun _ => ⟨fun _ => ?_, fun q => absurd q (by decide)⟩⟩
    unfold vv_X8_division_J43
    exact h_sideM (S := 0) hM (by decide) (fun m' G => ⟨f1, h.frame G.Q FF.K⟩)
  · refine ⟨fun q => absurd q (by decide), fun q => absurd q (by decide), fun _ => ?_, fun q => absurd q (by decide), fun q => absurd q (by decide), fun _ _ q => absurd rfl q⟩
    rw [f0, f1, hC2.2.2.2.2.2.1]
    refine h_crdC ?_
    rcases crd01 (sdS P N D co (nI t) 1 0) (sdS P N D co (nI t) (-1) 0) E with e | e
    · rw [e]
      refine ⟨fun _ => pre _ ⟨fun _ => ⟨fun q => absurd rfl q, fun _ => h_carM hM (fun m' G => ?_)⟩, fun q => absurd (by decide) q⟩, fun q => absurd rfl q⟩
      rw [show ctP P N D E co (nI t) = 0 from e]
      exact ⟨fun _ => ⟨rfl, h.frame G.Q FF.K⟩, fun q => absurd rfl q⟩
    · rw [e]
      refine ⟨fun q => absurd q (by decide), fun _ => pre _ ⟨fun _ => ⟨fun q => absurd rfl q, fun _ => h_carM hM (fun m' G => ?_)⟩, fun q => absurd (by decide) q⟩⟩
      rw [show ctP P N D E co (nI t) = 1 from e]
      exact ⟨fun q => absurd q (by decide), fun _ => ⟨rfl, h.frame G.Q FF.K⟩⟩
  · refine ⟨fun q => absurd q (by decide), fun q => absurd q (by decide), fun q => absurd q (by decide), fun _ => ?_, fun q => absurd q (by decide), fun _ _ _ q => absurd rfl q⟩
    refine h_bitsC (by decide) f24 (pre _ ⟨fun _ => ⟨fun _ => ⟨fun _ => ⟨fun q => absurd rfl q, fun _ => ?_⟩, fun q => absurd q (by decide)⟩, fun q => absurd q (by decide)⟩, fun q => absurd (by decide) q⟩)
    unfold vv_X8_division_J94
    exact h_votsM hM (fun m' G => ⟨rfl, h.frame G.Q FF.K⟩)
  · refine ⟨fun q => absurd q (by decide), fun q => absurd q (by decide), fun q => absurd q (by decide), fun q => absurd q (by decide), fun _ => ?_, fun _ _ _ _ q => absurd rfl q⟩
    refine h_bitsC (by decide) f24 (pre _ ⟨fun _ => ⟨fun _ => ⟨fun _ => ⟨fun _ => ?_, fun q => absurd q (by decide)⟩, fun q => absurd q (by decide)⟩, fun q => absurd q (by decide)⟩, fun q => absurd (by decide) q⟩)
    unfold vv_X8_division_J94
    exact h_votsM hM (fun m' G => ⟨rfl, h.frame G.Q FF.K⟩)
  · refine ⟨fun q => absurd q (by decide), fun q => absurd q (by decide), fun q => absurd q (by decide), fun q => absurd q (by decide), fun q => absurd q (by decide), fun _ _ _ _ _ => ?_⟩
    unfold vv_X7_balance
    rw [f0, f1, hC2.2.2.2.2.2.1]
    refine h_crdC ?_
    rintro a rfl b rfl e rfl
    refine ⟨9, balC_L f0 f1 hC2.2.2.2.2.2.1 g23 f24 (pre _ ⟨fun _ => ⟨fun _ => ⟨fun q => absurd rfl q, fun _ => ?_⟩, fun q => absurd q (by decide)⟩, fun q => absurd (by decide) q⟩) 8 0 (by omega)⟩
    unfold vv_X8_balanceOf
    refine h_sideM (S := 0) hM (by decide) (fun m1 G1 => ?_)
    rintro y rfl
    refine h_sideM (S := 0) (hM.keep G1.Q) (by decide) (fun m2 G2 => ?_)
    rintro z rfl u rfl v rfl
    exact ⟨N + 1, balM_L ((hM.keep G1.Q).keep G2.Q) (fun m' G => ⟨rfl, h.frame ((G1.tr G2).tr G).Q FF.K⟩) N 0 m2 (by omega) (FrS.rf _)⟩
