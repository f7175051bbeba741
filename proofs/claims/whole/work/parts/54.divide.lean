/-! ===== a division ===== -/
def vlP (P : Nat → Nat → Int32) (N : Nat) (D : Int32) (co : Nat → List Int32) (t : Int32) (i : Nat) : Int32 := if lvP P N i then voP P D co t i else 0
theorem sgn3 (x : Int32) : sgn x = 0 ∨ sgn x = 1 ∨ sgn x = -1 := by
  unfold sgn
  split
  · split
    · exact Or.inl rfl
    · exact Or.inr (Or.inr rfl)
  · exact Or.inr (Or.inl rfl)
theorem bt_0 (i : Nat) : bt 0 i = false := by unfold bt; simp
theorem sd_pro {P : Nat → Nat → Int32} {N : Nat} {D : Int32} {co : Nat → List Int32} {t : Int32} {i : Nat} : sdF P N D co t 1 0 i = if vlP P N D co t i ≤ 0 then 0 else wlP P N D co i := by
  unfold sdF vlP wlP
  rw [bt_0]
  by_cases h : lvP P N i = true
  · rw [h]
    simp only [true_and, if_true]
    unfold voP vtS
    rcases sgn3 (flS (P i) t D co) with e | e | e <;> rw [e] <;> simp <;> decide
  · have h' : lvP P N i = false := by simpa using h
    rw [h']; simp
theorem sd_con {P : Nat → Nat → Int32} {N : Nat} {D : Int32} {co : Nat → List Int32} {t : Int32} {i : Nat} : sdF P N D co t (-1) 0 i = if 0 ≤ vlP P N D co t i then 0 else wlP P N D co i := by
  unfold sdF vlP wlP
  rw [bt_0]
  by_cases h : lvP P N i = true
  · rw [h]
    simp only [true_and, if_true]
    unfold voP vtS
    rcases sgn3 (flS (P i) t D co) with e | e | e <;> rw [e] <;> simp <;> decide
  · have h' : lvP P N i = false := by simpa using h
    rw [h']; simp
theorem sd_8 {P : Nat → Nat → Int32} {N : Nat} {D : Int32} {co : Nat → List Int32} {t v : Int32} {S : Nat} (h : N ≤ 8) : sumN (sdF P N D co t v S) 8 = sdS P N D co t v S := by
  unfold sdS
  refine sumN_to h (fun i hi => ?_)
  unfold sdF
  rw [lv_ge hi]; simp
def DvC (c c' : Sg) (P : Nat → Nat → Int32) (N : Nat) (D : Int32) (co : Nat → List Int32) (t : Int32) (n : Nat) : Prop := FrV c c' ∧ c' 23 = c 23 ∧ c' 25 = c 25 ∧ c' 22 2 = c 22 2 ∧ c' 22 0 = sumN (sdF P N D co t 1 0) n ∧ c' 22 1 = sumN (sdF P N D co t (-1) 0) n ∧ ∀ i, i < n → c' 24 i = vlP P N D co t i
theorem divC_L {nt : Nat} {c : Sg} {B N T : Nat} {P : Nat → Nat → Int32} {D E : Int32} {co : Nat → List Int32} {Q : Sg → Prop} (h : BkC nt c B N P D E co) (hT : T < 8) (hw : ∀ i, i < 8 → c 23 i = wlP P N D co i) (hQ : ∀ c', DvC c c' P N D co (nI T) 8 → Q c') : ∀ d i g, i + d = 8 → DvC c g P N D co (nI T) i → vv_X7_divide_L18 nt Q (d + 1) B (nI T) (nI i) g := by
  intro d
  have h8 := h.2.2.1
  induction d with
  | zero =>
    intro i g hi hg
    have e : i = 8 := by omega
    subst e
    unfold vv_X7_divide_L18
    exact ⟨fun _ => hQ g hg, fun z => absurd (show (8 : Int32) ≤ nI 8 from by decide) z⟩
  | succ d ih =>
    intro i g hi hg
    have hk := h.keep hg.1
    obtain ⟨F, g23, g25, g222, g220, g221, g24⟩ := hg
    unfold vv_X7_divide_L18
    rw [hk.2.1]
    have go : ∀ g' x, FrT g g' → x = vlP P N D co (nI T) i → vv_X7_divide_J48 nt (vv_X7_divide_L18 nt Q (d + 1)) B (nI T) (nI i) x g' Q := by
      intro g' x F' hx
      have wi : g' 23 i = wlP P N D co i := by rw [F' 23 (by omega), g23, hw i (by omega)]
      have last : ∀ g2 y z, y = sumN (sdF P N D co (nI T) 1 0) (i + 1) → z = sumN (sdF P N D co (nI T) (-1) 0) (i + 1) → g2 = st (st (st g' 24 i x) 22 0 y) 22 1 z → vv_X7_divide_L18 nt Q (d + 1) B (nI T) (nI (i + 1)) g2 := by
        intro g2 y z hy hz e2
        refine ih _ _ (by omega) ?_
        subst e2
        refine ⟨((((F.tr F'.V).tr (FrV.put _ (by decide) _)).tr (FrV.put _ (by decide) _)).tr (FrV.put _ (by decide) _)), ?_, ?_, ?_, ?_, ?_, fun j hj => ?_⟩
        · rw [st_ne (by decide), st_ne (by decide), st_ne (by decide), F' 23 (by omega)]; exact g23
        · rw [st_ne (by decide), st_ne (by decide), st_ne (by decide), F' 25 (by omega)]; exact g25
        · rw [st_off _ (by decide), st_off _ (by decide), st_ne (by decide), F' 22 (by omega)]; exact g222
        · rw [st_off _ (by decide), st_on]; exact hy
        · rw [st_on]; exact hz
        · rw [st_ne (by decide), st_ne (by decide), st_at]
          by_cases q : j = i
          · rw [if_pos q, q]; exact hx
          · rw [if_neg q, F' 24 (by omega)]; exact g24 j (by omega)
      have p0 : (st g' 24 i x) 22 0 = sumN (sdF P N D co (nI T) 1 0) i := by rw [st_ne (by decide), F' 22 (by omega)]; exact g220
      have p1 : ∀ y, (st (st g' 24 i x) 22 0 y) 22 1 = sumN (sdF P N D co (nI T) (-1) 0) i := fun y => by rw [st_off _ (by decide), st_ne (by decide), F' 22 (by omega)]; exact g221
      have p2 : ∀ y, (st (st g' 24 i x) 22 0 y) 23 i = wlP P N D co i := fun y => by rw [st_ne (by decide), st_ne (by decide)]; exact wi
      have p3 : (st g' 24 i x) 23 i = wlP P N D co i := by rw [st_ne (by decide)]; exact wi
      have mid : ∀ y b, y = sumN (sdF P N D co (nI T) 1 0) i → b = sdF P N D co (nI T) 1 0 i → vv_X7_divide_J87 nt (vv_X7_divide_L18 nt Q (d + 1)) B (nI T) (nI i) x y b (st g' 24 i x) Q := by
        intro y b hy hb
        unfold vv_X7_divide_J87
        rintro g2 rfl
        have hyb : y + b = sumN (sdF P N D co (nI T) 1 0) (i + 1) := by rw [hy, hb]; rfl
        rw [p1, nI_clamp (by omega), p2]
        unfold vv_X7_divide_J117
        refine ⟨fun q => ?_, fun q => ⟨vp_in_nI (by omega) (by decide), ?_⟩⟩
        · rintro g3 rfl j rfl
          rw [nI_1]
          refine last _ _ _ hyb ?_ rfl
          rw [sumN, sd_con, if_pos (by rw [← hx]; exact q)]
        · rintro g3 rfl j rfl
          rw [nI_1]
          refine last _ _ _ hyb ?_ rfl
          rw [sumN, sd_con, if_neg (by rw [← hx]; exact q)]
      unfold vv_X7_divide_J48
      intro x' ex'
      subst ex'
      refine ⟨vp_in_nI (by omega) (by decide), ?_⟩
      rw [nI_clamp (by omega)]
      rintro g2 rfl
      rw [p3]
      refine ⟨fun q => mid _ _ p0 (by rw [sd_pro, if_pos (by rw [← hx]; exact q)]), fun q => ⟨vp_in_nI (by omega) (by decide), mid _ _ p0 (by rw [sd_pro, if_neg (by rw [← hx]; exact q)])⟩⟩
    refine ⟨fun z => absurd z (nI_ge (b := 8) (by omega) (by omega)), fun _ => ⟨fun z => go g 0 (FrT.rf g) ?_, fun z => ⟨vp_in_nI (by omega) (by decide), ?_⟩⟩⟩
    · have : N ≤ i := (nI_leI (by omega) (by omega)).mp z
      unfold vlP; rw [lv_ge this]; rfl
    · have hi' : i < N := Nat.lt_of_not_le (fun q => z (nI_le q (by omega)))
      rw [pp3 h.1.1 (by omega)]
      refine h_castC h.1 (h.P (by omega)) hk.2.2.2.2.2.2 (par_nI T hT) (fun g' F' => go g' _ F' ?_)
      obtain ⟨f1, f2⟩ := hk.2.2.2.1 i hi'
      rw [f1 5 (by decide), hk.2.2.2.2.1, vtS_congr f1]
      unfold vlP lvP
      rw [decide_eq_true hi', Bool.true_and]
      rcases f2.2.2.2.2.2 with e | e <;> rw [e] <;> simp <;> rfl
theorem h_divC {nt : Nat} {c : Sg} {B N T : Nat} {P : Nat → Nat → Int32} {D E : Int32} {co : Nat → List Int32} {Q : Sg → Prop} (h : BkC nt c B N P D E co) (hT : T < 8) (hw : ∀ i, i < 8 → c 23 i = wlP P N D co i) (hQ : ∀ c', FrV c c' → c' 23 = c 23 → c' 25 = c 25 → c' 22 2 = c 22 2 → c' 22 0 = sdS P N D co (nI T) 1 0 → c' 22 1 = sdS P N D co (nI T) (-1) 0 → (∀ i, i < 8 → c' 24 i = vlP P N D co (nI T) i) → Q c') : vv_X7_divide nt B (nI T) c Q := by
  unfold vv_X7_divide
  refine ⟨h.1, ?_⟩
  rintro g1 rfl g2 rfl x rfl
  have F : FrV c (st (st c 22 0 0) 22 1 0) := (FrV.put c (by decide) _).tr (FrV.put _ (by decide) _)
  refine ⟨9, divC_L (h.keep F) hT (fun i hi => by rw [st_ne (by decide), st_ne (by decide)]; exact hw i hi) (fun c' hc => hQ c' (F.tr hc.1) ?_ ?_ ?_ ?_ ?_ hc.2.2.2.2.2.2) 8 0 _ (by omega) ⟨FrV.rf _, rfl, rfl, rfl, ?_, ?_, fun i hi => absurd hi (by omega)⟩⟩
  · rw [hc.2.1, st_ne (by decide), st_ne (by decide)]
  · rw [hc.2.2.1, st_ne (by decide), st_ne (by decide)]
  · rw [hc.2.2.2.1, st_off _ (by decide), st_off _ (by decide)]
  · rw [hc.2.2.2.2.1, sd_8 h.2.2.1]
  · rw [hc.2.2.2.2.2.1, sd_8 h.2.2.1]
  · rw [st_off _ (by decide), st_on]; rfl
  · rw [st_on]; rfl
/-- whether it is carried -/
def crd (a b E : Int32) : Int32 := if a < E then 0 else if a ≤ b then 0 else 1
theorem crd01 (a b E : Int32) : crd a b E = 0 ∨ crd a b E = 1 := by
  unfold crd
  split
  · exact Or.inl rfl
  · split
    · exact Or.inl rfl
    · exact Or.inr rfl
theorem h_crdC {nt : Nat} {a b E : Int32} {c : Sg} {Q : Int32 → Sg → Prop} (hQ : Q (crd a b E) c) : vv_X7_carried nt a b E c Q := by
  unfold vv_X7_carried
  unfold crd at hQ
  exact ⟨fun q => by rw [if_pos q] at hQ; exact hQ, fun q => ⟨fun w => by rw [if_neg q, if_pos w] at hQ; exact hQ, fun w => by rw [if_neg q, if_neg w] at hQ; exact hQ⟩⟩
theorem h_crdM {a b : Int32} {m : Sg} {Q : Int32 → Sg → Prop} (hQ : Q (crd a b (m 0 8)) m) : vv_X8_isCarried a b m Q := by
  unfold vv_X8_isCarried
  unfold crd at hQ
  exact ⟨fun q => by rw [if_pos q] at hQ; exact hQ, fun q => ⟨fun w => by rw [if_neg q, if_pos w] at hQ; exact hQ, fun w => by rw [if_neg q, if_neg w] at hQ; exact hQ⟩⟩
def ctP (P : Nat → Nat → Int32) (N : Nat) (D E : Int32) (co : Nat → List Int32) (t : Int32) : Int32 := crd (sdS P N D co t 1 0) (sdS P N D co t (-1) 0) E
def ctS (P : Nat → Nat → Int32) (N : Nat) (D E : Int32) (co : Nat → List Int32) : Nat := bsN (fun t => decide (ctP P N D E co (nI t) = 1)) 8
theorem ctS_lt (P : Nat → Nat → Int32) (N : Nat) (D E : Int32) (co : Nat → List Int32) : ctS P N D E co < 256 := bsN_256 _ (by omega)
theorem h_carM {m : Sg} {N : Nat} {P : Nat → Nat → Int32} {D E t : Int32} {co : Nat → List Int32} {Q : Int32 → Sg → Prop} (h : BkM m N P D E co) (hQ : ∀ m', FrS m m' → Q (ctP P N D E co t) m') : vv_X8_carries t m Q := by
  unfold vv_X8_carries
  refine h_sideM (S := 0) h (by decide) (fun m1 F1 => h_sideM (S := 0) (h.keep F1.Q) (by decide) (fun m2 F2 => h_crdM ?_))
  rw [((h.keep F1.Q).keep F2.Q).2.2.2.2.1]
  exact ⟨crd01 _ _ _, hQ m2 (F1.tr F2)⟩
theorem carSM_L {m : Sg} {N : Nat} {P : Nat → Nat → Int32} {D E : Int32} {co : Nat → List Int32} {Q : Int32 → Sg → Prop} (h : BkM m N P D E co) (hQ : ∀ m', FrS m m' → Q (nI (ctS P N D E co)) m') : ∀ d i g, i + d = 8 → FrS m g → vv_X8_carriedSet_L4 Q (d + 1) (nI (bsN (fun t => decide (ctP P N D E co (nI t) = 1)) i)) (nI i) g := by
  intro d
  induction d with
  | zero =>
    intro i g hi F
    have e : i = 8 := by omega
    subst e
    unfold vv_X8_carriedSet_L4
    exact ⟨fun _ => hQ g F, fun z => absurd (show (8 : Int32) ≤ nI 8 from by decide) z⟩
  | succ d ih =>
    intro i g hi F
    unfold vv_X8_carriedSet_L4
    refine ⟨fun z => absurd z (nI_ge (b := 8) (by omega) (by omega)), fun _ => h_carM (h.keep F.Q) (fun g' F' => ?_)⟩
    have go : ∀ b, b = (if decide (ctP P N D E co (nI i) = 1) then (1 : Int32) else 0) → vv_X8_carriedSet_J24 (vv_X8_carriedSet_L4 Q (d + 1)) (nI i) (nI (bsN (fun t => decide (ctP P N D E co (nI t) = 1)) i)) b g' Q := by
      rintro b rfl
      unfold vv_X8_carriedSet_J24
      intro x ex y ey
      rw [ex, ey, nI_1, b_bsN (p := fun t => decide (ctP P N D E co (nI t) = 1)) (by omega)]
      exact ih _ _ (by omega) (F.tr F')
    refine ⟨fun q => go 0 ?_, fun q => go 1 ?_⟩
    · rw [q]; rfl
    · rw [show ctP P N D E co (nI i) = 1 from (crd01 _ _ _).resolve_left q]; rfl
theorem h_carSM {m : Sg} {N : Nat} {P : Nat → Nat → Int32} {D E : Int32} {co : Nat → List Int32} {Q : Int32 → Sg → Prop} (h : BkM m N P D E co) (hQ : ∀ m', FrS m m' → Q (nI (ctS P N D E co)) m') : vv_X8_carriedSet m Q := by
  unfold vv_X8_carriedSet
  rintro x rfl y rfl
  exact ⟨9, carSM_L h hQ 8 0 m (by omega) (FrS.rf m)⟩
theorem carSC_L {nt : Nat} {c : Sg} {B N : Nat} {P : Nat → Nat → Int32} {D E : Int32} {co : Nat → List Int32} {Q : Int32 → Sg → Prop} (h : BkC nt c B N P D E co) (hQ : ∀ c', FrV c c' → Q (nI (ctS P N D E co)) c') : ∀ d i g, i + d = 8 → FrV c g → (∀ i, i < 8 → g 23 i = wlP P N D co i) → vv_X7_carriedTopics_L9 nt Q (d + 1) B (nI (bsN (fun t => decide (ctP P N D E co (nI t) = 1)) i)) (nI i) g := by
  intro d
  induction d with
  | zero =>
    intro i g hi F hw
    have e : i = 8 := by omega
    subst e
    unfold vv_X7_carriedTopics_L9
    exact ⟨fun _ => hQ g F, fun z => absurd (show (8 : Int32) ≤ nI 8 from by decide) z⟩
  | succ d ih =>
    intro i g hi F hw
    unfold vv_X7_carriedTopics_L9
    refine ⟨fun z => absurd z (nI_ge (b := 8) (by omega) (by omega)), fun _ => h_divC (h.keep F) (by omega) hw (fun g' F' e23 e25 e222 e0 e1 e24 => ?_)⟩
    rw [e0, e1, ((h.keep F).keep F').2.2.2.2.2.1]
    refine h_crdC ?_
    have acc := b_bsN (p := fun t => decide (ctP P N D E co (nI t) = 1)) (i := i) (by omega)
    unfold vv_X7_carriedTopics_J51
    refine ⟨fun q => ?_, fun q => ?_⟩
    · rintro y rfl
      have q' : ctP P N D E co (nI i) = 0 := q
      rw [q'] at acc
      have acc' : nI (bsN (fun t => decide (ctP P N D E co (nI t) = 1)) i) = nI (bsN (fun t => decide (ctP P N D E co (nI t) = 1)) (i + 1)) := by
        rw [← acc]; simp [b_0 i (by omega)]
      rw [nI_1, acc']
      exact ih _ _ (by omega) (F.tr F') (fun j hj => by rw [e23]; exact hw j hj)
    · have q' : ctP P N D E co (nI i) = 1 := (crd01 _ _ _).resolve_left q
      rw [q'] at acc
      intro x ex y ey
      rw [ex, ey, nI_1]
      have acc' : nI (bsN (fun t => decide (ctP P N D E co (nI t) = 1)) i) ||| 1 <<< (nI i &&& 31) = nI (bsN (fun t => decide (ctP P N D E co (nI t) = 1)) (i + 1)) := by
        rw [← acc]; simp
      rw [acc']
      exact ih _ _ (by omega) (F.tr F') (fun j hj => by rw [e23]; exact hw j hj)
theorem h_carSC {nt : Nat} {c : Sg} {B N : Nat} {P : Nat → Nat → Int32} {D E : Int32} {co : Nat → List Int32} {Q : Int32 → Sg → Prop} (h : BkC nt c B N P D E co) (hQ : ∀ c', FrV c c' → Q (nI (ctS P N D E co)) c') : vv_X7_carriedTopics nt B c Q := by
  unfold vv_X7_carriedTopics
  refine ⟨h.1, ?_⟩
  rintro x rfl
  refine h_weigC h (fun c1 F1 e22 e25 e23 => ?_)
  rintro y rfl
  exact ⟨9, carSC_L (h.keep F1) (fun c' F => hQ c' (F1.tr F)) 8 0 c1 (by omega) (FrV.rf _) e23⟩
