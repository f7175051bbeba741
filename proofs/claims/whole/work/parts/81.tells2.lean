section
/-! ===== tells(): class and reference alike ===== -/
theorem firM_up {m g : Sg} {s p kc jc fld : Nat} {v : Int32} {co : Nat → List Int32} {R : Int32 → Sg → Prop} (hs : s < 4) (hp : p < 8) (hR : RuM m co) (hkc : kc = 4 ∨ kc = 5) (hpv : ∀ i, i < 6 → pvM (st m kc jc v) p i = upF (pvM m p) fld v i) (F : FrS (st m kc jc v) g) (hk : ∀ g', FrS (st m kc jc v) g' → R (fo8 (itM m s) (vvS (upF (pvM m p) fld v) (m 0 7) co)) g') : vv_X8_firstOther (nI s) (nI p) g R := by
  have hR1 : RuM (st m kc jc v) co := hR.keep (by rw [st_ne (by omega)]) (st_ne (by omega)) (st_ne (by omega))
  refine h_firM hs hp (F.Ru hR1) (fun g2 F2 => ?_)
  have e1 : itM g s = itM m s := funext (fun t => by unfold itM; rw [F.1 12 (by decide), st_ne (by omega)])
  have e2 : g 0 7 = m 0 7 := by rw [F.2 7 (by omega), st_ne (by omega)]
  have e3 : vvS (pvM g p) (m 0 7) co = vvS (upF (pvM m p) fld v) (m 0 7) co := funext (fun t => vtS_congr (fun i hi => by rw [F.pv p]; exact hpv i hi) _ _ _)
  rw [e1, e2, e3]
  exact hk g2 (F.tr F2)
theorem firM_tx {m g : Sg} {s p : Nat} {v : Int32} {co : Nat → List Int32} {R : Int32 → Sg → Prop} (hs : s < 4) (hp : p < 8) (hR : RuM (st m 0 4 v) co) (F : FrS (st m 0 4 v) g) (hk : ∀ g', FrS (st m 0 4 v) g' → R (fo8 (itM m s) (vvS (pvM m p) (m 0 7) co)) g') : vv_X8_firstOther (nI s) (nI p) g R := by
  refine h_firM hs hp (F.Ru hR) (fun g2 F2 => ?_)
  have e1 : itM g s = itM m s := funext (fun t => by unfold itM; rw [F.1 12 (by decide), st_ne (by decide)])
  have e2 : g 0 7 = m 0 7 := by rw [F.2 7 (by omega), st_off _ (by decide)]
  have e3 : pvM g p = pvM m p := by rw [F.pv p, pv_st0]
  rw [e1, e2, e3]
  exact hk g2 (F.tr F2)
theorem h_J116w {m : Sg} {N s p w kc jc n fld : Nat} {x3 low : Int32} {co : Nat → List Int32} {Q : Int32 → Sg → Prop} (hs : s < 4) (hN : m 0 11 = nI N) (h8 : N ≤ 8) (hp : p < N) (hR : RuM m co) (hb : m 5 (5 * p + 4) = 0 ∨ m 5 (5 * p + 4) = 1) (hw : w = 2 ∨ w = 3 ∨ w = 5 ∨ w = 7) (htd : tdS (pvM m p) (m 0 7) (m 0 8) co w = m kc jc) (hkc : kc = 4 ∨ kc = 5) (hpv : ∀ v i, i < 6 → pvM (st m kc jc v) p i = upF (pvM m p) fld v i) (hlay : ∀ v g (R : Sg → Prop), R (st g kc jc v) → vv_X8_lays (nI w) (nI p) v g R) (hlow : low = if w = 3 then -9 else 0) (htop : low + nI n + -1 = if w = 7 then 5 else tG w) (hlt : ∀ j, j < n → ¬ low + nI j < low) (hQ : ∀ g, FrS m g → Q (tlS x3 n low (fun j => fo8 (itM m s) (vvS (upF (pvM m p) fld (low + nI j)) (m 0 7) co))) g) : vv_X8_tells_J116 (nI s) (nI p) x3 (nI w) m Q := by
  unfold vv_X8_tells_J116
  intro a ea
  rw [ea]
  have w8 : ¬ nI w = 8 := fun z => absurd ((nI_eq (b := 8) (by omega) (by decide)).mp z) (by omega)
  refine ⟨fun _ => tdM_in hN h8 hp hR hb (by omega) (fun g F => ?_), fun z => absurd z w8⟩
  rw [htd]
  unfold vv_X8_tells_J139
  intro b eb
  rw [eb]
  have hl1 : low + -1 < low := by rw [hlow]; split <;> decide
  have go : ∀ x6, x6 = low + nI n + -1 → vv_X8_tells_J173 (nI s) (nI p) x3 (nI w) (m kc jc) x6 g Q := fun x6 e6 => by
    unfold vv_X8_tells_J173
    intro u eu
    rw [eu]
    have k := h_J187 (m := m) (g0 := g) (s := s) (p := p) (x3 := x3) (Q := Q) hlay (fun j hj g1 F1 R hR' => firM_up hs (by omega) hR hkc (hpv _) F1 hR') hlt hl1 e6 F hQ
    refine ⟨fun z => ?_, fun z => ?_⟩
    · rw [hlow, if_neg (fun q => z (by rw [q]; rfl))] at k; exact k
    · rw [hlow, if_pos ((nI_eq (b := 3) (by omega) (by decide)).mp z)] at k; exact k
  refine ⟨fun _ => ⟨fun z7 => ?_, fun z7 => go _ ?_⟩, fun z => absurd z w8⟩
  · have w7 : w ≠ 7 := fun q => z7 (by rw [q]; rfl)
    refine h_most (by omega) (go _ ?_)
    rw [htop, if_neg w7]
  · rw [htop, if_pos ((nI_eq (b := 7) (by omega) (by decide)).mp z7)]
theorem tl_o {x3 low : Int32} {n : Nat} {fo : Nat → Int32} (h4 : ¬ x3 = 4) (h5 : ¬ x3 = 5) : orU (bfU fo) n = tlS x3 n low fo := by unfold tlS; rw [if_neg h4, if_neg h5]
theorem put7 {nt : Nat} {v : Int32} {g : Sg} {R : Sg → Prop} (h : R (st g 7 0 v)) : vv_X1_put nt 7 (nI 7) v g R := by
  unfold vv_X1_put
  exact ⟨Or.inl rfl, fun z => absurd z (by decide), fun z => absurd z (by decide), fun z => absurd z (by decide), fun z => absurd z (by decide), fun z => absurd z (by decide), fun _ _ _ _ _ => by rintro g rfl; exact h⟩
theorem lays7 {m : Sg} {p : Nat} {v : Int32} {Q : Sg → Prop} (hp : p < 8) (hQ : Q (st m 4 p v)) : vv_X8_lays (nI 7) (nI p) v m Q := by
  unfold vv_X8_lays
  rw [nI_clamp (n := p) (by omega)]
  exact ⟨fun _ => ⟨fun _ => ⟨fun _ => ⟨fun z => absurd rfl z, fun _ => ⟨vp_in_nI hp (by decide), by rintro g rfl; exact hQ⟩⟩, fun z => absurd (by decide) z⟩, fun z => absurd z (by decide)⟩, fun z => absurd z (by decide)⟩
theorem lays8 {m : Sg} {p v : Int32} {Q : Sg → Prop} (hQ : Q (st m 0 4 v)) : vv_X8_lays 8 p v m Q := by
  unfold vv_X8_lays
  exact ⟨fun _ => ⟨fun _ => ⟨fun _ => ⟨fun _ => by rintro g rfl; exact hQ, fun z => absurd z (by decide)⟩, fun z => absurd (by decide) z⟩, fun z => absurd z (by decide)⟩, fun z => absurd z (by decide)⟩
theorem pv_up5 (m : Sg) {p k : Nat} (v : Int32) (hk : k < 5) (i : Nat) (hi : i < 6) : pvM (st m 5 (5 * p + k) v) p i = upF (pvM m p) (k + 1) v i := by
  rw [pv_st5 m v hk p hi]; unfold upF
  by_cases q : i = k + 1
  · rw [if_pos ⟨rfl, q⟩, if_pos q]
  · rw [if_neg (fun z => q z.2), if_neg q]
theorem pv_up4 (m : Sg) {p : Nat} (v : Int32) (i : Nat) : pvM (st m 4 p v) p i = upF (pvM m p) 0 v i := by
  rw [pv_st4]; unfold upF
  by_cases q : i = 0
  · rw [if_pos ⟨rfl, q⟩, if_pos q]
  · rw [if_neg (fun z => q z.2), if_neg q]
theorem eq_tells {m c : Sg} {nt : Nat} (h : Rel m c nt) (x1 x2 x3 : Int32) : vv_X7_tells nt x1 x2 x3 c (fun r c' => vv_X8_tells x1 x2 x3 m (fun r' m' => r = r' ∧ Rel m' c' nt)) := by
  have h' := h
  obtain ⟨N, P, D, E, co, hM, hC, -, -, -⟩ := h.bk
  obtain ⟨N', hp, hd, hr, ht, ha, hig, hsh⟩ := h
  have eN : N' = N := (nI_eq (by have := hp.2.2.1; omega) (by have := hM.2.1; omega)).mp (hp.1.symm.trans hM.1)
  subst eN
  have h8 := hM.2.1
  have bad : ((¬ ∃ s, s < 4 ∧ x1 = nI s) ∨ (¬ ∃ i, i < N' ∧ x2 = nI i) ∨ ¬ ((0 : Int32) ≤ x3 ∧ x3 ≤ 7)) → vv_X8_tells x1 x2 x3 m (fun r' m' => -2 = r' ∧ Rel m' c nt) := fun z => by
    unfold vv_X8_tells
    refine h_isSheetM (fun s hs e => ⟨fun q => absurd q (by decide), fun _ => h_isOne hp.1 h8 (fun i hi e' => ⟨fun q => absurd q (by decide), fun _ => h_in (l := 0) (h := 7) rfl rfl ?_⟩) (fun _ => ⟨fun _ => ⟨rfl, h'⟩, fun q => absurd rfl q⟩)⟩) (fun _ => ⟨fun _ => ⟨rfl, h'⟩, fun q => absurd rfl q⟩)
    rw [if_neg (fun q => z.elim (fun y => y ⟨s, hs, e⟩) (fun y => y.elim (fun y => y ⟨i, hi, e'⟩) (fun y => y q)))]
    exact ⟨fun q => absurd rfl q, fun _ => ⟨rfl, h'⟩⟩
  unfold vv_X7_tells
  refine h_isSheetC (fun s hs e => ⟨fun q => absurd q (by decide), fun _ => h_isPaper hp.2.1 h8 (fun i hi e' => ⟨fun q => absurd q (by decide), fun _ => ⟨fun z => bad (Or.inr (Or.inr (fun q => absurd q.1 (Int32.not_le.mpr z)))), fun z1 => ⟨fun z2 => ?_, fun z => bad (Or.inr (Or.inr (fun q => z q.2)))⟩⟩⟩) (fun no => ⟨fun _ => bad (Or.inr (Or.inl no)), fun q => absurd rfl q⟩)⟩) (fun no => ⟨fun _ => bad (Or.inl no), fun q => absurd rfl q⟩)
  subst e; subst e'
  rw [ss_nI (by omega), pp4 i (by omega)]
  have goM : ∀ {V : Int32 → Sg → Prop}, (m 9 s = 0 → V (-11) m) → (¬ m 9 s = 0 → ¬ m 11 s = 8 → V (-2) m) → (¬ m 9 s = 0 → m 11 s = 8 → ((x3 = 0) → (vv_X8_tells_J66 (nI s) (nI i) x3 m V)) ∧ ((¬ (x3 = 0)) → (((¬ x3 = (7 : Int32)) → (((¬ x3 = (1 : Int32)) → ((((4 : Int32) ≤ x3) → (((¬ x3 = (6 : Int32)) → (vv_X8_tells_J116 (nI s) (nI i) x3 (5 : Int32) m V)) ∧ ((x3 = (6 : Int32)) → (vv_X8_tells_J116 (nI s) (nI i) x3 (8 : Int32) m V)))) ∧ ((¬ ((4 : Int32) ≤ x3)) → (vv_X8_tells_J116 (nI s) (nI i) x3 x3 m V)))) ∧ ((x3 = (1 : Int32)) → (vv_X8_tells_J116 (nI s) (nI i) x3 (7 : Int32) m V)))) ∧ ((x3 = (7 : Int32)) → (vv_X8_tells_J66 (nI s) (nI i) x3 m V))))) → vv_X8_tells (nI s) (nI i) x3 m V := fun g1 g2 g3 => by
    unfold vv_X8_tells
    refine h_isSheetM (fun s' hs' e => ⟨fun q => absurd q (by decide), fun _ => h_isOne hp.1 h8 (fun i' hi' e' => ⟨fun q => absurd q (by decide), fun _ => h_in (l := 0) (h := 7) rfl rfl ?_⟩) (fun no => absurd ⟨i, hi, rfl⟩ no)⟩) (fun no => absurd ⟨s, hs, rfl⟩ no)
    rw [if_pos ⟨Int32.not_lt.mp z1, z2⟩, nI_clamp (n := s) (by omega)]
    exact ⟨fun _ => ⟨vp_in_nI hs (by decide), fun q => ⟨vp_in_nI hs (by decide), fun q8 => g3 q q8, fun q8 => g2 q q8⟩, fun q => g1 q⟩, fun q => absurd q (by decide)⟩
  refine ⟨vp_in_nI hs (by decide), fun q0 => ⟨fun q8 => ⟨vp_in_nI (by omega) (by decide), ?_⟩, fun q8 => ?_⟩, fun q0 => ?_⟩
  · rcases hsh s hs with ⟨s1, s2⟩ | ⟨s1, s2, s3, z, s4, s5, s6, s7⟩
    · exact absurd s2 q0
    have ez : z = 8 := (nI_eq (b := 8) (by omega) (by decide)).mp (s6.symm.trans q8)
    subst ez
    have n1 : ∀ {X : Prop}, m 9 s = 0 → X := fun {X} q => absurd (s1.symm.trans q) (by decide)
    have n2 : ∀ {X : Prop}, ¬ m 11 s = 8 → X := fun {X} q => absurd s5 q
    have hit : ∀ k, k < 8 → itM m s k = c (18 + s) k := s7
    have hf : ∀ j, j < 6 → c (26 + i) j = pvM m i j := (hp.2.2.2 i hi).1
    have hb := hp.burnt hi
    have hRM := hM.2.2.2.2.2
    have hRC : RuC nt c 1 co := hC.2.2.2.2.2.2
    have hP := isP_now (i := i) (by omega)
    have hday : c 1 0 = m 0 7 := hd.1.symm
    obtain ⟨w, hw, rfl⟩ := nI_of2 (n := 7) (M := 7) (by decide) z1 z2
    rcases (show w = 0 ∨ w = 1 ∨ w = 2 ∨ w = 3 ∨ w = 4 ∨ w = 5 ∨ w = 6 ∨ w = 7 by omega) with rfl | rfl | rfl | rfl | rfl | rfl | rfl | rfl
    · refine ⟨fun _ => ?_, fun q => absurd q (by decide), fun q => absurd q (by decide), fun q => absurd q (by decide), fun q => absurd q (by decide), fun q => absurd q (by decide), fun q => absurd q (by decide), fun q _ _ _ _ _ _ => absurd rfl q⟩
      obtain ⟨r, a1, a2, a3, a4⟩ := hRC
      rw [a2]
      refine h_textOf a1 a3 ⟨a3, h_firC hs hP a3 a4 q8 (fun c' F => goM n1 (fun _ => n2) (fun _ _ => ⟨fun _ => ?_, fun q => absurd rfl q⟩))⟩
      unfold vv_X8_tells_J66
      refine ⟨fun q => absurd rfl q, fun _ => h_firM hs (by omega) hRM (fun m' G => ⟨?_, h'.frame G.Q F.K⟩)⟩
      rw [hday]
      exact fo8_congr (fun k hk => ⟨(hit k hk).symm, vtS_congr hf _ _ _⟩)
    · refine ⟨fun q => absurd q (by decide), fun _ => ?_, fun q => absurd q (by decide), fun q => absurd q (by decide), fun q => absurd q (by decide), fun q => absurd q (by decide), fun q => absurd q (by decide), fun _ q _ _ _ _ _ => absurd rfl q⟩
      refine h_gbtC (f := pvM m i) (fld := 0) (wh := 7) (n := 6) (low := 0) (top := 5) (co := co) (fo := (fun j => fo8 (itM m s) (vvS (upF (pvM m i) 0 (0 + nI j)) (m 0 7) co))) hs hRC q8 (by decide) (by decide +kernel) (by decide +kernel) (by decide) (fun v g R hR => put7 hR) (by decide +kernel) (by decide +kernel) (fun j => by rw [hday]; exact fo8_congr (fun k hk => ⟨hit k hk, rfl⟩)) hP (by omega) hf (fun c' F => goM n1 (fun _ => n2) (fun _ _ => ⟨fun q => absurd q (by decide), fun _ => ⟨fun _ => ⟨fun q => absurd rfl q, fun _ => ?_⟩, fun q => absurd q (by decide)⟩⟩))
      exact h_J116w (w := 7) (kc := 4) (jc := i) (n := 6) (fld := 0) (low := 0) hs hp.1 h8 hi hRM hb (by decide) (by simp [tdS, pvM]) (by decide) (fun v j _ => pv_up4 m v j) (fun v g R hR => lays7 (by omega) hR) (by decide) (by decide +kernel) (by decide +kernel) (fun g G => ⟨tl_o (by decide) (by decide), h'.frame G.Q F.K⟩)
    · refine ⟨fun q => absurd q (by decide), fun q => absurd q (by decide), fun _ => ?_, fun q => absurd q (by decide), fun q => absurd q (by decide), fun q => absurd q (by decide), fun q => absurd q (by decide), fun _ _ q _ _ _ _ => absurd rfl q⟩
      refine h_gbtC (f := pvM m i) (fld := 1) (wh := 2) (n := 10) (low := 0) (top := 9) (co := co) (fo := (fun j => fo8 (itM m s) (vvS (upF (pvM m i) 1 (0 + nI j)) (m 0 7) co))) hs hRC q8 (by decide) (by decide +kernel) (by decide +kernel) (by decide) (fun v g R hR => h_putC (Or.inl rfl) (by decide) (by decide) hR) (by decide +kernel) (by decide +kernel) (fun j => by rw [hday]; exact fo8_congr (fun k hk => ⟨hit k hk, rfl⟩)) hP (by omega) hf (fun c' F => goM n1 (fun _ => n2) (fun _ _ => ⟨fun q => absurd q (by decide), fun _ => ⟨fun _ => ⟨fun _ => ⟨fun q => absurd q (by decide), fun _ => ?_⟩, fun q => absurd q (by decide)⟩, fun q => absurd q (by decide)⟩⟩))
      exact h_J116w (w := 2) (kc := 5) (jc := 5 * i + 0) (n := 10) (fld := 1) (low := 0) hs hp.1 h8 hi hRM hb (by decide) (by simp [tdS, pvM]) (by decide) (fun v j hj => pv_up5 m v (by decide) j hj) (fun v g R hR => h_lays5 (by decide) (by decide) (by omega) hR) (by decide) (by decide +kernel) (by decide +kernel) (fun g G => ⟨tl_o (by decide) (by decide), h'.frame G.Q F.K⟩)
    · refine ⟨fun q => absurd q (by decide), fun q => absurd q (by decide), fun q => absurd q (by decide), fun _ => ?_, fun q => absurd q (by decide), fun q => absurd q (by decide), fun q => absurd q (by decide), fun _ _ _ q _ _ _ => absurd rfl q⟩
      refine h_gbtC (f := pvM m i) (fld := 2) (wh := 3) (n := 19) (low := (-9)) (top := 9) (co := co) (fo := (fun j => fo8 (itM m s) (vvS (upF (pvM m i) 2 ((-9) + nI j)) (m 0 7) co))) hs hRC q8 (by decide) (by decide +kernel) (by decide +kernel) (by decide) (fun v g R hR => h_putC (Or.inl rfl) (by decide) (by decide) hR) (by decide +kernel) (by decide +kernel) (fun j => by rw [hday]; exact fo8_congr (fun k hk => ⟨hit k hk, rfl⟩)) hP (by omega) hf (fun c' F => goM n1 (fun _ => n2) (fun _ _ => ⟨fun q => absurd q (by decide), fun _ => ⟨fun _ => ⟨fun _ => ⟨fun q => absurd q (by decide), fun _ => ?_⟩, fun q => absurd q (by decide)⟩, fun q => absurd q (by decide)⟩⟩))
      exact h_J116w (w := 3) (kc := 5) (jc := 5 * i + 1) (n := 19) (fld := 2) (low := (-9)) hs hp.1 h8 hi hRM hb (by decide) (by simp [tdS, pvM]) (by decide) (fun v j hj => pv_up5 m v (by decide) j hj) (fun v g R hR => h_lays5 (by decide) (by decide) (by omega) hR) (by decide) (by decide +kernel) (by decide +kernel) (fun g G => ⟨tl_o (by decide) (by decide), h'.frame G.Q F.K⟩)
    · refine ⟨fun q => absurd q (by decide), fun q => absurd q (by decide), fun q => absurd q (by decide), fun q => absurd q (by decide), fun _ => ?_, fun q => absurd q (by decide), fun q => absurd q (by decide), fun _ _ _ _ q _ _ => absurd rfl q⟩
      refine h_gcrC (f := pvM m i) (co := co) (fo := (fun j => fo8 (itM m s) (vvS (upF (pvM m i) 4 (0 + nI j)) (m 0 7) co))) hs hRC q8 (fun j => by rw [hday]; exact fo8_congr (fun k hk => ⟨hit k hk, rfl⟩)) hP (by omega) hf (fun c' F => goM n1 (fun _ => n2) (fun _ _ => ⟨fun q => absurd q (by decide), fun _ => ⟨fun _ => ⟨fun _ => ⟨fun _ => ⟨fun _ => ?_, fun q => absurd q (by decide)⟩, fun q => absurd (by decide) q⟩, fun q => absurd q (by decide)⟩, fun q => absurd q (by decide)⟩⟩))
      exact h_J116w (w := 5) (kc := 5) (jc := 5 * i + 3) (n := 100) (fld := 4) (low := 0) hs hp.1 h8 hi hRM hb (by decide) (by simp [tdS, pvM]) (by decide) (fun v j hj => pv_up5 m v (by decide) j hj) (fun v g R hR => h_lays5 (by decide) (by decide) (by omega) hR) (by decide) (by decide +kernel) (fun j hj => by rw [Int32.zero_add]; exact nI_pos (by omega)) (fun g G => ⟨by unfold tlS; rw [if_pos rfl, if_pos (show nI 4 = 4 from rfl)], h'.frame G.Q F.K⟩)
    · refine ⟨fun q => absurd q (by decide), fun q => absurd q (by decide), fun q => absurd q (by decide), fun q => absurd q (by decide), fun q => absurd q (by decide), fun _ => ?_, fun q => absurd q (by decide), fun _ _ _ _ _ q _ => absurd rfl q⟩
      refine h_gcrC (f := pvM m i) (co := co) (fo := (fun j => fo8 (itM m s) (vvS (upF (pvM m i) 4 (0 + nI j)) (m 0 7) co))) hs hRC q8 (fun j => by rw [hday]; exact fo8_congr (fun k hk => ⟨hit k hk, rfl⟩)) hP (by omega) hf (fun c' F => goM n1 (fun _ => n2) (fun _ _ => ⟨fun q => absurd q (by decide), fun _ => ⟨fun _ => ⟨fun _ => ⟨fun _ => ⟨fun _ => ?_, fun q => absurd q (by decide)⟩, fun q => absurd (by decide) q⟩, fun q => absurd q (by decide)⟩, fun q => absurd q (by decide)⟩⟩))
      exact h_J116w (w := 5) (kc := 5) (jc := 5 * i + 3) (n := 100) (fld := 4) (low := 0) hs hp.1 h8 hi hRM hb (by decide) (by simp [tdS, pvM]) (by decide) (fun v j hj => pv_up5 m v (by decide) j hj) (fun v g R hR => h_lays5 (by decide) (by decide) (by omega) hR) (by decide) (by decide +kernel) (fun j hj => by rw [Int32.zero_add]; exact nI_pos (by omega)) (fun g G => ⟨by unfold tlS; rw [if_neg (by decide), if_neg (by decide), if_pos (show nI 5 = 5 from rfl)], h'.frame G.Q F.K⟩)
    · refine ⟨fun q => absurd q (by decide), fun q => absurd q (by decide), fun q => absurd q (by decide), fun q => absurd q (by decide), fun q => absurd q (by decide), fun q => absurd q (by decide), fun _ => ?_, fun _ _ _ _ _ _ q => absurd rfl q⟩
      have h6 := ht.2.2.2.1
      obtain ⟨cs, hcs⟩ := Classical.skolem.mp (show ∀ t : Nat, ∃ cods : Nat → List Int32, t < nt → (∃ (b : By) (n q : Nat), TxM m b n t ∧ pRead b n = (q, some (cods 0, cods 1, cods 2))) ∧ CodC c (50 + 3 * t) cods from fun t => by
        by_cases q : t < nt
        · obtain ⟨b, n, q', cods, x1, x2, x3⟩ := ht.2.2.2.2.2 t q
          exact ⟨cods, fun _ => ⟨⟨b, n, q', x1, x2⟩, x3⟩⟩
        · exact ⟨fun _ => [], fun z => absurd z q⟩)
      have et : ∀ t, t < nt → tx c (nI t) = 50 + 3 * t := fun t q => by
        unfold tx
        rw [nI_clamp (by omega), ht.2.2.2.2.1 t (by omega), if_pos q, nI_clamp (by omega)]
      unfold vv_X7_guessedTexts
      refine ⟨⟨by omega, by omega⟩, hP, fun a ea b eb => ?_⟩
      rw [ea, eb]
      refine ⟨nt + 1, gtxC_L (cs := cs) (fo := fun j => fo8 (itM m s) (vvS (pvM m i) (m 0 7) (cs j))) hs hP q8 h6 ht.2.1 (fun t q => by rw [et t q]; exact ⟨⟨by omega, by omega, by omega⟩, (hcs t q).2⟩) (fun j hj => by rw [hday]; exact fo8_congr (fun k hk => ⟨hit k hk, (vtS_congr hf _ _ _).symm⟩)) (fun c' F => goM n1 (fun _ => n2) (fun _ _ => ⟨fun q => absurd q (by decide), fun _ => ⟨fun _ => ⟨fun _ => ⟨fun _ => ⟨fun q => absurd rfl q, fun _ => ?_⟩, fun q => absurd (by decide) q⟩, fun q => absurd q (by decide)⟩, fun q => absurd q (by decide)⟩⟩)) nt 0 c (by omega) (FrT.rf c)⟩
      unfold vv_X8_tells_J116
      intro u eu
      rw [eu]
      refine ⟨fun q => absurd rfl q, fun _ => ?_⟩
      unfold vv_X8_tells_J139
      intro u eu
      rw [eu]
      refine ⟨fun q => absurd rfl q, fun _ => ?_⟩
      unfold vv_X8_tells_J173
      intro u eu
      rw [eu]
      refine ⟨fun _ => ?_, fun q => absurd q (by decide)⟩
      refine h_J187 (m := m) (kc := 0) (jc := 4) (n := nt) (low := 0) (fo := fun j => fo8 (itM m s) (vvS (pvM m i) (m 0 7) (cs j))) (fun v g R hR => lays8 hR) (fun j hj g1 F1 R hR => ?_) (fun j hj => by rw [Int32.zero_add]; exact nI_pos (by omega)) (by decide) ?_ (FrS.rf m) (fun g G => ⟨tl_o (by decide) (by decide), h'.frame G.Q F.K⟩)
      · obtain ⟨⟨b, n, q', x1, x2⟩, x3⟩ := hcs j hj
        refine firM_tx hs (by omega) ⟨j, b, n, q', by rw [st_on, Int32.zero_add], ?_, x2⟩ F1 hR
        unfold TxM at *
        rw [st_ne (by decide), st_ne (by decide)]; exact x1
      · rw [ht.1]; grind
    · refine ⟨fun q => absurd q (by decide), fun q => absurd q (by decide), fun q => absurd q (by decide), fun q => absurd q (by decide), fun q => absurd q (by decide), fun q => absurd q (by decide), fun q => absurd q (by decide), fun _ _ _ _ _ _ _ => ?_⟩
      unfold vv_X7_guessedPapers
      refine ⟨⟨by omega, by omega⟩, fun a ea b eb => ?_⟩
      rw [ea, eb]
      refine ⟨N' + 1, gppC_L (fo := fun j => fo8 (itM m s) (vvS (P j) D co)) hC hs q8 (fun j hj => fo8_congr (fun k hk => ⟨hit k hk, rfl⟩)) (fun c' F => goM n1 (fun _ => n2) (fun _ _ => ⟨fun q => absurd q (by decide), fun _ => ⟨fun q => absurd rfl q, fun _ => ?_⟩⟩)) N' 0 c (by omega) (FrT.rf c)⟩
      unfold vv_X8_tells_J66
      refine ⟨fun _ => ?_, fun q => absurd q (by decide)⟩
      unfold vv_X8_likeSet
      intro a ea b eb
      rw [ea, eb]
      exact ⟨N' + 1, lkM_L (fo := fun j => fo8 (itM m s) (vvS (P j) D co)) hM hs (fun j hj => rfl) (fun m' G => ⟨rfl, h'.frame G.Q F.K⟩) N' 0 m (by omega) (FrS.rf m)⟩
  · rcases hsh s hs with ⟨s1, s2⟩ | ⟨s1, s2, s3, z, s4, s5, s6, s7⟩
    · exact absurd s2 q0
    refine goM (fun q => absurd (s1.symm.trans q) (by decide)) (fun _ _ => ⟨rfl, h'⟩) (fun _ q => absurd (s6.trans (s5.symm.trans q)) q8)
  · rcases hsh s hs with ⟨s1, s2⟩ | ⟨s1, s2, s3, z, s4, s5, s6, s7⟩
    · exact goM (fun _ => ⟨rfl, h'⟩) (fun q => absurd s1 q) (fun q => absurd s1 q)
    · rw [q0] at s2
      rw [s2] at s3
      exact absurd s3 (by decide)
end
