section
/-! ===== tells() ===== -/
def FrG (c c' : Sg) : Prop := ∀ k, (k < 50 ∨ k % 3 ≠ 1) → k ≠ 7 → c' k = c k
theorem FrG.K {c c' : Sg} (F : FrG c c') : FrK c c' := ⟨fun k x _ y _ _ => F k x y, by rw [F 25 (by omega) (by omega)]⟩
theorem FrT.G {c c' : Sg} (F : FrT c c') : FrG c c' := fun k x _ => F k x
def upF (f : Nat → Int32) (k : Nat) (v : Int32) (j : Nat) : Int32 := if j = k then v else f j
theorem gueC_fir {nt s fld : Nat} {c g : Sg} {f : Nat → Int32} {v : Int32} {co : Nat → List Int32} {Q : Int32 → Sg → Prop} (hs : s < 4) (hR : RuC nt c 1 co) (hz : c (14 + s) 1 = nI 8) (F : FrG c g) (h7 : ∀ j, j < 6 → g 7 j = upF f fld v j) (hQ : ∀ c', FrG c c' → (∀ j, j < 6 → c' 7 j = upF f fld v j) → Q (fo8 (c (18 + s)) (vvS (upF f fld v) (c 1 0) co)) c') : vv_X7_textOf nt (g 1 1) g (fun r g' => isT nt r ∧ vv_X7_firstOtherwise nt (14 + s) 7 r g' Q) := by
  obtain ⟨r, a1, a2, a3, a4⟩ := hR.keep (c' := g) (F 12 (by omega) (by omega)) (by rw [F 1 (by omega) (by omega)]) (fun k hk hk' => F k (by omega) (by omega))
  rw [a2]
  refine h_textOf a1 a3 ⟨a3, h_firC hs (Or.inl rfl) a3 a4 (by rw [F _ (by omega) (by omega)]; exact hz) (fun c' F' => ?_)⟩
  have ev : vvS (g 7) (c 1 0) co = vvS (upF f fld v) (c 1 0) co := funext (fun t => vtS_congr h7 _ _ _)
  rw [F (18 + s) (by omega) (by omega), F 1 (by omega) (by omega), ev]
  exact hQ c' (fun k hk hk' => by rw [F' k hk, F k hk hk']) (fun j hj => by rw [F' 7 (by omega)]; exact h7 j hj)
theorem st7_up {g : Sg} {f : Nat → Int32} {fld : Nat} {v : Int32} (h7 : ∀ i, i < 6 → i ≠ fld → g 7 i = f i) (i : Nat) (hi : i < 6) : st g 7 fld v 7 i = upF f fld v i := by
  rw [st_at]; unfold upF
  by_cases q : i = fld
  · rw [if_pos q, if_pos q]
  · rw [if_neg q, if_neg q]; exact h7 i hi q
theorem gbtC_L {nt s fld wh n : Nat} {c : Sg} {f : Nat → Int32} {low top : Int32} {co : Nat → List Int32} {fo : Nat → Int32} {Q : Int32 → Sg → Prop} (hs : s < 4) (hR : RuC nt c 1 co) (hz : c (14 + s) 1 = nI 8) (hw : wh < 8) (hL : tL wh = low) (hG : tG wh = top) (hn : n ≤ 20) (hput : ∀ v g (R : Sg → Prop), R (st g 7 fld v) → vv_X1_put nt 7 (nI wh) v g R) (hge : ∀ j, j < n → ¬ top < low + nI j) (hout : top < low + nI n) (hfo : ∀ j, fo j = fo8 (c (18 + s)) (vvS (upF f fld (low + nI j)) (c 1 0) co)) (hQ : ∀ c', FrG c c' → Q (orU (bfU fo) n) c') : ∀ d j g, j + d = n → FrG c g → (∀ i, i < 6 → i ≠ fld → g 7 i = f i) → vv_X7_guessedBits_L18 nt Q (d + 1) (14 + s) (nI wh) (orU (bfU fo) j) (low + nI j) g := by
  intro d
  induction d with
  | zero =>
    intro j g hj F h7
    have e : j = n := by omega
    subst e
    unfold vv_X7_guessedBits_L18
    rw [nI_clamp (n := wh) (by omega), hG]
    exact ⟨vp_in_nI hw (by decide), fun _ => hQ g F, fun z => absurd hout z⟩
  | succ d ih =>
    intro j g hj F h7
    unfold vv_X7_guessedBits_L18
    rw [nI_clamp (n := wh) (by omega), hG, hL]
    refine ⟨vp_in_nI hw (by decide), fun z => absurd z (hge j (by omega)), fun _ => hput _ _ _ (gueC_fir (f := f) (fld := fld) (v := low + nI j) hs hR hz (fun k hk hk' => by rw [st_ne hk']; exact F k hk hk') (st7_up h7) (fun g2 F2 k7 => ?_))⟩
    rw [← hfo j]
    unfold vv_X7_guessedBits_J77
    have nx := ih (j + 1) g2 (by omega) F2 (fun i hi q => by rw [k7 i hi]; unfold upF; rw [if_neg q])
    have e1 : low + nI j + 1 = low + nI (j + 1) := by rw [← nI_1]; grind
    have e2 : low + nI j - low = nI j := by grind
    refine ⟨fun z => ?_, fun z => ⟨vp_in_nI hw (by decide), ?_⟩⟩
    · intro a ea
      rw [ea, e1]
      rw [or_f z] at nx; exact nx
    · intro b eb a ea
      rw [eb, ea, e1, e2]
      rw [or_t (by omega) z] at nx; exact nx
theorem h_gbtC {nt s fld wh n Pc : Nat} {c : Sg} {f : Nat → Int32} {low top : Int32} {co : Nat → List Int32} {fo : Nat → Int32} {Q : Int32 → Sg → Prop} (hs : s < 4) (hR : RuC nt c 1 co) (hz : c (14 + s) 1 = nI 8) (hw : wh < 8) (hL : tL wh = low) (hG : tG wh = top) (hn : n ≤ 20) (hput : ∀ v g (R : Sg → Prop), R (st g 7 fld v) → vv_X1_put nt 7 (nI wh) v g R) (hge : ∀ j, j < n → ¬ top < low + nI j) (hout : top < low + nI n) (hfo : ∀ j, fo j = fo8 (c (18 + s)) (vvS (upF f fld (low + nI j)) (c 1 0) co)) (hP : isP Pc) (hne : Pc ≠ 7) (hf : ∀ i, i < 6 → c Pc i = f i) (hQ : ∀ c', FrG c c' → Q (orU (bfU fo) n) c') : vv_X7_guessedBits nt (14 + s) Pc (nI wh) c Q := by
  unfold vv_X7_guessedBits
  refine ⟨⟨by omega, by omega⟩, hP, ?_⟩
  intro a ea
  refine h_pbec (Or.inl rfl) hP (fun e => hne e.symm) (fun g k1 k2 => ⟨vp_in_nI hw (by decide), ?_⟩)
  intro b eb
  rw [ea, eb, nI_clamp (by omega), hL]
  have k := gbtC_L hs hR hz hw hL hG hn hput hge hout hfo hQ n 0 g (by omega) (fun k _ hk => k1 k hk) (fun i hi _ => by rw [k2 i hi]; exact hf i hi)
  rw [show low + nI 0 = low by rw [show nI 0 = 0 from rfl, Int32.add_zero]] at k
  exact ⟨_, k⟩
theorem gcrC_L {nt s : Nat} {c : Sg} {f : Nat → Int32} {x3 : Int32} {co : Nat → List Int32} {fo : Nat → Int32} {Q : Int32 → Sg → Prop} (hs : s < 4) (hR : RuC nt c 1 co) (hz : c (14 + s) 1 = nI 8) (hfo : ∀ j, fo j = fo8 (c (18 + s)) (vvS (upF f 4 (0 + nI j)) (c 1 0) co)) (hQ : ∀ c', FrG c c' → Q (if x3 = 0 then nI (ctB (lkB fo) 100) else leF fo 0 100 0) c') : ∀ d j g, j + d = 100 → FrG c g → (∀ i, i < 6 → i ≠ 4 → g 7 i = f i) → (¬ x3 = 0 → leF fo 0 d j = leF fo 0 100 0) → vv_X7_guessedCrumpled_L18 nt Q (d + 1) (14 + s) x3 (nI (ctB (lkB fo) j)) (0 + nI j) g := by
  have eG : tG (5 : Int32).toNatClampNeg = 99 := by decide
  have h5 : vp_in (5 : Int32) 8 := show vp_in (nI 5) 8 from vp_in_nI (by decide) (by decide)
  intro d
  induction d with
  | zero =>
    intro j g hj F h7 el
    have e : j = 100 := by omega
    subst e
    unfold vv_X7_guessedCrumpled_L18
    rw [eG]
    have fin := hQ g F
    exact ⟨h5, fun _ => ⟨fun q => by rw [if_pos q] at fin; exact fin, fun q => by rw [if_neg q, ← el q] at fin; exact fin⟩, fun z => absurd (by decide) z⟩
  | succ d ih =>
    intro j g hj F h7 el
    unfold vv_X7_guessedCrumpled_L18
    rw [eG]
    refine ⟨h5, fun z => absurd z (by rw [Int32.zero_add]; exact nI_nlt (a := 99) (by omega) (by decide)), fun _ => ?_⟩
    intro g1 e1
    rw [e1]
    refine gueC_fir (f := f) (fld := 4) (v := 0 + nI j) hs hR hz (fun k hk hk' => by rw [st_ne hk']; exact F k hk hk') (st7_up h7) (fun g2 F2 k7 => ?_)
    rw [← hfo j]
    unfold vv_X7_guessedCrumpled_J71
    have en : (0 : Int32) + nI j + 1 = 0 + nI (j + 1) := by rw [← nI_1]; grind
    have h7' : ∀ i, i < 6 → i ≠ 4 → g2 7 i = f i := fun i hi q => by rw [k7 i hi]; unfold upF; rw [if_neg q]
    refine ⟨fun z => ?_, fun z => ⟨fun q => ?_, fun q => ?_⟩⟩
    · intro a ea
      have nx := ih (j + 1) g2 (by omega) F2 h7' (fun q => by have k := el q; rw [leF, lk_f z] at k; exact k)
      rw [ctB, lk_f z] at nx
      rw [ea, en]
      exact nx
    · intro b eb a ea
      have nx := ih (j + 1) g2 (by omega) F2 h7' (fun q' => absurd q q')
      rw [ctB, lk_t z, if_pos rfl] at nx
      rw [eb, ea, en, nI_1]
      exact nx
    · have k := el q
      rw [leF, lk_t z, if_pos rfl] at k
      have fin := hQ g2 F2
      rw [if_neg q, ← k] at fin
      exact fin
theorem h_gcrC {nt s Pc : Nat} {c : Sg} {f : Nat → Int32} {x3 : Int32} {co : Nat → List Int32} {fo : Nat → Int32} {Q : Int32 → Sg → Prop} (hs : s < 4) (hR : RuC nt c 1 co) (hz : c (14 + s) 1 = nI 8) (hfo : ∀ j, fo j = fo8 (c (18 + s)) (vvS (upF f 4 (0 + nI j)) (c 1 0) co)) (hP : isP Pc) (hne : Pc ≠ 7) (hf : ∀ i, i < 6 → c Pc i = f i) (hQ : ∀ c', FrG c c' → Q (if x3 = 0 then nI (ctB (lkB fo) 100) else leF fo 0 100 0) c') : vv_X7_guessedCrumpled nt (14 + s) Pc x3 c Q := by
  unfold vv_X7_guessedCrumpled
  refine ⟨⟨by omega, by omega⟩, hP, ?_⟩
  intro a ea
  refine h_pbec (Or.inl rfl) hP (fun e => hne e.symm) (fun g k1 k2 => ⟨show vp_in (nI 5) 8 from vp_in_nI (by decide) (by decide), ?_⟩)
  intro b eb
  rw [ea, eb, show tL (5 : Int32).toNatClampNeg = 0 + nI 0 by decide]
  exact ⟨_, gcrC_L hs hR hz hfo hQ 100 0 g (by omega) (fun k _ hk => k1 k hk) (fun i hi _ => by rw [k2 i hi]; exact hf i hi) (fun _ => rfl)⟩
theorem gtxC_L {nt s Pc : Nat} {c : Sg} {cs : Nat → Nat → List Int32} {fo : Nat → Int32} {Q : Int32 → Sg → Prop} (hs : s < 4) (hP : isP Pc) (hz : c (14 + s) 1 = nI 8) (h6 : nt ≤ 6) (h08 : c 0 8 = nI nt) (hT : ∀ i, i < nt → isT nt (tx c (nI i)) ∧ CodC c (tx c (nI i)) (cs i)) (hfo : ∀ j, j < nt → fo j = fo8 (c (18 + s)) (vvS (c Pc) (c 1 0) (cs j))) (hQ : ∀ c', FrT c c' → Q (orU (bfU fo) nt) c') : ∀ d i g, i + d = nt → FrT c g → vv_X7_guessedTexts_L5 nt Q (d + 1) (14 + s) Pc (orU (bfU fo) i) (nI i) g := by
  intro d
  induction d with
  | zero =>
    intro i g hi F
    have e : i = nt := by omega
    subst e
    unfold vv_X7_guessedTexts_L5
    rw [F 0 (by omega), h08]
    exact ⟨fun _ => hQ g F, fun z => absurd (Int32.le_refl _) z⟩
  | succ d ih =>
    intro i g hi F
    unfold vv_X7_guessedTexts_L5
    rw [F 0 (by omega), h08]
    obtain ⟨t1, t2⟩ := hT i (by omega)
    have et := tx_keep (c := c) (c' := g) (F 12 (by omega)) (nI i)
    refine ⟨fun z => absurd z (nI_ge (by omega) (by omega)), fun _ => h_textOf (by omega) (by rw [et]; exact t1) ⟨by rw [et]; exact t1, ?_⟩⟩
    rw [et]
    refine h_firC hs hP t1 (F.Cod t1 t2) (by rw [F _ (by omega)]; exact hz) (fun g2 F2 => ?_)
    rw [F (18 + s) (by omega), F.P hP, F 1 (by omega), ← hfo i (by omega)]
    unfold vv_X7_guessedTexts_J37
    have nx := ih (i + 1) g2 (by omega) (F.tr F2)
    refine ⟨fun z => ?_, fun z => ?_⟩
    · intro a ea
      rw [ea, nI_1]
      rw [or_f z] at nx; exact nx
    · intro b eb a ea
      rw [eb, ea, nI_1]
      rw [or_t (by omega) z] at nx; exact nx
theorem gppC_L {nt s N : Nat} {c : Sg} {P : Nat → Nat → Int32} {D E : Int32} {co : Nat → List Int32} {fo : Nat → Int32} {Q : Int32 → Sg → Prop} (h : BkC nt c 1 N P D E co) (hs : s < 4) (hz : c (14 + s) 1 = nI 8) (hfo : ∀ j, j < N → fo j = fo8 (c (18 + s)) (vvS (P j) D co)) (hQ : ∀ c', FrT c c' → Q (orU (bfU fo) N) c') : ∀ d i g, i + d = N → FrT c g → vv_X7_guessedPapers_L4 nt Q (d + 1) (14 + s) (orU (bfU fo) i) (nI i) g := by
  intro d
  have h8 := h.2.2.1
  induction d with
  | zero =>
    intro i g hi F
    have e : i = N := by omega
    subst e
    unfold vv_X7_guessedPapers_L4
    rw [show g 1 2 = nI i from (h.keep F.V).2.1]
    exact ⟨fun _ => hQ g F, fun z => absurd (Int32.le_refl _) z⟩
  | succ d ih =>
    intro i g hi F
    unfold vv_X7_guessedPapers_L4
    have kl := h.keep F.V
    rw [show g 1 2 = nI N from kl.2.1, pp4 i (by omega)]
    refine ⟨fun z => absurd z (nI_ge (by omega) (by omega)), fun _ => ⟨vp_in_nI (by omega) (by decide), ?_⟩⟩
    obtain ⟨r, a1, a2, a3, a4⟩ := kl.2.2.2.2.2.2
    rw [a2]
    refine h_textOf a1 a3 ⟨a3, h_firC hs (isP_now (by omega)) a3 a4 (by rw [F _ (by omega)]; exact hz) (fun g2 F2 => ?_)⟩
    have e : ∀ j, j < 6 → g (26 + i) j = P i j := (kl.2.2.2.1 i (by omega)).1
    rw [F (18 + s) (by omega), show g 1 0 = D from kl.2.2.2.2.1, show vvS (g (26 + i)) D co = vvS (P i) D co from funext (fun t => vtS_congr e _ _ _), ← hfo i (by omega)]
    unfold vv_X7_guessedPapers_J50
    have nx := ih (i + 1) g2 (by omega) (F.tr F2)
    refine ⟨fun z => ?_, fun z => ?_⟩
    · intro a ea
      rw [ea, nI_1]
      rw [or_f z] at nx; exact nx
    · intro b eb a ea
      rw [eb, ea, nI_1]
      rw [or_t (by omega) z] at nx; exact nx
theorem lkM_L {m : Sg} {N s : Nat} {P : Nat → Nat → Int32} {D E : Int32} {co : Nat → List Int32} {fo : Nat → Int32} {Q : Int32 → Sg → Prop} (h : BkM m N P D E co) (hs : s < 4) (hfo : ∀ j, j < N → fo j = fo8 (itM m s) (vvS (P j) D co)) (hQ : ∀ m', FrS m m' → Q (orU (bfU fo) N) m') : ∀ d i g, i + d = N → FrS m g → vv_X8_likeSet_L4 Q (d + 1) (nI s) (orU (bfU fo) i) (nI i) g := by
  intro d
  have h8 := h.2.1
  induction d with
  | zero =>
    intro i g hi F
    have e : i = N := by omega
    subst e
    unfold vv_X8_likeSet_L4
    rw [show g 0 11 = nI i from (h.keep F.Q).1]
    exact ⟨fun _ => hQ g F, fun z => absurd (Int32.le_refl _) z⟩
  | succ d ih =>
    intro i g hi F
    unfold vv_X8_likeSet_L4
    have kl := h.keep F.Q
    rw [show g 0 11 = nI N from kl.1]
    refine ⟨fun z => absurd z (nI_ge (by omega) (by omega)), fun _ => h_firM hs (by omega) kl.2.2.2.2.2 (fun g2 F2 => ?_)⟩
    have e : ∀ j, j < 6 → pvM g i j = P i j := (kl.2.2.1 i (by omega)).1
    have ei : itM g s = itM m s := funext (fun t => by unfold itM; rw [F.1 12 (by decide)])
    rw [ei, show g 0 7 = D from kl.2.2.2.1, show vvS (pvM g i) D co = vvS (P i) D co from funext (fun t => vtS_congr e _ _ _), ← hfo i (by omega)]
    unfold vv_X8_likeSet_J28
    have nx := ih (i + 1) g2 (by omega) (F.tr F2)
    refine ⟨fun z => ?_, fun z => ?_⟩
    · intro b eb a ea
      rw [eb, ea, nI_1, b_0 i (by omega), b_or0]
      rw [or_f z] at nx; exact nx
    · intro b eb a ea
      rw [eb, ea, nI_1]
      rw [or_t (by omega) z] at nx; exact nx
end
