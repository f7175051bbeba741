/-! ===== told() ===== -/
def tdS (pf : Nat → Int32) (day need : Int32) (cods : Nat → List Int32) (w : Nat) : Int32 :=
  if w = 0 then day else if w = 1 then need else if w < 7 then pf (w - 1) else if w = 7 then pf 0 else if w = 8 then wgS pf day cods else if w = 9 then smS pf day cods else if w < 18 then flS pf (nI (w - 10)) day cods else if w < 20 then -1000 else if w < 28 then (if pf 5 = 1 then 0 else vtS pf (nI (w - 20)) day cods) else -1000
theorem ixw (i w : Nat) (h : 2 ≤ w) : (5 : Int32) * nI i + nI w - 2 = nI (5 * i + (w - 2)) := by
  rw [ix5, nI_add, show (2 : Int32) = nI 2 from rfl, pk_sub (by omega)]
  congr 1
  omega
theorem tdC_0 {nt N i : Nat} {c : Sg} {cods : Nat → List Int32} {Q : Int32 → Sg → Prop} (hN : c 1 2 = nI N) (h8 : N ≤ 8) (hi : i < N) (hR : RuC nt c 1 cods) (hQ : ∀ c', FrT c c' → Q (tdS (c (26 + i)) (c 1 0) (c 1 3) cods 0) c') : vv_X7_told nt (nI i) 0 c Q := by
  unfold vv_X7_told
  exact ⟨fun z => absurd rfl z, fun _ => hQ c (FrT.rf c)⟩
theorem tdC_1 {nt N i : Nat} {c : Sg} {cods : Nat → List Int32} {Q : Int32 → Sg → Prop} (hN : c 1 2 = nI N) (h8 : N ≤ 8) (hi : i < N) (hR : RuC nt c 1 cods) (hQ : ∀ c', FrT c c' → Q (tdS (c (26 + i)) (c 1 0) (c 1 3) cods 1) c') : vv_X7_told nt (nI i) 1 c Q := by
  unfold vv_X7_told
  exact ⟨fun _ => ⟨fun z => absurd rfl z, fun _ => hQ c (FrT.rf c)⟩, fun z => absurd z (by decide)⟩
theorem tdC_2 {nt N i : Nat} {c : Sg} {cods : Nat → List Int32} {Q : Int32 → Sg → Prop} (hN : c 1 2 = nI N) (h8 : N ≤ 8) (hi : i < N) (hR : RuC nt c 1 cods) (hQ : ∀ c', FrT c c' → Q (tdS (c (26 + i)) (c 1 0) (c 1 3) cods 2) c') : vv_X7_told nt (nI i) 2 c Q := by
  unfold vv_X7_told
  refine ⟨fun _ => ⟨fun _ => h_isPaper hN h8 (fun j hj e => ⟨fun _ => ⟨vp_in_nI (by omega) (by decide), ?_⟩, fun z => absurd z (by decide)⟩) (fun hn => absurd ⟨i, hi, rfl⟩ hn), fun z => absurd z (by decide)⟩, fun z => absurd z (by decide)⟩
  rw [pp4 i (by omega)]
  have hP : isP (26 + i) := isP_now (by omega)
  unfold vv_X1_get
  exact ⟨fun z => absurd z (by decide), fun _ => ⟨fun z => absurd z (by decide), fun _ => ⟨hP, fun _ => hQ c (FrT.rf c), fun z => absurd z (by decide), fun z => absurd z (by decide), fun z => absurd z (by decide), fun z => absurd z (by decide), fun z2 z3 z4 z5 z6 => absurd rfl z2⟩⟩⟩
theorem tdC_3 {nt N i : Nat} {c : Sg} {cods : Nat → List Int32} {Q : Int32 → Sg → Prop} (hN : c 1 2 = nI N) (h8 : N ≤ 8) (hi : i < N) (hR : RuC nt c 1 cods) (hQ : ∀ c', FrT c c' → Q (tdS (c (26 + i)) (c 1 0) (c 1 3) cods 3) c') : vv_X7_told nt (nI i) 3 c Q := by
  unfold vv_X7_told
  refine ⟨fun _ => ⟨fun _ => h_isPaper hN h8 (fun j hj e => ⟨fun _ => ⟨vp_in_nI (by omega) (by decide), ?_⟩, fun z => absurd z (by decide)⟩) (fun hn => absurd ⟨i, hi, rfl⟩ hn), fun z => absurd z (by decide)⟩, fun z => absurd z (by decide)⟩
  rw [pp4 i (by omega)]
  have hP : isP (26 + i) := isP_now (by omega)
  unfold vv_X1_get
  exact ⟨fun z => absurd z (by decide), fun _ => ⟨fun z => absurd z (by decide), fun _ => ⟨hP, fun z => absurd z (by decide), fun _ => hQ c (FrT.rf c), fun z => absurd z (by decide), fun z => absurd z (by decide), fun z => absurd z (by decide), fun z2 z3 z4 z5 z6 => absurd rfl z3⟩⟩⟩
theorem tdC_4 {nt N i : Nat} {c : Sg} {cods : Nat → List Int32} {Q : Int32 → Sg → Prop} (hN : c 1 2 = nI N) (h8 : N ≤ 8) (hi : i < N) (hR : RuC nt c 1 cods) (hQ : ∀ c', FrT c c' → Q (tdS (c (26 + i)) (c 1 0) (c 1 3) cods 4) c') : vv_X7_told nt (nI i) 4 c Q := by
  unfold vv_X7_told
  refine ⟨fun _ => ⟨fun _ => h_isPaper hN h8 (fun j hj e => ⟨fun _ => ⟨vp_in_nI (by omega) (by decide), ?_⟩, fun z => absurd z (by decide)⟩) (fun hn => absurd ⟨i, hi, rfl⟩ hn), fun z => absurd z (by decide)⟩, fun z => absurd z (by decide)⟩
  rw [pp4 i (by omega)]
  have hP : isP (26 + i) := isP_now (by omega)
  unfold vv_X1_get
  exact ⟨fun z => absurd z (by decide), fun _ => ⟨fun z => absurd z (by decide), fun _ => ⟨hP, fun z => absurd z (by decide), fun z => absurd z (by decide), fun _ => hQ c (FrT.rf c), fun z => absurd z (by decide), fun z => absurd z (by decide), fun z2 z3 z4 z5 z6 => absurd rfl z4⟩⟩⟩
theorem tdC_5 {nt N i : Nat} {c : Sg} {cods : Nat → List Int32} {Q : Int32 → Sg → Prop} (hN : c 1 2 = nI N) (h8 : N ≤ 8) (hi : i < N) (hR : RuC nt c 1 cods) (hQ : ∀ c', FrT c c' → Q (tdS (c (26 + i)) (c 1 0) (c 1 3) cods 5) c') : vv_X7_told nt (nI i) 5 c Q := by
  unfold vv_X7_told
  refine ⟨fun _ => ⟨fun _ => h_isPaper hN h8 (fun j hj e => ⟨fun _ => ⟨vp_in_nI (by omega) (by decide), ?_⟩, fun z => absurd z (by decide)⟩) (fun hn => absurd ⟨i, hi, rfl⟩ hn), fun z => absurd z (by decide)⟩, fun z => absurd z (by decide)⟩
  rw [pp4 i (by omega)]
  have hP : isP (26 + i) := isP_now (by omega)
  unfold vv_X1_get
  exact ⟨fun z => absurd z (by decide), fun _ => ⟨fun z => absurd z (by decide), fun _ => ⟨hP, fun z => absurd z (by decide), fun z => absurd z (by decide), fun z => absurd z (by decide), fun _ => hQ c (FrT.rf c), fun z => absurd z (by decide), fun z2 z3 z4 z5 z6 => absurd rfl z5⟩⟩⟩
theorem tdC_6 {nt N i : Nat} {c : Sg} {cods : Nat → List Int32} {Q : Int32 → Sg → Prop} (hN : c 1 2 = nI N) (h8 : N ≤ 8) (hi : i < N) (hR : RuC nt c 1 cods) (hQ : ∀ c', FrT c c' → Q (tdS (c (26 + i)) (c 1 0) (c 1 3) cods 6) c') : vv_X7_told nt (nI i) 6 c Q := by
  unfold vv_X7_told
  refine ⟨fun _ => ⟨fun _ => h_isPaper hN h8 (fun j hj e => ⟨fun _ => ⟨vp_in_nI (by omega) (by decide), ?_⟩, fun z => absurd z (by decide)⟩) (fun hn => absurd ⟨i, hi, rfl⟩ hn), fun z => absurd z (by decide)⟩, fun z => absurd z (by decide)⟩
  rw [pp4 i (by omega)]
  have hP : isP (26 + i) := isP_now (by omega)
  unfold vv_X1_get
  exact ⟨fun z => absurd z (by decide), fun _ => ⟨fun z => absurd z (by decide), fun _ => ⟨hP, fun z => absurd z (by decide), fun z => absurd z (by decide), fun z => absurd z (by decide), fun z => absurd z (by decide), fun _ => hQ c (FrT.rf c), fun z2 z3 z4 z5 z6 => absurd rfl z6⟩⟩⟩
theorem tdC_7 {nt N i : Nat} {c : Sg} {cods : Nat → List Int32} {Q : Int32 → Sg → Prop} (hN : c 1 2 = nI N) (h8 : N ≤ 8) (hi : i < N) (hR : RuC nt c 1 cods) (hQ : ∀ c', FrT c c' → Q (tdS (c (26 + i)) (c 1 0) (c 1 3) cods 7) c') : vv_X7_told nt (nI i) 7 c Q := by
  unfold vv_X7_told
  refine ⟨fun _ => ⟨fun _ => h_isPaper hN h8 (fun j hj e => ⟨fun _ => ⟨vp_in_nI (by omega) (by decide), ?_⟩, fun z => absurd z (by decide)⟩) (fun hn => absurd ⟨i, hi, rfl⟩ hn), fun z => absurd z (by decide)⟩, fun z => absurd z (by decide)⟩
  rw [pp4 i (by omega)]
  have hP : isP (26 + i) := isP_now (by omega)
  unfold vv_X1_get
  exact ⟨fun z => absurd z (by decide), fun _ => ⟨fun z => absurd z (by decide), fun _ => ⟨hP, fun z => absurd z (by decide), fun z => absurd z (by decide), fun z => absurd z (by decide), fun z => absurd z (by decide), fun z => absurd z (by decide), fun _ _ _ _ _ => hQ c (FrT.rf c)⟩⟩⟩
theorem tdC_8 {nt N i : Nat} {c : Sg} {cods : Nat → List Int32} {Q : Int32 → Sg → Prop} (hN : c 1 2 = nI N) (h8 : N ≤ 8) (hi : i < N) (hR : RuC nt c 1 cods) (hQ : ∀ c', FrT c c' → Q (tdS (c (26 + i)) (c 1 0) (c 1 3) cods 8) c') : vv_X7_told nt (nI i) 8 c Q := by
  unfold vv_X7_told
  refine ⟨fun _ => ⟨fun _ => h_isPaper hN h8 (fun j hj e => ⟨fun _ => ⟨vp_in_nI (by omega) (by decide), ?_⟩, fun z => absurd z (by decide)⟩) (fun hn => absurd ⟨i, hi, rfl⟩ hn), fun z => absurd z (by decide)⟩, fun z => absurd z (by decide)⟩
  rw [pp4 i (by omega)]
  have hP : isP (26 + i) := isP_now (by omega)
  refine ⟨fun z => absurd z (by decide), fun _ => ⟨fun _ => ?_, fun z => absurd (by decide) z⟩⟩
  unfold vv_X7_told_J64
  exact ⟨fun z => absurd rfl z, fun _ => h_weightC ⟨by decide, by decide⟩ hP hR hQ⟩
theorem tdC_9 {nt N i : Nat} {c : Sg} {cods : Nat → List Int32} {Q : Int32 → Sg → Prop} (hN : c 1 2 = nI N) (h8 : N ≤ 8) (hi : i < N) (hR : RuC nt c 1 cods) (hQ : ∀ c', FrT c c' → Q (tdS (c (26 + i)) (c 1 0) (c 1 3) cods 9) c') : vv_X7_told nt (nI i) 9 c Q := by
  unfold vv_X7_told
  refine ⟨fun _ => ⟨fun _ => h_isPaper hN h8 (fun j hj e => ⟨fun _ => ⟨vp_in_nI (by omega) (by decide), ?_⟩, fun z => absurd z (by decide)⟩) (fun hn => absurd ⟨i, hi, rfl⟩ hn), fun z => absurd z (by decide)⟩, fun z => absurd z (by decide)⟩
  rw [pp4 i (by omega)]
  have hP : isP (26 + i) := isP_now (by omega)
  refine ⟨fun z => absurd z (by decide), fun _ => ⟨fun _ => ?_, fun z => absurd (by decide) z⟩⟩
  unfold vv_X7_told_J64
  exact ⟨fun _ => ⟨fun z => absurd rfl z, fun _ => h_smoothC ⟨by decide, by decide⟩ hP hR hQ⟩, fun z => absurd z (by decide)⟩
theorem tdC_10 {nt N i : Nat} {c : Sg} {cods : Nat → List Int32} {Q : Int32 → Sg → Prop} (hN : c 1 2 = nI N) (h8 : N ≤ 8) (hi : i < N) (hR : RuC nt c 1 cods) (hQ : ∀ c', FrT c c' → Q (tdS (c (26 + i)) (c 1 0) (c 1 3) cods 10) c') : vv_X7_told nt (nI i) 10 c Q := by
  unfold vv_X7_told
  refine ⟨fun _ => ⟨fun _ => h_isPaper hN h8 (fun j hj e => ⟨fun _ => ⟨vp_in_nI (by omega) (by decide), ?_⟩, fun z => absurd z (by decide)⟩) (fun hn => absurd ⟨i, hi, rfl⟩ hn), fun z => absurd z (by decide)⟩, fun z => absurd z (by decide)⟩
  rw [pp4 i (by omega)]
  have hP : isP (26 + i) := isP_now (by omega)
  refine ⟨fun z => absurd z (by decide), fun _ => ⟨fun _ => ?_, fun z => absurd (by decide) z⟩⟩
  unfold vv_X7_told_J64
  refine ⟨fun _ => ⟨fun _ => ⟨fun z => absurd z (by decide), fun _ => ⟨fun z => absurd z (by decide), fun _ => ?_⟩⟩, fun z => absurd z (by decide)⟩, fun z => absurd z (by decide)⟩
  obtain ⟨r, a1, a2, a3, a4⟩ := hR
  rw [a2]
  exact h_textOf a1 a3 ⟨a3, h_feelingC (t := 10 - 10) a3 hP a4 (by decide) hQ⟩
theorem tdC_11 {nt N i : Nat} {c : Sg} {cods : Nat → List Int32} {Q : Int32 → Sg → Prop} (hN : c 1 2 = nI N) (h8 : N ≤ 8) (hi : i < N) (hR : RuC nt c 1 cods) (hQ : ∀ c', FrT c c' → Q (tdS (c (26 + i)) (c 1 0) (c 1 3) cods 11) c') : vv_X7_told nt (nI i) 11 c Q := by
  unfold vv_X7_told
  refine ⟨fun _ => ⟨fun _ => h_isPaper hN h8 (fun j hj e => ⟨fun _ => ⟨vp_in_nI (by omega) (by decide), ?_⟩, fun z => absurd z (by decide)⟩) (fun hn => absurd ⟨i, hi, rfl⟩ hn), fun z => absurd z (by decide)⟩, fun z => absurd z (by decide)⟩
  rw [pp4 i (by omega)]
  have hP : isP (26 + i) := isP_now (by omega)
  refine ⟨fun z => absurd z (by decide), fun _ => ⟨fun _ => ?_, fun z => absurd (by decide) z⟩⟩
  unfold vv_X7_told_J64
  refine ⟨fun _ => ⟨fun _ => ⟨fun z => absurd z (by decide), fun _ => ⟨fun z => absurd z (by decide), fun _ => ?_⟩⟩, fun z => absurd z (by decide)⟩, fun z => absurd z (by decide)⟩
  obtain ⟨r, a1, a2, a3, a4⟩ := hR
  rw [a2]
  exact h_textOf a1 a3 ⟨a3, h_feelingC (t := 11 - 10) a3 hP a4 (by decide) hQ⟩
theorem tdC_12 {nt N i : Nat} {c : Sg} {cods : Nat → List Int32} {Q : Int32 → Sg → Prop} (hN : c 1 2 = nI N) (h8 : N ≤ 8) (hi : i < N) (hR : RuC nt c 1 cods) (hQ : ∀ c', FrT c c' → Q (tdS (c (26 + i)) (c 1 0) (c 1 3) cods 12) c') : vv_X7_told nt (nI i) 12 c Q := by
  unfold vv_X7_told
  refine ⟨fun _ => ⟨fun _ => h_isPaper hN h8 (fun j hj e => ⟨fun _ => ⟨vp_in_nI (by omega) (by decide), ?_⟩, fun z => absurd z (by decide)⟩) (fun hn => absurd ⟨i, hi, rfl⟩ hn), fun z => absurd z (by decide)⟩, fun z => absurd z (by decide)⟩
  rw [pp4 i (by omega)]
  have hP : isP (26 + i) := isP_now (by omega)
  refine ⟨fun z => absurd z (by decide), fun _ => ⟨fun _ => ?_, fun z => absurd (by decide) z⟩⟩
  unfold vv_X7_told_J64
  refine ⟨fun _ => ⟨fun _ => ⟨fun z => absurd z (by decide), fun _ => ⟨fun z => absurd z (by decide), fun _ => ?_⟩⟩, fun z => absurd z (by decide)⟩, fun z => absurd z (by decide)⟩
  obtain ⟨r, a1, a2, a3, a4⟩ := hR
  rw [a2]
  exact h_textOf a1 a3 ⟨a3, h_feelingC (t := 12 - 10) a3 hP a4 (by decide) hQ⟩
theorem tdC_13 {nt N i : Nat} {c : Sg} {cods : Nat → List Int32} {Q : Int32 → Sg → Prop} (hN : c 1 2 = nI N) (h8 : N ≤ 8) (hi : i < N) (hR : RuC nt c 1 cods) (hQ : ∀ c', FrT c c' → Q (tdS (c (26 + i)) (c 1 0) (c 1 3) cods 13) c') : vv_X7_told nt (nI i) 13 c Q := by
  unfold vv_X7_told
  refine ⟨fun _ => ⟨fun _ => h_isPaper hN h8 (fun j hj e => ⟨fun _ => ⟨vp_in_nI (by omega) (by decide), ?_⟩, fun z => absurd z (by decide)⟩) (fun hn => absurd ⟨i, hi, rfl⟩ hn), fun z => absurd z (by decide)⟩, fun z => absurd z (by decide)⟩
  rw [pp4 i (by omega)]
  have hP : isP (26 + i) := isP_now (by omega)
  refine ⟨fun z => absurd z (by decide), fun _ => ⟨fun _ => ?_, fun z => absurd (by decide) z⟩⟩
  unfold vv_X7_told_J64
  refine ⟨fun _ => ⟨fun _ => ⟨fun z => absurd z (by decide), fun _ => ⟨fun z => absurd z (by decide), fun _ => ?_⟩⟩, fun z => absurd z (by decide)⟩, fun z => absurd z (by decide)⟩
  obtain ⟨r, a1, a2, a3, a4⟩ := hR
  rw [a2]
  exact h_textOf a1 a3 ⟨a3, h_feelingC (t := 13 - 10) a3 hP a4 (by decide) hQ⟩
theorem tdC_14 {nt N i : Nat} {c : Sg} {cods : Nat → List Int32} {Q : Int32 → Sg → Prop} (hN : c 1 2 = nI N) (h8 : N ≤ 8) (hi : i < N) (hR : RuC nt c 1 cods) (hQ : ∀ c', FrT c c' → Q (tdS (c (26 + i)) (c 1 0) (c 1 3) cods 14) c') : vv_X7_told nt (nI i) 14 c Q := by
  unfold vv_X7_told
  refine ⟨fun _ => ⟨fun _ => h_isPaper hN h8 (fun j hj e => ⟨fun _ => ⟨vp_in_nI (by omega) (by decide), ?_⟩, fun z => absurd z (by decide)⟩) (fun hn => absurd ⟨i, hi, rfl⟩ hn), fun z => absurd z (by decide)⟩, fun z => absurd z (by decide)⟩
  rw [pp4 i (by omega)]
  have hP : isP (26 + i) := isP_now (by omega)
  refine ⟨fun z => absurd z (by decide), fun _ => ⟨fun _ => ?_, fun z => absurd (by decide) z⟩⟩
  unfold vv_X7_told_J64
  refine ⟨fun _ => ⟨fun _ => ⟨fun z => absurd z (by decide), fun _ => ⟨fun z => absurd z (by decide), fun _ => ?_⟩⟩, fun z => absurd z (by decide)⟩, fun z => absurd z (by decide)⟩
  obtain ⟨r, a1, a2, a3, a4⟩ := hR
  rw [a2]
  exact h_textOf a1 a3 ⟨a3, h_feelingC (t := 14 - 10) a3 hP a4 (by decide) hQ⟩
theorem tdC_15 {nt N i : Nat} {c : Sg} {cods : Nat → List Int32} {Q : Int32 → Sg → Prop} (hN : c 1 2 = nI N) (h8 : N ≤ 8) (hi : i < N) (hR : RuC nt c 1 cods) (hQ : ∀ c', FrT c c' → Q (tdS (c (26 + i)) (c 1 0) (c 1 3) cods 15) c') : vv_X7_told nt (nI i) 15 c Q := by
  unfold vv_X7_told
  refine ⟨fun _ => ⟨fun _ => h_isPaper hN h8 (fun j hj e => ⟨fun _ => ⟨vp_in_nI (by omega) (by decide), ?_⟩, fun z => absurd z (by decide)⟩) (fun hn => absurd ⟨i, hi, rfl⟩ hn), fun z => absurd z (by decide)⟩, fun z => absurd z (by decide)⟩
  rw [pp4 i (by omega)]
  have hP : isP (26 + i) := isP_now (by omega)
  refine ⟨fun z => absurd z (by decide), fun _ => ⟨fun _ => ?_, fun z => absurd (by decide) z⟩⟩
  unfold vv_X7_told_J64
  refine ⟨fun _ => ⟨fun _ => ⟨fun z => absurd z (by decide), fun _ => ⟨fun z => absurd z (by decide), fun _ => ?_⟩⟩, fun z => absurd z (by decide)⟩, fun z => absurd z (by decide)⟩
  obtain ⟨r, a1, a2, a3, a4⟩ := hR
  rw [a2]
  exact h_textOf a1 a3 ⟨a3, h_feelingC (t := 15 - 10) a3 hP a4 (by decide) hQ⟩
theorem tdC_16 {nt N i : Nat} {c : Sg} {cods : Nat → List Int32} {Q : Int32 → Sg → Prop} (hN : c 1 2 = nI N) (h8 : N ≤ 8) (hi : i < N) (hR : RuC nt c 1 cods) (hQ : ∀ c', FrT c c' → Q (tdS (c (26 + i)) (c 1 0) (c 1 3) cods 16) c') : vv_X7_told nt (nI i) 16 c Q := by
  unfold vv_X7_told
  refine ⟨fun _ => ⟨fun _ => h_isPaper hN h8 (fun j hj e => ⟨fun _ => ⟨vp_in_nI (by omega) (by decide), ?_⟩, fun z => absurd z (by decide)⟩) (fun hn => absurd ⟨i, hi, rfl⟩ hn), fun z => absurd z (by decide)⟩, fun z => absurd z (by decide)⟩
  rw [pp4 i (by omega)]
  have hP : isP (26 + i) := isP_now (by omega)
  refine ⟨fun z => absurd z (by decide), fun _ => ⟨fun _ => ?_, fun z => absurd (by decide) z⟩⟩
  unfold vv_X7_told_J64
  refine ⟨fun _ => ⟨fun _ => ⟨fun z => absurd z (by decide), fun _ => ⟨fun z => absurd z (by decide), fun _ => ?_⟩⟩, fun z => absurd z (by decide)⟩, fun z => absurd z (by decide)⟩
  obtain ⟨r, a1, a2, a3, a4⟩ := hR
  rw [a2]
  exact h_textOf a1 a3 ⟨a3, h_feelingC (t := 16 - 10) a3 hP a4 (by decide) hQ⟩
theorem tdC_17 {nt N i : Nat} {c : Sg} {cods : Nat → List Int32} {Q : Int32 → Sg → Prop} (hN : c 1 2 = nI N) (h8 : N ≤ 8) (hi : i < N) (hR : RuC nt c 1 cods) (hQ : ∀ c', FrT c c' → Q (tdS (c (26 + i)) (c 1 0) (c 1 3) cods 17) c') : vv_X7_told nt (nI i) 17 c Q := by
  unfold vv_X7_told
  refine ⟨fun _ => ⟨fun _ => h_isPaper hN h8 (fun j hj e => ⟨fun _ => ⟨vp_in_nI (by omega) (by decide), ?_⟩, fun z => absurd z (by decide)⟩) (fun hn => absurd ⟨i, hi, rfl⟩ hn), fun z => absurd z (by decide)⟩, fun z => absurd z (by decide)⟩
  rw [pp4 i (by omega)]
  have hP : isP (26 + i) := isP_now (by omega)
  refine ⟨fun z => absurd z (by decide), fun _ => ⟨fun _ => ?_, fun z => absurd (by decide) z⟩⟩
  unfold vv_X7_told_J64
  refine ⟨fun _ => ⟨fun _ => ⟨fun z => absurd z (by decide), fun _ => ⟨fun z => absurd z (by decide), fun _ => ?_⟩⟩, fun z => absurd z (by decide)⟩, fun z => absurd z (by decide)⟩
  obtain ⟨r, a1, a2, a3, a4⟩ := hR
  rw [a2]
  exact h_textOf a1 a3 ⟨a3, h_feelingC (t := 17 - 10) a3 hP a4 (by decide) hQ⟩
theorem tdC_18 {nt N i : Nat} {c : Sg} {cods : Nat → List Int32} {Q : Int32 → Sg → Prop} (hN : c 1 2 = nI N) (h8 : N ≤ 8) (hi : i < N) (hR : RuC nt c 1 cods) (hQ : ∀ c', FrT c c' → Q (tdS (c (26 + i)) (c 1 0) (c 1 3) cods 18) c') : vv_X7_told nt (nI i) 18 c Q := by
  unfold vv_X7_told
  refine ⟨fun _ => ⟨fun _ => h_isPaper hN h8 (fun j hj e => ⟨fun _ => ⟨vp_in_nI (by omega) (by decide), ?_⟩, fun z => absurd z (by decide)⟩) (fun hn => absurd ⟨i, hi, rfl⟩ hn), fun z => absurd z (by decide)⟩, fun z => absurd z (by decide)⟩
  rw [pp4 i (by omega)]
  have hP : isP (26 + i) := isP_now (by omega)
  refine ⟨fun z => absurd z (by decide), fun _ => ⟨fun _ => ?_, fun z => absurd (by decide) z⟩⟩
  unfold vv_X7_told_J64
  refine ⟨fun _ => ⟨fun _ => ⟨fun z => absurd z (by decide), fun _ => ⟨fun _ => ?_, fun z => absurd (by decide) z⟩⟩, fun z => absurd z (by decide)⟩, fun z => absurd z (by decide)⟩
  unfold vv_X7_told_J135
  exact ⟨fun _ => hQ c (FrT.rf c), fun z => absurd (by decide) z⟩
theorem tdC_19 {nt N i : Nat} {c : Sg} {cods : Nat → List Int32} {Q : Int32 → Sg → Prop} (hN : c 1 2 = nI N) (h8 : N ≤ 8) (hi : i < N) (hR : RuC nt c 1 cods) (hQ : ∀ c', FrT c c' → Q (tdS (c (26 + i)) (c 1 0) (c 1 3) cods 19) c') : vv_X7_told nt (nI i) 19 c Q := by
  unfold vv_X7_told
  refine ⟨fun _ => ⟨fun _ => h_isPaper hN h8 (fun j hj e => ⟨fun _ => ⟨vp_in_nI (by omega) (by decide), ?_⟩, fun z => absurd z (by decide)⟩) (fun hn => absurd ⟨i, hi, rfl⟩ hn), fun z => absurd z (by decide)⟩, fun z => absurd z (by decide)⟩
  rw [pp4 i (by omega)]
  have hP : isP (26 + i) := isP_now (by omega)
  refine ⟨fun z => absurd z (by decide), fun _ => ⟨fun _ => ?_, fun z => absurd (by decide) z⟩⟩
  unfold vv_X7_told_J64
  refine ⟨fun _ => ⟨fun _ => ⟨fun z => absurd z (by decide), fun _ => ⟨fun _ => ?_, fun z => absurd (by decide) z⟩⟩, fun z => absurd z (by decide)⟩, fun z => absurd z (by decide)⟩
  unfold vv_X7_told_J135
  exact ⟨fun _ => hQ c (FrT.rf c), fun z => absurd (by decide) z⟩
theorem tdC_20 {nt N i : Nat} {c : Sg} {cods : Nat → List Int32} {Q : Int32 → Sg → Prop} (hN : c 1 2 = nI N) (h8 : N ≤ 8) (hi : i < N) (hR : RuC nt c 1 cods) (hQ : ∀ c', FrT c c' → Q (tdS (c (26 + i)) (c 1 0) (c 1 3) cods 20) c') : vv_X7_told nt (nI i) 20 c Q := by
  unfold vv_X7_told
  refine ⟨fun _ => ⟨fun _ => h_isPaper hN h8 (fun j hj e => ⟨fun _ => ⟨vp_in_nI (by omega) (by decide), ?_⟩, fun z => absurd z (by decide)⟩) (fun hn => absurd ⟨i, hi, rfl⟩ hn), fun z => absurd z (by decide)⟩, fun z => absurd z (by decide)⟩
  rw [pp4 i (by omega)]
  have hP : isP (26 + i) := isP_now (by omega)
  refine ⟨fun z => absurd z (by decide), fun _ => ⟨fun _ => ?_, fun z => absurd (by decide) z⟩⟩
  unfold vv_X7_told_J64
  refine ⟨fun _ => ⟨fun _ => ⟨fun z => absurd z (by decide), fun _ => ⟨fun _ => ?_, fun z => absurd (by decide) z⟩⟩, fun z => absurd z (by decide)⟩, fun z => absurd z (by decide)⟩
  unfold vv_X7_told_J135
  exact ⟨fun z => absurd z (by decide), fun _ => ⟨fun z => absurd z (by decide), fun _ => h_castC (t := 20 - 20) ⟨by decide, by decide⟩ hP hR (by decide) hQ⟩⟩
theorem tdC_21 {nt N i : Nat} {c : Sg} {cods : Nat → List Int32} {Q : Int32 → Sg → Prop} (hN : c 1 2 = nI N) (h8 : N ≤ 8) (hi : i < N) (hR : RuC nt c 1 cods) (hQ : ∀ c', FrT c c' → Q (tdS (c (26 + i)) (c 1 0) (c 1 3) cods 21) c') : vv_X7_told nt (nI i) 21 c Q := by
  unfold vv_X7_told
  refine ⟨fun _ => ⟨fun _ => h_isPaper hN h8 (fun j hj e => ⟨fun _ => ⟨vp_in_nI (by omega) (by decide), ?_⟩, fun z => absurd z (by decide)⟩) (fun hn => absurd ⟨i, hi, rfl⟩ hn), fun z => absurd z (by decide)⟩, fun z => absurd z (by decide)⟩
  rw [pp4 i (by omega)]
  have hP : isP (26 + i) := isP_now (by omega)
  refine ⟨fun z => absurd z (by decide), fun _ => ⟨fun _ => ?_, fun z => absurd (by decide) z⟩⟩
  unfold vv_X7_told_J64
  refine ⟨fun _ => ⟨fun _ => ⟨fun z => absurd z (by decide), fun _ => ⟨fun _ => ?_, fun z => absurd (by decide) z⟩⟩, fun z => absurd z (by decide)⟩, fun z => absurd z (by decide)⟩
  unfold vv_X7_told_J135
  exact ⟨fun z => absurd z (by decide), fun _ => ⟨fun z => absurd z (by decide), fun _ => h_castC (t := 21 - 20) ⟨by decide, by decide⟩ hP hR (by decide) hQ⟩⟩
theorem tdC_22 {nt N i : Nat} {c : Sg} {cods : Nat → List Int32} {Q : Int32 → Sg → Prop} (hN : c 1 2 = nI N) (h8 : N ≤ 8) (hi : i < N) (hR : RuC nt c 1 cods) (hQ : ∀ c', FrT c c' → Q (tdS (c (26 + i)) (c 1 0) (c 1 3) cods 22) c') : vv_X7_told nt (nI i) 22 c Q := by
  unfold vv_X7_told
  refine ⟨fun _ => ⟨fun _ => h_isPaper hN h8 (fun j hj e => ⟨fun _ => ⟨vp_in_nI (by omega) (by decide), ?_⟩, fun z => absurd z (by decide)⟩) (fun hn => absurd ⟨i, hi, rfl⟩ hn), fun z => absurd z (by decide)⟩, fun z => absurd z (by decide)⟩
  rw [pp4 i (by omega)]
  have hP : isP (26 + i) := isP_now (by omega)
  refine ⟨fun z => absurd z (by decide), fun _ => ⟨fun _ => ?_, fun z => absurd (by decide) z⟩⟩
  unfold vv_X7_told_J64
  refine ⟨fun _ => ⟨fun _ => ⟨fun z => absurd z (by decide), fun _ => ⟨fun _ => ?_, fun z => absurd (by decide) z⟩⟩, fun z => absurd z (by decide)⟩, fun z => absurd z (by decide)⟩
  unfold vv_X7_told_J135
  exact ⟨fun z => absurd z (by decide), fun _ => ⟨fun z => absurd z (by decide), fun _ => h_castC (t := 22 - 20) ⟨by decide, by decide⟩ hP hR (by decide) hQ⟩⟩
theorem tdC_23 {nt N i : Nat} {c : Sg} {cods : Nat → List Int32} {Q : Int32 → Sg → Prop} (hN : c 1 2 = nI N) (h8 : N ≤ 8) (hi : i < N) (hR : RuC nt c 1 cods) (hQ : ∀ c', FrT c c' → Q (tdS (c (26 + i)) (c 1 0) (c 1 3) cods 23) c') : vv_X7_told nt (nI i) 23 c Q := by
  unfold vv_X7_told
  refine ⟨fun _ => ⟨fun _ => h_isPaper hN h8 (fun j hj e => ⟨fun _ => ⟨vp_in_nI (by omega) (by decide), ?_⟩, fun z => absurd z (by decide)⟩) (fun hn => absurd ⟨i, hi, rfl⟩ hn), fun z => absurd z (by decide)⟩, fun z => absurd z (by decide)⟩
  rw [pp4 i (by omega)]
  have hP : isP (26 + i) := isP_now (by omega)
  refine ⟨fun z => absurd z (by decide), fun _ => ⟨fun _ => ?_, fun z => absurd (by decide) z⟩⟩
  unfold vv_X7_told_J64
  refine ⟨fun _ => ⟨fun _ => ⟨fun z => absurd z (by decide), fun _ => ⟨fun _ => ?_, fun z => absurd (by decide) z⟩⟩, fun z => absurd z (by decide)⟩, fun z => absurd z (by decide)⟩
  unfold vv_X7_told_J135
  exact ⟨fun z => absurd z (by decide), fun _ => ⟨fun z => absurd z (by decide), fun _ => h_castC (t := 23 - 20) ⟨by decide, by decide⟩ hP hR (by decide) hQ⟩⟩
theorem tdC_24 {nt N i : Nat} {c : Sg} {cods : Nat → List Int32} {Q : Int32 → Sg → Prop} (hN : c 1 2 = nI N) (h8 : N ≤ 8) (hi : i < N) (hR : RuC nt c 1 cods) (hQ : ∀ c', FrT c c' → Q (tdS (c (26 + i)) (c 1 0) (c 1 3) cods 24) c') : vv_X7_told nt (nI i) 24 c Q := by
  unfold vv_X7_told
  refine ⟨fun _ => ⟨fun _ => h_isPaper hN h8 (fun j hj e => ⟨fun _ => ⟨vp_in_nI (by omega) (by decide), ?_⟩, fun z => absurd z (by decide)⟩) (fun hn => absurd ⟨i, hi, rfl⟩ hn), fun z => absurd z (by decide)⟩, fun z => absurd z (by decide)⟩
  rw [pp4 i (by omega)]
  have hP : isP (26 + i) := isP_now (by omega)
  refine ⟨fun z => absurd z (by decide), fun _ => ⟨fun _ => ?_, fun z => absurd (by decide) z⟩⟩
  unfold vv_X7_told_J64
  refine ⟨fun _ => ⟨fun _ => ⟨fun z => absurd z (by decide), fun _ => ⟨fun _ => ?_, fun z => absurd (by decide) z⟩⟩, fun z => absurd z (by decide)⟩, fun z => absurd z (by decide)⟩
  unfold vv_X7_told_J135
  exact ⟨fun z => absurd z (by decide), fun _ => ⟨fun z => absurd z (by decide), fun _ => h_castC (t := 24 - 20) ⟨by decide, by decide⟩ hP hR (by decide) hQ⟩⟩
theorem tdC_25 {nt N i : Nat} {c : Sg} {cods : Nat → List Int32} {Q : Int32 → Sg → Prop} (hN : c 1 2 = nI N) (h8 : N ≤ 8) (hi : i < N) (hR : RuC nt c 1 cods) (hQ : ∀ c', FrT c c' → Q (tdS (c (26 + i)) (c 1 0) (c 1 3) cods 25) c') : vv_X7_told nt (nI i) 25 c Q := by
  unfold vv_X7_told
  refine ⟨fun _ => ⟨fun _ => h_isPaper hN h8 (fun j hj e => ⟨fun _ => ⟨vp_in_nI (by omega) (by decide), ?_⟩, fun z => absurd z (by decide)⟩) (fun hn => absurd ⟨i, hi, rfl⟩ hn), fun z => absurd z (by decide)⟩, fun z => absurd z (by decide)⟩
  rw [pp4 i (by omega)]
  have hP : isP (26 + i) := isP_now (by omega)
  refine ⟨fun z => absurd z (by decide), fun _ => ⟨fun _ => ?_, fun z => absurd (by decide) z⟩⟩
  unfold vv_X7_told_J64
  refine ⟨fun _ => ⟨fun _ => ⟨fun z => absurd z (by decide), fun _ => ⟨fun _ => ?_, fun z => absurd (by decide) z⟩⟩, fun z => absurd z (by decide)⟩, fun z => absurd z (by decide)⟩
  unfold vv_X7_told_J135
  exact ⟨fun z => absurd z (by decide), fun _ => ⟨fun z => absurd z (by decide), fun _ => h_castC (t := 25 - 20) ⟨by decide, by decide⟩ hP hR (by decide) hQ⟩⟩
theorem tdC_26 {nt N i : Nat} {c : Sg} {cods : Nat → List Int32} {Q : Int32 → Sg → Prop} (hN : c 1 2 = nI N) (h8 : N ≤ 8) (hi : i < N) (hR : RuC nt c 1 cods) (hQ : ∀ c', FrT c c' → Q (tdS (c (26 + i)) (c 1 0) (c 1 3) cods 26) c') : vv_X7_told nt (nI i) 26 c Q := by
  unfold vv_X7_told
  refine ⟨fun _ => ⟨fun _ => h_isPaper hN h8 (fun j hj e => ⟨fun _ => ⟨vp_in_nI (by omega) (by decide), ?_⟩, fun z => absurd z (by decide)⟩) (fun hn => absurd ⟨i, hi, rfl⟩ hn), fun z => absurd z (by decide)⟩, fun z => absurd z (by decide)⟩
  rw [pp4 i (by omega)]
  have hP : isP (26 + i) := isP_now (by omega)
  refine ⟨fun z => absurd z (by decide), fun _ => ⟨fun _ => ?_, fun z => absurd (by decide) z⟩⟩
  unfold vv_X7_told_J64
  refine ⟨fun _ => ⟨fun _ => ⟨fun z => absurd z (by decide), fun _ => ⟨fun _ => ?_, fun z => absurd (by decide) z⟩⟩, fun z => absurd z (by decide)⟩, fun z => absurd z (by decide)⟩
  unfold vv_X7_told_J135
  exact ⟨fun z => absurd z (by decide), fun _ => ⟨fun z => absurd z (by decide), fun _ => h_castC (t := 26 - 20) ⟨by decide, by decide⟩ hP hR (by decide) hQ⟩⟩
theorem tdC_27 {nt N i : Nat} {c : Sg} {cods : Nat → List Int32} {Q : Int32 → Sg → Prop} (hN : c 1 2 = nI N) (h8 : N ≤ 8) (hi : i < N) (hR : RuC nt c 1 cods) (hQ : ∀ c', FrT c c' → Q (tdS (c (26 + i)) (c 1 0) (c 1 3) cods 27) c') : vv_X7_told nt (nI i) 27 c Q := by
  unfold vv_X7_told
  refine ⟨fun _ => ⟨fun _ => h_isPaper hN h8 (fun j hj e => ⟨fun _ => ⟨vp_in_nI (by omega) (by decide), ?_⟩, fun z => absurd z (by decide)⟩) (fun hn => absurd ⟨i, hi, rfl⟩ hn), fun z => absurd z (by decide)⟩, fun z => absurd z (by decide)⟩
  rw [pp4 i (by omega)]
  have hP : isP (26 + i) := isP_now (by omega)
  refine ⟨fun z => absurd z (by decide), fun _ => ⟨fun _ => ?_, fun z => absurd (by decide) z⟩⟩
  unfold vv_X7_told_J64
  refine ⟨fun _ => ⟨fun _ => ⟨fun z => absurd z (by decide), fun _ => ⟨fun _ => ?_, fun z => absurd (by decide) z⟩⟩, fun z => absurd z (by decide)⟩, fun z => absurd z (by decide)⟩
  unfold vv_X7_told_J135
  exact ⟨fun z => absurd z (by decide), fun _ => ⟨fun z => absurd z (by decide), fun _ => h_castC (t := 27 - 20) ⟨by decide, by decide⟩ hP hR (by decide) hQ⟩⟩
theorem tdC_out {nt N : Nat} {c : Sg} {x1 x2 : Int32} {Q : Int32 → Sg → Prop} (hN : c 1 2 = nI N) (h8 : N ≤ 8) (hx : x2 < 0 ∨ 28 ≤ x2) (hQ : Q (-1000) c) : vv_X7_told nt x1 x2 c Q := by
  have n : ∀ k : Int32, 0 ≤ k → k < 28 → ¬ x2 = k := fun k k0 k1 e => by
    subst e
    rcases hx with z | z
    · exact absurd k0 (Int32.not_le.mpr z)
    · exact absurd z (Int32.not_le.mpr k1)
  unfold vv_X7_told
  refine ⟨fun _ => ⟨fun _ => h_isPaper hN h8 (fun i hi e => ⟨fun _ => ⟨by rw [e]; exact vp_in_nI (by omega) (by decide), ?_⟩, fun z => absurd z (by decide)⟩) (fun _ => ⟨fun z => absurd rfl z, fun _ => hQ⟩), fun z => absurd z (n 1 (by decide) (by decide))⟩, fun z => absurd z (n 0 (by decide) (by decide))⟩
  have far : vv_X7_told_J135 nt x2 (pp 4 x1) c Q := by
    unfold vv_X7_told_J135
    exact ⟨fun _ => hQ, fun z => ⟨fun _ => hQ, fun y => absurd (hx.resolve_left (fun q => z (Int32.lt_trans q (by decide)))) y⟩⟩
  have j64 : vv_X7_told_J64 nt x2 (pp 4 x1) c Q := by
    unfold vv_X7_told_J64
    refine ⟨fun _ => ⟨fun _ => ⟨fun _ => far, fun z => ⟨fun _ => far, fun y => ?_⟩⟩, fun z => absurd z (n 9 (by decide) (by decide))⟩, fun z => absurd z (n 8 (by decide) (by decide))⟩
    rcases hx with q | q
    · exact absurd (Int32.lt_trans q (by decide)) z
    · exact absurd (Int32.le_trans (by decide) q) y
  refine ⟨fun _ => j64, fun z => ⟨fun _ => j64, fun y => ?_⟩⟩
  rcases hx with q | q
  · exact absurd (Int32.lt_trans q (by decide)) z
  · exact absurd (Int32.lt_of_lt_of_le (by decide) q) y
theorem tdC_no {nt N : Nat} {c : Sg} {x1 x2 : Int32} {Q : Int32 → Sg → Prop} (hN : c 1 2 = nI N) (h8 : N ≤ 8) (hn : ¬ ∃ i, i < N ∧ x1 = nI i) (hQ : Q (if x2 = 0 then c 1 0 else if x2 = 1 then c 1 3 else -1000) c) : vv_X7_told nt x1 x2 c Q := by
  unfold vv_X7_told
  refine ⟨fun n0 => ⟨fun n1 => h_isPaper hN h8 (fun i hi e => absurd ⟨i, hi, e⟩ hn) (fun _ => ⟨fun z => absurd rfl z, fun _ => ?_⟩), fun e1 => ?_⟩, fun e0 => ?_⟩
  · rw [if_neg n0, if_neg n1] at hQ; exact hQ
  · rw [if_neg n0, if_pos e1] at hQ; exact hQ
  · rw [if_pos e0] at hQ; exact hQ
theorem tdM_0 {N i : Nat} {m : Sg} {cods : Nat → List Int32} {Q : Int32 → Sg → Prop} (hN : m 0 11 = nI N) (h8 : N ≤ 8) (hi : i < N) (hR : RuM m cods) (hb : m 5 (5 * i + 4) = 0 ∨ m 5 (5 * i + 4) = 1) (hQ : ∀ m', FrS m m' → Q (tdS (pvM m i) (m 0 7) (m 0 8) cods 0) m') : vv_X8_told (nI i) 0 m Q := by
  unfold vv_X8_told
  refine h_in (l := 10) (h := 17) rfl rfl ?_
  rw [if_neg (by decide)]
  refine ⟨fun z => absurd rfl z, fun _ => h_in (l := 20) (h := 27) rfl rfl ?_⟩
  rw [if_neg (by decide)]
  refine ⟨fun _ => ?_, fun z => absurd rfl z⟩
  unfold vv_X8_told_J33
  rintro y rfl
  refine h_in (l := 0) (h := 9) rfl rfl ?_
  rw [if_pos (by decide)]
  refine ⟨fun _ => ?_, fun z => absurd z (by decide)⟩
  unfold vv_X8_told_J50
  refine ⟨fun _ => ?_, fun z => absurd (by decide) z⟩
  unfold vv_X8_told_J67
  exact ⟨fun _ => ⟨fun z => absurd z (by decide), fun _ => ⟨fun z => absurd rfl z, fun _ => hQ m (FrS.rf m)⟩⟩, fun z => absurd rfl z⟩
theorem tdM_1 {N i : Nat} {m : Sg} {cods : Nat → List Int32} {Q : Int32 → Sg → Prop} (hN : m 0 11 = nI N) (h8 : N ≤ 8) (hi : i < N) (hR : RuM m cods) (hb : m 5 (5 * i + 4) = 0 ∨ m 5 (5 * i + 4) = 1) (hQ : ∀ m', FrS m m' → Q (tdS (pvM m i) (m 0 7) (m 0 8) cods 1) m') : vv_X8_told (nI i) 1 m Q := by
  unfold vv_X8_told
  refine h_in (l := 10) (h := 17) rfl rfl ?_
  rw [if_neg (by decide)]
  refine ⟨fun z => absurd rfl z, fun _ => h_in (l := 20) (h := 27) rfl rfl ?_⟩
  rw [if_neg (by decide)]
  refine ⟨fun _ => ?_, fun z => absurd rfl z⟩
  unfold vv_X8_told_J33
  rintro y rfl
  refine h_in (l := 0) (h := 9) rfl rfl ?_
  rw [if_pos (by decide)]
  refine ⟨fun _ => ?_, fun z => absurd z (by decide)⟩
  unfold vv_X8_told_J50
  refine ⟨fun _ => ?_, fun z => absurd (by decide) z⟩
  unfold vv_X8_told_J67
  exact ⟨fun _ => ⟨fun z => absurd z (by decide), fun _ => ⟨fun _ => ⟨fun z => absurd rfl z, fun _ => hQ m (FrS.rf m)⟩, fun z => absurd z (by decide)⟩⟩, fun z => absurd rfl z⟩
theorem tdM_2 {N i : Nat} {m : Sg} {cods : Nat → List Int32} {Q : Int32 → Sg → Prop} (hN : m 0 11 = nI N) (h8 : N ≤ 8) (hi : i < N) (hR : RuM m cods) (hb : m 5 (5 * i + 4) = 0 ∨ m 5 (5 * i + 4) = 1) (hQ : ∀ m', FrS m m' → Q (tdS (pvM m i) (m 0 7) (m 0 8) cods 2) m') : vv_X8_told (nI i) 2 m Q := by
  unfold vv_X8_told
  refine h_in (l := 10) (h := 17) rfl rfl ?_
  rw [if_neg (by decide)]
  refine ⟨fun z => absurd rfl z, fun _ => h_in (l := 20) (h := 27) rfl rfl ?_⟩
  rw [if_neg (by decide)]
  refine ⟨fun _ => ?_, fun z => absurd rfl z⟩
  unfold vv_X8_told_J33
  rintro y rfl
  refine h_in (l := 0) (h := 9) rfl rfl ?_
  rw [if_pos (by decide)]
  refine ⟨fun _ => ?_, fun z => absurd z (by decide)⟩
  unfold vv_X8_told_J50
  refine ⟨fun z => absurd z (by decide), fun _ => h_isOne hN h8 (fun j hj e => ⟨fun _ => ?_, fun z => absurd z (by decide)⟩) (fun hn => absurd ⟨i, hi, rfl⟩ hn)⟩
  unfold vv_X8_told_J67
  rw [show (5 : Int32) * nI i + 2 - 2 = nI (5 * i + 0) from ixw i 2 (by decide), nI_clamp (n := 5 * i + 0) (by omega)]
  exact ⟨fun _ => ⟨fun z => absurd z (by decide), fun _ => ⟨fun _ => ⟨fun _ => ⟨vp_in_nI (by omega) (by decide), hQ m (FrS.rf m)⟩, fun z => absurd z (by decide)⟩, fun z => absurd z (by decide)⟩⟩, fun z => absurd rfl z⟩
theorem tdM_3 {N i : Nat} {m : Sg} {cods : Nat → List Int32} {Q : Int32 → Sg → Prop} (hN : m 0 11 = nI N) (h8 : N ≤ 8) (hi : i < N) (hR : RuM m cods) (hb : m 5 (5 * i + 4) = 0 ∨ m 5 (5 * i + 4) = 1) (hQ : ∀ m', FrS m m' → Q (tdS (pvM m i) (m 0 7) (m 0 8) cods 3) m') : vv_X8_told (nI i) 3 m Q := by
  unfold vv_X8_told
  refine h_in (l := 10) (h := 17) rfl rfl ?_
  rw [if_neg (by decide)]
  refine ⟨fun z => absurd rfl z, fun _ => h_in (l := 20) (h := 27) rfl rfl ?_⟩
  rw [if_neg (by decide)]
  refine ⟨fun _ => ?_, fun z => absurd rfl z⟩
  unfold vv_X8_told_J33
  rintro y rfl
  refine h_in (l := 0) (h := 9) rfl rfl ?_
  rw [if_pos (by decide)]
  refine ⟨fun _ => ?_, fun z => absurd z (by decide)⟩
  unfold vv_X8_told_J50
  refine ⟨fun z => absurd z (by decide), fun _ => h_isOne hN h8 (fun j hj e => ⟨fun _ => ?_, fun z => absurd z (by decide)⟩) (fun hn => absurd ⟨i, hi, rfl⟩ hn)⟩
  unfold vv_X8_told_J67
  rw [show (5 : Int32) * nI i + 3 - 2 = nI (5 * i + 1) from ixw i 3 (by decide), nI_clamp (n := 5 * i + 1) (by omega)]
  exact ⟨fun _ => ⟨fun z => absurd z (by decide), fun _ => ⟨fun _ => ⟨fun _ => ⟨vp_in_nI (by omega) (by decide), hQ m (FrS.rf m)⟩, fun z => absurd z (by decide)⟩, fun z => absurd z (by decide)⟩⟩, fun z => absurd rfl z⟩
theorem tdM_4 {N i : Nat} {m : Sg} {cods : Nat → List Int32} {Q : Int32 → Sg → Prop} (hN : m 0 11 = nI N) (h8 : N ≤ 8) (hi : i < N) (hR : RuM m cods) (hb : m 5 (5 * i + 4) = 0 ∨ m 5 (5 * i + 4) = 1) (hQ : ∀ m', FrS m m' → Q (tdS (pvM m i) (m 0 7) (m 0 8) cods 4) m') : vv_X8_told (nI i) 4 m Q := by
  unfold vv_X8_told
  refine h_in (l := 10) (h := 17) rfl rfl ?_
  rw [if_neg (by decide)]
  refine ⟨fun z => absurd rfl z, fun _ => h_in (l := 20) (h := 27) rfl rfl ?_⟩
  rw [if_neg (by decide)]
  refine ⟨fun _ => ?_, fun z => absurd rfl z⟩
  unfold vv_X8_told_J33
  rintro y rfl
  refine h_in (l := 0) (h := 9) rfl rfl ?_
  rw [if_pos (by decide)]
  refine ⟨fun _ => ?_, fun z => absurd z (by decide)⟩
  unfold vv_X8_told_J50
  refine ⟨fun z => absurd z (by decide), fun _ => h_isOne hN h8 (fun j hj e => ⟨fun _ => ?_, fun z => absurd z (by decide)⟩) (fun hn => absurd ⟨i, hi, rfl⟩ hn)⟩
  unfold vv_X8_told_J67
  rw [show (5 : Int32) * nI i + 4 - 2 = nI (5 * i + 2) from ixw i 4 (by decide), nI_clamp (n := 5 * i + 2) (by omega)]
  exact ⟨fun _ => ⟨fun z => absurd z (by decide), fun _ => ⟨fun _ => ⟨fun _ => ⟨vp_in_nI (by omega) (by decide), hQ m (FrS.rf m)⟩, fun z => absurd z (by decide)⟩, fun z => absurd z (by decide)⟩⟩, fun z => absurd rfl z⟩
theorem tdM_5 {N i : Nat} {m : Sg} {cods : Nat → List Int32} {Q : Int32 → Sg → Prop} (hN : m 0 11 = nI N) (h8 : N ≤ 8) (hi : i < N) (hR : RuM m cods) (hb : m 5 (5 * i + 4) = 0 ∨ m 5 (5 * i + 4) = 1) (hQ : ∀ m', FrS m m' → Q (tdS (pvM m i) (m 0 7) (m 0 8) cods 5) m') : vv_X8_told (nI i) 5 m Q := by
  unfold vv_X8_told
  refine h_in (l := 10) (h := 17) rfl rfl ?_
  rw [if_neg (by decide)]
  refine ⟨fun z => absurd rfl z, fun _ => h_in (l := 20) (h := 27) rfl rfl ?_⟩
  rw [if_neg (by decide)]
  refine ⟨fun _ => ?_, fun z => absurd rfl z⟩
  unfold vv_X8_told_J33
  rintro y rfl
  refine h_in (l := 0) (h := 9) rfl rfl ?_
  rw [if_pos (by decide)]
  refine ⟨fun _ => ?_, fun z => absurd z (by decide)⟩
  unfold vv_X8_told_J50
  refine ⟨fun z => absurd z (by decide), fun _ => h_isOne hN h8 (fun j hj e => ⟨fun _ => ?_, fun z => absurd z (by decide)⟩) (fun hn => absurd ⟨i, hi, rfl⟩ hn)⟩
  unfold vv_X8_told_J67
  rw [show (5 : Int32) * nI i + 5 - 2 = nI (5 * i + 3) from ixw i 5 (by decide), nI_clamp (n := 5 * i + 3) (by omega)]
  exact ⟨fun _ => ⟨fun z => absurd z (by decide), fun _ => ⟨fun _ => ⟨fun _ => ⟨vp_in_nI (by omega) (by decide), hQ m (FrS.rf m)⟩, fun z => absurd z (by decide)⟩, fun z => absurd z (by decide)⟩⟩, fun z => absurd rfl z⟩
theorem tdM_6 {N i : Nat} {m : Sg} {cods : Nat → List Int32} {Q : Int32 → Sg → Prop} (hN : m 0 11 = nI N) (h8 : N ≤ 8) (hi : i < N) (hR : RuM m cods) (hb : m 5 (5 * i + 4) = 0 ∨ m 5 (5 * i + 4) = 1) (hQ : ∀ m', FrS m m' → Q (tdS (pvM m i) (m 0 7) (m 0 8) cods 6) m') : vv_X8_told (nI i) 6 m Q := by
  unfold vv_X8_told
  refine h_in (l := 10) (h := 17) rfl rfl ?_
  rw [if_neg (by decide)]
  refine ⟨fun z => absurd rfl z, fun _ => h_in (l := 20) (h := 27) rfl rfl ?_⟩
  rw [if_neg (by decide)]
  refine ⟨fun _ => ?_, fun z => absurd rfl z⟩
  unfold vv_X8_told_J33
  rintro y rfl
  refine h_in (l := 0) (h := 9) rfl rfl ?_
  rw [if_pos (by decide)]
  refine ⟨fun _ => ?_, fun z => absurd z (by decide)⟩
  unfold vv_X8_told_J50
  refine ⟨fun z => absurd z (by decide), fun _ => h_isOne hN h8 (fun j hj e => ⟨fun _ => ?_, fun z => absurd z (by decide)⟩) (fun hn => absurd ⟨i, hi, rfl⟩ hn)⟩
  unfold vv_X8_told_J67
  rw [show (5 : Int32) * nI i + 6 - 2 = nI (5 * i + 4) from ixw i 6 (by decide), nI_clamp (n := 5 * i + 4) (by omega)]
  exact ⟨fun _ => ⟨fun z => absurd z (by decide), fun _ => ⟨fun _ => ⟨fun _ => ⟨vp_in_nI (by omega) (by decide), hQ m (FrS.rf m)⟩, fun z => absurd z (by decide)⟩, fun z => absurd z (by decide)⟩⟩, fun z => absurd rfl z⟩
theorem tdM_7 {N i : Nat} {m : Sg} {cods : Nat → List Int32} {Q : Int32 → Sg → Prop} (hN : m 0 11 = nI N) (h8 : N ≤ 8) (hi : i < N) (hR : RuM m cods) (hb : m 5 (5 * i + 4) = 0 ∨ m 5 (5 * i + 4) = 1) (hQ : ∀ m', FrS m m' → Q (tdS (pvM m i) (m 0 7) (m 0 8) cods 7) m') : vv_X8_told (nI i) 7 m Q := by
  unfold vv_X8_told
  refine h_in (l := 10) (h := 17) rfl rfl ?_
  rw [if_neg (by decide)]
  refine ⟨fun z => absurd rfl z, fun _ => h_in (l := 20) (h := 27) rfl rfl ?_⟩
  rw [if_neg (by decide)]
  refine ⟨fun _ => ?_, fun z => absurd rfl z⟩
  unfold vv_X8_told_J33
  rintro y rfl
  refine h_in (l := 0) (h := 9) rfl rfl ?_
  rw [if_pos (by decide)]
  refine ⟨fun _ => ?_, fun z => absurd z (by decide)⟩
  unfold vv_X8_told_J50
  refine ⟨fun z => absurd z (by decide), fun _ => h_isOne hN h8 (fun j hj e => ⟨fun _ => ?_, fun z => absurd z (by decide)⟩) (fun hn => absurd ⟨i, hi, rfl⟩ hn)⟩
  unfold vv_X8_told_J67
  rw [nI_clamp (by omega)]
  exact ⟨fun _ => ⟨fun _ => ⟨fun z => absurd rfl z, fun _ => ⟨vp_in_nI (by omega) (by decide), hQ m (FrS.rf m)⟩⟩, fun z => absurd (by decide) z⟩, fun z => absurd rfl z⟩
theorem tdM_8 {N i : Nat} {m : Sg} {cods : Nat → List Int32} {Q : Int32 → Sg → Prop} (hN : m 0 11 = nI N) (h8 : N ≤ 8) (hi : i < N) (hR : RuM m cods) (hb : m 5 (5 * i + 4) = 0 ∨ m 5 (5 * i + 4) = 1) (hQ : ∀ m', FrS m m' → Q (tdS (pvM m i) (m 0 7) (m 0 8) cods 8) m') : vv_X8_told (nI i) 8 m Q := by
  unfold vv_X8_told
  refine h_in (l := 10) (h := 17) rfl rfl ?_
  rw [if_neg (by decide)]
  refine ⟨fun z => absurd rfl z, fun _ => h_in (l := 20) (h := 27) rfl rfl ?_⟩
  rw [if_neg (by decide)]
  refine ⟨fun _ => ?_, fun z => absurd rfl z⟩
  unfold vv_X8_told_J33
  rintro y rfl
  refine h_in (l := 0) (h := 9) rfl rfl ?_
  rw [if_pos (by decide)]
  refine ⟨fun _ => ?_, fun z => absurd z (by decide)⟩
  unfold vv_X8_told_J50
  refine ⟨fun z => absurd z (by decide), fun _ => h_isOne hN h8 (fun j hj e => ⟨fun _ => ?_, fun z => absurd z (by decide)⟩) (fun hn => absurd ⟨i, hi, rfl⟩ hn)⟩
  unfold vv_X8_told_J67
  exact ⟨fun _ => ⟨fun _ => ⟨fun _ => ⟨fun z => absurd rfl z, fun _ => h_weighsM (by omega) hR hQ⟩, fun z => absurd z (by decide)⟩, fun z => absurd (by decide) z⟩, fun z => absurd rfl z⟩
theorem tdM_9 {N i : Nat} {m : Sg} {cods : Nat → List Int32} {Q : Int32 → Sg → Prop} (hN : m 0 11 = nI N) (h8 : N ≤ 8) (hi : i < N) (hR : RuM m cods) (hb : m 5 (5 * i + 4) = 0 ∨ m 5 (5 * i + 4) = 1) (hQ : ∀ m', FrS m m' → Q (tdS (pvM m i) (m 0 7) (m 0 8) cods 9) m') : vv_X8_told (nI i) 9 m Q := by
  unfold vv_X8_told
  refine h_in (l := 10) (h := 17) rfl rfl ?_
  rw [if_neg (by decide)]
  refine ⟨fun z => absurd rfl z, fun _ => h_in (l := 20) (h := 27) rfl rfl ?_⟩
  rw [if_neg (by decide)]
  refine ⟨fun _ => ?_, fun z => absurd rfl z⟩
  unfold vv_X8_told_J33
  rintro y rfl
  refine h_in (l := 0) (h := 9) rfl rfl ?_
  rw [if_pos (by decide)]
  refine ⟨fun _ => ?_, fun z => absurd z (by decide)⟩
  unfold vv_X8_told_J50
  refine ⟨fun z => absurd z (by decide), fun _ => h_isOne hN h8 (fun j hj e => ⟨fun _ => ?_, fun z => absurd z (by decide)⟩) (fun hn => absurd ⟨i, hi, rfl⟩ hn)⟩
  unfold vv_X8_told_J67
  exact ⟨fun _ => ⟨fun _ => ⟨fun _ => ⟨fun _ => h_smoothsM (by omega) hR hQ, fun z => absurd z (by decide)⟩, fun z => absurd z (by decide)⟩, fun z => absurd (by decide) z⟩, fun z => absurd rfl z⟩
theorem tdM_10 {N i : Nat} {m : Sg} {cods : Nat → List Int32} {Q : Int32 → Sg → Prop} (hN : m 0 11 = nI N) (h8 : N ≤ 8) (hi : i < N) (hR : RuM m cods) (hb : m 5 (5 * i + 4) = 0 ∨ m 5 (5 * i + 4) = 1) (hQ : ∀ m', FrS m m' → Q (tdS (pvM m i) (m 0 7) (m 0 8) cods 10) m') : vv_X8_told (nI i) 10 m Q := by
  unfold vv_X8_told
  refine h_in (l := 10) (h := 17) rfl rfl ?_
  rw [if_pos (by decide)]
  refine ⟨fun _ => ?_, fun z => absurd z (by decide)⟩
  unfold vv_X8_told_J28
  unfold vv_X8_told_J33
  rintro y rfl
  refine h_in (l := 0) (h := 9) rfl rfl ?_
  rw [if_neg (by decide)]
  refine ⟨fun z => absurd rfl z, fun _ => ⟨fun z => absurd z (by decide), fun _ => ?_⟩⟩
  unfold vv_X8_told_J50
  refine ⟨fun z => absurd z (by decide), fun _ => h_isOne hN h8 (fun j hj e => ⟨fun _ => ?_, fun z => absurd z (by decide)⟩) (fun hn => absurd ⟨i, hi, rfl⟩ hn)⟩
  unfold vv_X8_told_J67
  exact ⟨fun z => absurd z (by decide), fun _ => ⟨fun z => absurd z (by decide), fun _ => h_feelsM (t := 10 - 10) (by omega) hR hQ⟩⟩
theorem tdM_11 {N i : Nat} {m : Sg} {cods : Nat → List Int32} {Q : Int32 → Sg → Prop} (hN : m 0 11 = nI N) (h8 : N ≤ 8) (hi : i < N) (hR : RuM m cods) (hb : m 5 (5 * i + 4) = 0 ∨ m 5 (5 * i + 4) = 1) (hQ : ∀ m', FrS m m' → Q (tdS (pvM m i) (m 0 7) (m 0 8) cods 11) m') : vv_X8_told (nI i) 11 m Q := by
  unfold vv_X8_told
  refine h_in (l := 10) (h := 17) rfl rfl ?_
  rw [if_pos (by decide)]
  refine ⟨fun _ => ?_, fun z => absurd z (by decide)⟩
  unfold vv_X8_told_J28
  unfold vv_X8_told_J33
  rintro y rfl
  refine h_in (l := 0) (h := 9) rfl rfl ?_
  rw [if_neg (by decide)]
  refine ⟨fun z => absurd rfl z, fun _ => ⟨fun z => absurd z (by decide), fun _ => ?_⟩⟩
  unfold vv_X8_told_J50
  refine ⟨fun z => absurd z (by decide), fun _ => h_isOne hN h8 (fun j hj e => ⟨fun _ => ?_, fun z => absurd z (by decide)⟩) (fun hn => absurd ⟨i, hi, rfl⟩ hn)⟩
  unfold vv_X8_told_J67
  exact ⟨fun z => absurd z (by decide), fun _ => ⟨fun z => absurd z (by decide), fun _ => h_feelsM (t := 11 - 10) (by omega) hR hQ⟩⟩
theorem tdM_12 {N i : Nat} {m : Sg} {cods : Nat → List Int32} {Q : Int32 → Sg → Prop} (hN : m 0 11 = nI N) (h8 : N ≤ 8) (hi : i < N) (hR : RuM m cods) (hb : m 5 (5 * i + 4) = 0 ∨ m 5 (5 * i + 4) = 1) (hQ : ∀ m', FrS m m' → Q (tdS (pvM m i) (m 0 7) (m 0 8) cods 12) m') : vv_X8_told (nI i) 12 m Q := by
  unfold vv_X8_told
  refine h_in (l := 10) (h := 17) rfl rfl ?_
  rw [if_pos (by decide)]
  refine ⟨fun _ => ?_, fun z => absurd z (by decide)⟩
  unfold vv_X8_told_J28
  unfold vv_X8_told_J33
  rintro y rfl
  refine h_in (l := 0) (h := 9) rfl rfl ?_
  rw [if_neg (by decide)]
  refine ⟨fun z => absurd rfl z, fun _ => ⟨fun z => absurd z (by decide), fun _ => ?_⟩⟩
  unfold vv_X8_told_J50
  refine ⟨fun z => absurd z (by decide), fun _ => h_isOne hN h8 (fun j hj e => ⟨fun _ => ?_, fun z => absurd z (by decide)⟩) (fun hn => absurd ⟨i, hi, rfl⟩ hn)⟩
  unfold vv_X8_told_J67
  exact ⟨fun z => absurd z (by decide), fun _ => ⟨fun z => absurd z (by decide), fun _ => h_feelsM (t := 12 - 10) (by omega) hR hQ⟩⟩
theorem tdM_13 {N i : Nat} {m : Sg} {cods : Nat → List Int32} {Q : Int32 → Sg → Prop} (hN : m 0 11 = nI N) (h8 : N ≤ 8) (hi : i < N) (hR : RuM m cods) (hb : m 5 (5 * i + 4) = 0 ∨ m 5 (5 * i + 4) = 1) (hQ : ∀ m', FrS m m' → Q (tdS (pvM m i) (m 0 7) (m 0 8) cods 13) m') : vv_X8_told (nI i) 13 m Q := by
  unfold vv_X8_told
  refine h_in (l := 10) (h := 17) rfl rfl ?_
  rw [if_pos (by decide)]
  refine ⟨fun _ => ?_, fun z => absurd z (by decide)⟩
  unfold vv_X8_told_J28
  unfold vv_X8_told_J33
  rintro y rfl
  refine h_in (l := 0) (h := 9) rfl rfl ?_
  rw [if_neg (by decide)]
  refine ⟨fun z => absurd rfl z, fun _ => ⟨fun z => absurd z (by decide), fun _ => ?_⟩⟩
  unfold vv_X8_told_J50
  refine ⟨fun z => absurd z (by decide), fun _ => h_isOne hN h8 (fun j hj e => ⟨fun _ => ?_, fun z => absurd z (by decide)⟩) (fun hn => absurd ⟨i, hi, rfl⟩ hn)⟩
  unfold vv_X8_told_J67
  exact ⟨fun z => absurd z (by decide), fun _ => ⟨fun z => absurd z (by decide), fun _ => h_feelsM (t := 13 - 10) (by omega) hR hQ⟩⟩
theorem tdM_14 {N i : Nat} {m : Sg} {cods : Nat → List Int32} {Q : Int32 → Sg → Prop} (hN : m 0 11 = nI N) (h8 : N ≤ 8) (hi : i < N) (hR : RuM m cods) (hb : m 5 (5 * i + 4) = 0 ∨ m 5 (5 * i + 4) = 1) (hQ : ∀ m', FrS m m' → Q (tdS (pvM m i) (m 0 7) (m 0 8) cods 14) m') : vv_X8_told (nI i) 14 m Q := by
  unfold vv_X8_told
  refine h_in (l := 10) (h := 17) rfl rfl ?_
  rw [if_pos (by decide)]
  refine ⟨fun _ => ?_, fun z => absurd z (by decide)⟩
  unfold vv_X8_told_J28
  unfold vv_X8_told_J33
  rintro y rfl
  refine h_in (l := 0) (h := 9) rfl rfl ?_
  rw [if_neg (by decide)]
  refine ⟨fun z => absurd rfl z, fun _ => ⟨fun z => absurd z (by decide), fun _ => ?_⟩⟩
  unfold vv_X8_told_J50
  refine ⟨fun z => absurd z (by decide), fun _ => h_isOne hN h8 (fun j hj e => ⟨fun _ => ?_, fun z => absurd z (by decide)⟩) (fun hn => absurd ⟨i, hi, rfl⟩ hn)⟩
  unfold vv_X8_told_J67
  exact ⟨fun z => absurd z (by decide), fun _ => ⟨fun z => absurd z (by decide), fun _ => h_feelsM (t := 14 - 10) (by omega) hR hQ⟩⟩
theorem tdM_15 {N i : Nat} {m : Sg} {cods : Nat → List Int32} {Q : Int32 → Sg → Prop} (hN : m 0 11 = nI N) (h8 : N ≤ 8) (hi : i < N) (hR : RuM m cods) (hb : m 5 (5 * i + 4) = 0 ∨ m 5 (5 * i + 4) = 1) (hQ : ∀ m', FrS m m' → Q (tdS (pvM m i) (m 0 7) (m 0 8) cods 15) m') : vv_X8_told (nI i) 15 m Q := by
  unfold vv_X8_told
  refine h_in (l := 10) (h := 17) rfl rfl ?_
  rw [if_pos (by decide)]
  refine ⟨fun _ => ?_, fun z => absurd z (by decide)⟩
  unfold vv_X8_told_J28
  unfold vv_X8_told_J33
  rintro y rfl
  refine h_in (l := 0) (h := 9) rfl rfl ?_
  rw [if_neg (by decide)]
  refine ⟨fun z => absurd rfl z, fun _ => ⟨fun z => absurd z (by decide), fun _ => ?_⟩⟩
  unfold vv_X8_told_J50
  refine ⟨fun z => absurd z (by decide), fun _ => h_isOne hN h8 (fun j hj e => ⟨fun _ => ?_, fun z => absurd z (by decide)⟩) (fun hn => absurd ⟨i, hi, rfl⟩ hn)⟩
  unfold vv_X8_told_J67
  exact ⟨fun z => absurd z (by decide), fun _ => ⟨fun z => absurd z (by decide), fun _ => h_feelsM (t := 15 - 10) (by omega) hR hQ⟩⟩
theorem tdM_16 {N i : Nat} {m : Sg} {cods : Nat → List Int32} {Q : Int32 → Sg → Prop} (hN : m 0 11 = nI N) (h8 : N ≤ 8) (hi : i < N) (hR : RuM m cods) (hb : m 5 (5 * i + 4) = 0 ∨ m 5 (5 * i + 4) = 1) (hQ : ∀ m', FrS m m' → Q (tdS (pvM m i) (m 0 7) (m 0 8) cods 16) m') : vv_X8_told (nI i) 16 m Q := by
  unfold vv_X8_told
  refine h_in (l := 10) (h := 17) rfl rfl ?_
  rw [if_pos (by decide)]
  refine ⟨fun _ => ?_, fun z => absurd z (by decide)⟩
  unfold vv_X8_told_J28
  unfold vv_X8_told_J33
  rintro y rfl
  refine h_in (l := 0) (h := 9) rfl rfl ?_
  rw [if_neg (by decide)]
  refine ⟨fun z => absurd rfl z, fun _ => ⟨fun z => absurd z (by decide), fun _ => ?_⟩⟩
  unfold vv_X8_told_J50
  refine ⟨fun z => absurd z (by decide), fun _ => h_isOne hN h8 (fun j hj e => ⟨fun _ => ?_, fun z => absurd z (by decide)⟩) (fun hn => absurd ⟨i, hi, rfl⟩ hn)⟩
  unfold vv_X8_told_J67
  exact ⟨fun z => absurd z (by decide), fun _ => ⟨fun z => absurd z (by decide), fun _ => h_feelsM (t := 16 - 10) (by omega) hR hQ⟩⟩
theorem tdM_17 {N i : Nat} {m : Sg} {cods : Nat → List Int32} {Q : Int32 → Sg → Prop} (hN : m 0 11 = nI N) (h8 : N ≤ 8) (hi : i < N) (hR : RuM m cods) (hb : m 5 (5 * i + 4) = 0 ∨ m 5 (5 * i + 4) = 1) (hQ : ∀ m', FrS m m' → Q (tdS (pvM m i) (m 0 7) (m 0 8) cods 17) m') : vv_X8_told (nI i) 17 m Q := by
  unfold vv_X8_told
  refine h_in (l := 10) (h := 17) rfl rfl ?_
  rw [if_pos (by decide)]
  refine ⟨fun _ => ?_, fun z => absurd z (by decide)⟩
  unfold vv_X8_told_J28
  unfold vv_X8_told_J33
  rintro y rfl
  refine h_in (l := 0) (h := 9) rfl rfl ?_
  rw [if_neg (by decide)]
  refine ⟨fun z => absurd rfl z, fun _ => ⟨fun z => absurd z (by decide), fun _ => ?_⟩⟩
  unfold vv_X8_told_J50
  refine ⟨fun z => absurd z (by decide), fun _ => h_isOne hN h8 (fun j hj e => ⟨fun _ => ?_, fun z => absurd z (by decide)⟩) (fun hn => absurd ⟨i, hi, rfl⟩ hn)⟩
  unfold vv_X8_told_J67
  exact ⟨fun z => absurd z (by decide), fun _ => ⟨fun z => absurd z (by decide), fun _ => h_feelsM (t := 17 - 10) (by omega) hR hQ⟩⟩
theorem tdM_18 {N i : Nat} {m : Sg} {cods : Nat → List Int32} {Q : Int32 → Sg → Prop} (hN : m 0 11 = nI N) (h8 : N ≤ 8) (hi : i < N) (hR : RuM m cods) (hb : m 5 (5 * i + 4) = 0 ∨ m 5 (5 * i + 4) = 1) (hQ : ∀ m', FrS m m' → Q (tdS (pvM m i) (m 0 7) (m 0 8) cods 18) m') : vv_X8_told (nI i) 18 m Q := by
  unfold vv_X8_told
  refine h_in (l := 10) (h := 17) rfl rfl ?_
  rw [if_neg (by decide)]
  refine ⟨fun z => absurd rfl z, fun _ => h_in (l := 20) (h := 27) rfl rfl ?_⟩
  rw [if_neg (by decide)]
  refine ⟨fun _ => ?_, fun z => absurd rfl z⟩
  unfold vv_X8_told_J33
  rintro y rfl
  refine h_in (l := 0) (h := 9) rfl rfl ?_
  rw [if_neg (by decide)]
  exact ⟨fun z => absurd rfl z, fun _ => ⟨fun _ => hQ m (FrS.rf m), fun z => absurd rfl z⟩⟩
theorem tdM_19 {N i : Nat} {m : Sg} {cods : Nat → List Int32} {Q : Int32 → Sg → Prop} (hN : m 0 11 = nI N) (h8 : N ≤ 8) (hi : i < N) (hR : RuM m cods) (hb : m 5 (5 * i + 4) = 0 ∨ m 5 (5 * i + 4) = 1) (hQ : ∀ m', FrS m m' → Q (tdS (pvM m i) (m 0 7) (m 0 8) cods 19) m') : vv_X8_told (nI i) 19 m Q := by
  unfold vv_X8_told
  refine h_in (l := 10) (h := 17) rfl rfl ?_
  rw [if_neg (by decide)]
  refine ⟨fun z => absurd rfl z, fun _ => h_in (l := 20) (h := 27) rfl rfl ?_⟩
  rw [if_neg (by decide)]
  refine ⟨fun _ => ?_, fun z => absurd rfl z⟩
  unfold vv_X8_told_J33
  rintro y rfl
  refine h_in (l := 0) (h := 9) rfl rfl ?_
  rw [if_neg (by decide)]
  exact ⟨fun z => absurd rfl z, fun _ => ⟨fun _ => hQ m (FrS.rf m), fun z => absurd rfl z⟩⟩
theorem tdM_20 {N i : Nat} {m : Sg} {cods : Nat → List Int32} {Q : Int32 → Sg → Prop} (hN : m 0 11 = nI N) (h8 : N ≤ 8) (hi : i < N) (hR : RuM m cods) (hb : m 5 (5 * i + 4) = 0 ∨ m 5 (5 * i + 4) = 1) (hQ : ∀ m', FrS m m' → Q (tdS (pvM m i) (m 0 7) (m 0 8) cods 20) m') : vv_X8_told (nI i) 20 m Q := by
  unfold vv_X8_told
  refine h_in (l := 10) (h := 17) rfl rfl ?_
  rw [if_neg (by decide)]
  refine ⟨fun z => absurd rfl z, fun _ => h_in (l := 20) (h := 27) rfl rfl ?_⟩
  rw [if_pos (by decide)]
  refine ⟨fun z => absurd z (by decide), fun _ => ?_⟩
  unfold vv_X8_told_J28
  unfold vv_X8_told_J33
  rintro y rfl
  refine h_in (l := 0) (h := 9) rfl rfl ?_
  rw [if_neg (by decide)]
  refine ⟨fun z => absurd rfl z, fun _ => ⟨fun z => absurd z (by decide), fun _ => ?_⟩⟩
  unfold vv_X8_told_J50
  refine ⟨fun z => absurd z (by decide), fun _ => h_isOne hN h8 (fun j hj e => ⟨fun _ => ?_, fun z => absurd z (by decide)⟩) (fun hn => absurd ⟨i, hi, rfl⟩ hn)⟩
  unfold vv_X8_told_J67
  refine ⟨fun z => absurd z (by decide), fun _ => ⟨fun _ => h_isWhole (by omega) ?_, fun z => absurd (by decide) z⟩⟩
  rcases hb with hb | hb
  · rw [if_pos hb]
    refine ⟨fun z => absurd z (by decide), fun _ => h_voteM (t := 20 - 20) (by omega) hR (fun m' F => ?_)⟩
    have := hQ m' F
    rw [show tdS (pvM m i) (m 0 7) (m 0 8) cods 20 = (if pvM m i 5 = 1 then 0 else vtS (pvM m i) (20 - 20) (m 0 7) cods) from rfl, show pvM m i 5 = m 5 (5 * i + 4) from rfl, hb, if_neg (by decide)] at this
    exact this
  · rw [if_neg (by rw [hb]; decide)]
    refine ⟨fun _ => ?_, fun z => absurd rfl z⟩
    have := hQ m (FrS.rf m)
    rw [show tdS (pvM m i) (m 0 7) (m 0 8) cods 20 = (if pvM m i 5 = 1 then 0 else vtS (pvM m i) (20 - 20) (m 0 7) cods) from rfl, show pvM m i 5 = m 5 (5 * i + 4) from rfl, if_pos hb] at this
    exact this
theorem tdM_21 {N i : Nat} {m : Sg} {cods : Nat → List Int32} {Q : Int32 → Sg → Prop} (hN : m 0 11 = nI N) (h8 : N ≤ 8) (hi : i < N) (hR : RuM m cods) (hb : m 5 (5 * i + 4) = 0 ∨ m 5 (5 * i + 4) = 1) (hQ : ∀ m', FrS m m' → Q (tdS (pvM m i) (m 0 7) (m 0 8) cods 21) m') : vv_X8_told (nI i) 21 m Q := by
  unfold vv_X8_told
  refine h_in (l := 10) (h := 17) rfl rfl ?_
  rw [if_neg (by decide)]
  refine ⟨fun z => absurd rfl z, fun _ => h_in (l := 20) (h := 27) rfl rfl ?_⟩
  rw [if_pos (by decide)]
  refine ⟨fun z => absurd z (by decide), fun _ => ?_⟩
  unfold vv_X8_told_J28
  unfold vv_X8_told_J33
  rintro y rfl
  refine h_in (l := 0) (h := 9) rfl rfl ?_
  rw [if_neg (by decide)]
  refine ⟨fun z => absurd rfl z, fun _ => ⟨fun z => absurd z (by decide), fun _ => ?_⟩⟩
  unfold vv_X8_told_J50
  refine ⟨fun z => absurd z (by decide), fun _ => h_isOne hN h8 (fun j hj e => ⟨fun _ => ?_, fun z => absurd z (by decide)⟩) (fun hn => absurd ⟨i, hi, rfl⟩ hn)⟩
  unfold vv_X8_told_J67
  refine ⟨fun z => absurd z (by decide), fun _ => ⟨fun _ => h_isWhole (by omega) ?_, fun z => absurd (by decide) z⟩⟩
  rcases hb with hb | hb
  · rw [if_pos hb]
    refine ⟨fun z => absurd z (by decide), fun _ => h_voteM (t := 21 - 20) (by omega) hR (fun m' F => ?_)⟩
    have := hQ m' F
    rw [show tdS (pvM m i) (m 0 7) (m 0 8) cods 21 = (if pvM m i 5 = 1 then 0 else vtS (pvM m i) (21 - 20) (m 0 7) cods) from rfl, show pvM m i 5 = m 5 (5 * i + 4) from rfl, hb, if_neg (by decide)] at this
    exact this
  · rw [if_neg (by rw [hb]; decide)]
    refine ⟨fun _ => ?_, fun z => absurd rfl z⟩
    have := hQ m (FrS.rf m)
    rw [show tdS (pvM m i) (m 0 7) (m 0 8) cods 21 = (if pvM m i 5 = 1 then 0 else vtS (pvM m i) (21 - 20) (m 0 7) cods) from rfl, show pvM m i 5 = m 5 (5 * i + 4) from rfl, if_pos hb] at this
    exact this
theorem tdM_22 {N i : Nat} {m : Sg} {cods : Nat → List Int32} {Q : Int32 → Sg → Prop} (hN : m 0 11 = nI N) (h8 : N ≤ 8) (hi : i < N) (hR : RuM m cods) (hb : m 5 (5 * i + 4) = 0 ∨ m 5 (5 * i + 4) = 1) (hQ : ∀ m', FrS m m' → Q (tdS (pvM m i) (m 0 7) (m 0 8) cods 22) m') : vv_X8_told (nI i) 22 m Q := by
  unfold vv_X8_told
  refine h_in (l := 10) (h := 17) rfl rfl ?_
  rw [if_neg (by decide)]
  refine ⟨fun z => absurd rfl z, fun _ => h_in (l := 20) (h := 27) rfl rfl ?_⟩
  rw [if_pos (by decide)]
  refine ⟨fun z => absurd z (by decide), fun _ => ?_⟩
  unfold vv_X8_told_J28
  unfold vv_X8_told_J33
  rintro y rfl
  refine h_in (l := 0) (h := 9) rfl rfl ?_
  rw [if_neg (by decide)]
  refine ⟨fun z => absurd rfl z, fun _ => ⟨fun z => absurd z (by decide), fun _ => ?_⟩⟩
  unfold vv_X8_told_J50
  refine ⟨fun z => absurd z (by decide), fun _ => h_isOne hN h8 (fun j hj e => ⟨fun _ => ?_, fun z => absurd z (by decide)⟩) (fun hn => absurd ⟨i, hi, rfl⟩ hn)⟩
  unfold vv_X8_told_J67
  refine ⟨fun z => absurd z (by decide), fun _ => ⟨fun _ => h_isWhole (by omega) ?_, fun z => absurd (by decide) z⟩⟩
  rcases hb with hb | hb
  · rw [if_pos hb]
    refine ⟨fun z => absurd z (by decide), fun _ => h_voteM (t := 22 - 20) (by omega) hR (fun m' F => ?_)⟩
    have := hQ m' F
    rw [show tdS (pvM m i) (m 0 7) (m 0 8) cods 22 = (if pvM m i 5 = 1 then 0 else vtS (pvM m i) (22 - 20) (m 0 7) cods) from rfl, show pvM m i 5 = m 5 (5 * i + 4) from rfl, hb, if_neg (by decide)] at this
    exact this
  · rw [if_neg (by rw [hb]; decide)]
    refine ⟨fun _ => ?_, fun z => absurd rfl z⟩
    have := hQ m (FrS.rf m)
    rw [show tdS (pvM m i) (m 0 7) (m 0 8) cods 22 = (if pvM m i 5 = 1 then 0 else vtS (pvM m i) (22 - 20) (m 0 7) cods) from rfl, show pvM m i 5 = m 5 (5 * i + 4) from rfl, if_pos hb] at this
    exact this
theorem tdM_23 {N i : Nat} {m : Sg} {cods : Nat → List Int32} {Q : Int32 → Sg → Prop} (hN : m 0 11 = nI N) (h8 : N ≤ 8) (hi : i < N) (hR : RuM m cods) (hb : m 5 (5 * i + 4) = 0 ∨ m 5 (5 * i + 4) = 1) (hQ : ∀ m', FrS m m' → Q (tdS (pvM m i) (m 0 7) (m 0 8) cods 23) m') : vv_X8_told (nI i) 23 m Q := by
  unfold vv_X8_told
  refine h_in (l := 10) (h := 17) rfl rfl ?_
  rw [if_neg (by decide)]
  refine ⟨fun z => absurd rfl z, fun _ => h_in (l := 20) (h := 27) rfl rfl ?_⟩
  rw [if_pos (by decide)]
  refine ⟨fun z => absurd z (by decide), fun _ => ?_⟩
  unfold vv_X8_told_J28
  unfold vv_X8_told_J33
  rintro y rfl
  refine h_in (l := 0) (h := 9) rfl rfl ?_
  rw [if_neg (by decide)]
  refine ⟨fun z => absurd rfl z, fun _ => ⟨fun z => absurd z (by decide), fun _ => ?_⟩⟩
  unfold vv_X8_told_J50
  refine ⟨fun z => absurd z (by decide), fun _ => h_isOne hN h8 (fun j hj e => ⟨fun _ => ?_, fun z => absurd z (by decide)⟩) (fun hn => absurd ⟨i, hi, rfl⟩ hn)⟩
  unfold vv_X8_told_J67
  refine ⟨fun z => absurd z (by decide), fun _ => ⟨fun _ => h_isWhole (by omega) ?_, fun z => absurd (by decide) z⟩⟩
  rcases hb with hb | hb
  · rw [if_pos hb]
    refine ⟨fun z => absurd z (by decide), fun _ => h_voteM (t := 23 - 20) (by omega) hR (fun m' F => ?_)⟩
    have := hQ m' F
    rw [show tdS (pvM m i) (m 0 7) (m 0 8) cods 23 = (if pvM m i 5 = 1 then 0 else vtS (pvM m i) (23 - 20) (m 0 7) cods) from rfl, show pvM m i 5 = m 5 (5 * i + 4) from rfl, hb, if_neg (by decide)] at this
    exact this
  · rw [if_neg (by rw [hb]; decide)]
    refine ⟨fun _ => ?_, fun z => absurd rfl z⟩
    have := hQ m (FrS.rf m)
    rw [show tdS (pvM m i) (m 0 7) (m 0 8) cods 23 = (if pvM m i 5 = 1 then 0 else vtS (pvM m i) (23 - 20) (m 0 7) cods) from rfl, show pvM m i 5 = m 5 (5 * i + 4) from rfl, if_pos hb] at this
    exact this
theorem tdM_24 {N i : Nat} {m : Sg} {cods : Nat → List Int32} {Q : Int32 → Sg → Prop} (hN : m 0 11 = nI N) (h8 : N ≤ 8) (hi : i < N) (hR : RuM m cods) (hb : m 5 (5 * i + 4) = 0 ∨ m 5 (5 * i + 4) = 1) (hQ : ∀ m', FrS m m' → Q (tdS (pvM m i) (m 0 7) (m 0 8) cods 24) m') : vv_X8_told (nI i) 24 m Q := by
  unfold vv_X8_told
  refine h_in (l := 10) (h := 17) rfl rfl ?_
  rw [if_neg (by decide)]
  refine ⟨fun z => absurd rfl z, fun _ => h_in (l := 20) (h := 27) rfl rfl ?_⟩
  rw [if_pos (by decide)]
  refine ⟨fun z => absurd z (by decide), fun _ => ?_⟩
  unfold vv_X8_told_J28
  unfold vv_X8_told_J33
  rintro y rfl
  refine h_in (l := 0) (h := 9) rfl rfl ?_
  rw [if_neg (by decide)]
  refine ⟨fun z => absurd rfl z, fun _ => ⟨fun z => absurd z (by decide), fun _ => ?_⟩⟩
  unfold vv_X8_told_J50
  refine ⟨fun z => absurd z (by decide), fun _ => h_isOne hN h8 (fun j hj e => ⟨fun _ => ?_, fun z => absurd z (by decide)⟩) (fun hn => absurd ⟨i, hi, rfl⟩ hn)⟩
  unfold vv_X8_told_J67
  refine ⟨fun z => absurd z (by decide), fun _ => ⟨fun _ => h_isWhole (by omega) ?_, fun z => absurd (by decide) z⟩⟩
  rcases hb with hb | hb
  · rw [if_pos hb]
    refine ⟨fun z => absurd z (by decide), fun _ => h_voteM (t := 24 - 20) (by omega) hR (fun m' F => ?_)⟩
    have := hQ m' F
    rw [show tdS (pvM m i) (m 0 7) (m 0 8) cods 24 = (if pvM m i 5 = 1 then 0 else vtS (pvM m i) (24 - 20) (m 0 7) cods) from rfl, show pvM m i 5 = m 5 (5 * i + 4) from rfl, hb, if_neg (by decide)] at this
    exact this
  · rw [if_neg (by rw [hb]; decide)]
    refine ⟨fun _ => ?_, fun z => absurd rfl z⟩
    have := hQ m (FrS.rf m)
    rw [show tdS (pvM m i) (m 0 7) (m 0 8) cods 24 = (if pvM m i 5 = 1 then 0 else vtS (pvM m i) (24 - 20) (m 0 7) cods) from rfl, show pvM m i 5 = m 5 (5 * i + 4) from rfl, if_pos hb] at this
    exact this
theorem tdM_25 {N i : Nat} {m : Sg} {cods : Nat → List Int32} {Q : Int32 → Sg → Prop} (hN : m 0 11 = nI N) (h8 : N ≤ 8) (hi : i < N) (hR : RuM m cods) (hb : m 5 (5 * i + 4) = 0 ∨ m 5 (5 * i + 4) = 1) (hQ : ∀ m', FrS m m' → Q (tdS (pvM m i) (m 0 7) (m 0 8) cods 25) m') : vv_X8_told (nI i) 25 m Q := by
  unfold vv_X8_told
  refine h_in (l := 10) (h := 17) rfl rfl ?_
  rw [if_neg (by decide)]
  refine ⟨fun z => absurd rfl z, fun _ => h_in (l := 20) (h := 27) rfl rfl ?_⟩
  rw [if_pos (by decide)]
  refine ⟨fun z => absurd z (by decide), fun _ => ?_⟩
  unfold vv_X8_told_J28
  unfold vv_X8_told_J33
  rintro y rfl
  refine h_in (l := 0) (h := 9) rfl rfl ?_
  rw [if_neg (by decide)]
  refine ⟨fun z => absurd rfl z, fun _ => ⟨fun z => absurd z (by decide), fun _ => ?_⟩⟩
  unfold vv_X8_told_J50
  refine ⟨fun z => absurd z (by decide), fun _ => h_isOne hN h8 (fun j hj e => ⟨fun _ => ?_, fun z => absurd z (by decide)⟩) (fun hn => absurd ⟨i, hi, rfl⟩ hn)⟩
  unfold vv_X8_told_J67
  refine ⟨fun z => absurd z (by decide), fun _ => ⟨fun _ => h_isWhole (by omega) ?_, fun z => absurd (by decide) z⟩⟩
  rcases hb with hb | hb
  · rw [if_pos hb]
    refine ⟨fun z => absurd z (by decide), fun _ => h_voteM (t := 25 - 20) (by omega) hR (fun m' F => ?_)⟩
    have := hQ m' F
    rw [show tdS (pvM m i) (m 0 7) (m 0 8) cods 25 = (if pvM m i 5 = 1 then 0 else vtS (pvM m i) (25 - 20) (m 0 7) cods) from rfl, show pvM m i 5 = m 5 (5 * i + 4) from rfl, hb, if_neg (by decide)] at this
    exact this
  · rw [if_neg (by rw [hb]; decide)]
    refine ⟨fun _ => ?_, fun z => absurd rfl z⟩
    have := hQ m (FrS.rf m)
    rw [show tdS (pvM m i) (m 0 7) (m 0 8) cods 25 = (if pvM m i 5 = 1 then 0 else vtS (pvM m i) (25 - 20) (m 0 7) cods) from rfl, show pvM m i 5 = m 5 (5 * i + 4) from rfl, if_pos hb] at this
    exact this
theorem tdM_26 {N i : Nat} {m : Sg} {cods : Nat → List Int32} {Q : Int32 → Sg → Prop} (hN : m 0 11 = nI N) (h8 : N ≤ 8) (hi : i < N) (hR : RuM m cods) (hb : m 5 (5 * i + 4) = 0 ∨ m 5 (5 * i + 4) = 1) (hQ : ∀ m', FrS m m' → Q (tdS (pvM m i) (m 0 7) (m 0 8) cods 26) m') : vv_X8_told (nI i) 26 m Q := by
  unfold vv_X8_told
  refine h_in (l := 10) (h := 17) rfl rfl ?_
  rw [if_neg (by decide)]
  refine ⟨fun z => absurd rfl z, fun _ => h_in (l := 20) (h := 27) rfl rfl ?_⟩
  rw [if_pos (by decide)]
  refine ⟨fun z => absurd z (by decide), fun _ => ?_⟩
  unfold vv_X8_told_J28
  unfold vv_X8_told_J33
  rintro y rfl
  refine h_in (l := 0) (h := 9) rfl rfl ?_
  rw [if_neg (by decide)]
  refine ⟨fun z => absurd rfl z, fun _ => ⟨fun z => absurd z (by decide), fun _ => ?_⟩⟩
  unfold vv_X8_told_J50
  refine ⟨fun z => absurd z (by decide), fun _ => h_isOne hN h8 (fun j hj e => ⟨fun _ => ?_, fun z => absurd z (by decide)⟩) (fun hn => absurd ⟨i, hi, rfl⟩ hn)⟩
  unfold vv_X8_told_J67
  refine ⟨fun z => absurd z (by decide), fun _ => ⟨fun _ => h_isWhole (by omega) ?_, fun z => absurd (by decide) z⟩⟩
  rcases hb with hb | hb
  · rw [if_pos hb]
    refine ⟨fun z => absurd z (by decide), fun _ => h_voteM (t := 26 - 20) (by omega) hR (fun m' F => ?_)⟩
    have := hQ m' F
    rw [show tdS (pvM m i) (m 0 7) (m 0 8) cods 26 = (if pvM m i 5 = 1 then 0 else vtS (pvM m i) (26 - 20) (m 0 7) cods) from rfl, show pvM m i 5 = m 5 (5 * i + 4) from rfl, hb, if_neg (by decide)] at this
    exact this
  · rw [if_neg (by rw [hb]; decide)]
    refine ⟨fun _ => ?_, fun z => absurd rfl z⟩
    have := hQ m (FrS.rf m)
    rw [show tdS (pvM m i) (m 0 7) (m 0 8) cods 26 = (if pvM m i 5 = 1 then 0 else vtS (pvM m i) (26 - 20) (m 0 7) cods) from rfl, show pvM m i 5 = m 5 (5 * i + 4) from rfl, if_pos hb] at this
    exact this
theorem tdM_27 {N i : Nat} {m : Sg} {cods : Nat → List Int32} {Q : Int32 → Sg → Prop} (hN : m 0 11 = nI N) (h8 : N ≤ 8) (hi : i < N) (hR : RuM m cods) (hb : m 5 (5 * i + 4) = 0 ∨ m 5 (5 * i + 4) = 1) (hQ : ∀ m', FrS m m' → Q (tdS (pvM m i) (m 0 7) (m 0 8) cods 27) m') : vv_X8_told (nI i) 27 m Q := by
  unfold vv_X8_told
  refine h_in (l := 10) (h := 17) rfl rfl ?_
  rw [if_neg (by decide)]
  refine ⟨fun z => absurd rfl z, fun _ => h_in (l := 20) (h := 27) rfl rfl ?_⟩
  rw [if_pos (by decide)]
  refine ⟨fun z => absurd z (by decide), fun _ => ?_⟩
  unfold vv_X8_told_J28
  unfold vv_X8_told_J33
  rintro y rfl
  refine h_in (l := 0) (h := 9) rfl rfl ?_
  rw [if_neg (by decide)]
  refine ⟨fun z => absurd rfl z, fun _ => ⟨fun z => absurd z (by decide), fun _ => ?_⟩⟩
  unfold vv_X8_told_J50
  refine ⟨fun z => absurd z (by decide), fun _ => h_isOne hN h8 (fun j hj e => ⟨fun _ => ?_, fun z => absurd z (by decide)⟩) (fun hn => absurd ⟨i, hi, rfl⟩ hn)⟩
  unfold vv_X8_told_J67
  refine ⟨fun z => absurd z (by decide), fun _ => ⟨fun _ => h_isWhole (by omega) ?_, fun z => absurd (by decide) z⟩⟩
  rcases hb with hb | hb
  · rw [if_pos hb]
    refine ⟨fun z => absurd z (by decide), fun _ => h_voteM (t := 27 - 20) (by omega) hR (fun m' F => ?_)⟩
    have := hQ m' F
    rw [show tdS (pvM m i) (m 0 7) (m 0 8) cods 27 = (if pvM m i 5 = 1 then 0 else vtS (pvM m i) (27 - 20) (m 0 7) cods) from rfl, show pvM m i 5 = m 5 (5 * i + 4) from rfl, hb, if_neg (by decide)] at this
    exact this
  · rw [if_neg (by rw [hb]; decide)]
    refine ⟨fun _ => ?_, fun z => absurd rfl z⟩
    have := hQ m (FrS.rf m)
    rw [show tdS (pvM m i) (m 0 7) (m 0 8) cods 27 = (if pvM m i 5 = 1 then 0 else vtS (pvM m i) (27 - 20) (m 0 7) cods) from rfl, show pvM m i 5 = m 5 (5 * i + 4) from rfl, if_pos hb] at this
    exact this
theorem tdM_out {m : Sg} {x1 x2 : Int32} {Q : Int32 → Sg → Prop} (hx : x2 < 0 ∨ 28 ≤ x2) (hQ : Q (-1000) m) : vv_X8_told x1 x2 m Q := by
  have no : ∀ l h : Int32, 0 ≤ l → h < 28 → ¬ (l ≤ x2 ∧ x2 ≤ h) := fun l h l0 h1 z => by
    rcases hx with q | q
    · exact absurd (Int32.le_trans l0 z.1) (Int32.not_le.mpr q)
    · exact Int32.lt_irrefl (Int32.lt_of_lt_of_le (Int32.lt_of_le_of_lt z.2 h1) q)
  unfold vv_X8_told
  refine h_in (l := 10) (h := 17) rfl rfl ?_
  rw [if_neg (no 10 17 (by decide) (by decide))]
  refine ⟨fun z => absurd rfl z, fun _ => h_in (l := 20) (h := 27) rfl rfl ?_⟩
  rw [if_neg (no 20 27 (by decide) (by decide))]
  refine ⟨fun _ => ?_, fun z => absurd rfl z⟩
  unfold vv_X8_told_J33
  rintro y rfl
  refine h_in (l := 0) (h := 9) rfl rfl ?_
  rw [if_neg (no 0 9 (by decide) (by decide))]
  exact ⟨fun z => absurd rfl z, fun _ => ⟨fun _ => hQ, fun z => absurd rfl z⟩⟩
theorem tdM_no {N : Nat} {m : Sg} {x1 x2 : Int32} {Q : Int32 → Sg → Prop} (hN : m 0 11 = nI N) (h8 : N ≤ 8) (hn : ¬ ∃ i, i < N ∧ x1 = nI i) (hx : ¬ (x2 < 0 ∨ 28 ≤ x2)) (hQ : Q (if x2 = 0 then m 0 7 else if x2 = 1 then m 0 8 else -1000) m) : vv_X8_told x1 x2 m Q := by
  have x0 : 0 ≤ x2 := Int32.not_lt.mp (fun z => hx (Or.inl z))
  have j50 : ∀ y : Int32, (y = 0 ∨ (y = 1 ∧ ¬ x2 ≤ 1)) → (y = 0 → x2 ≤ 9) → vv_X8_told_J50 x1 x2 y m Q := by
    intro y hy h9
    unfold vv_X8_told_J50
    refine ⟨fun z => ?_, fun z => h_isOne hN h8 (fun i hi e => absurd ⟨i, hi, e⟩ hn) (fun _ => ⟨fun q => absurd rfl q, fun _ => ?_⟩)⟩
    · have y0 : y = 0 := hy.resolve_right (fun q => q.2 z)
      unfold vv_X8_told_J67
      refine ⟨fun _ => ⟨fun q => absurd (Int32.le_trans q z) (by decide), fun _ => ⟨fun n0 => ⟨fun n1 => ?_, fun e1 => ?_⟩, fun e0 => ?_⟩⟩, fun q => absurd y0 q⟩
      · exfalso
        obtain ⟨j, hj, rfl⟩ := nI_of2 (n := 1) (M := 1) (by decide) (Int32.not_lt.mpr x0) z
        rcases (show j = 0 ∨ j = 1 by omega) with rfl | rfl
        · exact n0 rfl
        · exact n1 rfl
      · rw [if_neg n0, if_pos e1] at hQ; exact hQ
      · rw [if_pos e0] at hQ; exact hQ
    · rw [if_neg (fun q => z (by rw [q]; decide)), if_neg (fun q => z (by rw [q]; decide))] at hQ; exact hQ
  have j33 : ∀ y : Int32, (y = 0 ∨ (y = 1 ∧ ¬ x2 ≤ 1)) → vv_X8_told_J33 x1 x2 y m Q := by
    intro y hy
    unfold vv_X8_told_J33
    rintro w rfl
    refine h_in (l := 0) (h := 9) rfl rfl ?_
    by_cases h9 : (0 : Int32) ≤ x2 ∧ x2 ≤ 9
    · rw [if_pos h9]
      exact ⟨fun _ => j50 w hy (fun _ => h9.2), fun z => absurd z (by decide)⟩
    · rw [if_neg h9]
      refine ⟨fun z => absurd rfl z, fun _ => ⟨fun _ => ?_, fun z => j50 w hy (fun q => absurd q z)⟩⟩
      rw [if_neg (fun q => h9 (by rw [q]; decide)), if_neg (fun q => h9 (by rw [q]; decide))] at hQ; exact hQ
  unfold vv_X8_told vv_X8_told_J28
  refine h_in (l := 10) (h := 17) rfl rfl ?_
  by_cases h1 : (10 : Int32) ≤ x2 ∧ x2 ≤ 17
  · rw [if_pos h1]
    exact ⟨fun _ => j33 1 (Or.inr ⟨rfl, fun q => absurd (Int32.le_trans h1.1 q) (by decide)⟩), fun z => absurd z (by decide)⟩
  · rw [if_neg h1]
    refine ⟨fun z => absurd rfl z, fun _ => h_in (l := 20) (h := 27) rfl rfl ?_⟩
    by_cases h2 : (20 : Int32) ≤ x2 ∧ x2 ≤ 27
    · rw [if_pos h2]
      exact ⟨fun z => absurd z (by decide), fun _ => j33 1 (Or.inr ⟨rfl, fun q => absurd (Int32.le_trans h2.1 q) (by decide)⟩)⟩
    · rw [if_neg h2]
      exact ⟨fun _ => j33 0 (Or.inl rfl), fun z => absurd rfl z⟩
theorem tdS_congr {f g : Nat → Int32} (h : ∀ j, j < 6 → f j = g j) (d n : Int32) (cods : Nat → List Int32) (w : Nat) : tdS f d n cods w = tdS g d n cods w := by
  unfold tdS
  rw [wgS_congr h, smS_congr h, h 0 (by decide), h 5 (by decide)]
  by_cases hw : w < 7
  · rw [h (w - 1) (by omega)]; simp only [flS_congr h, vtS_congr h]
  · simp only [hw, if_false, flS_congr h, vtS_congr h]
theorem tdC_in {nt N i : Nat} {c : Sg} {cods : Nat → List Int32} {Q : Int32 → Sg → Prop} (hN : c 1 2 = nI N) (h8 : N ≤ 8) (hi : i < N) (hR : RuC nt c 1 cods) {w : Nat} (hw : w < 28) (hQ : ∀ c', FrT c c' → Q (tdS (c (26 + i)) (c 1 0) (c 1 3) cods w) c') : vv_X7_told nt (nI i) (nI w) c Q := by
  rcases (show w = 0 ∨ w = 1 ∨ w = 2 ∨ w = 3 ∨ w = 4 ∨ w = 5 ∨ w = 6 ∨ w = 7 ∨ w = 8 ∨ w = 9 ∨ w = 10 ∨ w = 11 ∨ w = 12 ∨ w = 13 ∨ w = 14 ∨ w = 15 ∨ w = 16 ∨ w = 17 ∨ w = 18 ∨ w = 19 ∨ w = 20 ∨ w = 21 ∨ w = 22 ∨ w = 23 ∨ w = 24 ∨ w = 25 ∨ w = 26 ∨ w = 27 by omega) with rfl | rfl | rfl | rfl | rfl | rfl | rfl | rfl | rfl | rfl | rfl | rfl | rfl | rfl | rfl | rfl | rfl | rfl | rfl | rfl | rfl | rfl | rfl | rfl | rfl | rfl | rfl | rfl
  · exact tdC_0 hN h8 hi hR hQ
  · exact tdC_1 hN h8 hi hR hQ
  · exact tdC_2 hN h8 hi hR hQ
  · exact tdC_3 hN h8 hi hR hQ
  · exact tdC_4 hN h8 hi hR hQ
  · exact tdC_5 hN h8 hi hR hQ
  · exact tdC_6 hN h8 hi hR hQ
  · exact tdC_7 hN h8 hi hR hQ
  · exact tdC_8 hN h8 hi hR hQ
  · exact tdC_9 hN h8 hi hR hQ
  · exact tdC_10 hN h8 hi hR hQ
  · exact tdC_11 hN h8 hi hR hQ
  · exact tdC_12 hN h8 hi hR hQ
  · exact tdC_13 hN h8 hi hR hQ
  · exact tdC_14 hN h8 hi hR hQ
  · exact tdC_15 hN h8 hi hR hQ
  · exact tdC_16 hN h8 hi hR hQ
  · exact tdC_17 hN h8 hi hR hQ
  · exact tdC_18 hN h8 hi hR hQ
  · exact tdC_19 hN h8 hi hR hQ
  · exact tdC_20 hN h8 hi hR hQ
  · exact tdC_21 hN h8 hi hR hQ
  · exact tdC_22 hN h8 hi hR hQ
  · exact tdC_23 hN h8 hi hR hQ
  · exact tdC_24 hN h8 hi hR hQ
  · exact tdC_25 hN h8 hi hR hQ
  · exact tdC_26 hN h8 hi hR hQ
  · exact tdC_27 hN h8 hi hR hQ
theorem tdM_in {N i : Nat} {m : Sg} {cods : Nat → List Int32} {Q : Int32 → Sg → Prop} (hN : m 0 11 = nI N) (h8 : N ≤ 8) (hi : i < N) (hR : RuM m cods) (hb : m 5 (5 * i + 4) = 0 ∨ m 5 (5 * i + 4) = 1) {w : Nat} (hw : w < 28) (hQ : ∀ m', FrS m m' → Q (tdS (pvM m i) (m 0 7) (m 0 8) cods w) m') : vv_X8_told (nI i) (nI w) m Q := by
  rcases (show w = 0 ∨ w = 1 ∨ w = 2 ∨ w = 3 ∨ w = 4 ∨ w = 5 ∨ w = 6 ∨ w = 7 ∨ w = 8 ∨ w = 9 ∨ w = 10 ∨ w = 11 ∨ w = 12 ∨ w = 13 ∨ w = 14 ∨ w = 15 ∨ w = 16 ∨ w = 17 ∨ w = 18 ∨ w = 19 ∨ w = 20 ∨ w = 21 ∨ w = 22 ∨ w = 23 ∨ w = 24 ∨ w = 25 ∨ w = 26 ∨ w = 27 by omega) with rfl | rfl | rfl | rfl | rfl | rfl | rfl | rfl | rfl | rfl | rfl | rfl | rfl | rfl | rfl | rfl | rfl | rfl | rfl | rfl | rfl | rfl | rfl | rfl | rfl | rfl | rfl | rfl
  · exact tdM_0 hN h8 hi hR hb hQ
  · exact tdM_1 hN h8 hi hR hb hQ
  · exact tdM_2 hN h8 hi hR hb hQ
  · exact tdM_3 hN h8 hi hR hb hQ
  · exact tdM_4 hN h8 hi hR hb hQ
  · exact tdM_5 hN h8 hi hR hb hQ
  · exact tdM_6 hN h8 hi hR hb hQ
  · exact tdM_7 hN h8 hi hR hb hQ
  · exact tdM_8 hN h8 hi hR hb hQ
  · exact tdM_9 hN h8 hi hR hb hQ
  · exact tdM_10 hN h8 hi hR hb hQ
  · exact tdM_11 hN h8 hi hR hb hQ
  · exact tdM_12 hN h8 hi hR hb hQ
  · exact tdM_13 hN h8 hi hR hb hQ
  · exact tdM_14 hN h8 hi hR hb hQ
  · exact tdM_15 hN h8 hi hR hb hQ
  · exact tdM_16 hN h8 hi hR hb hQ
  · exact tdM_17 hN h8 hi hR hb hQ
  · exact tdM_18 hN h8 hi hR hb hQ
  · exact tdM_19 hN h8 hi hR hb hQ
  · exact tdM_20 hN h8 hi hR hb hQ
  · exact tdM_21 hN h8 hi hR hb hQ
  · exact tdM_22 hN h8 hi hR hb hQ
  · exact tdM_23 hN h8 hi hR hb hQ
  · exact tdM_24 hN h8 hi hR hb hQ
  · exact tdM_25 hN h8 hi hR hb hQ
  · exact tdM_26 hN h8 hi hR hb hQ
  · exact tdM_27 hN h8 hi hR hb hQ
theorem what28 (x : Int32) : (x < 0 ∨ 28 ≤ x) ∨ ∃ w : Nat, w < 28 ∧ x = nI w := by
  by_cases h0 : x < 0
  · exact Or.inl (Or.inl h0)
  by_cases h1 : 28 ≤ x
  · exact Or.inl (Or.inr h1)
  obtain ⟨j, hj, rfl⟩ := nI_of h0
  exact Or.inr ⟨j, Nat.lt_of_not_le (fun q => h1 (nI_le (a := 28) q hj)), rfl⟩
theorem Rpap.burnt {m c : Sg} {N i : Nat} (h : Rpap m c N) (hi : i < N) : m 5 (5 * i + 4) = 0 ∨ m 5 (5 * i + 4) = 1 := (h.2.2.2 i hi).2.2.2.2.2.2
/-- both give one answer, whatever comes behind -/
def Both (m c : Sg) (VC VM : (Int32 → Sg → Prop) → Prop) : Prop := ∃ r : Int32, (∀ Q : Int32 → Sg → Prop, (∀ c', FrK c c' → Q r c') → VC Q) ∧ (∀ Q : Int32 → Sg → Prop, (∀ m', FrQ m m' → Q r m') → VM Q)
theorem Both.eq {m c : Sg} {nt : Nat} {VC VM : (Int32 → Sg → Prop) → Prop} (h : Rel m c nt) (hB : Both m c VC VM) : VC (fun r c' => VM (fun r' m' => r = r' ∧ Rel m' c' nt)) := by
  obtain ⟨r, h1, h2⟩ := hB
  exact h1 _ (fun c' F => h2 _ (fun m' G => ⟨rfl, h.frame G F⟩))
theorem told_both {m c : Sg} {nt : Nat} (h : Rel m c nt) (x1 x2 : Int32) : ∃ r : Int32, (∀ Q : Int32 → Sg → Prop, (∀ c', FrT c c' → Q r c') → vv_X7_told nt x1 x2 c Q) ∧ (∀ Q : Int32 → Sg → Prop, (∀ m', FrS m m' → Q r m') → vv_X8_told x1 x2 m Q) := by
  obtain ⟨cods, hM, hC⟩ := h.rule
  obtain ⟨N, hp, hd, -⟩ := h
  rcases what28 x2 with hx | ⟨w, hw, rfl⟩
  · exact ⟨-1000, fun Q hQ => tdC_out hp.2.1 hp.2.2.1 hx (hQ c (FrT.rf c)), fun Q hQ => tdM_out hx (hQ m (FrS.rf m))⟩
  · by_cases hn : ∃ i, i < N ∧ x1 = nI i
    · obtain ⟨i, hi, rfl⟩ := hn
      refine ⟨tdS (pvM m i) (m 0 7) (m 0 8) cods w, fun Q hQ => tdC_in hp.2.1 hp.2.2.1 hi hC hw (fun c' F => ?_), fun Q hQ => tdM_in hp.1 hp.2.2.1 hi hM (hp.burnt hi) hw hQ⟩
      rw [tdS_congr (hp.2.2.2 i hi).1, ← hd.1, ← hd.2.2.1]
      exact hQ c' F
    · refine ⟨if nI w = 0 then m 0 7 else if nI w = 1 then m 0 8 else -1000, fun Q hQ => tdC_no hp.2.1 hp.2.2.1 hn ?_, fun Q hQ => tdM_no hp.1 hp.2.2.1 hn (fun z => ?_) (hQ m (FrS.rf m))⟩
      · rw [← hd.1, ← hd.2.2.1]; exact hQ c (FrT.rf c)
      · rcases z with z | z
        · exact absurd z (nI_pos (by omega))
        · exact absurd z (nI_ge (b := 28) hw (by decide))
theorem eq_told {m c : Sg} {nt : Nat} (h : Rel m c nt) (x1 x2 : Int32) : vv_X7_told nt x1 x2 c (fun r c' => vv_X8_told x1 x2 m (fun r' m' => r = r' ∧ Rel m' c' nt)) := by
  obtain ⟨r, h1, h2⟩ := told_both h x1 x2
  exact Both.eq h ⟨r, fun Q hQ => h1 Q (fun c' F => hQ c' F.K), fun Q hQ => h2 Q (fun m' F => hQ m' F.Q)⟩
