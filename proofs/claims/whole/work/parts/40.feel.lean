/-! ===== how a paper feels, weighs, smooths, votes: one word for both ===== -/
def cl (v lo hi : Int32) : Int32 := if lo ≤ v then (if v ≤ hi then v else hi) else lo
def fvK (k t v : Int32) : Int32 := if k = 1 ∨ k = 3 then 2 * v else if k = 2 ∧ (t - t / 2 * 2) = 1 then -v else if k = 5 then v - 1 else v
def flS (pf : Nat → Int32) (t day : Int32) (cods : Nat → List Int32) : Int32 := if pf 0 = 4 then pf 2 else if pf 0 = 3 ∧ t = (pf 1 - pf 1 / 8 * 8) then 0 else fvK (pf 0) t (cl (val (envP pf t day) (cods 0)) (-99) 99)
def sgn (x : Int32) : Int32 := if x ≤ 0 then (if 0 ≤ x then 0 else -1) else 1
def vtS (pf : Nat → Int32) (t day : Int32) (cods : Nat → List Int32) : Int32 := sgn (flS pf t day cods)
def wkK (k nu v : Int32) : Int32 := if k = 1 ∨ k = 3 then v + nu else if k = 2 then v / 2 else if k = 4 then v / 2 + 1 else v
def wgS (pf : Nat → Int32) (day : Int32) (cods : Nat → List Int32) : Int32 := if pf 0 = 5 then 3 else cl (wkK (pf 0) (pf 1) (cl (val (envP pf 0 day) (cods 1)) 0 99)) 0 99
def skK (k nu v : Int32) : Int32 := if k = 2 ∨ k = 4 then 2 * v else if k = 3 then v + nu else v
def smS (pf : Nat → Int32) (day : Int32) (cods : Nat → List Int32) : Int32 := if pf 0 = 5 then 0 else cl (skK (pf 0) (pf 1) (cl (val (envP pf 0 day) (cods 2)) 0 99)) 0 99
theorem cl_rng {v lo hi : Int32} (h : lo ≤ hi) : lo ≤ cl v lo hi ∧ cl v lo hi ≤ hi := by
  unfold cl
  split
  · split
    · exact ⟨by assumption, by assumption⟩
    · exact ⟨h, Int32.le_refl _⟩
  · exact ⟨Int32.le_refl _, h⟩
theorem h_within {x lo hi : Int32} {m : Sg} {Q : Int32 → Sg → Prop} (h : Q (cl x lo hi) m) : vv_X8_within x lo hi m Q := by
  unfold vv_X8_within
  unfold cl at h
  exact ⟨fun a => ⟨fun b => by rw [if_pos a, if_pos b] at h; exact h, fun b => by rw [if_pos a, if_neg b] at h; exact h⟩, fun a => by rw [if_neg a] at h; exact h⟩
/-- of the reference -/
def pvM (m : Sg) (p : Nat) : Nat → Int32 := fun j => if j = 0 then m 4 p else m 5 (5 * p + (j - 1))
def FrS (m m' : Sg) : Prop := (∀ k, k ≠ 0 → m' k = m k) ∧ ∀ j, (j < 12 ∨ 26 < j) → m' 0 j = m 0 j
theorem FrS.rf (m : Sg) : FrS m m := ⟨fun _ _ => rfl, fun _ _ => rfl⟩
theorem FrS.tr {a b c : Sg} (h1 : FrS a b) (h2 : FrS b c) : FrS a c := ⟨fun k hk => by rw [h2.1 k hk, h1.1 k hk], fun j hj => by rw [h2.2 j hj, h1.2 j hj]⟩
theorem FrS.put (m : Sg) {j : Nat} (h : 12 ≤ j ∧ j ≤ 26) (x : Int32) : FrS m (st m 0 j x) := ⟨fun k hk => st_ne hk, fun i hi => st_off m (by omega) x⟩
theorem FrR.S {a b : Sg} (h : FrR a b) : FrS a b := ⟨h.1, fun j hj => h.2 j (by omega)⟩
theorem FrS.pv {m m' : Sg} (h : FrS m m') (p : Nat) : pvM m' p = pvM m p := by
  funext j
  unfold pvM
  rw [h.1 4 (by decide), h.1 5 (by decide)]
theorem ix5 (p : Nat) : (5 : Int32) * nI p = nI (5 * p) := by rw [show (5 : Int32) = nI 5 from rfl, pk_mul]
theorem ix5a (p j : Nat) : (5 : Int32) * nI p + nI j = nI (5 * p + j) := by rw [ix5, nI_add]
theorem ix5_1 (p : Nat) : (5 : Int32) * nI p + 1 = nI (5 * p + 1) := ix5a p 1
theorem ix5_2 (p : Nat) : (5 : Int32) * nI p + 2 = nI (5 * p + 2) := ix5a p 2
theorem ix5_3 (p : Nat) : (5 : Int32) * nI p + 3 = nI (5 * p + 3) := ix5a p 3
theorem ix5_4 (p : Nat) : (5 : Int32) * nI p + 4 = nI (5 * p + 4) := ix5a p 4
/-- the text that is the rule, in the reference: it can be read, and has these codes -/
def RuM (m : Sg) (cods : Nat → List Int32) : Prop := ∃ (r : Nat) (b : By) (n q : Nat), m 0 4 = nI r ∧ TxM m b n r ∧ pRead b n = (q, some (cods 0, cods 1, cods 2))
theorem RuM.keep {m m' : Sg} {cods : Nat → List Int32} (h : RuM m cods) (h4 : m' 0 4 = m 0 4) (h1 : m' 1 = m 1) (h2 : m' 2 = m 2) : RuM m' cods := by
  obtain ⟨r, b, n, q, a1, a2, a3⟩ := h
  refine ⟨r, b, n, q, by rw [h4]; exact a1, ?_, a3⟩
  unfold TxM at *
  rw [h1, h2]; exact a2
theorem FrS.Ru {m m' : Sg} {cods : Nat → List Int32} (h : FrS m m') (hr : RuM m cods) : RuM m' cods := hr.keep (h.2 4 (by omega)) (h.1 1 (by decide)) (h.1 2 (by decide))
set_option maxHeartbeats 1000000 in
theorem h_says {m : Sg} {p w : Nat} {x : Int32} {cods : Nat → List Int32} {Q : Int32 → Sg → Prop} (hp : p < 8) (hw : w < 3) (hR : RuM m cods) (hQ : ∀ m', FrS m m' → Q (cl (val (envP (pvM m p) x (m 0 7)) (cods w)) (if w = 0 then -99 else 0) 99) m') : vv_X8_says (nI w) (nI p) x m Q := by
  obtain ⟨r, b, n, q, hr, hX, hP⟩ := hR
  unfold vv_X8_says
  rw [ix5_3, ix5_1, ix5_2, ix5, nI_clamp (by omega), nI_clamp (by omega), nI_clamp (by omega), nI_clamp (by omega)]
  refine ⟨vp_in_nI (by omega) (by decide), ?_⟩
  rintro m1 rfl
  refine ⟨vp_in_nI (by omega) (by decide), ?_⟩
  rintro m2 rfl m3 rfl
  refine ⟨vp_in_nI (by omega) (by decide), ?_⟩
  rintro m4 rfl m5 rfl
  refine ⟨vp_in_nI (by omega) (by decide), ?_⟩
  intro m6 e6
  simp only [st_ne (show (5 : Nat) ≠ 0 by decide)] at e6
  have e7 : m6 0 7 = m 0 7 := by rw [e6]; simp only [st_off _ (show (7 : Nat) ≠ 17 by decide), st_off _ (show (7 : Nat) ≠ 16 by decide), st_off _ (show (7 : Nat) ≠ 15 by decide), st_off _ (show (7 : Nat) ≠ 14 by decide), st_off _ (show (7 : Nat) ≠ 13 by decide), st_off _ (show (7 : Nat) ≠ 12 by decide)]
  have F6 : FrS m m6 := by
    rw [e6]
    exact (((((FrS.put m (by decide) _).tr (FrS.put _ (by decide) _)).tr (FrS.put _ (by decide) _)).tr (FrS.put _ (by decide) _)).tr (FrS.put _ (by decide) _)).tr (FrS.put _ (by decide) _)
  have hX6 : TxM m6 b n r := by unfold TxM at *; rw [F6.1 1 (by decide), F6.1 2 (by decide)]; exact hX
  have envE : ∀ k, k < 6 → envP (pvM m p) x (m 0 7) k = envM m6 k := by
    intro k hk
    unfold envM
    rcases (show k = 0 ∨ k = 1 ∨ k = 2 ∨ k = 3 ∨ k = 4 ∨ k = 5 by omega) with rfl | rfl | rfl | rfl | rfl | rfl
    · rw [e6]; simp [st, envP, pvM]
    · rw [e6]; simp [st, envP, pvM]
    · rw [e6]; simp [st, envP, pvM]
    · rw [e6]; simp [st, envP, pvM]
    · rw [e6]; simp [st, envP, pvM]
    · rw [e6]; simp [st, envP, pvM]
  have e4 : m6 0 4 = nI r := by rw [F6.2 4 (by omega)]; exact hr
  rw [e4]
  refine h_read hX6 hw (fun q' e m' v F B => ?_) (fun q' c0 c1 c2 e m' v F hb hv => ?_)
  · rw [hP] at e; simp at e
  · rw [hP] at e
    simp only [Prod.mk.injEq, Option.some.injEq] at e
    obtain ⟨-, rfl, rfl, rfl⟩ := e
    have ev := hv (envP (pvM m p) x (m 0 7)) envE
    have ec : (if w = 0 then cods 0 else if w = 1 then cods 1 else cods 2) = cods w := by
      rcases (show w = 0 ∨ w = 1 ∨ w = 2 by omega) with rfl | rfl | rfl <;> rfl
    rw [ec] at ev
    have fin := hQ m' (F6.tr F.S)
    rw [← ev] at fin
    unfold vv_X8_says_J86
    rcases (show w = 0 ∨ w = 1 ∨ w = 2 by omega) with rfl | rfl | rfl
    · exact ⟨fun z => absurd (show nI 0 = 0 from rfl) z, fun _ => h_within fin⟩
    · exact ⟨fun _ => h_within fin, fun z => absurd z (by decide)⟩
    · exact ⟨fun _ => h_within fin, fun z => absurd z (by decide)⟩
theorem h_feelsM {m : Sg} {p : Nat} {t : Int32} {cods : Nat → List Int32} {Q : Int32 → Sg → Prop} (hp : p < 8) (hR : RuM m cods) (hQ : ∀ m', FrS m m' → Q (flS (pvM m p) t (m 0 7) cods) m') : vv_X8_feelsOf (nI p) t m Q := by
  have k0 : pvM m p 0 = m 4 p := rfl
  have k1 : pvM m p 1 = m 5 (5 * p) := rfl
  have k2 : pvM m p 2 = m 5 (5 * p + 1) := rfl
  unfold vv_X8_feelsOf
  rw [ix5, nI_clamp (by omega), nI_clamp (by omega)]
  refine ⟨vp_in_nI hp (by decide), ?_⟩
  rintro k rfl
  have says : ∀ k : Int32, k = m 4 p → ¬ k = 4 → ¬ (k = 3 ∧ t = (m 5 (5 * p) - m 5 (5 * p) / 8 * 8)) → vv_X8_feelsOf_J52 (nI p) t k m Q := by
    intro k hk n4 n3
    unfold vv_X8_feelsOf_J52
    refine h_says (w := 0) hp (by decide) hR (fun m' F => ?_)
    have fin := hQ m' F
    unfold flS at fin
    rw [k0, k1, ← hk, if_neg n4, if_neg n3] at fin
    rw [if_pos rfl]
    generalize cl (val (envP (pvM m p) t (m 0 7)) (cods 0)) (-99) 99 = v at fin
    rintro y rfl
    unfold fvK at fin
    unfold vv_X8_feelsOf_J71 vv_X8_feelsOf_J96
    refine ⟨fun e1 => ?_, fun n1 => ⟨fun n3' => ⟨fun n2 => ⟨fun n5 => ?_, fun e5 => ?_⟩, fun e2 => ⟨fun no => ⟨fun n5 => ?_, fun e5 => ?_⟩, fun od => ?_⟩⟩, fun e3 => ?_⟩⟩
    · rw [if_pos (Or.inl e1)] at fin; exact fin
    · rw [if_neg (fun z => z.elim n1 n3'), if_neg (fun z => n2 z.1), if_neg n5] at fin; exact fin
    · rw [if_neg (fun z => z.elim n1 n3'), if_neg (fun z => n2 z.1), if_pos e5] at fin; exact fin
    · rw [if_neg (fun z => z.elim n1 n3'), if_neg (fun z => no z.2), if_neg n5] at fin; exact fin
    · rw [e2] at e5; exact absurd e5 (by decide)
    · rw [if_neg (fun z => z.elim n1 n3'), if_pos ⟨e2, od⟩] at fin; exact fin
    · rw [if_pos (Or.inr e3)] at fin; exact fin
  have self := hQ m (FrS.rf m)
  unfold flS at self
  rw [k0, k1, k2] at self
  refine ⟨fun e4 => ?_, fun n4 => ⟨fun n3 => says _ rfl n4 (fun z => n3 z.1), fun e3 => ⟨vp_in_nI (by omega) (by decide), fun nt => says _ rfl n4 (fun z => nt z.2), fun et => ?_⟩⟩⟩
  · unfold vv_X8_feelsOf_J32
    rw [ix5_1, nI_clamp (by omega)]
    rw [if_pos e4] at self
    exact ⟨fun z => absurd e4 z, fun _ => ⟨vp_in_nI (by omega) (by decide), self⟩⟩
  · unfold vv_X8_feelsOf_J32
    rw [if_neg n4, if_pos ⟨e3, et⟩] at self
    exact ⟨fun _ => self, fun z => absurd z n4⟩
theorem h_voteM {m : Sg} {p : Nat} {t : Int32} {cods : Nat → List Int32} {Q : Int32 → Sg → Prop} (hp : p < 8) (hR : RuM m cods) (hQ : ∀ m', FrS m m' → Q (vtS (pvM m p) t (m 0 7) cods) m') : vv_X8_voteOf (nI p) t m Q := by
  unfold vv_X8_voteOf
  refine h_feelsM hp hR (fun m' F => ?_)
  have fin := hQ m' F
  unfold vtS sgn at fin
  rintro y rfl
  refine ⟨fun a => ⟨fun b => ?_, fun b => ?_⟩, fun a => ?_⟩
  · rw [if_pos a, if_pos b] at fin; exact fin
  · rw [if_pos a, if_neg b] at fin; exact fin
  · rw [if_neg a] at fin; exact fin
theorem h_weighsM {m : Sg} {p : Nat} {cods : Nat → List Int32} {Q : Int32 → Sg → Prop} (hp : p < 8) (hR : RuM m cods) (hQ : ∀ m', FrS m m' → Q (wgS (pvM m p) (m 0 7) cods) m') : vv_X8_weighsOf (nI p) m Q := by
  have k0 : pvM m p 0 = m 4 p := rfl
  have k1 : pvM m p 1 = m 5 (5 * p) := rfl
  unfold vv_X8_weighsOf
  rw [nI_clamp (by omega)]
  refine ⟨vp_in_nI hp (by decide), ?_⟩
  rintro k rfl
  refine ⟨fun n5 => ?_, fun e5 => ?_⟩
  · refine h_says (w := 1) (x := 0) hp (by decide) hR (fun m' F => ?_)
    have fin := hQ m' F
    unfold wgS at fin
    rw [k0, k1, if_neg n5] at fin
    rw [if_neg (by decide)]
    generalize cl (val (envP (pvM m p) 0 (m 0 7)) (cods 1)) 0 99 = v at fin
    rintro y rfl
    have e5' : m' 5 (5 * p) = m 5 (5 * p) := by rw [F.1 5 (by decide)]
    have j70 : ∀ z, z = wkK (m 4 p) (m 5 (5 * p)) y → vv_X8_weighsOf_J70 z m' Q := fun z hz => by
      unfold vv_X8_weighsOf_J70
      rintro a rfl
      refine h_within ?_
      rw [hz]; exact fin
    unfold vv_X8_weighsOf_J32
    rw [ix5, nI_clamp (by omega), e5']
    refine ⟨fun e1 => ⟨vp_in_nI (by omega) (by decide), j70 _ ?_⟩, fun n1 => ⟨fun n3 => ⟨fun n2 => ⟨fun n4 => j70 _ ?_, fun e4 => j70 _ ?_⟩, fun e2 => j70 _ ?_⟩, fun e3 => ⟨vp_in_nI (by omega) (by decide), j70 _ ?_⟩⟩⟩
    · unfold wkK; rw [if_pos (Or.inl e1)]
    · unfold wkK; rw [if_neg (fun z => z.elim n1 n3), if_neg n2, if_neg n4]
    · unfold wkK; rw [if_neg (fun z => z.elim n1 n3), if_neg n2, if_pos e4]
    · unfold wkK; rw [if_neg (fun z => z.elim n1 n3), if_pos e2]
    · unfold wkK; rw [if_pos (Or.inr e3)]
  · have fin := hQ m (FrS.rf m)
    unfold wgS at fin
    rw [k0, if_pos e5] at fin
    exact fin
theorem h_smoothsM {m : Sg} {p : Nat} {cods : Nat → List Int32} {Q : Int32 → Sg → Prop} (hp : p < 8) (hR : RuM m cods) (hQ : ∀ m', FrS m m' → Q (smS (pvM m p) (m 0 7) cods) m') : vv_X8_smoothsOf (nI p) m Q := by
  have k0 : pvM m p 0 = m 4 p := rfl
  have k1 : pvM m p 1 = m 5 (5 * p) := rfl
  unfold vv_X8_smoothsOf
  rw [nI_clamp (by omega)]
  refine ⟨vp_in_nI hp (by decide), ?_⟩
  rintro k rfl
  refine ⟨fun n5 => ?_, fun e5 => ?_⟩
  · refine h_says (w := 2) (x := 0) hp (by decide) hR (fun m' F => ?_)
    have fin := hQ m' F
    unfold smS at fin
    rw [k0, k1, if_neg n5] at fin
    rw [if_neg (by decide)]
    generalize cl (val (envP (pvM m p) 0 (m 0 7)) (cods 2)) 0 99 = v at fin
    rintro y rfl
    have e5' : m' 5 (5 * p) = m 5 (5 * p) := by rw [F.1 5 (by decide)]
    have j57 : ∀ z, z = skK (m 4 p) (m 5 (5 * p)) y → vv_X8_smoothsOf_J57 z m' Q := fun z hz => by
      unfold vv_X8_smoothsOf_J57
      refine h_within ?_
      rw [hz]; exact fin
    unfold vv_X8_smoothsOf_J32
    rw [ix5, nI_clamp (by omega), e5']
    refine ⟨fun e2 => j57 _ ?_, fun n2 => ⟨fun n4 => ⟨fun n3 => j57 _ ?_, fun e3 => ⟨vp_in_nI (by omega) (by decide), j57 _ ?_⟩⟩, fun e4 => j57 _ ?_⟩⟩
    · unfold skK; rw [if_pos (Or.inl e2)]
    · unfold skK; rw [if_neg (fun z => z.elim n2 n4), if_neg n3]
    · unfold skK; rw [if_neg (fun z => z.elim n2 n4), if_pos e3]
    · unfold skK; rw [if_pos (Or.inr e4)]
  · have fin := hQ m (FrS.rf m)
    unfold smS at fin
    rw [k0, if_pos e5] at fin
    exact fin
/-- of the class -/
def FrT (c c' : Sg) : Prop := ∀ k, (k < 50 ∨ k % 3 ≠ 1) → c' k = c k
theorem FrT.rf (c : Sg) : FrT c c := fun _ _ => rfl
theorem FrT.tr {a b c : Sg} (h1 : FrT a b) (h2 : FrT b c) : FrT a c := fun k hk => by rw [h2 k hk, h1 k hk]
theorem CodC.keep {c c' : Sg} {T : Nat} {cods : Nat → List Int32} (h : CodC c T cods) (h1 : c' T = c T) (h2 : c' (T + 1) = c (T + 1)) : CodC c' T cods := by
  unfold CodC at *
  rw [h1, h2]; exact h
theorem FrT.Cod {c c' : Sg} {nt T : Nat} {cods : Nat → List Int32} (h : FrT c c') (hT : isT nt T) (hc : CodC c T cods) : CodC c' T cods := hc.keep (h T (Or.inr (by have := hT.2.1; omega))) (h (T + 1) (Or.inr (by have := hT.2.1; omega)))
theorem bnd_cl {x lo hi : Int32} (h : lo ≤ hi) : (if lo < (if x < hi then x else hi) then (if x < hi then x else hi) else lo) = cl x lo hi := by
  unfold cl
  by_cases h1 : x < hi
  · rw [if_pos h1]
    by_cases h2 : lo < x
    · rw [if_pos h2, if_pos (Int32.le_of_lt h2), if_pos (Int32.le_of_lt h1)]
    · rw [if_neg h2]
      by_cases h3 : lo ≤ x
      · rw [if_pos h3, if_pos (Int32.le_of_lt h1)]
        exact Int32.le_antisymm h3 (Int32.not_lt.mp h2)
      · rw [if_neg h3]
  · rw [if_neg h1]
    have h4 : lo ≤ x := Int32.le_trans h (Int32.not_lt.mp h1)
    rw [if_pos h4]
    by_cases h2 : lo < hi
    · rw [if_pos h2]
      by_cases h3 : x ≤ hi
      · rw [if_pos h3]; exact Int32.le_antisymm (Int32.not_lt.mp h1) h3
      · rw [if_neg h3]
    · rw [if_neg h2]
      have e : lo = hi := Int32.le_antisymm h (Int32.not_lt.mp h2)
      by_cases h3 : x ≤ hi
      · rw [if_pos h3, e]; exact Int32.le_antisymm (Int32.not_lt.mp h1) h3
      · rw [if_neg h3, e]
theorem h_bounded {nt : Nat} {x lo hi : Int32} {c : Sg} {Q : Int32 → Sg → Prop} (hl : lo ≤ hi) (h : Q (cl x lo hi) c) : vv_X7_bounded nt x lo hi c Q := by
  unfold vv_X7_bounded
  rw [bnd_cl hl]; exact h
theorem h_textOf {nt r : Nat} {c : Sg} {Q : Nat → Sg → Prop} (hr : r < 6) (hT : isT nt (tx c (nI r))) (hQ : Q (tx c (nI r)) c) : vv_X7_textOf nt (nI r) c Q := by
  unfold vv_X7_textOf vv_X7_textOf_J19
  exact ⟨fun z => absurd z (nI_pos (by omega)), fun _ => ⟨fun z => absurd z (nI_ge (b := 6) hr (by decide)), fun _ => ⟨vp_in_nI hr (by decide), hT, hQ⟩⟩⟩
theorem FrT.P {c c' : Sg} (h : FrT c c') {P : Nat} (hP : isP P) : c' P = c P := h P (Or.inl (by unfold isP at hP; omega))
theorem h_valueT {nt T P w : Nat} {topic day : Int32} {g : Sg} {Q : Int32 → Sg → Prop} {cods : Nat → List Int32} (hT : isT nt T) (hP : isP P) (hw : w < 3) (hc : CodC g T cods) (hQ : ∀ g', FrT g g' → Q (val (envP (g P) topic day) (cods w)) g') : vv_X6_value nt T (nI w) P topic day g Q :=
  h_value hT hP hw hc (fun g' h => hQ g' (fun k hk => h k (by have := hT.1; have := hT.2.1; omega)))
theorem h_feelingC {nt T P : Nat} {t day : Int32} {c : Sg} {cods : Nat → List Int32} {Q : Int32 → Sg → Prop} (hT : isT nt T) (hP : isP P) (hc : CodC c T cods) (ht : t - t / 2 * 2 = 0 ∨ t - t / 2 * 2 = 1) (hQ : ∀ c', FrT c c' → Q (flS (c P) t day cods) c') : vv_X7_feelingOf nt P t T day c Q := by
  unfold vv_X7_feelingOf
  refine ⟨hP, hT, h_valueT (w := 0) hT hP (by decide) hc (fun c' F => h_bounded (by decide) ?_)⟩
  have fin := hQ c' F
  unfold flS at fin
  generalize cl (val (envP (c P) t day) (cods 0)) (-99) 99 = v at fin
  rintro y rfl
  rw [F.P hP]
  unfold fvK at fin
  refine ⟨fun e1 => ?_, fun e2 => ⟨fun o => ?_, fun o => ?_⟩, fun e3 => ⟨fun o => ?_, fun o => ?_⟩, fun e4 => ?_, fun e5 => ?_, fun n1 n2 n3 n4 n5 => ?_⟩
  · rw [if_neg (by rw [e1]; decide), if_neg (fun z => absurd (e1.symm.trans z.1) (by decide)), if_pos (Or.inl e1)] at fin; exact fin
  · rw [if_neg (by rw [e2]; decide), if_neg (fun z => absurd (e2.symm.trans z.1) (by decide)), if_neg (fun z => z.elim (fun z => absurd (e2.symm.trans z) (by decide)) (fun z => absurd (e2.symm.trans z) (by decide))), if_pos ⟨e2, ht.resolve_left o⟩] at fin; exact fin
  · rw [if_neg (by rw [e2]; decide), if_neg (fun z => absurd (e2.symm.trans z.1) (by decide)), if_neg (fun z => z.elim (fun z => absurd (e2.symm.trans z) (by decide)) (fun z => absurd (e2.symm.trans z) (by decide))), if_neg (fun z => absurd (o.symm.trans z.2) (by decide)), if_neg (by rw [e2]; decide)] at fin; exact fin
  · rw [if_neg (by rw [e3]; decide), if_neg (fun z => o z.2), if_pos (Or.inr e3)] at fin; exact fin
  · rw [if_neg (by rw [e3]; decide), if_pos ⟨e3, o⟩] at fin; exact fin
  · rw [if_pos e4] at fin; exact fin
  · rw [if_neg (by rw [e5]; decide), if_neg (fun z => absurd (e5.symm.trans z.1) (by decide)), if_neg (fun z => z.elim (fun z => absurd (e5.symm.trans z) (by decide)) (fun z => absurd (e5.symm.trans z) (by decide))), if_neg (fun z => absurd (e5.symm.trans z.1) (by decide)), if_pos e5] at fin; exact fin
  · rw [if_neg n4, if_neg (fun z => n3 z.1), if_neg (fun z => z.elim n1 n3), if_neg (fun z => n2 z.1), if_neg n5] at fin; exact fin
theorem h_compare0 {nt : Nat} {x : Int32} {c : Sg} {Q : Int32 → Sg → Prop} (h : Q (sgn x) c) : vv_J6_compare_7cf53 nt x 0 c Q := by
  unfold vv_J6_compare_7cf53
  unfold sgn at h
  refine ⟨fun a => ⟨fun b => ?_, fun b => ?_⟩, fun a => ?_⟩
  · rw [if_neg (fun z => b (Int32.le_antisymm z a))] at h; exact h
  · rw [if_pos (by rw [b]; decide), if_pos a] at h; exact h
  · rw [if_pos (Int32.le_of_lt (Int32.not_le.mp a)), if_neg a] at h; exact h
theorem h_voteC {nt T P : Nat} {t day : Int32} {c : Sg} {cods : Nat → List Int32} {Q : Int32 → Sg → Prop} (hT : isT nt T) (hP : isP P) (hc : CodC c T cods) (ht : t - t / 2 * 2 = 0 ∨ t - t / 2 * 2 = 1) (hQ : ∀ c', FrT c c' → Q (vtS (c P) t day cods) c') : vv_X7_voteOf nt P t T day c Q := by
  unfold vv_X7_voteOf
  exact ⟨hP, hT, h_feelingC hT hP hc ht (fun c' F => h_compare0 (hQ c' F))⟩
/-- the rule of a basket, in the class -/
def RuC (nt : Nat) (c : Sg) (B : Nat) (cods : Nat → List Int32) : Prop := ∃ r : Nat, r < 6 ∧ c B 1 = nI r ∧ isT nt (tx c (nI r)) ∧ CodC c (tx c (nI r)) cods
theorem tx_keep {c c' : Sg} (h : c' 12 = c 12) (i : Int32) : tx c' i = tx c i := by unfold tx; rw [h]
theorem FrT.Ru {nt : Nat} {c c' : Sg} {B : Nat} {cods : Nat → List Int32} (h : FrT c c') (hB : isB B) (hr : RuC nt c B cods) : RuC nt c' B cods := by
  obtain ⟨r, a1, a2, a3, a4⟩ := hr
  have e := tx_keep (h 12 (Or.inl (by decide))) (nI r)
  exact ⟨r, a1, by rw [h B (Or.inl (by have := hB.2; omega))]; exact a2, by rw [e]; exact a3, by rw [e]; exact h.Cod a3 a4⟩
theorem h_castC {nt B P : Nat} {t : Int32} {c : Sg} {cods : Nat → List Int32} {Q : Int32 → Sg → Prop} (hB : isB B) (hP : isP P) (hR : RuC nt c B cods) (ht : t - t / 2 * 2 = 0 ∨ t - t / 2 * 2 = 1) (hQ : ∀ c', FrT c c' → Q (if c P 5 = 1 then 0 else vtS (c P) t (c B 0) cods) c') : vv_X7_castVote nt B P t c Q := by
  obtain ⟨r, a1, a2, a3, a4⟩ := hR
  unfold vv_X7_castVote
  refine ⟨hB, hP, fun z => ?_, fun z => ?_⟩
  · rw [a2]
    refine h_textOf a1 a3 ⟨a3, h_voteC a3 hP a4 ht (fun c' F => ?_)⟩
    have := hQ c' F
    rw [if_neg z] at this
    exact this
  · have := hQ c (FrT.rf c)
    rw [if_pos z] at this
    exact this
theorem h_weightC {nt B P : Nat} {c : Sg} {cods : Nat → List Int32} {Q : Int32 → Sg → Prop} (hB : isB B) (hP : isP P) (hR : RuC nt c B cods) (hQ : ∀ c', FrT c c' → Q (wgS (c P) (c B 0) cods) c') : vv_X7_weightOf nt B P c Q := by
  obtain ⟨r, a1, a2, a3, a4⟩ := hR
  unfold vv_X7_weightOf
  refine ⟨hB, hP, ?_⟩
  rw [a2]
  refine h_textOf a1 a3 ⟨a3, h_valueT (w := 1) a3 hP (by decide) a4 (fun c' F => h_bounded (by decide) ?_)⟩
  have fin := hQ c' F
  unfold wgS at fin
  generalize cl (val (envP (c P) 0 (c B 0)) (cods 1)) 0 99 = v at fin
  rintro y rfl
  unfold vv_X7_kindWeighs
  rw [F.P hP]
  unfold wkK at fin
  refine ⟨hP, fun e1 => h_bounded (by decide) ?_, fun e2 => h_bounded (by decide) ?_, fun e3 => h_bounded (by decide) ?_, fun e4 => h_bounded (by decide) ?_, fun e5 => h_bounded (by decide) ?_, fun n1 n2 n3 n4 n5 => h_bounded (by decide) ?_⟩
  · rw [if_neg (by rw [e1]; decide), if_pos (Or.inl e1)] at fin; exact fin
  · rw [if_neg (by rw [e2]; decide), if_neg (by rw [e2]; decide), if_pos e2] at fin; exact fin
  · rw [if_neg (by rw [e3]; decide), if_pos (Or.inr e3)] at fin; exact fin
  · rw [if_neg (by rw [e4]; decide), if_neg (by rw [e4]; decide), if_neg (by rw [e4]; decide), if_pos e4] at fin; exact fin
  · rw [if_pos e5] at fin; exact fin
  · rw [if_neg n5, if_neg (fun z => z.elim n1 n3), if_neg n2, if_neg n4] at fin; exact fin
theorem h_smoothC {nt B P : Nat} {c : Sg} {cods : Nat → List Int32} {Q : Int32 → Sg → Prop} (hB : isB B) (hP : isP P) (hR : RuC nt c B cods) (hQ : ∀ c', FrT c c' → Q (smS (c P) (c B 0) cods) c') : vv_X7_smoothingOf nt B P c Q := by
  obtain ⟨r, a1, a2, a3, a4⟩ := hR
  unfold vv_X7_smoothingOf
  refine ⟨hB, hP, ?_⟩
  rw [a2]
  refine h_textOf a1 a3 ⟨a3, h_valueT (w := 2) a3 hP (by decide) a4 (fun c' F => h_bounded (by decide) ?_)⟩
  have fin := hQ c' F
  unfold smS at fin
  generalize cl (val (envP (c P) 0 (c B 0)) (cods 2)) 0 99 = v at fin
  rintro y rfl
  unfold vv_X7_kindSmooths
  rw [F.P hP]
  unfold skK at fin
  refine ⟨hP, fun e2 => h_bounded (by decide) ?_, fun e3 => h_bounded (by decide) ?_, fun e4 => h_bounded (by decide) ?_, fun e5 => h_bounded (by decide) ?_, fun n2 n3 n4 n5 => h_bounded (by decide) ?_⟩
  · rw [if_neg (by rw [e2]; decide), if_pos (Or.inl e2)] at fin; exact fin
  · rw [if_neg (by rw [e3]; decide), if_neg (by rw [e3]; decide), if_pos e3] at fin; exact fin
  · rw [if_neg (by rw [e4]; decide), if_pos (Or.inr e4)] at fin; exact fin
  · rw [if_pos e5] at fin; exact fin
  · rw [if_neg n5, if_neg (fun z => z.elim n2 n4), if_neg n3] at fin; exact fin
theorem par_nI : ∀ j, j < 8 → (nI j - nI j / 2 * 2 = 0 ∨ nI j - nI j / 2 * 2 = 1) := by decide +kernel
