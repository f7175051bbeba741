section
/-! ===== tells(): the first topic on which a sheet tells otherwise; sets, counts, the least ===== -/
def foS (V u : Nat → Int32) : Nat → Nat → Int32
  | 0, _ => -1
  | d + 1, t => if V t = u t then foS V u d (t + 1) else nI t
def fo8 (V u : Nat → Int32) : Int32 := foS V u 8 0
theorem foS_congr {V V' u u' : Nat → Int32} : ∀ d t, (∀ k, t ≤ k → k < t + d → V k = V' k ∧ u k = u' k) → foS V u d t = foS V' u' d t := by
  intro d
  induction d with
  | zero => intro t _; rfl
  | succ d ih =>
    intro t h
    rw [foS, foS, (h t (by omega) (by omega)).1, (h t (by omega) (by omega)).2, ih (t + 1) (fun k h1 h2 => h k (by omega) (by omega))]
theorem fo8_congr {V V' u u' : Nat → Int32} (h : ∀ k, k < 8 → V k = V' k ∧ u k = u' k) : fo8 V u = fo8 V' u' := foS_congr 8 0 (fun k _ hk => h k (by omega))
def vvS (f : Nat → Int32) (D : Int32) (co : Nat → List Int32) (t : Nat) : Int32 := vtS f (nI t) D co
theorem firC_L {nt s Pc T : Nat} {c : Sg} {co : Nat → List Int32} {Q : Int32 → Sg → Prop} (hs : s < 4) (hP : isP Pc) (hT : isT nt T) (hc : CodC c T co) (hz : c (14 + s) 1 = nI 8) (hQ : ∀ c', FrT c c' → Q (fo8 (c (18 + s)) (vvS (c Pc) (c 1 0) co)) c') : ∀ d t g, t + d = 8 → FrT c g → foS (c (18 + s)) (vvS (c Pc) (c 1 0) co) d t = fo8 (c (18 + s)) (vvS (c Pc) (c 1 0) co) → vv_X7_firstOtherwise_L3 nt Q (d + 1) (14 + s) Pc T (nI t) g := by
  intro d
  induction d with
  | zero =>
    intro t g ht F e
    have e8 : t = 8 := by omega
    subst e8
    unfold vv_X7_firstOtherwise_L3
    have fin := hQ g F
    rw [foS] at e
    rw [← e] at fin
    exact ⟨fun _ => fin, fun z => absurd (show (8 : Int32) ≤ nI 8 from by decide) z⟩
  | succ d ih =>
    intro t g ht F e
    unfold vv_X7_firstOtherwise_L3
    refine ⟨fun z => absurd z (nI_ge (b := 8) (by omega) (by omega)), fun _ => h_sget (z := 8) hs (by rw [F _ (by omega)]; exact hz) (by omega) (by omega) (h_voteC hT hP (F.Cod hT hc) (par_nI t (by omega)) (fun g2 F2 => ?_))⟩
    rw [F (18 + s) (by omega), F.P hP, F 1 (by omega)]
    rw [foS] at e
    refine ⟨fun z => ?_, fun z => ?_⟩
    · intro a ea
      rw [ea, nI_1]
      have z' : c (18 + s) t = vvS (c Pc) (c 1 0) co t := z
      rw [if_pos z'] at e
      exact ih (t + 1) g2 (by omega) (F.tr F2) e
    · have z' : ¬ c (18 + s) t = vvS (c Pc) (c 1 0) co t := z
      rw [if_neg z'] at e
      have fin := hQ g2 (F.tr F2)
      rw [← e] at fin
      exact fin
theorem h_firC {nt s Pc T : Nat} {c : Sg} {co : Nat → List Int32} {Q : Int32 → Sg → Prop} (hs : s < 4) (hP : isP Pc) (hT : isT nt T) (hc : CodC c T co) (hz : c (14 + s) 1 = nI 8) (hQ : ∀ c', FrT c c' → Q (fo8 (c (18 + s)) (vvS (c Pc) (c 1 0) co)) c') : vv_X7_firstOtherwise nt (14 + s) Pc T c Q := by
  unfold vv_X7_firstOtherwise
  refine ⟨⟨by omega, by omega⟩, hP, hT, ?_⟩
  intro a ea
  rw [ea]
  exact ⟨9, firC_L hs hP hT hc hz hQ 8 0 c (by omega) (FrT.rf c) rfl⟩
def itM (m : Sg) (s t : Nat) : Int32 := m 12 (40 * s + t)
theorem firM_L {s p : Nat} {m : Sg} {co : Nat → List Int32} {Q : Int32 → Sg → Prop} (hs : s < 4) (hp : p < 8) (hR : RuM m co) (hQ : ∀ m', FrS m m' → Q (fo8 (itM m s) (vvS (pvM m p) (m 0 7) co)) m') : ∀ d t g, t + d = 8 → FrS m g → foS (itM m s) (vvS (pvM m p) (m 0 7) co) d t = fo8 (itM m s) (vvS (pvM m p) (m 0 7) co) → vv_X8_firstOther_L2 Q (d + 1) (nI s) (nI p) (nI t) g := by
  intro d
  induction d with
  | zero =>
    intro t g ht F e
    have e8 : t = 8 := by omega
    subst e8
    unfold vv_X8_firstOther_L2
    have fin := hQ g F
    rw [foS] at e
    rw [← e] at fin
    exact ⟨fun _ => fin, fun z => absurd (show (8 : Int32) ≤ nI 8 from by decide) z⟩
  | succ d ih =>
    intro t g ht F e
    unfold vv_X8_firstOther_L2
    rw [ix40, nI_clamp (n := 40 * s + t) (by omega)]
    refine ⟨fun z => absurd z (nI_ge (b := 8) (by omega) (by omega)), fun _ => h_voteM hp (F.Ru hR) (fun g2 F2 => ⟨vp_in_nI (by omega) (by decide), ?_⟩)⟩
    rw [(F.tr F2).1 12 (by decide), F.pv p, F.2 7 (by omega)]
    rw [foS] at e
    refine ⟨fun z => ?_, fun z => ?_⟩
    · intro a ea
      rw [ea, nI_1]
      have z' : itM m s t = vvS (pvM m p) (m 0 7) co t := z.symm
      rw [if_pos z'] at e
      exact ih (t + 1) g2 (by omega) (F.tr F2) e
    · have z' : ¬ itM m s t = vvS (pvM m p) (m 0 7) co t := fun w => z w.symm
      rw [if_neg z'] at e
      have fin := hQ g2 (F.tr F2)
      rw [← e] at fin
      exact fin
theorem h_firM {s p : Nat} {m : Sg} {co : Nat → List Int32} {Q : Int32 → Sg → Prop} (hs : s < 4) (hp : p < 8) (hR : RuM m co) (hQ : ∀ m', FrS m m' → Q (fo8 (itM m s) (vvS (pvM m p) (m 0 7) co)) m') : vv_X8_firstOther (nI s) (nI p) m Q := by
  unfold vv_X8_firstOther
  intro a ea
  rw [ea]
  exact ⟨9, firM_L hs hp hR hQ 8 0 m (by omega) (FrS.rf m) rfl⟩
/-- sets, counts, the least of what is alike -/
def orU (f : Nat → Int32) : Nat → Int32
  | 0 => 0
  | n + 1 => orU f n ||| f n
def lkB (fo : Nat → Int32) (j : Nat) : Bool := decide (fo j = -1)
def bfU (fo : Nat → Int32) (j : Nat) : Int32 := if lkB fo j then (if (20 : Int32) ≤ nI j then 0 else (1 : Int32) <<< (nI j &&& 31)) else 0
def leF (fo : Nat → Int32) (low : Int32) : Nat → Nat → Int32
  | 0, _ => -1
  | d + 1, j => if lkB fo j then low + nI j else leF fo low d (j + 1)
def tlS (x3 : Int32) (n : Nat) (low : Int32) (fo : Nat → Int32) : Int32 := if x3 = 4 then nI (ctB (lkB fo) n) else if x3 = 5 then leF fo low n 0 else orU (bfU fo) n
theorem lk_t {fo : Nat → Int32} {j : Nat} (h : fo j = -1) : lkB fo j = true := decide_eq_true h
theorem lk_f {fo : Nat → Int32} {j : Nat} (h : ¬ fo j = -1) : lkB fo j = false := decide_eq_false h
theorem bf_f {fo : Nat → Int32} {j : Nat} (h : ¬ fo j = -1) : bfU fo j = 0 := by unfold bfU; rw [lk_f h]; rfl
theorem bf_t {fo : Nat → Int32} {j : Nat} (hj : j < 20) (h : fo j = -1) : bfU fo j = (1 : Int32) <<< (nI j &&& 31) := by
  have q : ¬ (20 : Int32) ≤ nI j := nI_ge (b := 20) hj (by decide)
  unfold bfU; rw [lk_t h, if_pos rfl, if_neg q]
theorem or_f {fo : Nat → Int32} {j : Nat} (h : ¬ fo j = -1) : orU (bfU fo) (j + 1) = orU (bfU fo) j := by rw [orU, bf_f h, b_or0]
theorem or_t {fo : Nat → Int32} {j : Nat} (hj : j < 20) (h : fo j = -1) : orU (bfU fo) (j + 1) = orU (bfU fo) j ||| ((1 : Int32) <<< (nI j &&& 31)) := by rw [orU, bf_t hj h]
theorem orU_congr {f g : Nat → Int32} {n : Nat} (h : ∀ i, i < n → f i = g i) : orU f n = orU g n := by
  induction n with
  | zero => rfl
  | succ n ih => rw [orU, orU, ih (fun i hi => h i (by omega)), h n (by omega)]
theorem lk_congr {f g : Nat → Int32} {j : Nat} (h : f j = g j) : lkB f j = lkB g j := by unfold lkB; rw [h]
theorem bf_congr {f g : Nat → Int32} {j : Nat} (h : f j = g j) : bfU f j = bfU g j := by unfold bfU; rw [lk_congr h]
theorem ct_congr {f g : Nat → Int32} {n : Nat} (h : ∀ i, i < n → f i = g i) : ctB (lkB f) n = ctB (lkB g) n := by
  induction n with
  | zero => rfl
  | succ n ih => rw [ctB, ctB, ih (fun i hi => h i (by omega)), lk_congr (h n (by omega))]
theorem le_congr {f g : Nat → Int32} {low : Int32} : ∀ d j, (∀ i, i < j + d → f i = g i) → leF f low d j = leF g low d j := by
  intro d
  induction d with
  | zero => intro j _; rfl
  | succ d ih => intro j h; rw [leF, leF, lk_congr (h j (by omega)), ih (j + 1) (fun i hi => h i (by omega))]
theorem tl_congr {f g : Nat → Int32} {x3 low : Int32} {n : Nat} (h : ∀ i, i < n → f i = g i) : tlS x3 n low f = tlS x3 n low g := by
  unfold tlS
  rw [ct_congr h, le_congr n 0 (fun i hi => h i (by omega)), orU_congr (fun i hi => bf_congr (h i hi))]
/-- what is laid, and laid back -/
theorem FrS.lay {m g : Sg} {kc jc : Nat} {w : Int32} (F : FrS (st m kc jc w) g) (v : Int32) : FrS (st m kc jc v) (st g kc jc v) := by
  refine ⟨fun k hk => ?_, fun j hj => ?_⟩
  · funext b
    by_cases e : k = kc
    · subst e
      rw [st_at, st_at]
      by_cases eb : b = jc
      · rw [if_pos eb, if_pos eb]
      · rw [if_neg eb, if_neg eb, F.1 k hk, st_at, if_neg eb]
    · rw [st_ne e, st_ne e, F.1 k hk, st_ne e]
  · by_cases e : 0 = kc
    · subst e
      rw [st_at, st_at]
      by_cases eb : j = jc
      · rw [if_pos eb, if_pos eb]
      · rw [if_neg eb, if_neg eb, F.2 j hj, st_at, if_neg eb]
    · rw [st_ne e, st_ne e, F.2 j hj, st_ne e]
theorem st_self (m : Sg) (k j : Nat) : st m k j (m k j) = m := by
  funext a b
  unfold st
  by_cases e : a = k
  · subst e
    rw [if_pos rfl]
    by_cases e : b = j
    · subst e; rw [if_pos rfl]
    · rw [if_neg e]
  · rw [if_neg e]
theorem telM_L {m : Sg} {s p kc jc n : Nat} {x3 sort low : Int32} {fo : Nat → Int32} {Q : Int32 → Sg → Prop} (hlay : ∀ v g (R : Sg → Prop), R (st g kc jc v) → vv_X8_lays sort (nI p) v g R) (hfir : ∀ j, j < n → ∀ g, FrS (st m kc jc (low + nI j)) g → ∀ R : Int32 → Sg → Prop, (∀ g', FrS (st m kc jc (low + nI j)) g' → R (fo j) g') → vv_X8_firstOther (nI s) (nI p) g R) (hlt : ∀ j, j < n → ¬ low + nI j < low) (hl1 : low + -1 < low) (hQ : ∀ g, FrS m g → Q (tlS x3 n low fo) g) : ∀ j S a w g, j ≤ n → S ||| orU (bfU fo) j = orU (bfU fo) n → a + ctB (lkB fo) j = ctB (lkB fo) n → FrS (st m kc jc w) g → vv_X8_tells_L202 Q (j + 1) (nI s) (nI p) x3 sort (m kc jc) low S (nI a) (leF fo low (n - j) j) (low + nI j + -1) g := by
  intro j
  induction j with
  | zero =>
    intro S a w g hj hS ha F
    unfold vv_X8_tells_L202
    rw [show low + nI 0 + -1 = low + -1 by rw [show nI 0 = 0 from rfl, Int32.add_zero]]
    refine ⟨fun _ => hlay _ _ _ ?_, fun z => absurd hl1 z⟩
    have F' := F.lay (m kc jc)
    rw [st_self m kc jc] at F'
    have fin := hQ _ F'
    rw [orU, b_or0] at hS
    rw [ctB, Nat.add_zero] at ha
    unfold tlS at fin
    rw [hS, ha, Nat.sub_zero]
    exact ⟨fun q => ⟨fun q5 => by rw [if_neg q, if_neg q5] at fin; exact fin, fun q5 => by rw [if_neg q, if_pos q5] at fin; exact fin⟩, fun q => by rw [if_pos q] at fin; exact fin⟩
  | succ j ih =>
    intro S a w g hj hS ha F
    unfold vv_X8_tells_L202
    have e0 : low + nI (j + 1) + -1 = low + nI j := by rw [← nI_1]; grind
    rw [e0]
    refine ⟨fun z => absurd z (hlt j (by omega)), fun _ => hlay _ _ _ (hfir j (by omega) _ (F.lay _) _ (fun g2 F2 => ?_))⟩
    unfold vv_X8_tells_J251 vv_X8_tells_J261
    have e1 : low + nI j - low = nI j := by grind
    rw [e1]
    have e2 : n - j = n - (j + 1) + 1 := by omega
    refine ⟨fun z => ?_, fun z => ?_⟩
    · intro x ex
      rw [ex]
      have nx := ih S a _ g2 (by omega) (by rw [or_f z] at hS; exact hS) (by rw [ctB, lk_f z] at ha; exact ha) F2
      rw [e2, leF, lk_f z] at nx
      exact nx
    · have go : ∀ t1, t1 = bfU fo j → ∀ x8 : Int32, x8 = S ||| t1 → ∀ x9 : Int32, x9 = nI a + 1 → ∀ x10 : Int32, x10 = low + nI j → ∀ x11 : Int32, x11 = low + nI j + -1 → vv_X8_tells_L202 Q (j + 1) (nI s) (nI p) x3 sort (m kc jc) low x8 x9 x10 x11 g2 := by
        intro t1 e1 x8 e8 x9 e9 x10 e10 x11 e11
        rw [e8, e9, e10, e11, e1, nI_1]
        have nx := ih (S ||| bfU fo j) (a + 1) _ g2 (by omega) (by rw [orU] at hS; rw [← hS, Int32.or_assoc, Int32.or_comm (bfU fo j)]) (by rw [ctB, lk_t z, if_pos rfl] at ha; omega) F2
        rw [e2, leF, lk_t z, if_pos rfl] at nx
        exact nx
      refine ⟨fun q => go 0 ?_, fun q => go _ ?_⟩
      · unfold bfU; rw [lk_t z, if_pos rfl, if_pos q]
      · unfold bfU; rw [lk_t z, if_pos rfl, if_neg q]
theorem h_J187 {m g0 : Sg} {s p kc jc n : Nat} {x3 x6 sort low : Int32} {fo : Nat → Int32} {Q : Int32 → Sg → Prop} (hlay : ∀ v g (R : Sg → Prop), R (st g kc jc v) → vv_X8_lays sort (nI p) v g R) (hfir : ∀ j, j < n → ∀ g, FrS (st m kc jc (low + nI j)) g → ∀ R : Int32 → Sg → Prop, (∀ g', FrS (st m kc jc (low + nI j)) g' → R (fo j) g') → vv_X8_firstOther (nI s) (nI p) g R) (hlt : ∀ j, j < n → ¬ low + nI j < low) (hl1 : low + -1 < low) (h6 : x6 = low + nI n + -1) (F : FrS m g0) (hQ : ∀ g, FrS m g → Q (tlS x3 n low fo) g) : vv_X8_tells_J187 (nI s) (nI p) x3 sort (m kc jc) x6 low g0 Q := by
  unfold vv_X8_tells_J187
  intro a ea b eb c ec d ed e ee
  rw [ea, eb, ec, ed, ee, h6]
  have k := telM_L hlay hfir hlt hl1 hQ n 0 0 (m kc jc) g0 (Nat.le_refl n) (by simp) (by omega) (by rw [st_self]; exact F)
  rw [Nat.sub_self] at k
  exact ⟨_, k⟩
end
