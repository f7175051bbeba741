/-! ===== the reference reads a text as pRead says ===== -/
theorem ms_lev5 {b : By} {n t : Nat} (hn : n ≤ 160) : MSp b n t 5 vv_X8_atom5 (pL b n 0 5) ∧ MSp b n t 5 vv_X8_not5 (pL b n 0 2) ∧ MSp b n t 5 vv_X8_either5 (pL b n 0 0) := by
  have kk : ∀ i, okF n ((fun _ p => (p, none) : Nat → Pf) i) := fun _ p hp => ⟨Nat.le_refl p, hp, fun c h => by cases h⟩
  have ww : ∀ i, okW ((fun _ p => (p, none) : Nat → Pf) i) := fun i p q c h => by simp at h
  have O : MSp b n t 5 vv_X8_atom5 (mkO b n 0 (fun _ p => (p, none))) := ms_atom5
  have kO : okF n (mkO b n 0 (fun _ p => (p, none))) := pOne_ok kk
  have kT : okF n (mkT b n 0 (fun _ p => (p, none))) := pSeq_ok (by decide) kO
  have kS : okF n (mkS b n 0 (fun _ p => (p, none))) := pSeq_ok (by decide) kT
  have kN : okF n (mkN b n 0 (fun _ p => (p, none))) := pNot_ok kk kS
  have kB : okF n (mkB b n 0 (fun _ p => (p, none))) := pSeq_ok (by decide) kN
  obtain ⟨wO, wT, wS, wN, wB, wE⟩ := mk_W (b := b) (n := n) (d := 0) ww
  have T := ms_term5 hn O kO wO
  have S := ms_added5 hn T kT wT
  have N : MSp b n t 5 vv_X8_not5 (mkN b n 0 (fun _ p => (p, none))) := ms_not5 S wS
  have B := ms_both5 hn N kN wN
  have E := ms_either5 hn B kB wB
  exact ⟨O, N, E⟩
theorem ms_lev4 {b : By} {n t : Nat} (hn : n ≤ 160) : MSp b n t 4 vv_X8_atom4 (pL b n 1 5) ∧ MSp b n t 4 vv_X8_not4 (pL b n 1 2) ∧ MSp b n t 4 vv_X8_either4 (pL b n 1 0) := by
  obtain ⟨l5, l2, l0⟩ := ms_lev5 (b := b) (n := n) (t := t) hn
  have kk : ∀ i, okF n (pL b n 0 i) := pL_ok b n 0
  have ww : ∀ i, okW (pL b n 0 i) := pL_W b n 0
  have O : MSp b n t 4 vv_X8_atom4 (mkO b n 1 (pL b n 0)) := ms_atom4 l5 l0 ww
  have kO : okF n (mkO b n 1 (pL b n 0)) := pOne_ok kk
  have kT : okF n (mkT b n 1 (pL b n 0)) := pSeq_ok (by decide) kO
  have kS : okF n (mkS b n 1 (pL b n 0)) := pSeq_ok (by decide) kT
  have kN : okF n (mkN b n 1 (pL b n 0)) := pNot_ok kk kS
  have kB : okF n (mkB b n 1 (pL b n 0)) := pSeq_ok (by decide) kN
  obtain ⟨wO, wT, wS, wN, wB, wE⟩ := mk_W (b := b) (n := n) (d := 1) ww
  have T := ms_term4 hn O kO wO
  have S := ms_added4 hn T kT wT
  have N : MSp b n t 4 vv_X8_not4 (mkN b n 1 (pL b n 0)) := ms_not4 S wS l2 ww
  have B := ms_both4 hn N kN wN
  have E := ms_either4 hn B kB wB
  exact ⟨O, N, E⟩
theorem ms_lev3 {b : By} {n t : Nat} (hn : n ≤ 160) : MSp b n t 3 vv_X8_atom3 (pL b n 2 5) ∧ MSp b n t 3 vv_X8_not3 (pL b n 2 2) ∧ MSp b n t 3 vv_X8_either3 (pL b n 2 0) := by
  obtain ⟨l5, l2, l0⟩ := ms_lev4 (b := b) (n := n) (t := t) hn
  have kk : ∀ i, okF n (pL b n 1 i) := pL_ok b n 1
  have ww : ∀ i, okW (pL b n 1 i) := pL_W b n 1
  have O : MSp b n t 3 vv_X8_atom3 (mkO b n 2 (pL b n 1)) := ms_atom3 l5 l0 ww
  have kO : okF n (mkO b n 2 (pL b n 1)) := pOne_ok kk
  have kT : okF n (mkT b n 2 (pL b n 1)) := pSeq_ok (by decide) kO
  have kS : okF n (mkS b n 2 (pL b n 1)) := pSeq_ok (by decide) kT
  have kN : okF n (mkN b n 2 (pL b n 1)) := pNot_ok kk kS
  have kB : okF n (mkB b n 2 (pL b n 1)) := pSeq_ok (by decide) kN
  obtain ⟨wO, wT, wS, wN, wB, wE⟩ := mk_W (b := b) (n := n) (d := 2) ww
  have T := ms_term3 hn O kO wO
  have S := ms_added3 hn T kT wT
  have N : MSp b n t 3 vv_X8_not3 (mkN b n 2 (pL b n 1)) := ms_not3 S wS l2 ww
  have B := ms_both3 hn N kN wN
  have E := ms_either3 hn B kB wB
  exact ⟨O, N, E⟩
theorem ms_lev2 {b : By} {n t : Nat} (hn : n ≤ 160) : MSp b n t 2 vv_X8_atom2 (pL b n 3 5) ∧ MSp b n t 2 vv_X8_not2 (pL b n 3 2) ∧ MSp b n t 2 vv_X8_either2 (pL b n 3 0) := by
  obtain ⟨l5, l2, l0⟩ := ms_lev3 (b := b) (n := n) (t := t) hn
  have kk : ∀ i, okF n (pL b n 2 i) := pL_ok b n 2
  have ww : ∀ i, okW (pL b n 2 i) := pL_W b n 2
  have O : MSp b n t 2 vv_X8_atom2 (mkO b n 3 (pL b n 2)) := ms_atom2 l5 l0 ww
  have kO : okF n (mkO b n 3 (pL b n 2)) := pOne_ok kk
  have kT : okF n (mkT b n 3 (pL b n 2)) := pSeq_ok (by decide) kO
  have kS : okF n (mkS b n 3 (pL b n 2)) := pSeq_ok (by decide) kT
  have kN : okF n (mkN b n 3 (pL b n 2)) := pNot_ok kk kS
  have kB : okF n (mkB b n 3 (pL b n 2)) := pSeq_ok (by decide) kN
  obtain ⟨wO, wT, wS, wN, wB, wE⟩ := mk_W (b := b) (n := n) (d := 3) ww
  have T := ms_term2 hn O kO wO
  have S := ms_added2 hn T kT wT
  have N : MSp b n t 2 vv_X8_not2 (mkN b n 3 (pL b n 2)) := ms_not2 S wS l2 ww
  have B := ms_both2 hn N kN wN
  have E := ms_either2 hn B kB wB
  exact ⟨O, N, E⟩
theorem ms_lev1 {b : By} {n t : Nat} (hn : n ≤ 160) : MSp b n t 1 vv_X8_atom1 (pL b n 4 5) ∧ MSp b n t 1 vv_X8_not1 (pL b n 4 2) ∧ MSp b n t 1 vv_X8_either1 (pL b n 4 0) := by
  obtain ⟨l5, l2, l0⟩ := ms_lev2 (b := b) (n := n) (t := t) hn
  have kk : ∀ i, okF n (pL b n 3 i) := pL_ok b n 3
  have ww : ∀ i, okW (pL b n 3 i) := pL_W b n 3
  have O : MSp b n t 1 vv_X8_atom1 (mkO b n 4 (pL b n 3)) := ms_atom1 l5 l0 ww
  have kO : okF n (mkO b n 4 (pL b n 3)) := pOne_ok kk
  have kT : okF n (mkT b n 4 (pL b n 3)) := pSeq_ok (by decide) kO
  have kS : okF n (mkS b n 4 (pL b n 3)) := pSeq_ok (by decide) kT
  have kN : okF n (mkN b n 4 (pL b n 3)) := pNot_ok kk kS
  have kB : okF n (mkB b n 4 (pL b n 3)) := pSeq_ok (by decide) kN
  obtain ⟨wO, wT, wS, wN, wB, wE⟩ := mk_W (b := b) (n := n) (d := 4) ww
  have T := ms_term1 hn O kO wO
  have S := ms_added1 hn T kT wT
  have N : MSp b n t 1 vv_X8_not1 (mkN b n 4 (pL b n 3)) := ms_not1 S wS l2 ww
  have B := ms_both1 hn N kN wN
  have E := ms_either1 hn B kB wB
  exact ⟨O, N, E⟩
theorem ms_lev0 {b : By} {n t : Nat} (hn : n ≤ 160) : MSp b n t 0 vv_X8_atom0 (pL b n 5 5) ∧ MSp b n t 0 vv_X8_not0 (pL b n 5 2) ∧ MSp b n t 0 vv_X8_either0 (pL b n 5 0) := by
  obtain ⟨l5, l2, l0⟩ := ms_lev1 (b := b) (n := n) (t := t) hn
  have kk : ∀ i, okF n (pL b n 4 i) := pL_ok b n 4
  have ww : ∀ i, okW (pL b n 4 i) := pL_W b n 4
  have O : MSp b n t 0 vv_X8_atom0 (mkO b n 5 (pL b n 4)) := ms_atom0 l5 l0 ww
  have kO : okF n (mkO b n 5 (pL b n 4)) := pOne_ok kk
  have kT : okF n (mkT b n 5 (pL b n 4)) := pSeq_ok (by decide) kO
  have kS : okF n (mkS b n 5 (pL b n 4)) := pSeq_ok (by decide) kT
  have kN : okF n (mkN b n 5 (pL b n 4)) := pNot_ok kk kS
  have kB : okF n (mkB b n 5 (pL b n 4)) := pSeq_ok (by decide) kN
  obtain ⟨wO, wT, wS, wN, wB, wE⟩ := mk_W (b := b) (n := n) (d := 5) ww
  have T := ms_term0 hn O kO wO
  have S := ms_added0 hn T kT wT
  have N : MSp b n t 0 vv_X8_not0 (mkN b n 5 (pL b n 4)) := ms_not0 S wS l2 ww
  have B := ms_both0 hn N kN wN
  have E := ms_either0 hn B kB wB
  exact ⟨O, N, E⟩
theorem pPart_ok {b : By} {n : Nat} {key : Int32} (hk : ¬ key = 0) : okF n (pPart b n key) := by
  intro p hp
  unfold pPart
  split
  · rename_i h
    have hlt : p < n := lt_of_tk h hk
    have hn := nx_gt (b := b) hlt
    have h3 := pL_ok b n 5 0 (nx b n p) hn.2
    rcases hq : pL b n 5 0 (nx b n p) with ⟨q, _ | c⟩
    · rw [hq] at h3; have a1 := h3.1; dsimp only at a1; exact ⟨by dsimp only; omega, h3.2.1, fun c' h => by cases h⟩
    · rw [hq] at h3; have a1 := h3.1; have a2 := h3.2.1; have a3 := h3.2.2 c rfl; dsimp only at a1 a2 a3
      dsimp only
      split
      · rename_i h4
        have hn2 := nx_gt (b := b) (lt_of_tk h4 (by decide))
        exact ⟨by dsimp only; omega, hn2.2, fun c' h => by simp only [Option.some.injEq] at h; subst h; dsimp only; omega⟩
      · exact ⟨by dsimp only; omega, a2, fun c' h => by cases h⟩
  · exact ⟨Nat.le_refl p, hp, fun c h => by cases h⟩
theorem pPart_W {b : By} {n : Nat} {key : Int32} : okW (pPart b n key) := by
  intro p q c h
  unfold pPart at h
  split at h
  · rcases hq : pL b n 5 0 (nx b n p) with ⟨r, _ | c2⟩
    · rw [hq] at h; simp at h
    · rw [hq] at h
      dsimp only at h
      split at h
      · simp only [Prod.mk.injEq, Option.some.injEq] at h
        rw [← h.2]
        exact pL_W b n 5 0 _ _ _ hq
      · simp at h
  · simp at h
theorem h_part {b : By} {n t p : Nat} {m : Sg} {key x : Int32} {Q : Int32 → Sg → Prop} (hn : n ≤ 160) (hT : TkM m b n t p) (hb : m 0 25 = 0) (ho : m 0 24 = nI 0) (hx : (x = 1 ∧ tkC b n p = key ∧ tkM b n p = 1) ∨ (x = 0 ∧ ¬ tkC b n p = key))
    (h0 : ∀ q, pPart b n key p = (q, none) → ∀ m' v, FrM m m' → BdM m' q → Q v m') (h1 : ∀ q c, pPart b n key p = (q, some c) → ∀ m' v, FrM m m' → TkM m' b n t q → m' 0 25 = 0 → m' 0 24 = nI 0 → (∀ env : Nat → Int32, (∀ k, k < 6 → env k = envM m k) → v = val env c) → Q v m') : vv_X8_part x m Q := by
  have bad34 : ∀ (m' : Sg) (q : Nat) (v : Int32), BdM m' q → Q v m' → vv_X8_part_J34 v m' Q := fun m' q v B hq => by
    unfold vv_X8_part_J34
    rintro y rfl
    have j48 : vv_X8_part_J48 y m' Q := by
      unfold vv_X8_part_J48
      rw [B.1]
      exact ⟨fun _ => hq, fun z => absurd z (by decide)⟩
    exact h_isSignB B.1 ⟨fun z => absurd rfl z, fun _ => h_failB B j48⟩
  unfold vv_X8_part
  rcases hx with ⟨rfl, hk, hm⟩ | ⟨rfl, hk⟩
  · refine ⟨fun _ => ?_, fun z => absurd z (by decide)⟩
    have hlt := (tkM_one hm).1
    unfold vv_X8_part_J8
    refine ⟨fun z => absurd hb z, fun _ => h_nextM hT hb ho hlt (by rw [hm]; decide) (fun m1 T1 b1 o1 F1 => ?_)⟩
    have eP : pPart b n key p = (match pL b n 5 0 (nx b n p) with | (q, none) => (q, none) | (q, some c) => if tkC b n q = 59 then (nx b n q, some c) else (q, none)) := by
      unfold pPart; rw [if_pos hk]; rfl
    unfold vv_X8_part_J19
    refine ⟨fun _ => (ms_lev0 hn).2.2 m1 _ _ T1 b1 o1 (fun q e m2 v F2 B2 => ?_) (fun q c e m2 v F2 T2 b2 o2 hv => ?_), fun z => absurd b1 z⟩
    · exact bad34 m2 q v B2 (h0 q (by rw [eP, e]) m2 v (F1.tr F2) B2)
    · rw [e] at eP
      dsimp only at eP
      unfold vv_X8_part_J34
      rintro y rfl
      refine h_isSignM T2 b2 (by decide) (fun e59 => ⟨fun _ => ?_, fun z => absurd z (by decide)⟩) (fun n59 => ⟨fun z => absurd rfl z, fun _ => ?_⟩)
      · rw [if_pos e59] at eP
        unfold vv_X8_part_J48
        refine ⟨fun z => absurd b2 z, fun _ => h_nextM T2 b2 o2 (lt_of_tk e59 (by decide)) (sg_ne4 e59 (by decide)) (fun m3 T3 b3 o3 F3 => ?_)⟩
        exact h1 _ _ eP m3 _ ((F1.tr F2).tr F3) T3 b3 o3 (fun env he => hv env (agE F1 he))
      · rw [if_neg n59] at eP
        refine h_fail T2 b2 (fun m3 B3 F3 => ?_)
        unfold vv_X8_part_J48
        rw [B3.1]
        exact ⟨fun _ => h0 q eP m3 _ ((F1.tr F2).tr F3) B3, fun z => absurd z (by decide)⟩
  · refine ⟨fun z => absurd rfl z, fun _ => h_fail hT hb (fun m1 B1 F1 => ?_)⟩
    have eP : pPart b n key p = (p, none) := by unfold pPart; rw [if_neg hk]
    unfold vv_X8_part_J8
    rw [B1.1]
    refine ⟨fun _ => ?_, fun z => absurd z (by decide)⟩
    unfold vv_X8_part_J19
    rw [B1.1]
    exact ⟨fun z => absurd z (by decide), fun _ => bad34 m1 p 0 B1 (h0 p eP m1 0 F1 B1)⟩
/-- what a reading changes of the reference: its own notes alone -/
def FrR (m m' : Sg) : Prop := (∀ k, k ≠ 0 → m' k = m k) ∧ ∀ j, (j < 18 ∨ 26 < j) → m' 0 j = m 0 j
theorem FrM.R {a b : Sg} (h : FrM a b) : FrR a b := ⟨h.1, fun j hj => h.2 j (by omega)⟩
theorem FrR.tr {a b c : Sg} (h1 : FrR a b) (h2 : FrR b c) : FrR a c := ⟨fun k hk => by rw [h2.1 k hk, h1.1 k hk], fun j hj => by rw [h2.2 j hj, h1.2 j hj]⟩
theorem FrR.put (m : Sg) {j : Nat} (h : 18 ≤ j ∧ j ≤ 26) (x : Int32) : FrR m (st m 0 j x) := ⟨fun k hk => st_ne hk, fun i hi => st_off m (by omega) x⟩
def TxM (m : Sg) (b : By) (n t : Nat) : Prop := m 2 t = nI n ∧ n ≤ 160 ∧ t < 6 ∧ (∀ i, i < n → m 1 (160 * t + i) = b i) ∧ ∀ i, i < n → 0 ≤ b i
theorem key_x {b : By} {n t p k : Nat} {m : Sg} {key : Int32} {V : Int32 → Sg → Prop} (hT : TkM m b n t p) (hb : m 0 25 = 0) (h7 : 7 ≤ k) (h13 : k < 13) (hk : key = nI (k - 3)) (hV : ∀ x : Int32, ((x = 1 ∧ tkC b n p = key ∧ tkM b n p = 1) ∨ (x = 0 ∧ ¬ tkC b n p = key)) → V x m) : vv_X8_isWord (ltr k 0) (ltr k 1) (ltr k 2) (ltr k 3) (ltr k 4) (ltr k 5) (ltr k 6) (ltr k 7) m V :=
  h_isWordM hT hb (by omega) h13 (fun e1 e2 => hV 1 (Or.inl ⟨rfl, by rw [hk]; exact (tkC_key h7 h13).mpr ⟨e1, e2⟩, e1⟩)) (fun hn => hV 0 (Or.inr ⟨rfl, fun z => hn ((tkC_key h7 h13).mp (by rw [← hk]; exact z))⟩))
set_option maxHeartbeats 1000000 in
theorem h_read {b : By} {n t w : Nat} {m : Sg} {Q : Int32 → Sg → Prop} (hX : TxM m b n t) (hw : w < 3)
    (h0 : ∀ q, pRead b n = (q, none) → ∀ m' v, FrR m m' → BdM m' q → Q v m') (h1 : ∀ q c0 c1 c2, pRead b n = (q, some (c0, c1, c2)) → ∀ m' v, FrR m m' → m' 0 25 = 0 → (∀ env : Nat → Int32, (∀ k, k < 6 → env k = envM m k) → v = val env (if w = 0 then c0 else if w = 1 then c1 else c2)) → Q v m') : vv_X8_read (nI t) (nI w) m Q := by
  obtain ⟨x1, hn, ht, x4, x5⟩ := hX
  have sel : ∀ (m' : Sg) (a0 a1 a2 : Int32), Q (if w = 0 then a0 else if w = 1 then a1 else a2) m' → vv_X8_read_J149 (nI w) a0 a1 a2 m' Q := by
    intro m' a0 a1 a2 hq
    unfold vv_X8_read_J149
    rcases (show w = 0 ∨ w = 1 ∨ w = 2 by omega) with rfl | rfl | rfl
    · exact ⟨fun z => absurd (show nI 0 = 0 from rfl) z, fun _ => hq⟩
    · exact ⟨fun _ => ⟨fun z => absurd (show nI 1 = 1 from rfl) z, fun _ => hq⟩, fun z => absurd z (by decide)⟩
    · exact ⟨fun _ => ⟨fun _ => hq, fun z => absurd z (by decide)⟩, fun z => absurd z (by decide)⟩
  have bad129 : ∀ (m' : Sg) (q : Nat) (a0 a1 a2 : Int32), BdM m' q → (∀ v, Q v m') → vv_X8_read_J129 (nI w) a0 a1 a2 m' Q := by
    intro m' q a0 a1 a2 B hq
    unfold vv_X8_read_J129
    rintro y rfl
    rw [B.1]
    exact ⟨fun _ => sel m' _ _ _ (hq _), fun z => absurd z (by decide)⟩
  have bad93 : ∀ (m' : Sg) (q : Nat) (a0 a1 : Int32), BdM m' q → (∀ v, Q v m') → vv_X8_read_J93 (nI w) a0 a1 m' Q := by
    intro m' q a0 a1 B hq
    unfold vv_X8_read_J93
    rintro y rfl
    rw [B.1]
    exact ⟨fun z => absurd z (by decide), fun _ => bad129 m' q _ _ _ B hq⟩
  unfold vv_X8_read
  rintro m1 rfl
  refine ⟨vp_in_nI ht (by decide), ?_⟩
  rintro m2 rfl m3 rfl m4 rfl m5 rfl
  obtain ⟨m5, e5⟩ : ∃ y, y = st (st (st (st (st m 0 18 (160 * nI t)) 0 19 (st m 0 18 (160 * nI t) 2 (nI t).toNatClampNeg)) 0 20 0) 0 24 0) 0 25 0 := ⟨_, rfl⟩
  rw [← e5]
  have F5 : FrR m m5 := by
    rw [e5]
    exact ((((FrR.put m (by decide) _).tr (FrR.put _ (by decide) _)).tr (FrR.put _ (by decide) _)).tr (FrR.put _ (by decide) _)).tr (FrR.put _ (by decide) _)
  have L5 : LetM m5 b n t := by
    refine ⟨?_, ?_, hn, ht, fun i hi => by rw [F5.1 1 (by decide)]; exact x4 i hi, x5⟩
    · rw [e5, st_off _ (by decide), st_off _ (by decide), st_off _ (by decide), st_off _ (by decide), st_on, show (160 : Int32) = nI 160 from rfl, pk_mul]
    · rw [e5, st_off _ (by decide), st_off _ (by decide), st_off _ (by decide), st_on, st_ne (by decide), nI_clamp (by omega), x1]
  have b5 : m5 0 25 = 0 := by rw [e5, st_on]
  have o5 : m5 0 24 = nI 0 := by rw [e5, st_off _ (by decide), st_on]; rfl
  have h20 : m5 0 20 = nI 0 := by rw [e5, st_off _ (by decide), st_off _ (by decide), st_on]; rfl
  unfold vv_X8_next
  refine nx_loop (b := b) (n := n) (t := t) n 0 m5 (by omega) (Nat.zero_le _) L5 h20 (fun m6 T6 G6 => ?_)
  have b6 : m6 0 25 = 0 := by rw [G6.2 25 (by omega)]; exact b5
  have o6 : m6 0 24 = nI 0 := by rw [G6.2 24 (by omega)]; exact o5
  have F6 : FrR m m6 := F5.tr G6.M.R
  have enR : ∀ {m' : Sg} (F : FrR m m') (env : Nat → Int32), (∀ k, k < 6 → env k = envM m k) → ∀ k, k < 6 → env k = envM m' k := fun F env he k hk => by
    rw [he k hk]; exact (F.2 (12 + k) (by omega)).symm
  refine key_x (k := 7) (key := 4) T6 b6 (by decide) (by decide) rfl (fun x hx => ?_)
  refine h_part hn T6 b6 o6 hx (fun q e m7 v F7 B7 => ?_) (fun p1 c0 e m7 v0 F7 T7 b7 o7 hv0 => ?_)
  · rintro y rfl
    rw [B7.1]
    have hq : ∀ v, Q v m7 := fun v => h0 q (by unfold pRead; rw [e]) m7 v (F6.tr F7.R) B7
    exact ⟨fun z => absurd z (by decide), fun _ => bad93 m7 q _ _ B7 hq⟩
  · rintro y rfl
    refine ⟨fun _ => ?_, fun z => absurd b7 z⟩
    refine key_x (k := 8) (key := 5) T7 b7 (by decide) (by decide) rfl (fun x hx => ?_)
    refine h_part hn T7 b7 o7 hx (fun q e2 m8 v F8 B8 => ?_) (fun p2 c1 e2 m8 v1 F8 T8 b8 o8 hv1 => ?_)
    · exact bad93 m8 q _ _ B8 (fun v => h0 q (by unfold pRead; rw [e]; dsimp only; rw [e2]) m8 v ((F6.tr F7.R).tr F8.R) B8)
    · unfold vv_X8_read_J93
      rintro y1 rfl
      refine ⟨fun _ => ?_, fun z => absurd b8 z⟩
      refine key_x (k := 9) (key := 6) T8 b8 (by decide) (by decide) rfl (fun x hx => ?_)
      refine h_part hn T8 b8 o8 hx (fun q e3 m9 v F9 B9 => ?_) (fun p3 c2 e3 m9 v2 F9 T9 b9 o9 hv2 => ?_)
      · exact bad129 m9 q _ _ _ B9 (fun v => h0 q (by unfold pRead; rw [e]; dsimp only; rw [e2]; dsimp only; rw [e3]) m9 v (((F6.tr F7.R).tr F8.R).tr F9.R) B9)
      · have F9' := ((F6.tr F7.R).tr F8.R).tr F9.R
        unfold vv_X8_read_J129
        rintro y2 rfl
        refine ⟨fun z => absurd b9 z, fun _ => ?_⟩
        rw [T9.2.2.1]
        refine ⟨fun z => ?_, fun z => ?_⟩
        · have ez := tkC_zero.mpr z
          have eR : pRead b n = (p3, some (c0, c1, c2)) := by unfold pRead; rw [e]; dsimp only; rw [e2]; dsimp only; rw [e3]; dsimp only; rw [if_pos ez]
          refine sel m9 _ _ _ (h1 p3 c0 c1 c2 eR m9 _ F9' b9 (fun env he => ?_))
          have a0 := hv0 env (enR F6 env he)
          have a1 := hv1 env (enR (F6.tr F7.R) env he)
          have a2 := hv2 env (enR ((F6.tr F7.R).tr F8.R) env he)
          rw [a0, a1, a2]
          rcases (show w = 0 ∨ w = 1 ∨ w = 2 by omega) with rfl | rfl | rfl <;> rfl
        · have ez : ¬ tkC b n p3 = 0 := fun a => z (tkC_zero.mp a)
          have eR : pRead b n = (p3, none) := by unfold pRead; rw [e]; dsimp only; rw [e2]; dsimp only; rw [e3]; dsimp only; rw [if_neg ez]
          exact h_fail T9 b9 (fun m10 B10 F10 => sel m10 _ _ _ (h0 p3 eR m10 _ (F9'.tr F10.R) B10))
