/-! ===== the codes that are read can be worked off; the reference's ways of opening and naming ===== -/
def okW (f : Pf) : Prop := ∀ p q c, f p = (q, some c) → WF c
def opOk (op : Int32 → Int32) : Prop := ∀ t, op t = 0 ∨ (¬ op t < 20000 ∧ ¬ op t = 20007 ∧ ¬ op t = 20008)
theorem opOk_mul : opOk opMul := fun t => by unfold opMul; split; exact Or.inr (by decide); exact Or.inl rfl
theorem opOk_add : opOk opAdd := fun t => by unfold opAdd; split; exact Or.inr (by decide); split; exact Or.inr (by decide); exact Or.inl rfl
theorem opOk_and : opOk opAnd := fun t => by unfold opAnd; split; exact Or.inr (by decide); exact Or.inl rfl
theorem opOk_or : opOk opOr := fun t => by unfold opOr; split; exact Or.inr (by decide); exact Or.inl rfl
theorem opOk_cmp : opOk opCmp := fun t => by unfold opCmp; split; exact Or.inr (by decide); split; exact Or.inr (by decide); exact Or.inl rfl
theorem pLoop_W {b : By} {n : Nat} {sub : Pf} {op : Int32 → Int32} (ho : opOk op) (hs : okW sub) : ∀ f p c, WF c → ∀ q c', pLoop b n sub op f p c = (q, some c') → WF c'
  | 0, p, c, hc, q, c', h => by simp only [pLoop, Prod.mk.injEq, Option.some.injEq] at h; rw [← h.2]; exact hc
  | f + 1, p, c, hc, q, c', h => by
    simp only [pLoop] at h
    by_cases ht : op (tkC b n p) = 0
    · rw [if_pos ht] at h
      simp only [Prod.mk.injEq, Option.some.injEq] at h
      rw [← h.2]; exact hc
    · rw [if_neg ht] at h
      rcases hq : sub (nx b n p) with ⟨r, _ | c2⟩
      · rw [hq] at h; simp at h
      · rw [hq] at h
        exact pLoop_W ho hs f r _ (WF_bin hc (hs _ _ _ hq) ((ho _).resolve_left ht)).1 q c' h
theorem pSeq_W {b : By} {n : Nat} {sub : Pf} {op : Int32 → Int32} (ho : opOk op) (hs : okW sub) : okW (pSeq b n sub op) := by
  intro p q c h
  unfold pSeq at h
  rcases hq : sub p with ⟨r, _ | c2⟩
  · rw [hq] at h; simp at h
  · rw [hq] at h
    exact pLoop_W ho hs 160 r c2 (hs _ _ _ hq) q c h
theorem vl_num {b : By} {n p : Nat} (h : tkM b n p = 2) : vlC b n p = dcI b p (stp b n p - p) ∧ ∃ a : Nat, a < 10000 ∧ dcI b p (stp b n p - p) = nI a := by
  unfold tkM at h
  by_cases h0 : n ≤ p
  · rw [if_pos h0] at h; exact absurd h (by decide)
  rw [if_neg h0] at h
  by_cases h1 : isLo (b p) = true
  · rw [if_pos h1] at h; exact absurd h (by decide)
  rw [if_neg h1] at h
  by_cases h2 : isDg (b p) = true
  · rw [if_pos h2] at h
    have es : stp b n p = skF isDg b n p := by unfold stp; rw [if_neg h0, if_neg h1, if_pos h2]
    have h4 : ¬ 4 < skF isDg b n p - p := fun q => by rw [if_pos q] at h; exact absurd h (by decide)
    refine ⟨by unfold vlC; rw [if_neg h0, if_neg h1, if_pos h2, es], ?_⟩
    rw [es]
    obtain ⟨a, ha, e⟩ := dcI_nI (b := b) (p := p) (skF isDg b n p - p) (by omega) (fun i hi => (skF_all (P := isDg) (b := b) (n := n) (p := p) (i := p + i) (by omega) (by omega)).1)
    exact ⟨a, Nat.lt_of_lt_of_le ha (Nat.pow_le_pow_right (by decide) (by omega : skF isDg b n p - p ≤ 4)), e⟩
  · rw [if_neg h2] at h
    split at h <;> exact absurd h (by decide)
theorem vl_name {b : By} {n p : Nat} (h : tkM b n p = 1) (h1 : 1 ≤ wdA b n p) (h7 : wdA b n p < 7) : vlC b n p = 10000 + nI (wdA b n p - 1) := by
  obtain ⟨hlt, hl⟩ := tkM_one h
  obtain ⟨ec, es⟩ := tkC_word h
  have h3 : wtk (wdA b n p) = 3 := by unfold wtk; rw [if_neg (by omega), if_pos h7]
  unfold vlC
  rw [if_neg (by omega), if_pos hl, ← es]
  show (if wtk (wdA b n p) = 3 then 10000 + nI (wdA b n p - 1) else 0) = _
  rw [if_pos h3]
theorem nm_val : ∀ k, k < 7 → 1 ≤ k → ((10000 : Int32) + nI (k - 1) < 20000 ∧ ¬ (10000 : Int32) + nI (k - 1) < 10000 ∧ (10000 : Int32) + nI (k - 1) - 10000 = nI (k - 1)) := by decide +kernel
theorem nmE_nat (env : Nat → Int32) : ∀ k, k < 6 → nmE env (nI k) = env k := by
  intro k hk
  rcases (show k = 0 ∨ k = 1 ∨ k = 2 ∨ k = 3 ∨ k = 4 ∨ k = 5 by omega) with rfl | rfl | rfl | rfl | rfl | rfl <;> rfl
theorem leaf_num {b : By} {n p : Nat} (h : tkM b n p = 2) : WF [vlC b n p] ∧ ∀ env, val env [vlC b n p] = dcI b p (stp b n p - p) := by
  obtain ⟨e, a, ha, ea⟩ := vl_num h
  rw [e, ea]
  have l2 : nI a < 20000 := nI_lt (b := 20000) (by omega) (by decide)
  have l1 : nI a < 10000 := nI_lt (b := 10000) (by omega) (by decide)
  obtain ⟨w1, w2⟩ := WF_one l2
  exact ⟨w1, fun env => by rw [w2, if_pos l1]⟩
theorem leaf_name {b : By} {n p : Nat} (h : tkM b n p = 1) (h1 : 1 ≤ wdA b n p) (h7 : wdA b n p < 7) : WF [vlC b n p] ∧ ∀ env, val env [vlC b n p] = env (wdA b n p - 1) := by
  rw [vl_name h h1 h7]
  obtain ⟨l2, l1, e⟩ := nm_val _ h7 h1
  obtain ⟨w1, w2⟩ := WF_one l2
  exact ⟨w1, fun env => by rw [w2, if_neg l1, e, nmE_nat env _ (by omega)]⟩
theorem pOne_W {b : By} {n d : Nat} {lo : Nat → Pf} (hl : ∀ i, okW (lo i)) : okW (pOne b n d lo) := by
  intro p q c h
  unfold pOne at h
  split at h
  · rename_i ht
    simp only [Prod.mk.injEq, Option.some.injEq] at h
    rw [← h.2]
    rcases ht with ht | ht
    · exact (leaf_num (tkC_two.mp ht)).1
    · have := tkC_name.mp ht
      exact (leaf_name this.1 this.2.1 this.2.2).1
  split at h
  · split at h
    · simp at h
    · rcases hq : lo 5 (nx b n p) with ⟨r, _ | c2⟩
      · rw [hq] at h; simp at h
      · rw [hq] at h
        simp only [Prod.mk.injEq, Option.some.injEq] at h
        rw [← h.2]
        exact (WF_neg (hl 5 _ _ _ hq)).1
  split at h
  · split at h
    · simp at h
    · rcases hq : lo 0 (nx b n p) with ⟨r, _ | c2⟩
      · rw [hq] at h; simp at h
      · rw [hq] at h
        dsimp only at h
        split at h
        · simp only [Prod.mk.injEq, Option.some.injEq] at h
          rw [← h.2]
          exact hl 0 _ _ _ hq
        · simp at h
  · simp at h
theorem pNot_W {b : By} {n d : Nat} {lo : Nat → Pf} {sum : Pf} (hl : ∀ i, okW (lo i)) (hs : okW sum) : okW (pNot b n d lo sum) := by
  intro p q c h
  unfold pNot at h
  split at h
  · split at h
    · simp at h
    · rcases hq : lo 2 (nx b n p) with ⟨r, _ | c2⟩
      · rw [hq] at h; simp at h
      · rw [hq] at h
        simp only [Prod.mk.injEq, Option.some.injEq] at h
        rw [← h.2]
        exact (WF_not (hl 2 _ _ _ hq)).1
  · rcases hq : sum p with ⟨r, _ | c2⟩
    · rw [hq] at h; simp at h
    · rw [hq] at h
      dsimp only at h
      by_cases h0 : opCmp (tkC b n r) = 0
      · rw [if_pos h0] at h
        simp only [Prod.mk.injEq, Option.some.injEq] at h
        rw [← h.2]
        exact hs _ _ _ hq
      · rw [if_neg h0] at h
        rcases hq2 : sum (nx b n r) with ⟨r2, _ | c3⟩
        · rw [hq2] at h; simp at h
        · rw [hq2] at h
          simp only [Prod.mk.injEq, Option.some.injEq] at h
          rw [← h.2]
          exact (WF_bin (hs _ _ _ hq) (hs _ _ _ hq2) ((opOk_cmp _).resolve_left h0)).1
theorem mk_W {b : By} {n d : Nat} {lo : Nat → Pf} (hl : ∀ i, okW (lo i)) : okW (mkO b n d lo) ∧ okW (mkT b n d lo) ∧ okW (mkS b n d lo) ∧ okW (mkN b n d lo) ∧ okW (mkB b n d lo) ∧ okW (mkE b n d lo) := by
  have hO : okW (mkO b n d lo) := pOne_W hl
  have hT : okW (mkT b n d lo) := pSeq_W opOk_mul hO
  have hS : okW (mkS b n d lo) := pSeq_W opOk_add hT
  have hN : okW (mkN b n d lo) := pNot_W hl hS
  have hB : okW (mkB b n d lo) := pSeq_W opOk_and hN
  exact ⟨hO, hT, hS, hN, hB, pSeq_W opOk_or hB⟩
theorem pL_W (b : By) (n : Nat) : ∀ d i, okW (pL b n d i) := by
  have mk : ∀ (d : Nat) (lo : Nat → Pf), (∀ i, okW (lo i)) → ∀ i, okW (mkP b n d lo i) := by
    intro d lo hl i
    obtain ⟨hO, hT, hS, hN, hB, hE⟩ := mk_W (b := b) (n := n) (d := d) hl
    unfold mkP
    split
    · exact hE
    split
    · exact hB
    split
    · exact hN
    split
    · exact hS
    split
    · exact hT
    · exact hO
  intro d
  induction d with
  | zero => exact mk 0 _ (fun i p q c h => by simp at h)
  | succ d ih => exact mk (d + 1) _ ih
def envM (m : Sg) : Nat → Int32 := fun k => m 0 (12 + k)
theorem FrM.env {m m' : Sg} (h : FrM m m') {k : Nat} (hk : k < 6) : envM m' k = envM m k := h.2 (12 + k) (by omega)
def MSp (b : By) (n t L : Nat) (V : Sg → (Int32 → Sg → Prop) → Prop) (f : Pf) : Prop := ∀ (m : Sg) (p : Nat) (Q : Int32 → Sg → Prop), TkM m b n t p → m 0 25 = 0 → m 0 24 = nI L →
  (∀ q, f p = (q, none) → ∀ m' v, FrM m m' → BdM m' q → Q v m') → (∀ q c, f p = (q, some c) → ∀ m' v, FrM m m' → TkM m' b n t q → m' 0 25 = 0 → m' 0 24 = nI L → (∀ env : Nat → Int32, (∀ k, k < 6 → env k = envM m k) → v = val env c) → Q v m') → V m Q
theorem TkM.st24 {m : Sg} {b : By} {n t p j : Nat} (h : TkM m b n t p) (hj : 24 ≤ j) (x : Int32) : TkM (st m 0 j x) b n t p := by
  obtain ⟨a1, a2, a3, a4, a5, a6, a7⟩ := h
  refine ⟨a1.put (by omega) (by omega) x, ?_, ?_, fun z => ?_, fun z => ?_, fun z => ?_, a7⟩
  · rw [st_off _ (by omega)]; exact a2
  · rw [st_off _ (by omega)]; exact a3
  · rw [st_off _ (by omega)]; exact a4 z
  · rw [st_off _ (by omega)]; exact a5 z
  · rw [st_off _ (by omega)]; exact a6 z
theorem BdM.st24 {m : Sg} {q : Nat} (h : BdM m q) (x : Int32) : BdM (st m 0 24 x) q := ⟨by rw [st_off _ (by decide)]; exact h.1, by rw [st_off _ (by decide)]; exact h.2⟩
theorem h_nextM {b : By} {n t p L : Nat} {m : Sg} {Q : Sg → Prop} (h : TkM m b n t p) (hb : m 0 25 = 0) (ho : m 0 24 = nI L) (hlt : p < n) (h4 : ¬ tkM b n p = 4) (hQ : ∀ m', TkM m' b n t (nx b n p) → m' 0 25 = 0 → m' 0 24 = nI L → FrM m m' → Q m') : vv_X8_next m Q :=
  h_next h hlt h4 (fun m' T F => hQ m' T (by rw [F.2 25 (by omega)]; exact hb) (by rw [F.2 24 (by omega)]; exact ho) F.M)
theorem h_opensM {b : By} {n t p L : Nat} {m : Sg} {Q : Int32 → Sg → Prop} (h : TkM m b n t p) (hb : m 0 25 = 0) (ho : m 0 24 = nI L) (hL : L ≤ 5) (hlt : p < n) (h4 : ¬ tkM b n p = 4) (h5 : L = 5 → ∀ m', BdM m' p → FrM m m' → Q 0 m') (hQ : L < 5 → ∀ m', TkM m' b n t (nx b n p) → m' 0 25 = 0 → m' 0 24 = nI (L + 1) → FrM m m' → Q 1 m') : vv_X8_opens m Q := by
  unfold vv_X8_opens
  rw [ho]
  refine ⟨fun z => ?_, fun z => ?_⟩
  · have hl : L < 5 := by
      rcases Nat.lt_or_ge L 5 with y | y
      · exact y
      · exact absurd (show nI L = 5 by rw [show L = 5 by omega]; rfl) z
    rintro m2 rfl
    refine h_nextM (L := L + 1) (h.st24 (by decide) _) (by rw [st_off _ (by decide)]; exact hb) (by rw [st_on, nI_1]) hlt h4 (fun m' a1 a2 a3 a4 => hQ hl m' a1 a2 a3 ((FrM.put m (by decide) _).tr a4))
  · have hl : L = 5 := (nI_eq (a := L) (b := 5) (by omega) (by decide)).mp z
    exact h_fail h hb (fun m' B F => h5 hl m' B F)
theorem h_nameM {b : By} {n t p : Nat} {m : Sg} {Q : Int32 → Sg → Prop} (h : TkM m b n t p) (hb : m 0 25 = 0) (ht : tkM b n p = 1) (hy : 1 ≤ wdA b n p → wdA b n p < 7 → Q (envM m (wdA b n p - 1)) m) (hn : ¬ (1 ≤ wdA b n p ∧ wdA b n p < 7) → ∀ m', BdM m' p → FrM m m' → Q 0 m') : vv_X8_name m Q := by
  unfold vv_X8_name
  have yes : ∀ k, 1 ≤ k → k < 7 → wdA b n p = k → Q (m 0 (11 + k)) m := fun k k1 k7 e => by
    have := hy (by omega) (by omega)
    rw [e] at this
    unfold envM at this
    rw [show 12 + (k - 1) = 11 + k by omega] at this
    exact this
  refine h_isWordM (w := 1) h hb (by decide) (by decide) (fun _ e => ⟨fun z => absurd z (by decide), fun _ => yes 1 (by decide) (by decide) e⟩) (fun n1 => ⟨fun _ => ?_, fun z => absurd rfl z⟩)
  refine h_isWordM (w := 2) h hb (by decide) (by decide) (fun _ e => ⟨fun z => absurd z (by decide), fun _ => yes 2 (by decide) (by decide) e⟩) (fun n2 => ⟨fun _ => ?_, fun z => absurd rfl z⟩)
  refine h_isWordM (w := 3) h hb (by decide) (by decide) (fun _ e => ⟨fun z => absurd z (by decide), fun _ => yes 3 (by decide) (by decide) e⟩) (fun n3 => ⟨fun _ => ?_, fun z => absurd rfl z⟩)
  refine h_isWordM (w := 4) h hb (by decide) (by decide) (fun _ e => ⟨fun z => absurd z (by decide), fun _ => yes 4 (by decide) (by decide) e⟩) (fun n4 => ⟨fun _ => ?_, fun z => absurd rfl z⟩)
  refine h_isWordM (w := 5) h hb (by decide) (by decide) (fun _ e => ⟨fun z => absurd z (by decide), fun _ => yes 5 (by decide) (by decide) e⟩) (fun n5 => ⟨fun _ => ?_, fun z => absurd rfl z⟩)
  refine h_isWordM (w := 6) h hb (by decide) (by decide) (fun _ e => ⟨fun z => absurd z (by decide), fun _ => yes 6 (by decide) (by decide) e⟩) (fun n6 => ⟨fun _ => ?_, fun z => absurd rfl z⟩)
  refine h_fail h hb (fun m' B F => hn (fun q => ?_) m' B F)
  have a1 : ¬ wdA b n p = 1 := fun e => n1 ⟨ht, e⟩
  have a2 : ¬ wdA b n p = 2 := fun e => n2 ⟨ht, e⟩
  have a3 : ¬ wdA b n p = 3 := fun e => n3 ⟨ht, e⟩
  have a4 : ¬ wdA b n p = 4 := fun e => n4 ⟨ht, e⟩
  have a5 : ¬ wdA b n p = 5 := fun e => n5 ⟨ht, e⟩
  have a6 : ¬ wdA b n p = 6 := fun e => n6 ⟨ht, e⟩
  omega
