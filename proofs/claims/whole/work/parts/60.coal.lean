/-! ===== coalitions: count(), fewest(), stop() ===== -/
theorem bt_tb (S i : Nat) : bt S i = S.testBit i := by unfold bt; rw [Nat.testBit_eq_decide_div_mod_eq]; rfl
def anN (S T : Nat) : Nat := S &&& (2 ^ 32 - (T + 1))
theorem an_I {S T : Nat} (hS : S < 256) (hT : T < 256) : nI S &&& (nI T ^^^ -1) = nI (anN S T) := by
  apply Int32.toBitVec_inj.mp
  rw [Int32.toBitVec_and, Int32.toBitVec_xor]
  have e1 : (-1 : Int32).toBitVec = BitVec.allOnes 32 := by decide
  rw [e1, BitVec.xor_allOnes]
  apply BitVec.eq_of_toNat_eq
  rw [BitVec.toNat_and, BitVec.toNat_not, pk_tn (by omega), pk_tn (by omega), pk_tn (by
    unfold anN
    exact Nat.lt_of_le_of_lt Nat.and_le_left (by omega))]
  unfold anN
  rw [show 2 ^ 32 - 1 - T = 2 ^ 32 - (T + 1) by omega]
theorem an_le (S T : Nat) : anN S T ≤ S := Nat.and_le_left
theorem an_bt {S T i : Nat} (hT : T < 256) (hi : i < 32) : bt (anN S T) i = (bt S i && !bt T i) := by
  rw [bt_tb, bt_tb, bt_tb]
  unfold anN
  rw [Nat.testBit_and, Nat.testBit_two_pow_sub_succ (by omega)]
  simp [hi]
theorem an_0 {S T : Nat} (hS : S < 256) (hT : T < 256) : anN S T = 0 ↔ S &&& T = S := by
  constructor
  · intro h
    apply Nat.eq_of_testBit_eq
    intro i
    rw [Nat.testBit_and]
    by_cases hi : i < 32
    · have := an_bt (S := S) hT hi
      rw [h] at this
      rw [bt_0, bt_tb, bt_tb] at this
      cases h1 : S.testBit i <;> cases h2 : T.testBit i <;> simp_all
    · have : S.testBit i = false := Nat.testBit_lt_two_pow (Nat.lt_of_lt_of_le hS (Nat.pow_le_pow_right (n := 2) (i := 8) (by decide) (by omega)))
      rw [this]; rfl
  · intro h
    apply Nat.eq_of_testBit_eq
    intro i
    by_cases hi : i < 32
    · have h1 := an_bt (S := S) hT hi
      rw [bt_tb, bt_tb, bt_tb] at h1
      rw [h1, ← h, Nat.testBit_and]
      simp
    · have : (anN S T).testBit i = false := Nat.testBit_lt_two_pow (Nat.lt_of_lt_of_le (Nat.lt_of_le_of_lt (an_le S T) hS) (Nat.pow_le_pow_right (n := 2) (i := 8) (by decide) (by omega)))
      rw [this]; simp
theorem an_sub {S T : Nat} (hS : S < 256) (hT : T < 256) (h : anN S T = 0) : S ≤ T := by
  rw [← (an_0 hS hT).mp h]; exact Nat.and_le_right
theorem and_bit (S T i : Nat) : (S &&& T) / 2 ^ i % 2 ≤ S / 2 ^ i % 2 := by
  rw [← Nat.toNat_testBit, ← Nat.toNat_testBit, Nat.testBit_and]
  cases S.testBit i <;> simp [Bool.toNat_le]
theorem pop_and (S T : Nat) : pop (S &&& T) ≤ pop S := by
  unfold pop
  have h0 := and_bit S T 0
  have h1 := and_bit S T 1
  have h2 := and_bit S T 2
  have h3 := and_bit S T 3
  have h4 := and_bit S T 4
  have h5 := and_bit S T 5
  have h6 := and_bit S T 6
  have h7 := and_bit S T 7
  simp only [Nat.reducePow, Nat.div_one] at *
  omega
/-- what a set weighs -/
def wS (w : Nat → Int32) (S : Nat) : Int32 := sumN (fun i => if bt S i then w i else 0) 8
theorem bt_add : ∀ i, i < 8 → ∀ S, S < 2 ^ i → ∀ k, k < 8 → bt (S + 2 ^ i) k = (k == i || bt S k) ∧ bt S i = false := by decide +kernel
theorem sumN_one {F G : Nat → Int32} {i n : Nat} (hi : i < n) (h : ∀ k, k < n → k ≠ i → F k = G k) : sumN F n = sumN G n + (F i - G i) := by
  induction n with
  | zero => omega
  | succ n ih =>
    rw [sumN, sumN]
    by_cases e : i = n
    · subst e
      rw [sumN_congr (fun k hk => h k (by omega) (by omega))]; grind
    · rw [ih (by omega) (fun k hk hk' => h k (by omega) hk'), h n (by omega) (Ne.symm e)]; grind
theorem wS_add {w : Nat → Int32} {S i : Nat} (hi : i < 8) (hS : S < 2 ^ i) : wS w (S + 2 ^ i) = wS w S + w i := by
  unfold wS
  rw [sumN_one (F := fun k => if bt (S + 2 ^ i) k = true then w k else 0) (G := fun k => if bt S k = true then w k else 0) hi (fun k hk hk' => ?_)]
  · rw [(bt_add i hi S hS i hi).1, (bt_add i hi S hS i hi).2]
    simp
  · rw [(bt_add i hi S hS k hk).1]
    simp [hk']
theorem wS_0 (w : Nat → Int32) : wS w 0 = 0 := by
  unfold wS
  rw [sumN_congr (G := fun _ => 0) (fun i _ => by rw [bt_0]; rfl)]
  decide
theorem addI_L {nt i : Nat} {w : Nat → Int32} {c : Sg} {rc : Int32 → Sg → Prop} {Q : Sg → Prop} (hi : i < 8) (hrc : ∀ c', (∀ k, k ≠ 25 → c' k = c k) → (∀ S, S < 2 ^ (i + 1) → c' 25 S = wS w S) → rc (nI (i + 1)) c') (hw : ∀ k, k < 8 → c 23 k = w k) : ∀ d j g, j + d = 2 ^ i → (∀ k, k ≠ 25 → g k = c k) → (∀ S, S < 2 ^ i + j → g 25 S = wS w S) → vv_X4_addUp_L14 nt rc Q (d + 1) (nI i) (nI (2 ^ i)) (nI j) g := by
  intro d
  have hp : 2 ^ i ≤ 128 := Nat.pow_le_pow_right (n := 2) (j := 7) (by decide) (by omega)
  induction d with
  | zero =>
    intro j g hj h1 h2
    have e : j = 2 ^ i := by omega
    unfold vv_X4_addUp_L14
    rw [e]
    refine ⟨fun _ => ?_, fun z => absurd (Int32.le_refl _) z⟩
    intro y ey
    rw [ey, nI_1]
    refine hrc g h1 (fun S hS => h2 S ?_)
    rw [Nat.pow_succ] at hS; omega
  | succ d ih =>
    intro j g hj h1 h2
    unfold vv_X4_addUp_L14
    have hj' : j < 2 ^ i := by omega
    rw [b_or i hi j hj', nI_clamp (by omega), nI_clamp (by omega), nI_clamp (by omega), h1 23 (by decide), hw i hi, h2 j (by omega)]
    refine ⟨fun z => absurd z (nI_ge hj' (by omega)), fun _ => ⟨vp_in_nI (by omega) (by decide), vp_in_nI hi (by decide), vp_in_nI (by omega) (by decide), ?_⟩⟩
    rintro g' rfl y rfl
    rw [nI_1]
    refine ih _ _ (by omega) (fun k hk => by rw [st_ne hk]; exact h1 k hk) (fun S hS => ?_)
    rw [st_at]
    by_cases q : S = j + 2 ^ i
    · rw [if_pos q, q, wS_add hi hj']
    · rw [if_neg q]; exact h2 S (by omega)
theorem addO_L {nt : Nat} {w : Nat → Int32} {c : Sg} {Q : Sg → Prop} (hQ : ∀ c', (∀ k, k ≠ 25 → c' k = c k) → (∀ S, S < 256 → c' 25 S = wS w S) → Q c') (hw : ∀ k, k < 8 → c 23 k = w k) : ∀ d i g, i + d = 8 → (∀ k, k ≠ 25 → g k = c k) → (∀ S, S < 2 ^ i → g 25 S = wS w S) → vv_X4_addUp_L2 nt Q (d + 1) (nI i) g := by
  intro d
  induction d with
  | zero =>
    intro i g hi h1 h2
    have e : i = 8 := by omega
    subst e
    unfold vv_X4_addUp_L2
    exact ⟨fun _ => hQ g h1 h2, fun z => absurd (show (8 : Int32) ≤ nI 8 from by decide) z⟩
  | succ d ih =>
    intro i g hi h1 h2
    unfold vv_X4_addUp_L2
    refine ⟨fun z => absurd z (nI_ge (b := 8) (by omega) (by omega)), fun _ => ?_⟩
    intro x ex y ey
    rw [ex, ey, b_1 i (by omega)]
    exact ⟨2 ^ i + 1, addI_L (c := g) (by omega) (fun c' k1 k2 => ih _ _ (by omega) (fun k hk => by rw [k1 k hk]; exact h1 k hk) k2) (fun k hk => by rw [h1 23 (by decide)]; exact hw k hk) (2 ^ i) 0 g (by omega) (fun _ _ => rfl) (fun S hS => h2 S (by omega))⟩
theorem h_coal {nt : Nat} {c : Sg} {N : Nat} {P : Nat → Nat → Int32} {D E : Int32} {co : Nat → List Int32} {Q : Sg → Prop} (h : BkC nt c 1 N P D E co) (h25 : c 25 0 = 0) (hQ : ∀ c', FrV c c' → c' 22 2 = nI (stS P N) → (∀ i, i < 8 → c' 23 i = wlP P N D co i) → (∀ S, S < 256 → c' 25 S = wS (wlP P N D co) S) → Q c') : vv_X7_weighCoalitions nt c Q := by
  unfold vv_X7_weighCoalitions
  refine h_weigC h (fun c1 F1 e22 e25 e23 => ?_)
  unfold vv_X4_addUp
  intro y ey
  rw [ey]
  refine ⟨9, addO_L (c := c1) (w := wlP P N D co) (fun c' k1 k2 => hQ c' (F1.tr ⟨fun k _ hk => k1 k (by omega), ?_⟩) (by rw [k1 22 (by decide)]; exact e22) (fun i hi => by rw [k1 23 (by decide)]; exact e23 i hi) k2) e23 8 0 c1 (by omega) (fun _ _ => rfl) (fun S hS => ?_)⟩
  · rw [k2 0 (by decide), wS_0, e25, h25]
  · have : S = 0 := by simpa using hS
    rw [this, wS_0, e25, h25]
theorem an255 : ∀ S, S < 256 → nI S &&& 255 = nI S := by decide +kernel
theorem h_wos {nt S : Nat} {c : Sg} {w : Nat → Int32} {Q : Int32 → Sg → Prop} (hS : S < 256) (h : ∀ S, S < 256 → c 25 S = wS w S) (hQ : Q (wS w S) c) : vv_X4_weightOfSet nt (nI S) c Q := by
  unfold vv_X4_weightOfSet
  rw [an255 S hS, nI_clamp (by omega), h S hS]
  exact ⟨vp_in_nI hS (by decide), hQ⟩
theorem whoM_L {m : Sg} {N : Nat} {P : Nat → Nat → Int32} {D E : Int32} {co : Nat → List Int32} {Q : Int32 → Sg → Prop} (h : BkM m N P D E co) (hQ : Q (nI (stS P N)) m) : ∀ d i, i + d = N → vv_X8_wholeSet_L4 Q (d + 1) (nI (bsN (lvP P N) i)) (nI i) m := by
  intro d
  have h8 := h.2.1
  induction d with
  | zero =>
    intro i hi
    have e : i = N := by omega
    subst e
    unfold vv_X8_wholeSet_L4
    rw [h.1, ← stS_N h8]
    exact ⟨fun _ => hQ, fun z => absurd (Int32.le_refl _) z⟩
  | succ d ih =>
    intro i hi
    unfold vv_X8_wholeSet_L4
    rw [h.1]
    have go : ∀ b, b = (if lvP P N i then (1 : Int32) else 0) → vv_X8_wholeSet_J26 (vv_X8_wholeSet_L4 Q (d + 1)) (nI i) (nI (bsN (lvP P N) i)) b m Q := by
      rintro b rfl
      unfold vv_X8_wholeSet_J26
      intro x ex y ey
      rw [ex, ey, nI_1, b_bsN (by omega)]
      exact ih _ (by omega)
    refine ⟨fun z => absurd z (nI_ge (by omega) (by omega)), fun _ => h_whoM h (by omega) ?_⟩
    by_cases hl : lvP P N i = true
    · rw [hl]; exact ⟨fun z => absurd z (by decide), fun _ => go 1 (by rw [hl]; rfl)⟩
    · rw [if_neg hl]; exact ⟨fun _ => go 0 (by rw [if_neg hl]), fun z => absurd rfl z⟩
theorem h_whoS {m : Sg} {N : Nat} {P : Nat → Nat → Int32} {D E : Int32} {co : Nat → List Int32} {Q : Int32 → Sg → Prop} (h : BkM m N P D E co) (hQ : Q (nI (stS P N)) m) : vv_X8_wholeSet m Q := by
  unfold vv_X8_wholeSet
  rintro x rfl y rfl
  exact ⟨N + 1, whoM_L h hQ N 0 (by omega)⟩
theorem allM_L {m : Sg} {N S : Nat} {P : Nat → Nat → Int32} {D E : Int32} {co : Nat → List Int32} {Q : Int32 → Sg → Prop} (h : BkM m N P D E co) (hS : S < 256) (hQ : ∀ m', FrS m m' → Q (sumN (fun i => if bt S i then wtP P D co i else 0) N) m') : ∀ d i g, i + d = N → FrS m g → vv_X8_allWeights_L4 Q (d + 1) (nI S) (sumN (fun i => if bt S i then wtP P D co i else 0) i) (nI i) g := by
  intro d
  have h8 := h.2.1
  induction d with
  | zero =>
    intro i g hi F
    have e : i = N := by omega
    subst e
    unfold vv_X8_allWeights_L4
    rw [(h.keep F.Q).1]
    exact ⟨fun _ => hQ g F, fun z => absurd (Int32.le_refl _) z⟩
  | succ d ih =>
    intro i g hi F
    unfold vv_X8_allWeights_L4
    have hg := h.keep F.Q
    rw [hg.1, b_sh S hS i (by omega)]
    have go : ∀ g' b, FrS m g' → b = (if bt S i then wtP P D co i else 0) → vv_X8_allWeights_J31 (vv_X8_allWeights_L4 Q (d + 1)) (nI S) (nI i) (sumN (fun i => if bt S i then wtP P D co i else 0) i) b g' Q := by
      rintro g' b F' rfl
      unfold vv_X8_allWeights_J31
      intro x ex y ey
      rw [ex, ey, nI_1]
      exact ih _ _ (by omega) F'
    refine ⟨fun z => absurd z (nI_ge (by omega) (by omega)), fun _ => ⟨fun q => go g 0 F ?_, fun q => h_weighM hg (by omega) (fun g' F' => go g' _ (F.tr F') ?_)⟩⟩
    · have : bt S i = false := by
        unfold bt
        have h2 : ¬ S / 2 ^ i % 2 = 1 := fun w => by rw [w] at q; exact q rfl
        simpa using h2
      rw [this]; rfl
    · have : bt S i = true := by
        unfold bt
        have h1 := Nat.mod_lt (S / 2 ^ i) (show 2 > 0 by decide)
        rcases (show S / 2 ^ i % 2 = 0 ∨ S / 2 ^ i % 2 = 1 by omega) with w | w
        · rw [w] at q; exact absurd q (by decide)
        · rw [w]; rfl
      rw [this]; rfl
theorem h_allM {m : Sg} {N S : Nat} {P : Nat → Nat → Int32} {D E : Int32} {co : Nat → List Int32} {Q : Int32 → Sg → Prop} (h : BkM m N P D E co) (hS : S < 256) (hsub : anN S (stS P N) = 0) (hQ : ∀ m', FrS m m' → Q (wS (wlP P N D co) S) m') : vv_X8_allWeights (nI S) m Q := by
  unfold vv_X8_allWeights
  rintro x rfl y rfl
  refine ⟨N + 1, allM_L h hS (fun m' F => ?_) N 0 m (by omega) (FrS.rf m)⟩
  have fin := hQ m' F
  have key : ∀ i, i < 8 → (if bt S i then wlP P N D co i else 0) = (if bt S i then wtP P D co i else 0) := by
    intro i hi
    by_cases q : bt S i = true
    · rw [q]
      have h1 := an_bt (S := S) (stS_lt P N) (show i < 32 by omega)
      rw [hsub, bt_0, q] at h1
      have h2 : bt (stS P N) i = true := by simpa using h1.symm
      unfold stS at h2
      rw [bt_bsN, decide_eq_true hi, Bool.true_and] at h2
      simp only [if_true]
      unfold wlP; rw [h2]; rfl
    · rw [if_neg q, if_neg q]
  unfold wS at fin
  rw [sumN_to (F := fun i => if bt S i = true then wlP P N D co i else 0) h.2.1 (fun i hi => by unfold wlP; rw [lv_ge hi]; simp)] at fin
  rw [sumN_congr (fun i hi => key i (by have := h.2.1; omega))] at fin
  exact fin
theorem eq_count {m c : Sg} {nt : Nat} (h : Rel m c nt) (x : Int32) : vv_X7_count nt x c (fun r c' => vv_X8_count x m (fun r' m' => r = r' ∧ Rel m' c' nt)) := by
  obtain ⟨N, P, D, E, co, hM, hC, hD, hE, h25⟩ := h.bk
  have h' := h
  obtain ⟨N', hp, hd, ⟨r, d1, d2, d3⟩, ht, ⟨k, f1, f2, f3, f4⟩, hi, hs⟩ := h
  have sub : anN (stS P N) (stS P N) = 0 := (an_0 (stS_lt P N) (stS_lt P N)).mpr (Nat.and_self _)
  have inn : (0 : Int32) ≤ x ∧ x ≤ 5 → ∀ Q : Int32 → Sg → Prop, (((x ≤ (1 : Int32)) → (((¬ x = 0) → (vv_X8_wholeSet m (fun r_7 g_6 => vv_X8_bitsOf r_7 g_6 (fun r_9 g_8 => Q ((m 0 11) - r_9) g_8)))) ∧ ((x = 0) → (Q (m 0 11) m)))) ∧ ((¬ (x ≤ (1 : Int32))) → (((¬ x = (2 : Int32)) → (((¬ x = (3 : Int32)) → (((¬ x = (4 : Int32)) → (Q (m 0 4) m)) ∧ ((x = (4 : Int32)) → (Q (m 0 6) m)))) ∧ ((x = (3 : Int32)) → (Q (m 0 3) m)))) ∧ ((x = (2 : Int32)) → (vv_X8_wholeSet m (fun r_14 g_13 => vv_X8_allWeights r_14 g_13 (fun r_16 g_15 => Q r_16 g_15))))))) → vv_X8_count x m Q := by
    intro q Q hQ
    unfold vv_X8_count
    refine h_in (l := 0) (h := 5) rfl rfl ?_
    rw [if_pos q]
    exact ⟨fun _ => hQ, fun z => absurd z (by decide)⟩
  unfold vv_X7_count
  refine ⟨fun e => ?_, fun e => ?_, fun e => ?_, fun e => ?_, fun e => ?_, fun e => ?_, fun n0 n1 n2 n3 n4 n5 => ?_⟩
  · subst e
    exact inn (by decide) _ ⟨fun _ => ⟨fun q => absurd rfl q, fun _ => ⟨by rw [hC.2.1, hM.1], h'⟩⟩, fun q => absurd (by decide) q⟩
  · subst e
    refine h_stC hC (h_bitC (stS_lt P N) (inn (by decide) _ ⟨fun _ => ⟨fun _ => h_whoS hM (h_bitsM (stS_lt P N) ⟨by rw [hC.2.1, hM.1], h'⟩), fun q => absurd q (by decide)⟩, fun q => absurd (by decide) q⟩))
  · subst e
    refine h_coal hC h25 (fun c1 F1 e22 e23 e25 => ?_)
    rw [e22]
    exact h_wos (stS_lt P N) e25 (inn (by decide) _ ⟨fun q => absurd q (by decide), fun _ => ⟨fun q => absurd rfl q, fun _ => h_whoS hM (h_allM hM (stS_lt P N) sub (fun m' G => ⟨rfl, h'.frame G.Q F1.K⟩))⟩⟩)
  · subst e
    exact inn (by decide) _ ⟨fun q => absurd q (by decide), fun _ => ⟨fun _ => ⟨fun q => absurd rfl q, fun _ => ⟨by rw [ht.1, ht.2.1], h'⟩⟩, fun q => absurd q (by decide)⟩⟩
  · subst e
    exact inn (by decide) _ ⟨fun q => absurd q (by decide), fun _ => ⟨fun _ => ⟨fun _ => ⟨fun q => absurd rfl q, fun _ => ⟨by rw [f1, f2], h'⟩⟩, fun q => absurd q (by decide)⟩, fun q => absurd q (by decide)⟩⟩
  · subst e
    exact inn (by decide) _ ⟨fun q => absurd q (by decide), fun _ => ⟨fun _ => ⟨fun _ => ⟨fun _ => ⟨by rw [d2, d3], h'⟩, fun q => absurd q (by decide)⟩, fun q => absurd q (by decide)⟩, fun q => absurd q (by decide)⟩⟩
  · unfold vv_X8_count
    refine h_in (l := 0) (h := 5) rfl rfl ?_
    rw [if_neg (fun q => ?_)]
    · exact ⟨fun z => absurd rfl z, fun _ => ⟨rfl, h'⟩⟩
    · obtain ⟨a, ha, rfl⟩ := rng_nI (n := 5) (by decide) q
      rcases (show a = 0 ∨ a = 1 ∨ a = 2 ∨ a = 3 ∨ a = 4 ∨ a = 5 by omega) with rfl | rfl | rfl | rfl | rfl | rfl
      · exact n0 rfl
      · exact n1 rfl
      · exact n2 rfl
      · exact n3 rfl
      · exact n4 rfl
      · exact n5 rfl
