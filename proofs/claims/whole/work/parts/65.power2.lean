section
/-! ===== power() ===== -/
def fcN : Nat → Nat
  | 0 => 1
  | n + 1 => (n + 1) * fcN n
theorem fcN_pos (n : Nat) : 0 < fcN n := by
  induction n with
  | zero => decide
  | succ n ih => rw [fcN]; exact Nat.mul_pos (Nat.succ_pos n) ih
theorem fcN_20 : ∀ n, n < 9 → fcN n < 2 ^ 20 := by decide +kernel
theorem fcN_b : ∀ n, n < 9 → ∀ c, c < 9 → fcN c * fcN (n - c) ≤ 40320 := by decide +kernel
theorem fcN_s (k : Nat) : fcN k * (k + 1) = fcN (k + 1) := by rw [fcN, Nat.mul_comm]
theorem nI_subN {a b : Nat} (h : b ≤ a) : nI a - nI b = nI (a - b) := by
  have e := nI_add (a - b) b
  rw [Nat.sub_add_cancel h] at e
  rw [← e]
  grind
theorem facC_L {nt n : Nat} {c : Sg} {Q : Int64 → Sg → Prop} (hn : n ≤ 9) (hQ : Q (lN (fcN n)) c) : ∀ d k, k + d = n → vv_X7_factorial_L4 nt Q (d + 1) (nI n) (lN (fcN k)) (nI (k + 1)) c := by
  intro d
  induction d with
  | zero =>
    intro k hk
    have e : k = n := by omega
    subst e
    unfold vv_X7_factorial_L4
    exact ⟨fun _ => hQ, fun z => absurd (nI_lt (by omega) (by omega)) z⟩
  | succ d ih =>
    intro k hk
    unfold vv_X7_factorial_L4
    refine ⟨fun z => absurd z (nI_nlt (by omega) (by omega)), fun _ => ?_⟩
    intro a ea b eb
    rw [ea, eb, nI_1, nI_l (by omega), lN_mul, fcN_s]
    exact ih (k + 1) (by omega)
theorem h_facC {nt n : Nat} {c : Sg} {Q : Int64 → Sg → Prop} (hn : n ≤ 9) (hQ : Q (lN (fcN n)) c) : vv_X7_factorial nt (nI n) c Q := by
  unfold vv_X7_factorial
  intro a ea b eb
  rw [ea, eb]
  by_cases h0 : n = 0
  · subst h0
    refine ⟨1, ?_⟩
    unfold vv_X7_factorial_L4
    exact ⟨fun _ => hQ, fun z => absurd (by decide) z⟩
  · have k := facC_L (nt := nt) hn hQ (n - 1) 1 (by omega)
    rw [show lN (fcN 1) = 1 by decide, show nI (1 + 1) = 2 by decide] at k
    exact ⟨_, k⟩
theorem facM_L {n : Nat} {c : Sg} {Q : Int64 → Sg → Prop} (hn : n ≤ 9) (hQ : Q (lN (fcN n)) c) : ∀ d k, k + d = n → vv_X8_orders_L4 Q (d + 1) (nI n) (lN (fcN k)) (nI (k + 1)) c := by
  intro d
  induction d with
  | zero =>
    intro k hk
    have e : k = n := by omega
    subst e
    unfold vv_X8_orders_L4
    exact ⟨fun _ => hQ, fun z => absurd (nI_lt (by omega) (by omega)) z⟩
  | succ d ih =>
    intro k hk
    unfold vv_X8_orders_L4
    refine ⟨fun z => absurd z (nI_nlt (by omega) (by omega)), fun _ => ?_⟩
    intro a ea b eb
    rw [ea, eb, nI_1, nI_l (by omega), lN_mul, fcN_s]
    exact ih (k + 1) (by omega)
theorem h_facM {n : Nat} {c : Sg} {Q : Int64 → Sg → Prop} (hn : n ≤ 9) (hQ : Q (lN (fcN n)) c) : vv_X8_orders (nI n) c Q := by
  unfold vv_X8_orders
  intro a ea b eb
  rw [ea, eb]
  by_cases h0 : n = 0
  · subst h0
    refine ⟨1, ?_⟩
    unfold vv_X8_orders_L4
    exact ⟨fun _ => hQ, fun z => absurd (by decide) z⟩
  · have k := facM_L hn hQ (n - 1) 1 (by omega)
    rw [show lN (fcN 1) = 1 by decide, show nI (1 + 1) = 2 by decide] at k
    exact ⟨_, k⟩
/-- what a set of others adds -/
def pwF (E w : Int32) (V c : Nat) (x : Int32) : Nat := dcd E w x * (fcN c * fcN (V - c))
def pwC (E w : Int32) (wl : Nat → Int32) (T V S : Nat) : Nat := if anN S T = 0 then pwF E w V (pop S) (wS wl S) else 0
def pwR (E : Int32) (w : Nat → Int32) (V pl S : Nat) : Nat := if bt S pl = true then dcG E (w pl) (wV w V S) * (fcN (pop S - 1) * fcN (V - pop S)) else 0
theorem pop_any (S : Nat) : pop S ≤ 8 := by unfold pop; omega
theorem pop_one : ∀ S, S < 256 → ∀ i, i < 8 → bt S i = true → 1 ≤ pop S := by decide +kernel
theorem pop_subs {S T : Nat} (hS : S < 256) (hT : T < 256) (h : anN S T = 0) : pop S ≤ pop T := by
  have e := (an_0 hS hT).mp h
  rw [← e, Nat.and_comm]
  exact pop_and T S
theorem dcd_le (E v x : Int32) : dcd E v x ≤ 1 := by unfold dcd; split <;> omega
theorem pwC_le {E w : Int32} {wl : Nat → Int32} {T V : Nat} (hV : V ≤ 8) (S : Nat) : pwC E w wl T V S ≤ 40320 := by
  unfold pwC
  split
  · unfold pwF
    have h1 := fcN_b V (by omega) (pop S) (by have := pop_any S; omega)
    have h2 := Nat.mul_le_mul (dcd_le E w (wS wl S)) h1
    omega
  · omega
theorem powC_L {nt : Nat} {c : Sg} {p T V : Nat} {E w x2 : Int32} {wl : Nat → Int32} {Q : Int64 → Sg → Prop} (hp : p < 8) (hT : T < 256) (hV : pop T = V) (hE : c 1 3 = E) (h23 : c 23 p = w) (h25 : ∀ S, S < 256 → c 25 S = wS wl S) (hQ : vv_X7_factorial nt (nI V + 1) c (fun r g => vv_X7_fraction nt (lN (sR (pwC E w wl T V) (T + 1))) r x2 g (fun r g => Q r g))) : ∀ d S, S + d = T + 1 → vv_X7_power_L79 nt Q (d + 1) (nI p) x2 (nI T) (nI V) (lN (sR (pwC E w wl T V) S)) (nI S) c := by
  intro d
  induction d with
  | zero =>
    intro S hS
    have e : S = T + 1 := by omega
    subst e
    unfold vv_X7_power_L79
    exact ⟨fun _ => hQ, fun z => absurd (nI_lt (by omega) (by omega)) z⟩
  | succ d ih =>
    intro S hS
    have hS' : S < 256 := by omega
    unfold vv_X7_power_L79
    rw [an_I hS' hT]
    have nx := ih (S + 1) (by omega)
    rw [sR] at nx
    unfold vv_X7_power_J145
    have no : pwC E w wl T V S = 0 → ∀ a : Int32, a = nI S + 1 → vv_X7_power_L79 nt Q (d + 1) (nI p) x2 (nI T) (nI V) (lN (sR (pwC E w wl T V) S)) a c := fun z a ea => by
      rw [ea, nI_1]
      rw [z] at nx; exact nx
    refine ⟨fun z => absurd z (nI_nlt (by omega) (by omega)), fun _ => ⟨fun q => no (if_neg (fun w => q (by rw [w]; rfl))), fun q => h_wos hS' h25 ⟨vp_in_nI hp (by decide), ?_⟩⟩⟩
    have q' : anN S T = 0 := (nI_eq (b := 0) (by have := an_le S T; omega) (by decide)).mp q
    rw [nI_clamp (by omega), h23]
    refine h_dec hE (fun w1 => ⟨fun z => absurd z (by decide), fun _ => h_bitC hS' ?_⟩) (fun w1 => ⟨fun _ => no ?_, fun z => absurd rfl z⟩)
    · intro a ea
      have hle := pop_subs hS' hT q'
      have h8 := pop_any S
      have h8' := pop_any T
      rw [ea]
      refine h_facC (by omega) ?_
      rw [nI_subN (by omega)]
      refine h_facC (by omega) ?_
      intro b eb e ee
      rw [eb, ee, lN_mul, lN_add, nI_1]
      rw [show pwC E w wl T V S = fcN (pop S) * fcN (V - pop S) by unfold pwC; rw [if_pos q']; unfold pwF; rw [w1, Nat.one_mul]] at nx
      exact nx
    · unfold pwC; rw [if_pos q']; unfold pwF; rw [w1, Nat.zero_mul]
theorem powM_L {m : Sg} {V pl : Nat} {w : Nat → Int32} {E x2 : Int32} {Q : Int64 → Sg → Prop} (hV : V ≤ 8) (hpl : pl < V) (h8 : m 0 8 = E) (h29 : m 0 29 = nI V) (h30 : m 0 30 = nI pl) (h7 : ∀ k, k < V → m 7 k = w k) (hQ : vv_X8_orders (nI V) m (fun r g => vv_X8_lowest (lN (sR (pwR E w V pl) (2 ^ V))) r x2 g (fun r g => Q r g))) : ∀ d S, S + d = 2 ^ V → vv_X8_power_L63 Q (d + 1) x2 (lN (sR (pwR E w V pl) S)) (nI S) m := by
  intro d
  have hp : 2 ^ V ≤ 256 := pow8 hV
  induction d with
  | zero =>
    intro S hS
    have e : S = 2 ^ V := by omega
    subst e
    unfold vv_X8_power_L63
    rw [h29, b_1s V (by omega)]
    exact ⟨fun _ => hQ, fun z => absurd (Int32.le_refl _) z⟩
  | succ d ih =>
    intro S hS
    unfold vv_X8_power_L63
    rw [h29, b_1s V (by omega)]
    have nx := ih (S + 1) (by omega)
    rw [sR] at nx
    refine ⟨fun z => absurd z (nI_ge (by omega) (by omega)), fun _ => h_wgtM (by omega) (by omega) h29 h7 ?_⟩
    intro x ex
    rw [ex, h30, b_sh9 S (by omega) pl (by omega)]
    have no : pwR E w V pl S = 0 → ∀ a : Int64, a = lN (sR (pwR E w V pl) S) + 0 → ∀ b : Int32, b = nI S + 1 → vv_X8_power_L63 Q (d + 1) x2 a b m := by
      intro z a ea b eb
      rw [ea, eb, nI_1, Int64.add_zero]
      rw [z] at nx; exact nx
    unfold vv_X8_power_J100 vv_X8_power_J163 vv_X8_power_J164
    rw [h8, h30, nI_clamp (show pl < 2 ^ 31 by omega), h7 pl hpl]
    refine ⟨fun q => ?_, fun q => ?_⟩
    · intro y ey
      refine ⟨fun _ => no (by unfold pwR; rw [bt_f q]; simp), fun z => absurd ey z⟩
    · intro y ey
      have ht := bt_t q
      refine ⟨fun z => absurd (ey.symm.trans z) (by decide), fun _ => ⟨fun q1 => no ?_, fun q1 => ⟨vp_in_nI (by omega) (by decide), fun q2 => no ?_, fun q2 => ?_⟩⟩⟩
      · unfold pwR dcG; rw [if_pos ht, if_neg (fun z => z.1 q1), Nat.zero_mul]
      · unfold pwR dcG; rw [if_pos ht, if_neg (fun z => z.2 q2), Nat.zero_mul]
      · have h1 := pop_one S (by omega) pl (by omega) ht
        have h2 := pop_lt V (by omega) S (by omega)
        refine h_bitsM (by omega) ?_
        rw [nI_sub1 (by omega)]
        refine h_facM (by omega) (h_bitsM (by omega) ?_)
        rw [h29, nI_subN (by omega)]
        refine h_facM (by omega) ?_
        intro a ea b eb
        rw [ea, eb, lN_mul, lN_add, nI_1]
        rw [show pwR E w V pl S = fcN (pop S - 1) * fcN (V - pop S) by unfold pwR dcG; rw [if_pos ht, if_pos ⟨q1, q2⟩, Nat.one_mul]] at nx
        exact nx
/-- all others -/
def otV (P : Nat → Nat → Int32) (N p : Nat) : Nat := ctB (otP P N p) N
def pwS (P : Nat → Nat → Int32) (N : Nat) (D E : Int32) (co : Nat → List Int32) (p : Nat) (x2 : Int32) : Int64 := if E ≤ wS (wlP P N D co) (stS P N) then lwS (tO P N D co p (pwF E (wtP P D co p) (otV P N p))) (fcN (otV P N p + 1)) x2 else -4611686018427387904
theorem ot_pop {P : Nat → Nat → Int32} {N p : Nat} (h8 : N ≤ 8) : pop (bsN (otP P N p) 8) = otV P N p := by
  rw [bsN_to h8 (fun i hi => by unfold otP; rw [lv_ge hi]; rfl), pop_bsN h8]; rfl
theorem ot_rk {P : Nat → Nat → Int32} {N p : Nat} (hp : p < N) (hl : lvP P N p = true) : rkP P N N = otV P N p + 1 := by
  unfold rkP otV
  exact ctB_one hp hl (by unfold otP; simp) (fun k hk => by unfold otP; simp [hk])
theorem ot_A {P : Nat → Nat → Int32} {N p : Nat} {D E : Int32} {co : Nat → List Int32} (h8 : N ≤ 8) : sR (pwC E (wtP P D co p) (wlP P N D co) (bsN (otP P N p) 8) (otV P N p)) (bsN (otP P N p) 8 + 1) = tO P N D co p (pwF E (wtP P D co p) (otV P N p)) := tO_C' (G := pwF E (wtP P D co p) (otV P N p)) h8
theorem ot_Ab {P : Nat → Nat → Int32} {N p : Nat} {D E : Int32} {co : Nat → List Int32} (h8 : N ≤ 8) (hV : otV P N p ≤ 8) : tO P N D co p (pwF E (wtP P D co p) (otV P N p)) < 2 ^ 31 := by
  rw [← ot_A h8]
  have h1 := sR_le (n := bsN (otP P N p) 8 + 1) (pwC_le (E := E) (w := wtP P D co p) (wl := wlP P N D co) (T := bsN (otP P N p) 8) hV)
  have h2 := bsN_256 (otP P N p) (n := 8) (by omega)
  omega
theorem ot_V {P : Nat → Nat → Int32} {N p : Nat} (h8 : N ≤ 8) (hp : p < N) (hl : lvP P N p = true) : otV P N p ≤ 7 := by
  have h1 := ot_rk hp hl
  have h2 := ctB_le (lvP P N) N
  unfold rkP at h1
  omega
theorem h_powC {nt : Nat} {c : Sg} {N p : Nat} {P : Nat → Nat → Int32} {D E x2 : Int32} {co : Nat → List Int32} {Q : Int64 → Sg → Prop} (h : BkC nt c 1 N P D E co) (h25 : c 25 0 = 0) (hp : p < N) (hl : lvP P N p = true) (hx : (0 : Int32) ≤ x2 ∧ x2 ≤ 1) (hQ : ∀ c', FrV c c' → Q (pwS P N D E co p x2) c') : vv_X7_power nt (nI p) x2 c Q := by
  have h8 := h.2.2.1
  unfold vv_X7_power
  refine h_stands h (fun i hi e hli => ⟨fun z => absurd z (by decide), fun _ => ⟨fun z => absurd z (Int32.not_lt.mpr hx.1), fun _ => ⟨fun _ => h_coal h h25 (fun c1 F1 e22 e23 e25 => ?_), fun z => absurd hx.2 z⟩⟩⟩) (fun no => absurd ⟨p, hp, rfl, hl⟩ no)
  have hV7 := ot_V h8 hp hl
  have hE1 : c1 1 3 = E := by rw [F1.1 1 (by decide) (by decide)]; exact h.2.2.2.2.2.1
  have e23p : c1 23 p = wtP P D co p := by rw [e23 p (by omega)]; unfold wlP; rw [if_pos hl]
  rw [e22]
  refine h_wos (stS_lt P N) e25 ?_
  rw [hE1, e22, b_1 p (by omega), an_I (stS_lt P N) (Nat.pow_lt_pow_right (a := 2) (n := 8) (by decide) (by omega)), ot_an (by omega)]
  have fin := hQ c1 F1
  unfold pwS at fin
  refine ⟨fun q => ?_, fun q => ?_⟩
  · rw [if_pos q] at fin
    intro a ea
    rw [ea]
    have hT : bsN (otP P N p) 8 < 256 := bsN_256 _ (by omega)
    refine h_bitC hT ?_
    intro b eb u eu v ev
    rw [eb, eu, ev, ot_pop h8]
    refine ⟨_, powC_L (by omega) hT (ot_pop h8) hE1 e23p e25 ?_ (bsN (otP P N p) 8 + 1) 0 (by omega)⟩
    rw [nI_1, ot_A h8]
    exact h_facC (by omega) (h_fracC (ot_Ab h8 (by omega)) (fcN_pos _) (fcN_20 _ (by omega)) fin)
  · rw [if_neg q] at fin
    exact fin
theorem bt_all : ∀ V, V < 9 → ∀ k, k < V → bt (2 ^ V - 1) k = true := by decide +kernel
theorem sum_cmp {P : Nat → Nat → Int32} {N : Nat} {D : Int32} {co : Nat → List Int32} {w7 : Nat → Int32} (h7 : ∀ i, i < N → lvP P N i = true → w7 (rkP P N i) = wtP P D co i) : ∀ n, n ≤ N → sumN (wlP P N D co) n = sumN w7 (rkP P N n) := by
  intro n
  induction n with
  | zero => intro _; rfl
  | succ n ih =>
    intro hn
    rw [sumN, ih (by omega)]
    unfold rkP
    rw [ctB]
    by_cases q : lvP P N n = true
    · rw [if_pos q, sumN]
      have := h7 n (by omega) q
      unfold rkP at this
      rw [this]
      unfold wlP
      rw [if_pos q]
    · rw [if_neg q, Nat.add_zero]
      unfold wlP
      rw [if_neg q, Int32.add_zero]
theorem all_w {P : Nat → Nat → Int32} {N : Nat} {D : Int32} {co : Nat → List Int32} {w7 : Nat → Int32} (h8 : N ≤ 8) (h7 : ∀ i, i < N → lvP P N i = true → w7 (rkP P N i) = wtP P D co i) : wV w7 (rkP P N N) (2 ^ rkP P N N - 1) = wS (wlP P N D co) (stS P N) := by
  have hr : rkP P N N ≤ 8 := by have := ctB_le (lvP P N) N; unfold rkP; omega
  unfold wV wS
  rw [sumN_congr (G := w7) (fun k hk => by rw [bt_all _ (by omega) k hk]; rfl)]
  rw [← sum_cmp h7 N (Nat.le_refl N)]
  rw [sumN_congr (n := 8) (G := wlP P N D co) (fun i hi => ?_)]
  · exact (sumN_to h8 (fun i hi => by unfold wlP; rw [lv_ge hi]; rfl)).symm
  · unfold stS
    rw [bt_bsN, decide_eq_true hi, Bool.true_and]
    unfold wlP
    cases lvP P N i <;> rfl
theorem h_powM {m : Sg} {N p : Nat} {P : Nat → Nat → Int32} {D E x2 : Int32} {co : Nat → List Int32} {Q : Int64 → Sg → Prop} (h : BkM m N P D E co) (hp : p < N) (hl : lvP P N p = true) (hx : (0 : Int32) ≤ x2 ∧ x2 ≤ 1) (hQ : ∀ m', FrQ m m' → Q (pwS P N D E co p x2) m') : vv_X8_power (nI p) x2 m Q := by
  have h8 := h.2.1
  unfold vv_X8_power
  refine h_isOne h.1 h8 (fun i hi e => ⟨fun z => absurd z (by decide), fun _ => pre_M h hp hl ⟨fun z => absurd z (by decide), fun _ => h_in (l := 0) (h := 1) rfl rfl ?_⟩⟩) (fun no => absurd ⟨p, hp, rfl⟩ no)
  rw [if_pos hx]
  refine ⟨fun _ => h_lineM h hp hl (fun g hg => ?_), fun z => absurd z (by decide)⟩
  obtain ⟨g8, g29, g30, g7, lt, le⟩ := ln_oft h hp hl hg
  have hV7 := ot_V h8 hp hl
  have er := ot_rk hp hl
  have aw := all_w (w7 := fun k => g 7 k) h8 (fun i hi hli => hg.2.2.2 i hi hli)
  have fin := hQ g hg.1
  unfold pwS at fin
  have hw2 : 2 ^ rkP P N N ≤ 256 := pow8 le
  have hw1 : 0 < 2 ^ rkP P N N := Nat.two_pow_pos _
  rw [g29, b_1s _ (by omega), nI_sub1 hw1]
  refine h_wgtM (w := fun k => g 7 k) (V := rkP P N N) (by omega) (by omega) g29 (fun _ _ => rfl) ?_
  rw [aw, g8]
  refine ⟨fun q => ?_, fun q => ?_⟩
  · rw [if_pos q] at fin
    intro a ea b eb
    rw [ea, eb]
    refine ⟨_, powM_L (w := fun k => g 7 k) le lt g8 g29 g30 (fun _ _ => rfl) ?_ (2 ^ rkP P N N) 0 (by omega)⟩
    have eA : sR (pwR E (fun k => g 7 k) (rkP P N N) (rkP P N p)) (2 ^ rkP P N N) = tO P N D co p (pwF E (wtP P D co p) (otV P N p)) := by
      have t := tS_M (w := fun k => g 7 k) (pl := rkP P N p) (cd := pop) (V := rkP P N N) (by omega) (by decide) (fun i hi S hS => pop_add i (by omega) S hS) (Nat.le_refl _) (fun c x => dcG E (g 7 (rkP P N p)) x * (fcN (c - 1) * fcN (rkP P N N - c)))
      rw [tS_must (md := fun k => if k = rkP P N p then 2 else 1) (p := rkP P N p) (if_pos rfl) lt, tO_M hp hl (fun i hi hli _ => hg.2.2.2 i hi hli)] at t
      refine Eq.trans (Eq.trans (sR_congr (fun S _ => ?_)) t) ?_
      · unfold pwR
        by_cases q : bt S (rkP P N p) = true
        · rw [if_pos q, if_pos (fun _ => q)]
        · rw [if_neg q, if_neg (fun z => q (z lt))]
      · congr 1
        funext c x
        unfold pwF
        rw [g7, dcG_d, er, Nat.add_sub_cancel, Nat.add_sub_add_right]
    rw [eA]
    refine h_facM (by omega) ?_
    rw [er]
    exact h_lowM (ot_Ab h8 (by omega)) (fcN_pos _) (fcN_20 _ (by omega)) fin
  · rw [if_neg q] at fin
    exact fin
theorem eq_power {m c : Sg} {nt : Nat} (h : Rel m c nt) (x x2 : Int32) : vv_X7_power nt x x2 c (fun r c' => vv_X8_power x x2 m (fun r' m' => r = r' ∧ Rel m' c' nt)) := by
  obtain ⟨N, P, D, E, co, hM, hC, hD, hE, h25⟩ := h.bk
  have h8 := hM.2.1
  by_cases hx : (0 : Int32) ≤ x2 ∧ x2 ≤ 1
  · by_cases hp : ∃ p, p < N ∧ x = nI p ∧ lvP P N p = true
    · obtain ⟨p, hp, rfl, hl⟩ := hp
      exact h_powC hC h25 hp hl hx (fun c' F => h_powM hM hp hl hx (fun m' G => ⟨rfl, h.frame G F.K⟩))
    · unfold vv_X7_power
      refine h_stands hC (fun p hq e hl => absurd ⟨p, hq, e, hl⟩ hp) (fun no => ⟨fun _ => ?_, fun z => absurd rfl z⟩)
      unfold vv_X8_power
      refine h_isOne hM.1 h8 (fun i hi e => ⟨fun z => absurd z (by decide), fun _ => ?_⟩) (fun _ => ⟨fun _ => ⟨rfl, h⟩, fun z => absurd rfl z⟩)
      subst e
      refine h_whoM hM hi ?_
      rw [lv_no no hi]
      exact ⟨fun _ => ⟨rfl, h⟩, fun z => absurd rfl z⟩
  · have ref : vv_X8_power x x2 m (fun r' m' => -4611686018427387904 = r' ∧ Rel m' c nt) := by
      unfold vv_X8_power
      refine h_isOne hM.1 h8 (fun i hi e => ⟨fun z => absurd z (by decide), fun _ => ?_⟩) (fun _ => ⟨fun _ => ⟨rfl, h⟩, fun z => absurd rfl z⟩)
      subst e
      refine h_whoM hM hi ?_
      refine ⟨fun _ => ⟨rfl, h⟩, fun _ => h_in (l := 0) (h := 1) rfl rfl ?_⟩
      rw [if_neg hx]
      exact ⟨fun z => absurd rfl z, fun _ => ⟨rfl, h⟩⟩
    unfold vv_X7_power
    refine h_stands hC (fun p hq e hl => ⟨fun z => absurd z (by decide), fun _ => ⟨fun _ => ref, fun z1 => ⟨fun z2 => absurd ⟨Int32.not_lt.mp z1, z2⟩ hx, fun _ => ref⟩⟩⟩) (fun no => ⟨fun _ => ref, fun z => absurd rfl z⟩)
end
