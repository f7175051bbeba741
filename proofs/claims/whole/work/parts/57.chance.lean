/-! ===== drawn(), chance() ===== -/
def czN (z : Int32) : Int32 := z * 1103515245 + 12345
def czB (S z : Int32) : Int32 := (S >>> (((z.toUInt32 >>> ((9 : Int32).toUInt32 &&& Int32.toUInt32 31)).toInt32 - (z.toUInt32 >>> ((9 : Int32).toUInt32 &&& Int32.toUInt32 31)).toInt32 / (8 : Int32) * (8 : Int32)) &&& 31)) &&& (1 : Int32)
def czG (S : Int32) : Nat → Int32 → Int32 → Int32
  | 0, _, a => a
  | d + 1, z, a => czG S d (czN z) (a + czB S (czN z))
theorem seedC_L {nt n : Nat} {S : Int32} {c : Sg} {Q : Int32 → Sg → Prop} (hn : n < 1000) : ∀ d i z a, i + d = n → Q (czG S d z a) c → vv_X7_carriedOfSeed_L8 nt Q (d + 1) S (nI n) z a (nI i) c := by
  intro d
  induction d with
  | zero =>
    intro i z a hi hQ
    have e : i = n := by omega
    subst e
    unfold vv_X7_carriedOfSeed_L8
    exact ⟨fun _ => hQ, fun z => absurd (Int32.le_refl _) z⟩
  | succ d ih =>
    intro i z a hi hQ
    unfold vv_X7_carriedOfSeed_L8
    refine ⟨fun z => absurd z (nI_ge (by omega) (by omega)), fun _ => ?_⟩
    intro z' ez a' ea y ey
    rw [ea, ey, ez, nI_1]
    exact ih _ _ _ (by omega) hQ
theorem h_seedC {nt n : Nat} {S z : Int32} {c : Sg} {Q : Int32 → Sg → Prop} (hn : n < 1000) (hQ : Q (czG S n z 0) c) : vv_X7_carriedOfSeed nt S z (nI n) c Q := by
  unfold vv_X7_carriedOfSeed
  intro z' ez a ea b eb
  rw [ez, ea, eb]
  exact ⟨n + 1, seedC_L hn n 0 _ _ (by omega) hQ⟩
theorem seedM_L {n : Nat} {S : Int32} {m : Sg} {Q : Int32 → Sg → Prop} (hn : n < 1000) : ∀ d i z a, i + d = n → Q (czG S d z a) m → vv_X8_carriedBy_L14 Q (d + 1) (nI n) z S a (nI i) m := by
  intro d
  induction d with
  | zero =>
    intro i z a hi hQ
    have e : i = n := by omega
    subst e
    unfold vv_X8_carriedBy_L14
    exact ⟨fun _ => hQ, fun z => absurd (Int32.le_refl _) z⟩
  | succ d ih =>
    intro i z a hi hQ
    unfold vv_X8_carriedBy_L14
    refine ⟨fun z => absurd z (nI_ge (by omega) (by omega)), fun _ => ?_⟩
    intro z' ez a' ea y ey
    rw [ea, ey, ez, nI_1]
    exact ih _ _ _ (by omega) hQ
theorem h_seedM {m : Sg} {N n : Nat} {P : Nat → Nat → Int32} {D E z : Int32} {co : Nat → List Int32} {Q : Int32 → Sg → Prop} (h : BkM m N P D E co) (hn : n < 1000) (hQ : ∀ m', FrS m m' → Q (czG (nI (ctS P N D E co)) n z 0) m') : vv_X8_carriedBy z (nI n) m Q := by
  unfold vv_X8_carriedBy
  intro z' ez
  rw [ez]
  refine h_carSM h (fun m' F => ?_)
  intro a ea b eb y ey
  rw [ea, eb, ey]
  exact ⟨n + 1, seedM_L hn n 0 _ _ (by omega) (hQ m' F)⟩
theorem eq_drawn {m c : Sg} {nt : Nat} (h : Rel m c nt) (x1 x2 : Int32) : vv_X7_drawn nt x1 x2 c (fun r c' => vv_X8_drawn x1 x2 m (fun r' m' => r = r' ∧ Rel m' c' nt)) := by
  obtain ⟨N, P, D, E, co, hM, hC, hD, hE, h25⟩ := h.bk
  have bad : ¬ ((0 : Int32) ≤ x2 ∧ x2 ≤ 99) → vv_X8_drawn x1 x2 m (fun r' m' => -2 = r' ∧ Rel m' c nt) := fun z => by
    unfold vv_X8_drawn
    refine h_in (l := 0) (h := 99) rfl rfl ?_
    rw [if_neg z]; exact ⟨fun _ => ⟨rfl, h⟩, fun z => absurd rfl z⟩
  unfold vv_X7_drawn
  refine ⟨fun z => bad (fun q => absurd q.1 (Int32.not_le.mpr z)), fun z1 => ⟨fun z2 => h_carSC hC (fun c' F => ?_), fun z => bad (fun q => z q.2)⟩⟩
  obtain ⟨n, hn, rfl⟩ := rng_nI (n := 99) (by decide) ⟨Int32.not_lt.mp z1, z2⟩
  refine h_seedC (by omega) ?_
  unfold vv_X8_drawn
  refine h_in (l := 0) (h := 99) rfl rfl ?_
  rw [if_pos ⟨Int32.not_lt.mp z1, z2⟩]
  exact ⟨fun z => absurd z (by decide), fun _ => h_seedM hM (by omega) (fun m' G => ⟨rfl, h.frame G.Q F.K⟩)⟩
/-- in lowest terms -/
def lwS (A B : Nat) (p : Int32) : Int64 := if p = 0 then lN A / lN (Nat.gcd A B) else lN B / lN (Nat.gcd A B)
theorem frJ {nt A B g : Nat} {p : Int32} {c : Sg} {Q : Int64 → Sg → Prop} (hg : g = Nat.gcd A B) (h0 : 0 < g) (hb : g < 2 ^ 31) (hQ : Q (lwS A B p) c) : vv_X7_fraction_J44 nt (lN A) (lN B) p (lN g) c Q := by
  unfold vv_X7_fraction_J44
  have ne : ¬ lN g = 0 := fun q => by have := (lN_eq (b := 0) hb (by decide)).mp q; omega
  unfold lwS at hQ
  rw [← hg] at hQ
  refine ⟨fun _ => ⟨fun q => ⟨ne, by rw [if_neg q] at hQ; exact hQ⟩, fun q => ⟨ne, by rw [if_pos q] at hQ; exact hQ⟩⟩, fun q => absurd ((lg_cmp_eq _ _).mp q) ne⟩
theorem frC_s {nt A B a b j f : Nat} {p : Int32} {c : Sg} {Q : Int64 → Sg → Prop} (ha : a < 2 ^ 31) (hb : b < 2 ^ 31) (h0 : 0 < b) (hj : j < 100) (hn : vv_X7_fraction_L9 nt Q f (lN A) (lN B) p (lN b) (lN (a % b)) (nI (j + 1)) c) : vv_X7_fraction_L9 nt Q (f + 1) (lN A) (lN B) p (lN a) (lN b) (nI j) c := by
  unfold vv_X7_fraction_L9
  have ne : ¬ lN b = 0 := fun q => by have := (lN_eq (b := 0) hb (by decide)).mp q; omega
  refine ⟨fun z => absurd z (nI_ge (b := 100) hj (by decide)), fun _ => ⟨fun z => absurd ((lg_cmp_eq _ _).mp z) ne, fun _ => ⟨ne, ?_⟩⟩⟩
  intro x ex y ey z ez w ew
  rw [ez, ey, ex, ew, nI_1, pk_lRem (by omega) h0 (by omega)]
  exact hn
theorem frC_e {nt A B a j : Nat} {p : Int32} {c : Sg} {Q : Int64 → Sg → Prop} (h : vv_X7_fraction_J44 nt (lN A) (lN B) p (lN a) c Q) : vv_X7_fraction_L9 nt Q 1 (lN A) (lN B) p (lN a) (lN 0) (nI j) c := by
  unfold vv_X7_fraction_L9
  exact ⟨fun _ => h, fun _ => ⟨fun _ => h, fun z => absurd ((lg_cmp_eq _ _).mpr rfl) z⟩⟩
theorem gcd_st (a b : Nat) : Nat.gcd b (a % b) = Nat.gcd a b := by rw [Nat.gcd_comm b, ← Nat.gcd_rec, Nat.gcd_comm]
theorem frC_L {nt A B : Nat} {p : Int32} {c : Sg} {Q : Int64 → Sg → Prop} (hQ : Q (lwS A B p) c) (hg0 : 0 < Nat.gcd A B) (hgb : Nat.gcd A B < 2 ^ 31) : ∀ s a b j, b < 2 ^ s → a < 2 ^ 31 → b < 2 ^ 31 → j + 2 * s < 100 → Nat.gcd a b = Nat.gcd A B → ∃ f, vv_X7_fraction_L9 nt Q f (lN A) (lN B) p (lN a) (lN b) (nI j) c := by
  intro s
  induction s with
  | zero =>
    intro a b j hb ha _ hj hg
    have e : b = 0 := by simpa using hb
    subst e
    rw [Nat.gcd_zero_right] at hg
    exact ⟨1, frC_e (frJ hg (by omega) (by omega) hQ)⟩
  | succ s ih =>
    intro a b j hb ha hb' hj hg
    by_cases h0 : b = 0
    · subst h0
      rw [Nat.gcd_zero_right] at hg
      exact ⟨1, frC_e (frJ hg (by omega) (by omega) hQ)⟩
    · have hr := Nat.mod_lt a (show b > 0 by omega)
      have hg1 : Nat.gcd b (a % b) = Nat.gcd A B := (gcd_st a b).trans hg
      by_cases h1 : a % b = 0
      · rw [h1, Nat.gcd_zero_right] at hg1
        refine ⟨2, frC_s ha hb' (by omega) (by omega) ?_⟩
        rw [h1]
        exact frC_e (frJ hg1 (by omega) (by omega) hQ)
      · have hr2 := Nat.mod_lt b (show a % b > 0 by omega)
        have hlt : b % (a % b) < 2 ^ s := by
          have h3 := Nat.div_add_mod b (a % b)
          have h4 : 1 ≤ b / (a % b) := Nat.div_pos (by omega) (by omega)
          have h5 : a % b ≤ (a % b) * (b / (a % b)) := Nat.le_mul_of_pos_right _ h4
          rw [Nat.pow_succ] at hb
          omega
        obtain ⟨f, hf⟩ := ih (a % b) (b % (a % b)) (j + 2) hlt (by omega) (by omega) (by omega) ((gcd_st b (a % b)).trans hg1)
        exact ⟨f + 2, frC_s ha hb' (by omega) (by omega) (frC_s hb' (by omega) (by omega) (by omega) hf)⟩
theorem h_fracC {nt A B : Nat} {p : Int32} {c : Sg} {Q : Int64 → Sg → Prop} (hA : A < 2 ^ 31) (hB : 0 < B) (hB' : B < 2 ^ 20) (hQ : Q (lwS A B p) c) : vv_X7_fraction nt (lN A) (lN B) p c Q := by
  unfold vv_X7_fraction
  intro x ex y ey z ez
  rw [ex, ey, ez]
  have g0 : 0 < Nat.gcd A B := Nat.gcd_pos_of_pos_right _ hB
  have g1 : Nat.gcd A B ≤ B := Nat.gcd_le_right _ hB
  exact frC_L hQ g0 (by omega) 20 A B 0 hB' hA (by omega) (by omega) rfl
theorem frM_L {A B : Nat} {p : Int32} {m : Sg} {Q : Int64 → Sg → Prop} (hQ : Q (lwS A B p) m) (hg0 : 0 < Nat.gcd A B) (hgb : Nat.gcd A B < 2 ^ 31) : ∀ b a, a < 2 ^ 31 → b < 2 ^ 31 → Nat.gcd a b = Nat.gcd A B → ∃ f, vv_X8_lowest_L6 Q f (lN A) (lN B) p (lN a) (lN b) m := by
  intro b
  induction b using Nat.strongRecOn with
  | _ b ih =>
    intro a ha hb hg
    by_cases h0 : b = 0
    · subst h0
      rw [Nat.gcd_zero_right] at hg
      have ne : ¬ lN a = 0 := fun q => by have := (lN_eq (b := 0) ha (by decide)).mp q; omega
      refine ⟨1, ?_⟩
      unfold vv_X8_lowest_L6
      unfold lwS at hQ
      rw [← hg] at hQ
      exact ⟨fun _ => ⟨fun q => ⟨ne, by rw [if_neg q] at hQ; exact hQ⟩, fun q => ⟨ne, by rw [if_pos q] at hQ; exact hQ⟩⟩, fun z => absurd ((lg_cmp_eq _ _).mpr rfl) z⟩
    · have hr := Nat.mod_lt a (show b > 0 by omega)
      have ne : ¬ lN b = 0 := fun q => by have := (lN_eq (b := 0) hb (by decide)).mp q; omega
      obtain ⟨f, hf⟩ := ih (a % b) hr b hb (by omega) ((gcd_st a b).trans hg)
      refine ⟨f + 1, ?_⟩
      unfold vv_X8_lowest_L6
      refine ⟨fun z => absurd ((lg_cmp_eq _ _).mp z) ne, fun _ => ⟨ne, ?_⟩⟩
      intro x ex y ey z ez
      rw [ez, ey, ex, pk_lRem (by omega) (by omega) (by omega)]
      exact hf
theorem h_lowM {A B : Nat} {p : Int32} {m : Sg} {Q : Int64 → Sg → Prop} (hA : A < 2 ^ 31) (hB : 0 < B) (hB' : B < 2 ^ 20) (hQ : Q (lwS A B p) m) : vv_X8_lowest (lN A) (lN B) p m Q := by
  unfold vv_X8_lowest
  intro x ex y ey
  rw [ex, ey]
  have g0 : 0 < Nat.gcd A B := Nat.gcd_pos_of_pos_right _ hB
  have g1 : Nat.gcd A B ≤ B := Nat.gcd_le_right _ hB
  exact frM_L hQ g0 (by omega) B A hA (by omega) rfl
/-- how many seeds of the first are enough -/
def cnS (S x k : Int32) : Nat → Nat
  | 0 => 0
  | n + 1 => cnS S x k n + if czG S 5 (x + nI n) 0 < k then 0 else 1
theorem cnS_le (S x k : Int32) (n : Nat) : cnS S x k n ≤ n := by
  induction n with
  | zero => exact Nat.le_refl 0
  | succ n ih => rw [cnS]; split <;> omega
theorem chC_L {nt n : Nat} {S x k p : Int32} {c : Sg} {Q : Int64 → Sg → Prop} (h1 : 1 ≤ n) (hn : n ≤ 20) (hQ : Q (lwS (cnS S x k n) n p) c) : ∀ d i, i + d = n → vv_X7_chance_L51 nt Q (d + 1) x (nI n) k p S (nI (cnS S x k i)) (nI i) c := by
  intro d
  induction d with
  | zero =>
    intro i hi
    have e : i = n := by omega
    subst e
    unfold vv_X7_chance_L51
    have := cnS_le S x k i
    rw [nI_l (by omega), nI_l (by omega)]
    exact ⟨fun _ => h_fracC (by omega) (by omega) (by omega) hQ, fun z => absurd (Int32.le_refl _) z⟩
  | succ d ih =>
    intro i hi
    unfold vv_X7_chance_L51
    refine ⟨fun z => absurd z (nI_ge (by omega) (by omega)), fun _ => h_seedC (n := 5) (by decide) ?_⟩
    have := ih (i + 1) (by omega)
    unfold vv_X7_chance_J74
    refine ⟨fun q => ?_, fun q => ?_⟩
    · intro y ey
      rw [ey, nI_1]
      rw [cnS, if_pos q] at this
      exact this
    · intro z ez y ey
      rw [ez, ey, nI_1, nI_1]
      rw [cnS, if_neg q] at this
      exact this
theorem chM_L {m : Sg} {N n : Nat} {P : Nat → Nat → Int32} {D E x k p : Int32} {co : Nat → List Int32} {Q : Int64 → Sg → Prop} (h : BkM m N P D E co) (h1 : 1 ≤ n) (hn : n ≤ 20) (hQ : ∀ m', FrS m m' → Q (lwS (cnS (nI (ctS P N D E co)) x k n) n p) m') : ∀ d i g, i + d = n → FrS m g → vv_X8_chance_L45 Q (d + 1) x (nI n) k p (lN (cnS (nI (ctS P N D E co)) x k i)) (nI i) g := by
  intro d
  induction d with
  | zero =>
    intro i g hi F
    have e : i = n := by omega
    subst e
    unfold vv_X8_chance_L45
    have := cnS_le (nI (ctS P N D E co)) x k i
    rw [nI_l (by omega)]
    exact ⟨fun _ => h_lowM (by omega) (by omega) (by omega) (hQ g F), fun z => absurd (Int32.le_refl _) z⟩
  | succ d ih =>
    intro i g hi F
    unfold vv_X8_chance_L45
    refine ⟨fun z => absurd z (nI_ge (by omega) (by omega)), fun _ => h_seedM (n := 5) (h.keep F.Q) (by decide) (fun g' F' => ?_)⟩
    have := ih (i + 1) g' (by omega) (F.tr F')
    unfold vv_X8_chance_J71
    refine ⟨fun q => ?_, fun q => ?_⟩
    · intro z ez y ey
      rw [ez, ey, nI_1, show ∀ a : Int64, a + 0 = a from fun a => by grind]
      rw [cnS, if_pos q] at this
      exact this
    · intro z ez y ey
      rw [ez, ey, nI_1, lN_1]
      rw [cnS, if_neg q] at this
      exact this
theorem eq_chance {m c : Sg} {nt : Nat} (h : Rel m c nt) (x1 x2 x3 x4 : Int32) : vv_X7_chance nt x1 x2 x3 x4 c (fun r c' => vv_X8_chance x1 x2 x3 x4 m (fun r' m' => r = r' ∧ Rel m' c' nt)) := by
  obtain ⟨N, P, D, E, co, hM, hC, hD, hE, h25⟩ := h.bk
  have bad : ¬ (((1 : Int32) ≤ x2 ∧ x2 ≤ 20) ∧ ((0 : Int32) ≤ x3 ∧ x3 ≤ 5) ∧ (0 : Int32) ≤ x4 ∧ x4 ≤ 1) → vv_X8_chance x1 x2 x3 x4 m (fun r' m' => -4611686018427387904 = r' ∧ Rel m' c nt) := fun z => by
    unfold vv_X8_chance
    refine h_in (l := 1) (h := 20) rfl rfl ?_
    by_cases q1 : (1 : Int32) ≤ x2 ∧ x2 ≤ 20
    · rw [if_pos q1]
      refine ⟨fun z => absurd z (by decide), fun _ => h_in (l := 0) (h := 5) rfl rfl ?_⟩
      by_cases q2 : (0 : Int32) ≤ x3 ∧ x3 ≤ 5
      · rw [if_pos q2]
        refine ⟨fun z => absurd z (by decide), fun _ => h_in (l := 0) (h := 1) rfl rfl ?_⟩
        rw [if_neg (fun q3 => z ⟨q1, q2, q3⟩)]
        exact ⟨fun z => absurd rfl z, fun _ => ⟨rfl, h⟩⟩
      · rw [if_neg q2]; exact ⟨fun _ => ⟨rfl, h⟩, fun z => absurd rfl z⟩
    · rw [if_neg q1]; exact ⟨fun _ => ⟨rfl, h⟩, fun z => absurd rfl z⟩
  unfold vv_X7_chance
  refine ⟨fun z => bad (fun q => absurd q.1.1 (Int32.not_le.mpr z)), fun z1 => ⟨fun z => bad (fun q => absurd q.1.2 (Int32.not_le.mpr z)), fun z2 => ⟨fun z => bad (fun q => absurd q.2.1.1 (Int32.not_le.mpr z)), fun z3 => ⟨fun z => bad (fun q => absurd q.2.1.2 (Int32.not_le.mpr z)), fun z4 => ⟨fun z => bad (fun q => absurd q.2.2.1 (Int32.not_le.mpr z)), fun z5 => ⟨fun z6 => h_carSC hC (fun c' F => ?_), fun z => bad (fun q => z q.2.2.2)⟩⟩⟩⟩⟩⟩
  obtain ⟨n, hn, rfl⟩ := rng_nI (n := 20) (by decide) ⟨Int32.le_trans (by decide) (Int32.not_lt.mp z1), Int32.not_lt.mp z2⟩
  have h1 : 1 ≤ n := (nI_leI (a := 1) (by decide) (by omega)).mp (Int32.not_lt.mp z1)
  intro a ea b eb y ey
  rw [ea, eb, ey]
  refine ⟨n + 1, chC_L h1 hn ?_ n 0 (by omega)⟩
  unfold vv_X8_chance
  refine h_in (l := 1) (h := 20) rfl rfl ?_
  rw [if_pos ⟨Int32.not_lt.mp z1, Int32.not_lt.mp z2⟩]
  refine ⟨fun z => absurd z (by decide), fun _ => h_in (l := 0) (h := 5) rfl rfl ?_⟩
  rw [if_pos ⟨Int32.not_lt.mp z3, Int32.not_lt.mp z4⟩]
  refine ⟨fun z => absurd z (by decide), fun _ => h_in (l := 0) (h := 1) rfl rfl ?_⟩
  rw [if_pos ⟨Int32.not_lt.mp z5, z6⟩]
  refine ⟨fun _ => ?_, fun z => absurd z (by decide)⟩
  intro a ea b eb
  rw [ea, eb]
  exact ⟨n + 1, chM_L hM h1 hn (fun m' G => ⟨rfl, h.frame G.Q F.K⟩) n 0 m (by omega) (FrS.rf m)⟩
