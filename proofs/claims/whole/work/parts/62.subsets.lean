/-! ===== sums over sets ===== -/
def sR (F : Nat → Nat) : Nat → Nat
  | 0 => 0
  | n + 1 => sR F n + F n
theorem sR_congr {F G : Nat → Nat} {n : Nat} (h : ∀ i, i < n → F i = G i) : sR F n = sR G n := by
  induction n with
  | zero => rfl
  | succ n ih => rw [sR, sR, ih (fun i hi => h i (by omega)), h n (by omega)]
theorem sR_add (F : Nat → Nat) (a b : Nat) : sR F (a + b) = sR F a + sR (fun k => F (k + a)) b := by
  induction b with
  | zero => rfl
  | succ b ih => rw [← Nat.add_assoc, sR, ih, sR, Nat.add_assoc, Nat.add_comm b a]
theorem sR_0 {F : Nat → Nat} {n : Nat} (h : ∀ i, i < n → F i = 0) : sR F n = 0 := by
  induction n with
  | zero => rfl
  | succ n ih => rw [sR, ih (fun i hi => h i (by omega)), h n (by omega)]
theorem sR_to {F : Nat → Nat} {n k : Nat} (hk : n ≤ k) (h : ∀ i, n ≤ i → i < k → F i = 0) : sR F k = sR F n := by
  rw [show k = n + (k - n) by omega, sR_add, sR_0 (fun i hi => h (i + n) (by omega) (by omega))]; rfl
theorem sR_le {F : Nat → Nat} {n B : Nat} (h : ∀ i, F i ≤ B) : sR F n ≤ n * B := by
  induction n with
  | zero => exact Nat.zero_le _
  | succ n ih => have := h n; rw [sR, Nat.succ_mul]; omega
theorem sR_two (F : Nat → Nat) (n : Nat) : sR F (2 ^ (n + 1)) = sR F (2 ^ n) + sR (fun S => F (S + 2 ^ n)) (2 ^ n) := by
  rw [Nat.pow_succ, show 2 ^ n * 2 = 2 ^ n + 2 ^ n by omega, sR_add]
/-- over all sets: n is out (0), in or out (1), in (2) -/
def tS (w : Nat → Int32) (md : Nat → Nat) : Nat → (Nat → Int32 → Nat) → Nat
  | 0, G => G 0 0
  | n + 1, G => if md n = 0 then tS w md n G else if md n = 1 then tS w md n G + tS w md n (fun c x => G (c + 1) (x + w n)) else tS w md n (fun c x => G (c + 1) (x + w n))
theorem tS_congr {w w' : Nat → Int32} {md md' : Nat → Nat} {n : Nat} : ∀ {G : Nat → Int32 → Nat}, (∀ i, i < n → md i = md' i ∧ (md i ≠ 0 → w i = w' i)) → tS w md n G = tS w' md' n G := by
  induction n with
  | zero => intro G h; rfl
  | succ n ih =>
    intro G h
    rw [tS, tS]
    have h1 := h n (by omega)
    rw [← h1.1]
    by_cases q : md n = 0
    · rw [if_pos q, if_pos q]; exact ih (fun i hi => h i (by omega))
    · rw [if_neg q, if_neg q, h1.2 q, ih (fun i hi => h i (by omega)), ih (fun i hi => h i (by omega))]
theorem tS_lin {w : Nat → Int32} {md : Nat → Nat} {n : Nat} : ∀ {G H : Nat → Int32 → Nat}, tS w md n (fun c x => G c x + H c x) = tS w md n G + tS w md n H := by
  induction n with
  | zero => intro G H; rfl
  | succ n ih =>
    intro G H
    rw [tS, tS, tS]
    by_cases q : md n = 0
    · rw [if_pos q, if_pos q, if_pos q]; exact ih
    · rw [if_neg q, if_neg q, if_neg q]
      by_cases q1 : md n = 1
      · rw [if_pos q1, if_pos q1, if_pos q1, ih, ih (G := fun c x => G (c + 1) (x + w n)) (H := fun c x => H (c + 1) (x + w n))]; omega
      · rw [if_neg q1, if_neg q1, if_neg q1, ih (G := fun c x => G (c + 1) (x + w n)) (H := fun c x => H (c + 1) (x + w n))]
def off (md : Nat → Nat) (p : Nat) (i : Nat) : Nat := if i = p then 0 else md i
theorem off_ne {md : Nat → Nat} {p i : Nat} (h : i ≠ p) : off md p i = md i := if_neg h
theorem off_eq {md : Nat → Nat} {p : Nat} : off md p p = 0 := if_pos rfl
theorem tS_off {w : Nat → Int32} {md : Nat → Nat} {n : Nat} {G : Nat → Int32 → Nat} : tS w (off md n) n G = tS w md n G := tS_congr (fun i hi => ⟨off_ne (by omega), fun _ => rfl⟩)
theorem addc (G : Nat → Int32 → Nat) (a b : Int32) : (fun c x => G (c + 1 + 1) (x + a + b)) = fun c x => G (c + 1 + 1) (x + b + a) := by
  funext c x; congr 1; rw [Int32.add_assoc, Int32.add_assoc, Int32.add_comm a b]
theorem tS_must {w : Nat → Int32} {md : Nat → Nat} {p n : Nat} (hm : md p = 2) : ∀ {G : Nat → Int32 → Nat}, p < n → tS w md n G = tS w (off md p) n (fun c x => G (c + 1) (x + w p)) := by
  induction n with
  | zero => intro G h; omega
  | succ n ih =>
    intro G h
    rw [tS, tS]
    by_cases e : n = p
    · subst e
      rw [hm, off_eq]
      simp only [show ¬ (2 : Nat) = 0 by decide, show ¬ (2 : Nat) = 1 by decide, if_false, if_true]
      rw [tS_off]
    · rw [off_ne e]
      by_cases q : md n = 0
      · rw [if_pos q, if_pos q]; exact ih (by omega)
      · rw [if_neg q, if_neg q, ih (by omega), ih (G := fun c x => G (c + 1) (x + w n)) (by omega)]
        rw [addc G (w p) (w n)]
theorem tS_opt {w : Nat → Int32} {md : Nat → Nat} {p n : Nat} (hm : md p = 1) : ∀ {G : Nat → Int32 → Nat}, p < n → tS w md n G = tS w (off md p) n G + tS w (off md p) n (fun c x => G (c + 1) (x + w p)) := by
  induction n with
  | zero => intro G h; omega
  | succ n ih =>
    intro G h
    rw [tS, tS, tS]
    by_cases e : n = p
    · subst e
      rw [hm, off_eq]
      simp only [show ¬ (1 : Nat) = 0 by decide, if_false, if_true]
      rw [tS_off, tS_off]
    · rw [off_ne e]
      by_cases q : md n = 0
      · rw [if_pos q, if_pos q, if_pos q]; exact ih (by omega)
      · rw [if_neg q, if_neg q, if_neg q, ih (by omega), ih (G := fun c x => G (c + 1) (x + w n)) (by omega)]
        rw [addc G (w p) (w n)]
        by_cases q1 : md n = 1
        · rw [if_pos q1, if_pos q1, if_pos q1]; omega
        · rw [if_neg q1, if_neg q1, if_neg q1]
/-- those that are out are left out -/
theorem tS_cmp {w w7 : Nat → Int32} {md md7 : Nat → Nat} {lv : Nat → Bool} {n : Nat} (h0 : ∀ i, i < n → lv i = false → md i = 0) (h1 : ∀ i, i < n → lv i = true → md i ≠ 0 ∧ md7 (ctB lv i) = md i ∧ w7 (ctB lv i) = w i) : ∀ {G : Nat → Int32 → Nat}, tS w md n G = tS w7 md7 (ctB lv n) G := by
  induction n with
  | zero => intro G; rfl
  | succ n ih =>
    intro G
    rw [tS, ctB]
    by_cases q : lv n = true
    · obtain ⟨a1, a2, a3⟩ := h1 n (by omega) q
      rw [if_pos q, tS, a2, a3, if_neg a1, if_neg a1, ih (fun i hi => h0 i (by omega)) (fun i hi => h1 i (by omega)), ih (fun i hi => h0 i (by omega)) (fun i hi => h1 i (by omega))]
    · have q' : lv n = false := by simpa using q
      rw [if_neg q, Nat.add_zero, if_pos (h0 n (by omega) q')]
      exact ih (fun i hi => h0 i (by omega)) (fun i hi => h1 i (by omega))
theorem tS_to {w : Nat → Int32} {md : Nat → Nat} {n k : Nat} (hk : n ≤ k) (h : ∀ i, n ≤ i → md i = 0) {G : Nat → Int32 → Nat} : tS w md k G = tS w md n G := by
  induction k with
  | zero => rw [show n = 0 by omega]
  | succ k ih =>
    rcases Nat.lt_or_ge k n with z | z
    · rw [show n = k + 1 by omega]
    · rw [tS, if_pos (h k z)]; exact ih z
/-- sets of the class: within a mask -/
theorem sub_iff {S T : Nat} (hS : S < 256) (hT : T < 256) : anN S T = 0 ↔ ∀ i, i < 8 → bt S i = true → bt T i = true := by
  constructor
  · intro h i hi hb
    have := an_bt (S := S) hT (show i < 32 by omega)
    rw [h, bt_0, hb] at this
    simpa using this.symm
  · intro h
    rw [an_0 hS hT]
    apply Nat.eq_of_testBit_eq
    intro i
    rw [Nat.testBit_and, ← bt_tb, ← bt_tb]
    by_cases hi : i < 8
    · cases e : bt S i with
      | false => rfl
      | true => rw [h i hi e]; rfl
    · have : bt S i = false := by rw [bt_tb]; exact Nat.testBit_lt_two_pow (Nat.lt_of_lt_of_le hS (Nat.pow_le_pow_right (n := 2) (i := 8) (by decide) (by omega)))
      rw [this]; rfl
theorem pop_add : ∀ i, i < 8 → ∀ S, S < 2 ^ i → pop (S + 2 ^ i) = pop S + 1 := by decide +kernel
theorem pop_lt : ∀ V, V < 9 → ∀ S, S < 2 ^ V → pop S ≤ V := by decide +kernel
theorem pow8 {n : Nat} (h : n ≤ 8) : 2 ^ n ≤ 256 := Nat.pow_le_pow_right (n := 2) (j := 8) (by decide) h
theorem tS_C {w : Nat → Int32} {q : Nat → Bool} {n : Nat} : n ≤ 8 → ∀ G : Nat → Int32 → Nat, sR (fun S => if anN S (bsN q 8) = 0 then G (pop S) (wS w S) else 0) (2 ^ n) = tS w (fun i => if q i then 1 else 0) n G := by
  have hm : bsN q 8 < 256 := bsN_256 q (by omega)
  induction n with
  | zero =>
    intro _ G
    rw [show 2 ^ 0 = 0 + 1 from rfl, sR, sR, tS, wS_0]
    rw [if_pos (show anN 0 (bsN q 8) = 0 by unfold anN; simp)]
    simp [pop]
  | succ n ih =>
    intro hn G
    have h2 := pow8 (show n + 1 ≤ 8 by omega)
    rw [Nat.pow_succ] at h2
    rw [sR_two, ih (by omega), tS]
    have key : ∀ S, S < 2 ^ n → (if anN (S + 2 ^ n) (bsN q 8) = 0 then G (pop (S + 2 ^ n)) (wS w (S + 2 ^ n)) else 0) = if q n then (if anN S (bsN q 8) = 0 then G (pop S + 1) (wS w S + w n) else 0) else 0 := by
      intro S hS
      rw [pop_add n (by omega) S hS, wS_add (by omega) hS]
      have e : (anN (S + 2 ^ n) (bsN q 8) = 0) ↔ (q n = true ∧ anN S (bsN q 8) = 0) := by
        rw [sub_iff (by omega) hm, sub_iff (by omega) hm]
        constructor
        · intro h
          refine ⟨?_, fun i hi hb => h i hi (by rw [(bt_add n (by omega) S hS i hi).1, hb]; simp)⟩
          have := h n (by omega) (by rw [(bt_add n (by omega) S hS n (by omega)).1]; simp)
          rw [bt_bsN] at this
          simp at this
          exact this.2
        · rintro ⟨h1, h3⟩ i hi hb
          rw [(bt_add n (by omega) S hS i hi).1] at hb
          by_cases e : i = n
          · subst e; rw [bt_bsN, decide_eq_true hi, Bool.true_and]; exact h1
          · exact h3 i hi (by simpa [e] using hb)
      by_cases q1 : q n = true
      · rw [if_pos q1]
        by_cases q2 : anN S (bsN q 8) = 0
        · rw [if_pos q2, if_pos (e.mpr ⟨q1, q2⟩)]
        · rw [if_neg q2, if_neg (fun z => q2 (e.mp z).2)]
      · rw [if_neg q1, if_neg (fun z => q1 (e.mp z).1)]
    rw [sR_congr key]
    by_cases q1 : q n = true
    · simp only [q1, if_true]
      rw [ih (by omega) (fun c x => G (c + 1) (x + w n))]
      simp
    · have q1' : q n = false := by simpa using q1
      simp only [q1', Bool.false_eq_true, if_false, if_true]
      rw [sR_0 (fun _ _ => rfl)]; rfl
/-- sets of the reference: with one place in them -/
def wV (w : Nat → Int32) (V S : Nat) : Int32 := sumN (fun k => if bt S k then w k else 0) V
theorem bt_add9 : ∀ i, i < 9 → ∀ S, S < 2 ^ i → ∀ k, k < 9 → bt (S + 2 ^ i) k = (k == i || bt S k) ∧ bt S i = false := by decide +kernel
theorem wV_add {w : Nat → Int32} {V S i : Nat} (hV : V ≤ 9) (hi : i < V) (hS : S < 2 ^ i) : wV w V (S + 2 ^ i) = wV w V S + w i := by
  unfold wV
  rw [sumN_one (F := fun k => if bt (S + 2 ^ i) k = true then w k else 0) (G := fun k => if bt S k = true then w k else 0) hi (fun k hk hk' => ?_)]
  · rw [(bt_add9 i (by omega) S hS i (by omega)).1, (bt_add9 i (by omega) S hS i (by omega)).2]
    simp
  · rw [(bt_add9 i (by omega) S hS k (by omega)).1]
    simp [hk']
theorem wV_0 (w : Nat → Int32) (V : Nat) : wV w V 0 = 0 := by
  unfold wV
  rw [sumN_congr (G := fun _ => 0) (fun i _ => by rw [bt_0]; rfl)]
  induction V with
  | zero => rfl
  | succ n ih => rw [sumN, ih]; rfl
theorem tS_M {w : Nat → Int32} {V pl : Nat} {cd : Nat → Nat} (hV : V ≤ 9) (hc0 : cd 0 = 0) (hcd : ∀ i, i < V → ∀ S, S < 2 ^ i → cd (S + 2 ^ i) = cd S + 1) {n : Nat} : n ≤ V → ∀ G : Nat → Int32 → Nat, sR (fun S => if pl < n → bt S pl = true then G (cd S) (wV w V S) else 0) (2 ^ n) = tS w (fun k => if k = pl then 2 else 1) n G := by
  induction n with
  | zero =>
    intro _ G
    rw [show 2 ^ 0 = 0 + 1 from rfl, sR, sR, tS, wV_0, hc0]
    rw [if_pos (fun z => absurd z (by omega))]
    omega
  | succ n ih =>
    intro hn G
    rw [sR_two, tS]
    by_cases e : n = pl
    · subst e
      rw [sR_0 (fun S hS => if_neg (fun z => by rw [(bt_add9 n (by omega) S hS n (by omega)).2] at z; exact absurd (z (by omega)) (by decide)))]
      simp only [if_true, show ¬ (2 : Nat) = 0 by decide, show ¬ (2 : Nat) = 1 by decide, if_false]
      rw [← ih (by omega) (fun c x => G (c + 1) (x + w n)), Nat.zero_add]
      refine sR_congr (fun S hS => ?_)
      rw [if_pos (fun _ => by rw [(bt_add9 n (by omega) S hS n (by omega)).1]; simp), if_pos (fun z => absurd z (by omega)), hcd n (by omega) S hS, wV_add hV (by omega) hS]
    · simp only [e, if_false, show ¬ (1 : Nat) = 0 by decide, if_true]
      rw [← ih (by omega) G, ← ih (by omega) (fun c x => G (c + 1) (x + w n))]
      congr 1
      · refine sR_congr (fun S hS => ?_)
        by_cases q : pl < n → bt S pl = true
        · rw [if_pos q, if_pos (fun z => q (by omega))]
        · rw [if_neg q, if_neg (fun z => q (fun z' => z (by omega)))]
      · refine sR_congr (fun S hS => ?_)
        rw [hcd n (by omega) S hS, wV_add hV (by omega) hS]
        have eb : pl < n → bt (S + 2 ^ n) pl = bt S pl := fun z => by
          rw [(bt_add9 n (by omega) S hS pl (by omega)).1]
          simp [Ne.symm e]
        by_cases q : pl < n → bt S pl = true
        · rw [if_pos q, if_pos (fun z => by rw [eb (by omega)]; exact q (by omega))]
        · rw [if_neg q, if_neg (fun z => q (fun z' => by rw [← eb z']; exact z (by omega)))]
theorem ctB_le (p : Nat → Bool) (n : Nat) : ctB p n ≤ n := by
  induction n with
  | zero => exact Nat.le_refl 0
  | succ n ih => rw [ctB]; split <;> omega
theorem ctB_mono {p : Nat → Bool} {i n : Nat} (h : i ≤ n) : ctB p i ≤ ctB p n := by
  induction n with
  | zero => rw [show i = 0 by omega]; exact Nat.le_refl _
  | succ n ih =>
    rcases Nat.lt_or_ge n i with z | z
    · rw [show i = n + 1 by omega]; exact Nat.le_refl _
    · rw [ctB]; have := ih z; omega
theorem ctB_lt {p : Nat → Bool} {i n : Nat} (h : i < n) (hp : p i = true) : ctB p i < ctB p n := by
  have := ctB_mono (p := p) (show i + 1 ≤ n by omega)
  rw [ctB, hp] at this
  simp at this
  omega
theorem ctB_inj {p : Nat → Bool} {i j : Nat} (hi : p i = true) (hj : p j = true) (h : ctB p i = ctB p j) : i = j := by
  rcases Nat.lt_trichotomy i j with z | z | z
  · have := ctB_lt z hi; omega
  · exact z
  · have := ctB_lt z hj; omega
theorem pop_bsN {p : Nat → Bool} {n : Nat} (h : n ≤ 8) : pop (bsN p n) = ctB p n := by
  induction n with
  | zero => simp [bsN, ctB, pop]
  | succ n ih =>
    rw [bsN, ctB]
    by_cases q : p n = true
    · rw [if_pos q, if_pos q, pop_add n (by omega) _ (bsN_lt p n), ih (by omega)]
    · rw [if_neg q, if_neg q, Nat.add_zero, Nat.add_zero]; exact ih (by omega)
theorem ctB_one {p q : Nat → Bool} {i n : Nat} (hi : i < n) (h1 : p i = true) (h2 : q i = false) (h : ∀ k, k ≠ i → p k = q k) : ctB p n = ctB q n + 1 := by
  induction n with
  | zero => omega
  | succ n ih =>
    rw [ctB, ctB]
    by_cases e : i = n
    · subst e
      rw [h1, h2]
      have : ctB p i = ctB q i := by
        clear ih hi
        have gen : ∀ m, m ≤ i → ctB p m = ctB q m := by
          intro m
          induction m with
          | zero => intro _; rfl
          | succ m ihm => intro hm; rw [ctB, ctB, ihm (by omega), h m (by omega)]
        exact gen i (Nat.le_refl i)
      simp [this]
    · rw [ih (by omega), h n (Ne.symm e)]; omega
