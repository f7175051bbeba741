/-! ===== sets as bits ===== -/
theorem b_sh : ∀ S, S < 256 → ∀ i, i < 8 → (nI S >>> (nI i &&& 31)) &&& 1 = nI (S / 2 ^ i % 2) := by decide +kernel
theorem b_1 : ∀ i, i < 9 → (1 : Int32) <<< (nI i &&& 31) = nI (2 ^ i) := by decide +kernel
theorem b_0 : ∀ i, i < 9 → (0 : Int32) <<< (nI i &&& 31) = 0 := by decide +kernel
theorem b_or : ∀ i, i < 8 → ∀ S, S < 2 ^ i → nI S ||| nI (2 ^ i) = nI (S + 2 ^ i) := by decide +kernel
theorem b_or0 (x : Int32) : x ||| 0 = x := by simp
/-- the set of those below n that are such -/
def bsN (p : Nat → Bool) : Nat → Nat
  | 0 => 0
  | n + 1 => bsN p n + if p n then 2 ^ n else 0
theorem bsN_lt (p : Nat → Bool) (n : Nat) : bsN p n < 2 ^ n := by
  induction n with
  | zero => simp [bsN]
  | succ n ih =>
    rw [bsN, Nat.pow_succ]
    split <;> omega
theorem bsN_congr {p q : Nat → Bool} {n : Nat} (h : ∀ i, i < n → p i = q i) : bsN p n = bsN q n := by
  induction n with
  | zero => rfl
  | succ n ih => rw [bsN, bsN, ih (fun i hi => h i (by omega)), h n (by omega)]
theorem bsN_more {p : Nat → Bool} {n : Nat} (d : Nat) (h : ∀ i, n ≤ i → p i = false) : bsN p (n + d) = bsN p n := by
  induction d with
  | zero => rfl
  | succ d ih => rw [← Nat.add_assoc, bsN, ih, h (n + d) (by omega)]; simp
theorem bsN_to {p : Nat → Bool} {n k : Nat} (hk : n ≤ k) (h : ∀ i, n ≤ i → p i = false) : bsN p k = bsN p n := by
  have := bsN_more (p := p) (k - n) h
  rwa [show n + (k - n) = k by omega] at this
/-- bit i of a set -/
def bt (S i : Nat) : Bool := S / 2 ^ i % 2 == 1
theorem bt_bsN {p : Nat → Bool} {n i : Nat} : bt (bsN p n) i = (decide (i < n) && p i) := by
  unfold bt
  induction n with
  | zero => simp [bsN]
  | succ n ih =>
    rw [bsN]
    have hl := bsN_lt p n
    by_cases h : p n
    · rw [if_pos h]
      by_cases hi : i < n
      · have e : 2 ^ n = 2 ^ i * (2 * 2 ^ (n - i - 1)) := by rw [← Nat.pow_succ', ← Nat.pow_add]; congr 1; omega
        rw [e, Nat.add_mul_div_left _ _ (Nat.two_pow_pos i), Nat.add_mul_mod_self_left, ih]
        simp [hi, show i < n + 1 by omega]
      · by_cases hi2 : i = n
        · subst hi2
          rw [show bsN p i + 2 ^ i = bsN p i + 2 ^ i * 1 by omega, Nat.add_mul_div_left _ _ (Nat.two_pow_pos i), Nat.div_eq_of_lt hl]
          simp [h]
        · have : 2 ^ (n + 1) ≤ 2 ^ i := Nat.pow_le_pow_right (by decide) (by omega)
          rw [Nat.div_eq_of_lt (by rw [Nat.pow_succ] at this; omega)]
          simp [show ¬ i < n + 1 by omega]
    · rw [if_neg h, Nat.add_zero, ih]
      by_cases hi2 : i = n
      · subst hi2; simp [h]
      · rw [show decide (i < n) = decide (i < n + 1) by rw [decide_eq_decide]; omega]
theorem b_acc {S i : Nat} {b : Bool} (hi : i < 8) (hS : S < 2 ^ i) : nI S ||| ((if b then 1 else 0) <<< (nI i &&& 31)) = nI (S + if b then 2 ^ i else 0) := by
  cases b
  · simp only [Bool.false_eq_true, if_false]; rw [b_0 i (by omega), b_or0]; rfl
  · simp only [if_true]; rw [b_1 i (by omega), b_or i hi S hS]
theorem b_bsN {p : Nat → Bool} {i : Nat} (hi : i < 8) : nI (bsN p i) ||| ((if p i then 1 else 0) <<< (nI i &&& 31)) = nI (bsN p (i + 1)) := by
  rw [b_acc hi (bsN_lt p i)]; rfl
theorem bsN_256 (p : Nat → Bool) {n : Nat} (h : n ≤ 8) : bsN p n < 256 := Nat.lt_of_lt_of_le (bsN_lt p n) (Nat.pow_le_pow_right (n := 2) (by decide) h)
/-- how many -/
def pop (S : Nat) : Nat := S % 2 + S / 2 % 2 + S / 4 % 2 + S / 8 % 2 + S / 16 % 2 + S / 32 % 2 + S / 64 % 2 + S / 128 % 2
theorem pop_st : ∀ S, S < 256 → S ≠ 0 → nI S &&& (nI S - 1) = nI (S &&& (S - 1)) ∧ S &&& (S - 1) < S ∧ pop S = pop (S &&& (S - 1)) + 1 := by decide +kernel
theorem pop_le : ∀ S, S < 256 → pop S ≤ 8 := by decide +kernel
theorem bitsM_L {m : Sg} {Q : Int32 → Sg → Prop} : ∀ S, S < 256 → ∀ a, Q (nI (a + pop S)) m → ∀ f, S < f → vv_X8_bitsOf_L4 Q f (nI a) (nI S) m := by
  intro S
  induction S using Nat.strongRecOn with
  | _ S ih =>
    intro hS a hQ f hf
    obtain ⟨f, rfl⟩ : ∃ g, f = g + 1 := ⟨f - 1, by omega⟩
    unfold vv_X8_bitsOf_L4
    by_cases h0 : S = 0
    · subst h0
      exact ⟨fun _ => hQ, fun z => absurd rfl z⟩
    · refine ⟨fun z => absurd z (nI_ne0 (by omega) (by omega)), fun _ => ?_⟩
      obtain ⟨e1, e2, e3⟩ := pop_st S hS h0
      rintro x rfl y rfl
      rw [nI_1, e1]
      refine ih _ e2 (by omega) _ ?_ _ (by omega)
      rw [show a + 1 + pop (S &&& (S - 1)) = a + pop S by omega]; exact hQ
theorem h_bitsM {m : Sg} {S : Nat} {Q : Int32 → Sg → Prop} (hS : S < 256) (hQ : Q (nI (pop S)) m) : vv_X8_bitsOf (nI S) m Q := by
  unfold vv_X8_bitsOf
  rintro x rfl y rfl
  exact ⟨S + 1, bitsM_L S hS 0 (by rw [Nat.zero_add]; exact hQ) _ (by omega)⟩
def bcI (x : Int32) : Int32 :=
  let a := x - ((x.toUInt32 >>> ((1 : Int32).toUInt32 &&& Int32.toUInt32 31)).toInt32 &&& (1431655765 : Int32))
  let b := (a &&& (858993459 : Int32)) + ((a.toUInt32 >>> ((2 : Int32).toUInt32 &&& Int32.toUInt32 31)).toInt32 &&& (858993459 : Int32))
  let c := (b + (b.toUInt32 >>> ((4 : Int32).toUInt32 &&& Int32.toUInt32 31)).toInt32) &&& (252645135 : Int32)
  let d := c + (c.toUInt32 >>> ((8 : Int32).toUInt32 &&& Int32.toUInt32 31)).toInt32
  let e := d + (d.toUInt32 >>> ((16 : Int32).toUInt32 &&& Int32.toUInt32 31)).toInt32
  e &&& (63 : Int32)
theorem bcI_pop : ∀ S, S < 256 → bcI (nI S) = nI (pop S) := by decide +kernel
theorem h_bitC {nt S : Nat} {c : Sg} {Q : Int32 → Sg → Prop} (hS : S < 256) (hQ : Q (nI (pop S)) c) : vv_J6_bitCount_0f7a4 nt (nI S) c Q := by
  unfold vv_J6_bitCount_0f7a4
  rintro a rfl b rfl d rfl e rfl f rfl
  have := bcI_pop S hS
  unfold bcI at this
  rw [← this] at hQ
  exact hQ
/-- sums -/
theorem sumN_congr {F G : Nat → Int32} {n : Nat} (h : ∀ i, i < n → F i = G i) : sumN F n = sumN G n := by
  induction n with
  | zero => rfl
  | succ n ih => rw [sumN, sumN, ih (fun i hi => h i (by omega)), h n (by omega)]
theorem sumN_more {F : Nat → Int32} {n : Nat} (d : Nat) (h : ∀ i, n ≤ i → F i = 0) : sumN F (n + d) = sumN F n := by
  induction d with
  | zero => rfl
  | succ d ih => rw [← Nat.add_assoc, sumN, ih, h (n + d) (by omega), Int32.add_zero]
theorem sumN_to {F : Nat → Int32} {n k : Nat} (hk : n ≤ k) (h : ∀ i, n ≤ i → F i = 0) : sumN F k = sumN F n := by
  have := sumN_more (F := F) (k - n) h
  rwa [show n + (k - n) = k by omega] at this
