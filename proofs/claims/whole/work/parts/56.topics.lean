/-! ===== topics() ===== -/
theorem i_0 : (0 : Int32).toInt = 0 := by decide
theorem i_le {a b : Int32} : a ≤ b ↔ a.toInt ≤ b.toInt := Int32.le_iff_toInt_le
theorem i_lt {a b : Int32} : a < b ↔ a.toInt < b.toInt := Int32.lt_iff_toInt_lt
theorem i_add {a b : Int32} (h : -2147483648 ≤ a.toInt + b.toInt ∧ a.toInt + b.toInt < 2147483648) : (a + b).toInt = a.toInt + b.toInt := by
  rw [Int32.toInt_add]; exact Int.bmod_eq_of_le (by omega) (by omega)
theorem i_sub {a b : Int32} (h : -2147483648 ≤ a.toInt - b.toInt ∧ a.toInt - b.toInt < 2147483648) : (a - b).toInt = a.toInt - b.toInt := by
  rw [Int32.toInt_sub]; exact Int.bmod_eq_of_le (by omega) (by omega)
theorem cl_int {v lo hi : Int32} (h : lo ≤ hi) : lo.toInt ≤ (cl v lo hi).toInt ∧ (cl v lo hi).toInt ≤ hi.toInt := ⟨i_le.mp (cl_rng h).1, i_le.mp (cl_rng h).2⟩
theorem wg_rng (f : Nat → Int32) (D : Int32) (co : Nat → List Int32) : 0 ≤ (wgS f D co).toInt ∧ (wgS f D co).toInt ≤ 99 := by
  unfold wgS
  split
  · decide
  · have := cl_int (v := wkK (f 0) (f 1) (cl (val (envP f 0 D) (co 1)) 0 99)) (lo := 0) (hi := 99) (by decide)
    rw [show (0 : Int32).toInt = 0 by decide, show (99 : Int32).toInt = 99 by decide] at this
    exact this
theorem sm_rng (f : Nat → Int32) (D : Int32) (co : Nat → List Int32) : 0 ≤ (smS f D co).toInt ∧ (smS f D co).toInt ≤ 99 := by
  unfold smS
  split
  · decide
  · have := cl_int (v := skK (f 0) (f 1) (cl (val (envP f 0 D) (co 2)) 0 99)) (lo := 0) (hi := 99) (by decide)
    rw [show (0 : Int32).toInt = 0 by decide, show (99 : Int32).toInt = 99 by decide] at this
    exact this
theorem sumN_rng {F : Nat → Int32} (h : ∀ i, 0 ≤ (F i).toInt ∧ (F i).toInt ≤ 99) : ∀ n, n ≤ 1000 → 0 ≤ (sumN F n).toInt ∧ (sumN F n).toInt ≤ 99 * n := by
  intro n
  induction n with
  | zero => intro _; rw [sumN, i_0]; omega
  | succ n ih =>
    intro hn
    have h1 := ih (by omega)
    have h2 := h n
    rw [sumN, i_add (by omega)]
    omega
theorem sdF_rng (P : Nat → Nat → Int32) (N : Nat) (D : Int32) (co : Nat → List Int32) (t v : Int32) (S i : Nat) : 0 ≤ (sdF P N D co t v S i).toInt ∧ (sdF P N D co t v S i).toInt ≤ 99 := by
  unfold sdF
  split
  · exact wg_rng _ _ _
  · decide
theorem sdS_rng {P : Nat → Nat → Int32} {N : Nat} {D : Int32} {co : Nat → List Int32} {t v : Int32} {S : Nat} (h : N ≤ 8) : 0 ≤ (sdS P N D co t v S).toInt ∧ (sdS P N D co t v S).toInt ≤ 792 := by
  have := sumN_rng (sdF_rng P N D co t v S) N (by omega)
  unfold sdS
  omega
def ovD (x : Int32) : Int32 := if 0 ≤ x then x else 0 - x
def ovP (P : Nat → Nat → Int32) (N : Nat) (D : Int32) (co : Nat → List Int32) (t : Int32) : Int32 := ovD (sdS P N D co t 1 0 - sdS P N D co t (-1) 0)
theorem ov_nn {P : Nat → Nat → Int32} {N : Nat} {D : Int32} {co : Nat → List Int32} {t : Int32} (h : N ≤ 8) : 0 ≤ ovP P N D co t := by
  unfold ovP ovD
  have h1 := sdS_rng (P := P) (D := D) (co := co) (t := t) (v := 1) (S := 0) h
  have h2 := sdS_rng (P := P) (D := D) (co := co) (t := t) (v := -1) (S := 0) h
  split
  · assumption
  · rename_i q
    rw [i_le, i_0, i_sub (by rw [i_sub (by omega), i_0]; omega), i_0]
    rw [i_le, i_0] at q
    omega
theorem h_ovM {m : Sg} {N : Nat} {P : Nat → Nat → Int32} {D E t : Int32} {co : Nat → List Int32} {Q : Int32 → Sg → Prop} (h : BkM m N P D E co) (hQ : ∀ m', FrS m m' → Q (ovP P N D co t) m') : vv_X8_overOf t m Q := by
  unfold vv_X8_overOf
  refine h_sideM (S := 0) h (by decide) (fun m1 F1 => h_sideM (S := 0) (h.keep F1.Q) (by decide) (fun m2 F2 => ?_))
  have fin := hQ m2 (F1.tr F2)
  unfold ovP ovD at fin
  rintro x rfl
  refine ⟨fun q => by rw [if_pos q] at fin; exact fin, fun q => ?_⟩
  rw [if_neg q] at fin
  rw [show ∀ x : Int32, -x = 0 - x from fun x => by grind]
  exact fin
/-- the first of the topics on which they are most apart -/
def bsT (f : Int32 → Int32) : Nat → Nat
  | 0 => 0
  | k + 1 => if f (nI (k + 1)) ≤ f (nI (bsT f k)) then bsT f k else k + 1
theorem bsT_le (f : Int32 → Int32) (k : Nat) : bsT f k ≤ k := by
  induction k with
  | zero => exact Nat.le_refl 0
  | succ k ih => rw [bsT]; split <;> omega
theorem topC_L {nt : Nat} {c : Sg} {N : Nat} {P : Nat → Nat → Int32} {D E : Int32} {co : Nat → List Int32} {x1 : Int32} {Q : Int32 → Sg → Prop} (h : BkC nt c 1 N P D E co) (hQ : ∀ c', FrV c c' → Q (if x1 = 1 then nI (bsT (ovP P N D co) 7) else ovP P N D co (nI (bsT (ovP P N D co) 7))) c') : ∀ d i g cs ms, i + d = 8 → FrV c g → (∀ i, i < 8 → g 23 i = wlP P N D co i) → (i = 0 ∧ cs = 0 ∧ ms = -1 ∨ ∃ k, i = k + 1 ∧ cs = nI (bsT (ovP P N D co) k) ∧ ms = ovP P N D co (nI (bsT (ovP P N D co) k))) → vv_X7_topics_L40 nt Q (d + 1) x1 cs ms (nI i) g := by
  intro d
  have h8 := h.2.2.1
  induction d with
  | zero =>
    intro i g cs ms hi F hw hz
    rcases hz with ⟨z, -, -⟩ | ⟨k, z, z1, z2⟩
    · omega
    · have e : k = 7 := by omega
      subst e; subst z; subst z1; subst z2
      have fin := hQ g F
      unfold vv_X7_topics_L40
      refine ⟨fun _ => ⟨fun q => by rw [if_neg q] at fin; exact fin, fun q => by rw [if_pos q] at fin; exact fin⟩, fun z => absurd (show (8 : Int32) ≤ nI 8 from by decide) z⟩
  | succ d ih =>
    intro i g cs ms hi F hw hz
    unfold vv_X7_topics_L40
    refine ⟨fun z => absurd z (nI_ge (b := 8) (by omega) (by omega)), fun _ => h_divC (h.keep F) (by omega) hw (fun g' F' e23 e25 e222 e0 e1 e24 => ?_)⟩
    rw [e0, e1]
    intro x ex
    have ex' : x = ovP P N D co (nI i) := ex
    have hw' : ∀ j, j < 8 → g' 23 j = wlP P N D co j := fun j hj => by rw [e23]; exact hw j hj
    unfold vv_X7_topics_J89
    refine ⟨fun q => ?_, fun q => ?_⟩
    · rintro y rfl
      rw [nI_1]
      refine ih _ _ _ _ (by omega) (F.tr F') hw' ?_
      rcases hz with ⟨z, z1, z2⟩ | ⟨k, z, z1, z2⟩
      · have := ov_nn (P := P) (D := D) (co := co) (t := nI i) h8
        rw [ex', z2] at q
        exact absurd (Int32.le_trans this q) (by decide)
      · refine Or.inr ⟨k + 1, by omega, ?_, ?_⟩
        · rw [bsT, if_pos (by rw [← z, ← ex', ← z2]; exact q)]; exact z1
        · rw [bsT, if_pos (by rw [← z, ← ex', ← z2]; exact q)]; exact z2
    · intro a ea b eb y ey
      rw [ea, eb, ey, nI_1]
      refine ih _ _ _ _ (by omega) (F.tr F') hw' ?_
      rcases hz with ⟨z, z1, z2⟩ | ⟨k, z, z1, z2⟩
      · subst z
        exact Or.inr ⟨0, rfl, rfl, ex'⟩
      · refine Or.inr ⟨k + 1, by omega, ?_, ?_⟩
        · rw [bsT, if_neg (by rw [← z, ← ex', ← z2]; exact q), z]
        · rw [bsT, if_neg (by rw [← z, ← ex', ← z2]; exact q), ← z]; exact ex'
theorem topM_L {m : Sg} {N : Nat} {P : Nat → Nat → Int32} {D E : Int32} {co : Nat → List Int32} {x1 : Int32} {Q : Int32 → Sg → Prop} (h : BkM m N P D E co) (hQ : ∀ m', FrS m m' → Q (if x1 = 1 then nI (bsT (ovP P N D co) 7) else ovP P N D co (nI (bsT (ovP P N D co) 7))) m') : ∀ d k g, k + 1 + d = 8 → FrS m g → vv_X8_topics_L28 Q (d + 1) x1 (nI (bsT (ovP P N D co) k)) (nI (k + 1)) g := by
  intro d
  induction d with
  | zero =>
    intro k g hi F
    have e : k = 7 := by omega
    subst e
    unfold vv_X8_topics_L28
    refine ⟨fun _ => ⟨fun q => h_ovM (h.keep F.Q) (fun g' F' => ?_), fun q => ?_⟩, fun z => absurd (show (8 : Int32) ≤ nI 8 from by decide) z⟩
    · have fin := hQ g' (F.tr F'); rw [if_neg q] at fin; exact fin
    · have fin := hQ g F; rw [if_pos q] at fin; exact fin
  | succ d ih =>
    intro k g hi F
    unfold vv_X8_topics_L28
    refine ⟨fun z => absurd z (nI_ge (b := 8) (by omega) (by omega)), fun _ => h_ovM (h.keep F.Q) (fun g1 F1 => h_ovM ((h.keep F.Q).keep F1.Q) (fun g2 F2 => ?_))⟩
    unfold vv_X8_topics_J52
    refine ⟨fun q => ?_, fun q => ?_⟩
    · intro a ea b eb
      rw [ea, eb, nI_1]
      have := ih (k + 1) g2 (by omega) ((F.tr F1).tr F2)
      rw [bsT, if_pos q] at this
      exact this
    · intro a ea b eb
      rw [ea, eb, nI_1]
      have := ih (k + 1) g2 (by omega) ((F.tr F1).tr F2)
      rw [bsT, if_neg q] at this
      exact this
theorem eq_topics {m c : Sg} {nt : Nat} (h : Rel m c nt) (x1 : Int32) : vv_X7_topics nt x1 c (fun r c' => vv_X8_topics x1 m (fun r' m' => r = r' ∧ Rel m' c' nt)) := by
  obtain ⟨N, P, D, E, co, hM, hC, hD, hE, h25⟩ := h.bk
  have bad : ¬ ((0 : Int32) ≤ x1 ∧ x1 ≤ 2) → vv_X8_topics x1 m (fun r' m' => -2 = r' ∧ Rel m' c nt) := fun z => by
    unfold vv_X8_topics
    refine h_in (l := 0) (h := 2) rfl rfl ?_
    rw [if_neg z]; exact ⟨fun z => absurd rfl z, fun _ => ⟨rfl, h⟩⟩
  unfold vv_X7_topics
  refine ⟨fun z => bad (fun q => absurd q.1 (Int32.not_le.mpr z)), fun z1 => ⟨fun z2 => ⟨fun n0 => ?_, fun e0 => h_carSC hC (fun c' F => ?_)⟩, fun z => bad (fun q => z q.2)⟩⟩
  · rintro a rfl b rfl
    refine h_weigC hC (fun c1 F1 e22 e25 e23 => ?_)
    rintro y rfl
    refine ⟨9, topC_L (hC.keep F1) (fun c' F => ?_) 8 0 c1 0 (-1) (by omega) (FrV.rf _) e23 (Or.inl ⟨rfl, rfl, rfl⟩)⟩
    unfold vv_X8_topics
    refine h_in (l := 0) (h := 2) rfl rfl ?_
    rw [if_pos ⟨Int32.not_lt.mp z1, z2⟩]
    refine ⟨fun _ => ⟨fun _ => ?_, fun q => absurd q n0⟩, fun z => absurd z (by decide)⟩
    rintro a rfl b rfl
    exact ⟨8, topM_L hM (fun m' G => ⟨rfl, h.frame G.Q (F1.tr F).K⟩) 7 0 m (by omega) (FrS.rf m)⟩
  · unfold vv_X8_topics
    refine h_in (l := 0) (h := 2) rfl rfl ?_
    rw [if_pos ⟨Int32.not_lt.mp z1, z2⟩]
    exact ⟨fun _ => ⟨fun q => absurd e0 q, fun _ => h_carSM hM (fun m' G => ⟨rfl, h.frame G.Q F.K⟩)⟩, fun z => absurd z (by decide)⟩
