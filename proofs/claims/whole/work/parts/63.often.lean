/-! ===== often(), torn() ===== -/
def rkP (P : Nat → Nat → Int32) (N i : Nat) : Nat := ctB (lvP P N) i
def LnM (m g : Sg) (P : Nat → Nat → Int32) (N : Nat) (D : Int32) (co : Nat → List Int32) (p n : Nat) : Prop := FrQ m g ∧ g 0 29 = nI (rkP P N n) ∧ g 0 30 = (if p < n then nI (rkP P N p) else -1) ∧ ∀ i, i < n → lvP P N i = true → g 7 (rkP P N i) = wtP P D co i
theorem lineM_L {m : Sg} {N p : Nat} {P : Nat → Nat → Int32} {D E : Int32} {co : Nat → List Int32} {Q : Sg → Prop} (h : BkM m N P D E co) (hp : p < N) (hl : lvP P N p = true) (hQ : ∀ g, LnM m g P N D co p N → Q g) : ∀ d i g, i + d = N → LnM m g P N D co p i → vv_X8_lines_L12 Q (d + 1) (nI p) (nI i) g := by
  intro d
  have h8 := h.2.1
  induction d with
  | zero =>
    intro i g hi hg
    have e : i = N := by omega
    subst e
    unfold vv_X8_lines_L12
    rw [(h.keep hg.1).1]
    exact ⟨fun _ => hQ g hg, fun z => absurd (Int32.le_refl _) z⟩
  | succ d ih =>
    intro i g hi hg
    obtain ⟨F, g29, g30, g7⟩ := hg
    have hk := h.keep F
    have hr := ctB_le (lvP P N) i
    unfold vv_X8_lines_L12
    rw [hk.1]
    refine ⟨fun z => absurd z (nI_ge (by omega) (by omega)), fun _ => h_whoM hk (by omega) ?_⟩
    by_cases q : lvP P N i = true
    · rw [q]
      refine ⟨fun z => absurd z (by decide), fun _ => ?_⟩
      have er : rkP P N (i + 1) = rkP P N i + 1 := by unfold rkP; rw [ctB, q]; simp
      have go : ∀ x, x = (if p < i + 1 then nI (rkP P N p) else -1) → vv_X8_lines_J45 (vv_X8_lines_L12 Q (d + 1)) (nI p) (nI i) x g Q := by
        intro x hx
        unfold vv_X8_lines_J45
        rintro g1 rfl
        have F1 : FrQ g (st g 0 30 x) := ⟨fun k hk _ _ => st_ne hk, fun j hj => st_off _ (by omega) _⟩
        refine h_weighM (hk.keep F1) (by omega) (fun g2 F2 => ?_)
        rw [st_off _ (by decide), g29, nI_clamp (show rkP P N i < 2 ^ 31 by unfold rkP; omega)]
        refine ⟨vp_in_nI (show rkP P N i < 9 by unfold rkP; omega) (by decide), ?_⟩
        rintro g3 rfl
        rw [st_ne (by decide), F2.2 29 (by omega), st_off _ (by decide), g29, nI_1]
        rintro g4 rfl
        unfold vv_X8_lines_J72
        intro y ey
        rw [ey, nI_1]
        refine ih _ _ (by omega) ⟨((F.tr F1).tr F2.Q).tr ⟨fun k k0 _ k7 => by rw [st_ne k0, st_ne k7], fun j hj => by rw [st_off _ (by omega), st_ne (by decide)]⟩, by rw [st_on, er], ?_, fun k hk' hkl => ?_⟩
        · rw [st_off _ (by decide), st_ne (by decide), F2.2 30 (by omega), st_on]; exact hx
        · rw [st_ne (by decide), st_at]
          by_cases e : k = i
          · subst e
            rw [if_pos rfl]
          · have : rkP P N k ≠ rkP P N i := fun z => e (ctB_inj hkl q z)
            rw [if_neg this, F2.1 7 (by decide), st_ne (by decide)]
            exact g7 k (by omega) hkl
      refine ⟨fun z => go _ ?_, fun z => go _ ?_⟩
      · rw [g30]
        have : i ≠ p := fun w => z (by rw [w])
        by_cases w : p < i
        · rw [if_pos w, if_pos (by omega)]
        · rw [if_neg w, if_neg (by omega)]
      · have e : i = p := (nI_eq (by omega) (by omega)).mp z
        rw [g29, if_pos (by omega), e]
    · rw [if_neg q]
      refine ⟨fun _ => ?_, fun z => absurd rfl z⟩
      have er : rkP P N (i + 1) = rkP P N i := by unfold rkP; rw [ctB, if_neg q]; rfl
      unfold vv_X8_lines_J72
      intro y ey
      rw [ey, nI_1]
      have ne : i ≠ p := fun w => q (by rw [w]; exact hl)
      refine ih _ _ (by omega) ⟨F, by rw [er]; exact g29, ?_, fun k hk' hkl => g7 k ?_ hkl⟩
      · rw [g30]
        by_cases w : p < i
        · rw [if_pos w, if_pos (by omega)]
        · rw [if_neg w, if_neg (by omega)]
      · have : k ≠ i := fun w => q (by rw [← w]; exact hkl)
        omega
theorem h_lineM {m : Sg} {N p : Nat} {P : Nat → Nat → Int32} {D E : Int32} {co : Nat → List Int32} {Q : Sg → Prop} (h : BkM m N P D E co) (hp : p < N) (hl : lvP P N p = true) (hQ : ∀ g, LnM m g P N D co p N → Q g) : vv_X8_lines (nI p) m Q := by
  unfold vv_X8_lines
  rintro g1 rfl g2 rfl x rfl
  refine ⟨N + 1, lineM_L h hp hl hQ N 0 _ (by omega) ⟨⟨fun k hk _ _ => by rw [st_ne hk, st_ne hk], fun j hj => by rw [st_off _ (by omega), st_off _ (by omega)]⟩, ?_, ?_, fun i hi => absurd hi (by omega)⟩⟩
  · rw [st_off _ (by decide), st_on]; rfl
  · rw [st_on, if_neg (by omega)]
theorem b_sh9 : ∀ S, S < 512 → ∀ i, i < 9 → (nI S >>> (nI i &&& 31)) &&& 1 = nI (S / 2 ^ i % 2) := by decide +kernel
theorem b_1s : ∀ i, i < 10 → (1 : Int32) <<< (nI i &&& 31) = nI (2 ^ i) := by decide +kernel
theorem bt_t {S i : Nat} (h : nI (S / 2 ^ i % 2) = 1) : bt S i = true := by
  unfold bt
  have h1 := Nat.mod_lt (S / 2 ^ i) (show 2 > 0 by decide)
  rcases (show S / 2 ^ i % 2 = 0 ∨ S / 2 ^ i % 2 = 1 by omega) with w | w
  · rw [w] at h; exact absurd h (by decide)
  · rw [w]; rfl
theorem bt_f {S i : Nat} (h : ¬ nI (S / 2 ^ i % 2) = 1) : bt S i = false := by
  unfold bt
  have h2 : ¬ S / 2 ^ i % 2 = 1 := fun w => by rw [w] at h; exact h rfl
  simpa using h2
theorem wgtM_L {m : Sg} {V S : Nat} {w : Nat → Int32} {Q : Int32 → Sg → Prop} (hV : V ≤ 9) (hS : S < 512) (h29 : m 0 29 = nI V) (h7 : ∀ k, k < V → m 7 k = w k) (hQ : Q (wV w V S) m) : ∀ d k, k + d = V → vv_X8_weightOf_L4 Q (d + 1) (nI S) (sumN (fun k => if bt S k then w k else 0) k) (nI k) m := by
  intro d
  induction d with
  | zero =>
    intro k hk
    have e : k = V := by omega
    subst e
    unfold vv_X8_weightOf_L4
    rw [h29]
    exact ⟨fun _ => hQ, fun z => absurd (Int32.le_refl _) z⟩
  | succ d ih =>
    intro k hk
    unfold vv_X8_weightOf_L4
    rw [h29, b_sh9 S hS k (by omega), nI_clamp (by omega), h7 k (by omega)]
    have go : ∀ b, b = (if bt S k then w k else 0) → vv_X8_weightOf_J32 (vv_X8_weightOf_L4 Q (d + 1)) (nI S) (nI k) (sumN (fun k => if bt S k then w k else 0) k) b m Q := by
      rintro b rfl
      unfold vv_X8_weightOf_J32
      intro x ex y ey
      rw [ex, ey, nI_1]
      exact ih _ (by omega)
    exact ⟨fun z => absurd z (nI_ge (by omega) (by omega)), fun _ => ⟨fun q => go 0 (by rw [bt_f q]; rfl), fun q => ⟨vp_in_nI (by omega) (by decide), go _ (by rw [bt_t q]; rfl)⟩⟩⟩
theorem h_wgtM {m : Sg} {V S : Nat} {w : Nat → Int32} {Q : Int32 → Sg → Prop} (hV : V ≤ 9) (hS : S < 512) (h29 : m 0 29 = nI V) (h7 : ∀ k, k < V → m 7 k = w k) (hQ : Q (wV w V S) m) : vv_X8_weightOf (nI S) m Q := by
  unfold vv_X8_weightOf
  rintro x rfl y rfl
  exact ⟨V + 1, wgtM_L hV hS h29 h7 hQ V 0 (by omega)⟩
/-- whether one of weight v decides, all together weighing x -/
def dcG (E v : Int32) (x : Int32) : Nat := if ¬ x < E ∧ ¬ E ≤ x - v then 1 else 0
theorem oftM_L {m : Sg} {V pl : Nat} {w : Nat → Int32} {E : Int32} {Q : Int32 → Sg → Prop} (hV : V ≤ 9) (hpl : pl < V) (hE : (0 : Int32) < E) (h8 : m 0 8 = E) (h29 : m 0 29 = nI V) (h7 : ∀ k, k < V → m 7 k = w k) (hQ : Q (nI (sR (fun S => if bt S pl = true then dcG E (w pl) (wV w V S) else 0) (2 ^ V))) m) : ∀ d S, S + d = 2 ^ V → vv_X8_oftenAt_L4 Q (d + 1) (nI pl) (nI (sR (fun S => if bt S pl = true then dcG E (w pl) (wV w V S) else 0) S)) (nI S) m := by
  intro d
  have hp : 2 ^ V ≤ 512 := Nat.pow_le_pow_right (n := 2) (j := 9) (by decide) hV
  induction d with
  | zero =>
    intro S hS
    have e : S = 2 ^ V := by omega
    subst e
    unfold vv_X8_oftenAt_L4
    rw [h29, b_1s V (by omega)]
    exact ⟨fun _ => hQ, fun z => absurd (Int32.le_refl _) z⟩
  | succ d ih =>
    intro S hS
    unfold vv_X8_oftenAt_L4
    rw [h29, b_1s V (by omega), b_sh9 S (by omega) pl (by omega)]
    have nx := ih (S + 1) (by omega)
    rw [sR] at nx
    have go : ∀ x, (if bt S pl = true then x = wV w V S else x = 0) → vv_X8_oftenAt_J32 (vv_X8_oftenAt_L4 Q (d + 1)) (nI pl) (nI (sR (fun S => if bt S pl = true then dcG E (w pl) (wV w V S) else 0) S)) (nI S) x m Q := by
      intro x hx
      unfold vv_X8_oftenAt_J32 vv_X8_oftenAt_J64 vv_X8_oftenAt_J65
      intro x' ex'
      rw [ex', h8, nI_clamp (by omega), h7 pl hpl]
      have no : (if bt S pl = true then dcG E (w pl) (wV w V S) else 0) = 0 → ∀ x2_7 : Int32, x2_7 = nI (sR (fun S => if bt S pl = true then dcG E (w pl) (wV w V S) else 0) S) + 0 → ∀ x3_8 : Int32, x3_8 = nI S + 1 → vv_X8_oftenAt_L4 Q (d + 1) (nI pl) x2_7 x3_8 m := by
        intro z a ea b eb
        rw [ea, eb, nI_1, Int32.add_zero]
        rw [z] at nx; exact nx
      by_cases hb : bt S pl = true
      · rw [if_pos hb] at hx
        rw [if_pos hb] at no
        refine ⟨fun q => no ?_, fun q => ⟨vp_in_nI (by omega) (by decide), fun q' => no ?_, fun q' => ?_⟩⟩
        · unfold dcG; rw [if_neg (fun z => z.1 (by rw [← hx]; exact q))]
        · unfold dcG; rw [if_neg (fun z => z.2 (by rw [← hx]; exact q'))]
        · intro a ea b eb
          rw [ea, eb, nI_1, nI_1]
          rw [if_pos hb] at nx
          unfold dcG at nx
          rw [if_pos (by rw [← hx]; exact ⟨q, q'⟩)] at nx
          exact nx
      · rw [if_neg hb] at hx
        rw [if_neg hb] at no
        rw [hx]
        exact ⟨fun _ => no rfl, fun q => absurd hE q⟩
    refine ⟨fun z => absurd z (nI_ge (by omega) (by omega)), fun _ => ⟨fun q => go 0 (by rw [bt_f q]; simp), fun q => h_wgtM hV (by omega) h29 h7 (go _ (by rw [bt_t q]; simp))⟩⟩
theorem h_oftM {m : Sg} {V pl : Nat} {w : Nat → Int32} {E : Int32} {Q : Int32 → Sg → Prop} (hV : V ≤ 9) (hpl : pl < V) (hE : (0 : Int32) < E) (h8 : m 0 8 = E) (h29 : m 0 29 = nI V) (h7 : ∀ k, k < V → m 7 k = w k) (hQ : Q (nI (tS w (fun k => if k = pl then 2 else 1) V (fun _ x => dcG E (w pl) x))) m) : vv_X8_oftenAt (nI pl) m Q := by
  unfold vv_X8_oftenAt
  rintro x rfl y rfl
  refine ⟨2 ^ V + 1, oftM_L hV hpl hE h8 h29 h7 ?_ (2 ^ V) 0 (by omega)⟩
  have := tS_M (w := w) (pl := pl) (cd := fun S => pop S + S / 256 % 2) hV (by decide) (fun i hi S hS => by
    have key : ∀ i, i < 9 → ∀ S, S < 2 ^ i → pop (S + 2 ^ i) + (S + 2 ^ i) / 256 % 2 = pop S + S / 256 % 2 + 1 := by decide +kernel
    exact key i (by omega) S hS) (Nat.le_refl V) (fun _ x => dcG E (w pl) x)
  rw [← this] at hQ
  rw [sR_congr (G := fun S => if pl < V → bt S pl = true then dcG E (w pl) (wV w V S) else 0) (fun S _ => ?_)]
  · exact hQ
  · by_cases q : bt S pl = true
    · rw [if_pos q, if_pos (fun _ => q)]
    · rw [if_neg q, if_neg (fun z => q (z hpl))]
/-- the others -/
def otP (P : Nat → Nat → Int32) (N p i : Nat) : Bool := lvP P N i && !(i == p)
theorem ot_an {P : Nat → Nat → Int32} {N p : Nat} (hp : p < 8) : anN (stS P N) (2 ^ p) = bsN (otP P N p) 8 := by
  have h2 : 2 ^ p < 256 := Nat.pow_lt_pow_right (a := 2) (by decide) (show p < 8 by omega)
  apply Nat.eq_of_testBit_eq
  intro i
  rw [← bt_tb, ← bt_tb, bt_bsN]
  by_cases hi : i < 32
  · rw [an_bt h2 hi]
    unfold stS
    rw [bt_bsN, bt_tb, Nat.testBit_two_pow]
    unfold otP
    have ed : decide (p = i) = (i == p) := by
      rcases Nat.decEq i p with e | e
      · rw [decide_eq_false (fun w => e w.symm)]; simp [e]
      · simp [e]
    rw [ed, Bool.and_assoc]
  · have : bt (anN (stS P N) (2 ^ p)) i = false := by
      rw [bt_tb]; exact Nat.testBit_lt_two_pow (Nat.lt_of_lt_of_le (Nat.lt_of_le_of_lt (an_le _ _) (stS_lt P N)) (Nat.pow_le_pow_right (n := 2) (i := 8) (by decide) (by omega)))
    rw [this, decide_eq_false (by omega)]; rfl
/-- over the sets of the others -/
def tO (P : Nat → Nat → Int32) (N : Nat) (D : Int32) (co : Nat → List Int32) (p : Nat) (G : Nat → Int32 → Nat) : Nat := tS (wtP P D co) (fun i => if otP P N p i then 1 else 0) N G
theorem tO_C {P : Nat → Nat → Int32} {N p : Nat} {D : Int32} {co : Nat → List Int32} {G : Nat → Int32 → Nat} (h8 : N ≤ 8) : sR (fun S => if anN S (bsN (otP P N p) 8) = 0 then G (pop S) (wS (wlP P N D co) S) else 0) 256 = tO P N D co p G := by
  rw [show (256 : Nat) = 2 ^ 8 from rfl, tS_C (Nat.le_refl 8)]
  unfold tO
  rw [tS_to h8 (fun i hi => by unfold otP; rw [lv_ge hi]; rfl)]
  refine tS_congr (fun i hi => ⟨rfl, fun q => ?_⟩)
  unfold wlP
  by_cases hl : lvP P N i = true
  · rw [if_pos hl]
  · unfold otP at q
    rw [show lvP P N i = false by simpa using hl] at q
    exact absurd rfl q
theorem tO_M {P : Nat → Nat → Int32} {N p : Nat} {D : Int32} {co : Nat → List Int32} {G : Nat → Int32 → Nat} {w7 : Nat → Int32} {z : Nat} (hp : p < N) (hl : lvP P N p = true) (h7 : ∀ i, i < N → lvP P N i = true → i ≠ p → w7 (rkP P N i) = wtP P D co i) : tS w7 (off (fun k => if k = rkP P N p then z else 1) (rkP P N p)) (rkP P N N) G = tO P N D co p G := by
  unfold tO
  let w' : Nat → Int32 := fun i => if i = p then w7 (rkP P N p) else wtP P D co i
  let md : Nat → Nat := fun i => if lvP P N i = true then (if i = p then 1 else 1) else 0
  have e2 : ∀ H, tS w7 (off (fun k => if k = rkP P N p then z else 1) (rkP P N p)) (rkP P N N) H = tS w7 (off (fun _ => 1) (rkP P N p)) (rkP P N N) H := fun H => tS_congr (fun i _ => by
    unfold off
    by_cases q : i = rkP P N p
    · rw [if_pos q, if_pos q]; exact ⟨rfl, fun _ => rfl⟩
    · rw [if_neg q, if_neg q]; exact ⟨if_neg q, fun _ => rfl⟩)
  have e3 : ∀ H, tS (wtP P D co) (fun i => if otP P N p i then 1 else 0) N H = tS w' (off md p) N H := fun H => tS_congr (fun i hi => by
    unfold off otP
    show _ ∧ (_ → _ = if i = p then w7 (rkP P N p) else wtP P D co i)
    by_cases q : i = p
    · rw [if_pos q, q]; simp
    · rw [if_neg q, if_neg q]
      refine ⟨?_, fun _ => rfl⟩
      show _ = (if lvP P N i = true then (if i = p then 1 else 1) else 0)
      simp [q])
  rw [e2, e3]
  -- both come out of the whole sum by what the one gives
  have cmp : ∀ H, tS w' (off md p) N H = tS w7 (off (fun _ => 1) (rkP P N p)) (rkP P N N) H := by
    clear e2 e3
    have gen : ∀ n, n ≤ N → ∀ H, tS w' (off md p) n H = tS w7 (off (fun _ => 1) (rkP P N p)) (rkP P N n) H := by
      intro n
      induction n with
      | zero => intro _ H; rfl
      | succ n ih =>
        intro hn H
        by_cases q : lvP P N n = true
        · have er : rkP P N (n + 1) = rkP P N n + 1 := by unfold rkP; rw [ctB, q]; simp
          rw [er, tS, tS]
          by_cases e : n = p
          · rw [show off md p n = 0 from by rw [e]; exact off_eq, show off (fun _ => 1) (rkP P N p) (rkP P N n) = 0 from by rw [e]; exact off_eq, if_pos rfl, if_pos rfl]; exact ih (by omega) H
          · have ne : rkP P N n ≠ rkP P N p := fun w => e (ctB_inj q hl w)
            rw [off_ne e, off_ne ne]
            have m1 : md n = 1 := by
              show (if lvP P N n = true then (if n = p then 1 else 1) else 0) = 1
              rw [q]; simp
            have ww : w' n = w7 (rkP P N n) := by
              show (if n = p then w7 (rkP P N p) else wtP P D co n) = _
              rw [if_neg e]; exact (h7 n (by omega) q e).symm
            rw [m1, ww]
            simp only [show ¬ (1 : Nat) = 0 by decide, if_false, if_true]
            rw [ih (by omega), ih (by omega)]
        · have er : rkP P N (n + 1) = rkP P N n := by unfold rkP; rw [ctB, if_neg q]; rfl
          have e : n ≠ p := fun w => q (by rw [w]; exact hl)
          have m0 : md n = 0 := by
            show (if lvP P N n = true then (if n = p then 1 else 1) else 0) = 0
            rw [if_neg q]
          rw [er, tS, off_ne e, if_pos m0]
          exact ih (by omega) H
    exact gen N (Nat.le_refl N)
  exact (cmp G).symm
