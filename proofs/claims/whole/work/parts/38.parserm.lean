/-! ===== the reference reads what pL reads, level by level ===== -/
theorem lt_of_tk {b : By} {n p : Nat} {s : Int32} (h : tkC b n p = s) (hs : ¬ s = 0) : p < n := tkC_lt (fun z => hs (by rw [← h, z]))
theorem sg_ne4 {b : By} {n p : Nat} {s : Int32} (h : tkC b n p = s) (hs : isSg s = true) : ¬ tkM b n p = 4 := by rw [((tkC_sign hs).mp h).1]; decide
theorem agE {m m' : Sg} (h : FrM m m') {env : Nat → Int32} (he : ∀ k, k < 6 → env k = envM m k) : ∀ k, k < 6 → env k = envM m' k := fun k hk => by rw [he k hk, h.env hk]
theorem ms_atom5 {b : By} {n t : Nat} {lo : Nat → Pf} : MSp b n t 5 vv_X8_atom5 (pOne b n 0 lo) := by
  intro m p Q hT hb ho h0 h1
  unfold vv_X8_atom5
  rintro x rfl
  refine h_isSignM hT hb (by decide) (fun e45 => ⟨fun z => absurd z (by decide), fun _ => ?_⟩) (fun n45 => ⟨fun _ => ?_, fun z => absurd rfl z⟩)
  · refine h_opensM hT hb ho (by decide) (lt_of_tk e45 (by decide)) (sg_ne4 e45 (by decide)) (fun _ m' B F => h0 p ?_ m' 0 F B) (fun z => absurd z (by decide))
    unfold pOne; rw [if_neg (by rw [e45]; decide), if_pos e45, if_pos rfl]
  · refine h_isSignM hT hb (by decide) (fun e40 => ⟨fun z => absurd z (by decide), fun _ => ?_⟩) (fun n40 => ⟨fun _ => ?_, fun z => absurd rfl z⟩)
    · refine h_opensM hT hb ho (by decide) (lt_of_tk e40 (by decide)) (sg_ne4 e40 (by decide)) (fun _ m' B F => h0 p ?_ m' 0 F B) (fun z => absurd z (by decide))
      unfold pOne; rw [if_neg (by rw [e40]; decide), if_neg (by rw [e40]; decide), if_pos e40, if_pos rfl]
    · have num : ¬ tkM b n p = 2 → vv_X8_atom5_J64 0 m Q := fun n2 => by
        have word : vv_X8_atom5_J64 0 m Q := by
          unfold vv_X8_atom5_J64 vv_X8_atom5_J98
          rw [hT.2.2.1]
          refine ⟨fun z => absurd hb z, fun _ => ⟨fun z => h_fail hT hb (fun m' B F => h0 p (by
            unfold pOne
            rw [if_neg (fun y => y.elim (fun y => n2 (tkC_two.mp y)) (fun y => z (tkC_name.mp y).1)), if_neg n45, if_neg n40]) m' 0 F B), fun z => ?_⟩⟩
          refine h_nameM hT hb z (fun k1 k7 => ?_) (fun hn m' B F => ?_)
          · rintro x rfl
            refine ⟨fun y => absurd hb y, fun _ => ?_⟩
            have hlt : p < n := (tkM_one z).1
            refine h_nextM hT hb ho hlt (by rw [z]; decide) (fun m' T' b' o' F' => h1 (nx b n p) [vlC b n p] (by unfold pOne; rw [if_pos (Or.inr (tkC_name.mpr ⟨z, k1, k7⟩))]) m' _ F' T' b' o' (fun env he => ?_))
            rw [(leaf_name z k1 k7).2 env, he _ (by omega)]
          · rintro x rfl
            refine ⟨fun _ => h0 p ?_ m' 0 F B, fun y => absurd y (by rw [B.1]; decide)⟩
            unfold pOne
            rw [if_neg (fun y => y.elim (fun y => n2 (tkC_two.mp y)) (fun y => hn (tkC_name.mp y).2)), if_neg n45, if_neg n40]
        exact word
      rw [hT.2.2.1]
      refine ⟨fun z => absurd hb z, fun _ => ⟨fun z => num z, fun z => ?_⟩⟩
      rintro y rfl
      have hc := tkC_two.mpr z
      refine h_nextM hT hb ho (lt_of_tk hc (by decide)) (by rw [z]; decide) (fun m' T' b' o' F' => h1 (nx b n p) [vlC b n p] (by unfold pOne; rw [if_pos (Or.inl hc)]) m' _ F' T' b' o' (fun env he => ?_))
      rw [(leaf_num z).2 env, i64_32, hT.2.2.2.2.1 z]
theorem ml_term5 {b : By} {n t : Nat} {sub : Pf} {Q : Int32 → Sg → Prop} (hs : MSp b n t 5 vv_X8_atom5 sub) (hok : okF n sub) (hW : okW sub) : ∀ (f : Nat) (m : Sg) (p : Nat) (c : List Int32) (v : Int32), n - p ≤ f → TkM m b n t p → m 0 25 = 0 → m 0 24 = nI 5 → WF c → (∀ env : Nat → Int32, (∀ k, k < 6 → env k = envM m k) → v = val env c) →
    (∀ q, pLoop b n sub opMul f p c = (q, none) → ∀ m' v, FrM m m' → BdM m' q → Q v m') → (∀ q c', pLoop b n sub opMul f p c = (q, some c') → ∀ m' v, FrM m m' → TkM m' b n t q → m' 0 25 = 0 → m' 0 24 = nI 5 → (∀ env : Nat → Int32, (∀ k, k < 6 → env k = envM m k) → v = val env c') → Q v m') → vv_X8_term5_L5 Q (f + 1) v m := by
  intro f
  induction f with
  | zero =>
    intro m p c v hf hT hb ho hc hv h0 h1
    have hp : n ≤ p := by omega
    unfold vv_X8_term5_L5
    refine h_isSignM hT hb (by decide) (fun e => absurd (lt_of_tk e (by decide)) (by omega)) (fun _ => ⟨fun _ => h1 p c rfl m v (FrM.rf m) hT hb ho hv, fun z => absurd rfl z⟩)
  | succ f ih =>
    intro m p c v hf hT hb ho hc hv h0 h1
    unfold vv_X8_term5_L5
    refine h_isSignM hT hb (by decide) (fun e42 => ⟨fun z => absurd z (by decide), fun _ => ?_⟩) (fun n42 => ⟨fun _ => ?_, fun z => absurd rfl z⟩)
    · have hlt := lt_of_tk e42 (by decide)
      have hnx := nx_gt (b := b) hlt
      have step : pLoop b n sub opMul (f + 1) p c = (match sub (nx b n p) with | (q, none) => (q, none) | (q, some c') => pLoop b n sub opMul f q (c ++ c' ++ [20006])) := by
        simp only [pLoop, show opMul (tkC b n p) = 20006 by rw [e42]; rfl]
        rw [if_neg (by decide)]; rfl
      have hk := hok (nx b n p) hnx.2
      refine h_nextM hT hb ho hlt (sg_ne4 e42 (by decide)) (fun m1 T1 b1 o1 F1 => hs m1 _ _ T1 b1 o1 (fun q e m2 v2 F2 B2 => ?_) (fun q c2 e m2 v2 F2 T2 b2 o2 hv2 => ?_))
      · rintro y rfl
        rw [e] at step
        have M0 : vv_X8_term5_L5 Q (f + 1) (v * v2) m2 := by
          unfold vv_X8_term5_L5
          exact h_isSignB B2.1 ⟨fun _ => h0 q step m2 _ (F1.tr F2) B2, fun z => absurd rfl z⟩
        exact M0
      · rintro y rfl
        rw [e] at step hk
        have a1 := hk.1
        dsimp only at a1
        have W2 := hW _ _ _ e
        have WB := WF_bin (op := 20006) hc W2 (by decide)
        exact ih m2 q _ _ (by omega) T2 b2 o2 WB.1 (fun env he => by
          have he2 := fun k hk => (he k hk).trans ((F1.tr F2).env hk)
          rw [WB.2 env, ← hv env he2, ← hv2 env (agE F1 he2)]; rfl) (fun q' e' m' v' F B => h0 q' (step.trans e') m' v' ((F1.tr F2).tr F) B) (fun q' c' e' m' v' F T b' o' hv' => h1 q' c' (step.trans e') m' v' ((F1.tr F2).tr F) T b' o' (fun env he => hv' env (agE (F1.tr F2) he)))
    · have step : pLoop b n sub opMul (f + 1) p c = (p, some c) := by
        simp only [pLoop, show opMul (tkC b n p) = 0 by unfold opMul; rw [if_neg n42]]; rfl
      exact h1 p c step m v (FrM.rf m) hT hb ho hv
theorem ms_term5 {b : By} {n t : Nat} {sub : Pf} (hn : n ≤ 160) (hs : MSp b n t 5 vv_X8_atom5 sub) (hok : okF n sub) (hW : okW sub) : MSp b n t 5 vv_X8_term5 (pSeq b n sub opMul) := by
  intro m p Q hT hb ho h0 h1
  unfold vv_X8_term5
  refine hs m p _ hT hb ho (fun q e m2 v F2 B2 => ?_) (fun q c e m2 v F2 T2 b2 o2 hv => ?_)
  · rintro y rfl
    refine ⟨1, ?_⟩
    unfold vv_X8_term5_L5
    exact h_isSignB B2.1 ⟨fun _ => h0 q (by unfold pSeq; rw [e]) m2 _ F2 B2, fun z => absurd rfl z⟩
  · rintro y rfl
    have es : pSeq b n sub opMul p = pLoop b n sub opMul 160 q c := by unfold pSeq; rw [e]
    exact ⟨161, ml_term5 hs hok hW 160 m2 q c y (by omega) T2 b2 o2 (hW _ _ _ e) (fun env he => hv env (fun k hk => (he k hk).trans (F2.env hk))) (fun q' e' m' v' F B => h0 q' (es.trans e') m' v' (F2.tr F) B) (fun q' c' e' m' v' F T b' o' hv' => h1 q' c' (es.trans e') m' v' (F2.tr F) T b' o' (fun env he => hv' env (agE F2 he)))⟩
theorem ml_both5 {b : By} {n t : Nat} {sub : Pf} {Q : Int32 → Sg → Prop} (hs : MSp b n t 5 vv_X8_not5 sub) (hok : okF n sub) (hW : okW sub) : ∀ (f : Nat) (m : Sg) (p : Nat) (c : List Int32) (v : Int32), n - p ≤ f → TkM m b n t p → m 0 25 = 0 → m 0 24 = nI 5 → WF c → (∀ env : Nat → Int32, (∀ k, k < 6 → env k = envM m k) → v = val env c) →
    (∀ q, pLoop b n sub opAnd f p c = (q, none) → ∀ m' v, FrM m m' → BdM m' q → Q v m') → (∀ q c', pLoop b n sub opAnd f p c = (q, some c') → ∀ m' v, FrM m m' → TkM m' b n t q → m' 0 25 = 0 → m' 0 24 = nI 5 → (∀ env : Nat → Int32, (∀ k, k < 6 → env k = envM m k) → v = val env c') → Q v m') → vv_X8_both5_L5 Q (f + 1) v m := by
  intro f
  induction f with
  | zero =>
    intro m p c v hf hT hb ho hc hv h0 h1
    have hp : n ≤ p := by omega
    unfold vv_X8_both5_L5
    refine h_isWordM (w := 11) hT hb (by decide) (by decide) (fun e _ => absurd (tkM_one e).1 (by omega)) (fun _ => ⟨fun _ => h1 p c rfl m v (FrM.rf m) hT hb ho hv, fun z => absurd rfl z⟩)
  | succ f ih =>
    intro m p c v hf hT hb ho hc hv h0 h1
    unfold vv_X8_both5_L5
    refine h_isWordM (w := 11) hT hb (by decide) (by decide) (fun em ew => ⟨fun z => absurd z (by decide), fun _ => ?_⟩) (fun nw => ⟨fun _ => ?_, fun z => absurd rfl z⟩)
    · have et : tkC b n p = 8 := (tkC_key (k := 11) (by decide) (by decide)).mpr ⟨em, ew⟩
      have hlt := (tkM_one em).1
      have hnx := nx_gt (b := b) hlt
      have step : pLoop b n sub opAnd (f + 1) p c = (match sub (nx b n p) with | (q, none) => (q, none) | (q, some c') => pLoop b n sub opAnd f q (c ++ c' ++ [20001])) := by
        simp only [pLoop, show opAnd (tkC b n p) = 20001 by rw [et]; rfl]
        rw [if_neg (by decide)]; rfl
      have hk := hok (nx b n p) hnx.2
      refine h_nextM hT hb ho hlt (by rw [em]; decide) (fun m1 T1 b1 o1 F1 => hs m1 _ _ T1 b1 o1 (fun q e m2 v2 F2 B2 => ?_) (fun q c2 e m2 v2 F2 T2 b2 o2 hv2 => ?_))
      · rintro x2 rfl
        rw [e] at step
        have GO : ∀ y, vv_X8_both5_L5 Q (f + 1) y m2 := fun y => by
          unfold vv_X8_both5_L5
          exact h_isWordB B2.1 ⟨fun _ => h0 q step m2 _ (F1.tr F2) B2, fun z => absurd rfl z⟩
        refine ⟨fun z => ?_, fun z => ⟨fun z2 => ?_, fun z2 => ?_⟩⟩
        · unfold vv_X8_both5_J44 vv_X8_both5_J45
          rintro y rfl
          exact GO _
        · unfold vv_X8_both5_J44 vv_X8_both5_J45
          rintro y rfl
          exact GO _
        · unfold vv_X8_both5_J45
          rintro y rfl
          exact GO _
      · rintro x2 rfl
        rw [e] at step hk
        have a1 := hk.1
        dsimp only at a1
        have W2 := hW _ _ _ e
        have WB := WF_bin (op := 20001) hc W2 (by decide)
        have GO : vv_X8_both5_L5 Q (f + 1) (jn 20001 v x2) m2 := ih m2 q _ _ (by omega) T2 b2 o2 WB.1 (fun env he => by
          have he2 := fun k hk => (he k hk).trans ((F1.tr F2).env hk)
          rw [WB.2 env, ← hv env he2, ← hv2 env (agE F1 he2)]) (fun q' e' m' v' F B => h0 q' (step.trans e') m' v' ((F1.tr F2).tr F) B) (fun q' c' e' m' v' F T b' o' hv' => h1 q' c' (step.trans e') m' v' ((F1.tr F2).tr F) T b' o' (fun env he => hv' env (agE (F1.tr F2) he)))
        have jv : jn 20001 v x2 = (if v = 0 ∨ x2 = 0 then 0 else 1) := rfl
        refine ⟨fun z => ?_, fun z => ⟨fun z2 => ?_, fun z2 => ?_⟩⟩
        · unfold vv_X8_both5_J44 vv_X8_both5_J45
          rintro y rfl
          rw [if_pos (Or.inl z)] at jv; rw [← jv]; exact GO
        · unfold vv_X8_both5_J44 vv_X8_both5_J45
          rintro y rfl
          rw [if_pos (Or.inr z2)] at jv; rw [← jv]; exact GO
        · unfold vv_X8_both5_J45
          rintro y rfl
          rw [if_neg (fun q => q.elim z z2)] at jv; rw [← jv]; exact GO
    · have step : pLoop b n sub opAnd (f + 1) p c = (p, some c) := by
        simp only [pLoop, show opAnd (tkC b n p) = 0 by unfold opAnd; rw [if_neg (show ¬ tkC b n p = 8 from fun z => nw ((tkC_key (k := 11) (by decide) (by decide)).mp z))]]; rfl
      exact h1 p c step m v (FrM.rf m) hT hb ho hv
theorem ms_both5 {b : By} {n t : Nat} {sub : Pf} (hn : n ≤ 160) (hs : MSp b n t 5 vv_X8_not5 sub) (hok : okF n sub) (hW : okW sub) : MSp b n t 5 vv_X8_both5 (pSeq b n sub opAnd) := by
  intro m p Q hT hb ho h0 h1
  unfold vv_X8_both5
  refine hs m p _ hT hb ho (fun q e m2 v F2 B2 => ?_) (fun q c e m2 v F2 T2 b2 o2 hv => ?_)
  · rintro y rfl
    refine ⟨1, ?_⟩
    unfold vv_X8_both5_L5
    exact h_isWordB B2.1 ⟨fun _ => h0 q (by unfold pSeq; rw [e]) m2 _ F2 B2, fun z => absurd rfl z⟩
  · rintro y rfl
    have es : pSeq b n sub opAnd p = pLoop b n sub opAnd 160 q c := by unfold pSeq; rw [e]
    exact ⟨161, ml_both5 hs hok hW 160 m2 q c y (by omega) T2 b2 o2 (hW _ _ _ e) (fun env he => hv env (fun k hk => (he k hk).trans (F2.env hk))) (fun q' e' m' v' F B => h0 q' (es.trans e') m' v' (F2.tr F) B) (fun q' c' e' m' v' F T b' o' hv' => h1 q' c' (es.trans e') m' v' (F2.tr F) T b' o' (fun env he => hv' env (agE F2 he)))⟩
theorem ml_either5 {b : By} {n t : Nat} {sub : Pf} {Q : Int32 → Sg → Prop} (hs : MSp b n t 5 vv_X8_both5 sub) (hok : okF n sub) (hW : okW sub) : ∀ (f : Nat) (m : Sg) (p : Nat) (c : List Int32) (v : Int32), n - p ≤ f → TkM m b n t p → m 0 25 = 0 → m 0 24 = nI 5 → WF c → (∀ env : Nat → Int32, (∀ k, k < 6 → env k = envM m k) → v = val env c) →
    (∀ q, pLoop b n sub opOr f p c = (q, none) → ∀ m' v, FrM m m' → BdM m' q → Q v m') → (∀ q c', pLoop b n sub opOr f p c = (q, some c') → ∀ m' v, FrM m m' → TkM m' b n t q → m' 0 25 = 0 → m' 0 24 = nI 5 → (∀ env : Nat → Int32, (∀ k, k < 6 → env k = envM m k) → v = val env c') → Q v m') → vv_X8_either5_L5 Q (f + 1) v m := by
  intro f
  induction f with
  | zero =>
    intro m p c v hf hT hb ho hc hv h0 h1
    have hp : n ≤ p := by omega
    unfold vv_X8_either5_L5
    refine h_isWordM (w := 10) hT hb (by decide) (by decide) (fun e _ => absurd (tkM_one e).1 (by omega)) (fun _ => ⟨fun _ => h1 p c rfl m v (FrM.rf m) hT hb ho hv, fun z => absurd rfl z⟩)
  | succ f ih =>
    intro m p c v hf hT hb ho hc hv h0 h1
    unfold vv_X8_either5_L5
    refine h_isWordM (w := 10) hT hb (by decide) (by decide) (fun em ew => ⟨fun z => absurd z (by decide), fun _ => ?_⟩) (fun nw => ⟨fun _ => ?_, fun z => absurd rfl z⟩)
    · have et : tkC b n p = 7 := (tkC_key (k := 10) (by decide) (by decide)).mpr ⟨em, ew⟩
      have hlt := (tkM_one em).1
      have hnx := nx_gt (b := b) hlt
      have step : pLoop b n sub opOr (f + 1) p c = (match sub (nx b n p) with | (q, none) => (q, none) | (q, some c') => pLoop b n sub opOr f q (c ++ c' ++ [20000])) := by
        simp only [pLoop, show opOr (tkC b n p) = 20000 by rw [et]; rfl]
        rw [if_neg (by decide)]; rfl
      have hk := hok (nx b n p) hnx.2
      refine h_nextM hT hb ho hlt (by rw [em]; decide) (fun m1 T1 b1 o1 F1 => hs m1 _ _ T1 b1 o1 (fun q e m2 v2 F2 B2 => ?_) (fun q c2 e m2 v2 F2 T2 b2 o2 hv2 => ?_))
      · rintro x2 rfl
        rw [e] at step
        have GO : ∀ y, vv_X8_either5_L5 Q (f + 1) y m2 := fun y => by
          unfold vv_X8_either5_L5
          exact h_isWordB B2.1 ⟨fun _ => h0 q step m2 _ (F1.tr F2) B2, fun z => absurd rfl z⟩
        refine ⟨fun z => ?_, fun z => ⟨fun z2 => ?_, fun z2 => ?_⟩⟩
        · unfold vv_X8_either5_J39 vv_X8_either5_J44
          rintro y rfl
          exact GO _
        · unfold vv_X8_either5_J44
          rintro y rfl
          exact GO _
        · unfold vv_X8_either5_J39 vv_X8_either5_J44
          rintro y rfl
          exact GO _
      · rintro x2 rfl
        rw [e] at step hk
        have a1 := hk.1
        dsimp only at a1
        have W2 := hW _ _ _ e
        have WB := WF_bin (op := 20000) hc W2 (by decide)
        have GO : vv_X8_either5_L5 Q (f + 1) (jn 20000 v x2) m2 := ih m2 q _ _ (by omega) T2 b2 o2 WB.1 (fun env he => by
          have he2 := fun k hk => (he k hk).trans ((F1.tr F2).env hk)
          rw [WB.2 env, ← hv env he2, ← hv2 env (agE F1 he2)]) (fun q' e' m' v' F B => h0 q' (step.trans e') m' v' ((F1.tr F2).tr F) B) (fun q' c' e' m' v' F T b' o' hv' => h1 q' c' (step.trans e') m' v' ((F1.tr F2).tr F) T b' o' (fun env he => hv' env (agE (F1.tr F2) he)))
        have jv : jn 20000 v x2 = (if v = 0 ∧ x2 = 0 then 0 else 1) := rfl
        refine ⟨fun z => ?_, fun z => ⟨fun z2 => ?_, fun z2 => ?_⟩⟩
        · unfold vv_X8_either5_J39 vv_X8_either5_J44
          rintro y rfl
          rw [if_neg (fun q => z q.1)] at jv; rw [← jv]; exact GO
        · unfold vv_X8_either5_J44
          rintro y rfl
          rw [if_pos ⟨z, z2⟩] at jv; rw [← jv]; exact GO
        · unfold vv_X8_either5_J39 vv_X8_either5_J44
          rintro y rfl
          rw [if_neg (fun q => z2 q.2)] at jv; rw [← jv]; exact GO
    · have step : pLoop b n sub opOr (f + 1) p c = (p, some c) := by
        simp only [pLoop, show opOr (tkC b n p) = 0 by unfold opOr; rw [if_neg (show ¬ tkC b n p = 7 from fun z => nw ((tkC_key (k := 10) (by decide) (by decide)).mp z))]]; rfl
      exact h1 p c step m v (FrM.rf m) hT hb ho hv
theorem ms_either5 {b : By} {n t : Nat} {sub : Pf} (hn : n ≤ 160) (hs : MSp b n t 5 vv_X8_both5 sub) (hok : okF n sub) (hW : okW sub) : MSp b n t 5 vv_X8_either5 (pSeq b n sub opOr) := by
  intro m p Q hT hb ho h0 h1
  unfold vv_X8_either5
  refine hs m p _ hT hb ho (fun q e m2 v F2 B2 => ?_) (fun q c e m2 v F2 T2 b2 o2 hv => ?_)
  · rintro y rfl
    refine ⟨1, ?_⟩
    unfold vv_X8_either5_L5
    exact h_isWordB B2.1 ⟨fun _ => h0 q (by unfold pSeq; rw [e]) m2 _ F2 B2, fun z => absurd rfl z⟩
  · rintro y rfl
    have es : pSeq b n sub opOr p = pLoop b n sub opOr 160 q c := by unfold pSeq; rw [e]
    exact ⟨161, ml_either5 hs hok hW 160 m2 q c y (by omega) T2 b2 o2 (hW _ _ _ e) (fun env he => hv env (fun k hk => (he k hk).trans (F2.env hk))) (fun q' e' m' v' F B => h0 q' (es.trans e') m' v' (F2.tr F) B) (fun q' c' e' m' v' F T b' o' hv' => h1 q' c' (es.trans e') m' v' (F2.tr F) T b' o' (fun env he => hv' env (agE F2 he)))⟩
theorem ml_added5 {b : By} {n t : Nat} {sub : Pf} {Q : Int32 → Sg → Prop} (hs : MSp b n t 5 vv_X8_term5 sub) (hok : okF n sub) (hW : okW sub) : ∀ (f : Nat) (m : Sg) (p : Nat) (c : List Int32) (v : Int32), n - p ≤ f → TkM m b n t p → m 0 25 = 0 → m 0 24 = nI 5 → WF c → (∀ env : Nat → Int32, (∀ k, k < 6 → env k = envM m k) → v = val env c) →
    (∀ q, pLoop b n sub opAdd f p c = (q, none) → ∀ m' v, FrM m m' → BdM m' q → Q v m') → (∀ q c', pLoop b n sub opAdd f p c = (q, some c') → ∀ m' v, FrM m m' → TkM m' b n t q → m' 0 25 = 0 → m' 0 24 = nI 5 → (∀ env : Nat → Int32, (∀ k, k < 6 → env k = envM m k) → v = val env c') → Q v m') → vv_X8_added5_L5 Q (f + 1) v m := by
  have stop : ∀ (f : Nat) (m : Sg) (v : Int32) (q : Nat), BdM m q → Q v m → vv_X8_added5_L5 Q (f + 1) v m := fun f m v q B hq => by
    unfold vv_X8_added5_L5
    exact h_isSignB B.1 ⟨fun z => absurd rfl z, fun _ => h_isSignB B.1 ⟨fun _ => hq, fun z => absurd rfl z⟩⟩
  intro f
  induction f with
  | zero =>
    intro m p c v hf hT hb ho hc hv h0 h1
    have hp : n ≤ p := by omega
    unfold vv_X8_added5_L5
    refine h_isSignM hT hb (by decide) (fun e => absurd (lt_of_tk e (by decide)) (by omega)) (fun _ => ⟨fun z => absurd rfl z, fun _ => ?_⟩)
    refine h_isSignM hT hb (by decide) (fun e => absurd (lt_of_tk e (by decide)) (by omega)) (fun _ => ⟨fun _ => h1 p c rfl m v (FrM.rf m) hT hb ho hv, fun z => absurd rfl z⟩)
  | succ f ih =>
    intro m p c v hf hT hb ho hc hv h0 h1
    have body : ∀ (op s : Int32), tkC b n p = s → isSg s = true → ¬ s = 0 → opAdd s = op → ¬ op = 0 → (¬ op < 20000 ∧ ¬ op = 20007 ∧ ¬ op = 20008) → (s = 43 → ∀ x y, jn op x y = x + y) → (¬ s = 43 → ∀ x y, jn op x y = x - y) → vv_X8_added5_J23 (vv_X8_added5_L5 Q (f + 1)) v m Q := by
      intro op s es hsg hs0 eop hop hop2 jp jm
      have hlt := lt_of_tk es hs0
      have hnx := nx_gt (b := b) hlt
      have e23 : m 0 23 = s := by
        have := (tkC_sign hsg).mp es
        rw [hT.2.2.2.2.2.1 this.1, this.2]
      have step : pLoop b n sub opAdd (f + 1) p c = (match sub (nx b n p) with | (q, none) => (q, none) | (q, some c') => pLoop b n sub opAdd f q (c ++ c' ++ [op])) := by
        simp only [pLoop, show opAdd (tkC b n p) = op by rw [es, eop]]
        rw [if_neg hop]; rfl
      have hk := hok (nx b n p) hnx.2
      have J39 : ∀ x2 : Int32, (x2 = 0 ↔ ¬ s = 43) → vv_X8_added5_J39 (vv_X8_added5_L5 Q (f + 1)) v x2 m Q := by
        intro x2 hx2
        unfold vv_X8_added5_J39
        rintro y rfl
        refine h_nextM hT hb ho hlt (sg_ne4 es hsg) (fun m1 T1 b1 o1 F1 => hs m1 _ _ T1 b1 o1 (fun q e m2 v2 F2 B2 => ?_) (fun q c2 e m2 v2 F2 T2 b2 o2 hv2 => ?_))
        · rintro x3 rfl
          rw [e] at step
          unfold vv_X8_added5_J62
          exact ⟨fun _ => by rintro z rfl; exact stop f m2 _ q B2 (h0 q step m2 _ (F1.tr F2) B2), fun _ => by rintro z rfl; exact stop f m2 _ q B2 (h0 q step m2 _ (F1.tr F2) B2)⟩
        · rintro x3 rfl
          rw [e] at step hk
          have a1 := hk.1
          dsimp only at a1
          have W2 := hW _ _ _ e
          have WB := WF_bin (op := op) hc W2 hop2
          have GO : vv_X8_added5_L5 Q (f + 1) (jn op v x3) m2 := ih m2 q _ _ (by omega) T2 b2 o2 WB.1 (fun env he => by
            have he2 := fun k hk => (he k hk).trans ((F1.tr F2).env hk)
            rw [WB.2 env, ← hv env he2, ← hv2 env (agE F1 he2)]) (fun q' e' m' v' F B => h0 q' (step.trans e') m' v' ((F1.tr F2).tr F) B) (fun q' c' e' m' v' F T b' o' hv' => h1 q' c' (step.trans e') m' v' ((F1.tr F2).tr F) T b' o' (fun env he => hv' env (agE (F1.tr F2) he)))
          unfold vv_X8_added5_J62
          refine ⟨fun z => ?_, fun z => ?_⟩
          · rintro w rfl
            rw [← jm (hx2.mp z)]; exact GO
          · rintro w rfl
            have : s = 43 := by
              rcases Classical.em (s = 43) with q | q
              · exact q
              · exact absurd (hx2.mpr q) z
            rw [← jp this]; exact GO
      unfold vv_X8_added5_J23
      rw [e23, lg_cmp_eq]
      refine ⟨fun z => J39 0 ⟨fun _ q => z (by rw [q]; rfl), fun _ => rfl⟩, fun z => J39 1 ⟨fun q => absurd q (by decide), fun q => absurd ((i64_eq s 43).mp z) q⟩⟩
    unfold vv_X8_added5_L5
    refine h_isSignM hT hb (by decide) (fun e43 => ⟨fun _ => body 20004 43 e43 (by decide) (by decide) rfl (by decide) (by decide) (fun _ _ _ => rfl) (fun z => absurd rfl z), fun z => absurd z (by decide)⟩) (fun n43 => ⟨fun z => absurd rfl z, fun _ => ?_⟩)
    refine h_isSignM hT hb (by decide) (fun e45 => ⟨fun z => absurd z (by decide), fun _ => body 20005 45 e45 (by decide) (by decide) rfl (by decide) (by decide) (fun z => absurd z (by decide)) (fun _ _ _ => rfl)⟩) (fun n45 => ⟨fun _ => ?_, fun z => absurd rfl z⟩)
    have step : pLoop b n sub opAdd (f + 1) p c = (p, some c) := by
      simp only [pLoop, show opAdd (tkC b n p) = 0 by unfold opAdd; rw [if_neg n43, if_neg n45]]; rfl
    exact h1 p c step m v (FrM.rf m) hT hb ho hv
theorem ms_added5 {b : By} {n t : Nat} {sub : Pf} (hn : n ≤ 160) (hs : MSp b n t 5 vv_X8_term5 sub) (hok : okF n sub) (hW : okW sub) : MSp b n t 5 vv_X8_added5 (pSeq b n sub opAdd) := by
  intro m p Q hT hb ho h0 h1
  unfold vv_X8_added5
  refine hs m p _ hT hb ho (fun q e m2 v F2 B2 => ?_) (fun q c e m2 v F2 T2 b2 o2 hv => ?_)
  · rintro y rfl
    refine ⟨1, ?_⟩
    unfold vv_X8_added5_L5
    exact h_isSignB B2.1 ⟨fun z => absurd rfl z, fun _ => h_isSignB B2.1 ⟨fun _ => h0 q (by unfold pSeq; rw [e]) m2 _ F2 B2, fun z => absurd rfl z⟩⟩
  · rintro y rfl
    have es : pSeq b n sub opAdd p = pLoop b n sub opAdd 160 q c := by unfold pSeq; rw [e]
    exact ⟨161, ml_added5 hs hok hW 160 m2 q c y (by omega) T2 b2 o2 (hW _ _ _ e) (fun env he => hv env (fun k hk => (he k hk).trans (F2.env hk))) (fun q' e' m' v' F B => h0 q' (es.trans e') m' v' (F2.tr F) B) (fun q' c' e' m' v' F T b' o' hv' => h1 q' c' (es.trans e') m' v' (F2.tr F) T b' o' (fun env he => hv' env (agE F2 he)))⟩
theorem ms_not5 {b : By} {n t : Nat} {lo : Nat → Pf} {sum : Pf} (hs : MSp b n t 5 vv_X8_added5 sum) (hW : okW sum) : MSp b n t 5 vv_X8_not5 (pNot b n 0 lo sum) := by
  intro m p Q hT hb ho h0 h1
  unfold vv_X8_not5
  refine h_isWordM (w := 12) hT hb (by decide) (by decide) (fun em ew => ⟨fun z => absurd z (by decide), fun _ => ?_⟩) (fun nw => ⟨fun _ => ?_, fun z => absurd rfl z⟩)
  · have et : tkC b n p = 9 := (tkC_key (k := 12) (by decide) (by decide)).mpr ⟨em, ew⟩
    refine h_opensM hT hb ho (by decide) (tkM_one em).1 (by rw [em]; decide) (fun _ m' B F => h0 p (by unfold pNot; rw [if_pos et, if_pos rfl]) m' 0 F B) (fun z => absurd z (by decide))
  · have nt : ¬ tkC b n p = 9 := fun z => nw ((tkC_key (k := 12) (by decide) (by decide)).mp z)
    have eN : pNot b n 0 lo sum p = (match sum p with | (q, none) => (q, none) | (q, some c) => if opCmp (tkC b n q) = 0 then (q, some c) else match sum (nx b n q) with | (r, none) => (r, none) | (r, some c') => (r, some (c ++ c' ++ [opCmp (tkC b n q)]))) := by
      unfold pNot; rw [if_neg nt]; rfl
    refine hs m p _ hT hb ho (fun q e m2 v F2 B2 => ?_) (fun q c e m2 v F2 T2 b2 o2 hv => ?_)
    · rintro y rfl
      exact h_isSignB B2.1 ⟨fun z => absurd rfl z, fun _ => h_isSignB B2.1 ⟨fun z => absurd rfl z, fun _ => h0 q (by rw [eN, e]) m2 _ F2 B2⟩⟩
    · rintro y rfl
      rw [e] at eN
      dsimp only at eN
      have W := hW _ _ _ e
      have body : ∀ (op s : Int32), tkC b n q = s → isSg s = true → ¬ s = 0 → opCmp s = op → ¬ op = 0 → (¬ op < 20000 ∧ ¬ op = 20007 ∧ ¬ op = 20008) → (s = 60 → ∀ x z : Int32, jn op x z = if z ≤ x then 0 else 1) → (¬ s = 60 → ∀ x z : Int32, jn op x z = if x = z then 1 else 0) → vv_X8_not5_J50 y m2 Q := by
        intro op s es hsg hs0 eop hop hop2 jl je
        have hlt := lt_of_tk es hs0
        rw [es, eop, if_neg hop] at eN
        have e23 : m2 0 23 = s := by
          have := (tkC_sign hsg).mp es
          rw [T2.2.2.2.2.2.1 this.1, this.2]
        have J66 : ∀ x2 : Int32, (x2 = 0 ↔ ¬ s = 60) → vv_X8_not5_J66 y x2 m2 Q := by
          intro x2 hx2
          unfold vv_X8_not5_J66 vv_X8_not5_J93
          rintro x rfl
          refine h_nextM T2 b2 o2 hlt (sg_ne4 es hsg) (fun m3 T3 b3 o3 F3 => hs m3 _ _ T3 b3 o3 (fun r e3 m4 v4 F4 B4 => ?_) (fun r c4 e3 m4 v4 F4 T4 b4 o4 hv4 => ?_))
          · rintro x3 rfl
            rw [e3] at eN
            have fin : ∀ u, Q u m4 := fun u => h0 r eN m4 u ((F2.tr F3).tr F4) B4
            exact ⟨fun _ => ⟨fun _ => fin _, fun _ => fin _⟩, fun _ => ⟨fun _ => fin _, fun _ => fin _⟩⟩
          · rintro x3 rfl
            rw [e3] at eN
            have W4 := hW _ _ _ e3
            have WB := WF_bin (op := op) W W4 hop2
            have fin : ∀ u, u = jn op y x3 → Q u m4 := fun u hu => h1 r _ eN m4 u ((F2.tr F3).tr F4) T4 b4 o4 (fun env he => by
              rw [WB.2 env, ← hv env he, ← hv4 env (agE (F2.tr F3) he), hu])
            refine ⟨fun z => ⟨fun z2 => ?_, fun z2 => ?_⟩, fun z => ⟨fun z2 => ?_, fun z2 => ?_⟩⟩
            · exact fin 0 (by rw [je (hx2.mp z), if_neg z2])
            · exact fin 1 (by rw [je (hx2.mp z), if_pos z2])
            · have e60 : s = 60 := by
                rcases Classical.em (s = 60) with a | a
                · exact a
                · exact absurd (hx2.mpr a) z
              exact fin 0 (by rw [jl e60, if_pos z2])
            · have e60 : s = 60 := by
                rcases Classical.em (s = 60) with a | a
                · exact a
                · exact absurd (hx2.mpr a) z
              exact fin 1 (by rw [jl e60, if_neg z2])
        unfold vv_X8_not5_J50
        rw [e23, lg_cmp_eq]
        exact ⟨fun z => J66 0 ⟨fun _ a => z (by rw [a]; rfl), fun _ => rfl⟩, fun z => J66 1 ⟨fun a => absurd a (by decide), fun a => absurd ((i64_eq s 60).mp z) a⟩⟩
      refine h_isSignM T2 b2 (by decide) (fun e60 => ⟨fun _ => body 20002 60 e60 (by decide) (by decide) rfl (by decide) (by decide) (fun _ _ _ => rfl) (fun z => absurd rfl z), fun z => absurd z (by decide)⟩) (fun n60 => ⟨fun z => absurd rfl z, fun _ => ?_⟩)
      refine h_isSignM T2 b2 (by decide) (fun e61 => ⟨fun _ => body 20003 61 e61 (by decide) (by decide) rfl (by decide) (by decide) (fun z => absurd z (by decide)) (fun _ _ _ => rfl), fun z => absurd z (by decide)⟩) (fun n61 => ⟨fun z => absurd rfl z, fun _ => ?_⟩)
      rw [if_pos (by unfold opCmp; rw [if_neg n60, if_neg n61])] at eN
      exact h1 q c eN m2 _ F2 T2 b2 o2 hv
theorem ms_atom4 {b : By} {n t : Nat} {lo : Nat → Pf} (l5 : MSp b n t 5 vv_X8_atom5 (lo 5)) (l0 : MSp b n t 5 vv_X8_either5 (lo 0)) (pW : ∀ i, okW (lo i)) : MSp b n t 4 vv_X8_atom4 (pOne b n 1 lo) := by
  intro m p Q hT hb ho h0 h1
  unfold vv_X8_atom4
  rintro x rfl
  refine h_isSignM hT hb (by decide) (fun e45 => ⟨fun z => absurd z (by decide), fun _ => ?_⟩) (fun n45 => ⟨fun _ => ?_, fun z => absurd rfl z⟩)
  · have hlt := lt_of_tk e45 (by decide)
    have eO : pOne b n 1 lo p = (match lo 5 (nx b n p) with | (q, none) => (q, none) | (q, some c) => (q, some (c ++ [20008]))) := by
      unfold pOne; rw [if_neg (by rw [e45]; decide), if_pos e45, if_neg (by decide)]; rfl
    refine h_opensM hT hb ho (by decide) hlt (sg_ne4 e45 (by decide)) (fun z => absurd z (by decide)) (fun _ m1 T1 b1 o1 F1 => ⟨fun z => absurd z (by decide), fun _ => l5 m1 _ _ T1 b1 o1 (fun q e m2 v F2 B2 => ?_) (fun q c e m2 v F2 T2 b2 o2 hv => ?_)⟩)
    · rintro y rfl m3 rfl
      exact h0 q (by rw [eO, e]) _ _ ((F1.tr F2).tr (FrM.put _ (by decide) _)) (B2.st24 _)
    · rintro y rfl m3 rfl
      have W := pW 5 _ _ _ e
      refine h1 q _ (by rw [eO, e]) _ _ ((F1.tr F2).tr (FrM.put _ (by decide) _)) (T2.st24 (by decide) _) (by rw [st_off _ (by decide)]; exact b2) (by rw [st_on, o2]; rfl) (fun env he => ?_)
      rw [(WF_neg W).2 env, hv env (agE F1 he)]
  · refine h_isSignM hT hb (by decide) (fun e40 => ⟨fun z => absurd z (by decide), fun _ => ?_⟩) (fun n40 => ⟨fun _ => ?_, fun z => absurd rfl z⟩)
    · have hlt := lt_of_tk e40 (by decide)
      have eO : pOne b n 1 lo p = (match lo 0 (nx b n p) with | (q, none) => (q, none) | (q, some c) => if tkC b n q = 41 then (nx b n q, some c) else (q, none)) := by
        unfold pOne; rw [if_neg (by rw [e40]; decide), if_neg (by rw [e40]; decide), if_pos e40, if_neg (by decide)]; rfl
      refine h_opensM hT hb ho (by decide) hlt (sg_ne4 e40 (by decide)) (fun z => absurd z (by decide)) (fun _ m1 T1 b1 o1 F1 => ⟨fun z => absurd z (by decide), fun _ => l0 m1 _ _ T1 b1 o1 (fun q e m2 v F2 B2 => ?_) (fun q c e m2 v F2 T2 b2 o2 hv => ?_)⟩)
      · rintro y rfl
        refine h_isSignB B2.1 ⟨fun z => absurd rfl z, fun _ => h_failB B2 ?_⟩
        unfold vv_X8_atom4_J71
        rintro m3 rfl
        have B3 := B2.st24 (m2 0 24 - 1)
        exact ⟨fun _ => h0 q (by rw [eO, e]) _ _ ((F1.tr F2).tr (FrM.put _ (by decide) _)) B3, fun z => absurd z (by rw [B3.1]; decide)⟩
      · rintro y rfl
        rw [e] at eO
        dsimp only at eO
        refine h_isSignM T2 b2 (by decide) (fun e41 => ⟨fun _ => ?_, fun z => absurd z (by decide)⟩) (fun n41 => ⟨fun z => absurd rfl z, fun _ => ?_⟩)
        · rw [if_pos e41] at eO
          have hlt2 := lt_of_tk e41 (by decide)
          unfold vv_X8_atom4_J71
          rintro m3 rfl
          have b3 : (st m2 0 24 (m2 0 24 - 1)) 0 25 = 0 := by rw [st_off _ (by decide)]; exact b2
          refine ⟨fun z => absurd b3 z, fun _ => h_nextM (L := 4) (T2.st24 (by decide) _) b3 (by rw [st_on, o2]; rfl) hlt2 (sg_ne4 e41 (by decide)) (fun m4 T4 b4 o4 F4 => ?_)⟩
          exact h1 _ _ eO m4 _ (((F1.tr F2).tr (FrM.put _ (by decide) _)).tr F4) T4 b4 o4 (fun env he => hv env (agE F1 he))
        · rw [if_neg n41] at eO
          refine h_fail T2 b2 (fun m3 B3 F3 => ?_)
          unfold vv_X8_atom4_J71
          rintro m4 rfl
          have B4 := B3.st24 (m3 0 24 - 1)
          exact ⟨fun _ => h0 q eO _ _ (((F1.tr F2).tr F3).tr (FrM.put _ (by decide) _)) B4, fun z => absurd z (by rw [B4.1]; decide)⟩
    · have num : ¬ tkM b n p = 2 → vv_X8_atom4_J123 0 m Q := fun n2 => by
        have word : vv_X8_atom4_J123 0 m Q := by
          unfold vv_X8_atom4_J123 vv_X8_atom4_J157
          rw [hT.2.2.1]
          refine ⟨fun z => absurd hb z, fun _ => ⟨fun z => h_fail hT hb (fun m' B F => h0 p (by
            unfold pOne
            rw [if_neg (fun y => y.elim (fun y => n2 (tkC_two.mp y)) (fun y => z (tkC_name.mp y).1)), if_neg n45, if_neg n40]) m' 0 F B), fun z => ?_⟩⟩
          refine h_nameM hT hb z (fun k1 k7 => ?_) (fun hn m' B F => ?_)
          · rintro x rfl
            refine ⟨fun y => absurd hb y, fun _ => ?_⟩
            have hlt : p < n := (tkM_one z).1
            refine h_nextM hT hb ho hlt (by rw [z]; decide) (fun m' T' b' o' F' => h1 (nx b n p) [vlC b n p] (by unfold pOne; rw [if_pos (Or.inr (tkC_name.mpr ⟨z, k1, k7⟩))]) m' _ F' T' b' o' (fun env he => ?_))
            rw [(leaf_name z k1 k7).2 env, he _ (by omega)]
          · rintro x rfl
            refine ⟨fun _ => h0 p ?_ m' 0 F B, fun y => absurd y (by rw [B.1]; decide)⟩
            unfold pOne
            rw [if_neg (fun y => y.elim (fun y => n2 (tkC_two.mp y)) (fun y => hn (tkC_name.mp y).2)), if_neg n45, if_neg n40]
        exact word
      rw [hT.2.2.1]
      refine ⟨fun z => absurd hb z, fun _ => ⟨fun z => num z, fun z => ?_⟩⟩
      rintro y rfl
      have hc := tkC_two.mpr z
      refine h_nextM hT hb ho (lt_of_tk hc (by decide)) (by rw [z]; decide) (fun m' T' b' o' F' => h1 (nx b n p) [vlC b n p] (by unfold pOne; rw [if_pos (Or.inl hc)]) m' _ F' T' b' o' (fun env he => ?_))
      rw [(leaf_num z).2 env, i64_32, hT.2.2.2.2.1 z]
theorem ml_term4 {b : By} {n t : Nat} {sub : Pf} {Q : Int32 → Sg → Prop} (hs : MSp b n t 4 vv_X8_atom4 sub) (hok : okF n sub) (hW : okW sub) : ∀ (f : Nat) (m : Sg) (p : Nat) (c : List Int32) (v : Int32), n - p ≤ f → TkM m b n t p → m 0 25 = 0 → m 0 24 = nI 4 → WF c → (∀ env : Nat → Int32, (∀ k, k < 6 → env k = envM m k) → v = val env c) →
    (∀ q, pLoop b n sub opMul f p c = (q, none) → ∀ m' v, FrM m m' → BdM m' q → Q v m') → (∀ q c', pLoop b n sub opMul f p c = (q, some c') → ∀ m' v, FrM m m' → TkM m' b n t q → m' 0 25 = 0 → m' 0 24 = nI 4 → (∀ env : Nat → Int32, (∀ k, k < 6 → env k = envM m k) → v = val env c') → Q v m') → vv_X8_term4_L5 Q (f + 1) v m := by
  intro f
  induction f with
  | zero =>
    intro m p c v hf hT hb ho hc hv h0 h1
    have hp : n ≤ p := by omega
    unfold vv_X8_term4_L5
    refine h_isSignM hT hb (by decide) (fun e => absurd (lt_of_tk e (by decide)) (by omega)) (fun _ => ⟨fun _ => h1 p c rfl m v (FrM.rf m) hT hb ho hv, fun z => absurd rfl z⟩)
  | succ f ih =>
    intro m p c v hf hT hb ho hc hv h0 h1
    unfold vv_X8_term4_L5
    refine h_isSignM hT hb (by decide) (fun e42 => ⟨fun z => absurd z (by decide), fun _ => ?_⟩) (fun n42 => ⟨fun _ => ?_, fun z => absurd rfl z⟩)
    · have hlt := lt_of_tk e42 (by decide)
      have hnx := nx_gt (b := b) hlt
      have step : pLoop b n sub opMul (f + 1) p c = (match sub (nx b n p) with | (q, none) => (q, none) | (q, some c') => pLoop b n sub opMul f q (c ++ c' ++ [20006])) := by
        simp only [pLoop, show opMul (tkC b n p) = 20006 by rw [e42]; rfl]
        rw [if_neg (by decide)]; rfl
      have hk := hok (nx b n p) hnx.2
      refine h_nextM hT hb ho hlt (sg_ne4 e42 (by decide)) (fun m1 T1 b1 o1 F1 => hs m1 _ _ T1 b1 o1 (fun q e m2 v2 F2 B2 => ?_) (fun q c2 e m2 v2 F2 T2 b2 o2 hv2 => ?_))
      · rintro y rfl
        rw [e] at step
        have M0 : vv_X8_term4_L5 Q (f + 1) (v * v2) m2 := by
          unfold vv_X8_term4_L5
          exact h_isSignB B2.1 ⟨fun _ => h0 q step m2 _ (F1.tr F2) B2, fun z => absurd rfl z⟩
        exact M0
      · rintro y rfl
        rw [e] at step hk
        have a1 := hk.1
        dsimp only at a1
        have W2 := hW _ _ _ e
        have WB := WF_bin (op := 20006) hc W2 (by decide)
        exact ih m2 q _ _ (by omega) T2 b2 o2 WB.1 (fun env he => by
          have he2 := fun k hk => (he k hk).trans ((F1.tr F2).env hk)
          rw [WB.2 env, ← hv env he2, ← hv2 env (agE F1 he2)]; rfl) (fun q' e' m' v' F B => h0 q' (step.trans e') m' v' ((F1.tr F2).tr F) B) (fun q' c' e' m' v' F T b' o' hv' => h1 q' c' (step.trans e') m' v' ((F1.tr F2).tr F) T b' o' (fun env he => hv' env (agE (F1.tr F2) he)))
    · have step : pLoop b n sub opMul (f + 1) p c = (p, some c) := by
        simp only [pLoop, show opMul (tkC b n p) = 0 by unfold opMul; rw [if_neg n42]]; rfl
      exact h1 p c step m v (FrM.rf m) hT hb ho hv
theorem ms_term4 {b : By} {n t : Nat} {sub : Pf} (hn : n ≤ 160) (hs : MSp b n t 4 vv_X8_atom4 sub) (hok : okF n sub) (hW : okW sub) : MSp b n t 4 vv_X8_term4 (pSeq b n sub opMul) := by
  intro m p Q hT hb ho h0 h1
  unfold vv_X8_term4
  refine hs m p _ hT hb ho (fun q e m2 v F2 B2 => ?_) (fun q c e m2 v F2 T2 b2 o2 hv => ?_)
  · rintro y rfl
    refine ⟨1, ?_⟩
    unfold vv_X8_term4_L5
    exact h_isSignB B2.1 ⟨fun _ => h0 q (by unfold pSeq; rw [e]) m2 _ F2 B2, fun z => absurd rfl z⟩
  · rintro y rfl
    have es : pSeq b n sub opMul p = pLoop b n sub opMul 160 q c := by unfold pSeq; rw [e]
    exact ⟨161, ml_term4 hs hok hW 160 m2 q c y (by omega) T2 b2 o2 (hW _ _ _ e) (fun env he => hv env (fun k hk => (he k hk).trans (F2.env hk))) (fun q' e' m' v' F B => h0 q' (es.trans e') m' v' (F2.tr F) B) (fun q' c' e' m' v' F T b' o' hv' => h1 q' c' (es.trans e') m' v' (F2.tr F) T b' o' (fun env he => hv' env (agE F2 he)))⟩
theorem ml_both4 {b : By} {n t : Nat} {sub : Pf} {Q : Int32 → Sg → Prop} (hs : MSp b n t 4 vv_X8_not4 sub) (hok : okF n sub) (hW : okW sub) : ∀ (f : Nat) (m : Sg) (p : Nat) (c : List Int32) (v : Int32), n - p ≤ f → TkM m b n t p → m 0 25 = 0 → m 0 24 = nI 4 → WF c → (∀ env : Nat → Int32, (∀ k, k < 6 → env k = envM m k) → v = val env c) →
    (∀ q, pLoop b n sub opAnd f p c = (q, none) → ∀ m' v, FrM m m' → BdM m' q → Q v m') → (∀ q c', pLoop b n sub opAnd f p c = (q, some c') → ∀ m' v, FrM m m' → TkM m' b n t q → m' 0 25 = 0 → m' 0 24 = nI 4 → (∀ env : Nat → Int32, (∀ k, k < 6 → env k = envM m k) → v = val env c') → Q v m') → vv_X8_both4_L5 Q (f + 1) v m := by
  intro f
  induction f with
  | zero =>
    intro m p c v hf hT hb ho hc hv h0 h1
    have hp : n ≤ p := by omega
    unfold vv_X8_both4_L5
    refine h_isWordM (w := 11) hT hb (by decide) (by decide) (fun e _ => absurd (tkM_one e).1 (by omega)) (fun _ => ⟨fun _ => h1 p c rfl m v (FrM.rf m) hT hb ho hv, fun z => absurd rfl z⟩)
  | succ f ih =>
    intro m p c v hf hT hb ho hc hv h0 h1
    unfold vv_X8_both4_L5
    refine h_isWordM (w := 11) hT hb (by decide) (by decide) (fun em ew => ⟨fun z => absurd z (by decide), fun _ => ?_⟩) (fun nw => ⟨fun _ => ?_, fun z => absurd rfl z⟩)
    · have et : tkC b n p = 8 := (tkC_key (k := 11) (by decide) (by decide)).mpr ⟨em, ew⟩
      have hlt := (tkM_one em).1
      have hnx := nx_gt (b := b) hlt
      have step : pLoop b n sub opAnd (f + 1) p c = (match sub (nx b n p) with | (q, none) => (q, none) | (q, some c') => pLoop b n sub opAnd f q (c ++ c' ++ [20001])) := by
        simp only [pLoop, show opAnd (tkC b n p) = 20001 by rw [et]; rfl]
        rw [if_neg (by decide)]; rfl
      have hk := hok (nx b n p) hnx.2
      refine h_nextM hT hb ho hlt (by rw [em]; decide) (fun m1 T1 b1 o1 F1 => hs m1 _ _ T1 b1 o1 (fun q e m2 v2 F2 B2 => ?_) (fun q c2 e m2 v2 F2 T2 b2 o2 hv2 => ?_))
      · rintro x2 rfl
        rw [e] at step
        have GO : ∀ y, vv_X8_both4_L5 Q (f + 1) y m2 := fun y => by
          unfold vv_X8_both4_L5
          exact h_isWordB B2.1 ⟨fun _ => h0 q step m2 _ (F1.tr F2) B2, fun z => absurd rfl z⟩
        refine ⟨fun z => ?_, fun z => ⟨fun z2 => ?_, fun z2 => ?_⟩⟩
        · unfold vv_X8_both4_J44 vv_X8_both4_J45
          rintro y rfl
          exact GO _
        · unfold vv_X8_both4_J44 vv_X8_both4_J45
          rintro y rfl
          exact GO _
        · unfold vv_X8_both4_J45
          rintro y rfl
          exact GO _
      · rintro x2 rfl
        rw [e] at step hk
        have a1 := hk.1
        dsimp only at a1
        have W2 := hW _ _ _ e
        have WB := WF_bin (op := 20001) hc W2 (by decide)
        have GO : vv_X8_both4_L5 Q (f + 1) (jn 20001 v x2) m2 := ih m2 q _ _ (by omega) T2 b2 o2 WB.1 (fun env he => by
          have he2 := fun k hk => (he k hk).trans ((F1.tr F2).env hk)
          rw [WB.2 env, ← hv env he2, ← hv2 env (agE F1 he2)]) (fun q' e' m' v' F B => h0 q' (step.trans e') m' v' ((F1.tr F2).tr F) B) (fun q' c' e' m' v' F T b' o' hv' => h1 q' c' (step.trans e') m' v' ((F1.tr F2).tr F) T b' o' (fun env he => hv' env (agE (F1.tr F2) he)))
        have jv : jn 20001 v x2 = (if v = 0 ∨ x2 = 0 then 0 else 1) := rfl
        refine ⟨fun z => ?_, fun z => ⟨fun z2 => ?_, fun z2 => ?_⟩⟩
        · unfold vv_X8_both4_J44 vv_X8_both4_J45
          rintro y rfl
          rw [if_pos (Or.inl z)] at jv; rw [← jv]; exact GO
        · unfold vv_X8_both4_J44 vv_X8_both4_J45
          rintro y rfl
          rw [if_pos (Or.inr z2)] at jv; rw [← jv]; exact GO
        · unfold vv_X8_both4_J45
          rintro y rfl
          rw [if_neg (fun q => q.elim z z2)] at jv; rw [← jv]; exact GO
    · have step : pLoop b n sub opAnd (f + 1) p c = (p, some c) := by
        simp only [pLoop, show opAnd (tkC b n p) = 0 by unfold opAnd; rw [if_neg (show ¬ tkC b n p = 8 from fun z => nw ((tkC_key (k := 11) (by decide) (by decide)).mp z))]]; rfl
      exact h1 p c step m v (FrM.rf m) hT hb ho hv
theorem ms_both4 {b : By} {n t : Nat} {sub : Pf} (hn : n ≤ 160) (hs : MSp b n t 4 vv_X8_not4 sub) (hok : okF n sub) (hW : okW sub) : MSp b n t 4 vv_X8_both4 (pSeq b n sub opAnd) := by
  intro m p Q hT hb ho h0 h1
  unfold vv_X8_both4
  refine hs m p _ hT hb ho (fun q e m2 v F2 B2 => ?_) (fun q c e m2 v F2 T2 b2 o2 hv => ?_)
  · rintro y rfl
    refine ⟨1, ?_⟩
    unfold vv_X8_both4_L5
    exact h_isWordB B2.1 ⟨fun _ => h0 q (by unfold pSeq; rw [e]) m2 _ F2 B2, fun z => absurd rfl z⟩
  · rintro y rfl
    have es : pSeq b n sub opAnd p = pLoop b n sub opAnd 160 q c := by unfold pSeq; rw [e]
    exact ⟨161, ml_both4 hs hok hW 160 m2 q c y (by omega) T2 b2 o2 (hW _ _ _ e) (fun env he => hv env (fun k hk => (he k hk).trans (F2.env hk))) (fun q' e' m' v' F B => h0 q' (es.trans e') m' v' (F2.tr F) B) (fun q' c' e' m' v' F T b' o' hv' => h1 q' c' (es.trans e') m' v' (F2.tr F) T b' o' (fun env he => hv' env (agE F2 he)))⟩
theorem ml_either4 {b : By} {n t : Nat} {sub : Pf} {Q : Int32 → Sg → Prop} (hs : MSp b n t 4 vv_X8_both4 sub) (hok : okF n sub) (hW : okW sub) : ∀ (f : Nat) (m : Sg) (p : Nat) (c : List Int32) (v : Int32), n - p ≤ f → TkM m b n t p → m 0 25 = 0 → m 0 24 = nI 4 → WF c → (∀ env : Nat → Int32, (∀ k, k < 6 → env k = envM m k) → v = val env c) →
    (∀ q, pLoop b n sub opOr f p c = (q, none) → ∀ m' v, FrM m m' → BdM m' q → Q v m') → (∀ q c', pLoop b n sub opOr f p c = (q, some c') → ∀ m' v, FrM m m' → TkM m' b n t q → m' 0 25 = 0 → m' 0 24 = nI 4 → (∀ env : Nat → Int32, (∀ k, k < 6 → env k = envM m k) → v = val env c') → Q v m') → vv_X8_either4_L5 Q (f + 1) v m := by
  intro f
  induction f with
  | zero =>
    intro m p c v hf hT hb ho hc hv h0 h1
    have hp : n ≤ p := by omega
    unfold vv_X8_either4_L5
    refine h_isWordM (w := 10) hT hb (by decide) (by decide) (fun e _ => absurd (tkM_one e).1 (by omega)) (fun _ => ⟨fun _ => h1 p c rfl m v (FrM.rf m) hT hb ho hv, fun z => absurd rfl z⟩)
  | succ f ih =>
    intro m p c v hf hT hb ho hc hv h0 h1
    unfold vv_X8_either4_L5
    refine h_isWordM (w := 10) hT hb (by decide) (by decide) (fun em ew => ⟨fun z => absurd z (by decide), fun _ => ?_⟩) (fun nw => ⟨fun _ => ?_, fun z => absurd rfl z⟩)
    · have et : tkC b n p = 7 := (tkC_key (k := 10) (by decide) (by decide)).mpr ⟨em, ew⟩
      have hlt := (tkM_one em).1
      have hnx := nx_gt (b := b) hlt
      have step : pLoop b n sub opOr (f + 1) p c = (match sub (nx b n p) with | (q, none) => (q, none) | (q, some c') => pLoop b n sub opOr f q (c ++ c' ++ [20000])) := by
        simp only [pLoop, show opOr (tkC b n p) = 20000 by rw [et]; rfl]
        rw [if_neg (by decide)]; rfl
      have hk := hok (nx b n p) hnx.2
      refine h_nextM hT hb ho hlt (by rw [em]; decide) (fun m1 T1 b1 o1 F1 => hs m1 _ _ T1 b1 o1 (fun q e m2 v2 F2 B2 => ?_) (fun q c2 e m2 v2 F2 T2 b2 o2 hv2 => ?_))
      · rintro x2 rfl
        rw [e] at step
        have GO : ∀ y, vv_X8_either4_L5 Q (f + 1) y m2 := fun y => by
          unfold vv_X8_either4_L5
          exact h_isWordB B2.1 ⟨fun _ => h0 q step m2 _ (F1.tr F2) B2, fun z => absurd rfl z⟩
        refine ⟨fun z => ?_, fun z => ⟨fun z2 => ?_, fun z2 => ?_⟩⟩
        · unfold vv_X8_either4_J39 vv_X8_either4_J44
          rintro y rfl
          exact GO _
        · unfold vv_X8_either4_J44
          rintro y rfl
          exact GO _
        · unfold vv_X8_either4_J39 vv_X8_either4_J44
          rintro y rfl
          exact GO _
      · rintro x2 rfl
        rw [e] at step hk
        have a1 := hk.1
        dsimp only at a1
        have W2 := hW _ _ _ e
        have WB := WF_bin (op := 20000) hc W2 (by decide)
        have GO : vv_X8_either4_L5 Q (f + 1) (jn 20000 v x2) m2 := ih m2 q _ _ (by omega) T2 b2 o2 WB.1 (fun env he => by
          have he2 := fun k hk => (he k hk).trans ((F1.tr F2).env hk)
          rw [WB.2 env, ← hv env he2, ← hv2 env (agE F1 he2)]) (fun q' e' m' v' F B => h0 q' (step.trans e') m' v' ((F1.tr F2).tr F) B) (fun q' c' e' m' v' F T b' o' hv' => h1 q' c' (step.trans e') m' v' ((F1.tr F2).tr F) T b' o' (fun env he => hv' env (agE (F1.tr F2) he)))
        have jv : jn 20000 v x2 = (if v = 0 ∧ x2 = 0 then 0 else 1) := rfl
        refine ⟨fun z => ?_, fun z => ⟨fun z2 => ?_, fun z2 => ?_⟩⟩
        · unfold vv_X8_either4_J39 vv_X8_either4_J44
          rintro y rfl
          rw [if_neg (fun q => z q.1)] at jv; rw [← jv]; exact GO
        · unfold vv_X8_either4_J44
          rintro y rfl
          rw [if_pos ⟨z, z2⟩] at jv; rw [← jv]; exact GO
        · unfold vv_X8_either4_J39 vv_X8_either4_J44
          rintro y rfl
          rw [if_neg (fun q => z2 q.2)] at jv; rw [← jv]; exact GO
    · have step : pLoop b n sub opOr (f + 1) p c = (p, some c) := by
        simp only [pLoop, show opOr (tkC b n p) = 0 by unfold opOr; rw [if_neg (show ¬ tkC b n p = 7 from fun z => nw ((tkC_key (k := 10) (by decide) (by decide)).mp z))]]; rfl
      exact h1 p c step m v (FrM.rf m) hT hb ho hv
theorem ms_either4 {b : By} {n t : Nat} {sub : Pf} (hn : n ≤ 160) (hs : MSp b n t 4 vv_X8_both4 sub) (hok : okF n sub) (hW : okW sub) : MSp b n t 4 vv_X8_either4 (pSeq b n sub opOr) := by
  intro m p Q hT hb ho h0 h1
  unfold vv_X8_either4
  refine hs m p _ hT hb ho (fun q e m2 v F2 B2 => ?_) (fun q c e m2 v F2 T2 b2 o2 hv => ?_)
  · rintro y rfl
    refine ⟨1, ?_⟩
    unfold vv_X8_either4_L5
    exact h_isWordB B2.1 ⟨fun _ => h0 q (by unfold pSeq; rw [e]) m2 _ F2 B2, fun z => absurd rfl z⟩
  · rintro y rfl
    have es : pSeq b n sub opOr p = pLoop b n sub opOr 160 q c := by unfold pSeq; rw [e]
    exact ⟨161, ml_either4 hs hok hW 160 m2 q c y (by omega) T2 b2 o2 (hW _ _ _ e) (fun env he => hv env (fun k hk => (he k hk).trans (F2.env hk))) (fun q' e' m' v' F B => h0 q' (es.trans e') m' v' (F2.tr F) B) (fun q' c' e' m' v' F T b' o' hv' => h1 q' c' (es.trans e') m' v' (F2.tr F) T b' o' (fun env he => hv' env (agE F2 he)))⟩
theorem ml_added4 {b : By} {n t : Nat} {sub : Pf} {Q : Int32 → Sg → Prop} (hs : MSp b n t 4 vv_X8_term4 sub) (hok : okF n sub) (hW : okW sub) : ∀ (f : Nat) (m : Sg) (p : Nat) (c : List Int32) (v : Int32), n - p ≤ f → TkM m b n t p → m 0 25 = 0 → m 0 24 = nI 4 → WF c → (∀ env : Nat → Int32, (∀ k, k < 6 → env k = envM m k) → v = val env c) →
    (∀ q, pLoop b n sub opAdd f p c = (q, none) → ∀ m' v, FrM m m' → BdM m' q → Q v m') → (∀ q c', pLoop b n sub opAdd f p c = (q, some c') → ∀ m' v, FrM m m' → TkM m' b n t q → m' 0 25 = 0 → m' 0 24 = nI 4 → (∀ env : Nat → Int32, (∀ k, k < 6 → env k = envM m k) → v = val env c') → Q v m') → vv_X8_added4_L5 Q (f + 1) v m := by
  have stop : ∀ (f : Nat) (m : Sg) (v : Int32) (q : Nat), BdM m q → Q v m → vv_X8_added4_L5 Q (f + 1) v m := fun f m v q B hq => by
    unfold vv_X8_added4_L5
    exact h_isSignB B.1 ⟨fun z => absurd rfl z, fun _ => h_isSignB B.1 ⟨fun _ => hq, fun z => absurd rfl z⟩⟩
  intro f
  induction f with
  | zero =>
    intro m p c v hf hT hb ho hc hv h0 h1
    have hp : n ≤ p := by omega
    unfold vv_X8_added4_L5
    refine h_isSignM hT hb (by decide) (fun e => absurd (lt_of_tk e (by decide)) (by omega)) (fun _ => ⟨fun z => absurd rfl z, fun _ => ?_⟩)
    refine h_isSignM hT hb (by decide) (fun e => absurd (lt_of_tk e (by decide)) (by omega)) (fun _ => ⟨fun _ => h1 p c rfl m v (FrM.rf m) hT hb ho hv, fun z => absurd rfl z⟩)
  | succ f ih =>
    intro m p c v hf hT hb ho hc hv h0 h1
    have body : ∀ (op s : Int32), tkC b n p = s → isSg s = true → ¬ s = 0 → opAdd s = op → ¬ op = 0 → (¬ op < 20000 ∧ ¬ op = 20007 ∧ ¬ op = 20008) → (s = 43 → ∀ x y, jn op x y = x + y) → (¬ s = 43 → ∀ x y, jn op x y = x - y) → vv_X8_added4_J23 (vv_X8_added4_L5 Q (f + 1)) v m Q := by
      intro op s es hsg hs0 eop hop hop2 jp jm
      have hlt := lt_of_tk es hs0
      have hnx := nx_gt (b := b) hlt
      have e23 : m 0 23 = s := by
        have := (tkC_sign hsg).mp es
        rw [hT.2.2.2.2.2.1 this.1, this.2]
      have step : pLoop b n sub opAdd (f + 1) p c = (match sub (nx b n p) with | (q, none) => (q, none) | (q, some c') => pLoop b n sub opAdd f q (c ++ c' ++ [op])) := by
        simp only [pLoop, show opAdd (tkC b n p) = op by rw [es, eop]]
        rw [if_neg hop]; rfl
      have hk := hok (nx b n p) hnx.2
      have J39 : ∀ x2 : Int32, (x2 = 0 ↔ ¬ s = 43) → vv_X8_added4_J39 (vv_X8_added4_L5 Q (f + 1)) v x2 m Q := by
        intro x2 hx2
        unfold vv_X8_added4_J39
        rintro y rfl
        refine h_nextM hT hb ho hlt (sg_ne4 es hsg) (fun m1 T1 b1 o1 F1 => hs m1 _ _ T1 b1 o1 (fun q e m2 v2 F2 B2 => ?_) (fun q c2 e m2 v2 F2 T2 b2 o2 hv2 => ?_))
        · rintro x3 rfl
          rw [e] at step
          unfold vv_X8_added4_J62
          exact ⟨fun _ => by rintro z rfl; exact stop f m2 _ q B2 (h0 q step m2 _ (F1.tr F2) B2), fun _ => by rintro z rfl; exact stop f m2 _ q B2 (h0 q step m2 _ (F1.tr F2) B2)⟩
        · rintro x3 rfl
          rw [e] at step hk
          have a1 := hk.1
          dsimp only at a1
          have W2 := hW _ _ _ e
          have WB := WF_bin (op := op) hc W2 hop2
          have GO : vv_X8_added4_L5 Q (f + 1) (jn op v x3) m2 := ih m2 q _ _ (by omega) T2 b2 o2 WB.1 (fun env he => by
            have he2 := fun k hk => (he k hk).trans ((F1.tr F2).env hk)
            rw [WB.2 env, ← hv env he2, ← hv2 env (agE F1 he2)]) (fun q' e' m' v' F B => h0 q' (step.trans e') m' v' ((F1.tr F2).tr F) B) (fun q' c' e' m' v' F T b' o' hv' => h1 q' c' (step.trans e') m' v' ((F1.tr F2).tr F) T b' o' (fun env he => hv' env (agE (F1.tr F2) he)))
          unfold vv_X8_added4_J62
          refine ⟨fun z => ?_, fun z => ?_⟩
          · rintro w rfl
            rw [← jm (hx2.mp z)]; exact GO
          · rintro w rfl
            have : s = 43 := by
              rcases Classical.em (s = 43) with q | q
              · exact q
              · exact absurd (hx2.mpr q) z
            rw [← jp this]; exact GO
      unfold vv_X8_added4_J23
      rw [e23, lg_cmp_eq]
      refine ⟨fun z => J39 0 ⟨fun _ q => z (by rw [q]; rfl), fun _ => rfl⟩, fun z => J39 1 ⟨fun q => absurd q (by decide), fun q => absurd ((i64_eq s 43).mp z) q⟩⟩
    unfold vv_X8_added4_L5
    refine h_isSignM hT hb (by decide) (fun e43 => ⟨fun _ => body 20004 43 e43 (by decide) (by decide) rfl (by decide) (by decide) (fun _ _ _ => rfl) (fun z => absurd rfl z), fun z => absurd z (by decide)⟩) (fun n43 => ⟨fun z => absurd rfl z, fun _ => ?_⟩)
    refine h_isSignM hT hb (by decide) (fun e45 => ⟨fun z => absurd z (by decide), fun _ => body 20005 45 e45 (by decide) (by decide) rfl (by decide) (by decide) (fun z => absurd z (by decide)) (fun _ _ _ => rfl)⟩) (fun n45 => ⟨fun _ => ?_, fun z => absurd rfl z⟩)
    have step : pLoop b n sub opAdd (f + 1) p c = (p, some c) := by
      simp only [pLoop, show opAdd (tkC b n p) = 0 by unfold opAdd; rw [if_neg n43, if_neg n45]]; rfl
    exact h1 p c step m v (FrM.rf m) hT hb ho hv
theorem ms_added4 {b : By} {n t : Nat} {sub : Pf} (hn : n ≤ 160) (hs : MSp b n t 4 vv_X8_term4 sub) (hok : okF n sub) (hW : okW sub) : MSp b n t 4 vv_X8_added4 (pSeq b n sub opAdd) := by
  intro m p Q hT hb ho h0 h1
  unfold vv_X8_added4
  refine hs m p _ hT hb ho (fun q e m2 v F2 B2 => ?_) (fun q c e m2 v F2 T2 b2 o2 hv => ?_)
  · rintro y rfl
    refine ⟨1, ?_⟩
    unfold vv_X8_added4_L5
    exact h_isSignB B2.1 ⟨fun z => absurd rfl z, fun _ => h_isSignB B2.1 ⟨fun _ => h0 q (by unfold pSeq; rw [e]) m2 _ F2 B2, fun z => absurd rfl z⟩⟩
  · rintro y rfl
    have es : pSeq b n sub opAdd p = pLoop b n sub opAdd 160 q c := by unfold pSeq; rw [e]
    exact ⟨161, ml_added4 hs hok hW 160 m2 q c y (by omega) T2 b2 o2 (hW _ _ _ e) (fun env he => hv env (fun k hk => (he k hk).trans (F2.env hk))) (fun q' e' m' v' F B => h0 q' (es.trans e') m' v' (F2.tr F) B) (fun q' c' e' m' v' F T b' o' hv' => h1 q' c' (es.trans e') m' v' (F2.tr F) T b' o' (fun env he => hv' env (agE F2 he)))⟩
theorem ms_not4 {b : By} {n t : Nat} {lo : Nat → Pf} {sum : Pf} (hs : MSp b n t 4 vv_X8_added4 sum) (hW : okW sum) (l2 : MSp b n t 5 vv_X8_not5 (lo 2)) (pW : ∀ i, okW (lo i)) : MSp b n t 4 vv_X8_not4 (pNot b n 1 lo sum) := by
  intro m p Q hT hb ho h0 h1
  unfold vv_X8_not4
  refine h_isWordM (w := 12) hT hb (by decide) (by decide) (fun em ew => ⟨fun z => absurd z (by decide), fun _ => ?_⟩) (fun nw => ⟨fun _ => ?_, fun z => absurd rfl z⟩)
  · have et : tkC b n p = 9 := (tkC_key (k := 12) (by decide) (by decide)).mpr ⟨em, ew⟩
    have eN : pNot b n 1 lo sum p = (match lo 2 (nx b n p) with | (q, none) => (q, none) | (q, some c) => (q, some (c ++ [20007]))) := by
      unfold pNot; rw [if_pos et, if_neg (by decide)]; rfl
    refine h_opensM hT hb ho (by decide) (tkM_one em).1 (by rw [em]; decide) (fun z => absurd z (by decide)) (fun _ m1 T1 b1 o1 F1 => ⟨fun _ => l2 m1 _ _ T1 b1 o1 (fun q e m2 v F2 B2 => ?_) (fun q c e m2 v F2 T2 b2 o2 hv => ?_), fun z => absurd z (by decide)⟩)
    · rintro y rfl m3 rfl
      have F3 := (F1.tr F2).tr (FrM.put m2 (j := 24) (by decide) (m2 0 24 - 1))
      exact ⟨fun _ => h0 q (by rw [eN, e]) _ _ F3 (B2.st24 _), fun _ => h0 q (by rw [eN, e]) _ _ F3 (B2.st24 _)⟩
    · rintro y rfl m3 rfl
      have F3 := (F1.tr F2).tr (FrM.put m2 (j := 24) (by decide) (m2 0 24 - 1))
      have W := pW 2 _ _ _ e
      have fin : ∀ r : Int32, r = (if y = 0 then 1 else 0) → Q r (st m2 0 24 (m2 0 24 - 1)) := fun r hr => h1 q _ (by rw [eN, e]) _ r F3 (T2.st24 (by decide) _) (by rw [st_off _ (by decide)]; exact b2) (by rw [st_on, o2]; rfl) (fun env he => by
        rw [(WF_not W).2 env, ← hv env (agE F1 he), hr])
      exact ⟨fun z => fin 0 (by rw [if_neg z]), fun z => fin 1 (by rw [if_pos z])⟩
  · have nt : ¬ tkC b n p = 9 := fun z => nw ((tkC_key (k := 12) (by decide) (by decide)).mp z)
    have eN : pNot b n 1 lo sum p = (match sum p with | (q, none) => (q, none) | (q, some c) => if opCmp (tkC b n q) = 0 then (q, some c) else match sum (nx b n q) with | (r, none) => (r, none) | (r, some c') => (r, some (c ++ c' ++ [opCmp (tkC b n q)]))) := by
      unfold pNot; rw [if_neg nt]; rfl
    refine hs m p _ hT hb ho (fun q e m2 v F2 B2 => ?_) (fun q c e m2 v F2 T2 b2 o2 hv => ?_)
    · rintro y rfl
      exact h_isSignB B2.1 ⟨fun z => absurd rfl z, fun _ => h_isSignB B2.1 ⟨fun z => absurd rfl z, fun _ => h0 q (by rw [eN, e]) m2 _ F2 B2⟩⟩
    · rintro y rfl
      rw [e] at eN
      dsimp only at eN
      have W := hW _ _ _ e
      have body : ∀ (op s : Int32), tkC b n q = s → isSg s = true → ¬ s = 0 → opCmp s = op → ¬ op = 0 → (¬ op < 20000 ∧ ¬ op = 20007 ∧ ¬ op = 20008) → (s = 60 → ∀ x z : Int32, jn op x z = if z ≤ x then 0 else 1) → (¬ s = 60 → ∀ x z : Int32, jn op x z = if x = z then 1 else 0) → vv_X8_not4_J77 y m2 Q := by
        intro op s es hsg hs0 eop hop hop2 jl je
        have hlt := lt_of_tk es hs0
        rw [es, eop, if_neg hop] at eN
        have e23 : m2 0 23 = s := by
          have := (tkC_sign hsg).mp es
          rw [T2.2.2.2.2.2.1 this.1, this.2]
        have J66 : ∀ x2 : Int32, (x2 = 0 ↔ ¬ s = 60) → vv_X8_not4_J93 y x2 m2 Q := by
          intro x2 hx2
          unfold vv_X8_not4_J93 vv_X8_not4_J120
          rintro x rfl
          refine h_nextM T2 b2 o2 hlt (sg_ne4 es hsg) (fun m3 T3 b3 o3 F3 => hs m3 _ _ T3 b3 o3 (fun r e3 m4 v4 F4 B4 => ?_) (fun r c4 e3 m4 v4 F4 T4 b4 o4 hv4 => ?_))
          · rintro x3 rfl
            rw [e3] at eN
            have fin : ∀ u, Q u m4 := fun u => h0 r eN m4 u ((F2.tr F3).tr F4) B4
            exact ⟨fun _ => ⟨fun _ => fin _, fun _ => fin _⟩, fun _ => ⟨fun _ => fin _, fun _ => fin _⟩⟩
          · rintro x3 rfl
            rw [e3] at eN
            have W4 := hW _ _ _ e3
            have WB := WF_bin (op := op) W W4 hop2
            have fin : ∀ u, u = jn op y x3 → Q u m4 := fun u hu => h1 r _ eN m4 u ((F2.tr F3).tr F4) T4 b4 o4 (fun env he => by
              rw [WB.2 env, ← hv env he, ← hv4 env (agE (F2.tr F3) he), hu])
            refine ⟨fun z => ⟨fun z2 => ?_, fun z2 => ?_⟩, fun z => ⟨fun z2 => ?_, fun z2 => ?_⟩⟩
            · exact fin 0 (by rw [je (hx2.mp z), if_neg z2])
            · exact fin 1 (by rw [je (hx2.mp z), if_pos z2])
            · have e60 : s = 60 := by
                rcases Classical.em (s = 60) with a | a
                · exact a
                · exact absurd (hx2.mpr a) z
              exact fin 0 (by rw [jl e60, if_pos z2])
            · have e60 : s = 60 := by
                rcases Classical.em (s = 60) with a | a
                · exact a
                · exact absurd (hx2.mpr a) z
              exact fin 1 (by rw [jl e60, if_neg z2])
        unfold vv_X8_not4_J77
        rw [e23, lg_cmp_eq]
        exact ⟨fun z => J66 0 ⟨fun _ a => z (by rw [a]; rfl), fun _ => rfl⟩, fun z => J66 1 ⟨fun a => absurd a (by decide), fun a => absurd ((i64_eq s 60).mp z) a⟩⟩
      refine h_isSignM T2 b2 (by decide) (fun e60 => ⟨fun _ => body 20002 60 e60 (by decide) (by decide) rfl (by decide) (by decide) (fun _ _ _ => rfl) (fun z => absurd rfl z), fun z => absurd z (by decide)⟩) (fun n60 => ⟨fun z => absurd rfl z, fun _ => ?_⟩)
      refine h_isSignM T2 b2 (by decide) (fun e61 => ⟨fun _ => body 20003 61 e61 (by decide) (by decide) rfl (by decide) (by decide) (fun z => absurd z (by decide)) (fun _ _ _ => rfl), fun z => absurd z (by decide)⟩) (fun n61 => ⟨fun z => absurd rfl z, fun _ => ?_⟩)
      rw [if_pos (by unfold opCmp; rw [if_neg n60, if_neg n61])] at eN
      exact h1 q c eN m2 _ F2 T2 b2 o2 hv
theorem ms_atom3 {b : By} {n t : Nat} {lo : Nat → Pf} (l5 : MSp b n t 4 vv_X8_atom4 (lo 5)) (l0 : MSp b n t 4 vv_X8_either4 (lo 0)) (pW : ∀ i, okW (lo i)) : MSp b n t 3 vv_X8_atom3 (pOne b n 2 lo) := by
  intro m p Q hT hb ho h0 h1
  unfold vv_X8_atom3
  rintro x rfl
  refine h_isSignM hT hb (by decide) (fun e45 => ⟨fun z => absurd z (by decide), fun _ => ?_⟩) (fun n45 => ⟨fun _ => ?_, fun z => absurd rfl z⟩)
  · have hlt := lt_of_tk e45 (by decide)
    have eO : pOne b n 2 lo p = (match lo 5 (nx b n p) with | (q, none) => (q, none) | (q, some c) => (q, some (c ++ [20008]))) := by
      unfold pOne; rw [if_neg (by rw [e45]; decide), if_pos e45, if_neg (by decide)]; rfl
    refine h_opensM hT hb ho (by decide) hlt (sg_ne4 e45 (by decide)) (fun z => absurd z (by decide)) (fun _ m1 T1 b1 o1 F1 => ⟨fun z => absurd z (by decide), fun _ => l5 m1 _ _ T1 b1 o1 (fun q e m2 v F2 B2 => ?_) (fun q c e m2 v F2 T2 b2 o2 hv => ?_)⟩)
    · rintro y rfl m3 rfl
      exact h0 q (by rw [eO, e]) _ _ ((F1.tr F2).tr (FrM.put _ (by decide) _)) (B2.st24 _)
    · rintro y rfl m3 rfl
      have W := pW 5 _ _ _ e
      refine h1 q _ (by rw [eO, e]) _ _ ((F1.tr F2).tr (FrM.put _ (by decide) _)) (T2.st24 (by decide) _) (by rw [st_off _ (by decide)]; exact b2) (by rw [st_on, o2]; rfl) (fun env he => ?_)
      rw [(WF_neg W).2 env, hv env (agE F1 he)]
  · refine h_isSignM hT hb (by decide) (fun e40 => ⟨fun z => absurd z (by decide), fun _ => ?_⟩) (fun n40 => ⟨fun _ => ?_, fun z => absurd rfl z⟩)
    · have hlt := lt_of_tk e40 (by decide)
      have eO : pOne b n 2 lo p = (match lo 0 (nx b n p) with | (q, none) => (q, none) | (q, some c) => if tkC b n q = 41 then (nx b n q, some c) else (q, none)) := by
        unfold pOne; rw [if_neg (by rw [e40]; decide), if_neg (by rw [e40]; decide), if_pos e40, if_neg (by decide)]; rfl
      refine h_opensM hT hb ho (by decide) hlt (sg_ne4 e40 (by decide)) (fun z => absurd z (by decide)) (fun _ m1 T1 b1 o1 F1 => ⟨fun z => absurd z (by decide), fun _ => l0 m1 _ _ T1 b1 o1 (fun q e m2 v F2 B2 => ?_) (fun q c e m2 v F2 T2 b2 o2 hv => ?_)⟩)
      · rintro y rfl
        refine h_isSignB B2.1 ⟨fun z => absurd rfl z, fun _ => h_failB B2 ?_⟩
        unfold vv_X8_atom3_J71
        rintro m3 rfl
        have B3 := B2.st24 (m2 0 24 - 1)
        exact ⟨fun _ => h0 q (by rw [eO, e]) _ _ ((F1.tr F2).tr (FrM.put _ (by decide) _)) B3, fun z => absurd z (by rw [B3.1]; decide)⟩
      · rintro y rfl
        rw [e] at eO
        dsimp only at eO
        refine h_isSignM T2 b2 (by decide) (fun e41 => ⟨fun _ => ?_, fun z => absurd z (by decide)⟩) (fun n41 => ⟨fun z => absurd rfl z, fun _ => ?_⟩)
        · rw [if_pos e41] at eO
          have hlt2 := lt_of_tk e41 (by decide)
          unfold vv_X8_atom3_J71
          rintro m3 rfl
          have b3 : (st m2 0 24 (m2 0 24 - 1)) 0 25 = 0 := by rw [st_off _ (by decide)]; exact b2
          refine ⟨fun z => absurd b3 z, fun _ => h_nextM (L := 3) (T2.st24 (by decide) _) b3 (by rw [st_on, o2]; rfl) hlt2 (sg_ne4 e41 (by decide)) (fun m4 T4 b4 o4 F4 => ?_)⟩
          exact h1 _ _ eO m4 _ (((F1.tr F2).tr (FrM.put _ (by decide) _)).tr F4) T4 b4 o4 (fun env he => hv env (agE F1 he))
        · rw [if_neg n41] at eO
          refine h_fail T2 b2 (fun m3 B3 F3 => ?_)
          unfold vv_X8_atom3_J71
          rintro m4 rfl
          have B4 := B3.st24 (m3 0 24 - 1)
          exact ⟨fun _ => h0 q eO _ _ (((F1.tr F2).tr F3).tr (FrM.put _ (by decide) _)) B4, fun z => absurd z (by rw [B4.1]; decide)⟩
    · have num : ¬ tkM b n p = 2 → vv_X8_atom3_J123 0 m Q := fun n2 => by
        have word : vv_X8_atom3_J123 0 m Q := by
          unfold vv_X8_atom3_J123 vv_X8_atom3_J157
          rw [hT.2.2.1]
          refine ⟨fun z => absurd hb z, fun _ => ⟨fun z => h_fail hT hb (fun m' B F => h0 p (by
            unfold pOne
            rw [if_neg (fun y => y.elim (fun y => n2 (tkC_two.mp y)) (fun y => z (tkC_name.mp y).1)), if_neg n45, if_neg n40]) m' 0 F B), fun z => ?_⟩⟩
          refine h_nameM hT hb z (fun k1 k7 => ?_) (fun hn m' B F => ?_)
          · rintro x rfl
            refine ⟨fun y => absurd hb y, fun _ => ?_⟩
            have hlt : p < n := (tkM_one z).1
            refine h_nextM hT hb ho hlt (by rw [z]; decide) (fun m' T' b' o' F' => h1 (nx b n p) [vlC b n p] (by unfold pOne; rw [if_pos (Or.inr (tkC_name.mpr ⟨z, k1, k7⟩))]) m' _ F' T' b' o' (fun env he => ?_))
            rw [(leaf_name z k1 k7).2 env, he _ (by omega)]
          · rintro x rfl
            refine ⟨fun _ => h0 p ?_ m' 0 F B, fun y => absurd y (by rw [B.1]; decide)⟩
            unfold pOne
            rw [if_neg (fun y => y.elim (fun y => n2 (tkC_two.mp y)) (fun y => hn (tkC_name.mp y).2)), if_neg n45, if_neg n40]
        exact word
      rw [hT.2.2.1]
      refine ⟨fun z => absurd hb z, fun _ => ⟨fun z => num z, fun z => ?_⟩⟩
      rintro y rfl
      have hc := tkC_two.mpr z
      refine h_nextM hT hb ho (lt_of_tk hc (by decide)) (by rw [z]; decide) (fun m' T' b' o' F' => h1 (nx b n p) [vlC b n p] (by unfold pOne; rw [if_pos (Or.inl hc)]) m' _ F' T' b' o' (fun env he => ?_))
      rw [(leaf_num z).2 env, i64_32, hT.2.2.2.2.1 z]
theorem ml_term3 {b : By} {n t : Nat} {sub : Pf} {Q : Int32 → Sg → Prop} (hs : MSp b n t 3 vv_X8_atom3 sub) (hok : okF n sub) (hW : okW sub) : ∀ (f : Nat) (m : Sg) (p : Nat) (c : List Int32) (v : Int32), n - p ≤ f → TkM m b n t p → m 0 25 = 0 → m 0 24 = nI 3 → WF c → (∀ env : Nat → Int32, (∀ k, k < 6 → env k = envM m k) → v = val env c) →
    (∀ q, pLoop b n sub opMul f p c = (q, none) → ∀ m' v, FrM m m' → BdM m' q → Q v m') → (∀ q c', pLoop b n sub opMul f p c = (q, some c') → ∀ m' v, FrM m m' → TkM m' b n t q → m' 0 25 = 0 → m' 0 24 = nI 3 → (∀ env : Nat → Int32, (∀ k, k < 6 → env k = envM m k) → v = val env c') → Q v m') → vv_X8_term3_L5 Q (f + 1) v m := by
  intro f
  induction f with
  | zero =>
    intro m p c v hf hT hb ho hc hv h0 h1
    have hp : n ≤ p := by omega
    unfold vv_X8_term3_L5
    refine h_isSignM hT hb (by decide) (fun e => absurd (lt_of_tk e (by decide)) (by omega)) (fun _ => ⟨fun _ => h1 p c rfl m v (FrM.rf m) hT hb ho hv, fun z => absurd rfl z⟩)
  | succ f ih =>
    intro m p c v hf hT hb ho hc hv h0 h1
    unfold vv_X8_term3_L5
    refine h_isSignM hT hb (by decide) (fun e42 => ⟨fun z => absurd z (by decide), fun _ => ?_⟩) (fun n42 => ⟨fun _ => ?_, fun z => absurd rfl z⟩)
    · have hlt := lt_of_tk e42 (by decide)
      have hnx := nx_gt (b := b) hlt
      have step : pLoop b n sub opMul (f + 1) p c = (match sub (nx b n p) with | (q, none) => (q, none) | (q, some c') => pLoop b n sub opMul f q (c ++ c' ++ [20006])) := by
        simp only [pLoop, show opMul (tkC b n p) = 20006 by rw [e42]; rfl]
        rw [if_neg (by decide)]; rfl
      have hk := hok (nx b n p) hnx.2
      refine h_nextM hT hb ho hlt (sg_ne4 e42 (by decide)) (fun m1 T1 b1 o1 F1 => hs m1 _ _ T1 b1 o1 (fun q e m2 v2 F2 B2 => ?_) (fun q c2 e m2 v2 F2 T2 b2 o2 hv2 => ?_))
      · rintro y rfl
        rw [e] at step
        have M0 : vv_X8_term3_L5 Q (f + 1) (v * v2) m2 := by
          unfold vv_X8_term3_L5
          exact h_isSignB B2.1 ⟨fun _ => h0 q step m2 _ (F1.tr F2) B2, fun z => absurd rfl z⟩
        exact M0
      · rintro y rfl
        rw [e] at step hk
        have a1 := hk.1
        dsimp only at a1
        have W2 := hW _ _ _ e
        have WB := WF_bin (op := 20006) hc W2 (by decide)
        exact ih m2 q _ _ (by omega) T2 b2 o2 WB.1 (fun env he => by
          have he2 := fun k hk => (he k hk).trans ((F1.tr F2).env hk)
          rw [WB.2 env, ← hv env he2, ← hv2 env (agE F1 he2)]; rfl) (fun q' e' m' v' F B => h0 q' (step.trans e') m' v' ((F1.tr F2).tr F) B) (fun q' c' e' m' v' F T b' o' hv' => h1 q' c' (step.trans e') m' v' ((F1.tr F2).tr F) T b' o' (fun env he => hv' env (agE (F1.tr F2) he)))
    · have step : pLoop b n sub opMul (f + 1) p c = (p, some c) := by
        simp only [pLoop, show opMul (tkC b n p) = 0 by unfold opMul; rw [if_neg n42]]; rfl
      exact h1 p c step m v (FrM.rf m) hT hb ho hv
theorem ms_term3 {b : By} {n t : Nat} {sub : Pf} (hn : n ≤ 160) (hs : MSp b n t 3 vv_X8_atom3 sub) (hok : okF n sub) (hW : okW sub) : MSp b n t 3 vv_X8_term3 (pSeq b n sub opMul) := by
  intro m p Q hT hb ho h0 h1
  unfold vv_X8_term3
  refine hs m p _ hT hb ho (fun q e m2 v F2 B2 => ?_) (fun q c e m2 v F2 T2 b2 o2 hv => ?_)
  · rintro y rfl
    refine ⟨1, ?_⟩
    unfold vv_X8_term3_L5
    exact h_isSignB B2.1 ⟨fun _ => h0 q (by unfold pSeq; rw [e]) m2 _ F2 B2, fun z => absurd rfl z⟩
  · rintro y rfl
    have es : pSeq b n sub opMul p = pLoop b n sub opMul 160 q c := by unfold pSeq; rw [e]
    exact ⟨161, ml_term3 hs hok hW 160 m2 q c y (by omega) T2 b2 o2 (hW _ _ _ e) (fun env he => hv env (fun k hk => (he k hk).trans (F2.env hk))) (fun q' e' m' v' F B => h0 q' (es.trans e') m' v' (F2.tr F) B) (fun q' c' e' m' v' F T b' o' hv' => h1 q' c' (es.trans e') m' v' (F2.tr F) T b' o' (fun env he => hv' env (agE F2 he)))⟩
theorem ml_both3 {b : By} {n t : Nat} {sub : Pf} {Q : Int32 → Sg → Prop} (hs : MSp b n t 3 vv_X8_not3 sub) (hok : okF n sub) (hW : okW sub) : ∀ (f : Nat) (m : Sg) (p : Nat) (c : List Int32) (v : Int32), n - p ≤ f → TkM m b n t p → m 0 25 = 0 → m 0 24 = nI 3 → WF c → (∀ env : Nat → Int32, (∀ k, k < 6 → env k = envM m k) → v = val env c) →
    (∀ q, pLoop b n sub opAnd f p c = (q, none) → ∀ m' v, FrM m m' → BdM m' q → Q v m') → (∀ q c', pLoop b n sub opAnd f p c = (q, some c') → ∀ m' v, FrM m m' → TkM m' b n t q → m' 0 25 = 0 → m' 0 24 = nI 3 → (∀ env : Nat → Int32, (∀ k, k < 6 → env k = envM m k) → v = val env c') → Q v m') → vv_X8_both3_L5 Q (f + 1) v m := by
  intro f
  induction f with
  | zero =>
    intro m p c v hf hT hb ho hc hv h0 h1
    have hp : n ≤ p := by omega
    unfold vv_X8_both3_L5
    refine h_isWordM (w := 11) hT hb (by decide) (by decide) (fun e _ => absurd (tkM_one e).1 (by omega)) (fun _ => ⟨fun _ => h1 p c rfl m v (FrM.rf m) hT hb ho hv, fun z => absurd rfl z⟩)
  | succ f ih =>
    intro m p c v hf hT hb ho hc hv h0 h1
    unfold vv_X8_both3_L5
    refine h_isWordM (w := 11) hT hb (by decide) (by decide) (fun em ew => ⟨fun z => absurd z (by decide), fun _ => ?_⟩) (fun nw => ⟨fun _ => ?_, fun z => absurd rfl z⟩)
    · have et : tkC b n p = 8 := (tkC_key (k := 11) (by decide) (by decide)).mpr ⟨em, ew⟩
      have hlt := (tkM_one em).1
      have hnx := nx_gt (b := b) hlt
      have step : pLoop b n sub opAnd (f + 1) p c = (match sub (nx b n p) with | (q, none) => (q, none) | (q, some c') => pLoop b n sub opAnd f q (c ++ c' ++ [20001])) := by
        simp only [pLoop, show opAnd (tkC b n p) = 20001 by rw [et]; rfl]
        rw [if_neg (by decide)]; rfl
      have hk := hok (nx b n p) hnx.2
      refine h_nextM hT hb ho hlt (by rw [em]; decide) (fun m1 T1 b1 o1 F1 => hs m1 _ _ T1 b1 o1 (fun q e m2 v2 F2 B2 => ?_) (fun q c2 e m2 v2 F2 T2 b2 o2 hv2 => ?_))
      · rintro x2 rfl
        rw [e] at step
        have GO : ∀ y, vv_X8_both3_L5 Q (f + 1) y m2 := fun y => by
          unfold vv_X8_both3_L5
          exact h_isWordB B2.1 ⟨fun _ => h0 q step m2 _ (F1.tr F2) B2, fun z => absurd rfl z⟩
        refine ⟨fun z => ?_, fun z => ⟨fun z2 => ?_, fun z2 => ?_⟩⟩
        · unfold vv_X8_both3_J44 vv_X8_both3_J45
          rintro y rfl
          exact GO _
        · unfold vv_X8_both3_J44 vv_X8_both3_J45
          rintro y rfl
          exact GO _
        · unfold vv_X8_both3_J45
          rintro y rfl
          exact GO _
      · rintro x2 rfl
        rw [e] at step hk
        have a1 := hk.1
        dsimp only at a1
        have W2 := hW _ _ _ e
        have WB := WF_bin (op := 20001) hc W2 (by decide)
        have GO : vv_X8_both3_L5 Q (f + 1) (jn 20001 v x2) m2 := ih m2 q _ _ (by omega) T2 b2 o2 WB.1 (fun env he => by
          have he2 := fun k hk => (he k hk).trans ((F1.tr F2).env hk)
          rw [WB.2 env, ← hv env he2, ← hv2 env (agE F1 he2)]) (fun q' e' m' v' F B => h0 q' (step.trans e') m' v' ((F1.tr F2).tr F) B) (fun q' c' e' m' v' F T b' o' hv' => h1 q' c' (step.trans e') m' v' ((F1.tr F2).tr F) T b' o' (fun env he => hv' env (agE (F1.tr F2) he)))
        have jv : jn 20001 v x2 = (if v = 0 ∨ x2 = 0 then 0 else 1) := rfl
        refine ⟨fun z => ?_, fun z => ⟨fun z2 => ?_, fun z2 => ?_⟩⟩
        · unfold vv_X8_both3_J44 vv_X8_both3_J45
          rintro y rfl
          rw [if_pos (Or.inl z)] at jv; rw [← jv]; exact GO
        · unfold vv_X8_both3_J44 vv_X8_both3_J45
          rintro y rfl
          rw [if_pos (Or.inr z2)] at jv; rw [← jv]; exact GO
        · unfold vv_X8_both3_J45
          rintro y rfl
          rw [if_neg (fun q => q.elim z z2)] at jv; rw [← jv]; exact GO
    · have step : pLoop b n sub opAnd (f + 1) p c = (p, some c) := by
        simp only [pLoop, show opAnd (tkC b n p) = 0 by unfold opAnd; rw [if_neg (show ¬ tkC b n p = 8 from fun z => nw ((tkC_key (k := 11) (by decide) (by decide)).mp z))]]; rfl
      exact h1 p c step m v (FrM.rf m) hT hb ho hv
theorem ms_both3 {b : By} {n t : Nat} {sub : Pf} (hn : n ≤ 160) (hs : MSp b n t 3 vv_X8_not3 sub) (hok : okF n sub) (hW : okW sub) : MSp b n t 3 vv_X8_both3 (pSeq b n sub opAnd) := by
  intro m p Q hT hb ho h0 h1
  unfold vv_X8_both3
  refine hs m p _ hT hb ho (fun q e m2 v F2 B2 => ?_) (fun q c e m2 v F2 T2 b2 o2 hv => ?_)
  · rintro y rfl
    refine ⟨1, ?_⟩
    unfold vv_X8_both3_L5
    exact h_isWordB B2.1 ⟨fun _ => h0 q (by unfold pSeq; rw [e]) m2 _ F2 B2, fun z => absurd rfl z⟩
  · rintro y rfl
    have es : pSeq b n sub opAnd p = pLoop b n sub opAnd 160 q c := by unfold pSeq; rw [e]
    exact ⟨161, ml_both3 hs hok hW 160 m2 q c y (by omega) T2 b2 o2 (hW _ _ _ e) (fun env he => hv env (fun k hk => (he k hk).trans (F2.env hk))) (fun q' e' m' v' F B => h0 q' (es.trans e') m' v' (F2.tr F) B) (fun q' c' e' m' v' F T b' o' hv' => h1 q' c' (es.trans e') m' v' (F2.tr F) T b' o' (fun env he => hv' env (agE F2 he)))⟩
theorem ml_either3 {b : By} {n t : Nat} {sub : Pf} {Q : Int32 → Sg → Prop} (hs : MSp b n t 3 vv_X8_both3 sub) (hok : okF n sub) (hW : okW sub) : ∀ (f : Nat) (m : Sg) (p : Nat) (c : List Int32) (v : Int32), n - p ≤ f → TkM m b n t p → m 0 25 = 0 → m 0 24 = nI 3 → WF c → (∀ env : Nat → Int32, (∀ k, k < 6 → env k = envM m k) → v = val env c) →
    (∀ q, pLoop b n sub opOr f p c = (q, none) → ∀ m' v, FrM m m' → BdM m' q → Q v m') → (∀ q c', pLoop b n sub opOr f p c = (q, some c') → ∀ m' v, FrM m m' → TkM m' b n t q → m' 0 25 = 0 → m' 0 24 = nI 3 → (∀ env : Nat → Int32, (∀ k, k < 6 → env k = envM m k) → v = val env c') → Q v m') → vv_X8_either3_L5 Q (f + 1) v m := by
  intro f
  induction f with
  | zero =>
    intro m p c v hf hT hb ho hc hv h0 h1
    have hp : n ≤ p := by omega
    unfold vv_X8_either3_L5
    refine h_isWordM (w := 10) hT hb (by decide) (by decide) (fun e _ => absurd (tkM_one e).1 (by omega)) (fun _ => ⟨fun _ => h1 p c rfl m v (FrM.rf m) hT hb ho hv, fun z => absurd rfl z⟩)
  | succ f ih =>
    intro m p c v hf hT hb ho hc hv h0 h1
    unfold vv_X8_either3_L5
    refine h_isWordM (w := 10) hT hb (by decide) (by decide) (fun em ew => ⟨fun z => absurd z (by decide), fun _ => ?_⟩) (fun nw => ⟨fun _ => ?_, fun z => absurd rfl z⟩)
    · have et : tkC b n p = 7 := (tkC_key (k := 10) (by decide) (by decide)).mpr ⟨em, ew⟩
      have hlt := (tkM_one em).1
      have hnx := nx_gt (b := b) hlt
      have step : pLoop b n sub opOr (f + 1) p c = (match sub (nx b n p) with | (q, none) => (q, none) | (q, some c') => pLoop b n sub opOr f q (c ++ c' ++ [20000])) := by
        simp only [pLoop, show opOr (tkC b n p) = 20000 by rw [et]; rfl]
        rw [if_neg (by decide)]; rfl
      have hk := hok (nx b n p) hnx.2
      refine h_nextM hT hb ho hlt (by rw [em]; decide) (fun m1 T1 b1 o1 F1 => hs m1 _ _ T1 b1 o1 (fun q e m2 v2 F2 B2 => ?_) (fun q c2 e m2 v2 F2 T2 b2 o2 hv2 => ?_))
      · rintro x2 rfl
        rw [e] at step
        have GO : ∀ y, vv_X8_either3_L5 Q (f + 1) y m2 := fun y => by
          unfold vv_X8_either3_L5
          exact h_isWordB B2.1 ⟨fun _ => h0 q step m2 _ (F1.tr F2) B2, fun z => absurd rfl z⟩
        refine ⟨fun z => ?_, fun z => ⟨fun z2 => ?_, fun z2 => ?_⟩⟩
        · unfold vv_X8_either3_J39 vv_X8_either3_J44
          rintro y rfl
          exact GO _
        · unfold vv_X8_either3_J44
          rintro y rfl
          exact GO _
        · unfold vv_X8_either3_J39 vv_X8_either3_J44
          rintro y rfl
          exact GO _
      · rintro x2 rfl
        rw [e] at step hk
        have a1 := hk.1
        dsimp only at a1
        have W2 := hW _ _ _ e
        have WB := WF_bin (op := 20000) hc W2 (by decide)
        have GO : vv_X8_either3_L5 Q (f + 1) (jn 20000 v x2) m2 := ih m2 q _ _ (by omega) T2 b2 o2 WB.1 (fun env he => by
          have he2 := fun k hk => (he k hk).trans ((F1.tr F2).env hk)
          rw [WB.2 env, ← hv env he2, ← hv2 env (agE F1 he2)]) (fun q' e' m' v' F B => h0 q' (step.trans e') m' v' ((F1.tr F2).tr F) B) (fun q' c' e' m' v' F T b' o' hv' => h1 q' c' (step.trans e') m' v' ((F1.tr F2).tr F) T b' o' (fun env he => hv' env (agE (F1.tr F2) he)))
        have jv : jn 20000 v x2 = (if v = 0 ∧ x2 = 0 then 0 else 1) := rfl
        refine ⟨fun z => ?_, fun z => ⟨fun z2 => ?_, fun z2 => ?_⟩⟩
        · unfold vv_X8_either3_J39 vv_X8_either3_J44
          rintro y rfl
          rw [if_neg (fun q => z q.1)] at jv; rw [← jv]; exact GO
        · unfold vv_X8_either3_J44
          rintro y rfl
          rw [if_pos ⟨z, z2⟩] at jv; rw [← jv]; exact GO
        · unfold vv_X8_either3_J39 vv_X8_either3_J44
          rintro y rfl
          rw [if_neg (fun q => z2 q.2)] at jv; rw [← jv]; exact GO
    · have step : pLoop b n sub opOr (f + 1) p c = (p, some c) := by
        simp only [pLoop, show opOr (tkC b n p) = 0 by unfold opOr; rw [if_neg (show ¬ tkC b n p = 7 from fun z => nw ((tkC_key (k := 10) (by decide) (by decide)).mp z))]]; rfl
      exact h1 p c step m v (FrM.rf m) hT hb ho hv
theorem ms_either3 {b : By} {n t : Nat} {sub : Pf} (hn : n ≤ 160) (hs : MSp b n t 3 vv_X8_both3 sub) (hok : okF n sub) (hW : okW sub) : MSp b n t 3 vv_X8_either3 (pSeq b n sub opOr) := by
  intro m p Q hT hb ho h0 h1
  unfold vv_X8_either3
  refine hs m p _ hT hb ho (fun q e m2 v F2 B2 => ?_) (fun q c e m2 v F2 T2 b2 o2 hv => ?_)
  · rintro y rfl
    refine ⟨1, ?_⟩
    unfold vv_X8_either3_L5
    exact h_isWordB B2.1 ⟨fun _ => h0 q (by unfold pSeq; rw [e]) m2 _ F2 B2, fun z => absurd rfl z⟩
  · rintro y rfl
    have es : pSeq b n sub opOr p = pLoop b n sub opOr 160 q c := by unfold pSeq; rw [e]
    exact ⟨161, ml_either3 hs hok hW 160 m2 q c y (by omega) T2 b2 o2 (hW _ _ _ e) (fun env he => hv env (fun k hk => (he k hk).trans (F2.env hk))) (fun q' e' m' v' F B => h0 q' (es.trans e') m' v' (F2.tr F) B) (fun q' c' e' m' v' F T b' o' hv' => h1 q' c' (es.trans e') m' v' (F2.tr F) T b' o' (fun env he => hv' env (agE F2 he)))⟩
theorem ml_added3 {b : By} {n t : Nat} {sub : Pf} {Q : Int32 → Sg → Prop} (hs : MSp b n t 3 vv_X8_term3 sub) (hok : okF n sub) (hW : okW sub) : ∀ (f : Nat) (m : Sg) (p : Nat) (c : List Int32) (v : Int32), n - p ≤ f → TkM m b n t p → m 0 25 = 0 → m 0 24 = nI 3 → WF c → (∀ env : Nat → Int32, (∀ k, k < 6 → env k = envM m k) → v = val env c) →
    (∀ q, pLoop b n sub opAdd f p c = (q, none) → ∀ m' v, FrM m m' → BdM m' q → Q v m') → (∀ q c', pLoop b n sub opAdd f p c = (q, some c') → ∀ m' v, FrM m m' → TkM m' b n t q → m' 0 25 = 0 → m' 0 24 = nI 3 → (∀ env : Nat → Int32, (∀ k, k < 6 → env k = envM m k) → v = val env c') → Q v m') → vv_X8_added3_L5 Q (f + 1) v m := by
  have stop : ∀ (f : Nat) (m : Sg) (v : Int32) (q : Nat), BdM m q → Q v m → vv_X8_added3_L5 Q (f + 1) v m := fun f m v q B hq => by
    unfold vv_X8_added3_L5
    exact h_isSignB B.1 ⟨fun z => absurd rfl z, fun _ => h_isSignB B.1 ⟨fun _ => hq, fun z => absurd rfl z⟩⟩
  intro f
  induction f with
  | zero =>
    intro m p c v hf hT hb ho hc hv h0 h1
    have hp : n ≤ p := by omega
    unfold vv_X8_added3_L5
    refine h_isSignM hT hb (by decide) (fun e => absurd (lt_of_tk e (by decide)) (by omega)) (fun _ => ⟨fun z => absurd rfl z, fun _ => ?_⟩)
    refine h_isSignM hT hb (by decide) (fun e => absurd (lt_of_tk e (by decide)) (by omega)) (fun _ => ⟨fun _ => h1 p c rfl m v (FrM.rf m) hT hb ho hv, fun z => absurd rfl z⟩)
  | succ f ih =>
    intro m p c v hf hT hb ho hc hv h0 h1
    have body : ∀ (op s : Int32), tkC b n p = s → isSg s = true → ¬ s = 0 → opAdd s = op → ¬ op = 0 → (¬ op < 20000 ∧ ¬ op = 20007 ∧ ¬ op = 20008) → (s = 43 → ∀ x y, jn op x y = x + y) → (¬ s = 43 → ∀ x y, jn op x y = x - y) → vv_X8_added3_J23 (vv_X8_added3_L5 Q (f + 1)) v m Q := by
      intro op s es hsg hs0 eop hop hop2 jp jm
      have hlt := lt_of_tk es hs0
      have hnx := nx_gt (b := b) hlt
      have e23 : m 0 23 = s := by
        have := (tkC_sign hsg).mp es
        rw [hT.2.2.2.2.2.1 this.1, this.2]
      have step : pLoop b n sub opAdd (f + 1) p c = (match sub (nx b n p) with | (q, none) => (q, none) | (q, some c') => pLoop b n sub opAdd f q (c ++ c' ++ [op])) := by
        simp only [pLoop, show opAdd (tkC b n p) = op by rw [es, eop]]
        rw [if_neg hop]; rfl
      have hk := hok (nx b n p) hnx.2
      have J39 : ∀ x2 : Int32, (x2 = 0 ↔ ¬ s = 43) → vv_X8_added3_J39 (vv_X8_added3_L5 Q (f + 1)) v x2 m Q := by
        intro x2 hx2
        unfold vv_X8_added3_J39
        rintro y rfl
        refine h_nextM hT hb ho hlt (sg_ne4 es hsg) (fun m1 T1 b1 o1 F1 => hs m1 _ _ T1 b1 o1 (fun q e m2 v2 F2 B2 => ?_) (fun q c2 e m2 v2 F2 T2 b2 o2 hv2 => ?_))
        · rintro x3 rfl
          rw [e] at step
          unfold vv_X8_added3_J62
          exact ⟨fun _ => by rintro z rfl; exact stop f m2 _ q B2 (h0 q step m2 _ (F1.tr F2) B2), fun _ => by rintro z rfl; exact stop f m2 _ q B2 (h0 q step m2 _ (F1.tr F2) B2)⟩
        · rintro x3 rfl
          rw [e] at step hk
          have a1 := hk.1
          dsimp only at a1
          have W2 := hW _ _ _ e
          have WB := WF_bin (op := op) hc W2 hop2
          have GO : vv_X8_added3_L5 Q (f + 1) (jn op v x3) m2 := ih m2 q _ _ (by omega) T2 b2 o2 WB.1 (fun env he => by
            have he2 := fun k hk => (he k hk).trans ((F1.tr F2).env hk)
            rw [WB.2 env, ← hv env he2, ← hv2 env (agE F1 he2)]) (fun q' e' m' v' F B => h0 q' (step.trans e') m' v' ((F1.tr F2).tr F) B) (fun q' c' e' m' v' F T b' o' hv' => h1 q' c' (step.trans e') m' v' ((F1.tr F2).tr F) T b' o' (fun env he => hv' env (agE (F1.tr F2) he)))
          unfold vv_X8_added3_J62
          refine ⟨fun z => ?_, fun z => ?_⟩
          · rintro w rfl
            rw [← jm (hx2.mp z)]; exact GO
          · rintro w rfl
            have : s = 43 := by
              rcases Classical.em (s = 43) with q | q
              · exact q
              · exact absurd (hx2.mpr q) z
            rw [← jp this]; exact GO
      unfold vv_X8_added3_J23
      rw [e23, lg_cmp_eq]
      refine ⟨fun z => J39 0 ⟨fun _ q => z (by rw [q]; rfl), fun _ => rfl⟩, fun z => J39 1 ⟨fun q => absurd q (by decide), fun q => absurd ((i64_eq s 43).mp z) q⟩⟩
    unfold vv_X8_added3_L5
    refine h_isSignM hT hb (by decide) (fun e43 => ⟨fun _ => body 20004 43 e43 (by decide) (by decide) rfl (by decide) (by decide) (fun _ _ _ => rfl) (fun z => absurd rfl z), fun z => absurd z (by decide)⟩) (fun n43 => ⟨fun z => absurd rfl z, fun _ => ?_⟩)
    refine h_isSignM hT hb (by decide) (fun e45 => ⟨fun z => absurd z (by decide), fun _ => body 20005 45 e45 (by decide) (by decide) rfl (by decide) (by decide) (fun z => absurd z (by decide)) (fun _ _ _ => rfl)⟩) (fun n45 => ⟨fun _ => ?_, fun z => absurd rfl z⟩)
    have step : pLoop b n sub opAdd (f + 1) p c = (p, some c) := by
      simp only [pLoop, show opAdd (tkC b n p) = 0 by unfold opAdd; rw [if_neg n43, if_neg n45]]; rfl
    exact h1 p c step m v (FrM.rf m) hT hb ho hv
theorem ms_added3 {b : By} {n t : Nat} {sub : Pf} (hn : n ≤ 160) (hs : MSp b n t 3 vv_X8_term3 sub) (hok : okF n sub) (hW : okW sub) : MSp b n t 3 vv_X8_added3 (pSeq b n sub opAdd) := by
  intro m p Q hT hb ho h0 h1
  unfold vv_X8_added3
  refine hs m p _ hT hb ho (fun q e m2 v F2 B2 => ?_) (fun q c e m2 v F2 T2 b2 o2 hv => ?_)
  · rintro y rfl
    refine ⟨1, ?_⟩
    unfold vv_X8_added3_L5
    exact h_isSignB B2.1 ⟨fun z => absurd rfl z, fun _ => h_isSignB B2.1 ⟨fun _ => h0 q (by unfold pSeq; rw [e]) m2 _ F2 B2, fun z => absurd rfl z⟩⟩
  · rintro y rfl
    have es : pSeq b n sub opAdd p = pLoop b n sub opAdd 160 q c := by unfold pSeq; rw [e]
    exact ⟨161, ml_added3 hs hok hW 160 m2 q c y (by omega) T2 b2 o2 (hW _ _ _ e) (fun env he => hv env (fun k hk => (he k hk).trans (F2.env hk))) (fun q' e' m' v' F B => h0 q' (es.trans e') m' v' (F2.tr F) B) (fun q' c' e' m' v' F T b' o' hv' => h1 q' c' (es.trans e') m' v' (F2.tr F) T b' o' (fun env he => hv' env (agE F2 he)))⟩
theorem ms_not3 {b : By} {n t : Nat} {lo : Nat → Pf} {sum : Pf} (hs : MSp b n t 3 vv_X8_added3 sum) (hW : okW sum) (l2 : MSp b n t 4 vv_X8_not4 (lo 2)) (pW : ∀ i, okW (lo i)) : MSp b n t 3 vv_X8_not3 (pNot b n 2 lo sum) := by
  intro m p Q hT hb ho h0 h1
  unfold vv_X8_not3
  refine h_isWordM (w := 12) hT hb (by decide) (by decide) (fun em ew => ⟨fun z => absurd z (by decide), fun _ => ?_⟩) (fun nw => ⟨fun _ => ?_, fun z => absurd rfl z⟩)
  · have et : tkC b n p = 9 := (tkC_key (k := 12) (by decide) (by decide)).mpr ⟨em, ew⟩
    have eN : pNot b n 2 lo sum p = (match lo 2 (nx b n p) with | (q, none) => (q, none) | (q, some c) => (q, some (c ++ [20007]))) := by
      unfold pNot; rw [if_pos et, if_neg (by decide)]; rfl
    refine h_opensM hT hb ho (by decide) (tkM_one em).1 (by rw [em]; decide) (fun z => absurd z (by decide)) (fun _ m1 T1 b1 o1 F1 => ⟨fun _ => l2 m1 _ _ T1 b1 o1 (fun q e m2 v F2 B2 => ?_) (fun q c e m2 v F2 T2 b2 o2 hv => ?_), fun z => absurd z (by decide)⟩)
    · rintro y rfl m3 rfl
      have F3 := (F1.tr F2).tr (FrM.put m2 (j := 24) (by decide) (m2 0 24 - 1))
      exact ⟨fun _ => h0 q (by rw [eN, e]) _ _ F3 (B2.st24 _), fun _ => h0 q (by rw [eN, e]) _ _ F3 (B2.st24 _)⟩
    · rintro y rfl m3 rfl
      have F3 := (F1.tr F2).tr (FrM.put m2 (j := 24) (by decide) (m2 0 24 - 1))
      have W := pW 2 _ _ _ e
      have fin : ∀ r : Int32, r = (if y = 0 then 1 else 0) → Q r (st m2 0 24 (m2 0 24 - 1)) := fun r hr => h1 q _ (by rw [eN, e]) _ r F3 (T2.st24 (by decide) _) (by rw [st_off _ (by decide)]; exact b2) (by rw [st_on, o2]; rfl) (fun env he => by
        rw [(WF_not W).2 env, ← hv env (agE F1 he), hr])
      exact ⟨fun z => fin 0 (by rw [if_neg z]), fun z => fin 1 (by rw [if_pos z])⟩
  · have nt : ¬ tkC b n p = 9 := fun z => nw ((tkC_key (k := 12) (by decide) (by decide)).mp z)
    have eN : pNot b n 2 lo sum p = (match sum p with | (q, none) => (q, none) | (q, some c) => if opCmp (tkC b n q) = 0 then (q, some c) else match sum (nx b n q) with | (r, none) => (r, none) | (r, some c') => (r, some (c ++ c' ++ [opCmp (tkC b n q)]))) := by
      unfold pNot; rw [if_neg nt]; rfl
    refine hs m p _ hT hb ho (fun q e m2 v F2 B2 => ?_) (fun q c e m2 v F2 T2 b2 o2 hv => ?_)
    · rintro y rfl
      exact h_isSignB B2.1 ⟨fun z => absurd rfl z, fun _ => h_isSignB B2.1 ⟨fun z => absurd rfl z, fun _ => h0 q (by rw [eN, e]) m2 _ F2 B2⟩⟩
    · rintro y rfl
      rw [e] at eN
      dsimp only at eN
      have W := hW _ _ _ e
      have body : ∀ (op s : Int32), tkC b n q = s → isSg s = true → ¬ s = 0 → opCmp s = op → ¬ op = 0 → (¬ op < 20000 ∧ ¬ op = 20007 ∧ ¬ op = 20008) → (s = 60 → ∀ x z : Int32, jn op x z = if z ≤ x then 0 else 1) → (¬ s = 60 → ∀ x z : Int32, jn op x z = if x = z then 1 else 0) → vv_X8_not3_J77 y m2 Q := by
        intro op s es hsg hs0 eop hop hop2 jl je
        have hlt := lt_of_tk es hs0
        rw [es, eop, if_neg hop] at eN
        have e23 : m2 0 23 = s := by
          have := (tkC_sign hsg).mp es
          rw [T2.2.2.2.2.2.1 this.1, this.2]
        have J66 : ∀ x2 : Int32, (x2 = 0 ↔ ¬ s = 60) → vv_X8_not3_J93 y x2 m2 Q := by
          intro x2 hx2
          unfold vv_X8_not3_J93 vv_X8_not3_J120
          rintro x rfl
          refine h_nextM T2 b2 o2 hlt (sg_ne4 es hsg) (fun m3 T3 b3 o3 F3 => hs m3 _ _ T3 b3 o3 (fun r e3 m4 v4 F4 B4 => ?_) (fun r c4 e3 m4 v4 F4 T4 b4 o4 hv4 => ?_))
          · rintro x3 rfl
            rw [e3] at eN
            have fin : ∀ u, Q u m4 := fun u => h0 r eN m4 u ((F2.tr F3).tr F4) B4
            exact ⟨fun _ => ⟨fun _ => fin _, fun _ => fin _⟩, fun _ => ⟨fun _ => fin _, fun _ => fin _⟩⟩
          · rintro x3 rfl
            rw [e3] at eN
            have W4 := hW _ _ _ e3
            have WB := WF_bin (op := op) W W4 hop2
            have fin : ∀ u, u = jn op y x3 → Q u m4 := fun u hu => h1 r _ eN m4 u ((F2.tr F3).tr F4) T4 b4 o4 (fun env he => by
              rw [WB.2 env, ← hv env he, ← hv4 env (agE (F2.tr F3) he), hu])
            refine ⟨fun z => ⟨fun z2 => ?_, fun z2 => ?_⟩, fun z => ⟨fun z2 => ?_, fun z2 => ?_⟩⟩
            · exact fin 0 (by rw [je (hx2.mp z), if_neg z2])
            · exact fin 1 (by rw [je (hx2.mp z), if_pos z2])
            · have e60 : s = 60 := by
                rcases Classical.em (s = 60) with a | a
                · exact a
                · exact absurd (hx2.mpr a) z
              exact fin 0 (by rw [jl e60, if_pos z2])
            · have e60 : s = 60 := by
                rcases Classical.em (s = 60) with a | a
                · exact a
                · exact absurd (hx2.mpr a) z
              exact fin 1 (by rw [jl e60, if_neg z2])
        unfold vv_X8_not3_J77
        rw [e23, lg_cmp_eq]
        exact ⟨fun z => J66 0 ⟨fun _ a => z (by rw [a]; rfl), fun _ => rfl⟩, fun z => J66 1 ⟨fun a => absurd a (by decide), fun a => absurd ((i64_eq s 60).mp z) a⟩⟩
      refine h_isSignM T2 b2 (by decide) (fun e60 => ⟨fun _ => body 20002 60 e60 (by decide) (by decide) rfl (by decide) (by decide) (fun _ _ _ => rfl) (fun z => absurd rfl z), fun z => absurd z (by decide)⟩) (fun n60 => ⟨fun z => absurd rfl z, fun _ => ?_⟩)
      refine h_isSignM T2 b2 (by decide) (fun e61 => ⟨fun _ => body 20003 61 e61 (by decide) (by decide) rfl (by decide) (by decide) (fun z => absurd z (by decide)) (fun _ _ _ => rfl), fun z => absurd z (by decide)⟩) (fun n61 => ⟨fun z => absurd rfl z, fun _ => ?_⟩)
      rw [if_pos (by unfold opCmp; rw [if_neg n60, if_neg n61])] at eN
      exact h1 q c eN m2 _ F2 T2 b2 o2 hv
theorem ms_atom2 {b : By} {n t : Nat} {lo : Nat → Pf} (l5 : MSp b n t 3 vv_X8_atom3 (lo 5)) (l0 : MSp b n t 3 vv_X8_either3 (lo 0)) (pW : ∀ i, okW (lo i)) : MSp b n t 2 vv_X8_atom2 (pOne b n 3 lo) := by
  intro m p Q hT hb ho h0 h1
  unfold vv_X8_atom2
  rintro x rfl
  refine h_isSignM hT hb (by decide) (fun e45 => ⟨fun z => absurd z (by decide), fun _ => ?_⟩) (fun n45 => ⟨fun _ => ?_, fun z => absurd rfl z⟩)
  · have hlt := lt_of_tk e45 (by decide)
    have eO : pOne b n 3 lo p = (match lo 5 (nx b n p) with | (q, none) => (q, none) | (q, some c) => (q, some (c ++ [20008]))) := by
      unfold pOne; rw [if_neg (by rw [e45]; decide), if_pos e45, if_neg (by decide)]; rfl
    refine h_opensM hT hb ho (by decide) hlt (sg_ne4 e45 (by decide)) (fun z => absurd z (by decide)) (fun _ m1 T1 b1 o1 F1 => ⟨fun z => absurd z (by decide), fun _ => l5 m1 _ _ T1 b1 o1 (fun q e m2 v F2 B2 => ?_) (fun q c e m2 v F2 T2 b2 o2 hv => ?_)⟩)
    · rintro y rfl m3 rfl
      exact h0 q (by rw [eO, e]) _ _ ((F1.tr F2).tr (FrM.put _ (by decide) _)) (B2.st24 _)
    · rintro y rfl m3 rfl
      have W := pW 5 _ _ _ e
      refine h1 q _ (by rw [eO, e]) _ _ ((F1.tr F2).tr (FrM.put _ (by decide) _)) (T2.st24 (by decide) _) (by rw [st_off _ (by decide)]; exact b2) (by rw [st_on, o2]; rfl) (fun env he => ?_)
      rw [(WF_neg W).2 env, hv env (agE F1 he)]
  · refine h_isSignM hT hb (by decide) (fun e40 => ⟨fun z => absurd z (by decide), fun _ => ?_⟩) (fun n40 => ⟨fun _ => ?_, fun z => absurd rfl z⟩)
    · have hlt := lt_of_tk e40 (by decide)
      have eO : pOne b n 3 lo p = (match lo 0 (nx b n p) with | (q, none) => (q, none) | (q, some c) => if tkC b n q = 41 then (nx b n q, some c) else (q, none)) := by
        unfold pOne; rw [if_neg (by rw [e40]; decide), if_neg (by rw [e40]; decide), if_pos e40, if_neg (by decide)]; rfl
      refine h_opensM hT hb ho (by decide) hlt (sg_ne4 e40 (by decide)) (fun z => absurd z (by decide)) (fun _ m1 T1 b1 o1 F1 => ⟨fun z => absurd z (by decide), fun _ => l0 m1 _ _ T1 b1 o1 (fun q e m2 v F2 B2 => ?_) (fun q c e m2 v F2 T2 b2 o2 hv => ?_)⟩)
      · rintro y rfl
        refine h_isSignB B2.1 ⟨fun z => absurd rfl z, fun _ => h_failB B2 ?_⟩
        unfold vv_X8_atom2_J71
        rintro m3 rfl
        have B3 := B2.st24 (m2 0 24 - 1)
        exact ⟨fun _ => h0 q (by rw [eO, e]) _ _ ((F1.tr F2).tr (FrM.put _ (by decide) _)) B3, fun z => absurd z (by rw [B3.1]; decide)⟩
      · rintro y rfl
        rw [e] at eO
        dsimp only at eO
        refine h_isSignM T2 b2 (by decide) (fun e41 => ⟨fun _ => ?_, fun z => absurd z (by decide)⟩) (fun n41 => ⟨fun z => absurd rfl z, fun _ => ?_⟩)
        · rw [if_pos e41] at eO
          have hlt2 := lt_of_tk e41 (by decide)
          unfold vv_X8_atom2_J71
          rintro m3 rfl
          have b3 : (st m2 0 24 (m2 0 24 - 1)) 0 25 = 0 := by rw [st_off _ (by decide)]; exact b2
          refine ⟨fun z => absurd b3 z, fun _ => h_nextM (L := 2) (T2.st24 (by decide) _) b3 (by rw [st_on, o2]; rfl) hlt2 (sg_ne4 e41 (by decide)) (fun m4 T4 b4 o4 F4 => ?_)⟩
          exact h1 _ _ eO m4 _ (((F1.tr F2).tr (FrM.put _ (by decide) _)).tr F4) T4 b4 o4 (fun env he => hv env (agE F1 he))
        · rw [if_neg n41] at eO
          refine h_fail T2 b2 (fun m3 B3 F3 => ?_)
          unfold vv_X8_atom2_J71
          rintro m4 rfl
          have B4 := B3.st24 (m3 0 24 - 1)
          exact ⟨fun _ => h0 q eO _ _ (((F1.tr F2).tr F3).tr (FrM.put _ (by decide) _)) B4, fun z => absurd z (by rw [B4.1]; decide)⟩
    · have num : ¬ tkM b n p = 2 → vv_X8_atom2_J123 0 m Q := fun n2 => by
        have word : vv_X8_atom2_J123 0 m Q := by
          unfold vv_X8_atom2_J123 vv_X8_atom2_J157
          rw [hT.2.2.1]
          refine ⟨fun z => absurd hb z, fun _ => ⟨fun z => h_fail hT hb (fun m' B F => h0 p (by
            unfold pOne
            rw [if_neg (fun y => y.elim (fun y => n2 (tkC_two.mp y)) (fun y => z (tkC_name.mp y).1)), if_neg n45, if_neg n40]) m' 0 F B), fun z => ?_⟩⟩
          refine h_nameM hT hb z (fun k1 k7 => ?_) (fun hn m' B F => ?_)
          · rintro x rfl
            refine ⟨fun y => absurd hb y, fun _ => ?_⟩
            have hlt : p < n := (tkM_one z).1
            refine h_nextM hT hb ho hlt (by rw [z]; decide) (fun m' T' b' o' F' => h1 (nx b n p) [vlC b n p] (by unfold pOne; rw [if_pos (Or.inr (tkC_name.mpr ⟨z, k1, k7⟩))]) m' _ F' T' b' o' (fun env he => ?_))
            rw [(leaf_name z k1 k7).2 env, he _ (by omega)]
          · rintro x rfl
            refine ⟨fun _ => h0 p ?_ m' 0 F B, fun y => absurd y (by rw [B.1]; decide)⟩
            unfold pOne
            rw [if_neg (fun y => y.elim (fun y => n2 (tkC_two.mp y)) (fun y => hn (tkC_name.mp y).2)), if_neg n45, if_neg n40]
        exact word
      rw [hT.2.2.1]
      refine ⟨fun z => absurd hb z, fun _ => ⟨fun z => num z, fun z => ?_⟩⟩
      rintro y rfl
      have hc := tkC_two.mpr z
      refine h_nextM hT hb ho (lt_of_tk hc (by decide)) (by rw [z]; decide) (fun m' T' b' o' F' => h1 (nx b n p) [vlC b n p] (by unfold pOne; rw [if_pos (Or.inl hc)]) m' _ F' T' b' o' (fun env he => ?_))
      rw [(leaf_num z).2 env, i64_32, hT.2.2.2.2.1 z]
theorem ml_term2 {b : By} {n t : Nat} {sub : Pf} {Q : Int32 → Sg → Prop} (hs : MSp b n t 2 vv_X8_atom2 sub) (hok : okF n sub) (hW : okW sub) : ∀ (f : Nat) (m : Sg) (p : Nat) (c : List Int32) (v : Int32), n - p ≤ f → TkM m b n t p → m 0 25 = 0 → m 0 24 = nI 2 → WF c → (∀ env : Nat → Int32, (∀ k, k < 6 → env k = envM m k) → v = val env c) →
    (∀ q, pLoop b n sub opMul f p c = (q, none) → ∀ m' v, FrM m m' → BdM m' q → Q v m') → (∀ q c', pLoop b n sub opMul f p c = (q, some c') → ∀ m' v, FrM m m' → TkM m' b n t q → m' 0 25 = 0 → m' 0 24 = nI 2 → (∀ env : Nat → Int32, (∀ k, k < 6 → env k = envM m k) → v = val env c') → Q v m') → vv_X8_term2_L5 Q (f + 1) v m := by
  intro f
  induction f with
  | zero =>
    intro m p c v hf hT hb ho hc hv h0 h1
    have hp : n ≤ p := by omega
    unfold vv_X8_term2_L5
    refine h_isSignM hT hb (by decide) (fun e => absurd (lt_of_tk e (by decide)) (by omega)) (fun _ => ⟨fun _ => h1 p c rfl m v (FrM.rf m) hT hb ho hv, fun z => absurd rfl z⟩)
  | succ f ih =>
    intro m p c v hf hT hb ho hc hv h0 h1
    unfold vv_X8_term2_L5
    refine h_isSignM hT hb (by decide) (fun e42 => ⟨fun z => absurd z (by decide), fun _ => ?_⟩) (fun n42 => ⟨fun _ => ?_, fun z => absurd rfl z⟩)
    · have hlt := lt_of_tk e42 (by decide)
      have hnx := nx_gt (b := b) hlt
      have step : pLoop b n sub opMul (f + 1) p c = (match sub (nx b n p) with | (q, none) => (q, none) | (q, some c') => pLoop b n sub opMul f q (c ++ c' ++ [20006])) := by
        simp only [pLoop, show opMul (tkC b n p) = 20006 by rw [e42]; rfl]
        rw [if_neg (by decide)]; rfl
      have hk := hok (nx b n p) hnx.2
      refine h_nextM hT hb ho hlt (sg_ne4 e42 (by decide)) (fun m1 T1 b1 o1 F1 => hs m1 _ _ T1 b1 o1 (fun q e m2 v2 F2 B2 => ?_) (fun q c2 e m2 v2 F2 T2 b2 o2 hv2 => ?_))
      · rintro y rfl
        rw [e] at step
        have M0 : vv_X8_term2_L5 Q (f + 1) (v * v2) m2 := by
          unfold vv_X8_term2_L5
          exact h_isSignB B2.1 ⟨fun _ => h0 q step m2 _ (F1.tr F2) B2, fun z => absurd rfl z⟩
        exact M0
      · rintro y rfl
        rw [e] at step hk
        have a1 := hk.1
        dsimp only at a1
        have W2 := hW _ _ _ e
        have WB := WF_bin (op := 20006) hc W2 (by decide)
        exact ih m2 q _ _ (by omega) T2 b2 o2 WB.1 (fun env he => by
          have he2 := fun k hk => (he k hk).trans ((F1.tr F2).env hk)
          rw [WB.2 env, ← hv env he2, ← hv2 env (agE F1 he2)]; rfl) (fun q' e' m' v' F B => h0 q' (step.trans e') m' v' ((F1.tr F2).tr F) B) (fun q' c' e' m' v' F T b' o' hv' => h1 q' c' (step.trans e') m' v' ((F1.tr F2).tr F) T b' o' (fun env he => hv' env (agE (F1.tr F2) he)))
    · have step : pLoop b n sub opMul (f + 1) p c = (p, some c) := by
        simp only [pLoop, show opMul (tkC b n p) = 0 by unfold opMul; rw [if_neg n42]]; rfl
      exact h1 p c step m v (FrM.rf m) hT hb ho hv
theorem ms_term2 {b : By} {n t : Nat} {sub : Pf} (hn : n ≤ 160) (hs : MSp b n t 2 vv_X8_atom2 sub) (hok : okF n sub) (hW : okW sub) : MSp b n t 2 vv_X8_term2 (pSeq b n sub opMul) := by
  intro m p Q hT hb ho h0 h1
  unfold vv_X8_term2
  refine hs m p _ hT hb ho (fun q e m2 v F2 B2 => ?_) (fun q c e m2 v F2 T2 b2 o2 hv => ?_)
  · rintro y rfl
    refine ⟨1, ?_⟩
    unfold vv_X8_term2_L5
    exact h_isSignB B2.1 ⟨fun _ => h0 q (by unfold pSeq; rw [e]) m2 _ F2 B2, fun z => absurd rfl z⟩
  · rintro y rfl
    have es : pSeq b n sub opMul p = pLoop b n sub opMul 160 q c := by unfold pSeq; rw [e]
    exact ⟨161, ml_term2 hs hok hW 160 m2 q c y (by omega) T2 b2 o2 (hW _ _ _ e) (fun env he => hv env (fun k hk => (he k hk).trans (F2.env hk))) (fun q' e' m' v' F B => h0 q' (es.trans e') m' v' (F2.tr F) B) (fun q' c' e' m' v' F T b' o' hv' => h1 q' c' (es.trans e') m' v' (F2.tr F) T b' o' (fun env he => hv' env (agE F2 he)))⟩
theorem ml_both2 {b : By} {n t : Nat} {sub : Pf} {Q : Int32 → Sg → Prop} (hs : MSp b n t 2 vv_X8_not2 sub) (hok : okF n sub) (hW : okW sub) : ∀ (f : Nat) (m : Sg) (p : Nat) (c : List Int32) (v : Int32), n - p ≤ f → TkM m b n t p → m 0 25 = 0 → m 0 24 = nI 2 → WF c → (∀ env : Nat → Int32, (∀ k, k < 6 → env k = envM m k) → v = val env c) →
    (∀ q, pLoop b n sub opAnd f p c = (q, none) → ∀ m' v, FrM m m' → BdM m' q → Q v m') → (∀ q c', pLoop b n sub opAnd f p c = (q, some c') → ∀ m' v, FrM m m' → TkM m' b n t q → m' 0 25 = 0 → m' 0 24 = nI 2 → (∀ env : Nat → Int32, (∀ k, k < 6 → env k = envM m k) → v = val env c') → Q v m') → vv_X8_both2_L5 Q (f + 1) v m := by
  intro f
  induction f with
  | zero =>
    intro m p c v hf hT hb ho hc hv h0 h1
    have hp : n ≤ p := by omega
    unfold vv_X8_both2_L5
    refine h_isWordM (w := 11) hT hb (by decide) (by decide) (fun e _ => absurd (tkM_one e).1 (by omega)) (fun _ => ⟨fun _ => h1 p c rfl m v (FrM.rf m) hT hb ho hv, fun z => absurd rfl z⟩)
  | succ f ih =>
    intro m p c v hf hT hb ho hc hv h0 h1
    unfold vv_X8_both2_L5
    refine h_isWordM (w := 11) hT hb (by decide) (by decide) (fun em ew => ⟨fun z => absurd z (by decide), fun _ => ?_⟩) (fun nw => ⟨fun _ => ?_, fun z => absurd rfl z⟩)
    · have et : tkC b n p = 8 := (tkC_key (k := 11) (by decide) (by decide)).mpr ⟨em, ew⟩
      have hlt := (tkM_one em).1
      have hnx := nx_gt (b := b) hlt
      have step : pLoop b n sub opAnd (f + 1) p c = (match sub (nx b n p) with | (q, none) => (q, none) | (q, some c') => pLoop b n sub opAnd f q (c ++ c' ++ [20001])) := by
        simp only [pLoop, show opAnd (tkC b n p) = 20001 by rw [et]; rfl]
        rw [if_neg (by decide)]; rfl
      have hk := hok (nx b n p) hnx.2
      refine h_nextM hT hb ho hlt (by rw [em]; decide) (fun m1 T1 b1 o1 F1 => hs m1 _ _ T1 b1 o1 (fun q e m2 v2 F2 B2 => ?_) (fun q c2 e m2 v2 F2 T2 b2 o2 hv2 => ?_))
      · rintro x2 rfl
        rw [e] at step
        have GO : ∀ y, vv_X8_both2_L5 Q (f + 1) y m2 := fun y => by
          unfold vv_X8_both2_L5
          exact h_isWordB B2.1 ⟨fun _ => h0 q step m2 _ (F1.tr F2) B2, fun z => absurd rfl z⟩
        refine ⟨fun z => ?_, fun z => ⟨fun z2 => ?_, fun z2 => ?_⟩⟩
        · unfold vv_X8_both2_J44 vv_X8_both2_J45
          rintro y rfl
          exact GO _
        · unfold vv_X8_both2_J44 vv_X8_both2_J45
          rintro y rfl
          exact GO _
        · unfold vv_X8_both2_J45
          rintro y rfl
          exact GO _
      · rintro x2 rfl
        rw [e] at step hk
        have a1 := hk.1
        dsimp only at a1
        have W2 := hW _ _ _ e
        have WB := WF_bin (op := 20001) hc W2 (by decide)
        have GO : vv_X8_both2_L5 Q (f + 1) (jn 20001 v x2) m2 := ih m2 q _ _ (by omega) T2 b2 o2 WB.1 (fun env he => by
          have he2 := fun k hk => (he k hk).trans ((F1.tr F2).env hk)
          rw [WB.2 env, ← hv env he2, ← hv2 env (agE F1 he2)]) (fun q' e' m' v' F B => h0 q' (step.trans e') m' v' ((F1.tr F2).tr F) B) (fun q' c' e' m' v' F T b' o' hv' => h1 q' c' (step.trans e') m' v' ((F1.tr F2).tr F) T b' o' (fun env he => hv' env (agE (F1.tr F2) he)))
        have jv : jn 20001 v x2 = (if v = 0 ∨ x2 = 0 then 0 else 1) := rfl
        refine ⟨fun z => ?_, fun z => ⟨fun z2 => ?_, fun z2 => ?_⟩⟩
        · unfold vv_X8_both2_J44 vv_X8_both2_J45
          rintro y rfl
          rw [if_pos (Or.inl z)] at jv; rw [← jv]; exact GO
        · unfold vv_X8_both2_J44 vv_X8_both2_J45
          rintro y rfl
          rw [if_pos (Or.inr z2)] at jv; rw [← jv]; exact GO
        · unfold vv_X8_both2_J45
          rintro y rfl
          rw [if_neg (fun q => q.elim z z2)] at jv; rw [← jv]; exact GO
    · have step : pLoop b n sub opAnd (f + 1) p c = (p, some c) := by
        simp only [pLoop, show opAnd (tkC b n p) = 0 by unfold opAnd; rw [if_neg (show ¬ tkC b n p = 8 from fun z => nw ((tkC_key (k := 11) (by decide) (by decide)).mp z))]]; rfl
      exact h1 p c step m v (FrM.rf m) hT hb ho hv
theorem ms_both2 {b : By} {n t : Nat} {sub : Pf} (hn : n ≤ 160) (hs : MSp b n t 2 vv_X8_not2 sub) (hok : okF n sub) (hW : okW sub) : MSp b n t 2 vv_X8_both2 (pSeq b n sub opAnd) := by
  intro m p Q hT hb ho h0 h1
  unfold vv_X8_both2
  refine hs m p _ hT hb ho (fun q e m2 v F2 B2 => ?_) (fun q c e m2 v F2 T2 b2 o2 hv => ?_)
  · rintro y rfl
    refine ⟨1, ?_⟩
    unfold vv_X8_both2_L5
    exact h_isWordB B2.1 ⟨fun _ => h0 q (by unfold pSeq; rw [e]) m2 _ F2 B2, fun z => absurd rfl z⟩
  · rintro y rfl
    have es : pSeq b n sub opAnd p = pLoop b n sub opAnd 160 q c := by unfold pSeq; rw [e]
    exact ⟨161, ml_both2 hs hok hW 160 m2 q c y (by omega) T2 b2 o2 (hW _ _ _ e) (fun env he => hv env (fun k hk => (he k hk).trans (F2.env hk))) (fun q' e' m' v' F B => h0 q' (es.trans e') m' v' (F2.tr F) B) (fun q' c' e' m' v' F T b' o' hv' => h1 q' c' (es.trans e') m' v' (F2.tr F) T b' o' (fun env he => hv' env (agE F2 he)))⟩
theorem ml_either2 {b : By} {n t : Nat} {sub : Pf} {Q : Int32 → Sg → Prop} (hs : MSp b n t 2 vv_X8_both2 sub) (hok : okF n sub) (hW : okW sub) : ∀ (f : Nat) (m : Sg) (p : Nat) (c : List Int32) (v : Int32), n - p ≤ f → TkM m b n t p → m 0 25 = 0 → m 0 24 = nI 2 → WF c → (∀ env : Nat → Int32, (∀ k, k < 6 → env k = envM m k) → v = val env c) →
    (∀ q, pLoop b n sub opOr f p c = (q, none) → ∀ m' v, FrM m m' → BdM m' q → Q v m') → (∀ q c', pLoop b n sub opOr f p c = (q, some c') → ∀ m' v, FrM m m' → TkM m' b n t q → m' 0 25 = 0 → m' 0 24 = nI 2 → (∀ env : Nat → Int32, (∀ k, k < 6 → env k = envM m k) → v = val env c') → Q v m') → vv_X8_either2_L5 Q (f + 1) v m := by
  intro f
  induction f with
  | zero =>
    intro m p c v hf hT hb ho hc hv h0 h1
    have hp : n ≤ p := by omega
    unfold vv_X8_either2_L5
    refine h_isWordM (w := 10) hT hb (by decide) (by decide) (fun e _ => absurd (tkM_one e).1 (by omega)) (fun _ => ⟨fun _ => h1 p c rfl m v (FrM.rf m) hT hb ho hv, fun z => absurd rfl z⟩)
  | succ f ih =>
    intro m p c v hf hT hb ho hc hv h0 h1
    unfold vv_X8_either2_L5
    refine h_isWordM (w := 10) hT hb (by decide) (by decide) (fun em ew => ⟨fun z => absurd z (by decide), fun _ => ?_⟩) (fun nw => ⟨fun _ => ?_, fun z => absurd rfl z⟩)
    · have et : tkC b n p = 7 := (tkC_key (k := 10) (by decide) (by decide)).mpr ⟨em, ew⟩
      have hlt := (tkM_one em).1
      have hnx := nx_gt (b := b) hlt
      have step : pLoop b n sub opOr (f + 1) p c = (match sub (nx b n p) with | (q, none) => (q, none) | (q, some c') => pLoop b n sub opOr f q (c ++ c' ++ [20000])) := by
        simp only [pLoop, show opOr (tkC b n p) = 20000 by rw [et]; rfl]
        rw [if_neg (by decide)]; rfl
      have hk := hok (nx b n p) hnx.2
      refine h_nextM hT hb ho hlt (by rw [em]; decide) (fun m1 T1 b1 o1 F1 => hs m1 _ _ T1 b1 o1 (fun q e m2 v2 F2 B2 => ?_) (fun q c2 e m2 v2 F2 T2 b2 o2 hv2 => ?_))
      · rintro x2 rfl
        rw [e] at step
        have GO : ∀ y, vv_X8_either2_L5 Q (f + 1) y m2 := fun y => by
          unfold vv_X8_either2_L5
          exact h_isWordB B2.1 ⟨fun _ => h0 q step m2 _ (F1.tr F2) B2, fun z => absurd rfl z⟩
        refine ⟨fun z => ?_, fun z => ⟨fun z2 => ?_, fun z2 => ?_⟩⟩
        · unfold vv_X8_either2_J39 vv_X8_either2_J44
          rintro y rfl
          exact GO _
        · unfold vv_X8_either2_J44
          rintro y rfl
          exact GO _
        · unfold vv_X8_either2_J39 vv_X8_either2_J44
          rintro y rfl
          exact GO _
      · rintro x2 rfl
        rw [e] at step hk
        have a1 := hk.1
        dsimp only at a1
        have W2 := hW _ _ _ e
        have WB := WF_bin (op := 20000) hc W2 (by decide)
        have GO : vv_X8_either2_L5 Q (f + 1) (jn 20000 v x2) m2 := ih m2 q _ _ (by omega) T2 b2 o2 WB.1 (fun env he => by
          have he2 := fun k hk => (he k hk).trans ((F1.tr F2).env hk)
          rw [WB.2 env, ← hv env he2, ← hv2 env (agE F1 he2)]) (fun q' e' m' v' F B => h0 q' (step.trans e') m' v' ((F1.tr F2).tr F) B) (fun q' c' e' m' v' F T b' o' hv' => h1 q' c' (step.trans e') m' v' ((F1.tr F2).tr F) T b' o' (fun env he => hv' env (agE (F1.tr F2) he)))
        have jv : jn 20000 v x2 = (if v = 0 ∧ x2 = 0 then 0 else 1) := rfl
        refine ⟨fun z => ?_, fun z => ⟨fun z2 => ?_, fun z2 => ?_⟩⟩
        · unfold vv_X8_either2_J39 vv_X8_either2_J44
          rintro y rfl
          rw [if_neg (fun q => z q.1)] at jv; rw [← jv]; exact GO
        · unfold vv_X8_either2_J44
          rintro y rfl
          rw [if_pos ⟨z, z2⟩] at jv; rw [← jv]; exact GO
        · unfold vv_X8_either2_J39 vv_X8_either2_J44
          rintro y rfl
          rw [if_neg (fun q => z2 q.2)] at jv; rw [← jv]; exact GO
    · have step : pLoop b n sub opOr (f + 1) p c = (p, some c) := by
        simp only [pLoop, show opOr (tkC b n p) = 0 by unfold opOr; rw [if_neg (show ¬ tkC b n p = 7 from fun z => nw ((tkC_key (k := 10) (by decide) (by decide)).mp z))]]; rfl
      exact h1 p c step m v (FrM.rf m) hT hb ho hv
theorem ms_either2 {b : By} {n t : Nat} {sub : Pf} (hn : n ≤ 160) (hs : MSp b n t 2 vv_X8_both2 sub) (hok : okF n sub) (hW : okW sub) : MSp b n t 2 vv_X8_either2 (pSeq b n sub opOr) := by
  intro m p Q hT hb ho h0 h1
  unfold vv_X8_either2
  refine hs m p _ hT hb ho (fun q e m2 v F2 B2 => ?_) (fun q c e m2 v F2 T2 b2 o2 hv => ?_)
  · rintro y rfl
    refine ⟨1, ?_⟩
    unfold vv_X8_either2_L5
    exact h_isWordB B2.1 ⟨fun _ => h0 q (by unfold pSeq; rw [e]) m2 _ F2 B2, fun z => absurd rfl z⟩
  · rintro y rfl
    have es : pSeq b n sub opOr p = pLoop b n sub opOr 160 q c := by unfold pSeq; rw [e]
    exact ⟨161, ml_either2 hs hok hW 160 m2 q c y (by omega) T2 b2 o2 (hW _ _ _ e) (fun env he => hv env (fun k hk => (he k hk).trans (F2.env hk))) (fun q' e' m' v' F B => h0 q' (es.trans e') m' v' (F2.tr F) B) (fun q' c' e' m' v' F T b' o' hv' => h1 q' c' (es.trans e') m' v' (F2.tr F) T b' o' (fun env he => hv' env (agE F2 he)))⟩
theorem ml_added2 {b : By} {n t : Nat} {sub : Pf} {Q : Int32 → Sg → Prop} (hs : MSp b n t 2 vv_X8_term2 sub) (hok : okF n sub) (hW : okW sub) : ∀ (f : Nat) (m : Sg) (p : Nat) (c : List Int32) (v : Int32), n - p ≤ f → TkM m b n t p → m 0 25 = 0 → m 0 24 = nI 2 → WF c → (∀ env : Nat → Int32, (∀ k, k < 6 → env k = envM m k) → v = val env c) →
    (∀ q, pLoop b n sub opAdd f p c = (q, none) → ∀ m' v, FrM m m' → BdM m' q → Q v m') → (∀ q c', pLoop b n sub opAdd f p c = (q, some c') → ∀ m' v, FrM m m' → TkM m' b n t q → m' 0 25 = 0 → m' 0 24 = nI 2 → (∀ env : Nat → Int32, (∀ k, k < 6 → env k = envM m k) → v = val env c') → Q v m') → vv_X8_added2_L5 Q (f + 1) v m := by
  have stop : ∀ (f : Nat) (m : Sg) (v : Int32) (q : Nat), BdM m q → Q v m → vv_X8_added2_L5 Q (f + 1) v m := fun f m v q B hq => by
    unfold vv_X8_added2_L5
    exact h_isSignB B.1 ⟨fun z => absurd rfl z, fun _ => h_isSignB B.1 ⟨fun _ => hq, fun z => absurd rfl z⟩⟩
  intro f
  induction f with
  | zero =>
    intro m p c v hf hT hb ho hc hv h0 h1
    have hp : n ≤ p := by omega
    unfold vv_X8_added2_L5
    refine h_isSignM hT hb (by decide) (fun e => absurd (lt_of_tk e (by decide)) (by omega)) (fun _ => ⟨fun z => absurd rfl z, fun _ => ?_⟩)
    refine h_isSignM hT hb (by decide) (fun e => absurd (lt_of_tk e (by decide)) (by omega)) (fun _ => ⟨fun _ => h1 p c rfl m v (FrM.rf m) hT hb ho hv, fun z => absurd rfl z⟩)
  | succ f ih =>
    intro m p c v hf hT hb ho hc hv h0 h1
    have body : ∀ (op s : Int32), tkC b n p = s → isSg s = true → ¬ s = 0 → opAdd s = op → ¬ op = 0 → (¬ op < 20000 ∧ ¬ op = 20007 ∧ ¬ op = 20008) → (s = 43 → ∀ x y, jn op x y = x + y) → (¬ s = 43 → ∀ x y, jn op x y = x - y) → vv_X8_added2_J23 (vv_X8_added2_L5 Q (f + 1)) v m Q := by
      intro op s es hsg hs0 eop hop hop2 jp jm
      have hlt := lt_of_tk es hs0
      have hnx := nx_gt (b := b) hlt
      have e23 : m 0 23 = s := by
        have := (tkC_sign hsg).mp es
        rw [hT.2.2.2.2.2.1 this.1, this.2]
      have step : pLoop b n sub opAdd (f + 1) p c = (match sub (nx b n p) with | (q, none) => (q, none) | (q, some c') => pLoop b n sub opAdd f q (c ++ c' ++ [op])) := by
        simp only [pLoop, show opAdd (tkC b n p) = op by rw [es, eop]]
        rw [if_neg hop]; rfl
      have hk := hok (nx b n p) hnx.2
      have J39 : ∀ x2 : Int32, (x2 = 0 ↔ ¬ s = 43) → vv_X8_added2_J39 (vv_X8_added2_L5 Q (f + 1)) v x2 m Q := by
        intro x2 hx2
        unfold vv_X8_added2_J39
        rintro y rfl
        refine h_nextM hT hb ho hlt (sg_ne4 es hsg) (fun m1 T1 b1 o1 F1 => hs m1 _ _ T1 b1 o1 (fun q e m2 v2 F2 B2 => ?_) (fun q c2 e m2 v2 F2 T2 b2 o2 hv2 => ?_))
        · rintro x3 rfl
          rw [e] at step
          unfold vv_X8_added2_J62
          exact ⟨fun _ => by rintro z rfl; exact stop f m2 _ q B2 (h0 q step m2 _ (F1.tr F2) B2), fun _ => by rintro z rfl; exact stop f m2 _ q B2 (h0 q step m2 _ (F1.tr F2) B2)⟩
        · rintro x3 rfl
          rw [e] at step hk
          have a1 := hk.1
          dsimp only at a1
          have W2 := hW _ _ _ e
          have WB := WF_bin (op := op) hc W2 hop2
          have GO : vv_X8_added2_L5 Q (f + 1) (jn op v x3) m2 := ih m2 q _ _ (by omega) T2 b2 o2 WB.1 (fun env he => by
            have he2 := fun k hk => (he k hk).trans ((F1.tr F2).env hk)
            rw [WB.2 env, ← hv env he2, ← hv2 env (agE F1 he2)]) (fun q' e' m' v' F B => h0 q' (step.trans e') m' v' ((F1.tr F2).tr F) B) (fun q' c' e' m' v' F T b' o' hv' => h1 q' c' (step.trans e') m' v' ((F1.tr F2).tr F) T b' o' (fun env he => hv' env (agE (F1.tr F2) he)))
          unfold vv_X8_added2_J62
          refine ⟨fun z => ?_, fun z => ?_⟩
          · rintro w rfl
            rw [← jm (hx2.mp z)]; exact GO
          · rintro w rfl
            have : s = 43 := by
              rcases Classical.em (s = 43) with q | q
              · exact q
              · exact absurd (hx2.mpr q) z
            rw [← jp this]; exact GO
      unfold vv_X8_added2_J23
      rw [e23, lg_cmp_eq]
      refine ⟨fun z => J39 0 ⟨fun _ q => z (by rw [q]; rfl), fun _ => rfl⟩, fun z => J39 1 ⟨fun q => absurd q (by decide), fun q => absurd ((i64_eq s 43).mp z) q⟩⟩
    unfold vv_X8_added2_L5
    refine h_isSignM hT hb (by decide) (fun e43 => ⟨fun _ => body 20004 43 e43 (by decide) (by decide) rfl (by decide) (by decide) (fun _ _ _ => rfl) (fun z => absurd rfl z), fun z => absurd z (by decide)⟩) (fun n43 => ⟨fun z => absurd rfl z, fun _ => ?_⟩)
    refine h_isSignM hT hb (by decide) (fun e45 => ⟨fun z => absurd z (by decide), fun _ => body 20005 45 e45 (by decide) (by decide) rfl (by decide) (by decide) (fun z => absurd z (by decide)) (fun _ _ _ => rfl)⟩) (fun n45 => ⟨fun _ => ?_, fun z => absurd rfl z⟩)
    have step : pLoop b n sub opAdd (f + 1) p c = (p, some c) := by
      simp only [pLoop, show opAdd (tkC b n p) = 0 by unfold opAdd; rw [if_neg n43, if_neg n45]]; rfl
    exact h1 p c step m v (FrM.rf m) hT hb ho hv
theorem ms_added2 {b : By} {n t : Nat} {sub : Pf} (hn : n ≤ 160) (hs : MSp b n t 2 vv_X8_term2 sub) (hok : okF n sub) (hW : okW sub) : MSp b n t 2 vv_X8_added2 (pSeq b n sub opAdd) := by
  intro m p Q hT hb ho h0 h1
  unfold vv_X8_added2
  refine hs m p _ hT hb ho (fun q e m2 v F2 B2 => ?_) (fun q c e m2 v F2 T2 b2 o2 hv => ?_)
  · rintro y rfl
    refine ⟨1, ?_⟩
    unfold vv_X8_added2_L5
    exact h_isSignB B2.1 ⟨fun z => absurd rfl z, fun _ => h_isSignB B2.1 ⟨fun _ => h0 q (by unfold pSeq; rw [e]) m2 _ F2 B2, fun z => absurd rfl z⟩⟩
  · rintro y rfl
    have es : pSeq b n sub opAdd p = pLoop b n sub opAdd 160 q c := by unfold pSeq; rw [e]
    exact ⟨161, ml_added2 hs hok hW 160 m2 q c y (by omega) T2 b2 o2 (hW _ _ _ e) (fun env he => hv env (fun k hk => (he k hk).trans (F2.env hk))) (fun q' e' m' v' F B => h0 q' (es.trans e') m' v' (F2.tr F) B) (fun q' c' e' m' v' F T b' o' hv' => h1 q' c' (es.trans e') m' v' (F2.tr F) T b' o' (fun env he => hv' env (agE F2 he)))⟩
theorem ms_not2 {b : By} {n t : Nat} {lo : Nat → Pf} {sum : Pf} (hs : MSp b n t 2 vv_X8_added2 sum) (hW : okW sum) (l2 : MSp b n t 3 vv_X8_not3 (lo 2)) (pW : ∀ i, okW (lo i)) : MSp b n t 2 vv_X8_not2 (pNot b n 3 lo sum) := by
  intro m p Q hT hb ho h0 h1
  unfold vv_X8_not2
  refine h_isWordM (w := 12) hT hb (by decide) (by decide) (fun em ew => ⟨fun z => absurd z (by decide), fun _ => ?_⟩) (fun nw => ⟨fun _ => ?_, fun z => absurd rfl z⟩)
  · have et : tkC b n p = 9 := (tkC_key (k := 12) (by decide) (by decide)).mpr ⟨em, ew⟩
    have eN : pNot b n 3 lo sum p = (match lo 2 (nx b n p) with | (q, none) => (q, none) | (q, some c) => (q, some (c ++ [20007]))) := by
      unfold pNot; rw [if_pos et, if_neg (by decide)]; rfl
    refine h_opensM hT hb ho (by decide) (tkM_one em).1 (by rw [em]; decide) (fun z => absurd z (by decide)) (fun _ m1 T1 b1 o1 F1 => ⟨fun _ => l2 m1 _ _ T1 b1 o1 (fun q e m2 v F2 B2 => ?_) (fun q c e m2 v F2 T2 b2 o2 hv => ?_), fun z => absurd z (by decide)⟩)
    · rintro y rfl m3 rfl
      have F3 := (F1.tr F2).tr (FrM.put m2 (j := 24) (by decide) (m2 0 24 - 1))
      exact ⟨fun _ => h0 q (by rw [eN, e]) _ _ F3 (B2.st24 _), fun _ => h0 q (by rw [eN, e]) _ _ F3 (B2.st24 _)⟩
    · rintro y rfl m3 rfl
      have F3 := (F1.tr F2).tr (FrM.put m2 (j := 24) (by decide) (m2 0 24 - 1))
      have W := pW 2 _ _ _ e
      have fin : ∀ r : Int32, r = (if y = 0 then 1 else 0) → Q r (st m2 0 24 (m2 0 24 - 1)) := fun r hr => h1 q _ (by rw [eN, e]) _ r F3 (T2.st24 (by decide) _) (by rw [st_off _ (by decide)]; exact b2) (by rw [st_on, o2]; rfl) (fun env he => by
        rw [(WF_not W).2 env, ← hv env (agE F1 he), hr])
      exact ⟨fun z => fin 0 (by rw [if_neg z]), fun z => fin 1 (by rw [if_pos z])⟩
  · have nt : ¬ tkC b n p = 9 := fun z => nw ((tkC_key (k := 12) (by decide) (by decide)).mp z)
    have eN : pNot b n 3 lo sum p = (match sum p with | (q, none) => (q, none) | (q, some c) => if opCmp (tkC b n q) = 0 then (q, some c) else match sum (nx b n q) with | (r, none) => (r, none) | (r, some c') => (r, some (c ++ c' ++ [opCmp (tkC b n q)]))) := by
      unfold pNot; rw [if_neg nt]; rfl
    refine hs m p _ hT hb ho (fun q e m2 v F2 B2 => ?_) (fun q c e m2 v F2 T2 b2 o2 hv => ?_)
    · rintro y rfl
      exact h_isSignB B2.1 ⟨fun z => absurd rfl z, fun _ => h_isSignB B2.1 ⟨fun z => absurd rfl z, fun _ => h0 q (by rw [eN, e]) m2 _ F2 B2⟩⟩
    · rintro y rfl
      rw [e] at eN
      dsimp only at eN
      have W := hW _ _ _ e
      have body : ∀ (op s : Int32), tkC b n q = s → isSg s = true → ¬ s = 0 → opCmp s = op → ¬ op = 0 → (¬ op < 20000 ∧ ¬ op = 20007 ∧ ¬ op = 20008) → (s = 60 → ∀ x z : Int32, jn op x z = if z ≤ x then 0 else 1) → (¬ s = 60 → ∀ x z : Int32, jn op x z = if x = z then 1 else 0) → vv_X8_not2_J77 y m2 Q := by
        intro op s es hsg hs0 eop hop hop2 jl je
        have hlt := lt_of_tk es hs0
        rw [es, eop, if_neg hop] at eN
        have e23 : m2 0 23 = s := by
          have := (tkC_sign hsg).mp es
          rw [T2.2.2.2.2.2.1 this.1, this.2]
        have J66 : ∀ x2 : Int32, (x2 = 0 ↔ ¬ s = 60) → vv_X8_not2_J93 y x2 m2 Q := by
          intro x2 hx2
          unfold vv_X8_not2_J93 vv_X8_not2_J120
          rintro x rfl
          refine h_nextM T2 b2 o2 hlt (sg_ne4 es hsg) (fun m3 T3 b3 o3 F3 => hs m3 _ _ T3 b3 o3 (fun r e3 m4 v4 F4 B4 => ?_) (fun r c4 e3 m4 v4 F4 T4 b4 o4 hv4 => ?_))
          · rintro x3 rfl
            rw [e3] at eN
            have fin : ∀ u, Q u m4 := fun u => h0 r eN m4 u ((F2.tr F3).tr F4) B4
            exact ⟨fun _ => ⟨fun _ => fin _, fun _ => fin _⟩, fun _ => ⟨fun _ => fin _, fun _ => fin _⟩⟩
          · rintro x3 rfl
            rw [e3] at eN
            have W4 := hW _ _ _ e3
            have WB := WF_bin (op := op) W W4 hop2
            have fin : ∀ u, u = jn op y x3 → Q u m4 := fun u hu => h1 r _ eN m4 u ((F2.tr F3).tr F4) T4 b4 o4 (fun env he => by
              rw [WB.2 env, ← hv env he, ← hv4 env (agE (F2.tr F3) he), hu])
            refine ⟨fun z => ⟨fun z2 => ?_, fun z2 => ?_⟩, fun z => ⟨fun z2 => ?_, fun z2 => ?_⟩⟩
            · exact fin 0 (by rw [je (hx2.mp z), if_neg z2])
            · exact fin 1 (by rw [je (hx2.mp z), if_pos z2])
            · have e60 : s = 60 := by
                rcases Classical.em (s = 60) with a | a
                · exact a
                · exact absurd (hx2.mpr a) z
              exact fin 0 (by rw [jl e60, if_pos z2])
            · have e60 : s = 60 := by
                rcases Classical.em (s = 60) with a | a
                · exact a
                · exact absurd (hx2.mpr a) z
              exact fin 1 (by rw [jl e60, if_neg z2])
        unfold vv_X8_not2_J77
        rw [e23, lg_cmp_eq]
        exact ⟨fun z => J66 0 ⟨fun _ a => z (by rw [a]; rfl), fun _ => rfl⟩, fun z => J66 1 ⟨fun a => absurd a (by decide), fun a => absurd ((i64_eq s 60).mp z) a⟩⟩
      refine h_isSignM T2 b2 (by decide) (fun e60 => ⟨fun _ => body 20002 60 e60 (by decide) (by decide) rfl (by decide) (by decide) (fun _ _ _ => rfl) (fun z => absurd rfl z), fun z => absurd z (by decide)⟩) (fun n60 => ⟨fun z => absurd rfl z, fun _ => ?_⟩)
      refine h_isSignM T2 b2 (by decide) (fun e61 => ⟨fun _ => body 20003 61 e61 (by decide) (by decide) rfl (by decide) (by decide) (fun z => absurd z (by decide)) (fun _ _ _ => rfl), fun z => absurd z (by decide)⟩) (fun n61 => ⟨fun z => absurd rfl z, fun _ => ?_⟩)
      rw [if_pos (by unfold opCmp; rw [if_neg n60, if_neg n61])] at eN
      exact h1 q c eN m2 _ F2 T2 b2 o2 hv
theorem ms_atom1 {b : By} {n t : Nat} {lo : Nat → Pf} (l5 : MSp b n t 2 vv_X8_atom2 (lo 5)) (l0 : MSp b n t 2 vv_X8_either2 (lo 0)) (pW : ∀ i, okW (lo i)) : MSp b n t 1 vv_X8_atom1 (pOne b n 4 lo) := by
  intro m p Q hT hb ho h0 h1
  unfold vv_X8_atom1
  rintro x rfl
  refine h_isSignM hT hb (by decide) (fun e45 => ⟨fun z => absurd z (by decide), fun _ => ?_⟩) (fun n45 => ⟨fun _ => ?_, fun z => absurd rfl z⟩)
  · have hlt := lt_of_tk e45 (by decide)
    have eO : pOne b n 4 lo p = (match lo 5 (nx b n p) with | (q, none) => (q, none) | (q, some c) => (q, some (c ++ [20008]))) := by
      unfold pOne; rw [if_neg (by rw [e45]; decide), if_pos e45, if_neg (by decide)]; rfl
    refine h_opensM hT hb ho (by decide) hlt (sg_ne4 e45 (by decide)) (fun z => absurd z (by decide)) (fun _ m1 T1 b1 o1 F1 => ⟨fun z => absurd z (by decide), fun _ => l5 m1 _ _ T1 b1 o1 (fun q e m2 v F2 B2 => ?_) (fun q c e m2 v F2 T2 b2 o2 hv => ?_)⟩)
    · rintro y rfl m3 rfl
      exact h0 q (by rw [eO, e]) _ _ ((F1.tr F2).tr (FrM.put _ (by decide) _)) (B2.st24 _)
    · rintro y rfl m3 rfl
      have W := pW 5 _ _ _ e
      refine h1 q _ (by rw [eO, e]) _ _ ((F1.tr F2).tr (FrM.put _ (by decide) _)) (T2.st24 (by decide) _) (by rw [st_off _ (by decide)]; exact b2) (by rw [st_on, o2]; rfl) (fun env he => ?_)
      rw [(WF_neg W).2 env, hv env (agE F1 he)]
  · refine h_isSignM hT hb (by decide) (fun e40 => ⟨fun z => absurd z (by decide), fun _ => ?_⟩) (fun n40 => ⟨fun _ => ?_, fun z => absurd rfl z⟩)
    · have hlt := lt_of_tk e40 (by decide)
      have eO : pOne b n 4 lo p = (match lo 0 (nx b n p) with | (q, none) => (q, none) | (q, some c) => if tkC b n q = 41 then (nx b n q, some c) else (q, none)) := by
        unfold pOne; rw [if_neg (by rw [e40]; decide), if_neg (by rw [e40]; decide), if_pos e40, if_neg (by decide)]; rfl
      refine h_opensM hT hb ho (by decide) hlt (sg_ne4 e40 (by decide)) (fun z => absurd z (by decide)) (fun _ m1 T1 b1 o1 F1 => ⟨fun z => absurd z (by decide), fun _ => l0 m1 _ _ T1 b1 o1 (fun q e m2 v F2 B2 => ?_) (fun q c e m2 v F2 T2 b2 o2 hv => ?_)⟩)
      · rintro y rfl
        refine h_isSignB B2.1 ⟨fun z => absurd rfl z, fun _ => h_failB B2 ?_⟩
        unfold vv_X8_atom1_J71
        rintro m3 rfl
        have B3 := B2.st24 (m2 0 24 - 1)
        exact ⟨fun _ => h0 q (by rw [eO, e]) _ _ ((F1.tr F2).tr (FrM.put _ (by decide) _)) B3, fun z => absurd z (by rw [B3.1]; decide)⟩
      · rintro y rfl
        rw [e] at eO
        dsimp only at eO
        refine h_isSignM T2 b2 (by decide) (fun e41 => ⟨fun _ => ?_, fun z => absurd z (by decide)⟩) (fun n41 => ⟨fun z => absurd rfl z, fun _ => ?_⟩)
        · rw [if_pos e41] at eO
          have hlt2 := lt_of_tk e41 (by decide)
          unfold vv_X8_atom1_J71
          rintro m3 rfl
          have b3 : (st m2 0 24 (m2 0 24 - 1)) 0 25 = 0 := by rw [st_off _ (by decide)]; exact b2
          refine ⟨fun z => absurd b3 z, fun _ => h_nextM (L := 1) (T2.st24 (by decide) _) b3 (by rw [st_on, o2]; rfl) hlt2 (sg_ne4 e41 (by decide)) (fun m4 T4 b4 o4 F4 => ?_)⟩
          exact h1 _ _ eO m4 _ (((F1.tr F2).tr (FrM.put _ (by decide) _)).tr F4) T4 b4 o4 (fun env he => hv env (agE F1 he))
        · rw [if_neg n41] at eO
          refine h_fail T2 b2 (fun m3 B3 F3 => ?_)
          unfold vv_X8_atom1_J71
          rintro m4 rfl
          have B4 := B3.st24 (m3 0 24 - 1)
          exact ⟨fun _ => h0 q eO _ _ (((F1.tr F2).tr F3).tr (FrM.put _ (by decide) _)) B4, fun z => absurd z (by rw [B4.1]; decide)⟩
    · have num : ¬ tkM b n p = 2 → vv_X8_atom1_J123 0 m Q := fun n2 => by
        have word : vv_X8_atom1_J123 0 m Q := by
          unfold vv_X8_atom1_J123 vv_X8_atom1_J157
          rw [hT.2.2.1]
          refine ⟨fun z => absurd hb z, fun _ => ⟨fun z => h_fail hT hb (fun m' B F => h0 p (by
            unfold pOne
            rw [if_neg (fun y => y.elim (fun y => n2 (tkC_two.mp y)) (fun y => z (tkC_name.mp y).1)), if_neg n45, if_neg n40]) m' 0 F B), fun z => ?_⟩⟩
          refine h_nameM hT hb z (fun k1 k7 => ?_) (fun hn m' B F => ?_)
          · rintro x rfl
            refine ⟨fun y => absurd hb y, fun _ => ?_⟩
            have hlt : p < n := (tkM_one z).1
            refine h_nextM hT hb ho hlt (by rw [z]; decide) (fun m' T' b' o' F' => h1 (nx b n p) [vlC b n p] (by unfold pOne; rw [if_pos (Or.inr (tkC_name.mpr ⟨z, k1, k7⟩))]) m' _ F' T' b' o' (fun env he => ?_))
            rw [(leaf_name z k1 k7).2 env, he _ (by omega)]
          · rintro x rfl
            refine ⟨fun _ => h0 p ?_ m' 0 F B, fun y => absurd y (by rw [B.1]; decide)⟩
            unfold pOne
            rw [if_neg (fun y => y.elim (fun y => n2 (tkC_two.mp y)) (fun y => hn (tkC_name.mp y).2)), if_neg n45, if_neg n40]
        exact word
      rw [hT.2.2.1]
      refine ⟨fun z => absurd hb z, fun _ => ⟨fun z => num z, fun z => ?_⟩⟩
      rintro y rfl
      have hc := tkC_two.mpr z
      refine h_nextM hT hb ho (lt_of_tk hc (by decide)) (by rw [z]; decide) (fun m' T' b' o' F' => h1 (nx b n p) [vlC b n p] (by unfold pOne; rw [if_pos (Or.inl hc)]) m' _ F' T' b' o' (fun env he => ?_))
      rw [(leaf_num z).2 env, i64_32, hT.2.2.2.2.1 z]
theorem ml_term1 {b : By} {n t : Nat} {sub : Pf} {Q : Int32 → Sg → Prop} (hs : MSp b n t 1 vv_X8_atom1 sub) (hok : okF n sub) (hW : okW sub) : ∀ (f : Nat) (m : Sg) (p : Nat) (c : List Int32) (v : Int32), n - p ≤ f → TkM m b n t p → m 0 25 = 0 → m 0 24 = nI 1 → WF c → (∀ env : Nat → Int32, (∀ k, k < 6 → env k = envM m k) → v = val env c) →
    (∀ q, pLoop b n sub opMul f p c = (q, none) → ∀ m' v, FrM m m' → BdM m' q → Q v m') → (∀ q c', pLoop b n sub opMul f p c = (q, some c') → ∀ m' v, FrM m m' → TkM m' b n t q → m' 0 25 = 0 → m' 0 24 = nI 1 → (∀ env : Nat → Int32, (∀ k, k < 6 → env k = envM m k) → v = val env c') → Q v m') → vv_X8_term1_L5 Q (f + 1) v m := by
  intro f
  induction f with
  | zero =>
    intro m p c v hf hT hb ho hc hv h0 h1
    have hp : n ≤ p := by omega
    unfold vv_X8_term1_L5
    refine h_isSignM hT hb (by decide) (fun e => absurd (lt_of_tk e (by decide)) (by omega)) (fun _ => ⟨fun _ => h1 p c rfl m v (FrM.rf m) hT hb ho hv, fun z => absurd rfl z⟩)
  | succ f ih =>
    intro m p c v hf hT hb ho hc hv h0 h1
    unfold vv_X8_term1_L5
    refine h_isSignM hT hb (by decide) (fun e42 => ⟨fun z => absurd z (by decide), fun _ => ?_⟩) (fun n42 => ⟨fun _ => ?_, fun z => absurd rfl z⟩)
    · have hlt := lt_of_tk e42 (by decide)
      have hnx := nx_gt (b := b) hlt
      have step : pLoop b n sub opMul (f + 1) p c = (match sub (nx b n p) with | (q, none) => (q, none) | (q, some c') => pLoop b n sub opMul f q (c ++ c' ++ [20006])) := by
        simp only [pLoop, show opMul (tkC b n p) = 20006 by rw [e42]; rfl]
        rw [if_neg (by decide)]; rfl
      have hk := hok (nx b n p) hnx.2
      refine h_nextM hT hb ho hlt (sg_ne4 e42 (by decide)) (fun m1 T1 b1 o1 F1 => hs m1 _ _ T1 b1 o1 (fun q e m2 v2 F2 B2 => ?_) (fun q c2 e m2 v2 F2 T2 b2 o2 hv2 => ?_))
      · rintro y rfl
        rw [e] at step
        have M0 : vv_X8_term1_L5 Q (f + 1) (v * v2) m2 := by
          unfold vv_X8_term1_L5
          exact h_isSignB B2.1 ⟨fun _ => h0 q step m2 _ (F1.tr F2) B2, fun z => absurd rfl z⟩
        exact M0
      · rintro y rfl
        rw [e] at step hk
        have a1 := hk.1
        dsimp only at a1
        have W2 := hW _ _ _ e
        have WB := WF_bin (op := 20006) hc W2 (by decide)
        exact ih m2 q _ _ (by omega) T2 b2 o2 WB.1 (fun env he => by
          have he2 := fun k hk => (he k hk).trans ((F1.tr F2).env hk)
          rw [WB.2 env, ← hv env he2, ← hv2 env (agE F1 he2)]; rfl) (fun q' e' m' v' F B => h0 q' (step.trans e') m' v' ((F1.tr F2).tr F) B) (fun q' c' e' m' v' F T b' o' hv' => h1 q' c' (step.trans e') m' v' ((F1.tr F2).tr F) T b' o' (fun env he => hv' env (agE (F1.tr F2) he)))
    · have step : pLoop b n sub opMul (f + 1) p c = (p, some c) := by
        simp only [pLoop, show opMul (tkC b n p) = 0 by unfold opMul; rw [if_neg n42]]; rfl
      exact h1 p c step m v (FrM.rf m) hT hb ho hv
theorem ms_term1 {b : By} {n t : Nat} {sub : Pf} (hn : n ≤ 160) (hs : MSp b n t 1 vv_X8_atom1 sub) (hok : okF n sub) (hW : okW sub) : MSp b n t 1 vv_X8_term1 (pSeq b n sub opMul) := by
  intro m p Q hT hb ho h0 h1
  unfold vv_X8_term1
  refine hs m p _ hT hb ho (fun q e m2 v F2 B2 => ?_) (fun q c e m2 v F2 T2 b2 o2 hv => ?_)
  · rintro y rfl
    refine ⟨1, ?_⟩
    unfold vv_X8_term1_L5
    exact h_isSignB B2.1 ⟨fun _ => h0 q (by unfold pSeq; rw [e]) m2 _ F2 B2, fun z => absurd rfl z⟩
  · rintro y rfl
    have es : pSeq b n sub opMul p = pLoop b n sub opMul 160 q c := by unfold pSeq; rw [e]
    exact ⟨161, ml_term1 hs hok hW 160 m2 q c y (by omega) T2 b2 o2 (hW _ _ _ e) (fun env he => hv env (fun k hk => (he k hk).trans (F2.env hk))) (fun q' e' m' v' F B => h0 q' (es.trans e') m' v' (F2.tr F) B) (fun q' c' e' m' v' F T b' o' hv' => h1 q' c' (es.trans e') m' v' (F2.tr F) T b' o' (fun env he => hv' env (agE F2 he)))⟩
theorem ml_both1 {b : By} {n t : Nat} {sub : Pf} {Q : Int32 → Sg → Prop} (hs : MSp b n t 1 vv_X8_not1 sub) (hok : okF n sub) (hW : okW sub) : ∀ (f : Nat) (m : Sg) (p : Nat) (c : List Int32) (v : Int32), n - p ≤ f → TkM m b n t p → m 0 25 = 0 → m 0 24 = nI 1 → WF c → (∀ env : Nat → Int32, (∀ k, k < 6 → env k = envM m k) → v = val env c) →
    (∀ q, pLoop b n sub opAnd f p c = (q, none) → ∀ m' v, FrM m m' → BdM m' q → Q v m') → (∀ q c', pLoop b n sub opAnd f p c = (q, some c') → ∀ m' v, FrM m m' → TkM m' b n t q → m' 0 25 = 0 → m' 0 24 = nI 1 → (∀ env : Nat → Int32, (∀ k, k < 6 → env k = envM m k) → v = val env c') → Q v m') → vv_X8_both1_L5 Q (f + 1) v m := by
  intro f
  induction f with
  | zero =>
    intro m p c v hf hT hb ho hc hv h0 h1
    have hp : n ≤ p := by omega
    unfold vv_X8_both1_L5
    refine h_isWordM (w := 11) hT hb (by decide) (by decide) (fun e _ => absurd (tkM_one e).1 (by omega)) (fun _ => ⟨fun _ => h1 p c rfl m v (FrM.rf m) hT hb ho hv, fun z => absurd rfl z⟩)
  | succ f ih =>
    intro m p c v hf hT hb ho hc hv h0 h1
    unfold vv_X8_both1_L5
    refine h_isWordM (w := 11) hT hb (by decide) (by decide) (fun em ew => ⟨fun z => absurd z (by decide), fun _ => ?_⟩) (fun nw => ⟨fun _ => ?_, fun z => absurd rfl z⟩)
    · have et : tkC b n p = 8 := (tkC_key (k := 11) (by decide) (by decide)).mpr ⟨em, ew⟩
      have hlt := (tkM_one em).1
      have hnx := nx_gt (b := b) hlt
      have step : pLoop b n sub opAnd (f + 1) p c = (match sub (nx b n p) with | (q, none) => (q, none) | (q, some c') => pLoop b n sub opAnd f q (c ++ c' ++ [20001])) := by
        simp only [pLoop, show opAnd (tkC b n p) = 20001 by rw [et]; rfl]
        rw [if_neg (by decide)]; rfl
      have hk := hok (nx b n p) hnx.2
      refine h_nextM hT hb ho hlt (by rw [em]; decide) (fun m1 T1 b1 o1 F1 => hs m1 _ _ T1 b1 o1 (fun q e m2 v2 F2 B2 => ?_) (fun q c2 e m2 v2 F2 T2 b2 o2 hv2 => ?_))
      · rintro x2 rfl
        rw [e] at step
        have GO : ∀ y, vv_X8_both1_L5 Q (f + 1) y m2 := fun y => by
          unfold vv_X8_both1_L5
          exact h_isWordB B2.1 ⟨fun _ => h0 q step m2 _ (F1.tr F2) B2, fun z => absurd rfl z⟩
        refine ⟨fun z => ?_, fun z => ⟨fun z2 => ?_, fun z2 => ?_⟩⟩
        · unfold vv_X8_both1_J44 vv_X8_both1_J45
          rintro y rfl
          exact GO _
        · unfold vv_X8_both1_J44 vv_X8_both1_J45
          rintro y rfl
          exact GO _
        · unfold vv_X8_both1_J45
          rintro y rfl
          exact GO _
      · rintro x2 rfl
        rw [e] at step hk
        have a1 := hk.1
        dsimp only at a1
        have W2 := hW _ _ _ e
        have WB := WF_bin (op := 20001) hc W2 (by decide)
        have GO : vv_X8_both1_L5 Q (f + 1) (jn 20001 v x2) m2 := ih m2 q _ _ (by omega) T2 b2 o2 WB.1 (fun env he => by
          have he2 := fun k hk => (he k hk).trans ((F1.tr F2).env hk)
          rw [WB.2 env, ← hv env he2, ← hv2 env (agE F1 he2)]) (fun q' e' m' v' F B => h0 q' (step.trans e') m' v' ((F1.tr F2).tr F) B) (fun q' c' e' m' v' F T b' o' hv' => h1 q' c' (step.trans e') m' v' ((F1.tr F2).tr F) T b' o' (fun env he => hv' env (agE (F1.tr F2) he)))
        have jv : jn 20001 v x2 = (if v = 0 ∨ x2 = 0 then 0 else 1) := rfl
        refine ⟨fun z => ?_, fun z => ⟨fun z2 => ?_, fun z2 => ?_⟩⟩
        · unfold vv_X8_both1_J44 vv_X8_both1_J45
          rintro y rfl
          rw [if_pos (Or.inl z)] at jv; rw [← jv]; exact GO
        · unfold vv_X8_both1_J44 vv_X8_both1_J45
          rintro y rfl
          rw [if_pos (Or.inr z2)] at jv; rw [← jv]; exact GO
        · unfold vv_X8_both1_J45
          rintro y rfl
          rw [if_neg (fun q => q.elim z z2)] at jv; rw [← jv]; exact GO
    · have step : pLoop b n sub opAnd (f + 1) p c = (p, some c) := by
        simp only [pLoop, show opAnd (tkC b n p) = 0 by unfold opAnd; rw [if_neg (show ¬ tkC b n p = 8 from fun z => nw ((tkC_key (k := 11) (by decide) (by decide)).mp z))]]; rfl
      exact h1 p c step m v (FrM.rf m) hT hb ho hv
theorem ms_both1 {b : By} {n t : Nat} {sub : Pf} (hn : n ≤ 160) (hs : MSp b n t 1 vv_X8_not1 sub) (hok : okF n sub) (hW : okW sub) : MSp b n t 1 vv_X8_both1 (pSeq b n sub opAnd) := by
  intro m p Q hT hb ho h0 h1
  unfold vv_X8_both1
  refine hs m p _ hT hb ho (fun q e m2 v F2 B2 => ?_) (fun q c e m2 v F2 T2 b2 o2 hv => ?_)
  · rintro y rfl
    refine ⟨1, ?_⟩
    unfold vv_X8_both1_L5
    exact h_isWordB B2.1 ⟨fun _ => h0 q (by unfold pSeq; rw [e]) m2 _ F2 B2, fun z => absurd rfl z⟩
  · rintro y rfl
    have es : pSeq b n sub opAnd p = pLoop b n sub opAnd 160 q c := by unfold pSeq; rw [e]
    exact ⟨161, ml_both1 hs hok hW 160 m2 q c y (by omega) T2 b2 o2 (hW _ _ _ e) (fun env he => hv env (fun k hk => (he k hk).trans (F2.env hk))) (fun q' e' m' v' F B => h0 q' (es.trans e') m' v' (F2.tr F) B) (fun q' c' e' m' v' F T b' o' hv' => h1 q' c' (es.trans e') m' v' (F2.tr F) T b' o' (fun env he => hv' env (agE F2 he)))⟩
theorem ml_either1 {b : By} {n t : Nat} {sub : Pf} {Q : Int32 → Sg → Prop} (hs : MSp b n t 1 vv_X8_both1 sub) (hok : okF n sub) (hW : okW sub) : ∀ (f : Nat) (m : Sg) (p : Nat) (c : List Int32) (v : Int32), n - p ≤ f → TkM m b n t p → m 0 25 = 0 → m 0 24 = nI 1 → WF c → (∀ env : Nat → Int32, (∀ k, k < 6 → env k = envM m k) → v = val env c) →
    (∀ q, pLoop b n sub opOr f p c = (q, none) → ∀ m' v, FrM m m' → BdM m' q → Q v m') → (∀ q c', pLoop b n sub opOr f p c = (q, some c') → ∀ m' v, FrM m m' → TkM m' b n t q → m' 0 25 = 0 → m' 0 24 = nI 1 → (∀ env : Nat → Int32, (∀ k, k < 6 → env k = envM m k) → v = val env c') → Q v m') → vv_X8_either1_L5 Q (f + 1) v m := by
  intro f
  induction f with
  | zero =>
    intro m p c v hf hT hb ho hc hv h0 h1
    have hp : n ≤ p := by omega
    unfold vv_X8_either1_L5
    refine h_isWordM (w := 10) hT hb (by decide) (by decide) (fun e _ => absurd (tkM_one e).1 (by omega)) (fun _ => ⟨fun _ => h1 p c rfl m v (FrM.rf m) hT hb ho hv, fun z => absurd rfl z⟩)
  | succ f ih =>
    intro m p c v hf hT hb ho hc hv h0 h1
    unfold vv_X8_either1_L5
    refine h_isWordM (w := 10) hT hb (by decide) (by decide) (fun em ew => ⟨fun z => absurd z (by decide), fun _ => ?_⟩) (fun nw => ⟨fun _ => ?_, fun z => absurd rfl z⟩)
    · have et : tkC b n p = 7 := (tkC_key (k := 10) (by decide) (by decide)).mpr ⟨em, ew⟩
      have hlt := (tkM_one em).1
      have hnx := nx_gt (b := b) hlt
      have step : pLoop b n sub opOr (f + 1) p c = (match sub (nx b n p) with | (q, none) => (q, none) | (q, some c') => pLoop b n sub opOr f q (c ++ c' ++ [20000])) := by
        simp only [pLoop, show opOr (tkC b n p) = 20000 by rw [et]; rfl]
        rw [if_neg (by decide)]; rfl
      have hk := hok (nx b n p) hnx.2
      refine h_nextM hT hb ho hlt (by rw [em]; decide) (fun m1 T1 b1 o1 F1 => hs m1 _ _ T1 b1 o1 (fun q e m2 v2 F2 B2 => ?_) (fun q c2 e m2 v2 F2 T2 b2 o2 hv2 => ?_))
      · rintro x2 rfl
        rw [e] at step
        have GO : ∀ y, vv_X8_either1_L5 Q (f + 1) y m2 := fun y => by
          unfold vv_X8_either1_L5
          exact h_isWordB B2.1 ⟨fun _ => h0 q step m2 _ (F1.tr F2) B2, fun z => absurd rfl z⟩
        refine ⟨fun z => ?_, fun z => ⟨fun z2 => ?_, fun z2 => ?_⟩⟩
        · unfold vv_X8_either1_J39 vv_X8_either1_J44
          rintro y rfl
          exact GO _
        · unfold vv_X8_either1_J44
          rintro y rfl
          exact GO _
        · unfold vv_X8_either1_J39 vv_X8_either1_J44
          rintro y rfl
          exact GO _
      · rintro x2 rfl
        rw [e] at step hk
        have a1 := hk.1
        dsimp only at a1
        have W2 := hW _ _ _ e
        have WB := WF_bin (op := 20000) hc W2 (by decide)
        have GO : vv_X8_either1_L5 Q (f + 1) (jn 20000 v x2) m2 := ih m2 q _ _ (by omega) T2 b2 o2 WB.1 (fun env he => by
          have he2 := fun k hk => (he k hk).trans ((F1.tr F2).env hk)
          rw [WB.2 env, ← hv env he2, ← hv2 env (agE F1 he2)]) (fun q' e' m' v' F B => h0 q' (step.trans e') m' v' ((F1.tr F2).tr F) B) (fun q' c' e' m' v' F T b' o' hv' => h1 q' c' (step.trans e') m' v' ((F1.tr F2).tr F) T b' o' (fun env he => hv' env (agE (F1.tr F2) he)))
        have jv : jn 20000 v x2 = (if v = 0 ∧ x2 = 0 then 0 else 1) := rfl
        refine ⟨fun z => ?_, fun z => ⟨fun z2 => ?_, fun z2 => ?_⟩⟩
        · unfold vv_X8_either1_J39 vv_X8_either1_J44
          rintro y rfl
          rw [if_neg (fun q => z q.1)] at jv; rw [← jv]; exact GO
        · unfold vv_X8_either1_J44
          rintro y rfl
          rw [if_pos ⟨z, z2⟩] at jv; rw [← jv]; exact GO
        · unfold vv_X8_either1_J39 vv_X8_either1_J44
          rintro y rfl
          rw [if_neg (fun q => z2 q.2)] at jv; rw [← jv]; exact GO
    · have step : pLoop b n sub opOr (f + 1) p c = (p, some c) := by
        simp only [pLoop, show opOr (tkC b n p) = 0 by unfold opOr; rw [if_neg (show ¬ tkC b n p = 7 from fun z => nw ((tkC_key (k := 10) (by decide) (by decide)).mp z))]]; rfl
      exact h1 p c step m v (FrM.rf m) hT hb ho hv
theorem ms_either1 {b : By} {n t : Nat} {sub : Pf} (hn : n ≤ 160) (hs : MSp b n t 1 vv_X8_both1 sub) (hok : okF n sub) (hW : okW sub) : MSp b n t 1 vv_X8_either1 (pSeq b n sub opOr) := by
  intro m p Q hT hb ho h0 h1
  unfold vv_X8_either1
  refine hs m p _ hT hb ho (fun q e m2 v F2 B2 => ?_) (fun q c e m2 v F2 T2 b2 o2 hv => ?_)
  · rintro y rfl
    refine ⟨1, ?_⟩
    unfold vv_X8_either1_L5
    exact h_isWordB B2.1 ⟨fun _ => h0 q (by unfold pSeq; rw [e]) m2 _ F2 B2, fun z => absurd rfl z⟩
  · rintro y rfl
    have es : pSeq b n sub opOr p = pLoop b n sub opOr 160 q c := by unfold pSeq; rw [e]
    exact ⟨161, ml_either1 hs hok hW 160 m2 q c y (by omega) T2 b2 o2 (hW _ _ _ e) (fun env he => hv env (fun k hk => (he k hk).trans (F2.env hk))) (fun q' e' m' v' F B => h0 q' (es.trans e') m' v' (F2.tr F) B) (fun q' c' e' m' v' F T b' o' hv' => h1 q' c' (es.trans e') m' v' (F2.tr F) T b' o' (fun env he => hv' env (agE F2 he)))⟩
theorem ml_added1 {b : By} {n t : Nat} {sub : Pf} {Q : Int32 → Sg → Prop} (hs : MSp b n t 1 vv_X8_term1 sub) (hok : okF n sub) (hW : okW sub) : ∀ (f : Nat) (m : Sg) (p : Nat) (c : List Int32) (v : Int32), n - p ≤ f → TkM m b n t p → m 0 25 = 0 → m 0 24 = nI 1 → WF c → (∀ env : Nat → Int32, (∀ k, k < 6 → env k = envM m k) → v = val env c) →
    (∀ q, pLoop b n sub opAdd f p c = (q, none) → ∀ m' v, FrM m m' → BdM m' q → Q v m') → (∀ q c', pLoop b n sub opAdd f p c = (q, some c') → ∀ m' v, FrM m m' → TkM m' b n t q → m' 0 25 = 0 → m' 0 24 = nI 1 → (∀ env : Nat → Int32, (∀ k, k < 6 → env k = envM m k) → v = val env c') → Q v m') → vv_X8_added1_L5 Q (f + 1) v m := by
  have stop : ∀ (f : Nat) (m : Sg) (v : Int32) (q : Nat), BdM m q → Q v m → vv_X8_added1_L5 Q (f + 1) v m := fun f m v q B hq => by
    unfold vv_X8_added1_L5
    exact h_isSignB B.1 ⟨fun z => absurd rfl z, fun _ => h_isSignB B.1 ⟨fun _ => hq, fun z => absurd rfl z⟩⟩
  intro f
  induction f with
  | zero =>
    intro m p c v hf hT hb ho hc hv h0 h1
    have hp : n ≤ p := by omega
    unfold vv_X8_added1_L5
    refine h_isSignM hT hb (by decide) (fun e => absurd (lt_of_tk e (by decide)) (by omega)) (fun _ => ⟨fun z => absurd rfl z, fun _ => ?_⟩)
    refine h_isSignM hT hb (by decide) (fun e => absurd (lt_of_tk e (by decide)) (by omega)) (fun _ => ⟨fun _ => h1 p c rfl m v (FrM.rf m) hT hb ho hv, fun z => absurd rfl z⟩)
  | succ f ih =>
    intro m p c v hf hT hb ho hc hv h0 h1
    have body : ∀ (op s : Int32), tkC b n p = s → isSg s = true → ¬ s = 0 → opAdd s = op → ¬ op = 0 → (¬ op < 20000 ∧ ¬ op = 20007 ∧ ¬ op = 20008) → (s = 43 → ∀ x y, jn op x y = x + y) → (¬ s = 43 → ∀ x y, jn op x y = x - y) → vv_X8_added1_J23 (vv_X8_added1_L5 Q (f + 1)) v m Q := by
      intro op s es hsg hs0 eop hop hop2 jp jm
      have hlt := lt_of_tk es hs0
      have hnx := nx_gt (b := b) hlt
      have e23 : m 0 23 = s := by
        have := (tkC_sign hsg).mp es
        rw [hT.2.2.2.2.2.1 this.1, this.2]
      have step : pLoop b n sub opAdd (f + 1) p c = (match sub (nx b n p) with | (q, none) => (q, none) | (q, some c') => pLoop b n sub opAdd f q (c ++ c' ++ [op])) := by
        simp only [pLoop, show opAdd (tkC b n p) = op by rw [es, eop]]
        rw [if_neg hop]; rfl
      have hk := hok (nx b n p) hnx.2
      have J39 : ∀ x2 : Int32, (x2 = 0 ↔ ¬ s = 43) → vv_X8_added1_J39 (vv_X8_added1_L5 Q (f + 1)) v x2 m Q := by
        intro x2 hx2
        unfold vv_X8_added1_J39
        rintro y rfl
        refine h_nextM hT hb ho hlt (sg_ne4 es hsg) (fun m1 T1 b1 o1 F1 => hs m1 _ _ T1 b1 o1 (fun q e m2 v2 F2 B2 => ?_) (fun q c2 e m2 v2 F2 T2 b2 o2 hv2 => ?_))
        · rintro x3 rfl
          rw [e] at step
          unfold vv_X8_added1_J62
          exact ⟨fun _ => by rintro z rfl; exact stop f m2 _ q B2 (h0 q step m2 _ (F1.tr F2) B2), fun _ => by rintro z rfl; exact stop f m2 _ q B2 (h0 q step m2 _ (F1.tr F2) B2)⟩
        · rintro x3 rfl
          rw [e] at step hk
          have a1 := hk.1
          dsimp only at a1
          have W2 := hW _ _ _ e
          have WB := WF_bin (op := op) hc W2 hop2
          have GO : vv_X8_added1_L5 Q (f + 1) (jn op v x3) m2 := ih m2 q _ _ (by omega) T2 b2 o2 WB.1 (fun env he => by
            have he2 := fun k hk => (he k hk).trans ((F1.tr F2).env hk)
            rw [WB.2 env, ← hv env he2, ← hv2 env (agE F1 he2)]) (fun q' e' m' v' F B => h0 q' (step.trans e') m' v' ((F1.tr F2).tr F) B) (fun q' c' e' m' v' F T b' o' hv' => h1 q' c' (step.trans e') m' v' ((F1.tr F2).tr F) T b' o' (fun env he => hv' env (agE (F1.tr F2) he)))
          unfold vv_X8_added1_J62
          refine ⟨fun z => ?_, fun z => ?_⟩
          · rintro w rfl
            rw [← jm (hx2.mp z)]; exact GO
          · rintro w rfl
            have : s = 43 := by
              rcases Classical.em (s = 43) with q | q
              · exact q
              · exact absurd (hx2.mpr q) z
            rw [← jp this]; exact GO
      unfold vv_X8_added1_J23
      rw [e23, lg_cmp_eq]
      refine ⟨fun z => J39 0 ⟨fun _ q => z (by rw [q]; rfl), fun _ => rfl⟩, fun z => J39 1 ⟨fun q => absurd q (by decide), fun q => absurd ((i64_eq s 43).mp z) q⟩⟩
    unfold vv_X8_added1_L5
    refine h_isSignM hT hb (by decide) (fun e43 => ⟨fun _ => body 20004 43 e43 (by decide) (by decide) rfl (by decide) (by decide) (fun _ _ _ => rfl) (fun z => absurd rfl z), fun z => absurd z (by decide)⟩) (fun n43 => ⟨fun z => absurd rfl z, fun _ => ?_⟩)
    refine h_isSignM hT hb (by decide) (fun e45 => ⟨fun z => absurd z (by decide), fun _ => body 20005 45 e45 (by decide) (by decide) rfl (by decide) (by decide) (fun z => absurd z (by decide)) (fun _ _ _ => rfl)⟩) (fun n45 => ⟨fun _ => ?_, fun z => absurd rfl z⟩)
    have step : pLoop b n sub opAdd (f + 1) p c = (p, some c) := by
      simp only [pLoop, show opAdd (tkC b n p) = 0 by unfold opAdd; rw [if_neg n43, if_neg n45]]; rfl
    exact h1 p c step m v (FrM.rf m) hT hb ho hv
theorem ms_added1 {b : By} {n t : Nat} {sub : Pf} (hn : n ≤ 160) (hs : MSp b n t 1 vv_X8_term1 sub) (hok : okF n sub) (hW : okW sub) : MSp b n t 1 vv_X8_added1 (pSeq b n sub opAdd) := by
  intro m p Q hT hb ho h0 h1
  unfold vv_X8_added1
  refine hs m p _ hT hb ho (fun q e m2 v F2 B2 => ?_) (fun q c e m2 v F2 T2 b2 o2 hv => ?_)
  · rintro y rfl
    refine ⟨1, ?_⟩
    unfold vv_X8_added1_L5
    exact h_isSignB B2.1 ⟨fun z => absurd rfl z, fun _ => h_isSignB B2.1 ⟨fun _ => h0 q (by unfold pSeq; rw [e]) m2 _ F2 B2, fun z => absurd rfl z⟩⟩
  · rintro y rfl
    have es : pSeq b n sub opAdd p = pLoop b n sub opAdd 160 q c := by unfold pSeq; rw [e]
    exact ⟨161, ml_added1 hs hok hW 160 m2 q c y (by omega) T2 b2 o2 (hW _ _ _ e) (fun env he => hv env (fun k hk => (he k hk).trans (F2.env hk))) (fun q' e' m' v' F B => h0 q' (es.trans e') m' v' (F2.tr F) B) (fun q' c' e' m' v' F T b' o' hv' => h1 q' c' (es.trans e') m' v' (F2.tr F) T b' o' (fun env he => hv' env (agE F2 he)))⟩
theorem ms_not1 {b : By} {n t : Nat} {lo : Nat → Pf} {sum : Pf} (hs : MSp b n t 1 vv_X8_added1 sum) (hW : okW sum) (l2 : MSp b n t 2 vv_X8_not2 (lo 2)) (pW : ∀ i, okW (lo i)) : MSp b n t 1 vv_X8_not1 (pNot b n 4 lo sum) := by
  intro m p Q hT hb ho h0 h1
  unfold vv_X8_not1
  refine h_isWordM (w := 12) hT hb (by decide) (by decide) (fun em ew => ⟨fun z => absurd z (by decide), fun _ => ?_⟩) (fun nw => ⟨fun _ => ?_, fun z => absurd rfl z⟩)
  · have et : tkC b n p = 9 := (tkC_key (k := 12) (by decide) (by decide)).mpr ⟨em, ew⟩
    have eN : pNot b n 4 lo sum p = (match lo 2 (nx b n p) with | (q, none) => (q, none) | (q, some c) => (q, some (c ++ [20007]))) := by
      unfold pNot; rw [if_pos et, if_neg (by decide)]; rfl
    refine h_opensM hT hb ho (by decide) (tkM_one em).1 (by rw [em]; decide) (fun z => absurd z (by decide)) (fun _ m1 T1 b1 o1 F1 => ⟨fun _ => l2 m1 _ _ T1 b1 o1 (fun q e m2 v F2 B2 => ?_) (fun q c e m2 v F2 T2 b2 o2 hv => ?_), fun z => absurd z (by decide)⟩)
    · rintro y rfl m3 rfl
      have F3 := (F1.tr F2).tr (FrM.put m2 (j := 24) (by decide) (m2 0 24 - 1))
      exact ⟨fun _ => h0 q (by rw [eN, e]) _ _ F3 (B2.st24 _), fun _ => h0 q (by rw [eN, e]) _ _ F3 (B2.st24 _)⟩
    · rintro y rfl m3 rfl
      have F3 := (F1.tr F2).tr (FrM.put m2 (j := 24) (by decide) (m2 0 24 - 1))
      have W := pW 2 _ _ _ e
      have fin : ∀ r : Int32, r = (if y = 0 then 1 else 0) → Q r (st m2 0 24 (m2 0 24 - 1)) := fun r hr => h1 q _ (by rw [eN, e]) _ r F3 (T2.st24 (by decide) _) (by rw [st_off _ (by decide)]; exact b2) (by rw [st_on, o2]; rfl) (fun env he => by
        rw [(WF_not W).2 env, ← hv env (agE F1 he), hr])
      exact ⟨fun z => fin 0 (by rw [if_neg z]), fun z => fin 1 (by rw [if_pos z])⟩
  · have nt : ¬ tkC b n p = 9 := fun z => nw ((tkC_key (k := 12) (by decide) (by decide)).mp z)
    have eN : pNot b n 4 lo sum p = (match sum p with | (q, none) => (q, none) | (q, some c) => if opCmp (tkC b n q) = 0 then (q, some c) else match sum (nx b n q) with | (r, none) => (r, none) | (r, some c') => (r, some (c ++ c' ++ [opCmp (tkC b n q)]))) := by
      unfold pNot; rw [if_neg nt]; rfl
    refine hs m p _ hT hb ho (fun q e m2 v F2 B2 => ?_) (fun q c e m2 v F2 T2 b2 o2 hv => ?_)
    · rintro y rfl
      exact h_isSignB B2.1 ⟨fun z => absurd rfl z, fun _ => h_isSignB B2.1 ⟨fun z => absurd rfl z, fun _ => h0 q (by rw [eN, e]) m2 _ F2 B2⟩⟩
    · rintro y rfl
      rw [e] at eN
      dsimp only at eN
      have W := hW _ _ _ e
      have body : ∀ (op s : Int32), tkC b n q = s → isSg s = true → ¬ s = 0 → opCmp s = op → ¬ op = 0 → (¬ op < 20000 ∧ ¬ op = 20007 ∧ ¬ op = 20008) → (s = 60 → ∀ x z : Int32, jn op x z = if z ≤ x then 0 else 1) → (¬ s = 60 → ∀ x z : Int32, jn op x z = if x = z then 1 else 0) → vv_X8_not1_J77 y m2 Q := by
        intro op s es hsg hs0 eop hop hop2 jl je
        have hlt := lt_of_tk es hs0
        rw [es, eop, if_neg hop] at eN
        have e23 : m2 0 23 = s := by
          have := (tkC_sign hsg).mp es
          rw [T2.2.2.2.2.2.1 this.1, this.2]
        have J66 : ∀ x2 : Int32, (x2 = 0 ↔ ¬ s = 60) → vv_X8_not1_J93 y x2 m2 Q := by
          intro x2 hx2
          unfold vv_X8_not1_J93 vv_X8_not1_J120
          rintro x rfl
          refine h_nextM T2 b2 o2 hlt (sg_ne4 es hsg) (fun m3 T3 b3 o3 F3 => hs m3 _ _ T3 b3 o3 (fun r e3 m4 v4 F4 B4 => ?_) (fun r c4 e3 m4 v4 F4 T4 b4 o4 hv4 => ?_))
          · rintro x3 rfl
            rw [e3] at eN
            have fin : ∀ u, Q u m4 := fun u => h0 r eN m4 u ((F2.tr F3).tr F4) B4
            exact ⟨fun _ => ⟨fun _ => fin _, fun _ => fin _⟩, fun _ => ⟨fun _ => fin _, fun _ => fin _⟩⟩
          · rintro x3 rfl
            rw [e3] at eN
            have W4 := hW _ _ _ e3
            have WB := WF_bin (op := op) W W4 hop2
            have fin : ∀ u, u = jn op y x3 → Q u m4 := fun u hu => h1 r _ eN m4 u ((F2.tr F3).tr F4) T4 b4 o4 (fun env he => by
              rw [WB.2 env, ← hv env he, ← hv4 env (agE (F2.tr F3) he), hu])
            refine ⟨fun z => ⟨fun z2 => ?_, fun z2 => ?_⟩, fun z => ⟨fun z2 => ?_, fun z2 => ?_⟩⟩
            · exact fin 0 (by rw [je (hx2.mp z), if_neg z2])
            · exact fin 1 (by rw [je (hx2.mp z), if_pos z2])
            · have e60 : s = 60 := by
                rcases Classical.em (s = 60) with a | a
                · exact a
                · exact absurd (hx2.mpr a) z
              exact fin 0 (by rw [jl e60, if_pos z2])
            · have e60 : s = 60 := by
                rcases Classical.em (s = 60) with a | a
                · exact a
                · exact absurd (hx2.mpr a) z
              exact fin 1 (by rw [jl e60, if_neg z2])
        unfold vv_X8_not1_J77
        rw [e23, lg_cmp_eq]
        exact ⟨fun z => J66 0 ⟨fun _ a => z (by rw [a]; rfl), fun _ => rfl⟩, fun z => J66 1 ⟨fun a => absurd a (by decide), fun a => absurd ((i64_eq s 60).mp z) a⟩⟩
      refine h_isSignM T2 b2 (by decide) (fun e60 => ⟨fun _ => body 20002 60 e60 (by decide) (by decide) rfl (by decide) (by decide) (fun _ _ _ => rfl) (fun z => absurd rfl z), fun z => absurd z (by decide)⟩) (fun n60 => ⟨fun z => absurd rfl z, fun _ => ?_⟩)
      refine h_isSignM T2 b2 (by decide) (fun e61 => ⟨fun _ => body 20003 61 e61 (by decide) (by decide) rfl (by decide) (by decide) (fun z => absurd z (by decide)) (fun _ _ _ => rfl), fun z => absurd z (by decide)⟩) (fun n61 => ⟨fun z => absurd rfl z, fun _ => ?_⟩)
      rw [if_pos (by unfold opCmp; rw [if_neg n60, if_neg n61])] at eN
      exact h1 q c eN m2 _ F2 T2 b2 o2 hv
theorem ms_atom0 {b : By} {n t : Nat} {lo : Nat → Pf} (l5 : MSp b n t 1 vv_X8_atom1 (lo 5)) (l0 : MSp b n t 1 vv_X8_either1 (lo 0)) (pW : ∀ i, okW (lo i)) : MSp b n t 0 vv_X8_atom0 (pOne b n 5 lo) := by
  intro m p Q hT hb ho h0 h1
  unfold vv_X8_atom0
  rintro x rfl
  refine h_isSignM hT hb (by decide) (fun e45 => ⟨fun z => absurd z (by decide), fun _ => ?_⟩) (fun n45 => ⟨fun _ => ?_, fun z => absurd rfl z⟩)
  · have hlt := lt_of_tk e45 (by decide)
    have eO : pOne b n 5 lo p = (match lo 5 (nx b n p) with | (q, none) => (q, none) | (q, some c) => (q, some (c ++ [20008]))) := by
      unfold pOne; rw [if_neg (by rw [e45]; decide), if_pos e45, if_neg (by decide)]; rfl
    refine h_opensM hT hb ho (by decide) hlt (sg_ne4 e45 (by decide)) (fun z => absurd z (by decide)) (fun _ m1 T1 b1 o1 F1 => ⟨fun z => absurd z (by decide), fun _ => l5 m1 _ _ T1 b1 o1 (fun q e m2 v F2 B2 => ?_) (fun q c e m2 v F2 T2 b2 o2 hv => ?_)⟩)
    · rintro y rfl m3 rfl
      exact h0 q (by rw [eO, e]) _ _ ((F1.tr F2).tr (FrM.put _ (by decide) _)) (B2.st24 _)
    · rintro y rfl m3 rfl
      have W := pW 5 _ _ _ e
      refine h1 q _ (by rw [eO, e]) _ _ ((F1.tr F2).tr (FrM.put _ (by decide) _)) (T2.st24 (by decide) _) (by rw [st_off _ (by decide)]; exact b2) (by rw [st_on, o2]; rfl) (fun env he => ?_)
      rw [(WF_neg W).2 env, hv env (agE F1 he)]
  · refine h_isSignM hT hb (by decide) (fun e40 => ⟨fun z => absurd z (by decide), fun _ => ?_⟩) (fun n40 => ⟨fun _ => ?_, fun z => absurd rfl z⟩)
    · have hlt := lt_of_tk e40 (by decide)
      have eO : pOne b n 5 lo p = (match lo 0 (nx b n p) with | (q, none) => (q, none) | (q, some c) => if tkC b n q = 41 then (nx b n q, some c) else (q, none)) := by
        unfold pOne; rw [if_neg (by rw [e40]; decide), if_neg (by rw [e40]; decide), if_pos e40, if_neg (by decide)]; rfl
      refine h_opensM hT hb ho (by decide) hlt (sg_ne4 e40 (by decide)) (fun z => absurd z (by decide)) (fun _ m1 T1 b1 o1 F1 => ⟨fun z => absurd z (by decide), fun _ => l0 m1 _ _ T1 b1 o1 (fun q e m2 v F2 B2 => ?_) (fun q c e m2 v F2 T2 b2 o2 hv => ?_)⟩)
      · rintro y rfl
        refine h_isSignB B2.1 ⟨fun z => absurd rfl z, fun _ => h_failB B2 ?_⟩
        unfold vv_X8_atom0_J71
        rintro m3 rfl
        have B3 := B2.st24 (m2 0 24 - 1)
        exact ⟨fun _ => h0 q (by rw [eO, e]) _ _ ((F1.tr F2).tr (FrM.put _ (by decide) _)) B3, fun z => absurd z (by rw [B3.1]; decide)⟩
      · rintro y rfl
        rw [e] at eO
        dsimp only at eO
        refine h_isSignM T2 b2 (by decide) (fun e41 => ⟨fun _ => ?_, fun z => absurd z (by decide)⟩) (fun n41 => ⟨fun z => absurd rfl z, fun _ => ?_⟩)
        · rw [if_pos e41] at eO
          have hlt2 := lt_of_tk e41 (by decide)
          unfold vv_X8_atom0_J71
          rintro m3 rfl
          have b3 : (st m2 0 24 (m2 0 24 - 1)) 0 25 = 0 := by rw [st_off _ (by decide)]; exact b2
          refine ⟨fun z => absurd b3 z, fun _ => h_nextM (L := 0) (T2.st24 (by decide) _) b3 (by rw [st_on, o2]; rfl) hlt2 (sg_ne4 e41 (by decide)) (fun m4 T4 b4 o4 F4 => ?_)⟩
          exact h1 _ _ eO m4 _ (((F1.tr F2).tr (FrM.put _ (by decide) _)).tr F4) T4 b4 o4 (fun env he => hv env (agE F1 he))
        · rw [if_neg n41] at eO
          refine h_fail T2 b2 (fun m3 B3 F3 => ?_)
          unfold vv_X8_atom0_J71
          rintro m4 rfl
          have B4 := B3.st24 (m3 0 24 - 1)
          exact ⟨fun _ => h0 q eO _ _ (((F1.tr F2).tr F3).tr (FrM.put _ (by decide) _)) B4, fun z => absurd z (by rw [B4.1]; decide)⟩
    · have num : ¬ tkM b n p = 2 → vv_X8_atom0_J123 0 m Q := fun n2 => by
        have word : vv_X8_atom0_J123 0 m Q := by
          unfold vv_X8_atom0_J123 vv_X8_atom0_J157
          rw [hT.2.2.1]
          refine ⟨fun z => absurd hb z, fun _ => ⟨fun z => h_fail hT hb (fun m' B F => h0 p (by
            unfold pOne
            rw [if_neg (fun y => y.elim (fun y => n2 (tkC_two.mp y)) (fun y => z (tkC_name.mp y).1)), if_neg n45, if_neg n40]) m' 0 F B), fun z => ?_⟩⟩
          refine h_nameM hT hb z (fun k1 k7 => ?_) (fun hn m' B F => ?_)
          · rintro x rfl
            refine ⟨fun y => absurd hb y, fun _ => ?_⟩
            have hlt : p < n := (tkM_one z).1
            refine h_nextM hT hb ho hlt (by rw [z]; decide) (fun m' T' b' o' F' => h1 (nx b n p) [vlC b n p] (by unfold pOne; rw [if_pos (Or.inr (tkC_name.mpr ⟨z, k1, k7⟩))]) m' _ F' T' b' o' (fun env he => ?_))
            rw [(leaf_name z k1 k7).2 env, he _ (by omega)]
          · rintro x rfl
            refine ⟨fun _ => h0 p ?_ m' 0 F B, fun y => absurd y (by rw [B.1]; decide)⟩
            unfold pOne
            rw [if_neg (fun y => y.elim (fun y => n2 (tkC_two.mp y)) (fun y => hn (tkC_name.mp y).2)), if_neg n45, if_neg n40]
        exact word
      rw [hT.2.2.1]
      refine ⟨fun z => absurd hb z, fun _ => ⟨fun z => num z, fun z => ?_⟩⟩
      rintro y rfl
      have hc := tkC_two.mpr z
      refine h_nextM hT hb ho (lt_of_tk hc (by decide)) (by rw [z]; decide) (fun m' T' b' o' F' => h1 (nx b n p) [vlC b n p] (by unfold pOne; rw [if_pos (Or.inl hc)]) m' _ F' T' b' o' (fun env he => ?_))
      rw [(leaf_num z).2 env, i64_32, hT.2.2.2.2.1 z]
theorem ml_term0 {b : By} {n t : Nat} {sub : Pf} {Q : Int32 → Sg → Prop} (hs : MSp b n t 0 vv_X8_atom0 sub) (hok : okF n sub) (hW : okW sub) : ∀ (f : Nat) (m : Sg) (p : Nat) (c : List Int32) (v : Int32), n - p ≤ f → TkM m b n t p → m 0 25 = 0 → m 0 24 = nI 0 → WF c → (∀ env : Nat → Int32, (∀ k, k < 6 → env k = envM m k) → v = val env c) →
    (∀ q, pLoop b n sub opMul f p c = (q, none) → ∀ m' v, FrM m m' → BdM m' q → Q v m') → (∀ q c', pLoop b n sub opMul f p c = (q, some c') → ∀ m' v, FrM m m' → TkM m' b n t q → m' 0 25 = 0 → m' 0 24 = nI 0 → (∀ env : Nat → Int32, (∀ k, k < 6 → env k = envM m k) → v = val env c') → Q v m') → vv_X8_term0_L5 Q (f + 1) v m := by
  intro f
  induction f with
  | zero =>
    intro m p c v hf hT hb ho hc hv h0 h1
    have hp : n ≤ p := by omega
    unfold vv_X8_term0_L5
    refine h_isSignM hT hb (by decide) (fun e => absurd (lt_of_tk e (by decide)) (by omega)) (fun _ => ⟨fun _ => h1 p c rfl m v (FrM.rf m) hT hb ho hv, fun z => absurd rfl z⟩)
  | succ f ih =>
    intro m p c v hf hT hb ho hc hv h0 h1
    unfold vv_X8_term0_L5
    refine h_isSignM hT hb (by decide) (fun e42 => ⟨fun z => absurd z (by decide), fun _ => ?_⟩) (fun n42 => ⟨fun _ => ?_, fun z => absurd rfl z⟩)
    · have hlt := lt_of_tk e42 (by decide)
      have hnx := nx_gt (b := b) hlt
      have step : pLoop b n sub opMul (f + 1) p c = (match sub (nx b n p) with | (q, none) => (q, none) | (q, some c') => pLoop b n sub opMul f q (c ++ c' ++ [20006])) := by
        simp only [pLoop, show opMul (tkC b n p) = 20006 by rw [e42]; rfl]
        rw [if_neg (by decide)]; rfl
      have hk := hok (nx b n p) hnx.2
      refine h_nextM hT hb ho hlt (sg_ne4 e42 (by decide)) (fun m1 T1 b1 o1 F1 => hs m1 _ _ T1 b1 o1 (fun q e m2 v2 F2 B2 => ?_) (fun q c2 e m2 v2 F2 T2 b2 o2 hv2 => ?_))
      · rintro y rfl
        rw [e] at step
        have M0 : vv_X8_term0_L5 Q (f + 1) (v * v2) m2 := by
          unfold vv_X8_term0_L5
          exact h_isSignB B2.1 ⟨fun _ => h0 q step m2 _ (F1.tr F2) B2, fun z => absurd rfl z⟩
        exact M0
      · rintro y rfl
        rw [e] at step hk
        have a1 := hk.1
        dsimp only at a1
        have W2 := hW _ _ _ e
        have WB := WF_bin (op := 20006) hc W2 (by decide)
        exact ih m2 q _ _ (by omega) T2 b2 o2 WB.1 (fun env he => by
          have he2 := fun k hk => (he k hk).trans ((F1.tr F2).env hk)
          rw [WB.2 env, ← hv env he2, ← hv2 env (agE F1 he2)]; rfl) (fun q' e' m' v' F B => h0 q' (step.trans e') m' v' ((F1.tr F2).tr F) B) (fun q' c' e' m' v' F T b' o' hv' => h1 q' c' (step.trans e') m' v' ((F1.tr F2).tr F) T b' o' (fun env he => hv' env (agE (F1.tr F2) he)))
    · have step : pLoop b n sub opMul (f + 1) p c = (p, some c) := by
        simp only [pLoop, show opMul (tkC b n p) = 0 by unfold opMul; rw [if_neg n42]]; rfl
      exact h1 p c step m v (FrM.rf m) hT hb ho hv
theorem ms_term0 {b : By} {n t : Nat} {sub : Pf} (hn : n ≤ 160) (hs : MSp b n t 0 vv_X8_atom0 sub) (hok : okF n sub) (hW : okW sub) : MSp b n t 0 vv_X8_term0 (pSeq b n sub opMul) := by
  intro m p Q hT hb ho h0 h1
  unfold vv_X8_term0
  refine hs m p _ hT hb ho (fun q e m2 v F2 B2 => ?_) (fun q c e m2 v F2 T2 b2 o2 hv => ?_)
  · rintro y rfl
    refine ⟨1, ?_⟩
    unfold vv_X8_term0_L5
    exact h_isSignB B2.1 ⟨fun _ => h0 q (by unfold pSeq; rw [e]) m2 _ F2 B2, fun z => absurd rfl z⟩
  · rintro y rfl
    have es : pSeq b n sub opMul p = pLoop b n sub opMul 160 q c := by unfold pSeq; rw [e]
    exact ⟨161, ml_term0 hs hok hW 160 m2 q c y (by omega) T2 b2 o2 (hW _ _ _ e) (fun env he => hv env (fun k hk => (he k hk).trans (F2.env hk))) (fun q' e' m' v' F B => h0 q' (es.trans e') m' v' (F2.tr F) B) (fun q' c' e' m' v' F T b' o' hv' => h1 q' c' (es.trans e') m' v' (F2.tr F) T b' o' (fun env he => hv' env (agE F2 he)))⟩
theorem ml_both0 {b : By} {n t : Nat} {sub : Pf} {Q : Int32 → Sg → Prop} (hs : MSp b n t 0 vv_X8_not0 sub) (hok : okF n sub) (hW : okW sub) : ∀ (f : Nat) (m : Sg) (p : Nat) (c : List Int32) (v : Int32), n - p ≤ f → TkM m b n t p → m 0 25 = 0 → m 0 24 = nI 0 → WF c → (∀ env : Nat → Int32, (∀ k, k < 6 → env k = envM m k) → v = val env c) →
    (∀ q, pLoop b n sub opAnd f p c = (q, none) → ∀ m' v, FrM m m' → BdM m' q → Q v m') → (∀ q c', pLoop b n sub opAnd f p c = (q, some c') → ∀ m' v, FrM m m' → TkM m' b n t q → m' 0 25 = 0 → m' 0 24 = nI 0 → (∀ env : Nat → Int32, (∀ k, k < 6 → env k = envM m k) → v = val env c') → Q v m') → vv_X8_both0_L5 Q (f + 1) v m := by
  intro f
  induction f with
  | zero =>
    intro m p c v hf hT hb ho hc hv h0 h1
    have hp : n ≤ p := by omega
    unfold vv_X8_both0_L5
    refine h_isWordM (w := 11) hT hb (by decide) (by decide) (fun e _ => absurd (tkM_one e).1 (by omega)) (fun _ => ⟨fun _ => h1 p c rfl m v (FrM.rf m) hT hb ho hv, fun z => absurd rfl z⟩)
  | succ f ih =>
    intro m p c v hf hT hb ho hc hv h0 h1
    unfold vv_X8_both0_L5
    refine h_isWordM (w := 11) hT hb (by decide) (by decide) (fun em ew => ⟨fun z => absurd z (by decide), fun _ => ?_⟩) (fun nw => ⟨fun _ => ?_, fun z => absurd rfl z⟩)
    · have et : tkC b n p = 8 := (tkC_key (k := 11) (by decide) (by decide)).mpr ⟨em, ew⟩
      have hlt := (tkM_one em).1
      have hnx := nx_gt (b := b) hlt
      have step : pLoop b n sub opAnd (f + 1) p c = (match sub (nx b n p) with | (q, none) => (q, none) | (q, some c') => pLoop b n sub opAnd f q (c ++ c' ++ [20001])) := by
        simp only [pLoop, show opAnd (tkC b n p) = 20001 by rw [et]; rfl]
        rw [if_neg (by decide)]; rfl
      have hk := hok (nx b n p) hnx.2
      refine h_nextM hT hb ho hlt (by rw [em]; decide) (fun m1 T1 b1 o1 F1 => hs m1 _ _ T1 b1 o1 (fun q e m2 v2 F2 B2 => ?_) (fun q c2 e m2 v2 F2 T2 b2 o2 hv2 => ?_))
      · rintro x2 rfl
        rw [e] at step
        have GO : ∀ y, vv_X8_both0_L5 Q (f + 1) y m2 := fun y => by
          unfold vv_X8_both0_L5
          exact h_isWordB B2.1 ⟨fun _ => h0 q step m2 _ (F1.tr F2) B2, fun z => absurd rfl z⟩
        refine ⟨fun z => ?_, fun z => ⟨fun z2 => ?_, fun z2 => ?_⟩⟩
        · unfold vv_X8_both0_J44 vv_X8_both0_J45
          rintro y rfl
          exact GO _
        · unfold vv_X8_both0_J44 vv_X8_both0_J45
          rintro y rfl
          exact GO _
        · unfold vv_X8_both0_J45
          rintro y rfl
          exact GO _
      · rintro x2 rfl
        rw [e] at step hk
        have a1 := hk.1
        dsimp only at a1
        have W2 := hW _ _ _ e
        have WB := WF_bin (op := 20001) hc W2 (by decide)
        have GO : vv_X8_both0_L5 Q (f + 1) (jn 20001 v x2) m2 := ih m2 q _ _ (by omega) T2 b2 o2 WB.1 (fun env he => by
          have he2 := fun k hk => (he k hk).trans ((F1.tr F2).env hk)
          rw [WB.2 env, ← hv env he2, ← hv2 env (agE F1 he2)]) (fun q' e' m' v' F B => h0 q' (step.trans e') m' v' ((F1.tr F2).tr F) B) (fun q' c' e' m' v' F T b' o' hv' => h1 q' c' (step.trans e') m' v' ((F1.tr F2).tr F) T b' o' (fun env he => hv' env (agE (F1.tr F2) he)))
        have jv : jn 20001 v x2 = (if v = 0 ∨ x2 = 0 then 0 else 1) := rfl
        refine ⟨fun z => ?_, fun z => ⟨fun z2 => ?_, fun z2 => ?_⟩⟩
        · unfold vv_X8_both0_J44 vv_X8_both0_J45
          rintro y rfl
          rw [if_pos (Or.inl z)] at jv; rw [← jv]; exact GO
        · unfold vv_X8_both0_J44 vv_X8_both0_J45
          rintro y rfl
          rw [if_pos (Or.inr z2)] at jv; rw [← jv]; exact GO
        · unfold vv_X8_both0_J45
          rintro y rfl
          rw [if_neg (fun q => q.elim z z2)] at jv; rw [← jv]; exact GO
    · have step : pLoop b n sub opAnd (f + 1) p c = (p, some c) := by
        simp only [pLoop, show opAnd (tkC b n p) = 0 by unfold opAnd; rw [if_neg (show ¬ tkC b n p = 8 from fun z => nw ((tkC_key (k := 11) (by decide) (by decide)).mp z))]]; rfl
      exact h1 p c step m v (FrM.rf m) hT hb ho hv
theorem ms_both0 {b : By} {n t : Nat} {sub : Pf} (hn : n ≤ 160) (hs : MSp b n t 0 vv_X8_not0 sub) (hok : okF n sub) (hW : okW sub) : MSp b n t 0 vv_X8_both0 (pSeq b n sub opAnd) := by
  intro m p Q hT hb ho h0 h1
  unfold vv_X8_both0
  refine hs m p _ hT hb ho (fun q e m2 v F2 B2 => ?_) (fun q c e m2 v F2 T2 b2 o2 hv => ?_)
  · rintro y rfl
    refine ⟨1, ?_⟩
    unfold vv_X8_both0_L5
    exact h_isWordB B2.1 ⟨fun _ => h0 q (by unfold pSeq; rw [e]) m2 _ F2 B2, fun z => absurd rfl z⟩
  · rintro y rfl
    have es : pSeq b n sub opAnd p = pLoop b n sub opAnd 160 q c := by unfold pSeq; rw [e]
    exact ⟨161, ml_both0 hs hok hW 160 m2 q c y (by omega) T2 b2 o2 (hW _ _ _ e) (fun env he => hv env (fun k hk => (he k hk).trans (F2.env hk))) (fun q' e' m' v' F B => h0 q' (es.trans e') m' v' (F2.tr F) B) (fun q' c' e' m' v' F T b' o' hv' => h1 q' c' (es.trans e') m' v' (F2.tr F) T b' o' (fun env he => hv' env (agE F2 he)))⟩
theorem ml_either0 {b : By} {n t : Nat} {sub : Pf} {Q : Int32 → Sg → Prop} (hs : MSp b n t 0 vv_X8_both0 sub) (hok : okF n sub) (hW : okW sub) : ∀ (f : Nat) (m : Sg) (p : Nat) (c : List Int32) (v : Int32), n - p ≤ f → TkM m b n t p → m 0 25 = 0 → m 0 24 = nI 0 → WF c → (∀ env : Nat → Int32, (∀ k, k < 6 → env k = envM m k) → v = val env c) →
    (∀ q, pLoop b n sub opOr f p c = (q, none) → ∀ m' v, FrM m m' → BdM m' q → Q v m') → (∀ q c', pLoop b n sub opOr f p c = (q, some c') → ∀ m' v, FrM m m' → TkM m' b n t q → m' 0 25 = 0 → m' 0 24 = nI 0 → (∀ env : Nat → Int32, (∀ k, k < 6 → env k = envM m k) → v = val env c') → Q v m') → vv_X8_either0_L5 Q (f + 1) v m := by
  intro f
  induction f with
  | zero =>
    intro m p c v hf hT hb ho hc hv h0 h1
    have hp : n ≤ p := by omega
    unfold vv_X8_either0_L5
    refine h_isWordM (w := 10) hT hb (by decide) (by decide) (fun e _ => absurd (tkM_one e).1 (by omega)) (fun _ => ⟨fun _ => h1 p c rfl m v (FrM.rf m) hT hb ho hv, fun z => absurd rfl z⟩)
  | succ f ih =>
    intro m p c v hf hT hb ho hc hv h0 h1
    unfold vv_X8_either0_L5
    refine h_isWordM (w := 10) hT hb (by decide) (by decide) (fun em ew => ⟨fun z => absurd z (by decide), fun _ => ?_⟩) (fun nw => ⟨fun _ => ?_, fun z => absurd rfl z⟩)
    · have et : tkC b n p = 7 := (tkC_key (k := 10) (by decide) (by decide)).mpr ⟨em, ew⟩
      have hlt := (tkM_one em).1
      have hnx := nx_gt (b := b) hlt
      have step : pLoop b n sub opOr (f + 1) p c = (match sub (nx b n p) with | (q, none) => (q, none) | (q, some c') => pLoop b n sub opOr f q (c ++ c' ++ [20000])) := by
        simp only [pLoop, show opOr (tkC b n p) = 20000 by rw [et]; rfl]
        rw [if_neg (by decide)]; rfl
      have hk := hok (nx b n p) hnx.2
      refine h_nextM hT hb ho hlt (by rw [em]; decide) (fun m1 T1 b1 o1 F1 => hs m1 _ _ T1 b1 o1 (fun q e m2 v2 F2 B2 => ?_) (fun q c2 e m2 v2 F2 T2 b2 o2 hv2 => ?_))
      · rintro x2 rfl
        rw [e] at step
        have GO : ∀ y, vv_X8_either0_L5 Q (f + 1) y m2 := fun y => by
          unfold vv_X8_either0_L5
          exact h_isWordB B2.1 ⟨fun _ => h0 q step m2 _ (F1.tr F2) B2, fun z => absurd rfl z⟩
        refine ⟨fun z => ?_, fun z => ⟨fun z2 => ?_, fun z2 => ?_⟩⟩
        · unfold vv_X8_either0_J39 vv_X8_either0_J44
          rintro y rfl
          exact GO _
        · unfold vv_X8_either0_J44
          rintro y rfl
          exact GO _
        · unfold vv_X8_either0_J39 vv_X8_either0_J44
          rintro y rfl
          exact GO _
      · rintro x2 rfl
        rw [e] at step hk
        have a1 := hk.1
        dsimp only at a1
        have W2 := hW _ _ _ e
        have WB := WF_bin (op := 20000) hc W2 (by decide)
        have GO : vv_X8_either0_L5 Q (f + 1) (jn 20000 v x2) m2 := ih m2 q _ _ (by omega) T2 b2 o2 WB.1 (fun env he => by
          have he2 := fun k hk => (he k hk).trans ((F1.tr F2).env hk)
          rw [WB.2 env, ← hv env he2, ← hv2 env (agE F1 he2)]) (fun q' e' m' v' F B => h0 q' (step.trans e') m' v' ((F1.tr F2).tr F) B) (fun q' c' e' m' v' F T b' o' hv' => h1 q' c' (step.trans e') m' v' ((F1.tr F2).tr F) T b' o' (fun env he => hv' env (agE (F1.tr F2) he)))
        have jv : jn 20000 v x2 = (if v = 0 ∧ x2 = 0 then 0 else 1) := rfl
        refine ⟨fun z => ?_, fun z => ⟨fun z2 => ?_, fun z2 => ?_⟩⟩
        · unfold vv_X8_either0_J39 vv_X8_either0_J44
          rintro y rfl
          rw [if_neg (fun q => z q.1)] at jv; rw [← jv]; exact GO
        · unfold vv_X8_either0_J44
          rintro y rfl
          rw [if_pos ⟨z, z2⟩] at jv; rw [← jv]; exact GO
        · unfold vv_X8_either0_J39 vv_X8_either0_J44
          rintro y rfl
          rw [if_neg (fun q => z2 q.2)] at jv; rw [← jv]; exact GO
    · have step : pLoop b n sub opOr (f + 1) p c = (p, some c) := by
        simp only [pLoop, show opOr (tkC b n p) = 0 by unfold opOr; rw [if_neg (show ¬ tkC b n p = 7 from fun z => nw ((tkC_key (k := 10) (by decide) (by decide)).mp z))]]; rfl
      exact h1 p c step m v (FrM.rf m) hT hb ho hv
theorem ms_either0 {b : By} {n t : Nat} {sub : Pf} (hn : n ≤ 160) (hs : MSp b n t 0 vv_X8_both0 sub) (hok : okF n sub) (hW : okW sub) : MSp b n t 0 vv_X8_either0 (pSeq b n sub opOr) := by
  intro m p Q hT hb ho h0 h1
  unfold vv_X8_either0
  refine hs m p _ hT hb ho (fun q e m2 v F2 B2 => ?_) (fun q c e m2 v F2 T2 b2 o2 hv => ?_)
  · rintro y rfl
    refine ⟨1, ?_⟩
    unfold vv_X8_either0_L5
    exact h_isWordB B2.1 ⟨fun _ => h0 q (by unfold pSeq; rw [e]) m2 _ F2 B2, fun z => absurd rfl z⟩
  · rintro y rfl
    have es : pSeq b n sub opOr p = pLoop b n sub opOr 160 q c := by unfold pSeq; rw [e]
    exact ⟨161, ml_either0 hs hok hW 160 m2 q c y (by omega) T2 b2 o2 (hW _ _ _ e) (fun env he => hv env (fun k hk => (he k hk).trans (F2.env hk))) (fun q' e' m' v' F B => h0 q' (es.trans e') m' v' (F2.tr F) B) (fun q' c' e' m' v' F T b' o' hv' => h1 q' c' (es.trans e') m' v' (F2.tr F) T b' o' (fun env he => hv' env (agE F2 he)))⟩
theorem ml_added0 {b : By} {n t : Nat} {sub : Pf} {Q : Int32 → Sg → Prop} (hs : MSp b n t 0 vv_X8_term0 sub) (hok : okF n sub) (hW : okW sub) : ∀ (f : Nat) (m : Sg) (p : Nat) (c : List Int32) (v : Int32), n - p ≤ f → TkM m b n t p → m 0 25 = 0 → m 0 24 = nI 0 → WF c → (∀ env : Nat → Int32, (∀ k, k < 6 → env k = envM m k) → v = val env c) →
    (∀ q, pLoop b n sub opAdd f p c = (q, none) → ∀ m' v, FrM m m' → BdM m' q → Q v m') → (∀ q c', pLoop b n sub opAdd f p c = (q, some c') → ∀ m' v, FrM m m' → TkM m' b n t q → m' 0 25 = 0 → m' 0 24 = nI 0 → (∀ env : Nat → Int32, (∀ k, k < 6 → env k = envM m k) → v = val env c') → Q v m') → vv_X8_added0_L5 Q (f + 1) v m := by
  have stop : ∀ (f : Nat) (m : Sg) (v : Int32) (q : Nat), BdM m q → Q v m → vv_X8_added0_L5 Q (f + 1) v m := fun f m v q B hq => by
    unfold vv_X8_added0_L5
    exact h_isSignB B.1 ⟨fun z => absurd rfl z, fun _ => h_isSignB B.1 ⟨fun _ => hq, fun z => absurd rfl z⟩⟩
  intro f
  induction f with
  | zero =>
    intro m p c v hf hT hb ho hc hv h0 h1
    have hp : n ≤ p := by omega
    unfold vv_X8_added0_L5
    refine h_isSignM hT hb (by decide) (fun e => absurd (lt_of_tk e (by decide)) (by omega)) (fun _ => ⟨fun z => absurd rfl z, fun _ => ?_⟩)
    refine h_isSignM hT hb (by decide) (fun e => absurd (lt_of_tk e (by decide)) (by omega)) (fun _ => ⟨fun _ => h1 p c rfl m v (FrM.rf m) hT hb ho hv, fun z => absurd rfl z⟩)
  | succ f ih =>
    intro m p c v hf hT hb ho hc hv h0 h1
    have body : ∀ (op s : Int32), tkC b n p = s → isSg s = true → ¬ s = 0 → opAdd s = op → ¬ op = 0 → (¬ op < 20000 ∧ ¬ op = 20007 ∧ ¬ op = 20008) → (s = 43 → ∀ x y, jn op x y = x + y) → (¬ s = 43 → ∀ x y, jn op x y = x - y) → vv_X8_added0_J23 (vv_X8_added0_L5 Q (f + 1)) v m Q := by
      intro op s es hsg hs0 eop hop hop2 jp jm
      have hlt := lt_of_tk es hs0
      have hnx := nx_gt (b := b) hlt
      have e23 : m 0 23 = s := by
        have := (tkC_sign hsg).mp es
        rw [hT.2.2.2.2.2.1 this.1, this.2]
      have step : pLoop b n sub opAdd (f + 1) p c = (match sub (nx b n p) with | (q, none) => (q, none) | (q, some c') => pLoop b n sub opAdd f q (c ++ c' ++ [op])) := by
        simp only [pLoop, show opAdd (tkC b n p) = op by rw [es, eop]]
        rw [if_neg hop]; rfl
      have hk := hok (nx b n p) hnx.2
      have J39 : ∀ x2 : Int32, (x2 = 0 ↔ ¬ s = 43) → vv_X8_added0_J39 (vv_X8_added0_L5 Q (f + 1)) v x2 m Q := by
        intro x2 hx2
        unfold vv_X8_added0_J39
        rintro y rfl
        refine h_nextM hT hb ho hlt (sg_ne4 es hsg) (fun m1 T1 b1 o1 F1 => hs m1 _ _ T1 b1 o1 (fun q e m2 v2 F2 B2 => ?_) (fun q c2 e m2 v2 F2 T2 b2 o2 hv2 => ?_))
        · rintro x3 rfl
          rw [e] at step
          unfold vv_X8_added0_J62
          exact ⟨fun _ => by rintro z rfl; exact stop f m2 _ q B2 (h0 q step m2 _ (F1.tr F2) B2), fun _ => by rintro z rfl; exact stop f m2 _ q B2 (h0 q step m2 _ (F1.tr F2) B2)⟩
        · rintro x3 rfl
          rw [e] at step hk
          have a1 := hk.1
          dsimp only at a1
          have W2 := hW _ _ _ e
          have WB := WF_bin (op := op) hc W2 hop2
          have GO : vv_X8_added0_L5 Q (f + 1) (jn op v x3) m2 := ih m2 q _ _ (by omega) T2 b2 o2 WB.1 (fun env he => by
            have he2 := fun k hk => (he k hk).trans ((F1.tr F2).env hk)
            rw [WB.2 env, ← hv env he2, ← hv2 env (agE F1 he2)]) (fun q' e' m' v' F B => h0 q' (step.trans e') m' v' ((F1.tr F2).tr F) B) (fun q' c' e' m' v' F T b' o' hv' => h1 q' c' (step.trans e') m' v' ((F1.tr F2).tr F) T b' o' (fun env he => hv' env (agE (F1.tr F2) he)))
          unfold vv_X8_added0_J62
          refine ⟨fun z => ?_, fun z => ?_⟩
          · rintro w rfl
            rw [← jm (hx2.mp z)]; exact GO
          · rintro w rfl
            have : s = 43 := by
              rcases Classical.em (s = 43) with q | q
              · exact q
              · exact absurd (hx2.mpr q) z
            rw [← jp this]; exact GO
      unfold vv_X8_added0_J23
      rw [e23, lg_cmp_eq]
      refine ⟨fun z => J39 0 ⟨fun _ q => z (by rw [q]; rfl), fun _ => rfl⟩, fun z => J39 1 ⟨fun q => absurd q (by decide), fun q => absurd ((i64_eq s 43).mp z) q⟩⟩
    unfold vv_X8_added0_L5
    refine h_isSignM hT hb (by decide) (fun e43 => ⟨fun _ => body 20004 43 e43 (by decide) (by decide) rfl (by decide) (by decide) (fun _ _ _ => rfl) (fun z => absurd rfl z), fun z => absurd z (by decide)⟩) (fun n43 => ⟨fun z => absurd rfl z, fun _ => ?_⟩)
    refine h_isSignM hT hb (by decide) (fun e45 => ⟨fun z => absurd z (by decide), fun _ => body 20005 45 e45 (by decide) (by decide) rfl (by decide) (by decide) (fun z => absurd z (by decide)) (fun _ _ _ => rfl)⟩) (fun n45 => ⟨fun _ => ?_, fun z => absurd rfl z⟩)
    have step : pLoop b n sub opAdd (f + 1) p c = (p, some c) := by
      simp only [pLoop, show opAdd (tkC b n p) = 0 by unfold opAdd; rw [if_neg n43, if_neg n45]]; rfl
    exact h1 p c step m v (FrM.rf m) hT hb ho hv
theorem ms_added0 {b : By} {n t : Nat} {sub : Pf} (hn : n ≤ 160) (hs : MSp b n t 0 vv_X8_term0 sub) (hok : okF n sub) (hW : okW sub) : MSp b n t 0 vv_X8_added0 (pSeq b n sub opAdd) := by
  intro m p Q hT hb ho h0 h1
  unfold vv_X8_added0
  refine hs m p _ hT hb ho (fun q e m2 v F2 B2 => ?_) (fun q c e m2 v F2 T2 b2 o2 hv => ?_)
  · rintro y rfl
    refine ⟨1, ?_⟩
    unfold vv_X8_added0_L5
    exact h_isSignB B2.1 ⟨fun z => absurd rfl z, fun _ => h_isSignB B2.1 ⟨fun _ => h0 q (by unfold pSeq; rw [e]) m2 _ F2 B2, fun z => absurd rfl z⟩⟩
  · rintro y rfl
    have es : pSeq b n sub opAdd p = pLoop b n sub opAdd 160 q c := by unfold pSeq; rw [e]
    exact ⟨161, ml_added0 hs hok hW 160 m2 q c y (by omega) T2 b2 o2 (hW _ _ _ e) (fun env he => hv env (fun k hk => (he k hk).trans (F2.env hk))) (fun q' e' m' v' F B => h0 q' (es.trans e') m' v' (F2.tr F) B) (fun q' c' e' m' v' F T b' o' hv' => h1 q' c' (es.trans e') m' v' (F2.tr F) T b' o' (fun env he => hv' env (agE F2 he)))⟩
theorem ms_not0 {b : By} {n t : Nat} {lo : Nat → Pf} {sum : Pf} (hs : MSp b n t 0 vv_X8_added0 sum) (hW : okW sum) (l2 : MSp b n t 1 vv_X8_not1 (lo 2)) (pW : ∀ i, okW (lo i)) : MSp b n t 0 vv_X8_not0 (pNot b n 5 lo sum) := by
  intro m p Q hT hb ho h0 h1
  unfold vv_X8_not0
  refine h_isWordM (w := 12) hT hb (by decide) (by decide) (fun em ew => ⟨fun z => absurd z (by decide), fun _ => ?_⟩) (fun nw => ⟨fun _ => ?_, fun z => absurd rfl z⟩)
  · have et : tkC b n p = 9 := (tkC_key (k := 12) (by decide) (by decide)).mpr ⟨em, ew⟩
    have eN : pNot b n 5 lo sum p = (match lo 2 (nx b n p) with | (q, none) => (q, none) | (q, some c) => (q, some (c ++ [20007]))) := by
      unfold pNot; rw [if_pos et, if_neg (by decide)]; rfl
    refine h_opensM hT hb ho (by decide) (tkM_one em).1 (by rw [em]; decide) (fun z => absurd z (by decide)) (fun _ m1 T1 b1 o1 F1 => ⟨fun _ => l2 m1 _ _ T1 b1 o1 (fun q e m2 v F2 B2 => ?_) (fun q c e m2 v F2 T2 b2 o2 hv => ?_), fun z => absurd z (by decide)⟩)
    · rintro y rfl m3 rfl
      have F3 := (F1.tr F2).tr (FrM.put m2 (j := 24) (by decide) (m2 0 24 - 1))
      exact ⟨fun _ => h0 q (by rw [eN, e]) _ _ F3 (B2.st24 _), fun _ => h0 q (by rw [eN, e]) _ _ F3 (B2.st24 _)⟩
    · rintro y rfl m3 rfl
      have F3 := (F1.tr F2).tr (FrM.put m2 (j := 24) (by decide) (m2 0 24 - 1))
      have W := pW 2 _ _ _ e
      have fin : ∀ r : Int32, r = (if y = 0 then 1 else 0) → Q r (st m2 0 24 (m2 0 24 - 1)) := fun r hr => h1 q _ (by rw [eN, e]) _ r F3 (T2.st24 (by decide) _) (by rw [st_off _ (by decide)]; exact b2) (by rw [st_on, o2]; rfl) (fun env he => by
        rw [(WF_not W).2 env, ← hv env (agE F1 he), hr])
      exact ⟨fun z => fin 0 (by rw [if_neg z]), fun z => fin 1 (by rw [if_pos z])⟩
  · have nt : ¬ tkC b n p = 9 := fun z => nw ((tkC_key (k := 12) (by decide) (by decide)).mp z)
    have eN : pNot b n 5 lo sum p = (match sum p with | (q, none) => (q, none) | (q, some c) => if opCmp (tkC b n q) = 0 then (q, some c) else match sum (nx b n q) with | (r, none) => (r, none) | (r, some c') => (r, some (c ++ c' ++ [opCmp (tkC b n q)]))) := by
      unfold pNot; rw [if_neg nt]; rfl
    refine hs m p _ hT hb ho (fun q e m2 v F2 B2 => ?_) (fun q c e m2 v F2 T2 b2 o2 hv => ?_)
    · rintro y rfl
      exact h_isSignB B2.1 ⟨fun z => absurd rfl z, fun _ => h_isSignB B2.1 ⟨fun z => absurd rfl z, fun _ => h0 q (by rw [eN, e]) m2 _ F2 B2⟩⟩
    · rintro y rfl
      rw [e] at eN
      dsimp only at eN
      have W := hW _ _ _ e
      have body : ∀ (op s : Int32), tkC b n q = s → isSg s = true → ¬ s = 0 → opCmp s = op → ¬ op = 0 → (¬ op < 20000 ∧ ¬ op = 20007 ∧ ¬ op = 20008) → (s = 60 → ∀ x z : Int32, jn op x z = if z ≤ x then 0 else 1) → (¬ s = 60 → ∀ x z : Int32, jn op x z = if x = z then 1 else 0) → vv_X8_not0_J77 y m2 Q := by
        intro op s es hsg hs0 eop hop hop2 jl je
        have hlt := lt_of_tk es hs0
        rw [es, eop, if_neg hop] at eN
        have e23 : m2 0 23 = s := by
          have := (tkC_sign hsg).mp es
          rw [T2.2.2.2.2.2.1 this.1, this.2]
        have J66 : ∀ x2 : Int32, (x2 = 0 ↔ ¬ s = 60) → vv_X8_not0_J93 y x2 m2 Q := by
          intro x2 hx2
          unfold vv_X8_not0_J93 vv_X8_not0_J120
          rintro x rfl
          refine h_nextM T2 b2 o2 hlt (sg_ne4 es hsg) (fun m3 T3 b3 o3 F3 => hs m3 _ _ T3 b3 o3 (fun r e3 m4 v4 F4 B4 => ?_) (fun r c4 e3 m4 v4 F4 T4 b4 o4 hv4 => ?_))
          · rintro x3 rfl
            rw [e3] at eN
            have fin : ∀ u, Q u m4 := fun u => h0 r eN m4 u ((F2.tr F3).tr F4) B4
            exact ⟨fun _ => ⟨fun _ => fin _, fun _ => fin _⟩, fun _ => ⟨fun _ => fin _, fun _ => fin _⟩⟩
          · rintro x3 rfl
            rw [e3] at eN
            have W4 := hW _ _ _ e3
            have WB := WF_bin (op := op) W W4 hop2
            have fin : ∀ u, u = jn op y x3 → Q u m4 := fun u hu => h1 r _ eN m4 u ((F2.tr F3).tr F4) T4 b4 o4 (fun env he => by
              rw [WB.2 env, ← hv env he, ← hv4 env (agE (F2.tr F3) he), hu])
            refine ⟨fun z => ⟨fun z2 => ?_, fun z2 => ?_⟩, fun z => ⟨fun z2 => ?_, fun z2 => ?_⟩⟩
            · exact fin 0 (by rw [je (hx2.mp z), if_neg z2])
            · exact fin 1 (by rw [je (hx2.mp z), if_pos z2])
            · have e60 : s = 60 := by
                rcases Classical.em (s = 60) with a | a
                · exact a
                · exact absurd (hx2.mpr a) z
              exact fin 0 (by rw [jl e60, if_pos z2])
            · have e60 : s = 60 := by
                rcases Classical.em (s = 60) with a | a
                · exact a
                · exact absurd (hx2.mpr a) z
              exact fin 1 (by rw [jl e60, if_neg z2])
        unfold vv_X8_not0_J77
        rw [e23, lg_cmp_eq]
        exact ⟨fun z => J66 0 ⟨fun _ a => z (by rw [a]; rfl), fun _ => rfl⟩, fun z => J66 1 ⟨fun a => absurd a (by decide), fun a => absurd ((i64_eq s 60).mp z) a⟩⟩
      refine h_isSignM T2 b2 (by decide) (fun e60 => ⟨fun _ => body 20002 60 e60 (by decide) (by decide) rfl (by decide) (by decide) (fun _ _ _ => rfl) (fun z => absurd rfl z), fun z => absurd z (by decide)⟩) (fun n60 => ⟨fun z => absurd rfl z, fun _ => ?_⟩)
      refine h_isSignM T2 b2 (by decide) (fun e61 => ⟨fun _ => body 20003 61 e61 (by decide) (by decide) rfl (by decide) (by decide) (fun z => absurd z (by decide)) (fun _ _ _ => rfl), fun z => absurd z (by decide)⟩) (fun n61 => ⟨fun z => absurd rfl z, fun _ => ?_⟩)
      rw [if_pos (by unfold opCmp; rw [if_neg n60, if_neg n61])] at eN
      exact h1 q c eN m2 _ F2 T2 b2 o2 hv
