/-! ===== what codes are worth, and Text.value ===== -/
def nmE (env : Nat → Int32) (i : Int32) : Int32 := if i = 0 then env 0 else if i = 1 then env 1 else if i = 2 then env 2 else if i = 3 then env 3 else if i = 4 then env 4 else env 5
def jn (c a b : Int32) : Int32 := if c = 20000 then (if a = 0 ∧ b = 0 then 0 else 1) else if c = 20001 then (if a = 0 ∨ b = 0 then 0 else 1) else if c = 20002 then (if b ≤ a then 0 else 1) else if c = 20003 then (if a = b then 1 else 0) else if c = 20004 then a + b else if c = 20005 then a - b else a * b
def ev1 (env : Nat → Int32) (c : Int32) (s : List Int32) : List Int32 :=
  if c < 20000 then (if c < 10000 then c else nmE env (c - 10000)) :: s
  else if c = 20007 then (match s with | x :: s => (if x = 0 then 1 else 0) :: s | [] => [])
  else if c = 20008 then (match s with | x :: s => (-x) :: s | [] => [])
  else match s with | y :: x :: s => jn c x y :: s | s => s
def ev (env : Nat → Int32) : List Int32 → List Int32 → List Int32
  | [], s => s
  | c :: r, s => ev env r (ev1 env c s)
theorem ev_app (env : Nat → Int32) : ∀ c d s, ev env (c ++ d) s = ev env d (ev env c s)
  | [], _, _ => rfl
  | c :: r, d, s => by simp only [List.cons_append, ev]; exact ev_app env r d _
def val (env : Nat → Int32) (c : List Int32) : Int32 := (ev env c []).headD 0
def WF (c : List Int32) : Prop := ∀ env s, ev env c s = val env c :: s
theorem WF_of {c : List Int32} (h : ∀ env, ∃ v, ∀ s, ev env c s = v :: s) : WF c := by
  intro env s
  obtain ⟨v, hv⟩ := h env
  rw [hv s, show val env c = v by unfold val; rw [hv]; rfl]
theorem WF_bin {c d : List Int32} {op : Int32} (hc : WF c) (hd : WF d) (h : ¬ op < 20000 ∧ ¬ op = 20007 ∧ ¬ op = 20008) : WF (c ++ d ++ [op]) ∧ ∀ env, val env (c ++ d ++ [op]) = jn op (val env c) (val env d) := by
  have key : ∀ env s, ev env (c ++ d ++ [op]) s = jn op (val env c) (val env d) :: s := by
    intro env s
    rw [ev_app, ev_app, hc env s, hd env]
    simp only [ev, ev1, h.1, h.2.1, h.2.2, if_false]
  exact ⟨WF_of (fun env => ⟨_, key env⟩), fun env => by unfold val; rw [key]; rfl⟩
theorem WF_neg {c : List Int32} (hc : WF c) : WF (c ++ [20008]) ∧ ∀ env, val env (c ++ [20008]) = -val env c := by
  have key : ∀ env s, ev env (c ++ [20008]) s = -val env c :: s := by
    intro env s
    rw [ev_app, hc env s]
    rfl
  exact ⟨WF_of (fun env => ⟨_, key env⟩), fun env => by unfold val; rw [key]; rfl⟩
theorem WF_not {c : List Int32} (hc : WF c) : WF (c ++ [20007]) ∧ ∀ env, val env (c ++ [20007]) = if val env c = 0 then 1 else 0 := by
  have key : ∀ env s, ev env (c ++ [20007]) s = (if val env c = 0 then 1 else 0) :: s := by
    intro env s
    rw [ev_app, hc env s]
    rfl
  exact ⟨WF_of (fun env => ⟨_, key env⟩), fun env => by unfold val; rw [key]; rfl⟩
theorem WF_one {v : Int32} (h : v < 20000) : WF [v] ∧ ∀ env, val env [v] = if v < 10000 then v else nmE env (v - 10000) := by
  have key : ∀ env s, ev env [v] s = (if v < 10000 then v else nmE env (v - 10000)) :: s := by
    intro env s
    simp only [ev, ev1, h, if_true]
  exact ⟨WF_of (fun env => ⟨_, key env⟩), fun env => by unfold val; rw [key]; rfl⟩
def envP (pf : Nat → Int32) (topic day : Int32) : Nat → Int32 := fun k => if k = 0 then pf 4 else if k = 1 then pf 1 else if k = 2 then topic else if k = 3 then pf 2 else if k = 4 then day else pf 3
theorem h_named {nt P : Nat} {i topic day : Int32} {g : Sg} {Q : Int32 → Sg → Prop} (hP : isP P) (h : Q (nmE (envP (g P) topic day) i) g) : vv_X6_named nt i P topic day g Q := by
  unfold vv_X6_named
  unfold nmE envP at h
  refine ⟨hP, ?_, ?_, ?_, ?_, ?_, ?_⟩
  · rintro rfl; exact h
  · rintro rfl; exact h
  · rintro rfl; exact h
  · rintro rfl; exact h
  · rintro rfl; exact h
  · intro h0 h1 h2 h3 h4
    rw [if_neg h0, if_neg h1, if_neg h2, if_neg h3, if_neg h4] at h
    exact h
theorem h_joined {nt : Nat} {c a b : Int32} {g : Sg} {Q : Int32 → Sg → Prop} (h : Q (jn c a b) g) : vv_X6_joined nt c a b g Q := by
  unfold vv_X6_joined vv_X6_joined_J48
  refine ⟨?_, ?_, ?_, ?_, ?_, ?_, ?_⟩
  · rintro rfl
    simp only [jn, if_true] at h
    exact ⟨fun h1 => by rw [if_neg (fun q => h1 q.1)] at h; exact h, fun h1 => ⟨fun h2 => by rw [if_pos ⟨h1, h2⟩] at h; exact h, fun h2 => by rw [if_neg (fun q => h2 q.2)] at h; exact h⟩⟩
  · rintro rfl
    rw [show jn 20001 a b = (if a = 0 ∨ b = 0 then 0 else 1) from rfl] at h
    exact ⟨fun h1 => by rw [if_pos (Or.inl h1)] at h; exact h, fun h1 => ⟨fun h2 => by rw [if_pos (Or.inr h2)] at h; exact h, fun h2 => by rw [if_neg (fun q => q.elim h1 h2)] at h; exact h⟩⟩
  · rintro rfl
    rw [show jn 20002 a b = (if b ≤ a then 0 else 1) from rfl] at h
    exact ⟨fun h1 => by rw [if_pos h1] at h; exact h, fun h1 => by rw [if_neg h1] at h; exact h⟩
  · rintro rfl
    rw [show jn 20003 a b = (if a = b then 1 else 0) from rfl] at h
    exact ⟨fun h1 => by rw [if_neg h1] at h; exact h, fun h1 => by rw [if_pos h1] at h; exact h⟩
  · rintro rfl; exact h
  · rintro rfl; exact h
  · intro h0 h1 h2 h3 h4 h5
    unfold jn at h
    rw [if_neg h0, if_neg h1, if_neg h2, if_neg h3, if_neg h4, if_neg h5] at h
    exact h
theorem nI_sub1 {n : Nat} (h : 0 < n) : nI n - 1 = nI (n - 1) := by
  obtain ⟨k, rfl⟩ : ∃ k, n = k + 1 := ⟨n - 1, by omega⟩
  rw [nI_pred]
  rfl
theorem getD_cons_succ' {α : Type} (a : α) (l : List α) (k : Nat) (d : α) : (a :: l).getD (k + 1) d = l.getD k d := by simp
set_option maxHeartbeats 1000000 in
theorem vl_loop {nt T P to len : Nat} {topic day : Int32} {Q : Int32 → Sg → Prop} {pf : Nat → Int32} (hT : isT nt T) (hP : isP P) (hto : to ≤ len) (hlen : len < 2 ^ 31) :
    ∀ (rest : List Int32) (j : Nat) (s : List Int32) (g : Sg), j + rest.length = to → (g T 9).toNatClampNeg = len → (∀ k, k < rest.length → g (T + 1) (j + k) = rest.getD k 0) → s.length ≤ j → (∀ k, k < s.length → g (T + 2) (s.length - 1 - k) = s.getD k 0) → g P = pf →
      (∀ g', (∀ k, k ≠ T + 2 → g' k = g k) → Q ((ev (envP pf topic day) rest s).headD 0) g') → ∃ n, vv_X6_value_L63 nt Q n T P topic day (nI to) (nI s.length) (nI j) g := by
  have hPT : P ≠ T + 2 := by have := hT.1; unfold isP at hP; omega
  have up : ∀ (g : Sg) (i : Nat) (x : Int32), ∀ k, k ≠ T + 2 → st g (T + 2) i x k = g k := fun g i x k hk => st_ne hk
  intro rest
  induction rest with
  | nil =>
    intro j s g h1 h2 h3 h4 h5 h6 hQ
    simp only [List.length_nil, Nat.add_zero] at h1
    subst h1
    refine ⟨1, ?_⟩
    unfold vv_X6_value_L63
    refine ⟨fun h => absurd h (nI_pos (by omega)), fun _ => ⟨fun _ => ?_, fun h => absurd (nI_le (Nat.le_refl j) (by omega)) h⟩⟩
    unfold vv_X6_value_J267
    cases s with
    | nil => exact ⟨fun _ => hQ g (fun _ _ => rfl), fun h => absurd (show nI 0 ≤ 0 by decide) h⟩
    | cons x s =>
      simp only [List.length_cons] at h4 h5 ⊢
      refine ⟨fun h => absurd h (nI_nle (by omega) (by omega)), fun _ => ?_⟩
      rw [nI_sub1 (by omega), h2, nI_clamp (by omega)]
      refine ⟨vp_in_nI (by omega) hlen, ?_⟩
      have e := h5 0 (by omega)
      rw [show s.length + 1 - 1 - 0 = s.length + 1 - 1 by omega] at e
      rw [e]
      exact hQ g (fun _ _ => rfl)
  | cons c rest ih =>
    intro j s g h1 h2 h3 h4 h5 h6 hQ
    simp only [List.length_cons] at h1 h3
    have e0 : g (T + 1) j = c := by have := h3 0 (by omega); simpa using this
    have h3' : ∀ k, k < rest.length → g (T + 1) (j + 1 + k) = rest.getD k 0 := fun k hk => by
      have := h3 (k + 1) (by omega)
      rw [getD_cons_succ'] at this
      rw [← this]; congr 1; omega
    have t1 : T + 1 ≠ T + 2 := by omega
    have t0 : T ≠ T + 2 := by omega
    -- the head of the loop, once what follows is known
    have head : ∀ n, (¬ c < 20000 → (c = 20007 ∨ c = 20008) → vv_X6_value_J167 nt (vv_X6_value_L63 nt Q n) T P topic day (nI to) (nI s.length) (nI j) c g Q) →
        (¬ c < 20000 → ¬ c = 20007 → ¬ c = 20008 → ((nI s.length ≤ 1 → vv_X6_value_L63 nt Q n T P topic day (nI to) (nI s.length) (nI (j + 1)) g) ∧ (¬ nI s.length ≤ 1 → vp_in (nI s.length + (-1) - 1) len ∧ vp_in (nI s.length + (-1)) len ∧ vv_X6_value_L63 nt Q n T P topic day (nI to) (nI s.length + (-1)) (nI (j + 1)) (st g (T + 2) (nI s.length + (-1) - 1).toNatClampNeg (jn c (g (T + 2) (nI s.length + (-1) - 1).toNatClampNeg) (g (T + 2) (nI s.length + (-1)).toNatClampNeg)))))) →
        (c < 20000 → vv_X6_value_L63 nt Q n T P topic day (nI to) (nI (s.length + 1)) (nI (j + 1)) (st g (T + 2) s.length (if c < 10000 then c else nmE (envP pf topic day) (c - 10000)))) →
        vv_X6_value_L63 nt Q (n + 1) T P topic day (nI to) (nI s.length) (nI j) g := by
      intro n k1 k2 k3
      unfold vv_X6_value_L63
      refine ⟨fun h => absurd h (nI_pos (by omega)), fun _ => ⟨fun h => absurd h (nI_ge (by omega) (by omega)), fun _ => ⟨fun h => ?_, fun _ => ⟨?_, ?_⟩⟩⟩⟩
      · rw [h2] at h; exact absurd h (nI_ge (by omega) (by omega))
      · rw [h2]; exact vp_in_nI (by omega) hlen
      · intro y hy
        rw [nI_clamp (by omega), e0] at hy
        subst hy
        refine ⟨fun hge => ⟨fun e7 => k1 (by rw [e7]; decide) (Or.inl e7), fun n7 => ⟨fun n8 => ?_, fun e8 => k1 (by rw [e8]; decide) (Or.inr e8)⟩⟩, fun hlt => ?_⟩
        · have hn : ¬ y < 20000 := Int32.not_lt.mpr hge
          obtain ⟨q1, q2⟩ := k2 hn n7 n8
          refine ⟨fun hs => ?_, fun hs => ?_⟩
          · unfold vv_X6_value_J261
            rintro x8 rfl
            rw [nI_1]; exact q1 hs
          · rintro x7 rfl
            obtain ⟨r1, r2, r3⟩ := q2 hs
            refine ⟨by rw [h2]; exact r1, by rw [h2]; exact r2, h_joined ⟨by rw [h2]; exact r1, ?_⟩⟩
            rintro g2 rfl
            unfold vv_X6_value_J261
            rintro x8 rfl
            rw [nI_1]; exact r3
        · have hn : y < 20000 := Int32.not_le.mp hlt
          refine ⟨fun h => ?_, fun _ => ⟨fun hge => ?_, fun hl => ?_⟩⟩
          · rw [h2] at h; exact absurd h (nI_ge (by omega) (by omega))
          · refine h_named hP ?_
            unfold vv_X6_value_J144
            refine ⟨by rw [h2]; exact vp_in_nI (by omega) hlen, ?_⟩
            rintro g2 rfl x7 rfl
            unfold vv_X6_value_J261
            rintro x8 rfl
            rw [nI_1, nI_1, nI_clamp (by omega), h6]
            have := k3 hn
            rw [if_neg (Int32.not_lt.mpr hge)] at this
            exact this
          · unfold vv_X6_value_J144
            refine ⟨by rw [h2]; exact vp_in_nI (by omega) hlen, ?_⟩
            rintro g2 rfl x7 rfl
            unfold vv_X6_value_J261
            rintro x8 rfl
            rw [nI_1, nI_1, nI_clamp (by omega)]
            have := k3 hn
            rw [if_pos (Int32.not_le.mp hl)] at this
            exact this
    by_cases hc : c < 20000
    · -- a number or a name
      have hev : ev (envP pf topic day) (c :: rest) s = ev (envP pf topic day) rest ((if c < 10000 then c else nmE (envP pf topic day) (c - 10000)) :: s) := by simp only [ev, ev1, hc, if_true]
      generalize hv : (if c < 10000 then c else nmE (envP pf topic day) (c - 10000)) = v at hev head
      obtain ⟨n, hn⟩ := ih (j + 1) (v :: s) (st g (T + 2) s.length v) (by omega) (by rw [st_ne t0]; exact h2) (fun k hk => by rw [st_ne t1]; exact h3' k hk) (by simp only [List.length_cons]; omega)
        (fun k hk => by
          simp only [List.length_cons] at hk ⊢
          rw [st_at]
          cases k with
          | zero => rw [if_pos (by omega)]; rfl
          | succ k => rw [if_neg (by omega), getD_cons_succ', show s.length + 1 - 1 - (k + 1) = s.length - 1 - k by omega]; exact h5 k (by omega))
        (by rw [st_ne hPT]; exact h6) (fun g' hg' => by rw [← hev]; exact hQ g' (fun k hk => by rw [hg' k hk, st_ne hk]))
      simp only [List.length_cons] at hn
      exact ⟨n + 1, head n (fun h => absurd hc h) (fun h => absurd hc h) (fun _ => hn)⟩
    · by_cases h78 : c = 20007 ∨ c = 20008
      · -- not, minus
        cases s with
        | nil =>
          have hev : ev (envP pf topic day) (c :: rest) [] = ev (envP pf topic day) rest [] := by
            rcases h78 with rfl | rfl <;> rfl
          obtain ⟨n, hn⟩ := ih (j + 1) [] g (by omega) h2 h3' (by simp) (fun k hk => by simp at hk) h6 (fun g' hg' => by rw [← hev]; exact hQ g' hg')
          refine ⟨n + 1, head n (fun _ _ => ?_) (fun _ a b => absurd h78 (fun q => q.elim a b)) (fun h => absurd h hc)⟩
          unfold vv_X6_value_J167
          refine ⟨fun _ => ?_, fun h => absurd (show nI 0 ≤ 0 by decide) h⟩
          unfold vv_X6_value_J261
          rintro x8 rfl
          rw [nI_1]; exact hn
        | cons x s =>
          simp only [List.length_cons] at h4 h5 ⊢
          have ex : g (T + 2) s.length = x := by
            have := h5 0 (by omega)
            rw [show s.length + 1 - 1 - 0 = s.length by omega] at this
            simpa using this
          obtain ⟨v, hv, hev⟩ : ∃ v : Int32, (v = if c = 20008 then -x else (if x = 0 then 1 else 0)) ∧ ev (envP pf topic day) (c :: rest) (x :: s) = ev (envP pf topic day) rest (v :: s) := by
            rcases h78 with rfl | rfl
            · exact ⟨_, rfl, rfl⟩
            · exact ⟨_, rfl, rfl⟩
          obtain ⟨n, hn⟩ := ih (j + 1) (v :: s) (st g (T + 2) s.length v) (by omega) (by rw [st_ne t0]; exact h2) (fun k hk => by rw [st_ne t1]; exact h3' k hk) (by simp only [List.length_cons]; omega)
            (fun k hk => by
              simp only [List.length_cons] at hk ⊢
              rw [st_at]
              cases k with
              | zero => rw [if_pos (by omega)]; rfl
              | succ k =>
                rw [if_neg (by omega), getD_cons_succ']
                have := h5 (k + 1) (by omega)
                rw [getD_cons_succ'] at this
                exact this)
            (by rw [st_ne hPT]; exact h6) (fun g' hg' => by rw [← hev]; exact hQ g' (fun k hk => by rw [hg' k hk, st_ne hk]))
          simp only [List.length_cons] at hn
          refine ⟨n + 1, head n (fun _ _ => ?_) (fun _ a b => absurd h78 (fun q => q.elim a b)) (fun h => absurd h hc)⟩
          unfold vv_X6_value_J167
          refine ⟨fun h => absurd h (nI_nle (by simp only [List.length_cons]; omega) (by simp only [List.length_cons]; omega)), fun _ => ?_⟩
          have ei : nI (s.length + 1) - 1 = nI s.length := nI_pred _
          rw [List.length_cons, ei, nI_clamp (by omega), ex]
          have fin : vv_X6_value_J218 nt (vv_X6_value_L63 nt Q n) T P topic day (nI to) (nI (s.length + 1)) (nI j) T (nI s.length) v g Q := by
            unfold vv_X6_value_J218
            refine ⟨by rw [h2]; exact vp_in_nI (by omega) hlen, ?_⟩
            rintro g2 rfl
            unfold vv_X6_value_J261
            rintro x8 rfl
            rw [nI_1, nI_clamp (by omega)]
            exact hn
          refine ⟨fun n8 => ⟨by rw [h2]; exact vp_in_nI (by omega) hlen, fun hx => ?_, fun hx => ?_⟩, fun e8 => ⟨by rw [h2]; exact vp_in_nI (by omega) hlen, ?_⟩⟩
          · rw [if_neg n8, if_neg hx] at hv; rw [← hv]; exact fin
          · rw [if_neg n8, if_pos hx] at hv; rw [← hv]; exact fin
          · rw [if_pos e8] at hv; rw [← hv]; exact fin
      · -- two are joined
        have n7 : ¬ c = 20007 := fun q => h78 (Or.inl q)
        have n8 : ¬ c = 20008 := fun q => h78 (Or.inr q)
        cases s with
        | nil =>
          have hev : ev (envP pf topic day) (c :: rest) [] = ev (envP pf topic day) rest [] := by simp only [ev, ev1, hc, n7, n8, if_false]
          obtain ⟨n, hn⟩ := ih (j + 1) [] g (by omega) h2 h3' (by simp) (fun k hk => by simp at hk) h6 (fun g' hg' => by rw [← hev]; exact hQ g' hg')
          exact ⟨n + 1, head n (fun _ q => absurd q h78) (fun _ _ _ => ⟨fun _ => hn, fun h => absurd (show nI 0 ≤ 1 by decide) h⟩) (fun h => absurd h hc)⟩
        | cons y s =>
          cases s with
          | nil =>
            have hev : ev (envP pf topic day) (c :: rest) [y] = ev (envP pf topic day) rest [y] := by simp only [ev, ev1, hc, n7, n8, if_false]
            obtain ⟨n, hn⟩ := ih (j + 1) [y] g (by omega) h2 h3' (by simp only [List.length_cons, List.length_nil] at h4 ⊢; omega) h5 h6 (fun g' hg' => by rw [← hev]; exact hQ g' hg')
            exact ⟨n + 1, head n (fun _ q => absurd q h78) (fun _ _ _ => ⟨fun _ => hn, fun h => absurd (show nI 1 ≤ 1 by decide) h⟩) (fun h => absurd h hc)⟩
          | cons x s =>
            have hev : ev (envP pf topic day) (c :: rest) (y :: x :: s) = ev (envP pf topic day) rest (jn c x y :: s) := by simp only [ev, ev1, hc, n7, n8, if_false]
            simp only [List.length_cons] at h4 h5
            have ey : g (T + 2) (s.length + 1) = y := by
              have := h5 0 (by omega)
              rw [show s.length + 1 + 1 - 1 - 0 = s.length + 1 by omega] at this
              simpa using this
            have ex : g (T + 2) s.length = x := by
              have := h5 1 (by omega)
              rw [show s.length + 1 + 1 - 1 - 1 = s.length by omega] at this
              simpa using this
            obtain ⟨n, hn⟩ := ih (j + 1) (jn c x y :: s) (st g (T + 2) s.length (jn c x y)) (by omega) (by rw [st_ne t0]; exact h2) (fun k hk => by rw [st_ne t1]; exact h3' k hk) (by simp only [List.length_cons]; omega)
              (fun k hk => by
                simp only [List.length_cons] at hk ⊢
                rw [st_at]
                cases k with
                | zero => rw [if_pos (by omega)]; rfl
                | succ k =>
                  rw [if_neg (by omega), getD_cons_succ']
                  have := h5 (k + 2) (by omega)
                  rw [getD_cons_succ', getD_cons_succ'] at this
                  rw [← this]; congr 1; omega)
              (by rw [st_ne hPT]; exact h6) (fun g' hg' => by rw [← hev]; exact hQ g' (fun k hk => by rw [hg' k hk, st_ne hk]))
            simp only [List.length_cons] at hn
            refine ⟨n + 1, head n (fun _ q => absurd q h78) (fun _ _ _ => ⟨fun h => ?_, fun _ => ?_⟩) (fun h => absurd h hc)⟩
            · exact absurd h (nI_ge (a := 1) (by simp only [List.length_cons]; omega) (by simp only [List.length_cons]; omega))
            · have e1 : nI (y :: x :: s).length + (-1) = nI (s.length + 1) := by simp only [List.length_cons]; exact pk_m1 _
              rw [e1, nI_pred, nI_clamp (by omega), nI_clamp (by omega), ex, ey]
              exact ⟨vp_in_nI (by omega) hlen, vp_in_nI (by omega) hlen, hn⟩
/-- a text of the class holds these codes: of feels, weighs, smooths -/
def CodC (g : Sg) (T : Nat) (cods : Nat → List Int32) : Prop := (g T 9).toNatClampNeg = (cods 0).length + (cods 1).length + (cods 2).length ∧ (cods 0).length + (cods 1).length + (cods 2).length < 2 ^ 31 ∧ g T 2 = nI (cods 0).length ∧ g T 3 = nI ((cods 0).length + (cods 1).length) ∧ (∀ k, k < (cods 0).length → g (T + 1) k = (cods 0).getD k 0) ∧ (∀ k, k < (cods 1).length → g (T + 1) ((cods 0).length + k) = (cods 1).getD k 0) ∧ (∀ k, k < (cods 2).length → g (T + 1) ((cods 0).length + (cods 1).length + k) = (cods 2).getD k 0)
theorem h_value {nt T P w : Nat} {topic day : Int32} {g : Sg} {Q : Int32 → Sg → Prop} {cods : Nat → List Int32} (hT : isT nt T) (hP : isP P) (hw : w < 3) (hc : CodC g T cods) (hQ : ∀ g', (∀ k, k ≠ T + 2 → g' k = g k) → Q (val (envP (g P) topic day) (cods w)) g') : vv_X6_value nt T (nI w) P topic day g Q := by
  obtain ⟨h9, hlen, h2, h3, k0, k1, k2⟩ := hc
  unfold vv_X6_value
  refine ⟨hT, hP, ?_⟩
  have fin : ∀ (from_ to : Nat), from_ + (cods w).length = to → to ≤ (cods 0).length + (cods 1).length + (cods 2).length → (∀ k, k < (cods w).length → g (T + 1) (from_ + k) = (cods w).getD k 0) → vv_X6_value_J54 nt T P topic day (nI from_) (nI to) g Q := by
    intro from_ to e1 e2 e3
    unfold vv_X6_value_J54
    rintro x6 rfl x7 rfl x8 rfl
    exact vl_loop hT hP e2 hlen (cods w) from_ [] g e1 h9 e3 (Nat.zero_le _) (fun k hk => by simp at hk) rfl hQ
  rcases (show w = 0 ∨ w = 1 ∨ w = 2 by omega) with rfl | rfl | rfl
  · refine ⟨fun h => absurd (show nI 0 = 0 by rfl) h, fun _ => ?_⟩
    unfold vv_X6_value_J24
    rintro x5 rfl
    refine ⟨fun h => absurd (show nI 0 = 0 by rfl) h, fun _ => ?_⟩
    rw [h2]
    exact fin 0 _ (by omega) (by omega) (fun k hk => by rw [Nat.zero_add]; exact k0 k hk)
  · refine ⟨fun _ => ⟨fun h => absurd (show nI 1 = 1 by rfl) h, fun _ => ?_⟩, fun h => absurd h (by decide)⟩
    unfold vv_X6_value_J24
    rintro x5 rfl
    refine ⟨fun _ => ⟨fun h => absurd (show nI 1 = 1 by rfl) h, fun _ => ?_⟩, fun h => absurd h (by decide)⟩
    rw [h2, h3]
    exact fin _ _ rfl (by omega) k1
  · refine ⟨fun _ => ⟨fun _ => ?_, fun h => absurd h (by decide)⟩, fun h => absurd h (by decide)⟩
    unfold vv_X6_value_J24
    rintro x5 rfl
    refine ⟨fun _ => ⟨fun _ => ?_, fun h => absurd h (by decide)⟩, fun h => absurd h (by decide)⟩
    rw [h3, h9]
    exact fin _ _ rfl (Nat.le_refl _) k2
