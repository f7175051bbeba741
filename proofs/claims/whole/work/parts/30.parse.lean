/-! ===== texts: tokens, the reading of a text, what its codes are worth (pure) ===== -/
abbrev By : Type := Nat → Int32
def skp (P : Int32 → Bool) (b : By) (n : Nat) : Nat → Nat → Nat
  | 0, p => p
  | f + 1, p => if p < n ∧ P (b p) = true then skp P b n f (p + 1) else p
def skF (P : Int32 → Bool) (b : By) (n p : Nat) : Nat := skp P b n (n - p) p
theorem skF_step {P : Int32 → Bool} {b : By} {n p : Nat} (h : p < n) (hP : P (b p) = true) : skF P b n p = skF P b n (p + 1) := by
  unfold skF
  rw [show n - p = (n - (p + 1)) + 1 by omega]
  simp only [skp, h, hP, and_self, if_true]
theorem skF_stop {P : Int32 → Bool} {b : By} {n p : Nat} (h : ¬ (p < n ∧ P (b p) = true)) : skF P b n p = p := by
  unfold skF
  cases hm : n - p with
  | zero => rfl
  | succ k => simp only [skp, h, if_false]
theorem skp_ge (P : Int32 → Bool) (b : By) (n : Nat) : ∀ f p, p ≤ skp P b n f p
  | 0, p => Nat.le_refl p
  | f + 1, p => by
    simp only [skp]
    split
    · exact Nat.le_trans (Nat.le_succ p) (skp_ge P b n f (p + 1))
    · exact Nat.le_refl p
theorem skp_le (P : Int32 → Bool) (b : By) (n : Nat) : ∀ f p, p ≤ n → skp P b n f p ≤ n
  | 0, p, h => h
  | f + 1, p, h => by
    simp only [skp]
    split
    · rename_i hh
      exact skp_le P b n f (p + 1) hh.1
    · exact h
theorem skF_ge (P : Int32 → Bool) (b : By) (n p : Nat) : p ≤ skF P b n p := skp_ge P b n _ p
theorem skF_le (P : Int32 → Bool) (b : By) {n p : Nat} (h : p ≤ n) : skF P b n p ≤ n := skp_le P b n _ p h
def isBl (x : Int32) : Bool := decide (x = 32) || decide (x = 10)
def isLo (x : Int32) : Bool := decide ((97 : Int32) ≤ x) && decide (x ≤ 122)
def isDg (x : Int32) : Bool := decide ((48 : Int32) ≤ x) && decide (x ≤ 57)
def isSg (x : Int32) : Bool := decide (x = 40) || decide (x = 41) || decide (x = 59) || decide (x = 43) || decide (x = 45) || decide (x = 42) || decide (x = 60) || decide (x = 61)
/-- the letters from p up to q -/
def wl (b : By) (p q : Nat) : List Int32 := (List.range (q - p)).map (fun i => b (p + i))
/-- which word they spell: 1 .. 6 names, 7 .. 12 keys, 0 none -/
def wix (w : List Int32) : Nat := if w = sB.getD 1 [] then 1 else if w = sB.getD 2 [] then 2 else if w = sB.getD 3 [] then 3 else if w = sB.getD 4 [] then 4 else if w = sB.getD 5 [] then 5 else if w = sB.getD 6 [] then 6 else if w = sB.getD 7 [] then 7 else if w = sB.getD 8 [] then 8 else if w = sB.getD 9 [] then 9 else if w = sB.getD 10 [] then 10 else if w = sB.getD 11 [] then 11 else if w = sB.getD 12 [] then 12 else 0
theorem wix_of {w : List Int32} : ∀ k, 1 ≤ k → k < 13 → (w = sB.getD k [] ↔ wix w = k) := by
  intro k h1 h2
  constructor
  · intro h
    subst h
    revert h1 h2
    rcases (show k = 0 ∨ k = 1 ∨ k = 2 ∨ k = 3 ∨ k = 4 ∨ k = 5 ∨ k = 6 ∨ k = 7 ∨ k = 8 ∨ k = 9 ∨ k = 10 ∨ k = 11 ∨ k = 12 ∨ 13 ≤ k by omega) with rfl | rfl | rfl | rfl | rfl | rfl | rfl | rfl | rfl | rfl | rfl | rfl | rfl | h
    all_goals first | (intro h1 h2; omega) | (intro _ _; decide +kernel)
  · intro h
    unfold wix at h
    split at h
    · subst h; assumption
    split at h
    · subst h; assumption
    split at h
    · subst h; assumption
    split at h
    · subst h; assumption
    split at h
    · subst h; assumption
    split at h
    · subst h; assumption
    split at h
    · subst h; assumption
    split at h
    · subst h; assumption
    split at h
    · subst h; assumption
    split at h
    · subst h; assumption
    split at h
    · subst h; assumption
    split at h
    · subst h; assumption
    · omega
def wtk (k : Nat) : Int32 := if k = 0 then 1 else if k < 7 then 3 else nI (k - 3)
def dcI (b : By) (p : Nat) : Nat → Int32
  | 0 => 0
  | k + 1 => dcI b p k * 10 + b (p + k) - 48
/-- the token at p (no blank there): its code in the class, its end, its value -/
def tkC (b : By) (n p : Nat) : Int32 := if n ≤ p then 0 else if isLo (b p) = true then wtk (wix (wl b p (skF isLo b n p))) else if isDg (b p) = true then (if 4 < skF isDg b n p - p then 1 else 2) else if isSg (b p) = true then b p else 1
def stp (b : By) (n p : Nat) : Nat := if n ≤ p then p else if isLo (b p) = true then skF isLo b n p else if isDg (b p) = true then skF isDg b n p else p + 1
def vlC (b : By) (n p : Nat) : Int32 := if n ≤ p then 0 else if isLo (b p) = true then (if wtk (wix (wl b p (skF isLo b n p))) = 3 then 10000 + nI (wix (wl b p (skF isLo b n p)) - 1) else 0) else if isDg (b p) = true then dcI b p (skF isDg b n p - p) else 0
def nx (b : By) (n p : Nat) : Nat := skF isBl b n (stp b n p)
theorem stp_gt {b : By} {n p : Nat} (h : p < n) : p < stp b n p ∧ stp b n p ≤ n := by
  unfold stp
  rw [if_neg (by omega)]
  split
  · rename_i hl
    rw [skF_step h hl]
    exact ⟨skF_ge _ _ _ _, skF_le _ _ (by omega)⟩
  split
  · rename_i hl
    rw [skF_step h hl]
    exact ⟨skF_ge _ _ _ _, skF_le _ _ (by omega)⟩
  · omega
theorem nx_gt {b : By} {n p : Nat} (h : p < n) : p < nx b n p ∧ nx b n p ≤ n := by
  have h1 := stp_gt (b := b) h
  unfold nx
  exact ⟨Nat.lt_of_lt_of_le h1.1 (skF_ge _ _ _ _), skF_le _ _ h1.2⟩
theorem tkC_lt {b : By} {n p : Nat} (h : ¬ tkC b n p = 0) : p < n := by
  rcases Nat.lt_or_ge p n with q | q
  · exact q
  · exact absurd (by unfold tkC; rw [if_pos q]) h
abbrev PR : Type := Nat × Option (List Int32)
abbrev Pf : Type := Nat → PR
def pLoop (b : By) (n : Nat) (sub : Pf) (op : Int32 → Int32) : Nat → Nat → List Int32 → PR
  | 0, p, c => (p, some c)
  | f + 1, p, c => if op (tkC b n p) = 0 then (p, some c) else match sub (nx b n p) with
    | (q, none) => (q, none)
    | (q, some c') => pLoop b n sub op f q (c ++ c' ++ [op (tkC b n p)])
def pSeq (b : By) (n : Nat) (sub : Pf) (op : Int32 → Int32) : Pf := fun p => match sub p with
  | (q, none) => (q, none)
  | (q, some c) => pLoop b n sub op 160 q c
def opMul (t : Int32) : Int32 := if t = 42 then 20006 else 0
def opAdd (t : Int32) : Int32 := if t = 43 then 20004 else if t = 45 then 20005 else 0
def opAnd (t : Int32) : Int32 := if t = 8 then 20001 else 0
def opOr (t : Int32) : Int32 := if t = 7 then 20000 else 0
def opCmp (t : Int32) : Int32 := if t = 60 then 20002 else if t = 61 then 20003 else 0
def pOne (b : By) (n d : Nat) (lo : Nat → Pf) : Pf := fun p =>
  if tkC b n p = 2 ∨ tkC b n p = 3 then (nx b n p, some [vlC b n p])
  else if tkC b n p = 45 then (if d = 0 then (p, none) else match lo 5 (nx b n p) with
    | (q, none) => (q, none)
    | (q, some c) => (q, some (c ++ [20008])))
  else if tkC b n p = 40 then (if d = 0 then (p, none) else match lo 0 (nx b n p) with
    | (q, none) => (q, none)
    | (q, some c) => if tkC b n q = 41 then (nx b n q, some c) else (q, none))
  else (p, none)
def pNot (b : By) (n d : Nat) (lo : Nat → Pf) (sum : Pf) : Pf := fun p =>
  if tkC b n p = 9 then (if d = 0 then (p, none) else match lo 2 (nx b n p) with
    | (q, none) => (q, none)
    | (q, some c) => (q, some (c ++ [20007])))
  else match sum p with
    | (q, none) => (q, none)
    | (q, some c) => if opCmp (tkC b n q) = 0 then (q, some c) else match sum (nx b n q) with
      | (r, none) => (r, none)
      | (r, some c') => (r, some (c ++ c' ++ [opCmp (tkC b n q)]))
def mkO (b : By) (n d : Nat) (lo : Nat → Pf) : Pf := pOne b n d lo
def mkT (b : By) (n d : Nat) (lo : Nat → Pf) : Pf := pSeq b n (mkO b n d lo) opMul
def mkS (b : By) (n d : Nat) (lo : Nat → Pf) : Pf := pSeq b n (mkT b n d lo) opAdd
def mkN (b : By) (n d : Nat) (lo : Nat → Pf) : Pf := pNot b n d lo (mkS b n d lo)
def mkB (b : By) (n d : Nat) (lo : Nat → Pf) : Pf := pSeq b n (mkN b n d lo) opAnd
def mkE (b : By) (n d : Nat) (lo : Nat → Pf) : Pf := pSeq b n (mkB b n d lo) opOr
def mkP (b : By) (n d : Nat) (lo : Nat → Pf) (i : Nat) : Pf := if i = 0 then mkE b n d lo else if i = 1 then mkB b n d lo else if i = 2 then mkN b n d lo else if i = 3 then mkS b n d lo else if i = 4 then mkT b n d lo else mkO b n d lo
def pL (b : By) (n : Nat) : Nat → Nat → Pf
  | 0 => mkP b n 0 (fun _ p => (p, none))
  | d + 1 => mkP b n (d + 1) (pL b n d)
def pPart (b : By) (n : Nat) (key : Int32) : Pf := fun p => if tkC b n p = key then (match pL b n 5 0 (nx b n p) with
    | (q, none) => (q, none)
    | (q, some c) => if tkC b n q = 59 then (nx b n q, some c) else (q, none)) else (p, none)
def pRead (b : By) (n : Nat) : Nat × Option (List Int32 × List Int32 × List Int32) := match pPart b n 4 (skF isBl b n 0) with
  | (p, none) => (p, none)
  | (p, some c0) => match pPart b n 5 p with
    | (q, none) => (q, none)
    | (q, some c1) => match pPart b n 6 q with
      | (r, none) => (r, none)
      | (r, some c2) => if tkC b n r = 0 then (r, some (c0, c1, c2)) else (r, none)
/-- what comes out lies ahead, and has no more codes than bytes -/
def okR (n p : Nat) (r : PR) : Prop := p ≤ r.1 ∧ r.1 ≤ n ∧ ∀ c, r.2 = some c → p + c.length ≤ r.1
def okF (n : Nat) (f : Pf) : Prop := ∀ p, p ≤ n → okR n p (f p)
theorem pLoop_ok {b : By} {n : Nat} {sub : Pf} {op : Int32 → Int32} (h0 : op 0 = 0) (hs : okF n sub) : ∀ f p c p0, p ≤ n → p0 + c.length ≤ p → okR n p0 (pLoop b n sub op f p c)
  | 0, p, c, p0, h1, h2 => ⟨by simp only [pLoop]; omega, by simp only [pLoop]; omega, fun c' h => by simp only [pLoop, Option.some.injEq] at h; subst h; exact h2⟩
  | f + 1, p, c, p0, h1, h2 => by
    simp only [pLoop]
    by_cases ht : op (tkC b n p) = 0
    · rw [if_pos ht]
      exact ⟨by omega, h1, fun c' h => by simp only [Option.some.injEq] at h; subst h; exact h2⟩
    · rw [if_neg ht]
      have hlt : p < n := tkC_lt (fun q => ht (by rw [q]; exact h0))
      have hn := nx_gt (b := b) hlt
      have h3 := hs (nx b n p) hn.2
      rcases hq : sub (nx b n p) with ⟨q, _ | c'⟩
      · rw [hq] at h3
        have := h3.1; have := h3.2.1
        exact ⟨by dsimp only; dsimp only at this; omega, by dsimp only; assumption, fun c' h => by cases h⟩
      · rw [hq] at h3
        have a1 := h3.1; have a2 := h3.2.1; have a3 := h3.2.2 c' rfl
        dsimp only at a1 a2 a3
        exact pLoop_ok h0 hs f q _ p0 a2 (by simp only [List.length_append, List.length_cons, List.length_nil]; omega)
theorem pSeq_ok {b : By} {n : Nat} {sub : Pf} {op : Int32 → Int32} (h0 : op 0 = 0) (hs : okF n sub) : okF n (pSeq b n sub op) := by
  intro p hp
  unfold pSeq
  have h3 := hs p hp
  rcases hq : sub p with ⟨q, _ | c⟩
  · rw [hq] at h3; exact ⟨h3.1, h3.2.1, fun c' h => by cases h⟩
  · rw [hq] at h3
    exact pLoop_ok h0 hs 160 q c p h3.2.1 (h3.2.2 c rfl)
theorem pOne_ok {b : By} {n d : Nat} {lo : Nat → Pf} (hl : ∀ i, okF n (lo i)) : okF n (pOne b n d lo) := by
  intro p hp
  unfold pOne
  have none_ok : okR n p (p, none) := ⟨Nat.le_refl p, hp, fun c h => by cases h⟩
  split
  · rename_i h
    have hlt : p < n := tkC_lt (fun q => by rw [q] at h; revert h; decide)
    have hn := nx_gt (b := b) hlt
    exact ⟨by dsimp only; omega, hn.2, fun c h => by simp only [Option.some.injEq] at h; subst h; simp only [List.length_cons, List.length_nil]; omega⟩
  split
  · rename_i h
    have hlt : p < n := tkC_lt (fun q => by rw [q] at h; revert h; decide)
    have hn := nx_gt (b := b) hlt
    split
    · exact none_ok
    · have h3 := hl 5 (nx b n p) hn.2
      rcases hq : lo 5 (nx b n p) with ⟨q, _ | c⟩
      · rw [hq] at h3; have a1 := h3.1; dsimp only at a1; exact ⟨by dsimp only; omega, h3.2.1, fun c' h => by cases h⟩
      · rw [hq] at h3; have a1 := h3.1; have a3 := h3.2.2 c rfl; dsimp only at a1 a3
        exact ⟨by dsimp only; omega, h3.2.1, fun c' h => by simp only [Option.some.injEq] at h; subst h; simp only [List.length_append, List.length_cons, List.length_nil]; omega⟩
  split
  · rename_i h
    have hlt : p < n := tkC_lt (fun q => by rw [q] at h; revert h; decide)
    have hn := nx_gt (b := b) hlt
    split
    · exact none_ok
    · have h3 := hl 0 (nx b n p) hn.2
      rcases hq : lo 0 (nx b n p) with ⟨q, _ | c⟩
      · rw [hq] at h3; have a1 := h3.1; dsimp only at a1; exact ⟨by dsimp only; omega, h3.2.1, fun c' h => by cases h⟩
      · rw [hq] at h3; have a1 := h3.1; have a2 := h3.2.1; have a3 := h3.2.2 c rfl; dsimp only at a1 a2 a3
        dsimp only
        split
        · rename_i h4
          have hlt2 : q < n := tkC_lt (fun q => by rw [q] at h4; revert h4; decide)
          have hn2 := nx_gt (b := b) hlt2
          exact ⟨by dsimp only; omega, hn2.2, fun c' h => by simp only [Option.some.injEq] at h; subst h; dsimp only; omega⟩
        · exact ⟨by dsimp only; omega, a2, fun c' h => by cases h⟩
  · exact none_ok
theorem pNot_ok {b : By} {n d : Nat} {lo : Nat → Pf} {sum : Pf} (hl : ∀ i, okF n (lo i)) (hs : okF n sum) : okF n (pNot b n d lo sum) := by
  intro p hp
  unfold pNot
  split
  · rename_i h
    have hlt : p < n := tkC_lt (fun q => by rw [q] at h; revert h; decide)
    have hn := nx_gt (b := b) hlt
    split
    · exact ⟨Nat.le_refl p, hp, fun c h => by cases h⟩
    · have h3 := hl 2 (nx b n p) hn.2
      rcases hq : lo 2 (nx b n p) with ⟨q, _ | c⟩
      · rw [hq] at h3; have a1 := h3.1; dsimp only at a1; exact ⟨by dsimp only; omega, h3.2.1, fun c' h => by cases h⟩
      · rw [hq] at h3; have a1 := h3.1; have a3 := h3.2.2 c rfl; dsimp only at a1 a3
        exact ⟨by dsimp only; omega, h3.2.1, fun c' h => by simp only [Option.some.injEq] at h; subst h; simp only [List.length_append, List.length_cons, List.length_nil]; omega⟩
  · have h3 := hs p hp
    rcases hq : sum p with ⟨q, _ | c⟩
    · rw [hq] at h3; exact ⟨h3.1, h3.2.1, fun c' h => by cases h⟩
    · rw [hq] at h3; have a1 := h3.1; have a2 := h3.2.1; have a3 := h3.2.2 c rfl; dsimp only at a1 a2 a3
      dsimp only
      split
      · exact ⟨a1, a2, fun c' h => by simp only [Option.some.injEq] at h; subst h; exact a3⟩
      · rename_i h4
        have hlt2 : q < n := tkC_lt (fun q => h4 (by rw [q]; rfl))
        have hn2 := nx_gt (b := b) hlt2
        have h5 := hs (nx b n q) hn2.2
        rcases hq2 : sum (nx b n q) with ⟨r, _ | c2⟩
        · rw [hq2] at h5; have b1 := h5.1; dsimp only at b1; exact ⟨by dsimp only; omega, h5.2.1, fun c' h => by cases h⟩
        · rw [hq2] at h5; have b1 := h5.1; have b3 := h5.2.2 c2 rfl; dsimp only at b1 b3
          exact ⟨by dsimp only; omega, h5.2.1, fun c' h => by simp only [Option.some.injEq] at h; subst h; simp only [List.length_append, List.length_cons, List.length_nil]; omega⟩
theorem mkP_ok {b : By} {n d : Nat} {lo : Nat → Pf} (hl : ∀ i, okF n (lo i)) (i : Nat) : okF n (mkP b n d lo i) := by
  have hO : okF n (mkO b n d lo) := pOne_ok hl
  have hT : okF n (mkT b n d lo) := pSeq_ok (by decide) hO
  have hS : okF n (mkS b n d lo) := pSeq_ok (by decide) hT
  have hN : okF n (mkN b n d lo) := pNot_ok hl hS
  have hB : okF n (mkB b n d lo) := pSeq_ok (by decide) hN
  have hE : okF n (mkE b n d lo) := pSeq_ok (by decide) hB
  unfold mkP
  split
  · exact hE
  split
  · exact hB
  split
  · exact hN
  split
  · exact hS
  split
  · exact hT
  · exact hO
theorem pL_ok (b : By) (n : Nat) : ∀ d i, okF n (pL b n d i)
  | 0, i => mkP_ok (fun _ p hp => ⟨Nat.le_refl p, hp, fun c h => by cases h⟩) i
  | d + 1, i => mkP_ok (pL_ok b n d) i
