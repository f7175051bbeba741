/-! ===== the world of the class: cells by number. 0 the object; 1 .. 3 baskets (now, kept, thought); 4 .. 6 their rows; 7 the guess; 8 tape, 9 its letters; 10 parser, 11 its codes; 12 texts; 13 sheets; 14 .. 17 sheets, 18 .. 21 their items; 22 tally, 23 weights, 24 votes, 25 together; 26 .. 49 papers; 50 + 3 j, 51 + 3 j, 52 + 3 j a text, its codes, its stack (slot 9 of a text: how many) ===== -/
def isB (k : Nat) : Prop := 1 ≤ k ∧ k ≤ 3
def isR (k : Nat) : Prop := 4 ≤ k ∧ k ≤ 6
def isP (k : Nat) : Prop := k = 7 ∨ (26 ≤ k ∧ k < 50)
def isS (k : Nat) : Prop := 14 ≤ k ∧ k < 18
def isI (k : Nat) : Prop := 18 ≤ k ∧ k < 22
def isT (nt k : Nat) : Prop := 50 ≤ k ∧ k % 3 = 2 ∧ k < 50 + 3 * nt
def pp (k : Nat) (i : Int32) : Nat := 26 + 8 * (k - 4) + i.toNatClampNeg
def ss (i : Int32) : Nat := 14 + i.toNatClampNeg
def tx (g : Sg) (i : Int32) : Nat := 50 + 3 * (g 12 i.toNatClampNeg).toNatClampNeg
theorem tB_R {k : Nat} (h : isB k) : isR (k + 3) := ⟨by have := h.1; omega, by have := h.2; omega⟩
theorem tR_P {k : Nat} {i : Int32} (h : isR k) (hi : vp_in i 8) : isP (pp k i) := by
  have h1 : i.toNatClampNeg < 8 := Nat.not_le.mp fun q => hi (Or.inr q)
  have := h.1; have := h.2
  exact Or.inr ⟨by unfold pp; omega, by unfold pp; omega⟩
theorem tS_S {i : Int32} (hi : vp_in i 4) : isS (ss i) := by
  have h1 : i.toNatClampNeg < 4 := Nat.not_le.mp fun q => hi (Or.inr q)
  exact ⟨by unfold ss; omega, by unfold ss; omega⟩
theorem tS_I {k : Nat} (h : isS k) : isI (k + 4) := ⟨by have := h.1; omega, by have := h.2; omega⟩
def fsO (ad : Nat → Nat) (σ : Sg) : List Value := [.ref (ad 1), .ref (ad 2), .ref (ad 3), .int (σ 0 3), .ref (ad 7), .ref (ad 8), .ref (ad 10), .ref (ad 12), .int (σ 0 8), .ref (ad 13), .ref (ad 22)]
def fsB (ad : Nat → Nat) (σ : Sg) (k : Nat) : List Value := [.int (σ k 0), .int (σ k 1), .int (σ k 2), .int (σ k 3), .ref (ad (k + 3))]
def fsP (σ : Sg) (k : Nat) : List Value := [.int (σ k 0), .int (σ k 1), .int (σ k 2), .int (σ k 3), .int (σ k 4), .int (σ k 5)]
def fsTp (ad : Nat → Nat) (σ : Sg) : List Value := [.ref (ad 9), .int (σ 8 1), .int (σ 8 2), .int (σ 8 3), .int (σ 8 4), .int (σ 8 5)]
def fsPr (ad : Nat → Nat) (σ : Sg) : List Value := [.ref (ad 8), .ref (ad 11), .int (σ 10 2)]
def fsS (ad : Nat → Nat) (σ : Sg) (k : Nat) : List Value := [.int (σ k 0), .int (σ k 1), .ref (ad (k + 4))]
def fsTa (ad : Nat → Nat) (σ : Sg) : List Value := [.int (σ 22 0), .int (σ 22 1), .int (σ 22 2), .ref (ad 23), .ref (ad 24), .ref (ad 25)]
def fsT (ad : Nat → Nat) (σ : Sg) (k : Nat) : List Value := [.ref (ad (k + 1)), .ref (ad (k + 2)), .int (σ k 2), .int (σ k 3)]
def lenC (k : Nat) : Nat := if k = 9 then 160 else if k = 11 then 160 else if k = 25 then 256 else if k = 23 then 8 else if k = 24 then 8 else 40
def lenT (σ : Sg) (k : Nat) : Nat := (σ (k - (k - 50) % 3) 9).toNatClampNeg
def rf5 (f : Nat → Option Nat) : ((Nat → Int32) ⊕ (Nat → Int64) ⊕ (Nat → UInt32) ⊕ (Nat → UInt64) ⊕ (Nat → Option Nat)) := .inr (.inr (.inr (.inr f)))
def cellC (cy : Nat → ClassId) (ad : Nat → Nat) (σ : Sg) (k : Nat) : va_E :=
  if k = 0 then .inr (7, fsO ad σ)
  else if k < 4 then .inr (0, fsB ad σ k)
  else if k < 7 then .inl (cy 2, 8, rf5 (fun i => some (ad (26 + 8 * (k - 4) + i))))
  else if k = 7 then .inr (1, fsP σ k)
  else if k = 8 then .inr (5, fsTp ad σ)
  else if k = 10 then .inr (2, fsPr ad σ)
  else if k = 12 then .inl (cy 4, 6, rf5 (fun i => some (ad (50 + 3 * (σ 12 i).toNatClampNeg))))
  else if k = 13 then .inl (cy 3, 4, rf5 (fun i => some (ad (14 + i))))
  else if k = 22 then .inr (4, fsTa ad σ)
  else if 14 ≤ k ∧ k < 18 then .inr (3, fsS ad σ k)
  else if 26 ≤ k ∧ k < 50 then .inr (1, fsP σ k)
  else if k < 50 then .inl (cy 0, lenC k, .inl (σ k))
  else if k % 3 = 2 then .inr (6, fsT ad σ k)
  else .inl (cy 0, lenT σ k, .inl (σ k))
def wsC (cy : Nat → ClassId) (nt : Nat) (ad : Nat → Nat) (σ : Sg) : va_W := (List.range (50 + 3 * nt)).map (fun k => (ad k, cellC cy ad σ k))
theorem wsC_at (cy : Nat → ClassId) (nt : Nat) (ad : Nat → Nat) (σ : Sg) {k : Nat} (h : k < 50 + 3 * nt) : (wsC cy nt ad σ)[k]? = some (ad k, cellC cy ad σ k) := by
  simp [wsC, h]
theorem wsC_set {cy : Nat → ClassId} {nt : Nat} {ad : Nat → Nat} {σ σ' : Sg} {k : Nat} {x : va_E} (h : k < 50 + 3 * nt) (hx : x = cellC cy ad σ' k) (ho : ∀ j, j ≠ k → cellC cy ad σ' j = cellC cy ad σ j) : (wsC cy nt ad σ).set k (ad k, x) = wsC cy nt ad σ' := by
  subst hx
  apply List.ext_getElem?
  intro j
  by_cases hj : j = k
  · subst hj
    rw [List.getElem?_set_self (by simp [wsC, h])]
    simp [wsC, h]
  · rw [List.getElem?_set_ne (Ne.symm hj)]
    by_cases hl : j < 50 + 3 * nt
    · simp [wsC, hl, ho j hj]
    · simp [wsC, hl]
theorem st_ne {σ : Sg} {k j i : Nat} {x : Int32} (h : i ≠ k) : st σ k j x i = σ i := by funext b; simp [st, h]
theorem st_at {σ : Sg} {k j : Nat} {x : Int32} (b : Nat) : st σ k j x k b = if b = j then x else σ k b := by simp [st]
/-- another cell doesn't see what is written, but for how many codes a text has -/
theorem cellC_ne (cy : Nat → ClassId) (ad : Nat → Nat) (σ : Sg) {k j : Nat} (x : Int32) (h : k < 50 ∨ k % 3 ≠ 2 ∨ j ≠ 9) : ∀ i, i ≠ k → cellC cy ad (st σ k j x) i = cellC cy ad σ i := by
  intro i hi
  have e := st_ne (σ := σ) (j := j) (x := x) hi
  have el : 50 ≤ i → lenT (st σ k j x) i = lenT σ i := by
    intro h5
    unfold lenT
    by_cases hk : i - (i - 50) % 3 = k
    · rw [hk, st_at]
      have h2 : k % 3 = 2 := by omega
      have h3 : 50 ≤ k := by omega
      have h9 : j ≠ 9 := by rcases h with h | h | h <;> omega
      rw [if_neg (fun q => h9 q.symm)]
    · rw [st_ne hk]
  have e0 : i = 0 → ∀ b, st σ k j x 0 b = σ 0 b := fun q b => by subst q; rw [e]
  have e8 : i = 8 → ∀ b, st σ k j x 8 b = σ 8 b := fun q b => by subst q; rw [e]
  have e10 : i = 10 → ∀ b, st σ k j x 10 b = σ 10 b := fun q b => by subst q; rw [e]
  have e12 : i = 12 → ∀ b, st σ k j x 12 b = σ 12 b := fun q b => by subst q; rw [e]
  have e22 : i = 22 → ∀ b, st σ k j x 22 b = σ 22 b := fun q b => by subst q; rw [e]
  unfold cellC
  by_cases h0 : i = 0
  · simp only [h0, if_true, fsO, e0 h0]
  rw [if_neg h0, if_neg h0]
  by_cases h1 : i < 4
  · simp only [h1, if_true, fsB, e]
  rw [if_neg h1, if_neg h1]
  by_cases h2 : i < 7
  · simp only [h2, if_true]
  rw [if_neg h2, if_neg h2]
  by_cases h3 : i = 7
  · simp only [if_pos h3, fsP, e]
  rw [if_neg h3, if_neg h3]
  by_cases h4 : i = 8
  · simp only [if_pos h4, fsTp, e8 h4]
  rw [if_neg h4, if_neg h4]
  by_cases h5 : i = 10
  · simp only [if_pos h5, fsPr, e10 h5]
  rw [if_neg h5, if_neg h5]
  by_cases h6 : i = 12
  · simp only [if_pos h6, e12 h6]
  rw [if_neg h6, if_neg h6]
  by_cases h7 : i = 13
  · simp only [if_pos h7]
  rw [if_neg h7, if_neg h7]
  by_cases h8 : i = 22
  · simp only [if_pos h8, fsTa, e22 h8]
  rw [if_neg h8, if_neg h8]
  by_cases h9 : 14 ≤ i ∧ i < 18
  · simp only [if_pos h9, fsS, e]
  rw [if_neg h9, if_neg h9]
  by_cases ha : 26 ≤ i ∧ i < 50
  · simp only [if_pos ha, fsP, e]
  rw [if_neg ha, if_neg ha]
  by_cases hb : i < 50
  · simp only [if_pos hb, e]
  rw [if_neg hb, if_neg hb]
  by_cases hc : i % 3 = 2
  · simp only [if_pos hc, fsT, e]
  · simp only [if_neg hc, e, el (by omega)]
theorem cc_O (cy : Nat → ClassId) (ad : Nat → Nat) (σ : Sg) : cellC cy ad σ 0 = .inr (7, fsO ad σ) := rfl
theorem cc_B (cy : Nat → ClassId) (ad : Nat → Nat) (σ : Sg) {k : Nat} (h : isB k) : cellC cy ad σ k = .inr (0, fsB ad σ k) := by
  unfold cellC; rw [if_neg (by have := h.1; omega), if_pos (by have := h.2; omega)]
theorem cc_R (cy : Nat → ClassId) (ad : Nat → Nat) (σ : Sg) {k : Nat} (h : isR k) : cellC cy ad σ k = .inl (cy 2, 8, rf5 (fun i => some (ad (26 + 8 * (k - 4) + i)))) := by
  have h1 := h.1; have h2 := h.2
  unfold cellC; rw [if_neg (by omega), if_neg (by omega), if_pos (by omega)]
theorem cc_P (cy : Nat → ClassId) (ad : Nat → Nat) (σ : Sg) {k : Nat} (h : isP k) : cellC cy ad σ k = .inr (1, fsP σ k) := by
  rcases h with rfl | ⟨h1, h2⟩
  · rfl
  · unfold cellC; rw [if_neg (by omega), if_neg (by omega), if_neg (by omega), if_neg (by omega), if_neg (by omega), if_neg (by omega), if_neg (by omega), if_neg (by omega), if_neg (by omega), if_neg (by omega), if_pos ⟨h1, h2⟩]
theorem cc_Tp (cy : Nat → ClassId) (ad : Nat → Nat) (σ : Sg) : cellC cy ad σ 8 = .inr (5, fsTp ad σ) := rfl
theorem cc_Pr (cy : Nat → ClassId) (ad : Nat → Nat) (σ : Sg) : cellC cy ad σ 10 = .inr (2, fsPr ad σ) := rfl
theorem cc_Ta (cy : Nat → ClassId) (ad : Nat → Nat) (σ : Sg) : cellC cy ad σ 22 = .inr (4, fsTa ad σ) := rfl
theorem cc_S (cy : Nat → ClassId) (ad : Nat → Nat) (σ : Sg) {k : Nat} (h : isS k) : cellC cy ad σ k = .inr (3, fsS ad σ k) := by
  have h1 := h.1; have h2 := h.2
  unfold cellC; rw [if_neg (by omega), if_neg (by omega), if_neg (by omega), if_neg (by omega), if_neg (by omega), if_neg (by omega), if_neg (by omega), if_neg (by omega), if_neg (by omega), if_pos ⟨h1, h2⟩]
theorem cc_I (cy : Nat → ClassId) (ad : Nat → Nat) (σ : Sg) {k : Nat} (h : isI k) : cellC cy ad σ k = .inl (cy 0, 40, .inl (σ k)) := by
  have h1 := h.1; have h2 := h.2
  unfold cellC; rw [if_neg (by omega), if_neg (by omega), if_neg (by omega), if_neg (by omega), if_neg (by omega), if_neg (by omega), if_neg (by omega), if_neg (by omega), if_neg (by omega), if_neg (by omega), if_neg (by omega), if_pos (by omega)]
  rw [show lenC k = 40 by unfold lenC; rw [if_neg (by omega), if_neg (by omega), if_neg (by omega), if_neg (by omega), if_neg (by omega)]]
theorem cc_T (cy : Nat → ClassId) (ad : Nat → Nat) (σ : Sg) {nt k : Nat} (h : isT nt k) : cellC cy ad σ k = .inr (6, fsT ad σ k) := by
  have h1 := h.1; have h2 := h.2.1
  unfold cellC; rw [if_neg (by omega), if_neg (by omega), if_neg (by omega), if_neg (by omega), if_neg (by omega), if_neg (by omega), if_neg (by omega), if_neg (by omega), if_neg (by omega), if_neg (by omega), if_neg (by omega), if_neg (by omega), if_pos h2]
theorem cc_TA (cy : Nat → ClassId) (ad : Nat → Nat) (σ : Sg) {nt k d : Nat} (h : isT nt k) (hd : d = 1 ∨ d = 2) : cellC cy ad σ (k + d) = .inl (cy 0, (σ k 9).toNatClampNeg, .inl (σ (k + d))) := by
  have h1 := h.1; have h2 := h.2.1
  unfold cellC; rw [if_neg (by omega), if_neg (by omega), if_neg (by omega), if_neg (by omega), if_neg (by omega), if_neg (by omega), if_neg (by omega), if_neg (by omega), if_neg (by omega), if_neg (by omega), if_neg (by omega), if_neg (by omega), if_neg (by omega)]
  unfold lenT
  rw [show k + d - (k + d - 50) % 3 = k by omega]
theorem wc_O (cy : Nat → ClassId) (nt : Nat) (ad : Nat → Nat) (σ : Sg)  : (wsC cy nt ad σ)[0]? = some (ad 0, .inr (7, fsO ad σ)) := by rw [wsC_at cy nt ad σ (by omega)]; first | rfl | rw [cc_O cy ad σ ]
theorem wc_B (cy : Nat → ClassId) (nt : Nat) (ad : Nat → Nat) (σ : Sg) {k : Nat} (h : isB k) : (wsC cy nt ad σ)[k]? = some (ad k, .inr (0, fsB ad σ k)) := by rw [wsC_at cy nt ad σ (by have := h.2; omega)]; first | rfl | rw [cc_B cy ad σ h]
theorem wc_R (cy : Nat → ClassId) (nt : Nat) (ad : Nat → Nat) (σ : Sg) {k : Nat} (h : isR k) : (wsC cy nt ad σ)[k]? = some (ad k, .inl (cy 2, 8, rf5 (fun i => some (ad (26 + 8 * (k - 4) + i))))) := by rw [wsC_at cy nt ad σ (by have := h.2; omega)]; first | rfl | rw [cc_R cy ad σ h]
theorem wc_P (cy : Nat → ClassId) (nt : Nat) (ad : Nat → Nat) (σ : Sg) {k : Nat} (h : isP k) : (wsC cy nt ad σ)[k]? = some (ad k, .inr (1, fsP σ k)) := by rw [wsC_at cy nt ad σ (by unfold isP at h; omega)]; first | rfl | rw [cc_P cy ad σ h]
theorem wc_Tp (cy : Nat → ClassId) (nt : Nat) (ad : Nat → Nat) (σ : Sg)  : (wsC cy nt ad σ)[8]? = some (ad 8, .inr (5, fsTp ad σ)) := by rw [wsC_at cy nt ad σ (by omega)]; first | rfl | rw [cc_Tp cy ad σ ]
theorem wc_Pr (cy : Nat → ClassId) (nt : Nat) (ad : Nat → Nat) (σ : Sg)  : (wsC cy nt ad σ)[10]? = some (ad 10, .inr (2, fsPr ad σ)) := by rw [wsC_at cy nt ad σ (by omega)]; first | rfl | rw [cc_Pr cy ad σ ]
theorem wc_Ta (cy : Nat → ClassId) (nt : Nat) (ad : Nat → Nat) (σ : Sg)  : (wsC cy nt ad σ)[22]? = some (ad 22, .inr (4, fsTa ad σ)) := by rw [wsC_at cy nt ad σ (by omega)]; first | rfl | rw [cc_Ta cy ad σ ]
theorem wc_S (cy : Nat → ClassId) (nt : Nat) (ad : Nat → Nat) (σ : Sg) {k : Nat} (h : isS k) : (wsC cy nt ad σ)[k]? = some (ad k, .inr (3, fsS ad σ k)) := by rw [wsC_at cy nt ad σ (by have := h.2; omega)]; first | rfl | rw [cc_S cy ad σ h]
theorem wc_I (cy : Nat → ClassId) (nt : Nat) (ad : Nat → Nat) (σ : Sg) {k : Nat} (h : isI k) : (wsC cy nt ad σ)[k]? = some (ad k, .inl (cy 0, 40, .inl (σ k))) := by rw [wsC_at cy nt ad σ (by have := h.2; omega)]; first | rfl | rw [cc_I cy ad σ h]
theorem wc_T (cy : Nat → ClassId) (nt : Nat) (ad : Nat → Nat) (σ : Sg) {k : Nat} (h : isT nt k) : (wsC cy nt ad σ)[k]? = some (ad k, .inr (6, fsT ad σ k)) := by rw [wsC_at cy nt ad σ (by have := h.2; omega)]; first | rfl | rw [cc_T cy ad σ h]
theorem wc_TC (cy : Nat → ClassId) (nt : Nat) (ad : Nat → Nat) (σ : Sg) {k : Nat} (h : isT nt k) : (wsC cy nt ad σ)[k + 1]? = some (ad (k + 1), .inl (cy 0, (σ k 9).toNatClampNeg, .inl (σ (k + 1)))) := by rw [wsC_at cy nt ad σ (by have h1 := h.2.2; have h2 := h.2.1; have h3 := h.1; omega)]; first | rfl | rw [cc_TA cy ad σ h (Or.inl rfl)]
theorem wc_TS (cy : Nat → ClassId) (nt : Nat) (ad : Nat → Nat) (σ : Sg) {k : Nat} (h : isT nt k) : (wsC cy nt ad σ)[k + 2]? = some (ad (k + 2), .inl (cy 0, (σ k 9).toNatClampNeg, .inl (σ (k + 2)))) := by rw [wsC_at cy nt ad σ (by have h1 := h.2.2; have h2 := h.2.1; have h3 := h.1; omega)]; first | rfl | rw [cc_TA cy ad σ h (Or.inr rfl)]
theorem wc_9 (cy : Nat → ClassId) (nt : Nat) (ad : Nat → Nat) (σ : Sg) : (wsC cy nt ad σ)[9]? = some (ad 9, .inl (cy 0, 160, .inl (σ 9))) := by rw [wsC_at cy nt ad σ (by omega)]; rfl
theorem wc_11 (cy : Nat → ClassId) (nt : Nat) (ad : Nat → Nat) (σ : Sg) : (wsC cy nt ad σ)[11]? = some (ad 11, .inl (cy 0, 160, .inl (σ 11))) := by rw [wsC_at cy nt ad σ (by omega)]; rfl
theorem wc_23 (cy : Nat → ClassId) (nt : Nat) (ad : Nat → Nat) (σ : Sg) : (wsC cy nt ad σ)[23]? = some (ad 23, .inl (cy 0, 8, .inl (σ 23))) := by rw [wsC_at cy nt ad σ (by omega)]; rfl
theorem wc_24 (cy : Nat → ClassId) (nt : Nat) (ad : Nat → Nat) (σ : Sg) : (wsC cy nt ad σ)[24]? = some (ad 24, .inl (cy 0, 8, .inl (σ 24))) := by rw [wsC_at cy nt ad σ (by omega)]; rfl
theorem wc_25 (cy : Nat → ClassId) (nt : Nat) (ad : Nat → Nat) (σ : Sg) : (wsC cy nt ad σ)[25]? = some (ad 25, .inl (cy 0, 256, .inl (σ 25))) := by rw [wsC_at cy nt ad σ (by omega)]; rfl
theorem wc_12 (cy : Nat → ClassId) (nt : Nat) (ad : Nat → Nat) (σ : Sg) : (wsC cy nt ad σ)[12]? = some (ad 12, .inl (cy 4, 6, rf5 (fun i => some (ad (50 + 3 * (σ 12 i).toNatClampNeg))))) := by rw [wsC_at cy nt ad σ (by omega)]; rfl
theorem wc_13 (cy : Nat → ClassId) (nt : Nat) (ad : Nat → Nat) (σ : Sg) : (wsC cy nt ad σ)[13]? = some (ad 13, .inl (cy 3, 4, rf5 (fun i => some (ad (14 + i))))) := by rw [wsC_at cy nt ad σ (by omega)]; rfl
theorem wp_O_3 (cy : Nat → ClassId) (nt : Nat) (ad : Nat → Nat) (σ : Sg) (x : Int32)  : (wsC cy nt ad σ).set 0 (ad 0, .inr (7, (fsO ad σ).set 3 (.int x))) = wsC cy nt ad (st σ 0 3 x) := wsC_set (by omega) (by rw [cc_O cy ad _ ]; simp [fsO, st]) (cellC_ne cy ad σ x (Or.inl (by decide)))
theorem wp_O_8 (cy : Nat → ClassId) (nt : Nat) (ad : Nat → Nat) (σ : Sg) (x : Int32)  : (wsC cy nt ad σ).set 0 (ad 0, .inr (7, (fsO ad σ).set 8 (.int x))) = wsC cy nt ad (st σ 0 8 x) := wsC_set (by omega) (by rw [cc_O cy ad _ ]; simp [fsO, st]) (cellC_ne cy ad σ x (Or.inl (by decide)))
theorem wp_B_0 (cy : Nat → ClassId) (nt : Nat) (ad : Nat → Nat) (σ : Sg) (x : Int32) {k : Nat} (h : isB k) : (wsC cy nt ad σ).set k (ad k, .inr (0, (fsB ad σ k).set 0 (.int x))) = wsC cy nt ad (st σ k 0 x) := wsC_set (by have := h.2; omega) (by rw [cc_B cy ad _ h]; simp [fsB, st]) (cellC_ne cy ad σ x (Or.inl (by have := h.2; omega)))
theorem wp_B_1 (cy : Nat → ClassId) (nt : Nat) (ad : Nat → Nat) (σ : Sg) (x : Int32) {k : Nat} (h : isB k) : (wsC cy nt ad σ).set k (ad k, .inr (0, (fsB ad σ k).set 1 (.int x))) = wsC cy nt ad (st σ k 1 x) := wsC_set (by have := h.2; omega) (by rw [cc_B cy ad _ h]; simp [fsB, st]) (cellC_ne cy ad σ x (Or.inl (by have := h.2; omega)))
theorem wp_B_2 (cy : Nat → ClassId) (nt : Nat) (ad : Nat → Nat) (σ : Sg) (x : Int32) {k : Nat} (h : isB k) : (wsC cy nt ad σ).set k (ad k, .inr (0, (fsB ad σ k).set 2 (.int x))) = wsC cy nt ad (st σ k 2 x) := wsC_set (by have := h.2; omega) (by rw [cc_B cy ad _ h]; simp [fsB, st]) (cellC_ne cy ad σ x (Or.inl (by have := h.2; omega)))
theorem wp_B_3 (cy : Nat → ClassId) (nt : Nat) (ad : Nat → Nat) (σ : Sg) (x : Int32) {k : Nat} (h : isB k) : (wsC cy nt ad σ).set k (ad k, .inr (0, (fsB ad σ k).set 3 (.int x))) = wsC cy nt ad (st σ k 3 x) := wsC_set (by have := h.2; omega) (by rw [cc_B cy ad _ h]; simp [fsB, st]) (cellC_ne cy ad σ x (Or.inl (by have := h.2; omega)))
theorem wp_P_0 (cy : Nat → ClassId) (nt : Nat) (ad : Nat → Nat) (σ : Sg) (x : Int32) {k : Nat} (h : isP k) : (wsC cy nt ad σ).set k (ad k, .inr (1, (fsP σ k).set 0 (.int x))) = wsC cy nt ad (st σ k 0 x) := wsC_set (by unfold isP at h; omega) (by rw [cc_P cy ad _ h]; simp [fsP, st]) (cellC_ne cy ad σ x (Or.inl (by unfold isP at h; omega)))
theorem wp_P_1 (cy : Nat → ClassId) (nt : Nat) (ad : Nat → Nat) (σ : Sg) (x : Int32) {k : Nat} (h : isP k) : (wsC cy nt ad σ).set k (ad k, .inr (1, (fsP σ k).set 1 (.int x))) = wsC cy nt ad (st σ k 1 x) := wsC_set (by unfold isP at h; omega) (by rw [cc_P cy ad _ h]; simp [fsP, st]) (cellC_ne cy ad σ x (Or.inl (by unfold isP at h; omega)))
theorem wp_P_2 (cy : Nat → ClassId) (nt : Nat) (ad : Nat → Nat) (σ : Sg) (x : Int32) {k : Nat} (h : isP k) : (wsC cy nt ad σ).set k (ad k, .inr (1, (fsP σ k).set 2 (.int x))) = wsC cy nt ad (st σ k 2 x) := wsC_set (by unfold isP at h; omega) (by rw [cc_P cy ad _ h]; simp [fsP, st]) (cellC_ne cy ad σ x (Or.inl (by unfold isP at h; omega)))
theorem wp_P_3 (cy : Nat → ClassId) (nt : Nat) (ad : Nat → Nat) (σ : Sg) (x : Int32) {k : Nat} (h : isP k) : (wsC cy nt ad σ).set k (ad k, .inr (1, (fsP σ k).set 3 (.int x))) = wsC cy nt ad (st σ k 3 x) := wsC_set (by unfold isP at h; omega) (by rw [cc_P cy ad _ h]; simp [fsP, st]) (cellC_ne cy ad σ x (Or.inl (by unfold isP at h; omega)))
theorem wp_P_4 (cy : Nat → ClassId) (nt : Nat) (ad : Nat → Nat) (σ : Sg) (x : Int32) {k : Nat} (h : isP k) : (wsC cy nt ad σ).set k (ad k, .inr (1, (fsP σ k).set 4 (.int x))) = wsC cy nt ad (st σ k 4 x) := wsC_set (by unfold isP at h; omega) (by rw [cc_P cy ad _ h]; simp [fsP, st]) (cellC_ne cy ad σ x (Or.inl (by unfold isP at h; omega)))
theorem wp_P_5 (cy : Nat → ClassId) (nt : Nat) (ad : Nat → Nat) (σ : Sg) (x : Int32) {k : Nat} (h : isP k) : (wsC cy nt ad σ).set k (ad k, .inr (1, (fsP σ k).set 5 (.int x))) = wsC cy nt ad (st σ k 5 x) := wsC_set (by unfold isP at h; omega) (by rw [cc_P cy ad _ h]; simp [fsP, st]) (cellC_ne cy ad σ x (Or.inl (by unfold isP at h; omega)))
theorem wp_Tp_1 (cy : Nat → ClassId) (nt : Nat) (ad : Nat → Nat) (σ : Sg) (x : Int32)  : (wsC cy nt ad σ).set 8 (ad 8, .inr (5, (fsTp ad σ).set 1 (.int x))) = wsC cy nt ad (st σ 8 1 x) := wsC_set (by omega) (by rw [cc_Tp cy ad _ ]; simp [fsTp, st]) (cellC_ne cy ad σ x (Or.inl (by decide)))
theorem wp_Tp_2 (cy : Nat → ClassId) (nt : Nat) (ad : Nat → Nat) (σ : Sg) (x : Int32)  : (wsC cy nt ad σ).set 8 (ad 8, .inr (5, (fsTp ad σ).set 2 (.int x))) = wsC cy nt ad (st σ 8 2 x) := wsC_set (by omega) (by rw [cc_Tp cy ad _ ]; simp [fsTp, st]) (cellC_ne cy ad σ x (Or.inl (by decide)))
theorem wp_Tp_3 (cy : Nat → ClassId) (nt : Nat) (ad : Nat → Nat) (σ : Sg) (x : Int32)  : (wsC cy nt ad σ).set 8 (ad 8, .inr (5, (fsTp ad σ).set 3 (.int x))) = wsC cy nt ad (st σ 8 3 x) := wsC_set (by omega) (by rw [cc_Tp cy ad _ ]; simp [fsTp, st]) (cellC_ne cy ad σ x (Or.inl (by decide)))
theorem wp_Tp_4 (cy : Nat → ClassId) (nt : Nat) (ad : Nat → Nat) (σ : Sg) (x : Int32)  : (wsC cy nt ad σ).set 8 (ad 8, .inr (5, (fsTp ad σ).set 4 (.int x))) = wsC cy nt ad (st σ 8 4 x) := wsC_set (by omega) (by rw [cc_Tp cy ad _ ]; simp [fsTp, st]) (cellC_ne cy ad σ x (Or.inl (by decide)))
theorem wp_Tp_5 (cy : Nat → ClassId) (nt : Nat) (ad : Nat → Nat) (σ : Sg) (x : Int32)  : (wsC cy nt ad σ).set 8 (ad 8, .inr (5, (fsTp ad σ).set 5 (.int x))) = wsC cy nt ad (st σ 8 5 x) := wsC_set (by omega) (by rw [cc_Tp cy ad _ ]; simp [fsTp, st]) (cellC_ne cy ad σ x (Or.inl (by decide)))
theorem wp_Pr_2 (cy : Nat → ClassId) (nt : Nat) (ad : Nat → Nat) (σ : Sg) (x : Int32)  : (wsC cy nt ad σ).set 10 (ad 10, .inr (2, (fsPr ad σ).set 2 (.int x))) = wsC cy nt ad (st σ 10 2 x) := wsC_set (by omega) (by rw [cc_Pr cy ad _ ]; simp [fsPr, st]) (cellC_ne cy ad σ x (Or.inl (by decide)))
theorem wp_Ta_0 (cy : Nat → ClassId) (nt : Nat) (ad : Nat → Nat) (σ : Sg) (x : Int32)  : (wsC cy nt ad σ).set 22 (ad 22, .inr (4, (fsTa ad σ).set 0 (.int x))) = wsC cy nt ad (st σ 22 0 x) := wsC_set (by omega) (by rw [cc_Ta cy ad _ ]; simp [fsTa, st]) (cellC_ne cy ad σ x (Or.inl (by decide)))
theorem wp_Ta_1 (cy : Nat → ClassId) (nt : Nat) (ad : Nat → Nat) (σ : Sg) (x : Int32)  : (wsC cy nt ad σ).set 22 (ad 22, .inr (4, (fsTa ad σ).set 1 (.int x))) = wsC cy nt ad (st σ 22 1 x) := wsC_set (by omega) (by rw [cc_Ta cy ad _ ]; simp [fsTa, st]) (cellC_ne cy ad σ x (Or.inl (by decide)))
theorem wp_Ta_2 (cy : Nat → ClassId) (nt : Nat) (ad : Nat → Nat) (σ : Sg) (x : Int32)  : (wsC cy nt ad σ).set 22 (ad 22, .inr (4, (fsTa ad σ).set 2 (.int x))) = wsC cy nt ad (st σ 22 2 x) := wsC_set (by omega) (by rw [cc_Ta cy ad _ ]; simp [fsTa, st]) (cellC_ne cy ad σ x (Or.inl (by decide)))
theorem wp_S_0 (cy : Nat → ClassId) (nt : Nat) (ad : Nat → Nat) (σ : Sg) (x : Int32) {k : Nat} (h : isS k) : (wsC cy nt ad σ).set k (ad k, .inr (3, (fsS ad σ k).set 0 (.int x))) = wsC cy nt ad (st σ k 0 x) := wsC_set (by have := h.2; omega) (by rw [cc_S cy ad _ h]; simp [fsS, st]) (cellC_ne cy ad σ x (Or.inl (by have := h.2; omega)))
theorem wp_S_1 (cy : Nat → ClassId) (nt : Nat) (ad : Nat → Nat) (σ : Sg) (x : Int32) {k : Nat} (h : isS k) : (wsC cy nt ad σ).set k (ad k, .inr (3, (fsS ad σ k).set 1 (.int x))) = wsC cy nt ad (st σ k 1 x) := wsC_set (by have := h.2; omega) (by rw [cc_S cy ad _ h]; simp [fsS, st]) (cellC_ne cy ad σ x (Or.inl (by have := h.2; omega)))
theorem wa_9 (cy : Nat → ClassId) (nt : Nat) (ad : Nat → Nat) (σ : Sg) (i : Nat) (x : Int32)  : (wsC cy nt ad σ).set 9 (ad 9, .inl (cy 0, 160, .inl (upd (σ 9) i x))) = wsC cy nt ad (st σ 9 i x) := by
  have hu : upd (σ 9) i x = st σ 9 i x 9 := by funext b; simp [st, upd]
  exact wsC_set (by omega) (by rw [hu]; rfl) (cellC_ne cy ad σ x (Or.inl (by decide)))
theorem wa_11 (cy : Nat → ClassId) (nt : Nat) (ad : Nat → Nat) (σ : Sg) (i : Nat) (x : Int32)  : (wsC cy nt ad σ).set 11 (ad 11, .inl (cy 0, 160, .inl (upd (σ 11) i x))) = wsC cy nt ad (st σ 11 i x) := by
  have hu : upd (σ 11) i x = st σ 11 i x 11 := by funext b; simp [st, upd]
  exact wsC_set (by omega) (by rw [hu]; rfl) (cellC_ne cy ad σ x (Or.inl (by decide)))
theorem wa_23 (cy : Nat → ClassId) (nt : Nat) (ad : Nat → Nat) (σ : Sg) (i : Nat) (x : Int32)  : (wsC cy nt ad σ).set 23 (ad 23, .inl (cy 0, 8, .inl (upd (σ 23) i x))) = wsC cy nt ad (st σ 23 i x) := by
  have hu : upd (σ 23) i x = st σ 23 i x 23 := by funext b; simp [st, upd]
  exact wsC_set (by omega) (by rw [hu]; rfl) (cellC_ne cy ad σ x (Or.inl (by decide)))
theorem wa_24 (cy : Nat → ClassId) (nt : Nat) (ad : Nat → Nat) (σ : Sg) (i : Nat) (x : Int32)  : (wsC cy nt ad σ).set 24 (ad 24, .inl (cy 0, 8, .inl (upd (σ 24) i x))) = wsC cy nt ad (st σ 24 i x) := by
  have hu : upd (σ 24) i x = st σ 24 i x 24 := by funext b; simp [st, upd]
  exact wsC_set (by omega) (by rw [hu]; rfl) (cellC_ne cy ad σ x (Or.inl (by decide)))
theorem wa_25 (cy : Nat → ClassId) (nt : Nat) (ad : Nat → Nat) (σ : Sg) (i : Nat) (x : Int32)  : (wsC cy nt ad σ).set 25 (ad 25, .inl (cy 0, 256, .inl (upd (σ 25) i x))) = wsC cy nt ad (st σ 25 i x) := by
  have hu : upd (σ 25) i x = st σ 25 i x 25 := by funext b; simp [st, upd]
  exact wsC_set (by omega) (by rw [hu]; rfl) (cellC_ne cy ad σ x (Or.inl (by decide)))
theorem wa_I (cy : Nat → ClassId) (nt : Nat) (ad : Nat → Nat) (σ : Sg) (i : Nat) (x : Int32) {k : Nat} (h : isI k) : (wsC cy nt ad σ).set k (ad k, .inl (cy 0, 40, .inl (upd (σ k) i x))) = wsC cy nt ad (st σ k i x) := by
  have hu : upd (σ k) i x = st σ k i x k := by funext b; simp [st, upd]
  exact wsC_set (by have := h.2; omega) (by rw [hu]; rw [cc_I cy ad _ h]) (cellC_ne cy ad σ x (Or.inl (by have := h.2; omega)))
theorem wa_TS (cy : Nat → ClassId) (nt : Nat) (ad : Nat → Nat) (σ : Sg) (i : Nat) (x : Int32) {k : Nat} (h : isT nt k) : (wsC cy nt ad σ).set (k + 2) (ad (k + 2), .inl (cy 0, (σ k 9).toNatClampNeg, .inl (upd (σ (k + 2)) i x))) = wsC cy nt ad (st σ (k + 2) i x) := by
  have hu : upd (σ (k + 2)) i x = st σ (k + 2) i x (k + 2) := by funext b; simp [st, upd]
  exact wsC_set (by have h1 := h.2.2; have h2 := h.2.1; have h3 := h.1; omega) (by rw [hu]; rw [cc_TA cy ad _ h (Or.inr rfl), st_ne (show k ≠ k + 2 by omega)]) (cellC_ne cy ad σ x (Or.inr (Or.inl (by have h2 := h.2.1; omega))))
theorem layX0 : ∀ w ∈ u_ws RX0 TX0 5, w ∈ TT := fun w h => TTm ((by decide +kernel : ∀ w ∈ u_ws RX0 TX0 5, w ∈ lw_tbl) w h) ((by decide +kernel : ∀ w ∈ u_ws RX0 TX0 5, goodWord w = true) w h)
theorem layX1 : ∀ w ∈ u_ws RX1 TX1 6, w ∈ TT := fun w h => TTm ((by decide +kernel : ∀ w ∈ u_ws RX1 TX1 6, w ∈ lw_tbl) w h) ((by decide +kernel : ∀ w ∈ u_ws RX1 TX1 6, goodWord w = true) w h)
theorem layX2 : ∀ w ∈ u_ws RX2 TX2 3, w ∈ TT := fun w h => TTm ((by decide +kernel : ∀ w ∈ u_ws RX2 TX2 3, w ∈ lw_tbl) w h) ((by decide +kernel : ∀ w ∈ u_ws RX2 TX2 3, goodWord w = true) w h)
theorem layX3 : ∀ w ∈ u_ws RX3 TX3 3, w ∈ TT := fun w h => TTm ((by decide +kernel : ∀ w ∈ u_ws RX3 TX3 3, w ∈ lw_tbl) w h) ((by decide +kernel : ∀ w ∈ u_ws RX3 TX3 3, goodWord w = true) w h)
theorem layX4 : ∀ w ∈ u_ws RX4 TX4 6, w ∈ TT := fun w h => TTm ((by decide +kernel : ∀ w ∈ u_ws RX4 TX4 6, w ∈ lw_tbl) w h) ((by decide +kernel : ∀ w ∈ u_ws RX4 TX4 6, goodWord w = true) w h)
theorem layX5 : ∀ w ∈ u_ws RX5 TX5 6, w ∈ TT := fun w h => TTm ((by decide +kernel : ∀ w ∈ u_ws RX5 TX5 6, w ∈ lw_tbl) w h) ((by decide +kernel : ∀ w ∈ u_ws RX5 TX5 6, goodWord w = true) w h)
theorem layX6 : ∀ w ∈ u_ws RX6 TX6 4, w ∈ TT := fun w h => TTm ((by decide +kernel : ∀ w ∈ u_ws RX6 TX6 4, w ∈ lw_tbl) w h) ((by decide +kernel : ∀ w ∈ u_ws RX6 TX6 4, goodWord w = true) w h)
theorem layX7 : ∀ w ∈ u_ws RX7 TX7 11, w ∈ TT := fun w h => TTm ((by decide +kernel : ∀ w ∈ u_ws RX7 TX7 11, w ∈ lw_tbl) w h) ((by decide +kernel : ∀ w ∈ u_ws RX7 TX7 11, goodWord w = true) w h)
