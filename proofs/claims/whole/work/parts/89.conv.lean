section
/-! ===== worlds told otherwise; a text more ===== -/
theorem arr_cong {D : va_G} {cl : List vw_C} {H : Heap} {a n : Nat} {cA : ClassId} {f f' : Nat → Option Nat} (h : ∀ i, i < n → f i = f' i) (ha : va_at D cl (a, .inl (cA, n, rf5 f)) H) : va_at D cl (a, .inl (cA, n, rf5 f')) H := by
  have e : vp_cell cA (n, rf5 f) = vp_cell cA (n, rf5 f') := by
    show arrV cA n (fun j => va_rf (f j)) = arrV cA n (fun j => va_rf (f' j))
    unfold arrV
    have : (fun j : Fin n => va_rf (f j.val)) = (fun j : Fin n => va_rf (f' j.val)) := funext (fun j => by rw [h j.val j.isLt])
    rw [this]
  exact (show H[a]? = some (vp_cell cA (n, rf5 f')) by rw [← e]; exact ha)
theorem Wd.conv {D : va_G} {A : Nat → Prop} {H0 H : Heap} {ws ws' : va_W} {locs : List Loc} (hw : Wd D A H0 ws H locs) (hl : ws'.length = ws.length) (h : ∀ (k : Nat) (q : Nat × va_E), ws[k]? = some q → ∃ q', ws'[k]? = some q' ∧ q'.1 = q.1 ∧ (va_at D rk_cl q H → va_at D rk_cl q' H)) : Wd D A H0 ws' H locs := by
  have get : ∀ (k : Nat) (q' : Nat × va_E), ws'[k]? = some q' → ∃ q, ws[k]? = some q ∧ q'.1 = q.1 ∧ (va_at D rk_cl q H → va_at D rk_cl q' H) := fun k q' hk => by
    obtain ⟨lk, -⟩ := List.getElem?_eq_some_iff.mp hk
    have lk' : k < ws.length := by omega
    obtain ⟨q2, h1, h2, h3⟩ := h k ws[k] (List.getElem?_eq_getElem lk')
    have : q2 = q' := Option.some.inj (h1.symm.trans hk)
    subst this
    exact ⟨_, List.getElem?_eq_getElem lk', h2, h3⟩
  refine ⟨fun k q' hk => ?_, ⟨fun i j p q hi hj e => ?_, fun k q' hk => ?_⟩, hw.2.2⟩
  · obtain ⟨q, g1, g2, g3⟩ := get k q' hk
    exact g3 (hw.1 k q g1)
  · obtain ⟨p1, a1, a2, -⟩ := get i p hi
    obtain ⟨q1, b1, b2, -⟩ := get j q hj
    exact hw.2.1.1 i j p1 q1 a1 b1 (by rw [← a2, ← b2]; exact e)
  · obtain ⟨q, g1, g2, -⟩ := get k q' hk
    rw [g2]; exact hw.2.1.2 k q g1
theorem Wd.perm {D : va_G} {A : Nat → Prop} {H0 H : Heap} {ws ws' : va_W} {locs : List Loc} (hw : Wd D A H0 ws H locs) (h : ws.Perm ws') : Wd D A H0 ws' H locs := by
  obtain ⟨hP, hD, hS⟩ := hw
  rw [vz_P] at hP; rw [vz_D] at hD
  exact ⟨vz_P.mpr (fun q hq => hP q (h.mem_iff.mpr hq)), vz_D.mpr ⟨(h.pairwise_iff (fun {x y} z => Ne.symm z)).mp hD.1, fun q hq => hD.2 q (h.mem_iff.mpr hq)⟩, hS⟩
def wcL (cy : Nat → ClassId) (ad : Nat → Nat) (σ : Sg) : va_W := (List.range 8).map (fun k => (ad k, cellC cy ad σ k))
def wcR (cy : Nat → ClassId) (nt : Nat) (ad : Nat → Nat) (σ : Sg) : va_W := (List.range (38 + 3 * nt)).map (fun i => (ad (12 + i), cellC cy ad σ (12 + i)))
theorem wsC_cut (cy : Nat → ClassId) (nt : Nat) (ad : Nat → Nat) (σ : Sg) : wsC cy nt ad σ = wcL cy ad σ ++ (wsD cy ad σ ++ wcR cy nt ad σ) := by
  unfold wsC wcL wcR
  rw [show 50 + 3 * nt = 8 + (4 + (38 + 3 * nt)) by omega, List.range_add, List.map_append, List.map_map, List.range_add (n := 4), List.map_append, List.map_map]
  congr 1
  have e1 : List.map ((fun k => (ad k, cellC cy ad σ k)) ∘ fun x => 8 + x) (List.range 4) = wsD cy ad σ := rfl
  rw [e1]
  congr 1
  refine List.map_congr_left (fun i _ => ?_)
  show (ad (8 + (4 + i)), cellC cy ad σ (8 + (4 + i))) = _
  rw [show 8 + (4 + i) = 12 + i by omega]
def FrX (g u : Sg) : Prop := ∀ k, k ≠ 8 → k ≠ 9 → k ≠ 10 → k ≠ 11 → u k = g k
theorem wcL_fr {cy : Nat → ClassId} {ad : Nat → Nat} {g u : Sg} (F : FrX g u) : wcL cy ad g = wcL cy ad u := by
  unfold wcL
  refine List.map_congr_left (fun k hk => ?_)
  have : k < 8 := List.mem_range.mp hk
  rw [cellC_eq cy ad (σ := g) (σ' := u) (F k (by omega) (by omega) (by omega) (by omega)) (fun h => absurd h (by omega))]
theorem wcR_fr {cy : Nat → ClassId} {nt : Nat} {ad : Nat → Nat} {g u : Sg} (F : FrX g u) : wcR cy nt ad g = wcR cy nt ad u := by
  unfold wcR
  refine List.map_congr_left (fun i _ => ?_)
  rw [cellC_eq cy ad (σ := g) (σ' := u) (F (12 + i) (by omega) (by omega) (by omega) (by omega)) (fun h => by unfold lenT; rw [F _ (by omega) (by omega) (by omega) (by omega)])]
theorem tx_perm {wl wd wr : va_W} {a b c : Nat × va_E} : (wl ++ ((wd ++ [b, a, c]) ++ wr)).Perm ((wl ++ (wd ++ wr)) ++ [a, b, c]) := by
  rw [List.append_assoc wd, List.append_assoc wl]
  refine List.Perm.append_left wl ?_
  rw [List.append_assoc]
  refine List.Perm.append_left wd ?_
  exact (List.Perm.append_right wr (List.Perm.swap a b [c])).trans List.perm_append_comm
def txS (u : Sg) (T : Nat) (x z : Int32) (n : Nat) (f : Nat → Int32) : Sg := fun k j => if k = T then (if j = 2 then x else if j = 3 then z else if j = 9 then nI n else 0) else if k = T + 1 then f j else if k = T + 2 then 0 else u k j
def adX (ad : Nat → Nat) (T a b d : Nat) : Nat → Nat := fun k => if k = T then a else if k = T + 1 then b else if k = T + 2 then d else ad k
theorem txS_lt {u : Sg} {T n : Nat} {x z : Int32} {f : Nat → Int32} {k : Nat} (h : k < T) : txS u T x z n f k = u k := by
  funext j; unfold txS; rw [if_neg (by omega), if_neg (by omega), if_neg (by omega)]
theorem adX_lt {ad : Nat → Nat} {T a b d k : Nat} (h : k < T) : adX ad T a b d k = ad k := by
  unfold adX; rw [if_neg (by omega), if_neg (by omega), if_neg (by omega)]
theorem cellC_more (cy : Nat → ClassId) {ad ad' : Nat → Nat} {σ σ' : Sg} {k T : Nat} (hT : 50 ≤ T) (hm : T % 3 = 2) (hk : k < T) (e : ∀ j, j < T → σ' j = σ j) (ea : ∀ j, j < T → ad' j = ad j) (h : ¬ (4 ≤ k ∧ k ≤ 6) ∧ k ≠ 12 ∧ k ≠ 13) : cellC cy ad' σ' k = cellC cy ad σ k := by
  obtain ⟨x1, x2, x3⟩ := h
  unfold cellC
  by_cases h0 : k = 0
  · simp only [if_pos h0, fsO, ea 1 (by omega), ea 2 (by omega), ea 3 (by omega), ea 7 (by omega), ea 8 (by omega), ea 10 (by omega), ea 12 (by omega), ea 13 (by omega), ea 22 (by omega), e 0 (by omega)]
  rw [if_neg h0, if_neg h0]
  by_cases h1 : k < 4
  · simp only [if_pos h1, fsB, ea (k + 3) (by omega), e k hk]
  rw [if_neg h1, if_neg h1, if_neg (show ¬ k < 7 by omega), if_neg (show ¬ k < 7 by omega)]
  by_cases h3 : k = 7
  · simp only [if_pos h3, fsP, e k hk]
  rw [if_neg h3, if_neg h3]
  by_cases h4 : k = 8
  · simp only [if_pos h4, fsTp, ea 9 (by omega), e 8 (by omega)]
  rw [if_neg h4, if_neg h4]
  by_cases h5 : k = 10
  · simp only [if_pos h5, fsPr, ea 8 (by omega), ea 11 (by omega), e 10 (by omega)]
  rw [if_neg h5, if_neg h5, if_neg x2, if_neg x2, if_neg x3, if_neg x3]
  by_cases h8 : k = 22
  · simp only [if_pos h8, fsTa, ea 23 (by omega), ea 24 (by omega), ea 25 (by omega), e 22 (by omega)]
  rw [if_neg h8, if_neg h8]
  by_cases h9 : 14 ≤ k ∧ k < 18
  · simp only [if_pos h9, fsS, ea (k + 4) (by omega), e k hk]
  rw [if_neg h9, if_neg h9]
  by_cases ha : 26 ≤ k ∧ k < 50
  · simp only [if_pos ha, fsP, e k hk]
  rw [if_neg ha, if_neg ha]
  by_cases hb : k < 50
  · simp only [if_pos hb, e k hk]
  rw [if_neg hb, if_neg hb]
  by_cases hc : k % 3 = 2
  · simp only [if_pos hc, fsT, ea (k + 1) (by omega), ea (k + 2) (by omega), e k hk]
  · simp only [if_neg hc, e k hk]
    have : lenT σ' k = lenT σ k := by unfold lenT; rw [e _ (by omega)]
    rw [this]
theorem Wd.more {D : va_G} {A : Nat → Prop} {H0 H : Heap} {locs : List Loc} {cy : Nat → ClassId} {nt n a b d : Nat} {ad : Nat → Nat} {u : Sg} {x z : Int32} {f : Nat → Int32} (h12 : ∀ i, i < 6 → (u 12 i).toNatClampNeg < nt) (hn : n < 160) (hw : Wd D A H0 (wsC cy nt ad u ++ [(a, .inr (6, [.ref b, .ref d, .int x, .int z])), (b, .inl (cy 0, n, .inl f)), (d, .inl (cy 0, n, .inl (fun _ => 0)))]) H locs) : Wd D A H0 (wsC cy (nt + 1) (adX ad (50 + 3 * nt) a b d) (txS u (50 + 3 * nt) x z n f)) H locs := by
  have ln : ∀ (t : Nat) (ad : Nat → Nat) (σ : Sg), (wsC cy t ad σ).length = 50 + 3 * t := fun t ad σ => by simp [wsC]
  refine hw.conv (by rw [List.length_append, ln, ln]; simp only [List.length_cons, List.length_nil]; omega) (fun k q hk => ?_)
  have eT := fun j (hj : j < 50 + 3 * nt) => txS_lt (u := u) (x := x) (z := z) (n := n) (f := f) hj
  have eA := fun j (hj : j < 50 + 3 * nt) => adX_lt (ad := ad) (a := a) (b := b) (d := d) hj
  by_cases hlt : k < 50 + 3 * nt
  · rw [List.getElem?_append_left (by rw [ln]; exact hlt), wsC_at cy nt ad u hlt] at hk
    obtain rfl := Option.some.inj hk
    refine ⟨_, wsC_at cy (nt + 1) _ _ (by omega), eA k hlt, fun h => ?_⟩
    rw [eA k hlt]
    by_cases c4 : 4 ≤ k ∧ k ≤ 6
    · rw [cc_R cy _ _ (show isR k from c4)] at h ⊢
      exact arr_cong (fun i hi => by rw [eA _ (by omega)]) h
    by_cases c12 : k = 12
    · subst c12
      refine arr_cong (n := 6) (f := fun i => some (ad (50 + 3 * (u 12 i).toNatClampNeg))) (fun i hi => ?_) h
      have := h12 i hi
      rw [eT 12 (by omega), eA _ (by omega)]
    by_cases c13 : k = 13
    · subst c13
      refine arr_cong (n := 4) (f := fun i => some (ad (14 + i))) (fun i hi => ?_) h
      rw [eA _ (by omega)]
    rw [cellC_more cy (by omega) (by omega) hlt eT eA ⟨c4, c12, c13⟩]
    exact h
  · rw [List.getElem?_append_right (by rw [ln]; omega), ln] at hk
    have hk3 : k - (50 + 3 * nt) < 3 := (List.getElem?_eq_some_iff.mp hk).1
    have it : isT (nt + 1) (50 + 3 * nt) := ⟨by omega, by omega, by omega⟩
    have e9 : (txS u (50 + 3 * nt) x z n f (50 + 3 * nt) 9).toNatClampNeg = n := by
      unfold txS; rw [if_pos rfl, if_neg (by decide), if_neg (by decide), if_pos rfl]; exact nI_clamp (by omega)
    have a1 : adX ad (50 + 3 * nt) a b d (50 + 3 * nt + 1) = b := by unfold adX; rw [if_neg (by omega), if_pos rfl]
    have a2 : adX ad (50 + 3 * nt) a b d (50 + 3 * nt + 2) = d := by unfold adX; rw [if_neg (by omega), if_neg (by omega), if_pos rfl]
    rcases (show k = 50 + 3 * nt ∨ k = 50 + 3 * nt + 1 ∨ k = 50 + 3 * nt + 2 by omega) with e | e | e
    · subst e
      rw [Nat.sub_self] at hk
      obtain rfl := Option.some.inj hk
      refine ⟨_, wsC_at cy (nt + 1) _ _ (by omega), by unfold adX; rw [if_pos rfl], fun h => ?_⟩
      rw [show adX ad (50 + 3 * nt) a b d (50 + 3 * nt) = a by unfold adX; rw [if_pos rfl], cc_T cy _ _ it]
      have ef : fsT (adX ad (50 + 3 * nt) a b d) (txS u (50 + 3 * nt) x z n f) (50 + 3 * nt) = [.ref b, .ref d, .int x, .int z] := by
        unfold fsT; rw [a1, a2]; simp [txS]
      rw [ef]; exact h
    · subst e
      rw [show 50 + 3 * nt + 1 - (50 + 3 * nt) = 1 by omega] at hk
      obtain rfl := Option.some.inj hk
      refine ⟨_, wsC_at cy (nt + 1) _ _ (by omega), a1, fun h => ?_⟩
      rw [a1, cc_TA cy _ _ it (Or.inl rfl), e9]
      have ef : txS u (50 + 3 * nt) x z n f (50 + 3 * nt + 1) = f := by funext j; unfold txS; rw [if_neg (by omega), if_pos rfl]
      rw [ef]; exact h
    · subst e
      rw [show 50 + 3 * nt + 2 - (50 + 3 * nt) = 2 by omega] at hk
      obtain rfl := Option.some.inj hk
      refine ⟨_, wsC_at cy (nt + 1) _ _ (by omega), a2, fun h => ?_⟩
      rw [a2, cc_TA cy _ _ it (Or.inr rfl), e9]
      have ef : txS u (50 + 3 * nt) x z n f (50 + 3 * nt + 2) = fun _ => 0 := by funext j; unfold txS; rw [if_neg (by omega), if_neg (by omega), if_pos rfl]
      rw [ef]; exact h
end
