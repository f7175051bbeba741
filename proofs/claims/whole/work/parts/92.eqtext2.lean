section
theorem TxM.old {m m' : Sg} {nt k n t : Nat} {b b' : By} (F : TxF m m' nt k b) (ht : t < nt) (h : TxM m b' n t) : TxM m' b' n t := by
  obtain ⟨x1, x2, x3, x4, x5⟩ := h
  exact ⟨by rw [F.2.2.2.1 t (by omega)]; exact x1, x2, x3, fun i hi => by rw [F.2.2.2.2.1 _ (by omega)]; exact x4 i hi, x5⟩
theorem Rel.text {m m' c c' : Sg} {nt nt' N : Nat} (hp : Rpap m c N) (hd : Rday m c) (hr : Rrul m c nt) (hi : Rimg m c N nt) (hs : Rsht m c) (g1 : ∀ j, j ≠ 0 → j ≠ 1 → j ≠ 2 → m' j = m j) (g2 : ∀ j, (j < 18 ∨ 26 < j) → j ≠ 6 → j ≠ 3 → m' 0 j = m 0 j) (g3 : m' 0 6 = 0) (ck : ∀ j, j < 50 → j ≠ 0 → j ≠ 8 → j ≠ 10 → j ≠ 11 → j ≠ 12 → c' j = c j) (c03 : c' 0 3 = c 0 3) (c81 : c' 8 1 = 0) (hn : nt ≤ nt') (hT : Rtxt m' c' nt') : Rel m' c' nt' := by
  have h1 := ck 1 (by omega) (by omega) (by omega) (by omega) (by omega) (by omega)
  have hr' : Rrul m' c' nt' := by
    obtain ⟨r, a1, a2, a3⟩ := hr.keep (m' := m') (c' := c') (g2 4 (by omega) (by omega) (by omega)) (by rw [h1])
    exact ⟨r, by omega, a2, a3⟩
  have hi' : Rimg m' c' N nt' := by
    rcases hi.keep (m' := m') (c' := c') (Nat.le_refl N) (fun j a b => g2 j (by omega) (by omega) (by omega)) (fun i _ => by rw [g1 4 (by decide) (by decide) (by decide)]) (g1 8 (by decide) (by decide) (by decide)) c03 (ck 2 (by omega) (by omega) (by omega) (by omega) (by omega) (by omega)) (fun i hi => ck _ (by omega) (by omega) (by omega) (by omega) (by omega) (by omega)) hp.2.2.1 with z | ⟨z1, K, r, z2, z3, z4⟩
    · exact Or.inl z
    · exact Or.inr ⟨z1, K, r, z2, by omega, z4⟩
  exact ⟨N, hp.keep (g2 11 (by omega) (by omega) (by omega)) (g1 4 (by decide) (by decide) (by decide)) (g1 5 (by decide) (by decide) (by decide)) (by rw [h1]) (fun i hi => ck _ (by omega) (by omega) (by omega) (by omega) (by omega) (by omega)), hd.keep (g2 7 (by omega) (by omega) (by omega)) (g2 8 (by omega) (by omega) (by omega)) (by rw [h1]) (by rw [h1]) (by rw [ck 25 (by omega) (by omega) (by omega) (by omega) (by omega) (by omega)]), hr', hT, ⟨0, g3, c81, by omega, fun i hi => absurd hi (by omega)⟩, hi', hs.keep (g1 9 (by decide) (by decide) (by decide)) (g1 10 (by decide) (by decide) (by decide)) (g1 11 (by decide) (by decide) (by decide)) (g1 12 (by decide) (by decide) (by decide)) (fun k a b => ck k (by omega) (by omega) (by omega) (by omega) (by omega) (by omega))⟩
theorem gD_l {a b : List Int32} {i : Nat} (h : i < a.length) : (a ++ b).getD i 0 = a.getD i 0 := by
  rw [List.getD_eq_getElem?_getD, List.getD_eq_getElem?_getD, List.getElem?_append_left h]
theorem gD_r {a b : List Int32} {i : Nat} : (a ++ b).getD (a.length + i) 0 = b.getD i 0 := by
  rw [List.getD_eq_getElem?_getD, List.getD_eq_getElem?_getD, List.getElem?_append_right (by omega), show a.length + i - a.length = i by omega]
theorem cod_new {c : Sg} {T n : Nat} {c0 c1 c2 : List Int32} (hn : n = c0.length + c1.length + c2.length) (hl : n < 160) (h9 : c T 9 = nI n) (h2 : c T 2 = nI c0.length) (h3 : c T 3 = nI (c0.length + c1.length)) (hc : ∀ i, i < n → c (T + 1) i = (c0 ++ c1 ++ c2).getD i 0) : CodC c T (fun i => if i = 0 then c0 else if i = 1 then c1 else c2) := by
  subst hn
  refine ⟨by rw [h9]; exact nI_clamp (by omega), ?_, h2, h3, fun k hk => ?_, fun k hk => ?_, fun k hk => ?_⟩
  · show c0.length + c1.length + c2.length < 2 ^ 31
    omega
  · have hk : k < c0.length := hk
    show _ = c0.getD k 0
    rw [hc k (by omega), gD_l (by rw [List.length_append]; omega), gD_l hk]
  · have hk : k < c1.length := hk
    show c (T + 1) (c0.length + k) = c1.getD k 0
    rw [hc _ (by omega), gD_l (by rw [List.length_append]; omega), gD_r]
  · have hk : k < c2.length := hk
    show c (T + 1) (c0.length + c1.length + k) = c2.getD k 0
    rw [hc _ (by omega), show c0.length + c1.length + k = (c0 ++ c1).length + k by rw [List.length_append], gD_r]
theorem eq_text {m c : Sg} {nt : Nat} (h : Rel m c nt) : vv_X7_text nt c (fun r c' => vv_X8_text m (fun r' m' => r = r' ∧ Rel m' c' nt)) (fun r c' => vv_X8_text m (fun r' m' => r = r' ∧ Rel m' c' (nt + 1))) := by
  have h' := h
  obtain ⟨N, hp, hd, hr, ht, ha, hi, hs⟩ := h
  obtain ⟨k, f1, f2, f3, f4⟩ := ha
  have h6 := ht.2.2.2.1
  unfold vv_X7_text
  rw [ht.2.1]
  refine ⟨fun z => ?_, fun z => ?_⟩
  · have e : nt = 6 := by
      rcases Nat.lt_or_ge nt 6 with q | q
      · exact absurd (nI_lt (b := 6) q (by decide)) z
      · omega
    subst e
    unfold vv_X8_text
    rw [ht.1]
    exact ⟨fun q => absurd rfl q, fun _ => ⟨rfl, h'⟩⟩
  · have hnt : nt < 6 := (nI_ltI (b := 6) (by omega) (by decide)).mp z
    have ref : ∀ {Q : Int32 → Sg → Prop}, (∀ q, pRead (c 9) k = (q, none) → ∀ m', TxF m m' nt k (c 9) → Q (-100 - nI q) m') → (∀ q c0 c1 c2, pRead (c 9) k = (q, some (c0, c1, c2)) → ∀ m', TxF m m' nt k (c 9) → Q (nI nt) (st m' 0 3 (nI nt + 1))) → vv_X8_text m Q := fun {Q} g0 g1 => by
      unfold vv_X8_text
      rw [ht.1]
      refine ⟨fun _ => ?_, fun q => absurd ((nI_eq (b := 6) (by omega) (by decide)).mp q) (by omega)⟩
      rintro x rfl
      exact ⟨k + 1, txM_L hnt ht.1 f1 f3 (fun i hi => (f4 i hi).1) (fun i hi => by rw [← (f4 i hi).1]; exact (f4 i hi).2.1) g0 g1 k 0 m (by omega) (fun _ _ => rfl) (fun _ _ => rfl) (fun j hj => absurd hj (by omega))⟩
    have c12 : ∀ i, i < 6 → c 12 i = nI (if i < nt then i else 0) := ht.2.2.2.2.1
    refine h_readC (b := c 9) (n := k) ⟨f2, f3, fun _ _ => rfl⟩ (fun q e u F e2 => ⟨fun x a1 a2 a3 a4 => F x a1 a3 a4, ?_⟩) (fun q c0 c1 c2 e hl u F hc => ⟨fun x a1 a2 a3 a4 => F x a1 a3 a4, rfl, hnt, hl, fun i hi => ?_, ?_⟩)
    · refine ref (fun q' e' m' G => ?_) (fun q' c0 c1 c2 e' => absurd (e.symm.trans e') (by intro z; cases z))
      have eq : q = q' := by have := e.symm.trans e'; cases this; rfl
      subst eq
      have ck : ∀ j, j ≠ 8 → j ≠ 10 → j ≠ 11 → st u 8 1 0 j = c j := fun j a1 a2 a3 => by rw [st_ne a1]; exact F j a1 a2 a3
      refine ⟨by rw [e2], Rel.text hp hd hr hi hs G.1 (fun j a b _ => G.2.1 j a b) G.2.2.1 (fun j _ _ a b d _ => ck j a b d) (by rw [ck 0 (by decide) (by decide) (by decide)]) (st_on _ _ _ _) (Nat.le_refl nt) ⟨by rw [G.2.1 3 (by omega) (by decide)]; exact ht.1, by rw [ck 0 (by decide) (by decide) (by decide)]; exact ht.2.1, ht.2.2.1, h6, fun i hi => by rw [ck 12 (by decide) (by decide) (by decide)]; exact c12 i hi, fun t hlt => ?_⟩⟩
      obtain ⟨b', n', q', cods, x1, x2, x3⟩ := ht.2.2.2.2.2 t hlt
      exact ⟨b', n', q', cods, x1.old G hlt, x2, x3.keep (ck _ (by omega) (by omega) (by omega)) (ck _ (by omega) (by omega) (by omega))⟩
    · rw [F 12 (by decide) (by decide) (by decide), c12 i hi]
      have h1 := ht.2.2.1
      by_cases q : i < nt
      · rw [if_pos q, nI_clamp (by omega)]; exact q
      · rw [if_neg q, nI_clamp (by omega)]; omega
    · refine ref (fun q' e' => absurd (e.symm.trans e') (by intro z; cases z)) (fun q' d0 d1 d2 e' m' G => ?_)
      have eqs := e.symm.trans e'
      cases eqs
      generalize hn : c0.length + c1.length + c2.length = n at hl ⊢
      generalize hv : txS u (50 + 3 * nt) (nI c0.length) (nI (c0.length + c1.length)) n (va_cpy (u 11) (fun _ => 0) 0 0 n) = v
      have vk : ∀ j, j < 50 + 3 * nt → v j = u j := fun j hj => by rw [← hv]; exact txS_lt hj
      generalize hw : st (st (st v 8 1 0) 12 nt (nI nt)) 0 8 (nI nt + 1) = c'
      have wk : ∀ j, j ≠ 0 → j ≠ 8 → j ≠ 12 → c' j = v j := fun j a1 a2 a3 => by rw [← hw, st_ne a1, st_ne a3, st_ne a2]
      have ck : ∀ j, j < 50 + 3 * nt → j ≠ 0 → j ≠ 8 → j ≠ 10 → j ≠ 11 → j ≠ 12 → c' j = c j := fun j a0 a1 a2 a3 a4 a5 => by rw [wk j a1 a2 a5, vk j a0]; exact F j a2 a3 a4
      have w0 : ∀ j, j ≠ 8 → c' 0 j = c 0 j := fun j hj => by rw [← hw, st_off _ hj, st_ne (by decide), st_ne (by decide), vk 0 (by omega), F 0 (by decide) (by decide) (by decide)]
      have w8 : c' 8 1 = 0 := by rw [← hw, st_ne (by decide), st_ne (by decide), st_on]
      have w12 : ∀ i, c' 12 i = if i = nt then nI nt else c 12 i := fun i => by rw [← hw, st_ne (by decide), st_at, st_ne (by decide), vk 12 (by omega), F 12 (by decide) (by decide) (by decide)]
      have tm : ∀ {b' : By} {n' t : Nat}, TxM m' b' n' t → TxM (st m' 0 3 (nI nt + 1)) b' n' t := fun {b' n' t} x => by
        unfold TxM at *; rw [st_ne (by decide), st_ne (by decide)]; exact x
      refine ⟨rfl, Rel.text hp hd hr hi hs (fun j a b d => by rw [st_ne a]; exact G.1 j a b d) (fun j a b d => by rw [st_off _ d]; exact G.2.1 j a b) (by rw [st_off _ (by decide)]; exact G.2.2.1) (fun j a b d e f g => ck j (by omega) b d e f g) (w0 3 (by decide)) w8 (by omega) ⟨by rw [st_on, nI_1], by rw [← hw, st_on, nI_1], by omega, by omega, fun i hi => ?_, fun t hlt => ?_⟩⟩
      · rw [w12 i]
        by_cases q1 : i = nt
        · rw [if_pos q1, if_pos (by omega), q1]
        · rw [if_neg q1, c12 i hi]
          by_cases q2 : i < nt
          · rw [if_pos q2, if_pos (by omega)]
          · rw [if_neg q2, if_neg (by omega)]
      · by_cases q1 : t = nt
        · subst q1
          refine ⟨c 9, k, q, fun i => if i = 0 then c0 else if i = 1 then c1 else c2, tm G.2.2.2.2.2, e, ?_⟩
          have eT : c' (50 + 3 * t) = v (50 + 3 * t) := wk _ (by omega) (by omega) (by omega)
          have eT1 : c' (50 + 3 * t + 1) = v (50 + 3 * t + 1) := wk _ (by omega) (by omega) (by omega)
          refine cod_new hn.symm hl (by rw [eT, ← hv]; simp [txS]) (by rw [eT, ← hv]; simp [txS]) (by rw [eT, ← hv]; simp [txS]) (fun i hi => ?_)
          rw [eT1, ← hv]
          have : txS u (50 + 3 * t) (nI c0.length) (nI (c0.length + c1.length)) n (va_cpy (u 11) (fun _ => 0) 0 0 n) (50 + 3 * t + 1) i = u 11 i := by
            unfold txS va_cpy
            rw [if_neg (by omega), if_pos rfl, if_pos (by omega)]
            congr 1; omega
          rw [this]
          exact hc i (by rw [List.length_append, List.length_append]; omega)
        · obtain ⟨b', n', q', cods, x1, x2, x3⟩ := ht.2.2.2.2.2 t (by omega)
          exact ⟨b', n', q', cods, tm (x1.old G (by omega)), x2, x3.keep (ck _ (by omega) (by omega) (by omega) (by omega) (by omega) (by omega)) (ck _ (by omega) (by omega) (by omega) (by omega) (by omega) (by omega))⟩
end
