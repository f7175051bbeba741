/-! ===== what of the relation stays when some cells change ===== -/
theorem Rpap.keep {m m' c c' : Sg} {N : Nat} (h : Rpap m c N) (h0 : m' 0 11 = m 0 11) (h4 : m' 4 = m 4) (h5 : m' 5 = m 5) (k1 : c' 1 2 = c 1 2) (kp : ∀ i, i < 8 → c' (26 + i) = c (26 + i)) : Rpap m' c' N := by
  obtain ⟨a1, a2, a3, a4⟩ := h
  refine ⟨by rw [h0]; exact a1, by rw [k1]; exact a2, a3, fun i hi => ?_⟩
  have e : pvM m' i = pvM m i := by funext j; unfold pvM; rw [h4, h5]
  rw [e, kp i (by omega)]; exact a4 i hi
theorem Rday.keep {m m' c c' : Sg} (h : Rday m c) (h7 : m' 0 7 = m 0 7) (h8 : m' 0 8 = m 0 8) (k0 : c' 1 0 = c 1 0) (k3 : c' 1 3 = c 1 3) (k25 : c' 25 0 = c 25 0) : Rday m' c' := by
  unfold Rday at *; rw [h7, h8, k0, k3, k25]; exact h
theorem Rrul.keep {m m' c c' : Sg} {nt : Nat} (h : Rrul m c nt) (h4 : m' 0 4 = m 0 4) (k1 : c' 1 1 = c 1 1) : Rrul m' c' nt := by
  unfold Rrul at *; rw [h4, k1]; exact h
theorem Rtxt.keep {m m' c c' : Sg} {nt : Nat} (h : Rtxt m c nt) (h3 : m' 0 3 = m 0 3) (h1 : m' 1 = m 1) (h2 : m' 2 = m 2) (k0 : c' 0 8 = c 0 8) (k12 : c' 12 = c 12) (kt : ∀ k, 50 ≤ k → k % 3 ≠ 1 → c' k = c k) : Rtxt m' c' nt := by
  obtain ⟨e1, e2, e3, e4, e5, e6⟩ := h
  refine ⟨by rw [h3]; exact e1, by rw [k0]; exact e2, e3, e4, by rw [k12]; exact e5, fun t ht => ?_⟩
  obtain ⟨b, n, q, cods, x1, x2, x3⟩ := e6 t ht
  refine ⟨b, n, q, cods, ?_, x2, x3.keep (kt _ (by omega) (by omega)) (kt _ (by omega) (by omega))⟩
  unfold TxM at *
  rw [h1, h2]; exact x1
theorem Rtap.keep {m m' c c' : Sg} (h : Rtap m c) (h6 : m' 0 6 = m 0 6) (h3 : m' 3 = m 3) (k1 : c' 8 1 = c 8 1) (k9 : c' 9 = c 9) : Rtap m' c' := by
  unfold Rtap at *; rw [h6, h3, k1, k9]; exact h
theorem Rimg.keep {m m' c c' : Sg} {N N' nt : Nat} (h : Rimg m c N nt) (hN : N ≤ N') (h0 : ∀ j, 32 ≤ j → j ≤ 35 → m' 0 j = m 0 j) (h4 : ∀ i, i < N → m' 4 i = m 4 i) (h8 : m' 8 = m 8) (k3 : c' 0 3 = c 0 3) (k2 : c' 2 = c 2) (kp : ∀ i, i < 8 → c' (34 + i) = c (34 + i)) (h88 : N ≤ 8) : Rimg m' c' N' nt := by
  rcases h with ⟨g1, g2⟩ | ⟨g1, K, r, a1, a2, a3, a4, a5, a6, a7, a8, a9, a10, a11⟩
  · exact Or.inl ⟨by rw [h0 32 (by omega) (by omega)]; exact g1, by rw [k3]; exact g2⟩
  · refine Or.inr ⟨by rw [k3]; exact g1, K, r, by omega, a2, by rw [h0 32 (by omega) (by omega)]; exact a3, by rw [k2]; exact a4, by rw [h0 33 (by omega) (by omega), k2]; exact a5, by rw [h0 33 (by omega) (by omega)]; exact a6, by rw [h0 34 (by omega) (by omega), k2]; exact a7, by rw [h0 34 (by omega) (by omega)]; exact a8, by rw [h0 35 (by omega) (by omega)]; exact a9, by rw [k2]; exact a10, fun i hi => ?_⟩
    have e : pvK m' i = pvK m i := by funext j; unfold pvK; rw [h4 i (by omega), h8]
    rw [e, kp i (by omega)]; exact a11 i hi
theorem Rsht.keep {m m' c c' : Sg} (h : Rsht m c) (h9 : m' 9 = m 9) (h10 : m' 10 = m 10) (h11 : m' 11 = m 11) (h12 : m' 12 = m 12) (k : ∀ k, 14 ≤ k → k < 22 → c' k = c k) : Rsht m' c' := by
  intro s hs
  rw [h9, h10, h11, h12, k (14 + s) (by omega) (by omega), k (18 + s) (by omega) (by omega)]; exact h s hs
theorem pv_st5 (m : Sg) {N k : Nat} (v : Int32) (hk : k < 5) (i : Nat) {j : Nat} (hj : j < 6) : pvM (st m 5 (5 * N + k) v) i j = if i = N ∧ j = k + 1 then v else pvM m i j := by
  unfold pvM
  by_cases h0 : j = 0
  · rw [if_pos h0, if_pos h0, st_ne (by decide), if_neg (by omega)]
  · rw [if_neg h0, if_neg h0, st_at]
    by_cases h1 : i = N ∧ j = k + 1
    · rw [if_pos h1, if_pos (by omega)]
    · rw [if_neg h1, if_neg (by omega)]
theorem pv_st4 (m : Sg) (N : Nat) (v : Int32) (i j : Nat) : pvM (st m 4 N v) i j = if i = N ∧ j = 0 then v else pvM m i j := by
  unfold pvM
  by_cases h0 : j = 0
  · rw [if_pos h0, if_pos h0, st_at]
    by_cases h1 : i = N
    · rw [if_pos h1, if_pos ⟨h1, h0⟩]
    · rw [if_neg h1, if_neg (fun z => h1 z.1)]
  · rw [if_neg h0, if_neg h0, st_ne (by decide), if_neg (fun z => h0 z.2)]
theorem pv_st0 (m : Sg) (k : Nat) (v : Int32) (i : Nat) : pvM (st m 0 k v) i = pvM m i := by
  funext j; unfold pvM; rw [st_ne (by decide), st_ne (by decide)]
theorem h_range {nt w : Nat} {x : Int32} {c : Sg} {Q : Int32 → Sg → Prop} (hw : w < 8) (hQ : Q (if tL w ≤ x ∧ x ≤ tG w then 1 else 0) c) : vv_X7_inRange nt (nI w) x c Q := by
  unfold vv_X7_inRange
  rw [nI_clamp (by omega)]
  refine ⟨fun z => absurd z (nI_pos (by omega)), fun _ => ⟨fun z => absurd z (nI_ge (b := 8) hw (by decide)), fun _ => ⟨vp_in_nI hw (by decide), fun a => ?_, fun a => ⟨vp_in_nI hw (by decide), fun b => ?_, fun b => ?_⟩⟩⟩⟩
  · rw [if_neg (fun z => absurd z.1 (Int32.not_le.mpr a))] at hQ; exact hQ
  · rw [if_neg (fun z => absurd z.2 (Int32.not_le.mpr b))] at hQ; exact hQ
  · rw [if_pos ⟨Int32.not_lt.mp a, Int32.not_lt.mp b⟩] at hQ; exact hQ
