/-! ===== paper(), feed(), force(), set(), taken() ===== -/
def okP3 (x1 x2 x3 : Int32) : Prop := rngI x1 0 5 ∧ rngI x2 0 9 ∧ rngI x3 (-9) 9
def bgC (c : Sg) (N : Nat) (x1 x2 x3 : Int32) : Sg := st (st (st (st (st (st (st c (26 + N) 0 x1) (26 + N) 1 x2) (26 + N) 2 x3) (26 + N) 3 0) (26 + N) 4 50) (26 + N) 5 0) 1 2 (nI (N + 1))
def bgM (m : Sg) (N : Nat) (x1 x2 x3 : Int32) : Sg := st (st (st (st (st (st (st m 4 N x1) 5 (5 * N + 0) x2) 5 (5 * N + 1) x3) 5 (5 * N + 2) 0) 5 (5 * N + 3) 50) 5 (5 * N + 4) 0) 0 11 (nI (N + 1))
theorem h_paperC {nt N : Nat} {c : Sg} {x1 x2 x3 : Int32} {Q : Int32 → Sg → Prop} (hN : c 1 2 = nI N) (h8 : N ≤ 8) (hno : ¬ okP3 x1 x2 x3 → Q (-2) c) (hfull : okP3 x1 x2 x3 → N = 8 → Q (-4) c) (hok : okP3 x1 x2 x3 → N < 8 → Q (nI N) (bgC c N x1 x2 x3)) : vv_X7_paper nt x1 x2 x3 c Q := by
  unfold vv_X7_paper
  refine h_range (w := 7) (by decide) ?_
  by_cases r1 : tL 7 ≤ x1 ∧ x1 ≤ tG 7
  · rw [if_pos r1]
    refine ⟨fun z => absurd z (by decide), fun _ => h_range (w := 2) (by decide) ?_⟩
    by_cases r2 : tL 2 ≤ x2 ∧ x2 ≤ tG 2
    · rw [if_pos r2]
      refine ⟨fun z => absurd z (by decide), fun _ => h_range (w := 3) (by decide) ?_⟩
      by_cases r3 : tL 3 ≤ x3 ∧ x3 ≤ tG 3
      · rw [if_pos r3]
        refine ⟨fun _ => ?_, fun z => absurd z (by decide)⟩
        have ok : okP3 x1 x2 x3 := ⟨r1, r2, r3⟩
        rw [hN]
        refine ⟨fun z => ?_, fun z => ?_⟩
        · have hlt : N < 8 := (nI_ltI (b := 8) (by omega) (by decide)).mp z
          refine ⟨vp_in_nI hlt (by decide), ?_⟩
          rw [pp4 N (by omega)]
          unfold vv_X1_begin
          refine ⟨isP_now hlt, ?_⟩
          rintro g1 rfl g2 rfl g3 rfl g4 rfl g5 rfl g6 rfl g7 rfl
          have e2 : (st (st (st (st (st (st c (26 + N) 0 x1) (26 + N) 1 x2) (26 + N) 2 x3) (26 + N) 3 0) (26 + N) 4 50) (26 + N) 5 0) 1 2 = nI N := by
            rw [st_ne (by omega), st_ne (by omega), st_ne (by omega), st_ne (by omega), st_ne (by omega), st_ne (by omega)]; exact hN
          rw [e2, nI_1, st_on, nI_pred]
          exact hok ok hlt
        · have he : N = 8 := by
            rcases Nat.lt_or_ge N 8 with q | q
            · exact absurd (nI_lt (b := 8) q (by decide)) z
            · omega
          exact hfull ok he
      · rw [if_neg r3]
        exact ⟨fun z => absurd rfl z, fun _ => hno (fun z => r3 z.2.2)⟩
    · rw [if_neg r2]
      exact ⟨fun _ => hno (fun z => r2 z.2.1), fun z => absurd rfl z⟩
  · rw [if_neg r1]
    exact ⟨fun _ => hno (fun z => r1 z.1), fun z => absurd rfl z⟩
theorem h_paperM {N : Nat} {m : Sg} {x1 x2 x3 : Int32} {Q : Int32 → Sg → Prop} (hN : m 0 11 = nI N) (h8 : N ≤ 8) (hno : ¬ okP3 x1 x2 x3 → Q (-2) m) (hfull : okP3 x1 x2 x3 → N = 8 → Q (-4) m) (hok : okP3 x1 x2 x3 → N < 8 → Q (nI N) (bgM m N x1 x2 x3)) : vv_X8_paper x1 x2 x3 m Q := by
  unfold vv_X8_paper
  refine h_in (l := 0) (h := 5) rfl rfl ?_
  by_cases r1 : (0 : Int32) ≤ x1 ∧ x1 ≤ 5
  · rw [if_pos r1]
    refine ⟨fun z => absurd z (by decide), fun _ => h_in (l := 0) (h := 9) rfl rfl ?_⟩
    by_cases r2 : (0 : Int32) ≤ x2 ∧ x2 ≤ 9
    · rw [if_pos r2]
      refine ⟨fun z => absurd z (by decide), fun _ => h_in (l := -9) (h := 9) rfl rfl ?_⟩
      by_cases r3 : (-9 : Int32) ≤ x3 ∧ x3 ≤ 9
      · rw [if_pos r3]
        refine ⟨fun _ => ?_, fun z => absurd z (by decide)⟩
        have ok : okP3 x1 x2 x3 := ⟨r1, r2, r3⟩
        rw [hN]
        refine ⟨fun z => ?_, fun z => hfull ok ((nI_eq (b := 8) (by omega) (by decide)).mp z)⟩
        have hlt : N < 8 := by
          rcases Nat.lt_or_ge N 8 with q | q
          · exact q
          · exact absurd (show nI N = 8 by rw [show N = 8 by omega]; rfl) z
        refine ⟨vp_in_nI hlt (by decide), ?_⟩
        rintro g1 rfl
        rw [st_ne (by decide), hN, ix5, nI_clamp (by omega), nI_clamp (by omega)]
        refine ⟨vp_in_nI (by omega) (by decide), ?_⟩
        rintro g2 rfl
        rw [st_ne (show (0 : Nat) ≠ 5 by decide), st_ne (show (0 : Nat) ≠ 4 by decide), hN, ix5_1, nI_clamp (by omega)]
        refine ⟨vp_in_nI (by omega) (by decide), ?_⟩
        rintro g3 rfl
        rw [st_ne (show (0 : Nat) ≠ 5 by decide), st_ne (show (0 : Nat) ≠ 5 by decide), st_ne (show (0 : Nat) ≠ 4 by decide), hN, ix5_2, nI_clamp (by omega)]
        refine ⟨vp_in_nI (by omega) (by decide), ?_⟩
        rintro g4 rfl
        rw [st_ne (show (0 : Nat) ≠ 5 by decide), st_ne (show (0 : Nat) ≠ 5 by decide), st_ne (show (0 : Nat) ≠ 5 by decide), st_ne (show (0 : Nat) ≠ 4 by decide), hN, ix5_3, nI_clamp (by omega)]
        refine ⟨vp_in_nI (by omega) (by decide), ?_⟩
        rintro g5 rfl
        rw [st_ne (show (0 : Nat) ≠ 5 by decide), st_ne (show (0 : Nat) ≠ 5 by decide), st_ne (show (0 : Nat) ≠ 5 by decide), st_ne (show (0 : Nat) ≠ 5 by decide), st_ne (show (0 : Nat) ≠ 4 by decide), hN, ix5_4, nI_clamp (by omega)]
        refine ⟨vp_in_nI (by omega) (by decide), ?_⟩
        rintro g6 rfl g7 rfl
        rw [st_on]
        rw [st_ne (show (0 : Nat) ≠ 5 by decide), st_ne (show (0 : Nat) ≠ 5 by decide), st_ne (show (0 : Nat) ≠ 5 by decide), st_ne (show (0 : Nat) ≠ 5 by decide), st_ne (show (0 : Nat) ≠ 5 by decide), st_ne (show (0 : Nat) ≠ 4 by decide), hN, nI_1, nI_pred]
        exact hok ok hlt
      · rw [if_neg r3]
        exact ⟨fun z => absurd rfl z, fun _ => hno (fun z => r3 z.2.2)⟩
    · rw [if_neg r2]
      exact ⟨fun _ => hno (fun z => r2 z.2.1), fun z => absurd rfl z⟩
  · rw [if_neg r1]
    exact ⟨fun _ => hno (fun z => r1 z.1), fun z => absurd rfl z⟩
theorem bgC_ne {c : Sg} {N k : Nat} {x1 x2 x3 : Int32} (h1 : k ≠ 1) (h2 : k ≠ 26 + N) : bgC c N x1 x2 x3 k = c k := by
  unfold bgC; rw [st_ne h1, st_ne h2, st_ne h2, st_ne h2, st_ne h2, st_ne h2, st_ne h2]
theorem bgC_1 {c : Sg} {N j : Nat} {x1 x2 x3 : Int32} (hj : j ≠ 2) : bgC c N x1 x2 x3 1 j = c 1 j := by
  unfold bgC; rw [st_off _ hj, st_ne (by omega), st_ne (by omega), st_ne (by omega), st_ne (by omega), st_ne (by omega), st_ne (by omega)]
theorem bgC_new {c : Sg} {N j : Nat} {x1 x2 x3 : Int32} (hj : j < 6) : bgC c N x1 x2 x3 (26 + N) j = if j = 0 then x1 else if j = 1 then x2 else if j = 2 then x3 else if j = 4 then 50 else 0 := by
  unfold bgC
  rw [st_ne (by omega)]
  rcases (show j = 0 ∨ j = 1 ∨ j = 2 ∨ j = 3 ∨ j = 4 ∨ j = 5 by omega) with rfl | rfl | rfl | rfl | rfl | rfl <;> simp [st]
theorem bgM_ne {m : Sg} {N k : Nat} {x1 x2 x3 : Int32} (h0 : k ≠ 0) (h4 : k ≠ 4) (h5 : k ≠ 5) : bgM m N x1 x2 x3 k = m k := by
  unfold bgM; rw [st_ne h0, st_ne h5, st_ne h5, st_ne h5, st_ne h5, st_ne h5, st_ne h4]
theorem bgM_0 {m : Sg} {N j : Nat} {x1 x2 x3 : Int32} (hj : j ≠ 11) : bgM m N x1 x2 x3 0 j = m 0 j := by
  unfold bgM; rw [st_off _ hj, st_ne (by decide), st_ne (by decide), st_ne (by decide), st_ne (by decide), st_ne (by decide), st_ne (by decide)]
theorem bgM_4 {m : Sg} {N i : Nat} {x1 x2 x3 : Int32} (hi : i ≠ N) : bgM m N x1 x2 x3 4 i = m 4 i := by
  unfold bgM; rw [st_ne (by decide), st_ne (by decide), st_ne (by decide), st_ne (by decide), st_ne (by decide), st_ne (by decide), st_off _ hi]
theorem bgM_pv {m : Sg} {N i j : Nat} {x1 x2 x3 : Int32} (hj : j < 6) : pvM (bgM m N x1 x2 x3) i j = if i = N then (if j = 0 then x1 else if j = 1 then x2 else if j = 2 then x3 else if j = 4 then 50 else 0) else pvM m i j := by
  unfold bgM
  rw [pv_st0, pv_st5 _ _ (by decide) _ hj, pv_st5 _ _ (by decide) _ hj, pv_st5 _ _ (by decide) _ hj, pv_st5 _ _ (by decide) _ hj, pv_st5 _ _ (by decide) _ hj, pv_st4]
  by_cases hi : i = N
  · rcases (show j = 0 ∨ j = 1 ∨ j = 2 ∨ j = 3 ∨ j = 4 ∨ j = 5 by omega) with rfl | rfl | rfl | rfl | rfl | rfl <;> simp [hi]
  · simp [hi]
theorem Rel.paper {m c : Sg} {nt N : Nat} {x1 x2 x3 : Int32} (hp : Rpap m c N) (hd : Rday m c) (hr : Rrul m c nt) (ht : Rtxt m c nt) (ha : Rtap m c) (hi : Rimg m c N nt) (hs : Rsht m c) (ok : okP3 x1 x2 x3) (hlt : N < 8) : Rel (bgM m N x1 x2 x3) (bgC c N x1 x2 x3) nt := by
  refine ⟨N + 1, ⟨?_, ?_, hlt, fun i hi => ?_⟩, hd.keep (bgM_0 (by decide)) (bgM_0 (by decide)) (bgC_1 (by decide)) (bgC_1 (by decide)) (by rw [bgC_ne (by decide) (by omega)]), hr.keep (bgM_0 (by decide)) (bgC_1 (by decide)), ht.keep (bgM_0 (by decide)) (bgM_ne (by decide) (by decide) (by decide)) (bgM_ne (by decide) (by decide) (by decide)) (by rw [bgC_ne (by decide) (by omega)]) (bgC_ne (by decide) (by omega)) (fun k h1 h2 => bgC_ne (by omega) (by omega)), ha.keep (bgM_0 (by decide)) (bgM_ne (by decide) (by decide) (by decide)) (by rw [bgC_ne (by decide) (by omega)]) (bgC_ne (by decide) (by omega)), hi.keep (Nat.le_succ N) (fun j h1 h2 => bgM_0 (by omega)) (fun i hi => bgM_4 (by omega)) (bgM_ne (by decide) (by decide) (by decide)) (by rw [bgC_ne (by decide) (by omega)]) (bgC_ne (by decide) (by omega)) (fun i hi => bgC_ne (by omega) (by omega)) (by omega), hs.keep (bgM_ne (by decide) (by decide) (by decide)) (bgM_ne (by decide) (by decide) (by decide)) (bgM_ne (by decide) (by decide) (by decide)) (bgM_ne (by decide) (by decide) (by decide)) (fun k h1 h2 => bgC_ne (by omega) (by omega))⟩
  · unfold bgM; rw [st_on]
  · unfold bgC; rw [st_on]
  · by_cases h : i = N
    · subst h
      refine ⟨fun j hj => by rw [bgC_new hj, bgM_pv hj, if_pos rfl], ?_⟩
      unfold PapOk
      rw [bgM_pv (by decide), bgM_pv (by decide), bgM_pv (by decide), bgM_pv (by decide), bgM_pv (by decide), bgM_pv (by decide)]
      simp only [if_true]
      exact ⟨ok.1, ok.2.1, ok.2.2, (show rngI (0 : Int32) 0 3 from ⟨by decide, by decide⟩), (show rngI (50 : Int32) 0 99 from ⟨by decide, by decide⟩), Or.inl rfl⟩
    · obtain ⟨a1, a2⟩ := hp.2.2.2 i (by omega)
      refine ⟨fun j hj => by rw [bgC_ne (by omega) (by omega), bgM_pv hj, if_neg h]; exact a1 j hj, ?_⟩
      unfold PapOk
      rw [bgM_pv (by decide), bgM_pv (by decide), bgM_pv (by decide), bgM_pv (by decide), bgM_pv (by decide), bgM_pv (by decide), if_neg h, if_neg h, if_neg h, if_neg h, if_neg h, if_neg h]
      exact a2
theorem eq_paper {m c : Sg} {nt : Nat} (h : Rel m c nt) (x1 x2 x3 : Int32) : vv_X7_paper nt x1 x2 x3 c (fun r c' => vv_X8_paper x1 x2 x3 m (fun r' m' => r = r' ∧ Rel m' c' nt)) := by
  have h' := h
  obtain ⟨N, hp, hd, hr, ht, ha, hi, hs⟩ := h
  refine h_paperC hp.2.1 hp.2.2.1 (fun no => ?_) (fun ok h8 => ?_) (fun ok hlt => ?_)
  · exact h_paperM hp.1 hp.2.2.1 (fun _ => ⟨rfl, h'⟩) (fun ok => absurd ok no) (fun ok => absurd ok no)
  · exact h_paperM hp.1 hp.2.2.1 (fun no => absurd ok no) (fun _ _ => ⟨rfl, h'⟩) (fun _ hlt => absurd h8 (by omega))
  · exact h_paperM hp.1 hp.2.2.1 (fun no => absurd ok no) (fun _ h8 => absurd h8 (by omega)) (fun _ _ => ⟨rfl, Rel.paper hp hd hr ht ha hi hs ok hlt⟩)
theorem eq_feed {m c : Sg} {nt : Nat} (h : Rel m c nt) (x : Int32) : vv_X7_feed nt x c (fun r c' => vv_X8_feed x m (fun r' m' => r = r' ∧ Rel m' c' nt)) := by
  have h' := h
  obtain ⟨N, hp, hd, hr, ht, ha, hi, hs⟩ := h
  obtain ⟨k, f1, f2, f3, f4⟩ := ha
  have bad : ¬ ((0 : Int32) ≤ x ∧ x ≤ 255) → vv_X8_feed x m (fun r' m' => -2 = r' ∧ Rel m' c nt) := fun z => by
    unfold vv_X8_feed
    refine h_in (l := 0) (h := 255) rfl rfl ?_
    rw [if_neg z]
    exact ⟨fun q => absurd rfl q, fun _ => ⟨rfl, h'⟩⟩
  unfold vv_X7_feed
  refine ⟨fun z => bad (fun q => absurd q.1 (Int32.not_le.mpr z)), fun z => ⟨fun y => ?_, fun y => bad (fun q => y q.2)⟩⟩
  have ok : (0 : Int32) ≤ x ∧ x ≤ 255 := ⟨Int32.not_lt.mp z, y⟩
  rw [f2]
  refine ⟨fun hl => ?_, fun hl => ?_⟩
  · have hlt : k < 160 := (nI_ltI (b := 160) (by omega) (by decide)).mp hl
    unfold vv_X5_add
    rw [f2]
    refine ⟨fun q => absurd q (nI_ge (b := 160) hlt (by decide)), fun _ => ⟨vp_in_nI hlt (by decide), ?_⟩⟩
    rintro c1 rfl c2 rfl
    rw [nI_clamp (by omega), st_ne (show (8 : Nat) ≠ 9 by decide), f2, nI_1, st_on]
    unfold vv_X8_feed
    refine h_in (l := 0) (h := 255) rfl rfl ?_
    rw [if_pos ok]
    refine ⟨fun _ => ?_, fun q => absurd q (by decide)⟩
    rw [f1]
    refine ⟨fun _ => ⟨vp_in_nI hlt (by decide), ?_⟩, fun q => absurd ((nI_eq (b := 160) (by omega) (by decide)).mp q) (by omega)⟩
    rintro m1 rfl m2 rfl
    rw [nI_clamp (by omega), st_ne (show (0 : Nat) ≠ 3 by decide), f1, nI_1, st_on]
    refine ⟨rfl, N, hp.keep (by rw [st_off _ (by decide), st_ne (by decide)]) (by rw [st_ne (by decide), st_ne (by decide)]) (by rw [st_ne (by decide), st_ne (by decide)]) (by rw [st_ne (by decide), st_ne (by decide)]) (fun i hi => by rw [st_ne (by omega), st_ne (by omega)]), hd.keep (by rw [st_off _ (by decide), st_ne (by decide)]) (by rw [st_off _ (by decide), st_ne (by decide)]) (by rw [st_ne (by decide), st_ne (by decide)]) (by rw [st_ne (by decide), st_ne (by decide)]) (by rw [st_ne (by decide), st_ne (by decide)]), hr.keep (by rw [st_off _ (by decide), st_ne (by decide)]) (by rw [st_ne (by decide), st_ne (by decide)]), ht.keep (by rw [st_off _ (by decide), st_ne (by decide)]) (by rw [st_ne (by decide), st_ne (by decide)]) (by rw [st_ne (by decide), st_ne (by decide)]) (by rw [st_ne (by decide), st_ne (by decide)]) (by rw [st_ne (by decide), st_ne (by decide)]) (fun k h1 h2 => by rw [st_ne (by omega), st_ne (by omega)]), ⟨k + 1, st_on _ _ _ _, st_on _ _ _ _, hlt, fun i hi => ?_⟩, hi.keep (Nat.le_refl N) (fun j h1 h2 => by rw [st_off _ (by omega), st_ne (by decide)]) (fun i hi => by rw [st_ne (by decide), st_ne (by decide)]) (by rw [st_ne (by decide), st_ne (by decide)]) (by rw [st_ne (by decide), st_ne (by decide)]) (by rw [st_ne (by decide), st_ne (by decide)]) (fun i hi => by rw [st_ne (by omega), st_ne (by omega)]) hp.2.2.1, hs.keep (by rw [st_ne (by decide), st_ne (by decide)]) (by rw [st_ne (by decide), st_ne (by decide)]) (by rw [st_ne (by decide), st_ne (by decide)]) (by rw [st_ne (by decide), st_ne (by decide)]) (fun k h1 h2 => by rw [st_ne (by omega), st_ne (by omega)])⟩
    rw [st_ne (show (3 : Nat) ≠ 0 by decide), st_ne (show (9 : Nat) ≠ 8 by decide), st_at, st_at]
    by_cases hk : i = k
    · rw [if_pos hk, if_pos hk]; exact ⟨rfl, ok⟩
    · rw [if_neg hk, if_neg hk]; exact f4 i (by omega)
  · have he : k = 160 := by
      rcases Nat.lt_or_ge k 160 with q | q
      · exact absurd (nI_lt (b := 160) q (by decide)) hl
      · omega
    unfold vv_X8_feed
    refine h_in (l := 0) (h := 255) rfl rfl ?_
    rw [if_pos ok]
    refine ⟨fun _ => ?_, fun q => absurd q (by decide)⟩
    rw [f1, he]
    exact ⟨fun q => absurd rfl q, fun _ => ⟨rfl, h'⟩⟩
theorem eq_force {m c : Sg} {nt : Nat} (h : Rel m c nt) (x : Int32) : vv_X7_force nt x c (fun r c' => vv_X8_force x m (fun r' m' => r = r' ∧ Rel m' c' nt)) := by
  have h' := h
  obtain ⟨N, hp, hd, ⟨r, d1, d2, d3⟩, ht, ha, hi, hs⟩ := h
  have key : ((0 : Int32) ≤ x ∧ x ≤ nI nt - 1) ↔ (¬ x < 0 ∧ x < nI nt) := by
    have h1 := ht.2.2.1
    have h6 := ht.2.2.2.1
    constructor
    · rintro ⟨a, b⟩
      obtain ⟨j, hj, rfl⟩ := nI_of (Int32.not_lt.mpr a)
      rw [nI_sub1 (by omega)] at b
      have := (nI_leI hj (by omega)).mp b
      exact ⟨Int32.not_lt.mpr a, nI_lt (by omega) (by omega)⟩
    · rintro ⟨a, b⟩
      obtain ⟨j, hj, rfl⟩ := nI_of a
      have := (nI_ltI hj (by omega)).mp b
      rw [nI_sub1 (by omega)]
      exact ⟨Int32.not_lt.mp a, nI_le (by omega) (by omega)⟩
  have bad : ¬ (¬ x < 0 ∧ x < nI nt) → vv_X8_force x m (fun r' m' => -2 = r' ∧ Rel m' c nt) := fun z => by
    unfold vv_X8_force
    rw [ht.1]
    refine h_in (l := 0) (h := nI nt - 1) rfl rfl ?_
    rw [if_neg (fun q => z (key.mp q))]
    exact ⟨fun q => absurd rfl q, fun _ => ⟨rfl, h'⟩⟩
  unfold vv_X7_force
  rw [ht.2.1]
  refine ⟨fun z => bad (fun q => q.1 z), fun z => ⟨fun y => ?_, fun y => bad (fun q => y q.2)⟩⟩
  rintro w rfl c1 rfl
  unfold vv_X8_force
  rw [ht.1]
  refine h_in (l := 0) (h := nI nt - 1) rfl rfl ?_
  rw [if_pos (key.mpr ⟨z, y⟩)]
  refine ⟨fun _ => ?_, fun q => absurd q (by decide)⟩
  rintro w2 rfl m1 rfl
  obtain ⟨j, hj, rfl⟩ := nI_of z
  have h6 := ht.2.2.2.1
  have hjt : j < nt := (nI_ltI hj (by omega)).mp y
  refine ⟨by rw [d2, d3], N, hp.keep (st_off _ (by decide) _) (st_ne (by decide)) (st_ne (by decide)) (st_off _ (by decide) _) (fun i hi => st_ne (by omega)), hd.keep (st_off _ (by decide) _) (st_off _ (by decide) _) (st_off _ (by decide) _) (st_off _ (by decide) _) (by rw [st_ne (by decide)]), ⟨j, hjt, st_on _ _ _ _, st_on _ _ _ _⟩, ht.keep (st_off _ (by decide) _) (st_ne (by decide)) (st_ne (by decide)) (by rw [st_ne (by decide)]) (st_ne (by decide)) (fun k h1 h2 => st_ne (by omega)), ha.keep (st_off _ (by decide) _) (st_ne (by decide)) (by rw [st_ne (by decide)]) (st_ne (by decide)), hi.keep (Nat.le_refl N) (fun j h1 h2 => st_off _ (by omega) _) (fun i hi => by rw [st_ne (by decide)]) (st_ne (by decide)) (by rw [st_ne (by decide)]) (st_ne (by decide)) (fun i hi => st_ne (by omega)) hp.2.2.1, hs.keep (st_ne (by decide)) (st_ne (by decide)) (st_ne (by decide)) (st_ne (by decide)) (fun k h1 h2 => st_ne (by omega))⟩
theorem tLG_M : ∀ w, w < 7 → (tL w = (if w = 1 then 1 else if w = 3 then -9 else 0) ∧ tG w = (if w < 2 then 999 else if w < 4 then 9 else if w = 4 then 3 else if w = 5 then 99 else 1)) := by decide +kernel
theorem h_least {w : Nat} {m : Sg} {Q : Int32 → Sg → Prop} (hw : w < 7) (hQ : Q (tL w) m) : vv_X8_leastOf (nI w) m Q := by
  unfold vv_X8_leastOf
  rcases (show w = 0 ∨ w = 1 ∨ w = 2 ∨ w = 3 ∨ w = 4 ∨ w = 5 ∨ w = 6 by omega) with rfl | rfl | rfl | rfl | rfl | rfl | rfl
  · exact ⟨fun _ => ⟨fun _ => hQ, fun z => absurd z (by decide)⟩, fun z => absurd z (by decide)⟩
  · exact ⟨fun z => absurd rfl z, fun _ => hQ⟩
  · exact ⟨fun _ => ⟨fun _ => hQ, fun z => absurd z (by decide)⟩, fun z => absurd z (by decide)⟩
  · exact ⟨fun _ => ⟨fun z => absurd rfl z, fun _ => hQ⟩, fun z => absurd z (by decide)⟩
  · exact ⟨fun _ => ⟨fun _ => hQ, fun z => absurd z (by decide)⟩, fun z => absurd z (by decide)⟩
  · exact ⟨fun _ => ⟨fun _ => hQ, fun z => absurd z (by decide)⟩, fun z => absurd z (by decide)⟩
  · exact ⟨fun _ => ⟨fun _ => hQ, fun z => absurd z (by decide)⟩, fun z => absurd z (by decide)⟩
theorem h_most {w : Nat} {m : Sg} {Q : Int32 → Sg → Prop} (hw : w < 7) (hQ : Q (tG w) m) : vv_X8_mostOf (nI w) m Q := by
  unfold vv_X8_mostOf
  rcases (show w = 0 ∨ w = 1 ∨ w = 2 ∨ w = 3 ∨ w = 4 ∨ w = 5 ∨ w = 6 by omega) with rfl | rfl | rfl | rfl | rfl | rfl | rfl
  · exact ⟨fun z => absurd z (by decide), fun _ => hQ⟩
  · exact ⟨fun z => absurd z (by decide), fun _ => hQ⟩
  · exact ⟨fun _ => ⟨fun z => absurd z (by decide), fun _ => hQ⟩, fun z => absurd (by decide) z⟩
  · exact ⟨fun _ => ⟨fun z => absurd z (by decide), fun _ => hQ⟩, fun z => absurd (by decide) z⟩
  · exact ⟨fun _ => ⟨fun _ => ⟨fun z => absurd rfl z, fun _ => hQ⟩, fun z => absurd (by decide) z⟩, fun z => absurd (by decide) z⟩
  · exact ⟨fun _ => ⟨fun _ => ⟨fun _ => ⟨fun z => absurd rfl z, fun _ => hQ⟩, fun z => absurd z (by decide)⟩, fun z => absurd (by decide) z⟩, fun z => absurd (by decide) z⟩
  · exact ⟨fun _ => ⟨fun _ => ⟨fun _ => ⟨fun _ => hQ, fun z => absurd z (by decide)⟩, fun z => absurd z (by decide)⟩, fun z => absurd (by decide) z⟩, fun z => absurd (by decide) z⟩
theorem h_lays5 {m : Sg} {w p : Nat} {v : Int32} {Q : Sg → Prop} (h2 : 2 ≤ w) (h7 : w < 7) (hp : p < 8) (hQ : Q (st m 5 (5 * p + (w - 2)) v)) : vv_X8_lays (nI w) (nI p) v m Q := by
  unfold vv_X8_lays
  rw [ixw p w h2, nI_clamp (n := 5 * p + (w - 2)) (by omega)]
  refine ⟨fun _ => ⟨fun _ => ⟨fun z => absurd z (nI_ge (b := 7) h7 (by decide)), fun _ => ⟨vp_in_nI (by omega) (by decide), ?_⟩⟩, fun z => absurd ((nI_eq (b := 1) (by omega) (by decide)).mp z) (by omega)⟩, fun z => absurd ((nI_eq (b := 0) (by omega) (by decide)).mp z) (by omega)⟩
  rintro m1 rfl; exact hQ
theorem h_putC {nt P w : Nat} {v : Int32} {c : Sg} {Q : Sg → Prop} (hP : isP P) (h2 : 2 ≤ w) (h7 : w < 7) (hQ : Q (st c P (w - 1) v)) : vv_X1_put nt P (nI w) v c Q := by
  unfold vv_X1_put
  rcases (show w = 2 ∨ w = 3 ∨ w = 4 ∨ w = 5 ∨ w = 6 by omega) with rfl | rfl | rfl | rfl | rfl
  · exact ⟨hP, fun _ => by rintro g rfl; exact hQ, fun z => absurd z (by decide), fun z => absurd z (by decide), fun z => absurd z (by decide), fun z => absurd z (by decide), fun z _ _ _ _ => absurd rfl z⟩
  · exact ⟨hP, fun z => absurd z (by decide), fun _ => by rintro g rfl; exact hQ, fun z => absurd z (by decide), fun z => absurd z (by decide), fun z => absurd z (by decide), fun _ z _ _ _ => absurd rfl z⟩
  · exact ⟨hP, fun z => absurd z (by decide), fun z => absurd z (by decide), fun _ => by rintro g rfl; exact hQ, fun z => absurd z (by decide), fun z => absurd z (by decide), fun _ _ z _ _ => absurd rfl z⟩
  · exact ⟨hP, fun z => absurd z (by decide), fun z => absurd z (by decide), fun z => absurd z (by decide), fun _ => by rintro g rfl; exact hQ, fun z => absurd z (by decide), fun _ _ _ z _ => absurd rfl z⟩
  · exact ⟨hP, fun z => absurd z (by decide), fun z => absurd z (by decide), fun z => absurd z (by decide), fun z => absurd z (by decide), fun _ => by rintro g rfl; exact hQ, fun _ _ _ _ z => absurd rfl z⟩
/-- a field of a paper is written on both sides -/
theorem Rel.field {m c : Sg} {nt i w : Nat} {v : Int32} {N : Nat} (hp : Rpap m c N) (hd : Rday m c) (hr : Rrul m c nt) (ht : Rtxt m c nt) (ha : Rtap m c) (hi : Rimg m c N nt) (hs : Rsht m c) (hiN : i < N) (h2 : 2 ≤ w) (h7 : w < 7) (hv : tL w ≤ v ∧ v ≤ tG w) : Rel (st m 5 (5 * i + (w - 2)) v) (st c (26 + i) (w - 1) v) nt := by
  have h8 := hp.2.2.1
  refine ⟨N, ⟨by rw [st_ne (by decide)]; exact hp.1, by rw [st_ne (by omega)]; exact hp.2.1, h8, fun k hk => ?_⟩, hd.keep (by rw [st_ne (by decide)]) (by rw [st_ne (by decide)]) (by rw [st_ne (by omega)]) (by rw [st_ne (by omega)]) (by rw [st_ne (by omega)]), hr.keep (by rw [st_ne (by decide)]) (by rw [st_ne (by omega)]), ht.keep (by rw [st_ne (by decide)]) (st_ne (by decide)) (st_ne (by decide)) (by rw [st_ne (by omega)]) (st_ne (by omega)) (fun k h1 h2 => st_ne (by omega)), ha.keep (by rw [st_ne (by decide)]) (st_ne (by decide)) (by rw [st_ne (by omega)]) (st_ne (by omega)), hi.keep (Nat.le_refl N) (fun j h1 h2 => by rw [st_ne (by decide)]) (fun i hi => by rw [st_ne (by decide)]) (st_ne (by decide)) (by rw [st_ne (by omega)]) (st_ne (by omega)) (fun i hi => st_ne (by omega)) h8, hs.keep (st_ne (by decide)) (st_ne (by decide)) (st_ne (by decide)) (st_ne (by decide)) (fun k h1 h2 => st_ne (by omega))⟩
  obtain ⟨a1, a2⟩ := hp.2.2.2 k hk
  have pv : ∀ j, j < 6 → pvM (st m 5 (5 * i + (w - 2)) v) k j = if k = i ∧ j = w - 2 + 1 then v else pvM m k j := fun j hj => pv_st5 m v (by omega) k hj
  by_cases hk' : k = i
  · subst hk'
    refine ⟨fun j hj => ?_, ?_⟩
    · rw [pv j hj, st_at]
      by_cases hj2 : j = w - 1
      · rw [if_pos hj2, if_pos ⟨rfl, by omega⟩]
      · rw [if_neg hj2, if_neg (fun z => hj2 (by omega))]; exact a1 j hj
    · have pv' : ∀ j, j < 6 → pvM (st m 5 (5 * k + (w - 2)) v) k j = if j = w - 2 + 1 then v else pvM m k j := fun j hj => by
        rw [pv j hj]
        by_cases hj2 : j = w - 2 + 1
        · rw [if_pos ⟨rfl, hj2⟩, if_pos hj2]
        · rw [if_neg (fun z => hj2 z.2), if_neg hj2]
      unfold PapOk at *
      rw [pv' 0 (by decide), pv' 1 (by decide), pv' 2 (by decide), pv' 3 (by decide), pv' 4 (by decide), pv' 5 (by decide)]
      obtain ⟨b0, b1, b2, b3, b4, b5⟩ := a2
      rcases (show w = 2 ∨ w = 3 ∨ w = 4 ∨ w = 5 ∨ w = 6 by omega) with rfl | rfl | rfl | rfl | rfl
      · exact ⟨b0, hv, b2, b3, b4, b5⟩
      · exact ⟨b0, b1, hv, b3, b4, b5⟩
      · exact ⟨b0, b1, b2, hv, b4, b5⟩
      · exact ⟨b0, b1, b2, b3, hv, b5⟩
      · refine ⟨b0, b1, b2, b3, b4, ?_⟩
        obtain ⟨j, hj, rfl⟩ := nI_of2 (n := 1) (M := 1) (by decide) (Int32.not_lt.mpr hv.1) hv.2
        rcases (show j = 0 ∨ j = 1 by omega) with rfl | rfl
        · exact Or.inl rfl
        · exact Or.inr rfl
  · rw [st_ne (show 26 + k ≠ 26 + i by omega)]
    refine ⟨fun j hj => by rw [pv j hj, if_neg (fun z => hk' z.1)]; exact a1 j hj, ?_⟩
    unfold PapOk at *
    rw [pv 0 (by decide), pv 1 (by decide), pv 2 (by decide), pv 3 (by decide), pv 4 (by decide), pv 5 (by decide), if_neg (fun z => hk' z.1), if_neg (fun z => hk' z.1), if_neg (fun z => hk' z.1), if_neg (fun z => hk' z.1), if_neg (fun z => hk' z.1), if_neg (fun z => hk' z.1)]
    exact a2
theorem eq_set {m c : Sg} {nt : Nat} (h : Rel m c nt) (x1 x2 x3 : Int32) : vv_X7_set nt x1 x2 x3 c (fun r c' => vv_X8_set x1 x2 x3 m (fun r' m' => r = r' ∧ Rel m' c' nt)) := by
  have h' := h
  obtain ⟨rt, t1, t2⟩ := told_both h x2 x1
  obtain ⟨N, hp, -⟩ := h
  -- refusals of the reference
  have badW : ¬ ((0 : Int32) ≤ x1 ∧ x1 ≤ 6) → vv_X8_set x1 x2 x3 m (fun r' m' => -1000 = r' ∧ Rel m' c nt) := fun z => by
    unfold vv_X8_set
    refine h_in (l := 0) (h := 6) rfl rfl ?_
    rw [if_neg z]
    exact ⟨fun _ => ⟨rfl, h'⟩, fun q => absurd rfl q⟩
  unfold vv_X7_set
  refine ⟨fun z => badW (fun q => absurd q.1 (Int32.not_le.mpr z)), fun z => ⟨fun y => ?_, fun y => badW (fun q => y q.2)⟩⟩
  obtain ⟨w, hw, rfl⟩ := nI_of2 (n := 6) (M := 6) (by decide) z y
  have ok : (0 : Int32) ≤ nI w ∧ nI w ≤ 6 := ⟨Int32.not_lt.mp z, y⟩
  -- the reference, from J25 on
  have goM : ∀ {V : Int32 → Sg → Prop}, (¬ (tL w ≤ x3 ∧ x3 ≤ tG w) → V (-1000) m) → ((tL w ≤ x3 ∧ x3 ≤ tG w) → ∀ m', FrS m m' → vv_X8_lays (nI w) x2 x3 m' (fun m'' => V rt m'')) → vv_X8_set_J25 (nI w) x2 x3 m V := fun hno hyes => by
    unfold vv_X8_set_J25
    refine h_least (by omega) (h_most (by omega) (h_in (l := tL w) (h := tG w) rfl rfl ?_))
    by_cases r : tL w ≤ x3 ∧ x3 ≤ tG w
    · rw [if_pos r]
      refine ⟨fun _ => t2 _ (fun m' F => ?_), fun q => absurd q (by decide)⟩
      rintro u rfl
      exact hyes r m' F
    · rw [if_neg r]
      exact ⟨fun q => absurd rfl q, fun _ => hno r⟩
  have goM2 : ∀ {V : Int32 → Sg → Prop}, (w < 2 ∨ ∃ i, i < N ∧ x2 = nI i) → vv_X8_set_J25 (nI w) x2 x3 m V → vv_X8_set (nI w) x2 x3 m V := fun hc hj => by
    unfold vv_X8_set
    refine h_in (l := 0) (h := 6) rfl rfl ?_
    rw [if_pos ok]
    refine ⟨fun q => absurd q (by decide), fun _ => ⟨fun _ => hj, fun q => h_isOne hp.1 hp.2.2.1 (fun i hi e => ⟨fun q => absurd q (by decide), fun _ => hj⟩) (fun hn => ?_)⟩⟩
    rcases hc with hc | hc
    · exact absurd (nI_le (b := 1) (by omega) (by decide)) q
    · exact absurd hc hn
  -- the class, from J31 on
  have goC : (w < 2 ∨ ∃ i, i < N ∧ x2 = nI i) → vv_X7_set_J31 nt (nI w) x2 x3 c (fun r c' => vv_X8_set (nI w) x2 x3 m (fun r' m' => r = r' ∧ Rel m' c' nt)) := fun hc => by
    have no : ¬ (tL w ≤ x3 ∧ x3 ≤ tG w) → vv_X8_set (nI w) x2 x3 m (fun r' m' => -1000 = r' ∧ Rel m' c nt) := fun r => goM2 hc (goM (fun _ => ⟨rfl, h'⟩) (fun q => absurd q r))
    unfold vv_X7_set_J31
    rw [nI_clamp (by omega)]
    refine ⟨vp_in_nI (by omega) (by decide), fun a => no (fun q => absurd q.1 (Int32.not_le.mpr a)), fun a => ⟨vp_in_nI (by omega) (by decide), fun b => t1 _ (fun c1 F1 => ?_), fun b => no (fun q => b q.2)⟩⟩
    have rng : tL w ≤ x3 ∧ x3 ≤ tG w := ⟨Int32.not_lt.mp a, b⟩
    rintro u rfl
    rcases (show w = 0 ∨ w = 1 ∨ 2 ≤ w by omega) with rfl | rfl | h2
    · refine ⟨fun q => absurd rfl q, fun _ => ?_⟩
      rintro c2 rfl
      refine goM2 hc (goM (fun q => absurd rng q) (fun _ m1 G1 => ?_))
      unfold vv_X8_lays
      refine ⟨fun q => absurd rfl q, fun _ => ?_⟩
      rintro m2 rfl
      obtain ⟨N1, qp, qd, qr, qt, qa, qi, qs⟩ := h'.frame G1.Q F1.K
      exact ⟨rfl, N1, qp.keep (st_off _ (by decide) _) (st_ne (by decide)) (st_ne (by decide)) (st_off _ (by decide) _) (fun i hi => st_ne (by omega)), ⟨by rw [st_on, st_on], by rw [st_on]; exact rng, by rw [st_off _ (by decide), st_off _ (by decide)]; exact qd.2.2.1, by rw [st_off _ (by decide)]; exact qd.2.2.2.1, by rw [st_ne (by decide)]; exact qd.2.2.2.2⟩, qr.keep (st_off _ (by decide) _) (st_off _ (by decide) _), qt.keep (st_off _ (by decide) _) (st_ne (by decide)) (st_ne (by decide)) (by rw [st_ne (by decide)]) (st_ne (by decide)) (fun k h1 h2 => st_ne (by omega)), qa.keep (st_off _ (by decide) _) (st_ne (by decide)) (by rw [st_ne (by decide)]) (st_ne (by decide)), qi.keep (Nat.le_refl N1) (fun j h1 h2 => st_off _ (by omega) _) (fun i hi => by rw [st_ne (by decide)]) (st_ne (by decide)) (by rw [st_ne (by decide)]) (st_ne (by decide)) (fun i hi => st_ne (by omega)) qp.2.2.1, qs.keep (st_ne (by decide)) (st_ne (by decide)) (st_ne (by decide)) (st_ne (by decide)) (fun k h1 h2 => st_ne (by omega))⟩
    · refine ⟨fun _ => ⟨fun q => absurd rfl q, fun _ => ?_⟩, fun q => absurd q (by decide)⟩
      rintro c2 rfl
      refine goM2 hc (goM (fun q => absurd rng q) (fun _ m1 G1 => ?_))
      unfold vv_X8_lays
      refine ⟨fun _ => ⟨fun q => absurd rfl q, fun _ => ?_⟩, fun q => absurd q (by decide)⟩
      rintro m2 rfl
      obtain ⟨N1, qp, qd, qr, qt, qa, qi, qs⟩ := h'.frame G1.Q F1.K
      exact ⟨rfl, N1, qp.keep (st_off _ (by decide) _) (st_ne (by decide)) (st_ne (by decide)) (st_off _ (by decide) _) (fun i hi => st_ne (by omega)), ⟨by rw [st_off _ (by decide), st_off _ (by decide)]; exact qd.1, by rw [st_off _ (by decide)]; exact qd.2.1, by rw [st_on, st_on], by rw [st_on]; exact rng, by rw [st_ne (by decide)]; exact qd.2.2.2.2⟩, qr.keep (st_off _ (by decide) _) (st_off _ (by decide) _), qt.keep (st_off _ (by decide) _) (st_ne (by decide)) (st_ne (by decide)) (by rw [st_ne (by decide)]) (st_ne (by decide)) (fun k h1 h2 => st_ne (by omega)), qa.keep (st_off _ (by decide) _) (st_ne (by decide)) (by rw [st_ne (by decide)]) (st_ne (by decide)), qi.keep (Nat.le_refl N1) (fun j h1 h2 => st_off _ (by omega) _) (fun i hi => by rw [st_ne (by decide)]) (st_ne (by decide)) (by rw [st_ne (by decide)]) (st_ne (by decide)) (fun i hi => st_ne (by omega)) qp.2.2.1, qs.keep (st_ne (by decide)) (st_ne (by decide)) (st_ne (by decide)) (st_ne (by decide)) (fun k h1 h2 => st_ne (by omega))⟩
    · obtain ⟨i, hi, rfl⟩ := hc.resolve_left (by omega)
      have h8 := hp.2.2.1
      refine ⟨fun _ => ⟨fun _ => ⟨vp_in_nI (by omega) (by decide), ?_⟩, fun q => absurd ((nI_eq (b := 1) (by omega) (by decide)).mp q) (by omega)⟩, fun q => absurd ((nI_eq (b := 0) (by omega) (by decide)).mp q) (by omega)⟩
      rw [pp4 i (by omega)]
      refine h_putC (isP_now (by omega)) h2 (by omega) ?_
      refine goM2 hc (goM (fun q => absurd rng q) (fun _ m1 G1 => h_lays5 h2 (by omega) (by omega) ?_))
      obtain ⟨N1, qp, qd, qr, qt, qa, qi, qs⟩ := h'.frame G1.Q F1.K
      have eN : N1 = N := (nI_eq (by have := qp.2.2.1; omega) (by omega)).mp (qp.1.symm.trans ((G1.2 11 (by omega)).trans hp.1))
      subst eN
      exact ⟨rfl, Rel.field qp qd qr qt qa qi qs hi h2 (by omega) rng⟩
  refine ⟨fun q => goC (Or.inl ((nI_ltI (b := 2) (by omega) (by decide)).mp q)), fun q => h_isPaper hp.2.1 hp.2.2.1 (fun i hi e => ⟨fun _ => goC (Or.inr ⟨i, hi, e⟩), fun q => absurd q (by decide)⟩) (fun hn => ⟨fun q => absurd rfl q, fun _ => ?_⟩)⟩
  have h2 : 2 ≤ w := Nat.le_of_not_lt (fun z => q (nI_lt (b := 2) z (by decide)))
  unfold vv_X8_set
  refine h_in (l := 0) (h := 6) rfl rfl ?_
  rw [if_pos ok]
  refine ⟨fun q => absurd q (by decide), fun _ => ⟨fun q => absurd ((nI_leI (b := 1) (by omega) (by decide)).mp q) (by omega), fun _ => h_isOne hp.1 hp.2.2.1 (fun i hi e => absurd ⟨i, hi, e⟩ hn) (fun _ => ⟨fun _ => ⟨rfl, h'⟩, fun q => absurd rfl q⟩)⟩⟩
