section
/-! ===== the law: its start ===== -/
theorem kn_X7 : Cond.instantiable RX7 11 ∈ TT := (TTm (List.mem_of_getElem? (i := 122) (by decide +kernel)) rfl)
theorem kz_X7 : Cond.initialized RX7 ∈ TT := (TTm (List.mem_of_getElem? (i := 104) (by decide +kernel)) rfl)
theorem kc_L_7 : Cond.classLink RL 7 RX7 ∈ TT := (TTm (List.mem_of_getElem? (i := 121) (by decide +kernel)) rfl)
theorem kn_X8 : Cond.instantiable RX8 40 ∈ TT := (TTm (List.mem_of_getElem? (i := 830) (by decide +kernel)) rfl)
theorem kz_X8 : Cond.initialized RX8 ∈ TT := (TTm (List.mem_of_getElem? (i := 119) (by decide +kernel)) rfl)
theorem kc_L_10 : Cond.classLink RL 10 RX8 ∈ TT := (TTm (List.mem_of_getElem? (i := 829) (by decide +kernel)) rfl)
theorem li_L_9 : LkI RL 9 yX7_init cX7_init 3 0 := ⟨(TTm (List.mem_of_getElem? (i := 123) (by decide +kernel)) rfl), (TTm (List.mem_of_getElem? (i := 124) (by decide +kernel)) rfl), (TTm (List.mem_of_getElem? (i := 104) (by decide +kernel)) rfl), (TTm (List.mem_of_getElem? (i := 125) (by decide +kernel)) rfl), rfl, by decide +kernel⟩
theorem li_L_12 : LkI RL 12 yX8_init cX8_init 1 0 := ⟨(TTm (List.mem_of_getElem? (i := 831) (by decide +kernel)) rfl), (TTm (List.mem_of_getElem? (i := 832) (by decide +kernel)) rfl), (TTm (List.mem_of_getElem? (i := 119) (by decide +kernel)) rfl), (TTm (List.mem_of_getElem? (i := 833) (by decide +kernel)) rfl), rfl, by decide +kernel⟩
def hypC : Cond := Jvm.Cond.and given_1 narrow_1
def tmS (i : Nat) : Term := Term.string (sO i) (sI i)
theorem st_L {args : Array Value} {s : State} {A : Nat → Prop} (hs : ∀ w ∈ flatC hypC, w.before args s = true) (hA : ∀ a : Nat, a < s.heap.size → ¬ A a) : ∃ t : Nat, (Term.static RX7 "LEAST" "[I").eval args s none [] s = some (.ref t) ∧ va_T .int t 8 (fun j => .int (tL j)) A s s.heap :=
  va_Tof (by decide) (hs (Cond.arrayOf (.static RX7 "LEAST" "[I") .int) (by decide +kernel)) (va_eqt (hs (Cond.eq (.length (.static RX7 "LEAST" "[I")) (.int (Int32.ofNat 8))) (by decide +kernel))) (fun j hj => va_eqt (hs (Cond.eq (.elem (.static RX7 "LEAST" "[I") (.int (Int32.ofNat j))) (.int (tL j))) ((by decide +kernel : ∀ j, j < 8 → Cond.eq (.elem (.static RX7 "LEAST" "[I") (.int (Int32.ofNat j))) (.int (tL j)) ∈ flatC hypC) j hj))) hA
theorem st_G {args : Array Value} {s : State} {A : Nat → Prop} (hs : ∀ w ∈ flatC hypC, w.before args s = true) (hA : ∀ a : Nat, a < s.heap.size → ¬ A a) : ∃ t : Nat, (Term.static RX7 "GREATEST" "[I").eval args s none [] s = some (.ref t) ∧ va_T .int t 8 (fun j => .int (tG j)) A s s.heap :=
  va_Tof (by decide) (hs (Cond.arrayOf (.static RX7 "GREATEST" "[I") .int) (by decide +kernel)) (va_eqt (hs (Cond.eq (.length (.static RX7 "GREATEST" "[I")) (.int (Int32.ofNat 8))) (by decide +kernel))) (fun j hj => va_eqt (hs (Cond.eq (.elem (.static RX7 "GREATEST" "[I") (.int (Int32.ofNat j))) (.int (tG j))) ((by decide +kernel : ∀ j, j < 8 → Cond.eq (.elem (.static RX7 "GREATEST" "[I") (.int (Int32.ofNat j))) (.int (tG j)) ∈ flatC hypC) j hj))) hA
theorem st_A {args : Array Value} {s : State} {A : Nat → Prop} (hs : ∀ w ∈ flatC hypC, w.before args s = true) (hA : ∀ a : Nat, a < s.heap.size → ¬ A a) : ∃ t : Nat, (Term.static RX7 "ABOVE" "[I").eval args s none [] s = some (.ref t) ∧ va_T .int t 6 (fun j => .int (tA j)) A s s.heap :=
  va_Tof (by decide) (hs (Cond.arrayOf (.static RX7 "ABOVE" "[I") .int) (by decide +kernel)) (va_eqt (hs (Cond.eq (.length (.static RX7 "ABOVE" "[I")) (.int (Int32.ofNat 6))) (by decide +kernel))) (fun j hj => va_eqt (hs (Cond.eq (.elem (.static RX7 "ABOVE" "[I") (.int (Int32.ofNat j))) (.int (tA j))) ((by decide +kernel : ∀ j, j < 6 → Cond.eq (.elem (.static RX7 "ABOVE" "[I") (.int (Int32.ofNat j))) (.int (tA j)) ∈ flatC hypC) j hj))) hA
def elC (i j : Nat) : Cond := Cond.eq (.elem (.field (tmS i) "java/lang/String" "value" "[B") (.int (Int32.ofNat j))) (.int ((sB.getD i []).getD j 0))
def blkS (i : Nat) : List Cond := [Cond.exactly (tmS i) "java/lang/String", Cond.eq (.field (tmS i) "java/lang/String" "coder" "B") (.int 0), Cond.arrayOf (.field (tmS i) "java/lang/String" "value" "[B") .byte, Cond.eq (.length (.field (tmS i) "java/lang/String" "value" "[B")) (.int (Int32.ofNat (sN.getD i 0)))] ++ ((List.range (sN.getD i 0)).map (elC i) ++ (List.range i).map (fun j => Cond.not (Cond.eq (tmS j) (tmS i))))
theorem st_blk : ((flatC hypC).drop 67).take 230 = (List.range 13).flatMap blkS := by decide +kernel
theorem blk_in {i : Nat} (hi : i < 13) {w : Cond} (h : w ∈ blkS i) : w ∈ flatC hypC := List.mem_of_mem_drop (List.mem_of_mem_take (by rw [st_blk]; exact List.mem_flatMap.mpr ⟨i, List.mem_range.mpr hi, h⟩))
theorem st_S {args : Array Value} {s : State} {A : Nat → Prop} (hs : ∀ w ∈ flatC hypC, w.before args s = true) (hA : ∀ a : Nat, a < s.heap.size → ¬ A a) : ∃ adK adV : Nat → Nat, vk_S 13 sN sB adK adV A s s.heap ∧ ∀ i : Nat, i < 13 → (tmS i).eval args s none [] s = some (.ref (adK i)) :=
  vk_Sof (tm := tmS) (by decide +kernel) (fun i hi => hs _ (blk_in hi (by simp [blkS]))) (fun i hi => hs _ (blk_in hi (by simp [blkS]))) (fun i hi => hs _ (blk_in hi (by simp [blkS]))) (fun i hi => hs _ (blk_in hi (by simp [blkS]))) (fun i hi j hj => hs (elC i j) (blk_in hi (List.mem_append_right _ (List.mem_append_left _ (List.mem_map.mpr ⟨j, List.mem_range.mpr hj, rfl⟩))))) (fun i j hi hj hij => by
    rcases Nat.lt_or_gt_of_ne hij with q | q
    · exact Or.inl (hs _ (blk_in hj (List.mem_append_right _ (List.mem_append_right _ (List.mem_map.mpr ⟨i, List.mem_range.mpr q, rfl⟩)))))
    · exact Or.inr (hs _ (blk_in hi (List.mem_append_right _ (List.mem_append_right _ (List.mem_map.mpr ⟨j, List.mem_range.mpr q, rfl⟩)))))) hA
theorem st_X {args : Array Value} {s : State} {A : Nat → Prop} (hts : ∀ w ∈ lw_tbl, w.before args s = true) (hs : ∀ w ∈ flatC hypC, w.before args s = true) (hA : ∀ a : Nat, a < s.heap.size → ¬ A a) : ∃ X : Nat → Nat, XC X A s s.heap := by
  obtain ⟨t0, e0, T0⟩ := st_L hs hA
  obtain ⟨t1, e1, T1⟩ := st_G hs hA
  obtain ⟨t2, e2, T2⟩ := st_A hs hA
  obtain ⟨adK, adV, hS, hK⟩ := st_S hs hA
  have z7 := hts (.initialized RX7) (by decide +kernel)
  refine ⟨fun n => if n = 0 then t0 else if n = 1 then t1 else if n = 2 then t2 else if n < 30 then adK (n - 10) else adV (n - 30), va_Zof (hts (.laysStatic RX7 "LEAST" "[I") (by decide +kernel)) z7 e0 hA, va_Zof (hts (.laysStatic RX7 "GREATEST" "[I") (by decide +kernel)) z7 e1 hA, va_Zof (hts (.laysStatic RX7 "ABOVE" "[I") (by decide +kernel)) z7 e2 hA, T0, T1, T2, ⟨fun i hi => ?_, fun i j hi hj h => ?_⟩, fun i hi => ?_, va_Zof (hts (.laysStatic "java/lang/String" "COMPACT_STRINGS" "Z") (by decide +kernel)) (hts (.initialized "java/lang/String") (by decide +kernel)) (va_eqt (hs (Cond.eq (.static "java/lang/String" "COMPACT_STRINGS" "Z") (.int 1)) (by decide +kernel))) hA, va_Zqof (hts (.laysStatic "jdk/internal/util/Preconditions" "SIOOBE_FORMATTER" "Ljava/util/function/BiFunction;") (by decide +kernel)) (hts (.initialized "jdk/internal/util/Preconditions") (by decide +kernel)) (hs (Cond.isRef (.static "jdk/internal/util/Preconditions" "SIOOBE_FORMATTER" "Ljava/util/function/BiFunction;")) (by decide +kernel)) hA⟩
  · dsimp only
    rw [if_neg (by omega), if_neg (by omega), if_neg (by omega), if_pos (by omega), if_neg (by omega), if_neg (by omega), if_neg (by omega), if_neg (by omega), show 10 + i - 10 = i by omega, show 30 + i - 30 = i by omega]
    exact hS.1 i hi
  · dsimp only at h
    rw [if_neg (by omega), if_neg (by omega), if_neg (by omega), if_pos (by omega), if_neg (by omega), if_neg (by omega), if_neg (by omega), if_pos (by omega), show 10 + i - 10 = i by omega, show 10 + j - 10 = j by omega] at h
    exact hS.2 i j hi hj h
  · dsimp only
    rw [if_neg (by omega), if_neg (by omega), if_neg (by omega), if_pos (by omega), show 10 + i - 10 = i by omega]
    exact vk_R.of (A := args) (hts (.stringRef (sO i) (sI i) (sT i)) ((by decide +kernel : ∀ i, i < 13 → Cond.stringRef (sO i) (sI i) (sT i) ∈ lw_tbl) i hi)) (hK i hi)
theorem st_SX {args : Array Value} {s : State} (hts : ∀ w ∈ lw_tbl, w.before args s = true) : SX s :=
  ⟨va_AO.of (hts (.arrayOver (.object RX1)) (by decide +kernel)), va_AO.of (hts (.arrayOver (.object RX6)) (by decide +kernel)), va_AO.of (hts (.arrayOver (.object RX3)) (by decide +kernel)), va_Nw.of rfl (hts (.methodLinkNest RX0 21 yX1_init RX7) (by decide +kernel)), va_Nw.of rfl (hts (.methodLinkNest RX7 24 yX1_init RX7) (by decide +kernel)), va_Nw.of rfl (hts (.methodLinkNest RX7 31 yX5_init RX7) (by decide +kernel)), va_Nw.of rfl (hts (.methodLinkNest RX7 59 yX4_init RX7) (by decide +kernel)), va_Nw.of rfl (hts (.methodLinkNest RX7 84 yX3_init RX7) (by decide +kernel))⟩
theorem st_K {args : Array Value} {s : State} (hts : ∀ w ∈ lw_tbl, w.before args s = true) : ∃ (D : va_G) (cy : Nat → ClassId), va_K D rk_cl (rk_tys cy) s := by
  have sub : ∀ {C : String} {T : u_T} {N : Nat}, (∀ w ∈ u_ws C T N, w ∈ TT) → ∀ w ∈ u_ws C T N, w ∈ lw_tbl := fun h w hw => (List.mem_filter.mp (h w hw)).1
  obtain ⟨c0, i0, k0⟩ := u_known (C := RX0) (T := TX0) (N := 5) (n := 5) hts (sub layX0) (hts (.instantiable RX0 5) (by decide +kernel))
  obtain ⟨c1, i1, k1⟩ := u_known (C := RX1) (T := TX1) (N := 6) (n := 6) hts (sub layX1) (hts (.instantiable RX1 6) (by decide +kernel))
  obtain ⟨c2, i2, k2⟩ := u_known (C := RX2) (T := TX2) (N := 3) (n := 3) hts (sub layX2) (hts (.instantiable RX2 3) (by decide +kernel))
  obtain ⟨c3, i3, k3⟩ := u_known (C := RX3) (T := TX3) (N := 3) (n := 3) hts (sub layX3) (hts (.instantiable RX3 3) (by decide +kernel))
  obtain ⟨c4, i4, k4⟩ := u_known (C := RX4) (T := TX4) (N := 6) (n := 6) hts (sub layX4) (hts (.instantiable RX4 6) (by decide +kernel))
  obtain ⟨c5, i5, k5⟩ := u_known (C := RX5) (T := TX5) (N := 6) (n := 6) hts (sub layX5) (hts (.instantiable RX5 6) (by decide +kernel))
  obtain ⟨c6, i6, k6⟩ := u_known (C := RX6) (T := TX6) (N := 4) (n := 4) hts (sub layX6) (hts (.instantiable RX6 4) (by decide +kernel))
  obtain ⟨c7, i7, k7⟩ := u_known (C := RX7) (T := TX7) (N := 11) (n := 11) hts (sub layX7) (hts (.instantiable RX7 11) (by decide +kernel))
  obtain ⟨c8, i8, k8⟩ := u_known (C := RX8) (T := TX8) (N := 40) (n := 40) hts (sub rk_lay8) (hts (.instantiable RX8 40) (by decide +kernel))
  obtain ⟨aI, kI, pI, I1, I2, I3⟩ := Cond.arrayClass_spec (hts (.arrayClass .int) (by decide +kernel))
  obtain ⟨aZ, kZ, pZ, Z1, Z2, Z3⟩ := Cond.arrayClass_spec (hts (.arrayClass .boolean) (by decide +kernel))
  obtain ⟨pP, aP, kP, P1, P2, P3, P4, P5⟩ := Cond.arrayOver_spec (hts (.arrayOver (.object RX1)) (by decide +kernel))
  obtain ⟨pS, aS, kS, S1, S2, S3, S4, S5⟩ := Cond.arrayOver_spec (hts (.arrayOver (.object RX3)) (by decide +kernel))
  obtain ⟨pT, aT, kT, T1, T2, T3, T4, T5⟩ := Cond.arrayOver_spec (hts (.arrayOver (.object RX6)) (by decide +kernel))
  refine ⟨(fun k => if k = 0 then c0 else if k = 1 then c1 else if k = 2 then c2 else if k = 3 then c3 else if k = 4 then c4 else if k = 5 then c5 else if k = 6 then c6 else if k = 7 then c7 else c8, fun k => if k = 0 then i0 else if k = 1 then i1 else if k = 2 then i2 else if k = 3 then i3 else if k = 4 then i4 else if k = 5 then i5 else if k = 6 then i6 else if k = 7 then i7 else i8), fun k => if k = 0 then aI else if k = 1 then aZ else if k = 2 then aP else if k = 3 then aS else aT, ?_, ?_⟩
  · intro k q hq
    match k, hq with
    | 0, hq => cases hq; exact k0
    | 1, hq => cases hq; exact k1
    | 2, hq => cases hq; exact k2
    | 3, hq => cases hq; exact k3
    | 4, hq => cases hq; exact k4
    | 5, hq => cases hq; exact k5
    | 6, hq => cases hq; exact k6
    | 7, hq => cases hq; exact k7
    | 8, hq => cases hq; exact k8
    | k + 9, hq => simp [rk_cl] at hq
  · intro k q hq
    match k, hq with
    | 0, hq => cases hq; exact ⟨fun n z => ⟨fun k h => (by cases h), kI, I2, pI, I3⟩, I1⟩
    | 1, hq => cases hq; exact ⟨fun n z => ⟨fun k h => (by cases h), kZ, Z2, pZ, Z3⟩, Z1⟩
    | 2, hq => cases hq; exact ⟨fun n z => ⟨fun k h => (by cases h), kP, P3, pP, P4⟩, kP, pP, P3, P4, P1, P5⟩
    | 3, hq => cases hq; exact ⟨fun n z => ⟨fun k h => (by cases h), kS, S3, pS, S4⟩, kS, pS, S3, S4, S1, S5⟩
    | 4, hq => cases hq; exact ⟨fun n z => ⟨fun k h => (by cases h), kT, T3, pT, T4⟩, kT, pT, T3, T4, T1, T5⟩
    | k + 5, hq => simp [rk_tys] at hq
theorem whole_start {p : Program} {e : Env} {s : State} {m : MethodId} {below : List Frame} {meth : Method} {c : Code} (l : Launch) {b L : Nat} {xs : Nat → Int32} (hL : L ≤ 3072) (C0 : lw_At p s m meth c b L xs) : W p l e room_1 s m #[Value.ref b] below meth c s.heap [] 0 0 (lw_Z below #[Value.ref b] s) (entryFrame m ([Value.ref b] : List Value).toArray 4) := by
  obtain ⟨hx, hb, hr, hml, hown, hts, hX, hbl, hlocks, hgv⟩ := id C0
  generalize hAe : (fun q : Nat => s.heap.size ≤ q) = A
  have hA : ∀ q : Nat, s.heap.size ≤ q → A q := fun q h => by rw [← hAe]; exact h
  have hA' : ∀ q : Nat, A q → s.heap.size ≤ q := fun q h => by rw [← hAe] at h; exact h
  have hbA : ¬ A b := fun h => absurd (hA' b h) (Nat.not_le.mpr hbl)
  have hAn : ∀ a : Nat, a < s.heap.size → ¬ A a := fun a h q => absurd (hA' a q) (Nat.not_le.mpr h)
  obtain ⟨X, KX⟩ := st_X (A := A) hts (flat_of_before hypC hgv) hAn
  have KS := st_SX hts
  obtain ⟨D, cy, hK⟩ := st_K hts
  have K : Kx p s m #[Value.ref b] meth c code 4 RL D cy := ⟨hx, hb, hml, hown, fun w h => hts w (List.mem_filter.mp h).1, hK, hlocks⟩
  have hw : Wd D A s.heap [] s.heap [] := ⟨fun k q h => by simp at h, ⟨fun i j p q h => by simp at h, fun k q h => by simp at h⟩, va_S.rf⟩
  have hl := lv_entry ([.ref b]) (n := 4) (Nat.le_of_ble_eq_true rfl)
  rw [lg_entry_eq]
  generalize (lg_sl ([.ref b]) ++ List.replicate (4 - (lg_sl ([.ref b])).length) Slot.unset).toArray = ls at hl ⊢
  have hl : lv_has ls 4 [(0, .ref b)] := hl
  refine rx_new (fs := [.null, .null, .null, .int 0, .null, .null, .null, .null, .int 0, .null, .null]) layX7 (ci := 7) rfl tyX7_ok K hA hw kc_L_7 kn_X7 kz_X7 (by decide) (Nat.le_of_ble_eq_true rfl) (Nat.le_of_ble_eq_true rfl) dL_law_0 (fun q0 H hw => ?_)
  have hw : Wd D A s.heap [(q0, .inr (7, [.null, .null, .null, .int 0, .null, .null, .null, .null, .int 0, .null, .null]))] H _ := hw
  refine W.widen (k := 1) (n := 11) (Nat.le_of_ble_eq_true rfl) (Nat.le_of_ble_eq_true rfl) ?_
  refine lv_dup K.1 K.2.1 dL_law_3 rfl ?_
  refine rx_I (wl := []) (wc := [(q0, .inr (7, [.null, .null, .null, .int 0, .null, .null, .null, .null, .int 0, .null, .null]))]) (wr := []) (As := []) (rest := [.ref q0]) K KX KS hA hw (cx_X7_init l D cy _ X _ (fun q h => Or.inr h) q0) li_L_9 ⟨Nat.le_of_ble_eq_true rfl, Nat.le_of_ble_eq_true rfl⟩ ⟨Nat.le_of_ble_eq_true rfl, Nat.le_of_ble_eq_true rfl⟩ rfl hl.1 (Nat.le_of_ble_eq_true rfl) rfl dL_law_4 (fun v w1 H locs hB hw => ?_)
  obtain ⟨rfl, adC, u, f, a0, rfl, hf⟩ := hB
  have hw : Wd D A s.heap (wsC cy 1 adC (sgI u f)) H locs := by rw [List.append_nil] at hw; exact hw
  refine W.widen (k := 53) (n := 1313) (Nat.le_of_ble_eq_true rfl) (Nat.le_of_ble_eq_true rfl) ?_
  refine W.eq (g2 := F0 m 7 ls [.ref q0]) rfl ?_
  refine lv_astore_n (lv' := [(1, .ref q0), (0, .ref b)]) K.1 K.2.1 dL_law_7 rfl hl (by decide) rfl (fun ls hl => ?_)
  refine rx_new (fs := zR) rk_lay8 (ci := 8) rfl tyX8_ok K hA hw kc_L_10 kn_X8 kz_X8 (by decide) (Nat.le_of_ble_eq_true rfl) (Nat.le_of_ble_eq_true rfl) dL_law_8 (fun q1 H hw => ?_)
  refine W.widen (k := 54) (n := 1353) (Nat.le_of_ble_eq_true rfl) (Nat.le_of_ble_eq_true rfl) ?_
  refine lv_dup K.1 K.2.1 dL_law_11 rfl ?_
  refine rx_I (wl := wsC cy 1 adC (sgI u f)) (wc := [(q1, .inr (8, zR))]) (wr := []) (As := []) (rest := [.ref q1]) K KX KS hA hw (cx_X8_init l D cy _ X _ (fun q h => Or.inr h) q1) li_L_12 ⟨Nat.le_of_ble_eq_true rfl, Nat.le_of_ble_eq_true rfl⟩ ⟨Nat.le_of_ble_eq_true rfl, Nat.le_of_ble_eq_true rfl⟩ rfl hl.1 (Nat.le_of_ble_eq_true rfl) rfl dL_law_12 (fun v w1 H locs hB hw => ?_)
  obtain ⟨rfl, adM, mS, b0, rfl, hI⟩ := hB
  have hw : Wd D A s.heap (wsC cy 1 adC (sgI u f) ++ wsM cy adM mS) H locs := by rw [List.append_nil] at hw; exact hw
  refine W.widen (k := 66) (n := 2756) (Nat.le_of_ble_eq_true rfl) (Nat.le_of_ble_eq_true rfl) ?_
  refine W.eq (g2 := F0 m 15 ls [.ref q1]) rfl ?_
  refine lv_astore_n (lv' := [(2, .ref q1), (1, .ref q0), (0, .ref b)]) K.1 K.2.1 dL_law_15 rfl hl (by decide) rfl (fun ls hl => ?_)
  refine lv_iconst (v := (0 : Int32)) K.1 K.2.1 dL_law_16 (by decide) ?_
  refine lv_istore_n (lv' := [(3, .int (0 : Int32)), (2, .ref q1), (1, .ref q0), (0, .ref b)]) K.1 K.2.1 dL_law_17 rfl hl (by decide) rfl (fun ls hl => ?_)
  rw [← a0, ← b0] at hl
  exact law_loop K KX KS hA hA' hX hbl hbA hr hL 513 0 1 adC adM (sgI u f) mS 66 2756 H locs ls (Nat.zero_le _) (by omega) (by decide) (by decide) (rel0 hI hf) hw hl
end
