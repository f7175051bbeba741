theorem dX8_film_0 : decode cX8_film 0 = .ok (.iload_n 1, 1) := by decide +kernel
theorem dX8_film_1 : decode cX8_film 1 = .ok (.invokestatic 413, 3) := by decide +kernel
theorem dX8_film_4 : decode cX8_film 4 = .ok (.ifCond .eq 11, 3) := by decide +kernel
theorem dX8_film_7 : decode cX8_film 7 = .ok (.aload_n 0, 1) := by decide +kernel
theorem dX8_film_8 : decode cX8_film 8 = .ok (.iload_n 2, 1) := by decide +kernel
theorem dX8_film_9 : decode cX8_film 9 = .ok (.invokevirtual 73, 3) := by decide +kernel
theorem dX8_film_12 : decode cX8_film 12 = .ok (.ifCond .ne 6, 3) := by decide +kernel
theorem dX8_film_15 : decode cX8_film 15 = .ok (.bipush (-2), 2) := by decide +kernel
theorem dX8_film_17 : decode cX8_film 17 = .ok (.ireturn, 1) := by decide +kernel
theorem dX8_film_18 : decode cX8_film 18 = .ok (.aload_n 0, 1) := by decide +kernel
theorem dX8_film_19 : decode cX8_film 19 = .ok (.iload_n 1, 1) := by decide +kernel
theorem dX8_film_20 : decode cX8_film 20 = .ok (.iconst 0, 1) := by decide +kernel
theorem dX8_film_21 : decode cX8_film 21 = .ok (.bipush 8, 2) := by decide +kernel
theorem dX8_film_23 : decode cX8_film 23 = .ok (.invokevirtual 419, 3) := by decide +kernel
theorem dX8_film_26 : decode cX8_film 26 = .ok (.pop, 1) := by decide +kernel
theorem dX8_film_27 : decode cX8_film 27 = .ok (.iconst 0, 1) := by decide +kernel
theorem dX8_film_28 : decode cX8_film 28 = .ok (.istore_n 3, 1) := by decide +kernel
theorem dX8_film_29 : decode cX8_film 29 = .ok (.iconst 0, 1) := by decide +kernel
theorem dX8_film_30 : decode cX8_film 30 = .ok (.istore 4, 2) := by decide +kernel
theorem dX8_film_32 : decode cX8_film 32 = .ok (.iload 4, 2) := by decide +kernel
theorem dX8_film_34 : decode cX8_film 34 = .ok (.bipush 8, 2) := by decide +kernel
theorem dX8_film_36 : decode cX8_film 36 = .ok (.if_icmp .ge 51, 3) := by decide +kernel
theorem dX8_film_39 : decode cX8_film 39 = .ok (.aload_n 0, 1) := by decide +kernel
theorem dX8_film_40 : decode cX8_film 40 = .ok (.getfield 54, 3) := by decide +kernel
theorem dX8_film_43 : decode cX8_film 43 = .ok (.bipush 40, 2) := by decide +kernel
theorem dX8_film_45 : decode cX8_film 45 = .ok (.iload_n 1, 1) := by decide +kernel
theorem dX8_film_46 : decode cX8_film 46 = .ok (.imul, 1) := by decide +kernel
theorem dX8_film_47 : decode cX8_film 47 = .ok (.iload 4, 2) := by decide +kernel
theorem dX8_film_49 : decode cX8_film 49 = .ok (.iadd, 1) := by decide +kernel
theorem dX8_film_50 : decode cX8_film 50 = .ok (.aload_n 0, 1) := by decide +kernel
theorem dX8_film_51 : decode cX8_film 51 = .ok (.iload_n 2, 1) := by decide +kernel
theorem dX8_film_52 : decode cX8_film 52 = .ok (.iload 4, 2) := by decide +kernel
theorem dX8_film_54 : decode cX8_film 54 = .ok (.invokevirtual 118, 3) := by decide +kernel
theorem dX8_film_57 : decode cX8_film 57 = .ok (.iastore, 1) := by decide +kernel
theorem dX8_film_58 : decode cX8_film 58 = .ok (.iload_n 3, 1) := by decide +kernel
theorem dX8_film_59 : decode cX8_film 59 = .ok (.aload_n 0, 1) := by decide +kernel
theorem dX8_film_60 : decode cX8_film 60 = .ok (.getfield 54, 3) := by decide +kernel
theorem dX8_film_63 : decode cX8_film 63 = .ok (.bipush 40, 2) := by decide +kernel
theorem dX8_film_65 : decode cX8_film 65 = .ok (.iload_n 1, 1) := by decide +kernel
theorem dX8_film_66 : decode cX8_film 66 = .ok (.imul, 1) := by decide +kernel
theorem dX8_film_67 : decode cX8_film 67 = .ok (.iload 4, 2) := by decide +kernel
theorem dX8_film_69 : decode cX8_film 69 = .ok (.iadd, 1) := by decide +kernel
theorem dX8_film_70 : decode cX8_film 70 = .ok (.iaload, 1) := by decide +kernel
theorem dX8_film_71 : decode cX8_film 71 = .ok (.ifCond .ne 7, 3) := by decide +kernel
theorem dX8_film_74 : decode cX8_film 74 = .ok (.iconst 0, 1) := by decide +kernel
theorem dX8_film_75 : decode cX8_film 75 = .ok (.goto 4, 3) := by decide +kernel
theorem dX8_film_78 : decode cX8_film 78 = .ok (.iconst 1, 1) := by decide +kernel
theorem dX8_film_79 : decode cX8_film 79 = .ok (.iadd, 1) := by decide +kernel
theorem dX8_film_80 : decode cX8_film 80 = .ok (.istore_n 3, 1) := by decide +kernel
theorem dX8_film_81 : decode cX8_film 81 = .ok (.iinc 4 1, 3) := by decide +kernel
theorem dX8_film_84 : decode cX8_film 84 = .ok (.goto (-52), 3) := by decide +kernel
theorem dX8_film_87 : decode cX8_film 87 = .ok (.iload_n 3, 1) := by decide +kernel
theorem dX8_film_88 : decode cX8_film 88 = .ok (.ireturn, 1) := by decide +kernel
set_option maxHeartbeats 4000000 in
set_option maxRecDepth 100000 in
theorem bb_X8_film_79 {p : Program} {l : Launch} {e : Env} {s : State} {m : MethodId} {args : Array Value} {below : List Frame} {meth : Method} {c : Code} {D : va_G} {cy : Nat → ClassId} {ad : Nat → Nat} {A : Nat → Prop} {Q : Int32 → Sg → Prop} (K : Kx p s m args meth c cX8_film 5 RX8 D cy) (hr : meth.sig.returnType = (some .int)) {rc32 : Int32 → Int32 → Int32 → Int32 → Sg → Prop} (hrc32 : ∀ (x1 : Int32) (x2 : Int32) (x3 : Int32) (x4 : Int32) (u : Sg) (H : Heap) (locs : List Loc) (ls : Array Slot), rc32 x1 x2 x3 x4 u → Wd D A s.heap (wsM cy ad u) H locs → lv_has ls 5 [(0, .ref (ad 0)), (1, .int x1), (2, .int x2), (3, .int x3), (4, .int x4)] → W p l e (rmD 45) s m args below meth c H locs 0 0 (MQ below (va_Qi Q (PostG (wsM cy ad) D A) A) args s 0 0 A) (F0 m 32 ls [])) (x1 : Int32) (x2 : Int32) (x4 : Int32) (t0 : Int32) (t1 : Int32) (g0 : Sg) (H : Heap) (locs : List Loc) (ls : Array Slot) (hd : vv_X8_film_J79 rc32 x1 x2 x4 t0 t1 g0 Q) (hw : Wd D A s.heap (wsM cy ad g0) H locs) (hl : lv_has ls 5 [(0, .ref (ad 0)), (1, .int x1), (2, .int x2), (4, .int x4)]) : W p l e (rmD 45) s m args below meth c H locs 0 0 (MQ below (va_Qi Q (PostG (wsM cy ad) D A) A) args s 0 0 A) (F0 m 79 ls [.int t1, .int t0]) := by
  unfold vv_X8_film_J79 at hd
  refine lv_iadd K.1 K.2.1 dX8_film_79 ?_
  refine lv_topi (fun x3_16 ex3_16 => ?_)
  have hd := hd x3_16 ex3_16
  refine lv_istore_n (lv' := [(3, .int x3_16), (0, .ref (ad 0)), (1, .int x1), (2, .int x2), (4, .int x4)]) K.1 K.2.1 dX8_film_80 rfl hl (by decide) rfl (fun ls hl => ?_)
  obtain ⟨x4_17, ex4_17⟩ : ∃ y : Int32, y = x4 + (1 : Int32) := ⟨_, rfl⟩
  have hd := hd x4_17 ex4_17
  refine lv_iinc (v := x4_17) (lv' := [(4, .int x4_17), (3, .int x3_16), (0, .ref (ad 0)), (1, .int x1), (2, .int x2)]) K.1 K.2.1 dX8_film_81 hl (k := 4) rfl (by rw [ex4_17]; rfl) (by decide) rfl (fun ls hl => ?_)
  refine lv_goto (tgt := 32) K.1 K.2.1 dX8_film_84 (by decide) ?_
  exact hrc32 x1 x2 x3_16 x4_17 g0 _ _ _ hd hw (lv_sub hl [2, 3, 4, 1, 0] rfl)
set_option maxHeartbeats 4000000 in
set_option maxRecDepth 100000 in
theorem bb_X8_film_32 {p : Program} {l : Launch} {e : Env} {s : State} {m : MethodId} {args : Array Value} {below : List Frame} {meth : Method} {c : Code} {D : va_G} {cy : Nat → ClassId} {ad : Nat → Nat} {A : Nat → Prop} {Q : Int32 → Sg → Prop} (K : Kx p s m args meth c cX8_film 5 RX8 D cy) (hr : meth.sig.returnType = (some .int)) : ∀ (n : Nat) (x1 : Int32) (x2 : Int32) (x3 : Int32) (x4 : Int32)  (g0 : Sg) (H : Heap) (locs : List Loc) (ls : Array Slot), vv_X8_film_L32 Q n x1 x2 x3 x4 g0 → Wd D A s.heap (wsM cy ad g0) H locs → lv_has ls 5 [(0, .ref (ad 0)), (1, .int x1), (2, .int x2), (3, .int x3), (4, .int x4)] → W p l e (rmD 45) s m args below meth c H locs 0 0 (MQ below (va_Qi Q (PostG (wsM cy ad) D A) A) args s 0 0 A) (F0 m 32 ls []) := by
  intro n
  induction n with
  | zero => intro _ _ _ _ _ _ _ _ hd; exact hd.elim
  | succ n ih =>
    intro x1 x2 x3 x4 g0 H locs ls hd hw hl
    unfold vv_X8_film_L32 at hd
    refine lv_iload K.1 K.2.1 dX8_film_32 (lv_at hl 4 rfl) ?_
    refine lv_bipush (v := (8 : Int32)) K.1 K.2.1 dX8_film_34 (by decide) ?_
    refine lv_icmp_ge (tgt := 87) K.1 K.2.1 dX8_film_36 (by decide) (fun h_11 => ?_) (fun h_11 => ?_)
    · have hd := hd.1 h_11
      refine lv_iload_n K.1 K.2.1 dX8_film_87 rfl (lv_at hl 3 rfl) ?_
      exact rk_iret K hw hr hd dX8_film_88
    · have hd := hd.2 h_11
      refine lv_aload_n K.1 K.2.1 dX8_film_39 rfl (lv_at hl 0 rfl) ?_
      refine rm_get 39 K hw (by decide) kf_X8_54 rfl dX8_film_40 ?_
      refine lv_bipush (v := (40 : Int32)) K.1 K.2.1 dX8_film_43 (by decide) ?_
      refine lv_iload_n K.1 K.2.1 dX8_film_45 rfl (lv_at hl 1 rfl) ?_
      refine lv_imul K.1 K.2.1 dX8_film_46 ?_
      refine lv_iload K.1 K.2.1 dX8_film_47 (lv_at hl 4 rfl) ?_
      refine lv_iadd K.1 K.2.1 dX8_film_49 ?_
      refine lv_aload_n K.1 K.2.1 dX8_film_50 rfl (lv_at hl 0 rfl) ?_
      refine lv_iload_n K.1 K.2.1 dX8_film_51 rfl (lv_at hl 2 rfl) ?_
      refine lv_iload K.1 K.2.1 dX8_film_52 (lv_at hl 4 rfl) ?_
      refine rk_vi (As := [.int x2, .int x4]) (rest := [.int (((40 : Int32) * x1) + x4), .ref (ad 12)]) K hw (cc_X8_voteOf l D cy ad A g0 _ x2 x4 hd) lk_X8_118 (ci := 8) rfl (q0 := 0) (wsM_at cy ad _ (by decide)) ⟨Nat.le_of_ble_eq_true rfl, Nat.le_of_ble_eq_true rfl⟩ ⟨Nat.zero_le _, Nat.zero_le _⟩ rfl hl.1 (Nat.le_of_ble_eq_true rfl) rfl dX8_film_54 (fun r_13 g_12 H locs hd hw => ?_)
      have hb := hd.1
      have hd := hd.2
      refine rm_iast 12 K hw (by decide) hb dX8_film_57 (fun g_14 eg_14 H locs hw => ?_)
      have hd := hd g_14 eg_14
      refine lv_iload_n K.1 K.2.1 dX8_film_58 rfl (lv_at hl 3 rfl) ?_
      refine lv_aload_n K.1 K.2.1 dX8_film_59 rfl (lv_at hl 0 rfl) ?_
      refine rm_get 39 K hw (by decide) kf_X8_54 rfl dX8_film_60 ?_
      refine lv_bipush (v := (40 : Int32)) K.1 K.2.1 dX8_film_63 (by decide) ?_
      refine lv_iload_n K.1 K.2.1 dX8_film_65 rfl (lv_at hl 1 rfl) ?_
      refine lv_imul K.1 K.2.1 dX8_film_66 ?_
      refine lv_iload K.1 K.2.1 dX8_film_67 (lv_at hl 4 rfl) ?_
      refine lv_iadd K.1 K.2.1 dX8_film_69 ?_
      have hb := hd.1
      have hd := hd.2
      refine rm_iald 12 K hw (by decide) hb dX8_film_70 ?_
      refine lv_if_ne (tgt := 78) K.1 K.2.1 dX8_film_71 (by decide) (fun h_15 => ?_) (fun h_15 => ?_)
      · have hd := hd.1 h_15
        refine lv_iconst (v := (1 : Int32)) K.1 K.2.1 dX8_film_78 (by decide) ?_
        exact bb_X8_film_79 K hr ih x1 x2 x4 x3 (1 : Int32) g_14 _ _ _ hd hw (lv_sub hl [0, 1, 2, 4] rfl)
      · have hd := hd.2 h_15
        refine lv_iconst (v := (0 : Int32)) K.1 K.2.1 dX8_film_74 (by decide) ?_
        refine lv_goto (tgt := 79) K.1 K.2.1 dX8_film_75 (by decide) ?_
        exact bb_X8_film_79 K hr ih x1 x2 x4 x3 (0 : Int32) g_14 _ _ _ hd hw (lv_sub hl [0, 1, 2, 4] rfl)
set_option maxHeartbeats 4000000 in
set_option maxRecDepth 100000 in
theorem cc_X8_film (l : Launch) (D : va_G) (cy : Nat → ClassId) (ad : Nat → Nat) (A : Nat → Prop) (g0 : Sg) (Q : Int32 → Sg → Prop) (x1 : Int32) (x2 : Int32) (hd : vv_X8_film x1 x2 g0 Q) : Met l yX8_film (Cond.code yX8_film cX8_film 5 (some .int) :: TT) (rmD 45) (va_Pc [.ref (ad 0), .int x1, .int x2] (PreG (wsM cy ad) D cy A g0)) (va_Qi Q (PostG (wsM cy ad) D A) A) 0 0 A := by
  unfold vv_X8_film at hd
  refine Met.ofW (cc := cX8_film) (maxL := 5) (ret := (some .int)) (by decide) rfl ?_
  intro p e s m args below meth c s₁ B hml hv
  obtain ⟨rfl, hP, hK0, hD⟩ := hv
  have K : Kx p s m _ meth c cX8_film 5 RX8 D cy := ⟨B.exec, B.bytes, hml, findClass_of_methodNamed B.named, fun w h => atoms_spec (ws := Cond.code yX8_film cX8_film 5 (some .int) :: TT) B.pre w (List.mem_cons_of_mem _ h), hK0, B.notSynchronized⟩
  have hw : Wd D A s.heap (wsM cy ad g0) s.heap [] := ⟨hP, hD, va_S.rf⟩
  have hr := B.returns
  have hl := lv_entry ([.ref (ad 0), .int x1, .int x2]) (n := 5) (Nat.le_of_ble_eq_true rfl)
  rw [lg_entry_eq]
  generalize (lg_sl ([.ref (ad 0), .int x1, .int x2]) ++ List.replicate (5 - (lg_sl ([.ref (ad 0), .int x1, .int x2])).length) Slot.unset).toArray = ls at hl ⊢
  have hl : lv_has ls 5 [(0, .ref (ad 0)), (1, .int x1), (2, .int x2)] := hl
  refine lv_iload_n K.1 K.2.1 dX8_film_0 rfl (lv_at hl 1 rfl) ?_
  refine rk_si (As := [.int x1]) (rest := []) K hw (cc_X8_isSheet l D cy ad A g0 _ x1 hd) lk_X8_413 ⟨Nat.le_of_ble_eq_true rfl, Nat.le_of_ble_eq_true rfl⟩ ⟨Nat.zero_le _, Nat.zero_le _⟩ rfl hl.1 (Nat.le_of_ble_eq_true rfl) rfl dX8_film_1 (fun r_2 g_1 H locs hd hw => ?_)
  refine lv_if_eq (tgt := 15) K.1 K.2.1 dX8_film_4 (by decide) (fun h_3 => ?_) (fun h_3 => ?_)
  · have hd := hd.1 h_3
    refine lv_bipush (v := (-2 : Int32)) K.1 K.2.1 dX8_film_15 (by decide) ?_
    exact rk_iret K hw hr hd dX8_film_17
  · have hd := hd.2 h_3
    refine lv_aload_n K.1 K.2.1 dX8_film_7 rfl (lv_at hl 0 rfl) ?_
    refine lv_iload_n K.1 K.2.1 dX8_film_8 rfl (lv_at hl 2 rfl) ?_
    refine rk_vi (As := [.int x2]) (rest := []) K hw (cc_X8_isOne l D cy ad A g_1 _ x2 hd) lk_X8_73 (ci := 8) rfl (q0 := 0) (wsM_at cy ad _ (by decide)) ⟨Nat.le_of_ble_eq_true rfl, Nat.le_of_ble_eq_true rfl⟩ ⟨Nat.zero_le _, Nat.zero_le _⟩ rfl hl.1 (Nat.le_of_ble_eq_true rfl) rfl dX8_film_9 (fun r_5 g_4 H locs hd hw => ?_)
    refine lv_if_ne (tgt := 18) K.1 K.2.1 dX8_film_12 (by decide) (fun h_6 => ?_) (fun h_6 => ?_)
    · have hd := hd.1 h_6
      refine lv_aload_n K.1 K.2.1 dX8_film_18 rfl (lv_at hl 0 rfl) ?_
      refine lv_iload_n K.1 K.2.1 dX8_film_19 rfl (lv_at hl 1 rfl) ?_
      refine lv_iconst (v := (0 : Int32)) K.1 K.2.1 dX8_film_20 (by decide) ?_
      refine lv_bipush (v := (8 : Int32)) K.1 K.2.1 dX8_film_21 (by decide) ?_
      refine rk_vi (As := [.int x1, .int (0 : Int32), .int (8 : Int32)]) (rest := []) K hw (cc_X8_sheet l D cy ad A g_4 _ x1 (0 : Int32) (8 : Int32) hd) lk_X8_419 (ci := 8) rfl (q0 := 0) (wsM_at cy ad _ (by decide)) ⟨Nat.le_of_ble_eq_true rfl, Nat.le_of_ble_eq_true rfl⟩ ⟨Nat.zero_le _, Nat.zero_le _⟩ rfl hl.1 (Nat.le_of_ble_eq_true rfl) rfl dX8_film_23 (fun r_8 g_7 H locs hd hw => ?_)
      refine lv_pop K.1 K.2.1 dX8_film_26 rfl ?_
      refine lv_iconst (v := (0 : Int32)) K.1 K.2.1 dX8_film_27 (by decide) ?_
      refine lv_topi (fun x3_9 ex3_9 => ?_)
      have hd := hd x3_9 ex3_9
      refine lv_istore_n (lv' := [(3, .int x3_9), (0, .ref (ad 0)), (1, .int x1), (2, .int x2)]) K.1 K.2.1 dX8_film_28 rfl hl (by decide) rfl (fun ls hl => ?_)
      refine lv_iconst (v := (0 : Int32)) K.1 K.2.1 dX8_film_29 (by decide) ?_
      refine lv_topi (fun x4_10 ex4_10 => ?_)
      have hd := hd x4_10 ex4_10
      refine lv_istore (lv' := [(4, .int x4_10), (3, .int x3_9), (0, .ref (ad 0)), (1, .int x1), (2, .int x2)]) K.1 K.2.1 dX8_film_30 hl (by decide) rfl (fun ls hl => ?_)
      obtain ⟨n9, hd⟩ := hd
      exact bb_X8_film_32 K hr  n9 x1 x2 x3_9 x4_10 g_7 _ _ _ hd hw (lv_sub hl [2, 3, 4, 1, 0] rfl)
    · have hd := hd.2 h_6
      refine lv_bipush (v := (-2 : Int32)) K.1 K.2.1 dX8_film_15 (by decide) ?_
      exact rk_iret K hw hr hd dX8_film_17
theorem dX8_carriedBy_0 : decode cX8_carriedBy 0 = .ok (.iload_n 1, 1) := by decide +kernel
theorem dX8_carriedBy_1 : decode cX8_carriedBy 1 = .ok (.istore_n 3, 1) := by decide +kernel
theorem dX8_carriedBy_2 : decode cX8_carriedBy 2 = .ok (.aload_n 0, 1) := by decide +kernel
theorem dX8_carriedBy_3 : decode cX8_carriedBy 3 = .ok (.invokevirtual 362, 3) := by decide +kernel
theorem dX8_carriedBy_6 : decode cX8_carriedBy 6 = .ok (.istore 4, 2) := by decide +kernel
theorem dX8_carriedBy_8 : decode cX8_carriedBy 8 = .ok (.iconst 0, 1) := by decide +kernel
theorem dX8_carriedBy_9 : decode cX8_carriedBy 9 = .ok (.istore 5, 2) := by decide +kernel
theorem dX8_carriedBy_11 : decode cX8_carriedBy 11 = .ok (.iconst 0, 1) := by decide +kernel
theorem dX8_carriedBy_12 : decode cX8_carriedBy 12 = .ok (.istore 6, 2) := by decide +kernel
theorem dX8_carriedBy_14 : decode cX8_carriedBy 14 = .ok (.iload 6, 2) := by decide +kernel
theorem dX8_carriedBy_16 : decode cX8_carriedBy 16 = .ok (.iload_n 2, 1) := by decide +kernel
theorem dX8_carriedBy_17 : decode cX8_carriedBy 17 = .ok (.if_icmp .ge 36, 3) := by decide +kernel
theorem dX8_carriedBy_20 : decode cX8_carriedBy 20 = .ok (.iload_n 3, 1) := by decide +kernel
theorem dX8_carriedBy_21 : decode cX8_carriedBy 21 = .ok (.ldc_w 422, 3) := by decide +kernel
theorem dX8_carriedBy_24 : decode cX8_carriedBy 24 = .ok (.imul, 1) := by decide +kernel
theorem dX8_carriedBy_25 : decode cX8_carriedBy 25 = .ok (.sipush 12345, 3) := by decide +kernel
theorem dX8_carriedBy_28 : decode cX8_carriedBy 28 = .ok (.iadd, 1) := by decide +kernel
theorem dX8_carriedBy_29 : decode cX8_carriedBy 29 = .ok (.istore_n 3, 1) := by decide +kernel
theorem dX8_carriedBy_30 : decode cX8_carriedBy 30 = .ok (.iload 5, 2) := by decide +kernel
theorem dX8_carriedBy_32 : decode cX8_carriedBy 32 = .ok (.iload 4, 2) := by decide +kernel
theorem dX8_carriedBy_34 : decode cX8_carriedBy 34 = .ok (.iload_n 3, 1) := by decide +kernel
theorem dX8_carriedBy_35 : decode cX8_carriedBy 35 = .ok (.bipush 9, 2) := by decide +kernel
theorem dX8_carriedBy_37 : decode cX8_carriedBy 37 = .ok (.iushr, 1) := by decide +kernel
theorem dX8_carriedBy_38 : decode cX8_carriedBy 38 = .ok (.bipush 8, 2) := by decide +kernel
theorem dX8_carriedBy_40 : decode cX8_carriedBy 40 = .ok (.irem, 1) := by decide +kernel
theorem dX8_carriedBy_41 : decode cX8_carriedBy 41 = .ok (.ishr, 1) := by decide +kernel
theorem dX8_carriedBy_42 : decode cX8_carriedBy 42 = .ok (.iconst 1, 1) := by decide +kernel
theorem dX8_carriedBy_43 : decode cX8_carriedBy 43 = .ok (.iand, 1) := by decide +kernel
theorem dX8_carriedBy_44 : decode cX8_carriedBy 44 = .ok (.iadd, 1) := by decide +kernel
theorem dX8_carriedBy_45 : decode cX8_carriedBy 45 = .ok (.istore 5, 2) := by decide +kernel
theorem dX8_carriedBy_47 : decode cX8_carriedBy 47 = .ok (.iinc 6 1, 3) := by decide +kernel
theorem dX8_carriedBy_50 : decode cX8_carriedBy 50 = .ok (.goto (-36), 3) := by decide +kernel
theorem dX8_carriedBy_53 : decode cX8_carriedBy 53 = .ok (.iload 5, 2) := by decide +kernel
theorem dX8_carriedBy_55 : decode cX8_carriedBy 55 = .ok (.ireturn, 1) := by decide +kernel
set_option maxHeartbeats 4000000 in
set_option maxRecDepth 100000 in
theorem bb_X8_carriedBy_14 {p : Program} {l : Launch} {e : Env} {s : State} {m : MethodId} {args : Array Value} {below : List Frame} {meth : Method} {c : Code} {D : va_G} {cy : Nat → ClassId} {ad : Nat → Nat} {A : Nat → Prop} {Q : Int32 → Sg → Prop} (K : Kx p s m args meth c cX8_carriedBy 7 RX8 D cy) (hr : meth.sig.returnType = (some .int)) : ∀ (n : Nat) (x2 : Int32) (x3 : Int32) (x4 : Int32) (x5 : Int32) (x6 : Int32)  (g0 : Sg) (H : Heap) (locs : List Loc) (ls : Array Slot), vv_X8_carriedBy_L14 Q n x2 x3 x4 x5 x6 g0 → Wd D A s.heap (wsM cy ad g0) H locs → lv_has ls 7 [(2, .int x2), (3, .int x3), (4, .int x4), (5, .int x5), (6, .int x6)] → W p l e (rmD 48) s m args below meth c H locs 0 0 (MQ below (va_Qi Q (PostG (wsM cy ad) D A) A) args s 0 0 A) (F0 m 14 ls []) := by
  intro n
  induction n with
  | zero => intro _ _ _ _ _ _ _ _ _ hd; exact hd.elim
  | succ n ih =>
    intro x2 x3 x4 x5 x6 g0 H locs ls hd hw hl
    unfold vv_X8_carriedBy_L14 at hd
    refine lv_iload K.1 K.2.1 dX8_carriedBy_14 (lv_at hl 4 rfl) ?_
    refine lv_iload_n K.1 K.2.1 dX8_carriedBy_16 rfl (lv_at hl 0 rfl) ?_
    refine lv_icmp_ge (tgt := 53) K.1 K.2.1 dX8_carriedBy_17 (by decide) (fun h_7 => ?_) (fun h_7 => ?_)
    · have hd := hd.1 h_7
      refine lv_iload K.1 K.2.1 dX8_carriedBy_53 (lv_at hl 3 rfl) ?_
      exact rk_iret K hw hr hd dX8_carriedBy_55
    · have hd := hd.2 h_7
      refine lv_iload_n K.1 K.2.1 dX8_carriedBy_20 rfl (lv_at hl 1 rfl) ?_
      refine lv_ldcw K.1 K.2.1 K.2.2.2.1 (K.2.2.2.2.1 _ ki_X8_422) dX8_carriedBy_21 ?_
      refine lv_imul K.1 K.2.1 dX8_carriedBy_24 ?_
      refine lv_sipush (v := (12345 : Int32)) K.1 K.2.1 dX8_carriedBy_25 (by decide) ?_
      refine lv_iadd K.1 K.2.1 dX8_carriedBy_28 ?_
      refine lv_topi (fun x3_8 ex3_8 => ?_)
      have hd := hd x3_8 ex3_8
      refine lv_istore_n (lv' := [(3, .int x3_8), (2, .int x2), (4, .int x4), (5, .int x5), (6, .int x6)]) K.1 K.2.1 dX8_carriedBy_29 rfl hl (by decide) rfl (fun ls hl => ?_)
      refine lv_iload K.1 K.2.1 dX8_carriedBy_30 (lv_at hl 3 rfl) ?_
      refine lv_iload K.1 K.2.1 dX8_carriedBy_32 (lv_at hl 2 rfl) ?_
      refine lv_iload_n K.1 K.2.1 dX8_carriedBy_34 rfl (lv_at hl 0 rfl) ?_
      refine lv_bipush (v := (9 : Int32)) K.1 K.2.1 dX8_carriedBy_35 (by decide) ?_
      refine lv_iushr (v := (x3_8.toUInt32 >>> ((9 : Int32).toUInt32 &&& Int32.toUInt32 31)).toInt32) K.1 K.2.1 dX8_carriedBy_37 rfl ?_
      refine lv_bipush (v := (8 : Int32)) K.1 K.2.1 dX8_carriedBy_38 (by decide) ?_
      refine lv_irem K.1 K.2.1 dX8_carriedBy_40 (by decide) ?_
      refine lv_ishr K.1 K.2.1 dX8_carriedBy_41 ?_
      refine lv_iconst (v := (1 : Int32)) K.1 K.2.1 dX8_carriedBy_42 (by decide) ?_
      refine lv_iand K.1 K.2.1 dX8_carriedBy_43 ?_
      refine lv_iadd K.1 K.2.1 dX8_carriedBy_44 ?_
      refine lv_topi (fun x5_9 ex5_9 => ?_)
      have hd := hd x5_9 ex5_9
      refine lv_istore (lv' := [(5, .int x5_9), (3, .int x3_8), (2, .int x2), (4, .int x4), (6, .int x6)]) K.1 K.2.1 dX8_carriedBy_45 hl (by decide) rfl (fun ls hl => ?_)
      obtain ⟨x6_10, ex6_10⟩ : ∃ y : Int32, y = x6 + (1 : Int32) := ⟨_, rfl⟩
      have hd := hd x6_10 ex6_10
      refine lv_iinc (v := x6_10) (lv' := [(6, .int x6_10), (5, .int x5_9), (3, .int x3_8), (2, .int x2), (4, .int x4)]) K.1 K.2.1 dX8_carriedBy_47 hl (k := 4) rfl (by rw [ex6_10]; rfl) (by decide) rfl (fun ls hl => ?_)
      refine lv_goto (tgt := 14) K.1 K.2.1 dX8_carriedBy_50 (by decide) ?_
      exact ih x2 x3_8 x4 x5_9 x6_10 g0 _ _ _ hd hw (lv_sub hl [3, 2, 4, 1, 0] rfl)
set_option maxHeartbeats 4000000 in
set_option maxRecDepth 100000 in
theorem cc_X8_carriedBy (l : Launch) (D : va_G) (cy : Nat → ClassId) (ad : Nat → Nat) (A : Nat → Prop) (g0 : Sg) (Q : Int32 → Sg → Prop) (x1 : Int32) (x2 : Int32) (hd : vv_X8_carriedBy x1 x2 g0 Q) : Met l yX8_carriedBy (Cond.code yX8_carriedBy cX8_carriedBy 7 (some .int) :: TT) (rmD 48) (va_Pc [.ref (ad 0), .int x1, .int x2] (PreG (wsM cy ad) D cy A g0)) (va_Qi Q (PostG (wsM cy ad) D A) A) 0 0 A := by
  unfold vv_X8_carriedBy at hd
  refine Met.ofW (cc := cX8_carriedBy) (maxL := 7) (ret := (some .int)) (by decide) rfl ?_
  intro p e s m args below meth c s₁ B hml hv
  obtain ⟨rfl, hP, hK0, hD⟩ := hv
  have K : Kx p s m _ meth c cX8_carriedBy 7 RX8 D cy := ⟨B.exec, B.bytes, hml, findClass_of_methodNamed B.named, fun w h => atoms_spec (ws := Cond.code yX8_carriedBy cX8_carriedBy 7 (some .int) :: TT) B.pre w (List.mem_cons_of_mem _ h), hK0, B.notSynchronized⟩
  have hw : Wd D A s.heap (wsM cy ad g0) s.heap [] := ⟨hP, hD, va_S.rf⟩
  have hr := B.returns
  have hl := lv_entry ([.ref (ad 0), .int x1, .int x2]) (n := 7) (Nat.le_of_ble_eq_true rfl)
  rw [lg_entry_eq]
  generalize (lg_sl ([.ref (ad 0), .int x1, .int x2]) ++ List.replicate (7 - (lg_sl ([.ref (ad 0), .int x1, .int x2])).length) Slot.unset).toArray = ls at hl ⊢
  have hl : lv_has ls 7 [(0, .ref (ad 0)), (1, .int x1), (2, .int x2)] := hl
  refine lv_iload_n K.1 K.2.1 dX8_carriedBy_0 rfl (lv_at hl 1 rfl) ?_
  refine lv_topi (fun x3_1 ex3_1 => ?_)
  have hd := hd x3_1 ex3_1
  refine lv_istore_n (lv' := [(3, .int x3_1), (0, .ref (ad 0)), (1, .int x1), (2, .int x2)]) K.1 K.2.1 dX8_carriedBy_1 rfl hl (by decide) rfl (fun ls hl => ?_)
  refine lv_aload_n K.1 K.2.1 dX8_carriedBy_2 rfl (lv_at hl 1 rfl) ?_
  refine rk_vi (As := []) (rest := []) K hw (cc_X8_carriedSet l D cy ad A g0 _  hd) lk_X8_362 (ci := 8) rfl (q0 := 0) (wsM_at cy ad _ (by decide)) ⟨Nat.le_of_ble_eq_true rfl, Nat.le_of_ble_eq_true rfl⟩ ⟨Nat.zero_le _, Nat.zero_le _⟩ rfl hl.1 (Nat.le_of_ble_eq_true rfl) rfl dX8_carriedBy_3 (fun r_3 g_2 H locs hd hw => ?_)
  refine lv_topi (fun x4_4 ex4_4 => ?_)
  have hd := hd x4_4 ex4_4
  refine lv_istore (lv' := [(4, .int x4_4), (3, .int x3_1), (0, .ref (ad 0)), (1, .int x1), (2, .int x2)]) K.1 K.2.1 dX8_carriedBy_6 hl (by decide) rfl (fun ls hl => ?_)
  refine lv_iconst (v := (0 : Int32)) K.1 K.2.1 dX8_carriedBy_8 (by decide) ?_
  refine lv_topi (fun x5_5 ex5_5 => ?_)
  have hd := hd x5_5 ex5_5
  refine lv_istore (lv' := [(5, .int x5_5), (4, .int x4_4), (3, .int x3_1), (0, .ref (ad 0)), (1, .int x1), (2, .int x2)]) K.1 K.2.1 dX8_carriedBy_9 hl (by decide) rfl (fun ls hl => ?_)
  refine lv_iconst (v := (0 : Int32)) K.1 K.2.1 dX8_carriedBy_11 (by decide) ?_
  refine lv_topi (fun x6_6 ex6_6 => ?_)
  have hd := hd x6_6 ex6_6
  refine lv_istore (lv' := [(6, .int x6_6), (5, .int x5_5), (4, .int x4_4), (3, .int x3_1), (0, .ref (ad 0)), (1, .int x1), (2, .int x2)]) K.1 K.2.1 dX8_carriedBy_12 hl (by decide) rfl (fun ls hl => ?_)
  obtain ⟨n9, hd⟩ := hd
  exact bb_X8_carriedBy_14 K hr  n9 x2 x3_1 x4_4 x5_5 x6_6 g_2 _ _ _ hd hw (lv_sub hl [6, 3, 2, 1, 0] rfl)
theorem dX8_drawn_0 : decode cX8_drawn 0 = .ok (.iload_n 2, 1) := by decide +kernel
theorem dX8_drawn_1 : decode cX8_drawn 1 = .ok (.i2l, 1) := by decide +kernel
theorem dX8_drawn_2 : decode cX8_drawn 2 = .ok (.lconst 0, 1) := by decide +kernel
theorem dX8_drawn_3 : decode cX8_drawn 3 = .ok (.ldc2_w 423, 3) := by decide +kernel
theorem dX8_drawn_6 : decode cX8_drawn 6 = .ok (.invokestatic 67, 3) := by decide +kernel
theorem dX8_drawn_9 : decode cX8_drawn 9 = .ok (.ifCond .eq 12, 3) := by decide +kernel
theorem dX8_drawn_12 : decode cX8_drawn 12 = .ok (.aload_n 0, 1) := by decide +kernel
theorem dX8_drawn_13 : decode cX8_drawn 13 = .ok (.iload_n 1, 1) := by decide +kernel
theorem dX8_drawn_14 : decode cX8_drawn 14 = .ok (.iload_n 2, 1) := by decide +kernel
theorem dX8_drawn_15 : decode cX8_drawn 15 = .ok (.invokevirtual 425, 3) := by decide +kernel
theorem dX8_drawn_18 : decode cX8_drawn 18 = .ok (.goto 5, 3) := by decide +kernel
theorem dX8_drawn_21 : decode cX8_drawn 21 = .ok (.bipush (-2), 2) := by decide +kernel
theorem dX8_drawn_23 : decode cX8_drawn 23 = .ok (.ireturn, 1) := by decide +kernel
set_option maxHeartbeats 4000000 in
set_option maxRecDepth 100000 in
theorem cc_X8_drawn (l : Launch) (D : va_G) (cy : Nat → ClassId) (ad : Nat → Nat) (A : Nat → Prop) (g0 : Sg) (Q : Int32 → Sg → Prop) (x1 : Int32) (x2 : Int32) (hd : vv_X8_drawn x1 x2 g0 Q) : Met l yX8_drawn (Cond.code yX8_drawn cX8_drawn 3 (some .int) :: TT) (rmD 49) (va_Pc [.ref (ad 0), .int x1, .int x2] (PreG (wsM cy ad) D cy A g0)) (va_Qi Q (PostG (wsM cy ad) D A) A) 0 0 A := by
  unfold vv_X8_drawn at hd
  refine Met.ofW (cc := cX8_drawn) (maxL := 3) (ret := (some .int)) (by decide) rfl ?_
  intro p e s m args below meth c s₁ B hml hv
  obtain ⟨rfl, hP, hK0, hD⟩ := hv
  have K : Kx p s m _ meth c cX8_drawn 3 RX8 D cy := ⟨B.exec, B.bytes, hml, findClass_of_methodNamed B.named, fun w h => atoms_spec (ws := Cond.code yX8_drawn cX8_drawn 3 (some .int) :: TT) B.pre w (List.mem_cons_of_mem _ h), hK0, B.notSynchronized⟩
  have hw : Wd D A s.heap (wsM cy ad g0) s.heap [] := ⟨hP, hD, va_S.rf⟩
  have hr := B.returns
  have hl := lv_entry ([.ref (ad 0), .int x1, .int x2]) (n := 3) (Nat.le_of_ble_eq_true rfl)
  rw [lg_entry_eq]
  generalize (lg_sl ([.ref (ad 0), .int x1, .int x2]) ++ List.replicate (3 - (lg_sl ([.ref (ad 0), .int x1, .int x2])).length) Slot.unset).toArray = ls at hl ⊢
  have hl : lv_has ls 3 [(0, .ref (ad 0)), (1, .int x1), (2, .int x2)] := hl
  refine lv_iload_n K.1 K.2.1 dX8_drawn_0 rfl (lv_at hl 2 rfl) ?_
  refine lv_i2l (v := x2.toInt64) K.1 K.2.1 dX8_drawn_1 rfl ?_
  refine lv_lconst (v := (0 : Int64)) K.1 K.2.1 dX8_drawn_2 rfl ?_
  refine lv_ldc2 K.1 K.2.1 K.2.2.2.1 (K.2.2.2.2.1 _ kl_X8_423) dX8_drawn_3 ?_
  refine rk_si (As := [.long x2.toInt64, .long (0 : Int64), .long (99 : Int64)]) (rest := []) K hw (cc_X8_in l D cy ad A g0 _ (x2.toInt64) (0 : Int64) (99 : Int64) hd) lk_X8_67 ⟨Nat.le_of_ble_eq_true rfl, Nat.le_of_ble_eq_true rfl⟩ ⟨Nat.zero_le _, Nat.zero_le _⟩ rfl hl.1 (Nat.le_of_ble_eq_true rfl) rfl dX8_drawn_6 (fun r_2 g_1 H locs hd hw => ?_)
  refine lv_if_eq (tgt := 21) K.1 K.2.1 dX8_drawn_9 (by decide) (fun h_3 => ?_) (fun h_3 => ?_)
  · have hd := hd.1 h_3
    refine lv_bipush (v := (-2 : Int32)) K.1 K.2.1 dX8_drawn_21 (by decide) ?_
    exact rk_iret K hw hr hd dX8_drawn_23
  · have hd := hd.2 h_3
    refine lv_aload_n K.1 K.2.1 dX8_drawn_12 rfl (lv_at hl 0 rfl) ?_
    refine lv_iload_n K.1 K.2.1 dX8_drawn_13 rfl (lv_at hl 1 rfl) ?_
    refine lv_iload_n K.1 K.2.1 dX8_drawn_14 rfl (lv_at hl 2 rfl) ?_
    refine rk_vi (As := [.int x1, .int x2]) (rest := []) K hw (cc_X8_carriedBy l D cy ad A g_1 _ x1 x2 hd) lk_X8_425 (ci := 8) rfl (q0 := 0) (wsM_at cy ad _ (by decide)) ⟨Nat.le_of_ble_eq_true rfl, Nat.le_of_ble_eq_true rfl⟩ ⟨Nat.zero_le _, Nat.zero_le _⟩ rfl hl.1 (Nat.le_of_ble_eq_true rfl) rfl dX8_drawn_15 (fun r_5 g_4 H locs hd hw => ?_)
    refine lv_goto (tgt := 23) K.1 K.2.1 dX8_drawn_18 (by decide) ?_
    exact rk_iret K hw hr hd dX8_drawn_23
theorem dX8_chance_0 : decode cX8_chance 0 = .ok (.iload_n 2, 1) := by decide +kernel
theorem dX8_chance_1 : decode cX8_chance 1 = .ok (.i2l, 1) := by decide +kernel
theorem dX8_chance_2 : decode cX8_chance 2 = .ok (.lconst 1, 1) := by decide +kernel
theorem dX8_chance_3 : decode cX8_chance 3 = .ok (.ldc2_w 108, 3) := by decide +kernel
theorem dX8_chance_6 : decode cX8_chance 6 = .ok (.invokestatic 67, 3) := by decide +kernel
theorem dX8_chance_9 : decode cX8_chance 9 = .ok (.ifCond .eq 26, 3) := by decide +kernel
theorem dX8_chance_12 : decode cX8_chance 12 = .ok (.iload_n 3, 1) := by decide +kernel
theorem dX8_chance_13 : decode cX8_chance 13 = .ok (.i2l, 1) := by decide +kernel
theorem dX8_chance_14 : decode cX8_chance 14 = .ok (.lconst 0, 1) := by decide +kernel
theorem dX8_chance_15 : decode cX8_chance 15 = .ok (.ldc2_w 98, 3) := by decide +kernel
theorem dX8_chance_18 : decode cX8_chance 18 = .ok (.invokestatic 67, 3) := by decide +kernel
theorem dX8_chance_21 : decode cX8_chance 21 = .ok (.ifCond .eq 14, 3) := by decide +kernel
theorem dX8_chance_24 : decode cX8_chance 24 = .ok (.iload 4, 2) := by decide +kernel
theorem dX8_chance_26 : decode cX8_chance 26 = .ok (.i2l, 1) := by decide +kernel
theorem dX8_chance_27 : decode cX8_chance 27 = .ok (.lconst 0, 1) := by decide +kernel
theorem dX8_chance_28 : decode cX8_chance 28 = .ok (.lconst 1, 1) := by decide +kernel
theorem dX8_chance_29 : decode cX8_chance 29 = .ok (.invokestatic 67, 3) := by decide +kernel
theorem dX8_chance_32 : decode cX8_chance 32 = .ok (.ifCond .ne 7, 3) := by decide +kernel
theorem dX8_chance_35 : decode cX8_chance 35 = .ok (.ldc2_w 394, 3) := by decide +kernel
theorem dX8_chance_38 : decode cX8_chance 38 = .ok (.lreturn, 1) := by decide +kernel
theorem dX8_chance_39 : decode cX8_chance 39 = .ok (.lconst 0, 1) := by decide +kernel
theorem dX8_chance_40 : decode cX8_chance 40 = .ok (.lstore 5, 2) := by decide +kernel
theorem dX8_chance_42 : decode cX8_chance 42 = .ok (.iconst 0, 1) := by decide +kernel
theorem dX8_chance_43 : decode cX8_chance 43 = .ok (.istore 7, 2) := by decide +kernel
theorem dX8_chance_45 : decode cX8_chance 45 = .ok (.iload 7, 2) := by decide +kernel
theorem dX8_chance_47 : decode cX8_chance 47 = .ok (.iload_n 2, 1) := by decide +kernel
theorem dX8_chance_48 : decode cX8_chance 48 = .ok (.if_icmp .ge 32, 3) := by decide +kernel
theorem dX8_chance_51 : decode cX8_chance 51 = .ok (.lload 5, 2) := by decide +kernel
theorem dX8_chance_53 : decode cX8_chance 53 = .ok (.aload_n 0, 1) := by decide +kernel
theorem dX8_chance_54 : decode cX8_chance 54 = .ok (.iload_n 1, 1) := by decide +kernel
theorem dX8_chance_55 : decode cX8_chance 55 = .ok (.iload 7, 2) := by decide +kernel
theorem dX8_chance_57 : decode cX8_chance 57 = .ok (.iadd, 1) := by decide +kernel
theorem dX8_chance_58 : decode cX8_chance 58 = .ok (.iconst 5, 1) := by decide +kernel
theorem dX8_chance_59 : decode cX8_chance 59 = .ok (.invokevirtual 425, 3) := by decide +kernel
theorem dX8_chance_62 : decode cX8_chance 62 = .ok (.iload_n 3, 1) := by decide +kernel
theorem dX8_chance_63 : decode cX8_chance 63 = .ok (.if_icmp .lt 7, 3) := by decide +kernel
theorem dX8_chance_66 : decode cX8_chance 66 = .ok (.lconst 1, 1) := by decide +kernel
theorem dX8_chance_67 : decode cX8_chance 67 = .ok (.goto 4, 3) := by decide +kernel
theorem dX8_chance_70 : decode cX8_chance 70 = .ok (.lconst 0, 1) := by decide +kernel
theorem dX8_chance_71 : decode cX8_chance 71 = .ok (.ladd, 1) := by decide +kernel
theorem dX8_chance_72 : decode cX8_chance 72 = .ok (.lstore 5, 2) := by decide +kernel
theorem dX8_chance_74 : decode cX8_chance 74 = .ok (.iinc 7 1, 3) := by decide +kernel
theorem dX8_chance_77 : decode cX8_chance 77 = .ok (.goto (-32), 3) := by decide +kernel
theorem dX8_chance_80 : decode cX8_chance 80 = .ok (.lload 5, 2) := by decide +kernel
theorem dX8_chance_82 : decode cX8_chance 82 = .ok (.iload_n 2, 1) := by decide +kernel
theorem dX8_chance_83 : decode cX8_chance 83 = .ok (.i2l, 1) := by decide +kernel
theorem dX8_chance_84 : decode cX8_chance 84 = .ok (.iload 4, 2) := by decide +kernel
theorem dX8_chance_86 : decode cX8_chance 86 = .ok (.invokestatic 400, 3) := by decide +kernel
theorem dX8_chance_89 : decode cX8_chance 89 = .ok (.lreturn, 1) := by decide +kernel
set_option maxHeartbeats 4000000 in
set_option maxRecDepth 100000 in
theorem bb_X8_chance_71 {p : Program} {l : Launch} {e : Env} {s : State} {m : MethodId} {args : Array Value} {below : List Frame} {meth : Method} {c : Code} {D : va_G} {cy : Nat → ClassId} {ad : Nat → Nat} {A : Nat → Prop} {Q : Int64 → Sg → Prop} (K : Kx p s m args meth c cX8_chance 8 RX8 D cy) (hr : meth.sig.returnType = (some .long)) {rc45 : Int32 → Int32 → Int32 → Int32 → Int64 → Int32 → Sg → Prop} (hrc45 : ∀ (x1 : Int32) (x2 : Int32) (x3 : Int32) (x4 : Int32) (x5 : Int64) (x7 : Int32) (u : Sg) (H : Heap) (locs : List Loc) (ls : Array Slot), rc45 x1 x2 x3 x4 x5 x7 u → Wd D A s.heap (wsM cy ad u) H locs → lv_has ls 8 [(0, .ref (ad 0)), (1, .int x1), (2, .int x2), (3, .int x3), (4, .int x4), (5, .long x5), (7, .int x7)] → W p l e (rmD 49) s m args below meth c H locs 0 0 (MQ below (va_Ql Q (PostG (wsM cy ad) D A) A) args s 0 0 A) (F0 m 45 ls [])) (x1 : Int32) (x2 : Int32) (x3 : Int32) (x4 : Int32) (x7 : Int32) (t0 : Int64) (t1 : Int64) (g0 : Sg) (H : Heap) (locs : List Loc) (ls : Array Slot) (hd : vv_X8_chance_J71 rc45 x1 x2 x3 x4 x7 t0 t1 g0 Q) (hw : Wd D A s.heap (wsM cy ad g0) H locs) (hl : lv_has ls 8 [(0, .ref (ad 0)), (1, .int x1), (2, .int x2), (3, .int x3), (4, .int x4), (7, .int x7)]) : W p l e (rmD 49) s m args below meth c H locs 0 0 (MQ below (va_Ql Q (PostG (wsM cy ad) D A) A) args s 0 0 A) (F0 m 71 ls [.long t1, .long t0]) := by
  unfold vv_X8_chance_J71 at hd
  refine lv_ladd K.1 K.2.1 dX8_chance_71 ?_
  refine lv_topl (fun x5_18 ex5_18 => ?_)
  have hd := hd x5_18 ex5_18
  refine lv_lstore (lv' := [(5, .long x5_18), (0, .ref (ad 0)), (1, .int x1), (2, .int x2), (3, .int x3), (4, .int x4), (7, .int x7)]) K.1 K.2.1 dX8_chance_72 hl (by decide) rfl (fun ls hl => ?_)
  obtain ⟨x7_19, ex7_19⟩ : ∃ y : Int32, y = x7 + (1 : Int32) := ⟨_, rfl⟩
  have hd := hd x7_19 ex7_19
  refine lv_iinc (v := x7_19) (lv' := [(7, .int x7_19), (5, .long x5_18), (0, .ref (ad 0)), (1, .int x1), (2, .int x2), (3, .int x3), (4, .int x4)]) K.1 K.2.1 dX8_chance_74 hl (k := 6) rfl (by rw [ex7_19]; rfl) (by decide) rfl (fun ls hl => ?_)
  refine lv_goto (tgt := 45) K.1 K.2.1 dX8_chance_77 (by decide) ?_
  exact hrc45 x1 x2 x3 x4 x5_18 x7_19 g0 _ _ _ hd hw (lv_sub hl [2, 3, 4, 5, 6, 1, 0] rfl)
set_option maxHeartbeats 4000000 in
set_option maxRecDepth 100000 in
theorem bb_X8_chance_45 {p : Program} {l : Launch} {e : Env} {s : State} {m : MethodId} {args : Array Value} {below : List Frame} {meth : Method} {c : Code} {D : va_G} {cy : Nat → ClassId} {ad : Nat → Nat} {A : Nat → Prop} {Q : Int64 → Sg → Prop} (K : Kx p s m args meth c cX8_chance 8 RX8 D cy) (hr : meth.sig.returnType = (some .long)) : ∀ (n : Nat) (x1 : Int32) (x2 : Int32) (x3 : Int32) (x4 : Int32) (x5 : Int64) (x7 : Int32)  (g0 : Sg) (H : Heap) (locs : List Loc) (ls : Array Slot), vv_X8_chance_L45 Q n x1 x2 x3 x4 x5 x7 g0 → Wd D A s.heap (wsM cy ad g0) H locs → lv_has ls 8 [(0, .ref (ad 0)), (1, .int x1), (2, .int x2), (3, .int x3), (4, .int x4), (5, .long x5), (7, .int x7)] → W p l e (rmD 49) s m args below meth c H locs 0 0 (MQ below (va_Ql Q (PostG (wsM cy ad) D A) A) args s 0 0 A) (F0 m 45 ls []) := by
  intro n
  induction n with
  | zero => intro _ _ _ _ _ _ _ _ _ _ hd; exact hd.elim
  | succ n ih =>
    intro x1 x2 x3 x4 x5 x7 g0 H locs ls hd hw hl
    unfold vv_X8_chance_L45 at hd
    refine lv_iload K.1 K.2.1 dX8_chance_45 (lv_at hl 6 rfl) ?_
    refine lv_iload_n K.1 K.2.1 dX8_chance_47 rfl (lv_at hl 2 rfl) ?_
    refine lv_icmp_ge (tgt := 80) K.1 K.2.1 dX8_chance_48 (by decide) (fun h_12 => ?_) (fun h_12 => ?_)
    · have hd := hd.1 h_12
      refine lv_lload K.1 K.2.1 dX8_chance_80 (lv_at hl 5 rfl) ?_
      refine lv_iload_n K.1 K.2.1 dX8_chance_82 rfl (lv_at hl 2 rfl) ?_
      refine lv_i2l (v := x2.toInt64) K.1 K.2.1 dX8_chance_83 rfl ?_
      refine lv_iload K.1 K.2.1 dX8_chance_84 (lv_at hl 4 rfl) ?_
      refine rk_sl (As := [.long x5, .long x2.toInt64, .int x4]) (rest := []) K hw (cc_X8_lowest l D cy ad A g0 _ x5 (x2.toInt64) x4 hd) lk_X8_400 ⟨Nat.le_of_ble_eq_true rfl, Nat.le_of_ble_eq_true rfl⟩ ⟨Nat.zero_le _, Nat.zero_le _⟩ rfl hl.1 (Nat.le_of_ble_eq_true rfl) rfl dX8_chance_86 (fun r_14 g_13 H locs hd hw => ?_)
      exact rk_lret K hw hr hd dX8_chance_89
    · have hd := hd.2 h_12
      refine lv_lload K.1 K.2.1 dX8_chance_51 (lv_at hl 5 rfl) ?_
      refine lv_aload_n K.1 K.2.1 dX8_chance_53 rfl (lv_at hl 0 rfl) ?_
      refine lv_iload_n K.1 K.2.1 dX8_chance_54 rfl (lv_at hl 1 rfl) ?_
      refine lv_iload K.1 K.2.1 dX8_chance_55 (lv_at hl 6 rfl) ?_
      refine lv_iadd K.1 K.2.1 dX8_chance_57 ?_
      refine lv_iconst (v := (5 : Int32)) K.1 K.2.1 dX8_chance_58 (by decide) ?_
      refine rk_vi (As := [.int (x1 + x7), .int (5 : Int32)]) (rest := [.long x5]) K hw (cc_X8_carriedBy l D cy ad A g0 _ (x1 + x7) (5 : Int32) hd) lk_X8_425 (ci := 8) rfl (q0 := 0) (wsM_at cy ad _ (by decide)) ⟨Nat.le_of_ble_eq_true rfl, Nat.le_of_ble_eq_true rfl⟩ ⟨Nat.zero_le _, Nat.zero_le _⟩ rfl hl.1 (Nat.le_of_ble_eq_true rfl) rfl dX8_chance_59 (fun r_16 g_15 H locs hd hw => ?_)
      refine lv_iload_n K.1 K.2.1 dX8_chance_62 rfl (lv_at hl 3 rfl) ?_
      refine lv_icmp_lt (tgt := 70) K.1 K.2.1 dX8_chance_63 (by decide) (fun h_17 => ?_) (fun h_17 => ?_)
      · have hd := hd.1 h_17
        refine lv_lconst (v := (0 : Int64)) K.1 K.2.1 dX8_chance_70 rfl ?_
        exact bb_X8_chance_71 K hr ih x1 x2 x3 x4 x7 x5 (0 : Int64) g_15 _ _ _ hd hw (lv_sub hl [0, 1, 2, 3, 4, 6] rfl)
      · have hd := hd.2 h_17
        refine lv_lconst (v := (1 : Int64)) K.1 K.2.1 dX8_chance_66 rfl ?_
        refine lv_goto (tgt := 71) K.1 K.2.1 dX8_chance_67 (by decide) ?_
        exact bb_X8_chance_71 K hr ih x1 x2 x3 x4 x7 x5 (1 : Int64) g_15 _ _ _ hd hw (lv_sub hl [0, 1, 2, 3, 4, 6] rfl)
set_option maxHeartbeats 4000000 in
set_option maxRecDepth 100000 in
theorem cc_X8_chance (l : Launch) (D : va_G) (cy : Nat → ClassId) (ad : Nat → Nat) (A : Nat → Prop) (g0 : Sg) (Q : Int64 → Sg → Prop) (x1 : Int32) (x2 : Int32) (x3 : Int32) (x4 : Int32) (hd : vv_X8_chance x1 x2 x3 x4 g0 Q) : Met l yX8_chance (Cond.code yX8_chance cX8_chance 8 (some .long) :: TT) (rmD 49) (va_Pc [.ref (ad 0), .int x1, .int x2, .int x3, .int x4] (PreG (wsM cy ad) D cy A g0)) (va_Ql Q (PostG (wsM cy ad) D A) A) 0 0 A := by
  unfold vv_X8_chance at hd
  refine Met.ofW (cc := cX8_chance) (maxL := 8) (ret := (some .long)) (by decide) rfl ?_
  intro p e s m args below meth c s₁ B hml hv
  obtain ⟨rfl, hP, hK0, hD⟩ := hv
  have K : Kx p s m _ meth c cX8_chance 8 RX8 D cy := ⟨B.exec, B.bytes, hml, findClass_of_methodNamed B.named, fun w h => atoms_spec (ws := Cond.code yX8_chance cX8_chance 8 (some .long) :: TT) B.pre w (List.mem_cons_of_mem _ h), hK0, B.notSynchronized⟩
  have hw : Wd D A s.heap (wsM cy ad g0) s.heap [] := ⟨hP, hD, va_S.rf⟩
  have hr := B.returns
  have hl := lv_entry ([.ref (ad 0), .int x1, .int x2, .int x3, .int x4]) (n := 8) (Nat.le_of_ble_eq_true rfl)
  rw [lg_entry_eq]
  generalize (lg_sl ([.ref (ad 0), .int x1, .int x2, .int x3, .int x4]) ++ List.replicate (8 - (lg_sl ([.ref (ad 0), .int x1, .int x2, .int x3, .int x4])).length) Slot.unset).toArray = ls at hl ⊢
  have hl : lv_has ls 8 [(0, .ref (ad 0)), (1, .int x1), (2, .int x2), (3, .int x3), (4, .int x4)] := hl
  refine lv_iload_n K.1 K.2.1 dX8_chance_0 rfl (lv_at hl 2 rfl) ?_
  refine lv_i2l (v := x2.toInt64) K.1 K.2.1 dX8_chance_1 rfl ?_
  refine lv_lconst (v := (1 : Int64)) K.1 K.2.1 dX8_chance_2 rfl ?_
  refine lv_ldc2 K.1 K.2.1 K.2.2.2.1 (K.2.2.2.2.1 _ kl_X8_108) dX8_chance_3 ?_
  refine rk_si (As := [.long x2.toInt64, .long (1 : Int64), .long (20 : Int64)]) (rest := []) K hw (cc_X8_in l D cy ad A g0 _ (x2.toInt64) (1 : Int64) (20 : Int64) hd) lk_X8_67 ⟨Nat.le_of_ble_eq_true rfl, Nat.le_of_ble_eq_true rfl⟩ ⟨Nat.zero_le _, Nat.zero_le _⟩ rfl hl.1 (Nat.le_of_ble_eq_true rfl) rfl dX8_chance_6 (fun r_2 g_1 H locs hd hw => ?_)
  refine lv_if_eq (tgt := 35) K.1 K.2.1 dX8_chance_9 (by decide) (fun h_3 => ?_) (fun h_3 => ?_)
  · have hd := hd.1 h_3
    refine lv_ldc2 K.1 K.2.1 K.2.2.2.1 (K.2.2.2.2.1 _ kl_X8_394) dX8_chance_35 ?_
    exact rk_lret K hw hr hd dX8_chance_38
  · have hd := hd.2 h_3
    refine lv_iload_n K.1 K.2.1 dX8_chance_12 rfl (lv_at hl 3 rfl) ?_
    refine lv_i2l (v := x3.toInt64) K.1 K.2.1 dX8_chance_13 rfl ?_
    refine lv_lconst (v := (0 : Int64)) K.1 K.2.1 dX8_chance_14 rfl ?_
    refine lv_ldc2 K.1 K.2.1 K.2.2.2.1 (K.2.2.2.2.1 _ kl_X8_98) dX8_chance_15 ?_
    refine rk_si (As := [.long x3.toInt64, .long (0 : Int64), .long (5 : Int64)]) (rest := []) K hw (cc_X8_in l D cy ad A g_1 _ (x3.toInt64) (0 : Int64) (5 : Int64) hd) lk_X8_67 ⟨Nat.le_of_ble_eq_true rfl, Nat.le_of_ble_eq_true rfl⟩ ⟨Nat.zero_le _, Nat.zero_le _⟩ rfl hl.1 (Nat.le_of_ble_eq_true rfl) rfl dX8_chance_18 (fun r_5 g_4 H locs hd hw => ?_)
    refine lv_if_eq (tgt := 35) K.1 K.2.1 dX8_chance_21 (by decide) (fun h_6 => ?_) (fun h_6 => ?_)
    · have hd := hd.1 h_6
      refine lv_ldc2 K.1 K.2.1 K.2.2.2.1 (K.2.2.2.2.1 _ kl_X8_394) dX8_chance_35 ?_
      exact rk_lret K hw hr hd dX8_chance_38
    · have hd := hd.2 h_6
      refine lv_iload K.1 K.2.1 dX8_chance_24 (lv_at hl 4 rfl) ?_
      refine lv_i2l (v := x4.toInt64) K.1 K.2.1 dX8_chance_26 rfl ?_
      refine lv_lconst (v := (0 : Int64)) K.1 K.2.1 dX8_chance_27 rfl ?_
      refine lv_lconst (v := (1 : Int64)) K.1 K.2.1 dX8_chance_28 rfl ?_
      refine rk_si (As := [.long x4.toInt64, .long (0 : Int64), .long (1 : Int64)]) (rest := []) K hw (cc_X8_in l D cy ad A g_4 _ (x4.toInt64) (0 : Int64) (1 : Int64) hd) lk_X8_67 ⟨Nat.le_of_ble_eq_true rfl, Nat.le_of_ble_eq_true rfl⟩ ⟨Nat.zero_le _, Nat.zero_le _⟩ rfl hl.1 (Nat.le_of_ble_eq_true rfl) rfl dX8_chance_29 (fun r_8 g_7 H locs hd hw => ?_)
      refine lv_if_ne (tgt := 39) K.1 K.2.1 dX8_chance_32 (by decide) (fun h_9 => ?_) (fun h_9 => ?_)
      · have hd := hd.1 h_9
        refine lv_lconst (v := (0 : Int64)) K.1 K.2.1 dX8_chance_39 rfl ?_
        refine lv_topl (fun x5_10 ex5_10 => ?_)
        have hd := hd x5_10 ex5_10
        refine lv_lstore (lv' := [(5, .long x5_10), (0, .ref (ad 0)), (1, .int x1), (2, .int x2), (3, .int x3), (4, .int x4)]) K.1 K.2.1 dX8_chance_40 hl (by decide) rfl (fun ls hl => ?_)
        refine lv_iconst (v := (0 : Int32)) K.1 K.2.1 dX8_chance_42 (by decide) ?_
        refine lv_topi (fun x7_11 ex7_11 => ?_)
        have hd := hd x7_11 ex7_11
        refine lv_istore (lv' := [(7, .int x7_11), (5, .long x5_10), (0, .ref (ad 0)), (1, .int x1), (2, .int x2), (3, .int x3), (4, .int x4)]) K.1 K.2.1 dX8_chance_43 hl (by decide) rfl (fun ls hl => ?_)
        obtain ⟨n9, hd⟩ := hd
        exact bb_X8_chance_45 K hr  n9 x1 x2 x3 x4 x5_10 x7_11 g_7 _ _ _ hd hw (lv_sub hl [2, 3, 4, 5, 6, 1, 0] rfl)
      · have hd := hd.2 h_9
        refine lv_ldc2 K.1 K.2.1 K.2.2.2.1 (K.2.2.2.2.1 _ kl_X8_394) dX8_chance_35 ?_
        exact rk_lret K hw hr hd dX8_chance_38
theorem dX8_image_0 : decode cX8_image 0 = .ok (.iconst 0, 1) := by decide +kernel
theorem dX8_image_1 : decode cX8_image 1 = .ok (.istore_n 1, 1) := by decide +kernel
theorem dX8_image_2 : decode cX8_image 2 = .ok (.iload_n 1, 1) := by decide +kernel
theorem dX8_image_3 : decode cX8_image 3 = .ok (.bipush 40, 2) := by decide +kernel
theorem dX8_image_5 : decode cX8_image 5 = .ok (.if_icmp .ge 21, 3) := by decide +kernel
theorem dX8_image_8 : decode cX8_image 8 = .ok (.aload_n 0, 1) := by decide +kernel
theorem dX8_image_9 : decode cX8_image 9 = .ok (.getfield 38, 3) := by decide +kernel
theorem dX8_image_12 : decode cX8_image 12 = .ok (.iload_n 1, 1) := by decide +kernel
theorem dX8_image_13 : decode cX8_image 13 = .ok (.aload_n 0, 1) := by decide +kernel
theorem dX8_image_14 : decode cX8_image 14 = .ok (.getfield 29, 3) := by decide +kernel
theorem dX8_image_17 : decode cX8_image 17 = .ok (.iload_n 1, 1) := by decide +kernel
theorem dX8_image_18 : decode cX8_image 18 = .ok (.iaload, 1) := by decide +kernel
theorem dX8_image_19 : decode cX8_image 19 = .ok (.iastore, 1) := by decide +kernel
theorem dX8_image_20 : decode cX8_image 20 = .ok (.iinc 1 1, 3) := by decide +kernel
theorem dX8_image_23 : decode cX8_image 23 = .ok (.goto (-21), 3) := by decide +kernel
theorem dX8_image_26 : decode cX8_image 26 = .ok (.aload_n 0, 1) := by decide +kernel
theorem dX8_image_27 : decode cX8_image 27 = .ok (.aload_n 0, 1) := by decide +kernel
theorem dX8_image_28 : decode cX8_image 28 = .ok (.getfield 64, 3) := by decide +kernel
theorem dX8_image_31 : decode cX8_image 31 = .ok (.putfield 41, 3) := by decide +kernel
theorem dX8_image_34 : decode cX8_image 34 = .ok (.aload_n 0, 1) := by decide +kernel
theorem dX8_image_35 : decode cX8_image 35 = .ok (.aload_n 0, 1) := by decide +kernel
theorem dX8_image_36 : decode cX8_image 36 = .ok (.getfield 92, 3) := by decide +kernel
theorem dX8_image_39 : decode cX8_image 39 = .ok (.putfield 428, 3) := by decide +kernel
theorem dX8_image_42 : decode cX8_image 42 = .ok (.aload_n 0, 1) := by decide +kernel
theorem dX8_image_43 : decode cX8_image 43 = .ok (.aload_n 0, 1) := by decide +kernel
theorem dX8_image_44 : decode cX8_image 44 = .ok (.getfield 23, 3) := by decide +kernel
theorem dX8_image_47 : decode cX8_image 47 = .ok (.putfield 431, 3) := by decide +kernel
theorem dX8_image_50 : decode cX8_image 50 = .ok (.aload_n 0, 1) := by decide +kernel
theorem dX8_image_51 : decode cX8_image 51 = .ok (.aload_n 0, 1) := by decide +kernel
theorem dX8_image_52 : decode cX8_image 52 = .ok (.getfield 95, 3) := by decide +kernel
theorem dX8_image_55 : decode cX8_image 55 = .ok (.putfield 434, 3) := by decide +kernel
theorem dX8_image_58 : decode cX8_image 58 = .ok (.aload_n 0, 1) := by decide +kernel
theorem dX8_image_59 : decode cX8_image 59 = .ok (.getfield 64, 3) := by decide +kernel
theorem dX8_image_62 : decode cX8_image 62 = .ok (.ireturn, 1) := by decide +kernel
set_option maxHeartbeats 4000000 in
set_option maxRecDepth 100000 in
theorem bb_X8_image_2 {p : Program} {l : Launch} {e : Env} {s : State} {m : MethodId} {args : Array Value} {below : List Frame} {meth : Method} {c : Code} {D : va_G} {cy : Nat → ClassId} {ad : Nat → Nat} {A : Nat → Prop} {Q : Int32 → Sg → Prop} (K : Kx p s m args meth c cX8_image 2 RX8 D cy) (hr : meth.sig.returnType = (some .int)) : ∀ (n : Nat) (x1 : Int32)  (g0 : Sg) (H : Heap) (locs : List Loc) (ls : Array Slot), vv_X8_image_L2 Q n x1 g0 → Wd D A s.heap (wsM cy ad g0) H locs → lv_has ls 2 [(0, .ref (ad 0)), (1, .int x1)] → W p l e (rmD 0) s m args below meth c H locs 0 0 (MQ below (va_Qi Q (PostG (wsM cy ad) D A) A) args s 0 0 A) (F0 m 2 ls []) := by
  intro n
  induction n with
  | zero => intro _ _ _ _ _ hd; exact hd.elim
  | succ n ih =>
    intro x1 g0 H locs ls hd hw hl
    unfold vv_X8_image_L2 at hd
    refine lv_iload_n K.1 K.2.1 dX8_image_2 rfl (lv_at hl 1 rfl) ?_
    refine lv_bipush (v := (40 : Int32)) K.1 K.2.1 dX8_image_3 (by decide) ?_
    refine lv_icmp_ge (tgt := 26) K.1 K.2.1 dX8_image_5 (by decide) (fun h_2 => ?_) (fun h_2 => ?_)
    · have hd := hd.1 h_2
      refine lv_aload_n K.1 K.2.1 dX8_image_26 rfl (lv_at hl 0 rfl) ?_
      refine lv_aload_n K.1 K.2.1 dX8_image_27 rfl (lv_at hl 0 rfl) ?_
      refine rm_get 11 K hw (by decide) kf_X8_64 rfl dX8_image_28 ?_
      refine rm_put 32 K hw (by decide) kf_X8_41 rfl rfl rfl rfl (fsM_32 ad g0 _) dX8_image_31 (fun g_3 eg_3 H locs hw => ?_)
      have hd := hd g_3 eg_3
      refine lv_aload_n K.1 K.2.1 dX8_image_34 rfl (lv_at hl 0 rfl) ?_
      refine lv_aload_n K.1 K.2.1 dX8_image_35 rfl (lv_at hl 0 rfl) ?_
      refine rm_get 7 K hw (by decide) kf_X8_92 rfl dX8_image_36 ?_
      refine rm_put 33 K hw (by decide) kf_X8_428 rfl rfl rfl rfl (fsM_33 ad g_3 _) dX8_image_39 (fun g_4 eg_4 H locs hw => ?_)
      have hd := hd g_4 eg_4
      refine lv_aload_n K.1 K.2.1 dX8_image_42 rfl (lv_at hl 0 rfl) ?_
      refine lv_aload_n K.1 K.2.1 dX8_image_43 rfl (lv_at hl 0 rfl) ?_
      refine rm_get 8 K hw (by decide) kf_X8_23 rfl dX8_image_44 ?_
      refine rm_put 34 K hw (by decide) kf_X8_431 rfl rfl rfl rfl (fsM_34 ad g_4 _) dX8_image_47 (fun g_5 eg_5 H locs hw => ?_)
      have hd := hd g_5 eg_5
      refine lv_aload_n K.1 K.2.1 dX8_image_50 rfl (lv_at hl 0 rfl) ?_
      refine lv_aload_n K.1 K.2.1 dX8_image_51 rfl (lv_at hl 0 rfl) ?_
      refine rm_get 4 K hw (by decide) kf_X8_95 rfl dX8_image_52 ?_
      refine rm_put 35 K hw (by decide) kf_X8_434 rfl rfl rfl rfl (fsM_35 ad g_5 _) dX8_image_55 (fun g_6 eg_6 H locs hw => ?_)
      have hd := hd g_6 eg_6
      refine lv_aload_n K.1 K.2.1 dX8_image_58 rfl (lv_at hl 0 rfl) ?_
      refine rm_get 11 K hw (by decide) kf_X8_64 rfl dX8_image_59 ?_
      exact rk_iret K hw hr hd dX8_image_62
    · have hd := hd.2 h_2
      refine lv_aload_n K.1 K.2.1 dX8_image_8 rfl (lv_at hl 0 rfl) ?_
      refine rm_get 31 K hw (by decide) kf_X8_38 rfl dX8_image_9 ?_
      refine lv_iload_n K.1 K.2.1 dX8_image_12 rfl (lv_at hl 1 rfl) ?_
      refine lv_aload_n K.1 K.2.1 dX8_image_13 rfl (lv_at hl 0 rfl) ?_
      refine rm_get 10 K hw (by decide) kf_X8_29 rfl dX8_image_14 ?_
      refine lv_iload_n K.1 K.2.1 dX8_image_17 rfl (lv_at hl 1 rfl) ?_
      have hb := hd.1
      have hd := hd.2
      refine rm_iald 5 K hw (by decide) hb dX8_image_18 ?_
      have hb := hd.1
      have hd := hd.2
      refine rm_iast 8 K hw (by decide) hb dX8_image_19 (fun g_7 eg_7 H locs hw => ?_)
      have hd := hd g_7 eg_7
      obtain ⟨x1_8, ex1_8⟩ : ∃ y : Int32, y = x1 + (1 : Int32) := ⟨_, rfl⟩
      have hd := hd x1_8 ex1_8
      refine lv_iinc (v := x1_8) (lv' := [(1, .int x1_8), (0, .ref (ad 0))]) K.1 K.2.1 dX8_image_20 hl (k := 1) rfl (by rw [ex1_8]; rfl) (by decide) rfl (fun ls hl => ?_)
      refine lv_goto (tgt := 2) K.1 K.2.1 dX8_image_23 (by decide) ?_
      exact ih x1_8 g_7 _ _ _ hd hw (lv_sub hl [1, 0] rfl)
set_option maxHeartbeats 4000000 in
set_option maxRecDepth 100000 in
theorem cc_X8_image (l : Launch) (D : va_G) (cy : Nat → ClassId) (ad : Nat → Nat) (A : Nat → Prop) (g0 : Sg) (Q : Int32 → Sg → Prop)  (hd : vv_X8_image  g0 Q) : Met l yX8_image (Cond.code yX8_image cX8_image 2 (some .int) :: TT) (rmD 0) (va_Pc [.ref (ad 0)] (PreG (wsM cy ad) D cy A g0)) (va_Qi Q (PostG (wsM cy ad) D A) A) 0 0 A := by
  unfold vv_X8_image at hd
  refine Met.ofW (cc := cX8_image) (maxL := 2) (ret := (some .int)) (by decide) rfl ?_
  intro p e s m args below meth c s₁ B hml hv
  obtain ⟨rfl, hP, hK0, hD⟩ := hv
  have K : Kx p s m _ meth c cX8_image 2 RX8 D cy := ⟨B.exec, B.bytes, hml, findClass_of_methodNamed B.named, fun w h => atoms_spec (ws := Cond.code yX8_image cX8_image 2 (some .int) :: TT) B.pre w (List.mem_cons_of_mem _ h), hK0, B.notSynchronized⟩
  have hw : Wd D A s.heap (wsM cy ad g0) s.heap [] := ⟨hP, hD, va_S.rf⟩
  have hr := B.returns
  have hl := lv_entry ([.ref (ad 0)]) (n := 2) (Nat.le_of_ble_eq_true rfl)
  rw [lg_entry_eq]
  generalize (lg_sl ([.ref (ad 0)]) ++ List.replicate (2 - (lg_sl ([.ref (ad 0)])).length) Slot.unset).toArray = ls at hl ⊢
  have hl : lv_has ls 2 [(0, .ref (ad 0))] := hl
  refine lv_iconst (v := (0 : Int32)) K.1 K.2.1 dX8_image_0 (by decide) ?_
  refine lv_topi (fun x1_1 ex1_1 => ?_)
  have hd := hd x1_1 ex1_1
  refine lv_istore_n (lv' := [(1, .int x1_1), (0, .ref (ad 0))]) K.1 K.2.1 dX8_image_1 rfl hl (by decide) rfl (fun ls hl => ?_)
  obtain ⟨n9, hd⟩ := hd
  exact bb_X8_image_2 K hr  n9 x1_1 g0 _ _ _ hd hw (lv_sub hl [1, 0] rfl)
theorem dX8_back_0 : decode cX8_back 0 = .ok (.aload_n 0, 1) := by decide +kernel
theorem dX8_back_1 : decode cX8_back 1 = .ok (.getfield 41, 3) := by decide +kernel
theorem dX8_back_4 : decode cX8_back 4 = .ok (.iconst (-1), 1) := by decide +kernel
theorem dX8_back_5 : decode cX8_back 5 = .ok (.if_icmp .ne 6, 3) := by decide +kernel
theorem dX8_back_8 : decode cX8_back 8 = .ok (.bipush (-3), 2) := by decide +kernel
theorem dX8_back_10 : decode cX8_back 10 = .ok (.ireturn, 1) := by decide +kernel
theorem dX8_back_11 : decode cX8_back 11 = .ok (.iconst 0, 1) := by decide +kernel
theorem dX8_back_12 : decode cX8_back 12 = .ok (.istore_n 1, 1) := by decide +kernel
theorem dX8_back_13 : decode cX8_back 13 = .ok (.iload_n 1, 1) := by decide +kernel
theorem dX8_back_14 : decode cX8_back 14 = .ok (.bipush 40, 2) := by decide +kernel
theorem dX8_back_16 : decode cX8_back 16 = .ok (.if_icmp .ge 21, 3) := by decide +kernel
theorem dX8_back_19 : decode cX8_back 19 = .ok (.aload_n 0, 1) := by decide +kernel
theorem dX8_back_20 : decode cX8_back 20 = .ok (.getfield 29, 3) := by decide +kernel
theorem dX8_back_23 : decode cX8_back 23 = .ok (.iload_n 1, 1) := by decide +kernel
theorem dX8_back_24 : decode cX8_back 24 = .ok (.aload_n 0, 1) := by decide +kernel
theorem dX8_back_25 : decode cX8_back 25 = .ok (.getfield 38, 3) := by decide +kernel
theorem dX8_back_28 : decode cX8_back 28 = .ok (.iload_n 1, 1) := by decide +kernel
theorem dX8_back_29 : decode cX8_back 29 = .ok (.iaload, 1) := by decide +kernel
theorem dX8_back_30 : decode cX8_back 30 = .ok (.iastore, 1) := by decide +kernel
theorem dX8_back_31 : decode cX8_back 31 = .ok (.iinc 1 1, 3) := by decide +kernel
theorem dX8_back_34 : decode cX8_back 34 = .ok (.goto (-21), 3) := by decide +kernel
theorem dX8_back_37 : decode cX8_back 37 = .ok (.aload_n 0, 1) := by decide +kernel
theorem dX8_back_38 : decode cX8_back 38 = .ok (.aload_n 0, 1) := by decide +kernel
theorem dX8_back_39 : decode cX8_back 39 = .ok (.getfield 41, 3) := by decide +kernel
theorem dX8_back_42 : decode cX8_back 42 = .ok (.putfield 64, 3) := by decide +kernel
theorem dX8_back_45 : decode cX8_back 45 = .ok (.aload_n 0, 1) := by decide +kernel
theorem dX8_back_46 : decode cX8_back 46 = .ok (.aload_n 0, 1) := by decide +kernel
theorem dX8_back_47 : decode cX8_back 47 = .ok (.getfield 428, 3) := by decide +kernel
theorem dX8_back_50 : decode cX8_back 50 = .ok (.putfield 92, 3) := by decide +kernel
theorem dX8_back_53 : decode cX8_back 53 = .ok (.aload_n 0, 1) := by decide +kernel
theorem dX8_back_54 : decode cX8_back 54 = .ok (.aload_n 0, 1) := by decide +kernel
theorem dX8_back_55 : decode cX8_back 55 = .ok (.getfield 431, 3) := by decide +kernel
theorem dX8_back_58 : decode cX8_back 58 = .ok (.putfield 23, 3) := by decide +kernel
theorem dX8_back_61 : decode cX8_back 61 = .ok (.aload_n 0, 1) := by decide +kernel
theorem dX8_back_62 : decode cX8_back 62 = .ok (.aload_n 0, 1) := by decide +kernel
theorem dX8_back_63 : decode cX8_back 63 = .ok (.getfield 434, 3) := by decide +kernel
theorem dX8_back_66 : decode cX8_back 66 = .ok (.putfield 95, 3) := by decide +kernel
theorem dX8_back_69 : decode cX8_back 69 = .ok (.aload_n 0, 1) := by decide +kernel
theorem dX8_back_70 : decode cX8_back 70 = .ok (.getfield 64, 3) := by decide +kernel
theorem dX8_back_73 : decode cX8_back 73 = .ok (.ireturn, 1) := by decide +kernel
set_option maxHeartbeats 4000000 in
set_option maxRecDepth 100000 in
theorem bb_X8_back_13 {p : Program} {l : Launch} {e : Env} {s : State} {m : MethodId} {args : Array Value} {below : List Frame} {meth : Method} {c : Code} {D : va_G} {cy : Nat → ClassId} {ad : Nat → Nat} {A : Nat → Prop} {Q : Int32 → Sg → Prop} (K : Kx p s m args meth c cX8_back 2 RX8 D cy) (hr : meth.sig.returnType = (some .int)) : ∀ (n : Nat) (x1 : Int32)  (g0 : Sg) (H : Heap) (locs : List Loc) (ls : Array Slot), vv_X8_back_L13 Q n x1 g0 → Wd D A s.heap (wsM cy ad g0) H locs → lv_has ls 2 [(0, .ref (ad 0)), (1, .int x1)] → W p l e (rmD 0) s m args below meth c H locs 0 0 (MQ below (va_Qi Q (PostG (wsM cy ad) D A) A) args s 0 0 A) (F0 m 13 ls []) := by
  intro n
  induction n with
  | zero => intro _ _ _ _ _ hd; exact hd.elim
  | succ n ih =>
    intro x1 g0 H locs ls hd hw hl
    unfold vv_X8_back_L13 at hd
    refine lv_iload_n K.1 K.2.1 dX8_back_13 rfl (lv_at hl 1 rfl) ?_
    refine lv_bipush (v := (40 : Int32)) K.1 K.2.1 dX8_back_14 (by decide) ?_
    refine lv_icmp_ge (tgt := 37) K.1 K.2.1 dX8_back_16 (by decide) (fun h_3 => ?_) (fun h_3 => ?_)
    · have hd := hd.1 h_3
      refine lv_aload_n K.1 K.2.1 dX8_back_37 rfl (lv_at hl 0 rfl) ?_
      refine lv_aload_n K.1 K.2.1 dX8_back_38 rfl (lv_at hl 0 rfl) ?_
      refine rm_get 32 K hw (by decide) kf_X8_41 rfl dX8_back_39 ?_
      refine rm_put 11 K hw (by decide) kf_X8_64 rfl rfl rfl rfl (fsM_11 ad g0 _) dX8_back_42 (fun g_4 eg_4 H locs hw => ?_)
      have hd := hd g_4 eg_4
      refine lv_aload_n K.1 K.2.1 dX8_back_45 rfl (lv_at hl 0 rfl) ?_
      refine lv_aload_n K.1 K.2.1 dX8_back_46 rfl (lv_at hl 0 rfl) ?_
      refine rm_get 33 K hw (by decide) kf_X8_428 rfl dX8_back_47 ?_
      refine rm_put 7 K hw (by decide) kf_X8_92 rfl rfl rfl rfl (fsM_7 ad g_4 _) dX8_back_50 (fun g_5 eg_5 H locs hw => ?_)
      have hd := hd g_5 eg_5
      refine lv_aload_n K.1 K.2.1 dX8_back_53 rfl (lv_at hl 0 rfl) ?_
      refine lv_aload_n K.1 K.2.1 dX8_back_54 rfl (lv_at hl 0 rfl) ?_
      refine rm_get 34 K hw (by decide) kf_X8_431 rfl dX8_back_55 ?_
      refine rm_put 8 K hw (by decide) kf_X8_23 rfl rfl rfl rfl (fsM_8 ad g_5 _) dX8_back_58 (fun g_6 eg_6 H locs hw => ?_)
      have hd := hd g_6 eg_6
      refine lv_aload_n K.1 K.2.1 dX8_back_61 rfl (lv_at hl 0 rfl) ?_
      refine lv_aload_n K.1 K.2.1 dX8_back_62 rfl (lv_at hl 0 rfl) ?_
      refine rm_get 35 K hw (by decide) kf_X8_434 rfl dX8_back_63 ?_
      refine rm_put 4 K hw (by decide) kf_X8_95 rfl rfl rfl rfl (fsM_4 ad g_6 _) dX8_back_66 (fun g_7 eg_7 H locs hw => ?_)
      have hd := hd g_7 eg_7
      refine lv_aload_n K.1 K.2.1 dX8_back_69 rfl (lv_at hl 0 rfl) ?_
      refine rm_get 11 K hw (by decide) kf_X8_64 rfl dX8_back_70 ?_
      exact rk_iret K hw hr hd dX8_back_73
    · have hd := hd.2 h_3
      refine lv_aload_n K.1 K.2.1 dX8_back_19 rfl (lv_at hl 0 rfl) ?_
      refine rm_get 10 K hw (by decide) kf_X8_29 rfl dX8_back_20 ?_
      refine lv_iload_n K.1 K.2.1 dX8_back_23 rfl (lv_at hl 1 rfl) ?_
      refine lv_aload_n K.1 K.2.1 dX8_back_24 rfl (lv_at hl 0 rfl) ?_
      refine rm_get 31 K hw (by decide) kf_X8_38 rfl dX8_back_25 ?_
      refine lv_iload_n K.1 K.2.1 dX8_back_28 rfl (lv_at hl 1 rfl) ?_
      have hb := hd.1
      have hd := hd.2
      refine rm_iald 8 K hw (by decide) hb dX8_back_29 ?_
      have hb := hd.1
      have hd := hd.2
      refine rm_iast 5 K hw (by decide) hb dX8_back_30 (fun g_8 eg_8 H locs hw => ?_)
      have hd := hd g_8 eg_8
      obtain ⟨x1_9, ex1_9⟩ : ∃ y : Int32, y = x1 + (1 : Int32) := ⟨_, rfl⟩
      have hd := hd x1_9 ex1_9
      refine lv_iinc (v := x1_9) (lv' := [(1, .int x1_9), (0, .ref (ad 0))]) K.1 K.2.1 dX8_back_31 hl (k := 1) rfl (by rw [ex1_9]; rfl) (by decide) rfl (fun ls hl => ?_)
      refine lv_goto (tgt := 13) K.1 K.2.1 dX8_back_34 (by decide) ?_
      exact ih x1_9 g_8 _ _ _ hd hw (lv_sub hl [1, 0] rfl)
set_option maxHeartbeats 4000000 in
set_option maxRecDepth 100000 in
theorem cc_X8_back (l : Launch) (D : va_G) (cy : Nat → ClassId) (ad : Nat → Nat) (A : Nat → Prop) (g0 : Sg) (Q : Int32 → Sg → Prop)  (hd : vv_X8_back  g0 Q) : Met l yX8_back (Cond.code yX8_back cX8_back 2 (some .int) :: TT) (rmD 0) (va_Pc [.ref (ad 0)] (PreG (wsM cy ad) D cy A g0)) (va_Qi Q (PostG (wsM cy ad) D A) A) 0 0 A := by
  unfold vv_X8_back at hd
  refine Met.ofW (cc := cX8_back) (maxL := 2) (ret := (some .int)) (by decide) rfl ?_
  intro p e s m args below meth c s₁ B hml hv
  obtain ⟨rfl, hP, hK0, hD⟩ := hv
  have K : Kx p s m _ meth c cX8_back 2 RX8 D cy := ⟨B.exec, B.bytes, hml, findClass_of_methodNamed B.named, fun w h => atoms_spec (ws := Cond.code yX8_back cX8_back 2 (some .int) :: TT) B.pre w (List.mem_cons_of_mem _ h), hK0, B.notSynchronized⟩
  have hw : Wd D A s.heap (wsM cy ad g0) s.heap [] := ⟨hP, hD, va_S.rf⟩
  have hr := B.returns
  have hl := lv_entry ([.ref (ad 0)]) (n := 2) (Nat.le_of_ble_eq_true rfl)
  rw [lg_entry_eq]
  generalize (lg_sl ([.ref (ad 0)]) ++ List.replicate (2 - (lg_sl ([.ref (ad 0)])).length) Slot.unset).toArray = ls at hl ⊢
  have hl : lv_has ls 2 [(0, .ref (ad 0))] := hl
  refine lv_aload_n K.1 K.2.1 dX8_back_0 rfl (lv_at hl 0 rfl) ?_
  refine rm_get 32 K hw (by decide) kf_X8_41 rfl dX8_back_1 ?_
  refine lv_iconst (v := (-1 : Int32)) K.1 K.2.1 dX8_back_4 (by decide) ?_
  refine lv_icmp_ne (tgt := 11) K.1 K.2.1 dX8_back_5 (by decide) (fun h_1 => ?_) (fun h_1 => ?_)
  · have hd := hd.1 h_1
    refine lv_iconst (v := (0 : Int32)) K.1 K.2.1 dX8_back_11 (by decide) ?_
    refine lv_topi (fun x1_2 ex1_2 => ?_)
    have hd := hd x1_2 ex1_2
    refine lv_istore_n (lv' := [(1, .int x1_2), (0, .ref (ad 0))]) K.1 K.2.1 dX8_back_12 rfl hl (by decide) rfl (fun ls hl => ?_)
    obtain ⟨n9, hd⟩ := hd
    exact bb_X8_back_13 K hr  n9 x1_2 g0 _ _ _ hd hw (lv_sub hl [1, 0] rfl)
  · have hd := hd.2 h_1
    refine lv_bipush (v := (-3 : Int32)) K.1 K.2.1 dX8_back_8 (by decide) ?_
    exact rk_iret K hw hr hd dX8_back_10
theorem dX8_count_0 : decode cX8_count 0 = .ok (.iload_n 1, 1) := by decide +kernel
theorem dX8_count_1 : decode cX8_count 1 = .ok (.i2l, 1) := by decide +kernel
theorem dX8_count_2 : decode cX8_count 2 = .ok (.lconst 0, 1) := by decide +kernel
theorem dX8_count_3 : decode cX8_count 3 = .ok (.ldc2_w 98, 3) := by decide +kernel
theorem dX8_count_6 : decode cX8_count 6 = .ok (.invokestatic 67, 3) := by decide +kernel
theorem dX8_count_9 : decode cX8_count 9 = .ok (.ifCond .ne 6, 3) := by decide +kernel
theorem dX8_count_12 : decode cX8_count 12 = .ok (.bipush (-2), 2) := by decide +kernel
theorem dX8_count_14 : decode cX8_count 14 = .ok (.ireturn, 1) := by decide +kernel
theorem dX8_count_15 : decode cX8_count 15 = .ok (.iload_n 1, 1) := by decide +kernel
theorem dX8_count_16 : decode cX8_count 16 = .ok (.iconst 1, 1) := by decide +kernel
theorem dX8_count_17 : decode cX8_count 17 = .ok (.if_icmp .le 48, 3) := by decide +kernel
theorem dX8_count_20 : decode cX8_count 20 = .ok (.iload_n 1, 1) := by decide +kernel
theorem dX8_count_21 : decode cX8_count 21 = .ok (.iconst 2, 1) := by decide +kernel
theorem dX8_count_22 : decode cX8_count 22 = .ok (.if_icmp .ne 14, 3) := by decide +kernel
theorem dX8_count_25 : decode cX8_count 25 = .ok (.aload_n 0, 1) := by decide +kernel
theorem dX8_count_26 : decode cX8_count 26 = .ok (.aload_n 0, 1) := by decide +kernel
theorem dX8_count_27 : decode cX8_count 27 = .ok (.invokevirtual 404, 3) := by decide +kernel
theorem dX8_count_30 : decode cX8_count 30 = .ok (.invokevirtual 407, 3) := by decide +kernel
theorem dX8_count_33 : decode cX8_count 33 = .ok (.goto 31, 3) := by decide +kernel
theorem dX8_count_36 : decode cX8_count 36 = .ok (.iload_n 1, 1) := by decide +kernel
theorem dX8_count_37 : decode cX8_count 37 = .ok (.iconst 3, 1) := by decide +kernel
theorem dX8_count_38 : decode cX8_count 38 = .ok (.if_icmp .ne 10, 3) := by decide +kernel
theorem dX8_count_41 : decode cX8_count 41 = .ok (.aload_n 0, 1) := by decide +kernel
theorem dX8_count_42 : decode cX8_count 42 = .ok (.getfield 61, 3) := by decide +kernel
theorem dX8_count_45 : decode cX8_count 45 = .ok (.goto 19, 3) := by decide +kernel
theorem dX8_count_48 : decode cX8_count 48 = .ok (.iload_n 1, 1) := by decide +kernel
theorem dX8_count_49 : decode cX8_count 49 = .ok (.iconst 4, 1) := by decide +kernel
theorem dX8_count_50 : decode cX8_count 50 = .ok (.if_icmp .ne 10, 3) := by decide +kernel
theorem dX8_count_53 : decode cX8_count 53 = .ok (.aload_n 0, 1) := by decide +kernel
theorem dX8_count_54 : decode cX8_count 54 = .ok (.getfield 131, 3) := by decide +kernel
theorem dX8_count_57 : decode cX8_count 57 = .ok (.goto 7, 3) := by decide +kernel
theorem dX8_count_60 : decode cX8_count 60 = .ok (.aload_n 0, 1) := by decide +kernel
theorem dX8_count_61 : decode cX8_count 61 = .ok (.getfield 95, 3) := by decide +kernel
theorem dX8_count_64 : decode cX8_count 64 = .ok (.ireturn, 1) := by decide +kernel
theorem dX8_count_65 : decode cX8_count 65 = .ok (.iload_n 1, 1) := by decide +kernel
theorem dX8_count_66 : decode cX8_count 66 = .ok (.ifCond .ne 10, 3) := by decide +kernel
theorem dX8_count_69 : decode cX8_count 69 = .ok (.aload_n 0, 1) := by decide +kernel
theorem dX8_count_70 : decode cX8_count 70 = .ok (.getfield 64, 3) := by decide +kernel
theorem dX8_count_73 : decode cX8_count 73 = .ok (.goto 15, 3) := by decide +kernel
theorem dX8_count_76 : decode cX8_count 76 = .ok (.aload_n 0, 1) := by decide +kernel
theorem dX8_count_77 : decode cX8_count 77 = .ok (.getfield 64, 3) := by decide +kernel
theorem dX8_count_80 : decode cX8_count 80 = .ok (.aload_n 0, 1) := by decide +kernel
theorem dX8_count_81 : decode cX8_count 81 = .ok (.invokevirtual 404, 3) := by decide +kernel
theorem dX8_count_84 : decode cX8_count 84 = .ok (.invokestatic 375, 3) := by decide +kernel
theorem dX8_count_87 : decode cX8_count 87 = .ok (.isub, 1) := by decide +kernel
theorem dX8_count_88 : decode cX8_count 88 = .ok (.ireturn, 1) := by decide +kernel
set_option maxHeartbeats 4000000 in
set_option maxRecDepth 100000 in
theorem cc_X8_count (l : Launch) (D : va_G) (cy : Nat → ClassId) (ad : Nat → Nat) (A : Nat → Prop) (g0 : Sg) (Q : Int32 → Sg → Prop) (x1 : Int32) (hd : vv_X8_count x1 g0 Q) : Met l yX8_count (Cond.code yX8_count cX8_count 2 (some .int) :: TT) (rmD 45) (va_Pc [.ref (ad 0), .int x1] (PreG (wsM cy ad) D cy A g0)) (va_Qi Q (PostG (wsM cy ad) D A) A) 0 0 A := by
  unfold vv_X8_count at hd
  refine Met.ofW (cc := cX8_count) (maxL := 2) (ret := (some .int)) (by decide) rfl ?_
  intro p e s m args below meth c s₁ B hml hv
  obtain ⟨rfl, hP, hK0, hD⟩ := hv
  have K : Kx p s m _ meth c cX8_count 2 RX8 D cy := ⟨B.exec, B.bytes, hml, findClass_of_methodNamed B.named, fun w h => atoms_spec (ws := Cond.code yX8_count cX8_count 2 (some .int) :: TT) B.pre w (List.mem_cons_of_mem _ h), hK0, B.notSynchronized⟩
  have hw : Wd D A s.heap (wsM cy ad g0) s.heap [] := ⟨hP, hD, va_S.rf⟩
  have hr := B.returns
  have hl := lv_entry ([.ref (ad 0), .int x1]) (n := 2) (Nat.le_of_ble_eq_true rfl)
  rw [lg_entry_eq]
  generalize (lg_sl ([.ref (ad 0), .int x1]) ++ List.replicate (2 - (lg_sl ([.ref (ad 0), .int x1])).length) Slot.unset).toArray = ls at hl ⊢
  have hl : lv_has ls 2 [(0, .ref (ad 0)), (1, .int x1)] := hl
  refine lv_iload_n K.1 K.2.1 dX8_count_0 rfl (lv_at hl 1 rfl) ?_
  refine lv_i2l (v := x1.toInt64) K.1 K.2.1 dX8_count_1 rfl ?_
  refine lv_lconst (v := (0 : Int64)) K.1 K.2.1 dX8_count_2 rfl ?_
  refine lv_ldc2 K.1 K.2.1 K.2.2.2.1 (K.2.2.2.2.1 _ kl_X8_98) dX8_count_3 ?_
  refine rk_si (As := [.long x1.toInt64, .long (0 : Int64), .long (5 : Int64)]) (rest := []) K hw (cc_X8_in l D cy ad A g0 _ (x1.toInt64) (0 : Int64) (5 : Int64) hd) lk_X8_67 ⟨Nat.le_of_ble_eq_true rfl, Nat.le_of_ble_eq_true rfl⟩ ⟨Nat.zero_le _, Nat.zero_le _⟩ rfl hl.1 (Nat.le_of_ble_eq_true rfl) rfl dX8_count_6 (fun r_2 g_1 H locs hd hw => ?_)
  refine lv_if_ne (tgt := 15) K.1 K.2.1 dX8_count_9 (by decide) (fun h_3 => ?_) (fun h_3 => ?_)
  · have hd := hd.1 h_3
    refine lv_iload_n K.1 K.2.1 dX8_count_15 rfl (lv_at hl 1 rfl) ?_
    refine lv_iconst (v := (1 : Int32)) K.1 K.2.1 dX8_count_16 (by decide) ?_
    refine lv_icmp_le (tgt := 65) K.1 K.2.1 dX8_count_17 (by decide) (fun h_4 => ?_) (fun h_4 => ?_)
    · have hd := hd.1 h_4
      refine lv_iload_n K.1 K.2.1 dX8_count_65 rfl (lv_at hl 1 rfl) ?_
      refine lv_if_ne (tgt := 76) K.1 K.2.1 dX8_count_66 (by decide) (fun h_5 => ?_) (fun h_5 => ?_)
      · have hd := hd.1 h_5
        refine lv_aload_n K.1 K.2.1 dX8_count_76 rfl (lv_at hl 0 rfl) ?_
        refine rm_get 11 K hw (by decide) kf_X8_64 rfl dX8_count_77 ?_
        refine lv_aload_n K.1 K.2.1 dX8_count_80 rfl (lv_at hl 0 rfl) ?_
        refine rk_vi (As := []) (rest := [.int (g_1 0 11)]) K hw (cc_X8_wholeSet l D cy ad A g_1 _  hd) lk_X8_404 (ci := 8) rfl (q0 := 0) (wsM_at cy ad _ (by decide)) ⟨Nat.le_of_ble_eq_true rfl, Nat.le_of_ble_eq_true rfl⟩ ⟨Nat.zero_le _, Nat.zero_le _⟩ rfl hl.1 (Nat.le_of_ble_eq_true rfl) rfl dX8_count_81 (fun r_7 g_6 H locs hd hw => ?_)
        refine rk_si (As := [.int r_7]) (rest := [.int (g_1 0 11)]) K hw (cc_X8_bitsOf l D cy ad A g_6 _ r_7 hd) lk_X8_375 ⟨Nat.le_of_ble_eq_true rfl, Nat.le_of_ble_eq_true rfl⟩ ⟨Nat.zero_le _, Nat.zero_le _⟩ rfl hl.1 (Nat.le_of_ble_eq_true rfl) rfl dX8_count_84 (fun r_9 g_8 H locs hd hw => ?_)
        refine lv_isub K.1 K.2.1 dX8_count_87 ?_
        exact rk_iret K hw hr hd dX8_count_88
      · have hd := hd.2 h_5
        refine lv_aload_n K.1 K.2.1 dX8_count_69 rfl (lv_at hl 0 rfl) ?_
        refine rm_get 11 K hw (by decide) kf_X8_64 rfl dX8_count_70 ?_
        refine lv_goto (tgt := 88) K.1 K.2.1 dX8_count_73 (by decide) ?_
        exact rk_iret K hw hr hd dX8_count_88
    · have hd := hd.2 h_4
      refine lv_iload_n K.1 K.2.1 dX8_count_20 rfl (lv_at hl 1 rfl) ?_
      refine lv_iconst (v := (2 : Int32)) K.1 K.2.1 dX8_count_21 (by decide) ?_
      refine lv_icmp_ne (tgt := 36) K.1 K.2.1 dX8_count_22 (by decide) (fun h_10 => ?_) (fun h_10 => ?_)
      · have hd := hd.1 h_10
        refine lv_iload_n K.1 K.2.1 dX8_count_36 rfl (lv_at hl 1 rfl) ?_
        refine lv_iconst (v := (3 : Int32)) K.1 K.2.1 dX8_count_37 (by decide) ?_
        refine lv_icmp_ne (tgt := 48) K.1 K.2.1 dX8_count_38 (by decide) (fun h_11 => ?_) (fun h_11 => ?_)
        · have hd := hd.1 h_11
          refine lv_iload_n K.1 K.2.1 dX8_count_48 rfl (lv_at hl 1 rfl) ?_
          refine lv_iconst (v := (4 : Int32)) K.1 K.2.1 dX8_count_49 (by decide) ?_
          refine lv_icmp_ne (tgt := 60) K.1 K.2.1 dX8_count_50 (by decide) (fun h_12 => ?_) (fun h_12 => ?_)
          · have hd := hd.1 h_12
            refine lv_aload_n K.1 K.2.1 dX8_count_60 rfl (lv_at hl 0 rfl) ?_
            refine rm_get 4 K hw (by decide) kf_X8_95 rfl dX8_count_61 ?_
            exact rk_iret K hw hr hd dX8_count_64
          · have hd := hd.2 h_12
            refine lv_aload_n K.1 K.2.1 dX8_count_53 rfl (lv_at hl 0 rfl) ?_
            refine rm_get 6 K hw (by decide) kf_X8_131 rfl dX8_count_54 ?_
            refine lv_goto (tgt := 64) K.1 K.2.1 dX8_count_57 (by decide) ?_
            exact rk_iret K hw hr hd dX8_count_64
        · have hd := hd.2 h_11
          refine lv_aload_n K.1 K.2.1 dX8_count_41 rfl (lv_at hl 0 rfl) ?_
          refine rm_get 3 K hw (by decide) kf_X8_61 rfl dX8_count_42 ?_
          refine lv_goto (tgt := 64) K.1 K.2.1 dX8_count_45 (by decide) ?_
          exact rk_iret K hw hr hd dX8_count_64
      · have hd := hd.2 h_10
        refine lv_aload_n K.1 K.2.1 dX8_count_25 rfl (lv_at hl 0 rfl) ?_
        refine lv_aload_n K.1 K.2.1 dX8_count_26 rfl (lv_at hl 0 rfl) ?_
        refine rk_vi (As := []) (rest := [.ref (ad 0)]) K hw (cc_X8_wholeSet l D cy ad A g_1 _  hd) lk_X8_404 (ci := 8) rfl (q0 := 0) (wsM_at cy ad _ (by decide)) ⟨Nat.le_of_ble_eq_true rfl, Nat.le_of_ble_eq_true rfl⟩ ⟨Nat.zero_le _, Nat.zero_le _⟩ rfl hl.1 (Nat.le_of_ble_eq_true rfl) rfl dX8_count_27 (fun r_14 g_13 H locs hd hw => ?_)
        refine rk_vi (As := [.int r_14]) (rest := []) K hw (cc_X8_allWeights l D cy ad A g_13 _ r_14 hd) lk_X8_407 (ci := 8) rfl (q0 := 0) (wsM_at cy ad _ (by decide)) ⟨Nat.le_of_ble_eq_true rfl, Nat.le_of_ble_eq_true rfl⟩ ⟨Nat.zero_le _, Nat.zero_le _⟩ rfl hl.1 (Nat.le_of_ble_eq_true rfl) rfl dX8_count_30 (fun r_16 g_15 H locs hd hw => ?_)
        refine lv_goto (tgt := 64) K.1 K.2.1 dX8_count_33 (by decide) ?_
        exact rk_iret K hw hr hd dX8_count_64
  · have hd := hd.2 h_3
    refine lv_bipush (v := (-2 : Int32)) K.1 K.2.1 dX8_count_12 (by decide) ?_
    exact rk_iret K hw hr hd dX8_count_14
theorem dX8_cell_0 : decode cX8_cell 0 = .ok (.iload_n 1, 1) := by decide +kernel
theorem dX8_cell_1 : decode cX8_cell 1 = .ok (.invokestatic 413, 3) := by decide +kernel
theorem dX8_cell_4 : decode cX8_cell 4 = .ok (.ifCond .ne 6, 3) := by decide +kernel
theorem dX8_cell_7 : decode cX8_cell 7 = .ok (.bipush (-2), 2) := by decide +kernel
theorem dX8_cell_9 : decode cX8_cell 9 = .ok (.ireturn, 1) := by decide +kernel
theorem dX8_cell_10 : decode cX8_cell 10 = .ok (.aload_n 0, 1) := by decide +kernel
theorem dX8_cell_11 : decode cX8_cell 11 = .ok (.getfield 44, 3) := by decide +kernel
theorem dX8_cell_14 : decode cX8_cell 14 = .ok (.iload_n 1, 1) := by decide +kernel
theorem dX8_cell_15 : decode cX8_cell 15 = .ok (.baload, 1) := by decide +kernel
theorem dX8_cell_16 : decode cX8_cell 16 = .ok (.ifCond .ne 6, 3) := by decide +kernel
theorem dX8_cell_19 : decode cX8_cell 19 = .ok (.bipush (-11), 2) := by decide +kernel
theorem dX8_cell_21 : decode cX8_cell 21 = .ok (.ireturn, 1) := by decide +kernel
theorem dX8_cell_22 : decode cX8_cell 22 = .ok (.iload_n 2, 1) := by decide +kernel
theorem dX8_cell_23 : decode cX8_cell 23 = .ok (.i2l, 1) := by decide +kernel
theorem dX8_cell_24 : decode cX8_cell 24 = .ok (.lconst 0, 1) := by decide +kernel
theorem dX8_cell_25 : decode cX8_cell 25 = .ok (.aload_n 0, 1) := by decide +kernel
theorem dX8_cell_26 : decode cX8_cell 26 = .ok (.getfield 51, 3) := by decide +kernel
theorem dX8_cell_29 : decode cX8_cell 29 = .ok (.iload_n 1, 1) := by decide +kernel
theorem dX8_cell_30 : decode cX8_cell 30 = .ok (.iaload, 1) := by decide +kernel
theorem dX8_cell_31 : decode cX8_cell 31 = .ok (.iconst 1, 1) := by decide +kernel
theorem dX8_cell_32 : decode cX8_cell 32 = .ok (.isub, 1) := by decide +kernel
theorem dX8_cell_33 : decode cX8_cell 33 = .ok (.i2l, 1) := by decide +kernel
theorem dX8_cell_34 : decode cX8_cell 34 = .ok (.invokestatic 67, 3) := by decide +kernel
theorem dX8_cell_37 : decode cX8_cell 37 = .ok (.ifCond .ne 6, 3) := by decide +kernel
theorem dX8_cell_40 : decode cX8_cell 40 = .ok (.bipush (-12), 2) := by decide +kernel
theorem dX8_cell_42 : decode cX8_cell 42 = .ok (.ireturn, 1) := by decide +kernel
theorem dX8_cell_43 : decode cX8_cell 43 = .ok (.aload_n 0, 1) := by decide +kernel
theorem dX8_cell_44 : decode cX8_cell 44 = .ok (.getfield 54, 3) := by decide +kernel
theorem dX8_cell_47 : decode cX8_cell 47 = .ok (.bipush 40, 2) := by decide +kernel
theorem dX8_cell_49 : decode cX8_cell 49 = .ok (.iload_n 1, 1) := by decide +kernel
theorem dX8_cell_50 : decode cX8_cell 50 = .ok (.imul, 1) := by decide +kernel
theorem dX8_cell_51 : decode cX8_cell 51 = .ok (.iload_n 2, 1) := by decide +kernel
theorem dX8_cell_52 : decode cX8_cell 52 = .ok (.iadd, 1) := by decide +kernel
theorem dX8_cell_53 : decode cX8_cell 53 = .ok (.aload_n 0, 1) := by decide +kernel
theorem dX8_cell_54 : decode cX8_cell 54 = .ok (.getfield 48, 3) := by decide +kernel
theorem dX8_cell_57 : decode cX8_cell 57 = .ok (.iload_n 1, 1) := by decide +kernel
theorem dX8_cell_58 : decode cX8_cell 58 = .ok (.iaload, 1) := by decide +kernel
theorem dX8_cell_59 : decode cX8_cell 59 = .ok (.ifCond .ne 8, 3) := by decide +kernel
theorem dX8_cell_62 : decode cX8_cell 62 = .ok (.iload_n 3, 1) := by decide +kernel
theorem dX8_cell_63 : decode cX8_cell 63 = .ok (.i2b, 1) := by decide +kernel
theorem dX8_cell_64 : decode cX8_cell 64 = .ok (.goto 19, 3) := by decide +kernel
theorem dX8_cell_67 : decode cX8_cell 67 = .ok (.aload_n 0, 1) := by decide +kernel
theorem dX8_cell_68 : decode cX8_cell 68 = .ok (.getfield 48, 3) := by decide +kernel
theorem dX8_cell_71 : decode cX8_cell 71 = .ok (.iload_n 1, 1) := by decide +kernel
theorem dX8_cell_72 : decode cX8_cell 72 = .ok (.iaload, 1) := by decide +kernel
theorem dX8_cell_73 : decode cX8_cell 73 = .ok (.iconst 1, 1) := by decide +kernel
theorem dX8_cell_74 : decode cX8_cell 74 = .ok (.if_icmp .ne 8, 3) := by decide +kernel
theorem dX8_cell_77 : decode cX8_cell 77 = .ok (.iload_n 3, 1) := by decide +kernel
theorem dX8_cell_78 : decode cX8_cell 78 = .ok (.i2s, 1) := by decide +kernel
theorem dX8_cell_79 : decode cX8_cell 79 = .ok (.goto 4, 3) := by decide +kernel
theorem dX8_cell_82 : decode cX8_cell 82 = .ok (.iload_n 3, 1) := by decide +kernel
theorem dX8_cell_83 : decode cX8_cell 83 = .ok (.iastore, 1) := by decide +kernel
theorem dX8_cell_84 : decode cX8_cell 84 = .ok (.iconst 1, 1) := by decide +kernel
theorem dX8_cell_85 : decode cX8_cell 85 = .ok (.ireturn, 1) := by decide +kernel
set_option maxHeartbeats 4000000 in
set_option maxRecDepth 100000 in
theorem bb_X8_cell_83 {p : Program} {l : Launch} {e : Env} {s : State} {m : MethodId} {args : Array Value} {below : List Frame} {meth : Method} {c : Code} {D : va_G} {cy : Nat → ClassId} {ad : Nat → Nat} {A : Nat → Prop} {Q : Int32 → Sg → Prop} (K : Kx p s m args meth c cX8_cell 4 RX8 D cy) (hr : meth.sig.returnType = (some .int))  (t1 : Int32) (t2 : Int32) (g0 : Sg) (H : Heap) (locs : List Loc) (ls : Array Slot) (hd : vv_X8_cell_J83 t1 t2 g0 Q) (hw : Wd D A s.heap (wsM cy ad g0) H locs) (hl : lv_has ls 4 []) : W p l e (rmD 2) s m args below meth c H locs 0 0 (MQ below (va_Qi Q (PostG (wsM cy ad) D A) A) args s 0 0 A) (F0 m 83 ls [.int t2, .int t1, .ref (ad 12)]) := by
  unfold vv_X8_cell_J83 at hd
  have hb := hd.1
  have hd := hd.2
  refine rm_iast 12 K hw (by decide) hb dX8_cell_83 (fun g_10 eg_10 H locs hw => ?_)
  have hd := hd g_10 eg_10
  refine lv_iconst (v := (1 : Int32)) K.1 K.2.1 dX8_cell_84 (by decide) ?_
  exact rk_iret K hw hr hd dX8_cell_85
set_option maxHeartbeats 4000000 in
set_option maxRecDepth 100000 in
theorem cc_X8_cell (l : Launch) (D : va_G) (cy : Nat → ClassId) (ad : Nat → Nat) (A : Nat → Prop) (g0 : Sg) (Q : Int32 → Sg → Prop) (x1 : Int32) (x2 : Int32) (x3 : Int32) (hd : vv_X8_cell x1 x2 x3 g0 Q) : Met l yX8_cell (Cond.code yX8_cell cX8_cell 4 (some .int) :: TT) (rmD 2) (va_Pc [.ref (ad 0), .int x1, .int x2, .int x3] (PreG (wsM cy ad) D cy A g0)) (va_Qi Q (PostG (wsM cy ad) D A) A) 0 0 A := by
  unfold vv_X8_cell at hd
  refine Met.ofW (cc := cX8_cell) (maxL := 4) (ret := (some .int)) (by decide) rfl ?_
  intro p e s m args below meth c s₁ B hml hv
  obtain ⟨rfl, hP, hK0, hD⟩ := hv
  have K : Kx p s m _ meth c cX8_cell 4 RX8 D cy := ⟨B.exec, B.bytes, hml, findClass_of_methodNamed B.named, fun w h => atoms_spec (ws := Cond.code yX8_cell cX8_cell 4 (some .int) :: TT) B.pre w (List.mem_cons_of_mem _ h), hK0, B.notSynchronized⟩
  have hw : Wd D A s.heap (wsM cy ad g0) s.heap [] := ⟨hP, hD, va_S.rf⟩
  have hr := B.returns
  have hl := lv_entry ([.ref (ad 0), .int x1, .int x2, .int x3]) (n := 4) (Nat.le_of_ble_eq_true rfl)
  rw [lg_entry_eq]
  generalize (lg_sl ([.ref (ad 0), .int x1, .int x2, .int x3]) ++ List.replicate (4 - (lg_sl ([.ref (ad 0), .int x1, .int x2, .int x3])).length) Slot.unset).toArray = ls at hl ⊢
  have hl : lv_has ls 4 [(0, .ref (ad 0)), (1, .int x1), (2, .int x2), (3, .int x3)] := hl
  refine lv_iload_n K.1 K.2.1 dX8_cell_0 rfl (lv_at hl 1 rfl) ?_
  refine rk_si (As := [.int x1]) (rest := []) K hw (cc_X8_isSheet l D cy ad A g0 _ x1 hd) lk_X8_413 ⟨Nat.le_of_ble_eq_true rfl, Nat.le_of_ble_eq_true rfl⟩ ⟨Nat.zero_le _, Nat.zero_le _⟩ rfl hl.1 (Nat.le_of_ble_eq_true rfl) rfl dX8_cell_1 (fun r_2 g_1 H locs hd hw => ?_)
  refine lv_if_ne (tgt := 10) K.1 K.2.1 dX8_cell_4 (by decide) (fun h_3 => ?_) (fun h_3 => ?_)
  · have hd := hd.1 h_3
    refine lv_aload_n K.1 K.2.1 dX8_cell_10 rfl (lv_at hl 0 rfl) ?_
    refine rm_get 36 K hw (by decide) kf_X8_44 rfl dX8_cell_11 ?_
    refine lv_iload_n K.1 K.2.1 dX8_cell_14 rfl (lv_at hl 1 rfl) ?_
    have hb := hd.1
    have hd := hd.2
    refine rm_zald K hw hb dX8_cell_15 ?_
    refine lv_if_ne (tgt := 22) K.1 K.2.1 dX8_cell_16 (by decide) (fun h_4 => ?_) (fun h_4 => ?_)
    · have hd := hd.1 h_4
      refine lv_iload_n K.1 K.2.1 dX8_cell_22 rfl (lv_at hl 2 rfl) ?_
      refine lv_i2l (v := x2.toInt64) K.1 K.2.1 dX8_cell_23 rfl ?_
      refine lv_lconst (v := (0 : Int64)) K.1 K.2.1 dX8_cell_24 rfl ?_
      refine lv_aload_n K.1 K.2.1 dX8_cell_25 rfl (lv_at hl 0 rfl) ?_
      refine rm_get 38 K hw (by decide) kf_X8_51 rfl dX8_cell_26 ?_
      refine lv_iload_n K.1 K.2.1 dX8_cell_29 rfl (lv_at hl 1 rfl) ?_
      have hb := hd.1
      have hd := hd.2
      refine rm_iald 11 K hw (by decide) hb dX8_cell_30 ?_
      refine lv_iconst (v := (1 : Int32)) K.1 K.2.1 dX8_cell_31 (by decide) ?_
      refine lv_isub K.1 K.2.1 dX8_cell_32 ?_
      refine lv_i2l (v := ((g_1 11 x1.toNatClampNeg) - (1 : Int32)).toInt64) K.1 K.2.1 dX8_cell_33 rfl ?_
      refine rk_si (As := [.long x2.toInt64, .long (0 : Int64), .long ((g_1 11 x1.toNatClampNeg) - (1 : Int32)).toInt64]) (rest := []) K hw (cc_X8_in l D cy ad A g_1 _ (x2.toInt64) (0 : Int64) (((g_1 11 x1.toNatClampNeg) - (1 : Int32)).toInt64) hd) lk_X8_67 ⟨Nat.le_of_ble_eq_true rfl, Nat.le_of_ble_eq_true rfl⟩ ⟨Nat.zero_le _, Nat.zero_le _⟩ rfl hl.1 (Nat.le_of_ble_eq_true rfl) rfl dX8_cell_34 (fun r_6 g_5 H locs hd hw => ?_)
      refine lv_if_ne (tgt := 43) K.1 K.2.1 dX8_cell_37 (by decide) (fun h_7 => ?_) (fun h_7 => ?_)
      · have hd := hd.1 h_7
        refine lv_aload_n K.1 K.2.1 dX8_cell_43 rfl (lv_at hl 0 rfl) ?_
        refine rm_get 39 K hw (by decide) kf_X8_54 rfl dX8_cell_44 ?_
        refine lv_bipush (v := (40 : Int32)) K.1 K.2.1 dX8_cell_47 (by decide) ?_
        refine lv_iload_n K.1 K.2.1 dX8_cell_49 rfl (lv_at hl 1 rfl) ?_
        refine lv_imul K.1 K.2.1 dX8_cell_50 ?_
        refine lv_iload_n K.1 K.2.1 dX8_cell_51 rfl (lv_at hl 2 rfl) ?_
        refine lv_iadd K.1 K.2.1 dX8_cell_52 ?_
        refine lv_aload_n K.1 K.2.1 dX8_cell_53 rfl (lv_at hl 0 rfl) ?_
        refine rm_get 37 K hw (by decide) kf_X8_48 rfl dX8_cell_54 ?_
        refine lv_iload_n K.1 K.2.1 dX8_cell_57 rfl (lv_at hl 1 rfl) ?_
        have hb := hd.1
        have hd := hd.2
        refine rm_iald 10 K hw (by decide) hb dX8_cell_58 ?_
        refine lv_if_ne (tgt := 67) K.1 K.2.1 dX8_cell_59 (by decide) (fun h_8 => ?_) (fun h_8 => ?_)
        · have hd := hd.1 h_8
          refine lv_aload_n K.1 K.2.1 dX8_cell_67 rfl (lv_at hl 0 rfl) ?_
          refine rm_get 37 K hw (by decide) kf_X8_48 rfl dX8_cell_68 ?_
          refine lv_iload_n K.1 K.2.1 dX8_cell_71 rfl (lv_at hl 1 rfl) ?_
          have hb := hd.1
          have hd := hd.2
          refine rm_iald 10 K hw (by decide) hb dX8_cell_72 ?_
          refine lv_iconst (v := (1 : Int32)) K.1 K.2.1 dX8_cell_73 (by decide) ?_
          refine lv_icmp_ne (tgt := 82) K.1 K.2.1 dX8_cell_74 (by decide) (fun h_9 => ?_) (fun h_9 => ?_)
          · have hd := hd.1 h_9
            refine lv_iload_n K.1 K.2.1 dX8_cell_82 rfl (lv_at hl 3 rfl) ?_
            exact bb_X8_cell_83 K hr  (((40 : Int32) * x1) + x2) x3 g_5 _ _ _ hd hw (lv_sub hl [] rfl)
          · have hd := hd.2 h_9
            refine lv_iload_n K.1 K.2.1 dX8_cell_77 rfl (lv_at hl 3 rfl) ?_
            refine lv_i2s (v := x3.toInt16.toInt32) K.1 K.2.1 dX8_cell_78 rfl ?_
            refine lv_goto (tgt := 83) K.1 K.2.1 dX8_cell_79 (by decide) ?_
            exact bb_X8_cell_83 K hr  (((40 : Int32) * x1) + x2) (x3.toInt16.toInt32) g_5 _ _ _ hd hw (lv_sub hl [] rfl)
        · have hd := hd.2 h_8
          refine lv_iload_n K.1 K.2.1 dX8_cell_62 rfl (lv_at hl 3 rfl) ?_
          refine lv_i2b (v := x3.toInt8.toInt32) K.1 K.2.1 dX8_cell_63 rfl ?_
          refine lv_goto (tgt := 83) K.1 K.2.1 dX8_cell_64 (by decide) ?_
          exact bb_X8_cell_83 K hr  (((40 : Int32) * x1) + x2) (x3.toInt8.toInt32) g_5 _ _ _ hd hw (lv_sub hl [] rfl)
      · have hd := hd.2 h_7
        refine lv_bipush (v := (-12 : Int32)) K.1 K.2.1 dX8_cell_40 (by decide) ?_
        exact rk_iret K hw hr hd dX8_cell_42
    · have hd := hd.2 h_4
      refine lv_bipush (v := (-11 : Int32)) K.1 K.2.1 dX8_cell_19 (by decide) ?_
      exact rk_iret K hw hr hd dX8_cell_21
  · have hd := hd.2 h_3
    refine lv_bipush (v := (-2 : Int32)) K.1 K.2.1 dX8_cell_7 (by decide) ?_
    exact rk_iret K hw hr hd dX8_cell_9
theorem dX8_copy_0 : decode cX8_copy 0 = .ok (.iload_n 1, 1) := by decide +kernel
theorem dX8_copy_1 : decode cX8_copy 1 = .ok (.invokestatic 413, 3) := by decide +kernel
theorem dX8_copy_4 : decode cX8_copy 4 = .ok (.ifCond .eq 10, 3) := by decide +kernel
theorem dX8_copy_7 : decode cX8_copy 7 = .ok (.iload_n 3, 1) := by decide +kernel
theorem dX8_copy_8 : decode cX8_copy 8 = .ok (.invokestatic 413, 3) := by decide +kernel
theorem dX8_copy_11 : decode cX8_copy 11 = .ok (.ifCond .ne 6, 3) := by decide +kernel
theorem dX8_copy_14 : decode cX8_copy 14 = .ok (.bipush (-2), 2) := by decide +kernel
theorem dX8_copy_16 : decode cX8_copy 16 = .ok (.ireturn, 1) := by decide +kernel
theorem dX8_copy_17 : decode cX8_copy 17 = .ok (.aload_n 0, 1) := by decide +kernel
theorem dX8_copy_18 : decode cX8_copy 18 = .ok (.getfield 44, 3) := by decide +kernel
theorem dX8_copy_21 : decode cX8_copy 21 = .ok (.iload_n 1, 1) := by decide +kernel
theorem dX8_copy_22 : decode cX8_copy 22 = .ok (.baload, 1) := by decide +kernel
theorem dX8_copy_23 : decode cX8_copy 23 = .ok (.ifCond .eq 12, 3) := by decide +kernel
theorem dX8_copy_26 : decode cX8_copy 26 = .ok (.aload_n 0, 1) := by decide +kernel
theorem dX8_copy_27 : decode cX8_copy 27 = .ok (.getfield 44, 3) := by decide +kernel
theorem dX8_copy_30 : decode cX8_copy 30 = .ok (.iload_n 3, 1) := by decide +kernel
theorem dX8_copy_31 : decode cX8_copy 31 = .ok (.baload, 1) := by decide +kernel
theorem dX8_copy_32 : decode cX8_copy 32 = .ok (.ifCond .ne 6, 3) := by decide +kernel
theorem dX8_copy_35 : decode cX8_copy 35 = .ok (.bipush (-11), 2) := by decide +kernel
theorem dX8_copy_37 : decode cX8_copy 37 = .ok (.ireturn, 1) := by decide +kernel
theorem dX8_copy_38 : decode cX8_copy 38 = .ok (.aload_n 0, 1) := by decide +kernel
theorem dX8_copy_39 : decode cX8_copy 39 = .ok (.getfield 48, 3) := by decide +kernel
theorem dX8_copy_42 : decode cX8_copy 42 = .ok (.iload_n 1, 1) := by decide +kernel
theorem dX8_copy_43 : decode cX8_copy 43 = .ok (.iaload, 1) := by decide +kernel
theorem dX8_copy_44 : decode cX8_copy 44 = .ok (.aload_n 0, 1) := by decide +kernel
theorem dX8_copy_45 : decode cX8_copy 45 = .ok (.getfield 48, 3) := by decide +kernel
theorem dX8_copy_48 : decode cX8_copy 48 = .ok (.iload_n 3, 1) := by decide +kernel
theorem dX8_copy_49 : decode cX8_copy 49 = .ok (.iaload, 1) := by decide +kernel
theorem dX8_copy_50 : decode cX8_copy 50 = .ok (.if_icmp .eq 6, 3) := by decide +kernel
theorem dX8_copy_53 : decode cX8_copy 53 = .ok (.bipush (-13), 2) := by decide +kernel
theorem dX8_copy_55 : decode cX8_copy 55 = .ok (.ireturn, 1) := by decide +kernel
theorem dX8_copy_56 : decode cX8_copy 56 = .ok (.iload 5, 2) := by decide +kernel
theorem dX8_copy_58 : decode cX8_copy 58 = .ok (.ifCond .lt 39, 3) := by decide +kernel
theorem dX8_copy_61 : decode cX8_copy 61 = .ok (.iload_n 2, 1) := by decide +kernel
theorem dX8_copy_62 : decode cX8_copy 62 = .ok (.ifCond .lt 35, 3) := by decide +kernel
theorem dX8_copy_65 : decode cX8_copy 65 = .ok (.iload 4, 2) := by decide +kernel
theorem dX8_copy_67 : decode cX8_copy 67 = .ok (.ifCond .lt 30, 3) := by decide +kernel
theorem dX8_copy_70 : decode cX8_copy 70 = .ok (.iload_n 2, 1) := by decide +kernel
theorem dX8_copy_71 : decode cX8_copy 71 = .ok (.aload_n 0, 1) := by decide +kernel
theorem dX8_copy_72 : decode cX8_copy 72 = .ok (.getfield 51, 3) := by decide +kernel
theorem dX8_copy_75 : decode cX8_copy 75 = .ok (.iload_n 1, 1) := by decide +kernel
theorem dX8_copy_76 : decode cX8_copy 76 = .ok (.iaload, 1) := by decide +kernel
theorem dX8_copy_77 : decode cX8_copy 77 = .ok (.iload 5, 2) := by decide +kernel
theorem dX8_copy_79 : decode cX8_copy 79 = .ok (.isub, 1) := by decide +kernel
theorem dX8_copy_80 : decode cX8_copy 80 = .ok (.if_icmp .gt 17, 3) := by decide +kernel
theorem dX8_copy_83 : decode cX8_copy 83 = .ok (.iload 4, 2) := by decide +kernel
theorem dX8_copy_85 : decode cX8_copy 85 = .ok (.aload_n 0, 1) := by decide +kernel
theorem dX8_copy_86 : decode cX8_copy 86 = .ok (.getfield 51, 3) := by decide +kernel
theorem dX8_copy_89 : decode cX8_copy 89 = .ok (.iload_n 3, 1) := by decide +kernel
theorem dX8_copy_90 : decode cX8_copy 90 = .ok (.iaload, 1) := by decide +kernel
theorem dX8_copy_91 : decode cX8_copy 91 = .ok (.iload 5, 2) := by decide +kernel
theorem dX8_copy_93 : decode cX8_copy 93 = .ok (.isub, 1) := by decide +kernel
theorem dX8_copy_94 : decode cX8_copy 94 = .ok (.if_icmp .le 6, 3) := by decide +kernel
theorem dX8_copy_97 : decode cX8_copy 97 = .ok (.bipush (-12), 2) := by decide +kernel
theorem dX8_copy_99 : decode cX8_copy 99 = .ok (.ireturn, 1) := by decide +kernel
theorem dX8_copy_100 : decode cX8_copy 100 = .ok (.iload_n 1, 1) := by decide +kernel
theorem dX8_copy_101 : decode cX8_copy 101 = .ok (.iload_n 3, 1) := by decide +kernel
theorem dX8_copy_102 : decode cX8_copy 102 = .ok (.if_icmp .ne 13, 3) := by decide +kernel
theorem dX8_copy_105 : decode cX8_copy 105 = .ok (.iload_n 2, 1) := by decide +kernel
theorem dX8_copy_106 : decode cX8_copy 106 = .ok (.iload 4, 2) := by decide +kernel
theorem dX8_copy_108 : decode cX8_copy 108 = .ok (.if_icmp .ge 7, 3) := by decide +kernel
theorem dX8_copy_111 : decode cX8_copy 111 = .ok (.iconst 1, 1) := by decide +kernel
theorem dX8_copy_112 : decode cX8_copy 112 = .ok (.goto 4, 3) := by decide +kernel
theorem dX8_copy_115 : decode cX8_copy 115 = .ok (.iconst 0, 1) := by decide +kernel
theorem dX8_copy_116 : decode cX8_copy 116 = .ok (.istore 6, 2) := by decide +kernel
theorem dX8_copy_118 : decode cX8_copy 118 = .ok (.iconst 0, 1) := by decide +kernel
theorem dX8_copy_119 : decode cX8_copy 119 = .ok (.istore 7, 2) := by decide +kernel
theorem dX8_copy_121 : decode cX8_copy 121 = .ok (.iload 7, 2) := by decide +kernel
theorem dX8_copy_123 : decode cX8_copy 123 = .ok (.iload 5, 2) := by decide +kernel
theorem dX8_copy_125 : decode cX8_copy 125 = .ok (.if_icmp .ge 57, 3) := by decide +kernel
theorem dX8_copy_128 : decode cX8_copy 128 = .ok (.iload 6, 2) := by decide +kernel
theorem dX8_copy_130 : decode cX8_copy 130 = .ok (.ifCond .eq 13, 3) := by decide +kernel
theorem dX8_copy_133 : decode cX8_copy 133 = .ok (.iload 5, 2) := by decide +kernel
theorem dX8_copy_135 : decode cX8_copy 135 = .ok (.iconst 1, 1) := by decide +kernel
theorem dX8_copy_136 : decode cX8_copy 136 = .ok (.isub, 1) := by decide +kernel
theorem dX8_copy_137 : decode cX8_copy 137 = .ok (.iload 7, 2) := by decide +kernel
theorem dX8_copy_139 : decode cX8_copy 139 = .ok (.isub, 1) := by decide +kernel
theorem dX8_copy_140 : decode cX8_copy 140 = .ok (.goto 5, 3) := by decide +kernel
theorem dX8_copy_143 : decode cX8_copy 143 = .ok (.iload 7, 2) := by decide +kernel
theorem dX8_copy_145 : decode cX8_copy 145 = .ok (.istore 8, 2) := by decide +kernel
theorem dX8_copy_147 : decode cX8_copy 147 = .ok (.aload_n 0, 1) := by decide +kernel
theorem dX8_copy_148 : decode cX8_copy 148 = .ok (.getfield 54, 3) := by decide +kernel
theorem dX8_copy_151 : decode cX8_copy 151 = .ok (.bipush 40, 2) := by decide +kernel
theorem dX8_copy_153 : decode cX8_copy 153 = .ok (.iload_n 3, 1) := by decide +kernel
theorem dX8_copy_154 : decode cX8_copy 154 = .ok (.imul, 1) := by decide +kernel
theorem dX8_copy_155 : decode cX8_copy 155 = .ok (.iload 4, 2) := by decide +kernel
theorem dX8_copy_157 : decode cX8_copy 157 = .ok (.iadd, 1) := by decide +kernel
theorem dX8_copy_158 : decode cX8_copy 158 = .ok (.iload 8, 2) := by decide +kernel
theorem dX8_copy_160 : decode cX8_copy 160 = .ok (.iadd, 1) := by decide +kernel
theorem dX8_copy_161 : decode cX8_copy 161 = .ok (.aload_n 0, 1) := by decide +kernel
theorem dX8_copy_162 : decode cX8_copy 162 = .ok (.getfield 54, 3) := by decide +kernel
theorem dX8_copy_165 : decode cX8_copy 165 = .ok (.bipush 40, 2) := by decide +kernel
theorem dX8_copy_167 : decode cX8_copy 167 = .ok (.iload_n 1, 1) := by decide +kernel
theorem dX8_copy_168 : decode cX8_copy 168 = .ok (.imul, 1) := by decide +kernel
theorem dX8_copy_169 : decode cX8_copy 169 = .ok (.iload_n 2, 1) := by decide +kernel
theorem dX8_copy_170 : decode cX8_copy 170 = .ok (.iadd, 1) := by decide +kernel
theorem dX8_copy_171 : decode cX8_copy 171 = .ok (.iload 8, 2) := by decide +kernel
theorem dX8_copy_173 : decode cX8_copy 173 = .ok (.iadd, 1) := by decide +kernel
theorem dX8_copy_174 : decode cX8_copy 174 = .ok (.iaload, 1) := by decide +kernel
theorem dX8_copy_175 : decode cX8_copy 175 = .ok (.iastore, 1) := by decide +kernel
theorem dX8_copy_176 : decode cX8_copy 176 = .ok (.iinc 7 1, 3) := by decide +kernel
theorem dX8_copy_179 : decode cX8_copy 179 = .ok (.goto (-58), 3) := by decide +kernel
theorem dX8_copy_182 : decode cX8_copy 182 = .ok (.iload 5, 2) := by decide +kernel
theorem dX8_copy_184 : decode cX8_copy 184 = .ok (.ireturn, 1) := by decide +kernel
set_option maxHeartbeats 4000000 in
set_option maxRecDepth 100000 in
theorem bb_X8_copy_145 {p : Program} {l : Launch} {e : Env} {s : State} {m : MethodId} {args : Array Value} {below : List Frame} {meth : Method} {c : Code} {D : va_G} {cy : Nat → ClassId} {ad : Nat → Nat} {A : Nat → Prop} {Q : Int32 → Sg → Prop} (K : Kx p s m args meth c cX8_copy 9 RX8 D cy) (hr : meth.sig.returnType = (some .int)) {rc121 : Int32 → Int32 → Int32 → Int32 → Int32 → Int32 → Int32 → Sg → Prop} (hrc121 : ∀ (x1 : Int32) (x2 : Int32) (x3 : Int32) (x4 : Int32) (x5 : Int32) (x6 : Int32) (x7 : Int32) (u : Sg) (H : Heap) (locs : List Loc) (ls : Array Slot), rc121 x1 x2 x3 x4 x5 x6 x7 u → Wd D A s.heap (wsM cy ad u) H locs → lv_has ls 9 [(0, .ref (ad 0)), (1, .int x1), (2, .int x2), (3, .int x3), (4, .int x4), (5, .int x5), (6, .int x6), (7, .int x7)] → W p l e (rmD 2) s m args below meth c H locs 0 0 (MQ below (va_Qi Q (PostG (wsM cy ad) D A) A) args s 0 0 A) (F0 m 121 ls [])) (x1 : Int32) (x2 : Int32) (x3 : Int32) (x4 : Int32) (x5 : Int32) (x6 : Int32) (x7 : Int32) (t0 : Int32) (g0 : Sg) (H : Heap) (locs : List Loc) (ls : Array Slot) (hd : vv_X8_copy_J145 rc121 x1 x2 x3 x4 x5 x6 x7 t0 g0 Q) (hw : Wd D A s.heap (wsM cy ad g0) H locs) (hl : lv_has ls 9 [(0, .ref (ad 0)), (1, .int x1), (2, .int x2), (3, .int x3), (4, .int x4), (5, .int x5), (6, .int x6), (7, .int x7)]) : W p l e (rmD 2) s m args below meth c H locs 0 0 (MQ below (va_Qi Q (PostG (wsM cy ad) D A) A) args s 0 0 A) (F0 m 145 ls [.int t0]) := by
  unfold vv_X8_copy_J145 at hd
  refine lv_topi (fun x8_20 ex8_20 => ?_)
  have hd := hd x8_20 ex8_20
  refine lv_istore (lv' := [(8, .int x8_20), (0, .ref (ad 0)), (1, .int x1), (2, .int x2), (3, .int x3), (4, .int x4), (5, .int x5), (6, .int x6), (7, .int x7)]) K.1 K.2.1 dX8_copy_145 hl (by decide) rfl (fun ls hl => ?_)
  refine lv_aload_n K.1 K.2.1 dX8_copy_147 rfl (lv_at hl 1 rfl) ?_
  refine rm_get 39 K hw (by decide) kf_X8_54 rfl dX8_copy_148 ?_
  refine lv_bipush (v := (40 : Int32)) K.1 K.2.1 dX8_copy_151 (by decide) ?_
  refine lv_iload_n K.1 K.2.1 dX8_copy_153 rfl (lv_at hl 4 rfl) ?_
  refine lv_imul K.1 K.2.1 dX8_copy_154 ?_
  refine lv_iload K.1 K.2.1 dX8_copy_155 (lv_at hl 5 rfl) ?_
  refine lv_iadd K.1 K.2.1 dX8_copy_157 ?_
  refine lv_iload K.1 K.2.1 dX8_copy_158 (lv_at hl 0 rfl) ?_
  refine lv_iadd K.1 K.2.1 dX8_copy_160 ?_
  refine lv_aload_n K.1 K.2.1 dX8_copy_161 rfl (lv_at hl 1 rfl) ?_
  refine rm_get 39 K hw (by decide) kf_X8_54 rfl dX8_copy_162 ?_
  refine lv_bipush (v := (40 : Int32)) K.1 K.2.1 dX8_copy_165 (by decide) ?_
  refine lv_iload_n K.1 K.2.1 dX8_copy_167 rfl (lv_at hl 2 rfl) ?_
  refine lv_imul K.1 K.2.1 dX8_copy_168 ?_
  refine lv_iload_n K.1 K.2.1 dX8_copy_169 rfl (lv_at hl 3 rfl) ?_
  refine lv_iadd K.1 K.2.1 dX8_copy_170 ?_
  refine lv_iload K.1 K.2.1 dX8_copy_171 (lv_at hl 0 rfl) ?_
  refine lv_iadd K.1 K.2.1 dX8_copy_173 ?_
  have hb := hd.1
  have hd := hd.2
  refine rm_iald 12 K hw (by decide) hb dX8_copy_174 ?_
  have hb := hd.1
  have hd := hd.2
  refine rm_iast 12 K hw (by decide) hb dX8_copy_175 (fun g_21 eg_21 H locs hw => ?_)
  have hd := hd g_21 eg_21
  obtain ⟨x7_22, ex7_22⟩ : ∃ y : Int32, y = x7 + (1 : Int32) := ⟨_, rfl⟩
  have hd := hd x7_22 ex7_22
  refine lv_iinc (v := x7_22) (lv' := [(7, .int x7_22), (8, .int x8_20), (0, .ref (ad 0)), (1, .int x1), (2, .int x2), (3, .int x3), (4, .int x4), (5, .int x5), (6, .int x6)]) K.1 K.2.1 dX8_copy_176 hl (k := 8) rfl (by rw [ex7_22]; rfl) (by decide) rfl (fun ls hl => ?_)
  refine lv_goto (tgt := 121) K.1 K.2.1 dX8_copy_179 (by decide) ?_
  exact hrc121 x1 x2 x3 x4 x5 x6 x7_22 g_21 _ _ _ hd hw (lv_sub hl [2, 3, 4, 5, 6, 7, 8, 0] rfl)
set_option maxHeartbeats 4000000 in
set_option maxRecDepth 100000 in
theorem bb_X8_copy_121 {p : Program} {l : Launch} {e : Env} {s : State} {m : MethodId} {args : Array Value} {below : List Frame} {meth : Method} {c : Code} {D : va_G} {cy : Nat → ClassId} {ad : Nat → Nat} {A : Nat → Prop} {Q : Int32 → Sg → Prop} (K : Kx p s m args meth c cX8_copy 9 RX8 D cy) (hr : meth.sig.returnType = (some .int)) : ∀ (n : Nat) (x1 : Int32) (x2 : Int32) (x3 : Int32) (x4 : Int32) (x5 : Int32) (x6 : Int32) (x7 : Int32)  (g0 : Sg) (H : Heap) (locs : List Loc) (ls : Array Slot), vv_X8_copy_L121 Q n x1 x2 x3 x4 x5 x6 x7 g0 → Wd D A s.heap (wsM cy ad g0) H locs → lv_has ls 9 [(0, .ref (ad 0)), (1, .int x1), (2, .int x2), (3, .int x3), (4, .int x4), (5, .int x5), (6, .int x6), (7, .int x7)] → W p l e (rmD 2) s m args below meth c H locs 0 0 (MQ below (va_Qi Q (PostG (wsM cy ad) D A) A) args s 0 0 A) (F0 m 121 ls []) := by
  intro n
  induction n with
  | zero => intro _ _ _ _ _ _ _ _ _ _ _ hd; exact hd.elim
  | succ n ih =>
    intro x1 x2 x3 x4 x5 x6 x7 g0 H locs ls hd hw hl
    unfold vv_X8_copy_L121 at hd
    refine lv_iload K.1 K.2.1 dX8_copy_121 (lv_at hl 7 rfl) ?_
    refine lv_iload K.1 K.2.1 dX8_copy_123 (lv_at hl 5 rfl) ?_
    refine lv_icmp_ge (tgt := 182) K.1 K.2.1 dX8_copy_125 (by decide) (fun h_18 => ?_) (fun h_18 => ?_)
    · have hd := hd.1 h_18
      refine lv_iload K.1 K.2.1 dX8_copy_182 (lv_at hl 5 rfl) ?_
      exact rk_iret K hw hr hd dX8_copy_184
    · have hd := hd.2 h_18
      refine lv_iload K.1 K.2.1 dX8_copy_128 (lv_at hl 6 rfl) ?_
      refine lv_if_eq (tgt := 143) K.1 K.2.1 dX8_copy_130 (by decide) (fun h_19 => ?_) (fun h_19 => ?_)
      · have hd := hd.1 h_19
        refine lv_iload K.1 K.2.1 dX8_copy_143 (lv_at hl 7 rfl) ?_
        exact bb_X8_copy_145 K hr ih x1 x2 x3 x4 x5 x6 x7 x7 g0 _ _ _ hd hw (lv_sub hl [0, 1, 2, 3, 4, 5, 6, 7] rfl)
      · have hd := hd.2 h_19
        refine lv_iload K.1 K.2.1 dX8_copy_133 (lv_at hl 5 rfl) ?_
        refine lv_iconst (v := (1 : Int32)) K.1 K.2.1 dX8_copy_135 (by decide) ?_
        refine lv_isub K.1 K.2.1 dX8_copy_136 ?_
        refine lv_iload K.1 K.2.1 dX8_copy_137 (lv_at hl 7 rfl) ?_
        refine lv_isub K.1 K.2.1 dX8_copy_139 ?_
        refine lv_goto (tgt := 145) K.1 K.2.1 dX8_copy_140 (by decide) ?_
        exact bb_X8_copy_145 K hr ih x1 x2 x3 x4 x5 x6 x7 ((x5 - (1 : Int32)) - x7) g0 _ _ _ hd hw (lv_sub hl [0, 1, 2, 3, 4, 5, 6, 7] rfl)
set_option maxHeartbeats 4000000 in
set_option maxRecDepth 100000 in
theorem bb_X8_copy_116 {p : Program} {l : Launch} {e : Env} {s : State} {m : MethodId} {args : Array Value} {below : List Frame} {meth : Method} {c : Code} {D : va_G} {cy : Nat → ClassId} {ad : Nat → Nat} {A : Nat → Prop} {Q : Int32 → Sg → Prop} (K : Kx p s m args meth c cX8_copy 9 RX8 D cy) (hr : meth.sig.returnType = (some .int)) (x1 : Int32) (x2 : Int32) (x3 : Int32) (x4 : Int32) (x5 : Int32) (t0 : Int32) (g0 : Sg) (H : Heap) (locs : List Loc) (ls : Array Slot) (hd : vv_X8_copy_J116 x1 x2 x3 x4 x5 t0 g0 Q) (hw : Wd D A s.heap (wsM cy ad g0) H locs) (hl : lv_has ls 9 [(0, .ref (ad 0)), (1, .int x1), (2, .int x2), (3, .int x3), (4, .int x4), (5, .int x5)]) : W p l e (rmD 2) s m args below meth c H locs 0 0 (MQ below (va_Qi Q (PostG (wsM cy ad) D A) A) args s 0 0 A) (F0 m 116 ls [.int t0]) := by
  unfold vv_X8_copy_J116 at hd
  refine lv_topi (fun x6_16 ex6_16 => ?_)
  have hd := hd x6_16 ex6_16
  refine lv_istore (lv' := [(6, .int x6_16), (0, .ref (ad 0)), (1, .int x1), (2, .int x2), (3, .int x3), (4, .int x4), (5, .int x5)]) K.1 K.2.1 dX8_copy_116 hl (by decide) rfl (fun ls hl => ?_)
  refine lv_iconst (v := (0 : Int32)) K.1 K.2.1 dX8_copy_118 (by decide) ?_
  refine lv_topi (fun x7_17 ex7_17 => ?_)
  have hd := hd x7_17 ex7_17
  refine lv_istore (lv' := [(7, .int x7_17), (6, .int x6_16), (0, .ref (ad 0)), (1, .int x1), (2, .int x2), (3, .int x3), (4, .int x4), (5, .int x5)]) K.1 K.2.1 dX8_copy_119 hl (by decide) rfl (fun ls hl => ?_)
  obtain ⟨n9, hd⟩ := hd
  exact bb_X8_copy_121 K hr  n9 x1 x2 x3 x4 x5 x6_16 x7_17 g0 _ _ _ hd hw (lv_sub hl [2, 3, 4, 5, 6, 7, 1, 0] rfl)
set_option maxHeartbeats 4000000 in
set_option maxRecDepth 100000 in
theorem bb_X8_copy_115 {p : Program} {l : Launch} {e : Env} {s : State} {m : MethodId} {args : Array Value} {below : List Frame} {meth : Method} {c : Code} {D : va_G} {cy : Nat → ClassId} {ad : Nat → Nat} {A : Nat → Prop} {Q : Int32 → Sg → Prop} (K : Kx p s m args meth c cX8_copy 9 RX8 D cy) (hr : meth.sig.returnType = (some .int)) (x1 : Int32) (x2 : Int32) (x3 : Int32) (x4 : Int32) (x5 : Int32)  (g0 : Sg) (H : Heap) (locs : List Loc) (ls : Array Slot) (hd : vv_X8_copy_J115 x1 x2 x3 x4 x5 g0 Q) (hw : Wd D A s.heap (wsM cy ad g0) H locs) (hl : lv_has ls 9 [(0, .ref (ad 0)), (1, .int x1), (2, .int x2), (3, .int x3), (4, .int x4), (5, .int x5)]) : W p l e (rmD 2) s m args below meth c H locs 0 0 (MQ below (va_Qi Q (PostG (wsM cy ad) D A) A) args s 0 0 A) (F0 m 115 ls []) := by
  unfold vv_X8_copy_J115 at hd
  refine lv_iconst (v := (0 : Int32)) K.1 K.2.1 dX8_copy_115 (by decide) ?_
  exact bb_X8_copy_116 K hr  x1 x2 x3 x4 x5 (0 : Int32) g0 _ _ _ hd hw (lv_sub hl [0, 1, 2, 3, 4, 5] rfl)
set_option maxHeartbeats 4000000 in
set_option maxRecDepth 100000 in
theorem cc_X8_copy (l : Launch) (D : va_G) (cy : Nat → ClassId) (ad : Nat → Nat) (A : Nat → Prop) (g0 : Sg) (Q : Int32 → Sg → Prop) (x1 : Int32) (x2 : Int32) (x3 : Int32) (x4 : Int32) (x5 : Int32) (hd : vv_X8_copy x1 x2 x3 x4 x5 g0 Q) : Met l yX8_copy (Cond.code yX8_copy cX8_copy 9 (some .int) :: TT) (rmD 2) (va_Pc [.ref (ad 0), .int x1, .int x2, .int x3, .int x4, .int x5] (PreG (wsM cy ad) D cy A g0)) (va_Qi Q (PostG (wsM cy ad) D A) A) 0 0 A := by
  unfold vv_X8_copy at hd
  refine Met.ofW (cc := cX8_copy) (maxL := 9) (ret := (some .int)) (by decide) rfl ?_
  intro p e s m args below meth c s₁ B hml hv
  obtain ⟨rfl, hP, hK0, hD⟩ := hv
  have K : Kx p s m _ meth c cX8_copy 9 RX8 D cy := ⟨B.exec, B.bytes, hml, findClass_of_methodNamed B.named, fun w h => atoms_spec (ws := Cond.code yX8_copy cX8_copy 9 (some .int) :: TT) B.pre w (List.mem_cons_of_mem _ h), hK0, B.notSynchronized⟩
  have hw : Wd D A s.heap (wsM cy ad g0) s.heap [] := ⟨hP, hD, va_S.rf⟩
  have hr := B.returns
  have hl := lv_entry ([.ref (ad 0), .int x1, .int x2, .int x3, .int x4, .int x5]) (n := 9) (Nat.le_of_ble_eq_true rfl)
  rw [lg_entry_eq]
  generalize (lg_sl ([.ref (ad 0), .int x1, .int x2, .int x3, .int x4, .int x5]) ++ List.replicate (9 - (lg_sl ([.ref (ad 0), .int x1, .int x2, .int x3, .int x4, .int x5])).length) Slot.unset).toArray = ls at hl ⊢
  have hl : lv_has ls 9 [(0, .ref (ad 0)), (1, .int x1), (2, .int x2), (3, .int x3), (4, .int x4), (5, .int x5)] := hl
  refine lv_iload_n K.1 K.2.1 dX8_copy_0 rfl (lv_at hl 1 rfl) ?_
  refine rk_si (As := [.int x1]) (rest := []) K hw (cc_X8_isSheet l D cy ad A g0 _ x1 hd) lk_X8_413 ⟨Nat.le_of_ble_eq_true rfl, Nat.le_of_ble_eq_true rfl⟩ ⟨Nat.zero_le _, Nat.zero_le _⟩ rfl hl.1 (Nat.le_of_ble_eq_true rfl) rfl dX8_copy_1 (fun r_2 g_1 H locs hd hw => ?_)
  refine lv_if_eq (tgt := 14) K.1 K.2.1 dX8_copy_4 (by decide) (fun h_3 => ?_) (fun h_3 => ?_)
  · have hd := hd.1 h_3
    refine lv_bipush (v := (-2 : Int32)) K.1 K.2.1 dX8_copy_14 (by decide) ?_
    exact rk_iret K hw hr hd dX8_copy_16
  · have hd := hd.2 h_3
    refine lv_iload_n K.1 K.2.1 dX8_copy_7 rfl (lv_at hl 3 rfl) ?_
    refine rk_si (As := [.int x3]) (rest := []) K hw (cc_X8_isSheet l D cy ad A g_1 _ x3 hd) lk_X8_413 ⟨Nat.le_of_ble_eq_true rfl, Nat.le_of_ble_eq_true rfl⟩ ⟨Nat.zero_le _, Nat.zero_le _⟩ rfl hl.1 (Nat.le_of_ble_eq_true rfl) rfl dX8_copy_8 (fun r_5 g_4 H locs hd hw => ?_)
    refine lv_if_ne (tgt := 17) K.1 K.2.1 dX8_copy_11 (by decide) (fun h_6 => ?_) (fun h_6 => ?_)
    · have hd := hd.1 h_6
      refine lv_aload_n K.1 K.2.1 dX8_copy_17 rfl (lv_at hl 0 rfl) ?_
      refine rm_get 36 K hw (by decide) kf_X8_44 rfl dX8_copy_18 ?_
      refine lv_iload_n K.1 K.2.1 dX8_copy_21 rfl (lv_at hl 1 rfl) ?_
      have hb := hd.1
      have hd := hd.2
      refine rm_zald K hw hb dX8_copy_22 ?_
      refine lv_if_eq (tgt := 35) K.1 K.2.1 dX8_copy_23 (by decide) (fun h_7 => ?_) (fun h_7 => ?_)
      · have hd := hd.1 h_7
        refine lv_bipush (v := (-11 : Int32)) K.1 K.2.1 dX8_copy_35 (by decide) ?_
        exact rk_iret K hw hr hd dX8_copy_37
      · have hd := hd.2 h_7
        refine lv_aload_n K.1 K.2.1 dX8_copy_26 rfl (lv_at hl 0 rfl) ?_
        refine rm_get 36 K hw (by decide) kf_X8_44 rfl dX8_copy_27 ?_
        refine lv_iload_n K.1 K.2.1 dX8_copy_30 rfl (lv_at hl 3 rfl) ?_
        have hb := hd.1
        have hd := hd.2
        refine rm_zald K hw hb dX8_copy_31 ?_
        refine lv_if_ne (tgt := 38) K.1 K.2.1 dX8_copy_32 (by decide) (fun h_8 => ?_) (fun h_8 => ?_)
        · have hd := hd.1 h_8
          refine lv_aload_n K.1 K.2.1 dX8_copy_38 rfl (lv_at hl 0 rfl) ?_
          refine rm_get 37 K hw (by decide) kf_X8_48 rfl dX8_copy_39 ?_
          refine lv_iload_n K.1 K.2.1 dX8_copy_42 rfl (lv_at hl 1 rfl) ?_
          have hb := hd.1
          have hd := hd.2
          refine rm_iald 10 K hw (by decide) hb dX8_copy_43 ?_
          refine lv_aload_n K.1 K.2.1 dX8_copy_44 rfl (lv_at hl 0 rfl) ?_
          refine rm_get 37 K hw (by decide) kf_X8_48 rfl dX8_copy_45 ?_
          refine lv_iload_n K.1 K.2.1 dX8_copy_48 rfl (lv_at hl 3 rfl) ?_
          have hb := hd.1
          have hd := hd.2
          refine rm_iald 10 K hw (by decide) hb dX8_copy_49 ?_
          refine lv_icmp_eq (tgt := 56) K.1 K.2.1 dX8_copy_50 (by decide) (fun h_9 => ?_) (fun h_9 => ?_)
          · have hd := hd.1 h_9
            refine lv_iload K.1 K.2.1 dX8_copy_56 (lv_at hl 5 rfl) ?_
            refine lv_if_lt (tgt := 97) K.1 K.2.1 dX8_copy_58 (by decide) (fun h_10 => ?_) (fun h_10 => ?_)
            · have hd := hd.1 h_10
              refine lv_bipush (v := (-12 : Int32)) K.1 K.2.1 dX8_copy_97 (by decide) ?_
              exact rk_iret K hw hr hd dX8_copy_99
            · have hd := hd.2 h_10
              refine lv_iload_n K.1 K.2.1 dX8_copy_61 rfl (lv_at hl 2 rfl) ?_
              refine lv_if_lt (tgt := 97) K.1 K.2.1 dX8_copy_62 (by decide) (fun h_11 => ?_) (fun h_11 => ?_)
              · have hd := hd.1 h_11
                refine lv_bipush (v := (-12 : Int32)) K.1 K.2.1 dX8_copy_97 (by decide) ?_
                exact rk_iret K hw hr hd dX8_copy_99
              · have hd := hd.2 h_11
                refine lv_iload K.1 K.2.1 dX8_copy_65 (lv_at hl 4 rfl) ?_
                refine lv_if_lt (tgt := 97) K.1 K.2.1 dX8_copy_67 (by decide) (fun h_12 => ?_) (fun h_12 => ?_)
                · have hd := hd.1 h_12
                  refine lv_bipush (v := (-12 : Int32)) K.1 K.2.1 dX8_copy_97 (by decide) ?_
                  exact rk_iret K hw hr hd dX8_copy_99
                · have hd := hd.2 h_12
                  refine lv_iload_n K.1 K.2.1 dX8_copy_70 rfl (lv_at hl 2 rfl) ?_
                  refine lv_aload_n K.1 K.2.1 dX8_copy_71 rfl (lv_at hl 0 rfl) ?_
                  refine rm_get 38 K hw (by decide) kf_X8_51 rfl dX8_copy_72 ?_
                  refine lv_iload_n K.1 K.2.1 dX8_copy_75 rfl (lv_at hl 1 rfl) ?_
                  have hb := hd.1
                  have hd := hd.2
                  refine rm_iald 11 K hw (by decide) hb dX8_copy_76 ?_
                  refine lv_iload K.1 K.2.1 dX8_copy_77 (lv_at hl 5 rfl) ?_
                  refine lv_isub K.1 K.2.1 dX8_copy_79 ?_
                  refine lv_icmp_gt (tgt := 97) K.1 K.2.1 dX8_copy_80 (by decide) (fun h_13 => ?_) (fun h_13 => ?_)
                  · have hd := hd.1 h_13
                    refine lv_bipush (v := (-12 : Int32)) K.1 K.2.1 dX8_copy_97 (by decide) ?_
                    exact rk_iret K hw hr hd dX8_copy_99
                  · have hd := hd.2 h_13
                    refine lv_iload K.1 K.2.1 dX8_copy_83 (lv_at hl 4 rfl) ?_
                    refine lv_aload_n K.1 K.2.1 dX8_copy_85 rfl (lv_at hl 0 rfl) ?_
                    refine rm_get 38 K hw (by decide) kf_X8_51 rfl dX8_copy_86 ?_
                    refine lv_iload_n K.1 K.2.1 dX8_copy_89 rfl (lv_at hl 3 rfl) ?_
                    have hb := hd.1
                    have hd := hd.2
                    refine rm_iald 11 K hw (by decide) hb dX8_copy_90 ?_
                    refine lv_iload K.1 K.2.1 dX8_copy_91 (lv_at hl 5 rfl) ?_
                    refine lv_isub K.1 K.2.1 dX8_copy_93 ?_
                    refine lv_icmp_le (tgt := 100) K.1 K.2.1 dX8_copy_94 (by decide) (fun h_14 => ?_) (fun h_14 => ?_)
                    · have hd := hd.1 h_14
                      refine lv_iload_n K.1 K.2.1 dX8_copy_100 rfl (lv_at hl 1 rfl) ?_
                      refine lv_iload_n K.1 K.2.1 dX8_copy_101 rfl (lv_at hl 3 rfl) ?_
                      refine lv_icmp_ne (tgt := 115) K.1 K.2.1 dX8_copy_102 (by decide) (fun h_15 => ?_) (fun h_15 => ?_)
                      · have hd := hd.1 h_15
                        exact bb_X8_copy_115 K hr  x1 x2 x3 x4 x5 g_4 _ _ _ hd hw (lv_sub hl [0, 1, 2, 3, 4, 5] rfl)
                      · have hd := hd.2 h_15
                        refine lv_iload_n K.1 K.2.1 dX8_copy_105 rfl (lv_at hl 2 rfl) ?_
                        refine lv_iload K.1 K.2.1 dX8_copy_106 (lv_at hl 4 rfl) ?_
                        refine lv_icmp_ge (tgt := 115) K.1 K.2.1 dX8_copy_108 (by decide) (fun h_23 => ?_) (fun h_23 => ?_)
                        · have hd := hd.1 h_23
                          exact bb_X8_copy_115 K hr  x1 x2 x3 x4 x5 g_4 _ _ _ hd hw (lv_sub hl [0, 1, 2, 3, 4, 5] rfl)
                        · have hd := hd.2 h_23
                          refine lv_iconst (v := (1 : Int32)) K.1 K.2.1 dX8_copy_111 (by decide) ?_
                          refine lv_goto (tgt := 116) K.1 K.2.1 dX8_copy_112 (by decide) ?_
                          exact bb_X8_copy_116 K hr  x1 x2 x3 x4 x5 (1 : Int32) g_4 _ _ _ hd hw (lv_sub hl [0, 1, 2, 3, 4, 5] rfl)
                    · have hd := hd.2 h_14
                      refine lv_bipush (v := (-12 : Int32)) K.1 K.2.1 dX8_copy_97 (by decide) ?_
                      exact rk_iret K hw hr hd dX8_copy_99
          · have hd := hd.2 h_9
            refine lv_bipush (v := (-13 : Int32)) K.1 K.2.1 dX8_copy_53 (by decide) ?_
            exact rk_iret K hw hr hd dX8_copy_55
        · have hd := hd.2 h_8
          refine lv_bipush (v := (-11 : Int32)) K.1 K.2.1 dX8_copy_35 (by decide) ?_
          exact rk_iret K hw hr hd dX8_copy_37
    · have hd := hd.2 h_6
      refine lv_bipush (v := (-2 : Int32)) K.1 K.2.1 dX8_copy_14 (by decide) ?_
      exact rk_iret K hw hr hd dX8_copy_16
theorem dX8_papers_0 : decode cX8_papers 0 = .ok (.iload_n 1, 1) := by decide +kernel
theorem dX8_papers_1 : decode cX8_papers 1 = .ok (.invokestatic 413, 3) := by decide +kernel
theorem dX8_papers_4 : decode cX8_papers 4 = .ok (.ifCond .eq 28, 3) := by decide +kernel
theorem dX8_papers_7 : decode cX8_papers 7 = .ok (.iload_n 2, 1) := by decide +kernel
theorem dX8_papers_8 : decode cX8_papers 8 = .ok (.i2l, 1) := by decide +kernel
theorem dX8_papers_9 : decode cX8_papers 9 = .ok (.lconst 0, 1) := by decide +kernel
theorem dX8_papers_10 : decode cX8_papers 10 = .ok (.ldc2_w 360, 3) := by decide +kernel
theorem dX8_papers_13 : decode cX8_papers 13 = .ok (.invokestatic 67, 3) := by decide +kernel
theorem dX8_papers_16 : decode cX8_papers 16 = .ok (.ifCond .eq 16, 3) := by decide +kernel
theorem dX8_papers_19 : decode cX8_papers 19 = .ok (.iload 4, 2) := by decide +kernel
theorem dX8_papers_21 : decode cX8_papers 21 = .ok (.i2l, 1) := by decide +kernel
theorem dX8_papers_22 : decode cX8_papers 22 = .ok (.lconst 0, 1) := by decide +kernel
theorem dX8_papers_23 : decode cX8_papers 23 = .ok (.ldc2_w 373, 3) := by decide +kernel
theorem dX8_papers_26 : decode cX8_papers 26 = .ok (.invokestatic 67, 3) := by decide +kernel
theorem dX8_papers_29 : decode cX8_papers 29 = .ok (.ifCond .ne 6, 3) := by decide +kernel
theorem dX8_papers_32 : decode cX8_papers 32 = .ok (.bipush (-2), 2) := by decide +kernel
theorem dX8_papers_34 : decode cX8_papers 34 = .ok (.ireturn, 1) := by decide +kernel
theorem dX8_papers_35 : decode cX8_papers 35 = .ok (.aload_n 0, 1) := by decide +kernel
theorem dX8_papers_36 : decode cX8_papers 36 = .ok (.getfield 44, 3) := by decide +kernel
theorem dX8_papers_39 : decode cX8_papers 39 = .ok (.iload_n 1, 1) := by decide +kernel
theorem dX8_papers_40 : decode cX8_papers 40 = .ok (.baload, 1) := by decide +kernel
theorem dX8_papers_41 : decode cX8_papers 41 = .ok (.ifCond .eq 16, 3) := by decide +kernel
theorem dX8_papers_44 : decode cX8_papers 44 = .ok (.aload_n 0, 1) := by decide +kernel
theorem dX8_papers_45 : decode cX8_papers 45 = .ok (.getfield 48, 3) := by decide +kernel
theorem dX8_papers_48 : decode cX8_papers 48 = .ok (.iload_n 1, 1) := by decide +kernel
theorem dX8_papers_49 : decode cX8_papers 49 = .ok (.iaload, 1) := by decide +kernel
theorem dX8_papers_50 : decode cX8_papers 50 = .ok (.iload_n 2, 1) := by decide +kernel
theorem dX8_papers_51 : decode cX8_papers 51 = .ok (.if_icmp .eq 6, 3) := by decide +kernel
theorem dX8_papers_54 : decode cX8_papers 54 = .ok (.bipush (-13), 2) := by decide +kernel
theorem dX8_papers_56 : decode cX8_papers 56 = .ok (.ireturn, 1) := by decide +kernel
theorem dX8_papers_57 : decode cX8_papers 57 = .ok (.aload_n 0, 1) := by decide +kernel
theorem dX8_papers_58 : decode cX8_papers 58 = .ok (.getfield 44, 3) := by decide +kernel
theorem dX8_papers_61 : decode cX8_papers 61 = .ok (.iload_n 1, 1) := by decide +kernel
theorem dX8_papers_62 : decode cX8_papers 62 = .ok (.baload, 1) := by decide +kernel
theorem dX8_papers_63 : decode cX8_papers 63 = .ok (.ifCond .ne 6, 3) := by decide +kernel
theorem dX8_papers_66 : decode cX8_papers 66 = .ok (.bipush (-11), 2) := by decide +kernel
theorem dX8_papers_68 : decode cX8_papers 68 = .ok (.ireturn, 1) := by decide +kernel
theorem dX8_papers_69 : decode cX8_papers 69 = .ok (.iconst 0, 1) := by decide +kernel
theorem dX8_papers_70 : decode cX8_papers 70 = .ok (.istore 5, 2) := by decide +kernel
theorem dX8_papers_72 : decode cX8_papers 72 = .ok (.iconst 0, 1) := by decide +kernel
theorem dX8_papers_73 : decode cX8_papers 73 = .ok (.istore 6, 2) := by decide +kernel
theorem dX8_papers_75 : decode cX8_papers 75 = .ok (.iload 6, 2) := by decide +kernel
theorem dX8_papers_77 : decode cX8_papers 77 = .ok (.iload 4, 2) := by decide +kernel
theorem dX8_papers_79 : decode cX8_papers 79 = .ok (.if_icmp .ge 88, 3) := by decide +kernel
theorem dX8_papers_82 : decode cX8_papers 82 = .ok (.iload_n 3, 1) := by decide +kernel
theorem dX8_papers_83 : decode cX8_papers 83 = .ok (.ifCond .lt 20, 3) := by decide +kernel
theorem dX8_papers_86 : decode cX8_papers 86 = .ok (.iload_n 3, 1) := by decide +kernel
theorem dX8_papers_87 : decode cX8_papers 87 = .ok (.aload_n 0, 1) := by decide +kernel
theorem dX8_papers_88 : decode cX8_papers 88 = .ok (.getfield 51, 3) := by decide +kernel
theorem dX8_papers_91 : decode cX8_papers 91 = .ok (.iload_n 1, 1) := by decide +kernel
theorem dX8_papers_92 : decode cX8_papers 92 = .ok (.iaload, 1) := by decide +kernel
theorem dX8_papers_93 : decode cX8_papers 93 = .ok (.iconst 3, 1) := by decide +kernel
theorem dX8_papers_94 : decode cX8_papers 94 = .ok (.iload 6, 2) := by decide +kernel
theorem dX8_papers_96 : decode cX8_papers 96 = .ok (.imul, 1) := by decide +kernel
theorem dX8_papers_97 : decode cX8_papers 97 = .ok (.isub, 1) := by decide +kernel
theorem dX8_papers_98 : decode cX8_papers 98 = .ok (.iconst 3, 1) := by decide +kernel
theorem dX8_papers_99 : decode cX8_papers 99 = .ok (.isub, 1) := by decide +kernel
theorem dX8_papers_100 : decode cX8_papers 100 = .ok (.if_icmp .le 6, 3) := by decide +kernel
theorem dX8_papers_103 : decode cX8_papers 103 = .ok (.bipush (-12), 2) := by decide +kernel
theorem dX8_papers_105 : decode cX8_papers 105 = .ok (.ireturn, 1) := by decide +kernel
theorem dX8_papers_106 : decode cX8_papers 106 = .ok (.bipush 40, 2) := by decide +kernel
theorem dX8_papers_108 : decode cX8_papers 108 = .ok (.iload_n 1, 1) := by decide +kernel
theorem dX8_papers_109 : decode cX8_papers 109 = .ok (.imul, 1) := by decide +kernel
theorem dX8_papers_110 : decode cX8_papers 110 = .ok (.iload_n 3, 1) := by decide +kernel
theorem dX8_papers_111 : decode cX8_papers 111 = .ok (.iadd, 1) := by decide +kernel
theorem dX8_papers_112 : decode cX8_papers 112 = .ok (.iconst 3, 1) := by decide +kernel
theorem dX8_papers_113 : decode cX8_papers 113 = .ok (.iload 6, 2) := by decide +kernel
theorem dX8_papers_115 : decode cX8_papers 115 = .ok (.imul, 1) := by decide +kernel
theorem dX8_papers_116 : decode cX8_papers 116 = .ok (.iadd, 1) := by decide +kernel
theorem dX8_papers_117 : decode cX8_papers 117 = .ok (.istore 7, 2) := by decide +kernel
theorem dX8_papers_119 : decode cX8_papers 119 = .ok (.iload 5, 2) := by decide +kernel
theorem dX8_papers_121 : decode cX8_papers 121 = .ok (.aload_n 0, 1) := by decide +kernel
theorem dX8_papers_122 : decode cX8_papers 122 = .ok (.aload_n 0, 1) := by decide +kernel
theorem dX8_papers_123 : decode cX8_papers 123 = .ok (.getfield 54, 3) := by decide +kernel
theorem dX8_papers_126 : decode cX8_papers 126 = .ok (.iload 7, 2) := by decide +kernel
theorem dX8_papers_128 : decode cX8_papers 128 = .ok (.iaload, 1) := by decide +kernel
theorem dX8_papers_129 : decode cX8_papers 129 = .ok (.aload_n 0, 1) := by decide +kernel
theorem dX8_papers_130 : decode cX8_papers 130 = .ok (.getfield 54, 3) := by decide +kernel
theorem dX8_papers_133 : decode cX8_papers 133 = .ok (.iload 7, 2) := by decide +kernel
theorem dX8_papers_135 : decode cX8_papers 135 = .ok (.iconst 1, 1) := by decide +kernel
theorem dX8_papers_136 : decode cX8_papers 136 = .ok (.iadd, 1) := by decide +kernel
theorem dX8_papers_137 : decode cX8_papers 137 = .ok (.iaload, 1) := by decide +kernel
theorem dX8_papers_138 : decode cX8_papers 138 = .ok (.aload_n 0, 1) := by decide +kernel
theorem dX8_papers_139 : decode cX8_papers 139 = .ok (.getfield 54, 3) := by decide +kernel
theorem dX8_papers_142 : decode cX8_papers 142 = .ok (.iload 7, 2) := by decide +kernel
theorem dX8_papers_144 : decode cX8_papers 144 = .ok (.iconst 2, 1) := by decide +kernel
theorem dX8_papers_145 : decode cX8_papers 145 = .ok (.iadd, 1) := by decide +kernel
theorem dX8_papers_146 : decode cX8_papers 146 = .ok (.iaload, 1) := by decide +kernel
theorem dX8_papers_147 : decode cX8_papers 147 = .ok (.invokevirtual 439, 3) := by decide +kernel
theorem dX8_papers_150 : decode cX8_papers 150 = .ok (.ifCond .lt 7, 3) := by decide +kernel
theorem dX8_papers_153 : decode cX8_papers 153 = .ok (.iconst 1, 1) := by decide +kernel
theorem dX8_papers_154 : decode cX8_papers 154 = .ok (.goto 4, 3) := by decide +kernel
theorem dX8_papers_157 : decode cX8_papers 157 = .ok (.iconst 0, 1) := by decide +kernel
theorem dX8_papers_158 : decode cX8_papers 158 = .ok (.iadd, 1) := by decide +kernel
theorem dX8_papers_159 : decode cX8_papers 159 = .ok (.istore 5, 2) := by decide +kernel
theorem dX8_papers_161 : decode cX8_papers 161 = .ok (.iinc 6 1, 3) := by decide +kernel
theorem dX8_papers_164 : decode cX8_papers 164 = .ok (.goto (-89), 3) := by decide +kernel
theorem dX8_papers_167 : decode cX8_papers 167 = .ok (.iload 5, 2) := by decide +kernel
theorem dX8_papers_169 : decode cX8_papers 169 = .ok (.ireturn, 1) := by decide +kernel
set_option maxHeartbeats 4000000 in
set_option maxRecDepth 100000 in
theorem bb_X8_papers_158 {p : Program} {l : Launch} {e : Env} {s : State} {m : MethodId} {args : Array Value} {below : List Frame} {meth : Method} {c : Code} {D : va_G} {cy : Nat → ClassId} {ad : Nat → Nat} {A : Nat → Prop} {Q : Int32 → Sg → Prop} (K : Kx p s m args meth c cX8_papers 8 RX8 D cy) (hr : meth.sig.returnType = (some .int)) {rc75 : Int32 → Int32 → Int32 → Int32 → Int32 → Sg → Prop} (hrc75 : ∀ (x1 : Int32) (x3 : Int32) (x4 : Int32) (x5 : Int32) (x6 : Int32) (u : Sg) (H : Heap) (locs : List Loc) (ls : Array Slot), rc75 x1 x3 x4 x5 x6 u → Wd D A s.heap (wsM cy ad u) H locs → lv_has ls 8 [(0, .ref (ad 0)), (1, .int x1), (3, .int x3), (4, .int x4), (5, .int x5), (6, .int x6)] → W p l e (rmD 2) s m args below meth c H locs 0 0 (MQ below (va_Qi Q (PostG (wsM cy ad) D A) A) args s 0 0 A) (F0 m 75 ls [])) (x1 : Int32) (x3 : Int32) (x4 : Int32) (x6 : Int32) (t0 : Int32) (t1 : Int32) (g0 : Sg) (H : Heap) (locs : List Loc) (ls : Array Slot) (hd : vv_X8_papers_J158 rc75 x1 x3 x4 x6 t0 t1 g0 Q) (hw : Wd D A s.heap (wsM cy ad g0) H locs) (hl : lv_has ls 8 [(0, .ref (ad 0)), (1, .int x1), (3, .int x3), (4, .int x4), (6, .int x6)]) : W p l e (rmD 2) s m args below meth c H locs 0 0 (MQ below (va_Qi Q (PostG (wsM cy ad) D A) A) args s 0 0 A) (F0 m 158 ls [.int t1, .int t0]) := by
  unfold vv_X8_papers_J158 at hd
  refine lv_iadd K.1 K.2.1 dX8_papers_158 ?_
  refine lv_topi (fun x5_21 ex5_21 => ?_)
  have hd := hd x5_21 ex5_21
  refine lv_istore (lv' := [(5, .int x5_21), (0, .ref (ad 0)), (1, .int x1), (3, .int x3), (4, .int x4), (6, .int x6)]) K.1 K.2.1 dX8_papers_159 hl (by decide) rfl (fun ls hl => ?_)
  obtain ⟨x6_22, ex6_22⟩ : ∃ y : Int32, y = x6 + (1 : Int32) := ⟨_, rfl⟩
  have hd := hd x6_22 ex6_22
  refine lv_iinc (v := x6_22) (lv' := [(6, .int x6_22), (5, .int x5_21), (0, .ref (ad 0)), (1, .int x1), (3, .int x3), (4, .int x4)]) K.1 K.2.1 dX8_papers_161 hl (k := 5) rfl (by rw [ex6_22]; rfl) (by decide) rfl (fun ls hl => ?_)
  refine lv_goto (tgt := 75) K.1 K.2.1 dX8_papers_164 (by decide) ?_
  exact hrc75 x1 x3 x4 x5_21 x6_22 g0 _ _ _ hd hw (lv_sub hl [2, 3, 4, 5, 1, 0] rfl)
set_option maxHeartbeats 4000000 in
set_option maxRecDepth 100000 in
theorem bb_X8_papers_75 {p : Program} {l : Launch} {e : Env} {s : State} {m : MethodId} {args : Array Value} {below : List Frame} {meth : Method} {c : Code} {D : va_G} {cy : Nat → ClassId} {ad : Nat → Nat} {A : Nat → Prop} {Q : Int32 → Sg → Prop} (K : Kx p s m args meth c cX8_papers 8 RX8 D cy) (hr : meth.sig.returnType = (some .int)) : ∀ (n : Nat) (x1 : Int32) (x3 : Int32) (x4 : Int32) (x5 : Int32) (x6 : Int32)  (g0 : Sg) (H : Heap) (locs : List Loc) (ls : Array Slot), vv_X8_papers_L75 Q n x1 x3 x4 x5 x6 g0 → Wd D A s.heap (wsM cy ad g0) H locs → lv_has ls 8 [(0, .ref (ad 0)), (1, .int x1), (3, .int x3), (4, .int x4), (5, .int x5), (6, .int x6)] → W p l e (rmD 2) s m args below meth c H locs 0 0 (MQ below (va_Qi Q (PostG (wsM cy ad) D A) A) args s 0 0 A) (F0 m 75 ls []) := by
  intro n
  induction n with
  | zero => intro _ _ _ _ _ _ _ _ _ hd; exact hd.elim
  | succ n ih =>
    intro x1 x3 x4 x5 x6 g0 H locs ls hd hw hl
    unfold vv_X8_papers_L75 at hd
    refine lv_iload K.1 K.2.1 dX8_papers_75 (lv_at hl 5 rfl) ?_
    refine lv_iload K.1 K.2.1 dX8_papers_77 (lv_at hl 3 rfl) ?_
    refine lv_icmp_ge (tgt := 167) K.1 K.2.1 dX8_papers_79 (by decide) (fun h_14 => ?_) (fun h_14 => ?_)
    · have hd := hd.1 h_14
      refine lv_iload K.1 K.2.1 dX8_papers_167 (lv_at hl 4 rfl) ?_
      exact rk_iret K hw hr hd dX8_papers_169
    · have hd := hd.2 h_14
      refine lv_iload_n K.1 K.2.1 dX8_papers_82 rfl (lv_at hl 2 rfl) ?_
      refine lv_if_lt (tgt := 103) K.1 K.2.1 dX8_papers_83 (by decide) (fun h_15 => ?_) (fun h_15 => ?_)
      · have hd := hd.1 h_15
        refine lv_bipush (v := (-12 : Int32)) K.1 K.2.1 dX8_papers_103 (by decide) ?_
        exact rk_iret K hw hr hd dX8_papers_105
      · have hd := hd.2 h_15
        refine lv_iload_n K.1 K.2.1 dX8_papers_86 rfl (lv_at hl 2 rfl) ?_
        refine lv_aload_n K.1 K.2.1 dX8_papers_87 rfl (lv_at hl 0 rfl) ?_
        refine rm_get 38 K hw (by decide) kf_X8_51 rfl dX8_papers_88 ?_
        refine lv_iload_n K.1 K.2.1 dX8_papers_91 rfl (lv_at hl 1 rfl) ?_
        have hb := hd.1
        have hd := hd.2
        refine rm_iald 11 K hw (by decide) hb dX8_papers_92 ?_
        refine lv_iconst (v := (3 : Int32)) K.1 K.2.1 dX8_papers_93 (by decide) ?_
        refine lv_iload K.1 K.2.1 dX8_papers_94 (lv_at hl 5 rfl) ?_
        refine lv_imul K.1 K.2.1 dX8_papers_96 ?_
        refine lv_isub K.1 K.2.1 dX8_papers_97 ?_
        refine lv_iconst (v := (3 : Int32)) K.1 K.2.1 dX8_papers_98 (by decide) ?_
        refine lv_isub K.1 K.2.1 dX8_papers_99 ?_
        refine lv_icmp_le (tgt := 106) K.1 K.2.1 dX8_papers_100 (by decide) (fun h_16 => ?_) (fun h_16 => ?_)
        · have hd := hd.1 h_16
          refine lv_bipush (v := (40 : Int32)) K.1 K.2.1 dX8_papers_106 (by decide) ?_
          refine lv_iload_n K.1 K.2.1 dX8_papers_108 rfl (lv_at hl 1 rfl) ?_
          refine lv_imul K.1 K.2.1 dX8_papers_109 ?_
          refine lv_iload_n K.1 K.2.1 dX8_papers_110 rfl (lv_at hl 2 rfl) ?_
          refine lv_iadd K.1 K.2.1 dX8_papers_111 ?_
          refine lv_iconst (v := (3 : Int32)) K.1 K.2.1 dX8_papers_112 (by decide) ?_
          refine lv_iload K.1 K.2.1 dX8_papers_113 (lv_at hl 5 rfl) ?_
          refine lv_imul K.1 K.2.1 dX8_papers_115 ?_
          refine lv_iadd K.1 K.2.1 dX8_papers_116 ?_
          refine lv_topi (fun x7_17 ex7_17 => ?_)
          have hd := hd x7_17 ex7_17
          refine lv_istore (lv' := [(7, .int x7_17), (0, .ref (ad 0)), (1, .int x1), (3, .int x3), (4, .int x4), (5, .int x5), (6, .int x6)]) K.1 K.2.1 dX8_papers_117 hl (by decide) rfl (fun ls hl => ?_)
          refine lv_iload K.1 K.2.1 dX8_papers_119 (lv_at hl 5 rfl) ?_
          refine lv_aload_n K.1 K.2.1 dX8_papers_121 rfl (lv_at hl 1 rfl) ?_
          refine lv_aload_n K.1 K.2.1 dX8_papers_122 rfl (lv_at hl 1 rfl) ?_
          refine rm_get 39 K hw (by decide) kf_X8_54 rfl dX8_papers_123 ?_
          refine lv_iload K.1 K.2.1 dX8_papers_126 (lv_at hl 0 rfl) ?_
          have hb := hd.1
          have hd := hd.2
          refine rm_iald 12 K hw (by decide) hb dX8_papers_128 ?_
          refine lv_aload_n K.1 K.2.1 dX8_papers_129 rfl (lv_at hl 1 rfl) ?_
          refine rm_get 39 K hw (by decide) kf_X8_54 rfl dX8_papers_130 ?_
          refine lv_iload K.1 K.2.1 dX8_papers_133 (lv_at hl 0 rfl) ?_
          refine lv_iconst (v := (1 : Int32)) K.1 K.2.1 dX8_papers_135 (by decide) ?_
          refine lv_iadd K.1 K.2.1 dX8_papers_136 ?_
          have hb := hd.1
          have hd := hd.2
          refine rm_iald 12 K hw (by decide) hb dX8_papers_137 ?_
          refine lv_aload_n K.1 K.2.1 dX8_papers_138 rfl (lv_at hl 1 rfl) ?_
          refine rm_get 39 K hw (by decide) kf_X8_54 rfl dX8_papers_139 ?_
          refine lv_iload K.1 K.2.1 dX8_papers_142 (lv_at hl 0 rfl) ?_
          refine lv_iconst (v := (2 : Int32)) K.1 K.2.1 dX8_papers_144 (by decide) ?_
          refine lv_iadd K.1 K.2.1 dX8_papers_145 ?_
          have hb := hd.1
          have hd := hd.2
          refine rm_iald 12 K hw (by decide) hb dX8_papers_146 ?_
          refine rk_vi (As := [.int (g0 12 x7_17.toNatClampNeg), .int (g0 12 (x7_17 + (1 : Int32)).toNatClampNeg), .int (g0 12 (x7_17 + (2 : Int32)).toNatClampNeg)]) (rest := [.int x5]) K hw (cc_X8_paper l D cy ad A g0 _ (g0 12 x7_17.toNatClampNeg) (g0 12 (x7_17 + (1 : Int32)).toNatClampNeg) (g0 12 (x7_17 + (2 : Int32)).toNatClampNeg) hd) lk_X8_439 (ci := 8) rfl (q0 := 0) (wsM_at cy ad _ (by decide)) ⟨Nat.le_of_ble_eq_true rfl, Nat.le_of_ble_eq_true rfl⟩ ⟨Nat.zero_le _, Nat.zero_le _⟩ rfl hl.1 (Nat.le_of_ble_eq_true rfl) rfl dX8_papers_147 (fun r_19 g_18 H locs hd hw => ?_)
          refine lv_if_lt (tgt := 157) K.1 K.2.1 dX8_papers_150 (by decide) (fun h_20 => ?_) (fun h_20 => ?_)
          · have hd := hd.1 h_20
            refine lv_iconst (v := (0 : Int32)) K.1 K.2.1 dX8_papers_157 (by decide) ?_
            exact bb_X8_papers_158 K hr ih x1 x3 x4 x6 x5 (0 : Int32) g_18 _ _ _ hd hw (lv_sub hl [1, 2, 3, 4, 6] rfl)
          · have hd := hd.2 h_20
            refine lv_iconst (v := (1 : Int32)) K.1 K.2.1 dX8_papers_153 (by decide) ?_
            refine lv_goto (tgt := 158) K.1 K.2.1 dX8_papers_154 (by decide) ?_
            exact bb_X8_papers_158 K hr ih x1 x3 x4 x6 x5 (1 : Int32) g_18 _ _ _ hd hw (lv_sub hl [1, 2, 3, 4, 6] rfl)
        · have hd := hd.2 h_16
          refine lv_bipush (v := (-12 : Int32)) K.1 K.2.1 dX8_papers_103 (by decide) ?_
          exact rk_iret K hw hr hd dX8_papers_105
set_option maxHeartbeats 4000000 in
set_option maxRecDepth 100000 in
theorem bb_X8_papers_57 {p : Program} {l : Launch} {e : Env} {s : State} {m : MethodId} {args : Array Value} {below : List Frame} {meth : Method} {c : Code} {D : va_G} {cy : Nat → ClassId} {ad : Nat → Nat} {A : Nat → Prop} {Q : Int32 → Sg → Prop} (K : Kx p s m args meth c cX8_papers 8 RX8 D cy) (hr : meth.sig.returnType = (some .int)) (x1 : Int32) (x3 : Int32) (x4 : Int32)  (g0 : Sg) (H : Heap) (locs : List Loc) (ls : Array Slot) (hd : vv_X8_papers_J57 x1 x3 x4 g0 Q) (hw : Wd D A s.heap (wsM cy ad g0) H locs) (hl : lv_has ls 8 [(0, .ref (ad 0)), (1, .int x1), (3, .int x3), (4, .int x4)]) : W p l e (rmD 2) s m args below meth c H locs 0 0 (MQ below (va_Qi Q (PostG (wsM cy ad) D A) A) args s 0 0 A) (F0 m 57 ls []) := by
  unfold vv_X8_papers_J57 at hd
  refine lv_aload_n K.1 K.2.1 dX8_papers_57 rfl (lv_at hl 0 rfl) ?_
  refine rm_get 36 K hw (by decide) kf_X8_44 rfl dX8_papers_58 ?_
  refine lv_iload_n K.1 K.2.1 dX8_papers_61 rfl (lv_at hl 1 rfl) ?_
  have hb := hd.1
  have hd := hd.2
  refine rm_zald K hw hb dX8_papers_62 ?_
  refine lv_if_ne (tgt := 69) K.1 K.2.1 dX8_papers_63 (by decide) (fun h_11 => ?_) (fun h_11 => ?_)
  · have hd := hd.1 h_11
    refine lv_iconst (v := (0 : Int32)) K.1 K.2.1 dX8_papers_69 (by decide) ?_
    refine lv_topi (fun x5_12 ex5_12 => ?_)
    have hd := hd x5_12 ex5_12
    refine lv_istore (lv' := [(5, .int x5_12), (0, .ref (ad 0)), (1, .int x1), (3, .int x3), (4, .int x4)]) K.1 K.2.1 dX8_papers_70 hl (by decide) rfl (fun ls hl => ?_)
    refine lv_iconst (v := (0 : Int32)) K.1 K.2.1 dX8_papers_72 (by decide) ?_
    refine lv_topi (fun x6_13 ex6_13 => ?_)
    have hd := hd x6_13 ex6_13
    refine lv_istore (lv' := [(6, .int x6_13), (5, .int x5_12), (0, .ref (ad 0)), (1, .int x1), (3, .int x3), (4, .int x4)]) K.1 K.2.1 dX8_papers_73 hl (by decide) rfl (fun ls hl => ?_)
    obtain ⟨n9, hd⟩ := hd
    exact bb_X8_papers_75 K hr  n9 x1 x3 x4 x5_12 x6_13 g0 _ _ _ hd hw (lv_sub hl [2, 3, 4, 5, 1, 0] rfl)
  · have hd := hd.2 h_11
    refine lv_bipush (v := (-11 : Int32)) K.1 K.2.1 dX8_papers_66 (by decide) ?_
    exact rk_iret K hw hr hd dX8_papers_68
set_option maxHeartbeats 4000000 in
set_option maxRecDepth 100000 in
theorem cc_X8_papers (l : Launch) (D : va_G) (cy : Nat → ClassId) (ad : Nat → Nat) (A : Nat → Prop) (g0 : Sg) (Q : Int32 → Sg → Prop) (x1 : Int32) (x2 : Int32) (x3 : Int32) (x4 : Int32) (hd : vv_X8_papers x1 x2 x3 x4 g0 Q) : Met l yX8_papers (Cond.code yX8_papers cX8_papers 8 (some .int) :: TT) (rmD 2) (va_Pc [.ref (ad 0), .int x1, .int x2, .int x3, .int x4] (PreG (wsM cy ad) D cy A g0)) (va_Qi Q (PostG (wsM cy ad) D A) A) 0 0 A := by
  unfold vv_X8_papers at hd
  refine Met.ofW (cc := cX8_papers) (maxL := 8) (ret := (some .int)) (by decide) rfl ?_
  intro p e s m args below meth c s₁ B hml hv
  obtain ⟨rfl, hP, hK0, hD⟩ := hv
  have K : Kx p s m _ meth c cX8_papers 8 RX8 D cy := ⟨B.exec, B.bytes, hml, findClass_of_methodNamed B.named, fun w h => atoms_spec (ws := Cond.code yX8_papers cX8_papers 8 (some .int) :: TT) B.pre w (List.mem_cons_of_mem _ h), hK0, B.notSynchronized⟩
  have hw : Wd D A s.heap (wsM cy ad g0) s.heap [] := ⟨hP, hD, va_S.rf⟩
  have hr := B.returns
  have hl := lv_entry ([.ref (ad 0), .int x1, .int x2, .int x3, .int x4]) (n := 8) (Nat.le_of_ble_eq_true rfl)
  rw [lg_entry_eq]
  generalize (lg_sl ([.ref (ad 0), .int x1, .int x2, .int x3, .int x4]) ++ List.replicate (8 - (lg_sl ([.ref (ad 0), .int x1, .int x2, .int x3, .int x4])).length) Slot.unset).toArray = ls at hl ⊢
  have hl : lv_has ls 8 [(0, .ref (ad 0)), (1, .int x1), (2, .int x2), (3, .int x3), (4, .int x4)] := hl
  refine lv_iload_n K.1 K.2.1 dX8_papers_0 rfl (lv_at hl 1 rfl) ?_
  refine rk_si (As := [.int x1]) (rest := []) K hw (cc_X8_isSheet l D cy ad A g0 _ x1 hd) lk_X8_413 ⟨Nat.le_of_ble_eq_true rfl, Nat.le_of_ble_eq_true rfl⟩ ⟨Nat.zero_le _, Nat.zero_le _⟩ rfl hl.1 (Nat.le_of_ble_eq_true rfl) rfl dX8_papers_1 (fun r_2 g_1 H locs hd hw => ?_)
  refine lv_if_eq (tgt := 32) K.1 K.2.1 dX8_papers_4 (by decide) (fun h_3 => ?_) (fun h_3 => ?_)
  · have hd := hd.1 h_3
    refine lv_bipush (v := (-2 : Int32)) K.1 K.2.1 dX8_papers_32 (by decide) ?_
    exact rk_iret K hw hr hd dX8_papers_34
  · have hd := hd.2 h_3
    refine lv_iload_n K.1 K.2.1 dX8_papers_7 rfl (lv_at hl 2 rfl) ?_
    refine lv_i2l (v := x2.toInt64) K.1 K.2.1 dX8_papers_8 rfl ?_
    refine lv_lconst (v := (0 : Int64)) K.1 K.2.1 dX8_papers_9 rfl ?_
    refine lv_ldc2 K.1 K.2.1 K.2.2.2.1 (K.2.2.2.2.1 _ kl_X8_360) dX8_papers_10 ?_
    refine rk_si (As := [.long x2.toInt64, .long (0 : Int64), .long (2 : Int64)]) (rest := []) K hw (cc_X8_in l D cy ad A g_1 _ (x2.toInt64) (0 : Int64) (2 : Int64) hd) lk_X8_67 ⟨Nat.le_of_ble_eq_true rfl, Nat.le_of_ble_eq_true rfl⟩ ⟨Nat.zero_le _, Nat.zero_le _⟩ rfl hl.1 (Nat.le_of_ble_eq_true rfl) rfl dX8_papers_13 (fun r_5 g_4 H locs hd hw => ?_)
    refine lv_if_eq (tgt := 32) K.1 K.2.1 dX8_papers_16 (by decide) (fun h_6 => ?_) (fun h_6 => ?_)
    · have hd := hd.1 h_6
      refine lv_bipush (v := (-2 : Int32)) K.1 K.2.1 dX8_papers_32 (by decide) ?_
      exact rk_iret K hw hr hd dX8_papers_34
    · have hd := hd.2 h_6
      refine lv_iload K.1 K.2.1 dX8_papers_19 (lv_at hl 4 rfl) ?_
      refine lv_i2l (v := x4.toInt64) K.1 K.2.1 dX8_papers_21 rfl ?_
      refine lv_lconst (v := (0 : Int64)) K.1 K.2.1 dX8_papers_22 rfl ?_
      refine lv_ldc2 K.1 K.2.1 K.2.2.2.1 (K.2.2.2.2.1 _ kl_X8_373) dX8_papers_23 ?_
      refine rk_si (As := [.long x4.toInt64, .long (0 : Int64), .long (8 : Int64)]) (rest := []) K hw (cc_X8_in l D cy ad A g_4 _ (x4.toInt64) (0 : Int64) (8 : Int64) hd) lk_X8_67 ⟨Nat.le_of_ble_eq_true rfl, Nat.le_of_ble_eq_true rfl⟩ ⟨Nat.zero_le _, Nat.zero_le _⟩ rfl hl.1 (Nat.le_of_ble_eq_true rfl) rfl dX8_papers_26 (fun r_8 g_7 H locs hd hw => ?_)
      refine lv_if_ne (tgt := 35) K.1 K.2.1 dX8_papers_29 (by decide) (fun h_9 => ?_) (fun h_9 => ?_)
      · have hd := hd.1 h_9
        refine lv_aload_n K.1 K.2.1 dX8_papers_35 rfl (lv_at hl 0 rfl) ?_
        refine rm_get 36 K hw (by decide) kf_X8_44 rfl dX8_papers_36 ?_
        refine lv_iload_n K.1 K.2.1 dX8_papers_39 rfl (lv_at hl 1 rfl) ?_
        have hb := hd.1
        have hd := hd.2
        refine rm_zald K hw hb dX8_papers_40 ?_
        refine lv_if_eq (tgt := 57) K.1 K.2.1 dX8_papers_41 (by decide) (fun h_10 => ?_) (fun h_10 => ?_)
        · have hd := hd.1 h_10
          exact bb_X8_papers_57 K hr  x1 x3 x4 g_7 _ _ _ hd hw (lv_sub hl [0, 1, 3, 4] rfl)
        · have hd := hd.2 h_10
          refine lv_aload_n K.1 K.2.1 dX8_papers_44 rfl (lv_at hl 0 rfl) ?_
          refine rm_get 37 K hw (by decide) kf_X8_48 rfl dX8_papers_45 ?_
          refine lv_iload_n K.1 K.2.1 dX8_papers_48 rfl (lv_at hl 1 rfl) ?_
          have hb := hd.1
          have hd := hd.2
          refine rm_iald 10 K hw (by decide) hb dX8_papers_49 ?_
          refine lv_iload_n K.1 K.2.1 dX8_papers_50 rfl (lv_at hl 2 rfl) ?_
          refine lv_icmp_eq (tgt := 57) K.1 K.2.1 dX8_papers_51 (by decide) (fun h_23 => ?_) (fun h_23 => ?_)
          · have hd := hd.1 h_23
            exact bb_X8_papers_57 K hr  x1 x3 x4 g_7 _ _ _ hd hw (lv_sub hl [0, 1, 3, 4] rfl)
          · have hd := hd.2 h_23
            refine lv_bipush (v := (-13 : Int32)) K.1 K.2.1 dX8_papers_54 (by decide) ?_
            exact rk_iret K hw hr hd dX8_papers_56
      · have hd := hd.2 h_9
        refine lv_bipush (v := (-2 : Int32)) K.1 K.2.1 dX8_papers_32 (by decide) ?_
        exact rk_iret K hw hr hd dX8_papers_34
theorem dX8_over_0 : decode cX8_over 0 = .ok (.iload_n 0, 1) := by decide +kernel
theorem dX8_over_1 : decode cX8_over 1 = .ok (.ifCond .ne 7, 3) := by decide +kernel
theorem dX8_over_4 : decode cX8_over 4 = .ok (.iconst (-1), 1) := by decide +kernel
theorem dX8_over_5 : decode cX8_over 5 = .ok (.goto 22, 3) := by decide +kernel
theorem dX8_over_8 : decode cX8_over 8 = .ok (.iload_n 0, 1) := by decide +kernel
theorem dX8_over_9 : decode cX8_over 9 = .ok (.iconst 3, 1) := by decide +kernel
theorem dX8_over_10 : decode cX8_over 10 = .ok (.if_icmp .ne 7, 3) := by decide +kernel
theorem dX8_over_13 : decode cX8_over 13 = .ok (.iconst 1, 1) := by decide +kernel
theorem dX8_over_14 : decode cX8_over 14 = .ok (.goto 13, 3) := by decide +kernel
theorem dX8_over_17 : decode cX8_over 17 = .ok (.iload_n 0, 1) := by decide +kernel
theorem dX8_over_18 : decode cX8_over 18 = .ok (.iconst 4, 1) := by decide +kernel
theorem dX8_over_19 : decode cX8_over 19 = .ok (.if_icmp .ne 7, 3) := by decide +kernel
theorem dX8_over_22 : decode cX8_over 22 = .ok (.iconst 2, 1) := by decide +kernel
theorem dX8_over_23 : decode cX8_over 23 = .ok (.goto 4, 3) := by decide +kernel
theorem dX8_over_26 : decode cX8_over 26 = .ok (.iconst 0, 1) := by decide +kernel
theorem dX8_over_27 : decode cX8_over 27 = .ok (.ireturn, 1) := by decide +kernel
set_option maxHeartbeats 4000000 in
set_option maxRecDepth 100000 in
theorem cc_X8_over (l : Launch) (D : va_G) (cy : Nat → ClassId) (ad : Nat → Nat) (A : Nat → Prop) (g0 : Sg) (Q : Int32 → Sg → Prop) (x0 : Int32) (hd : vv_X8_over x0 g0 Q) : Met l yX8_over (Cond.code yX8_over cX8_over 1 (some .int) :: TT) (rmD 0) (va_Pc [.int x0] (PreG (wsM cy ad) D cy A g0)) (va_Qi Q (PostG (wsM cy ad) D A) A) 0 0 A := by
  unfold vv_X8_over at hd
  refine Met.ofW (cc := cX8_over) (maxL := 1) (ret := (some .int)) (by decide) rfl ?_
  intro p e s m args below meth c s₁ B hml hv
  obtain ⟨rfl, hP, hK0, hD⟩ := hv
  have K : Kx p s m _ meth c cX8_over 1 RX8 D cy := ⟨B.exec, B.bytes, hml, findClass_of_methodNamed B.named, fun w h => atoms_spec (ws := Cond.code yX8_over cX8_over 1 (some .int) :: TT) B.pre w (List.mem_cons_of_mem _ h), hK0, B.notSynchronized⟩
  have hw : Wd D A s.heap (wsM cy ad g0) s.heap [] := ⟨hP, hD, va_S.rf⟩
  have hr := B.returns
  have hl := lv_entry ([.int x0]) (n := 1) (Nat.le_of_ble_eq_true rfl)
  rw [lg_entry_eq]
  generalize (lg_sl ([.int x0]) ++ List.replicate (1 - (lg_sl ([.int x0])).length) Slot.unset).toArray = ls at hl ⊢
  have hl : lv_has ls 1 [(0, .int x0)] := hl
  refine lv_iload_n K.1 K.2.1 dX8_over_0 rfl (lv_at hl 0 rfl) ?_
  refine lv_if_ne (tgt := 8) K.1 K.2.1 dX8_over_1 (by decide) (fun h_1 => ?_) (fun h_1 => ?_)
  · have hd := hd.1 h_1
    refine lv_iload_n K.1 K.2.1 dX8_over_8 rfl (lv_at hl 0 rfl) ?_
    refine lv_iconst (v := (3 : Int32)) K.1 K.2.1 dX8_over_9 (by decide) ?_
    refine lv_icmp_ne (tgt := 17) K.1 K.2.1 dX8_over_10 (by decide) (fun h_2 => ?_) (fun h_2 => ?_)
    · have hd := hd.1 h_2
      refine lv_iload_n K.1 K.2.1 dX8_over_17 rfl (lv_at hl 0 rfl) ?_
      refine lv_iconst (v := (4 : Int32)) K.1 K.2.1 dX8_over_18 (by decide) ?_
      refine lv_icmp_ne (tgt := 26) K.1 K.2.1 dX8_over_19 (by decide) (fun h_3 => ?_) (fun h_3 => ?_)
      · have hd := hd.1 h_3
        refine lv_iconst (v := (0 : Int32)) K.1 K.2.1 dX8_over_26 (by decide) ?_
        exact rk_iret K hw hr hd dX8_over_27
      · have hd := hd.2 h_3
        refine lv_iconst (v := (2 : Int32)) K.1 K.2.1 dX8_over_22 (by decide) ?_
        refine lv_goto (tgt := 27) K.1 K.2.1 dX8_over_23 (by decide) ?_
        exact rk_iret K hw hr hd dX8_over_27
    · have hd := hd.2 h_2
      refine lv_iconst (v := (1 : Int32)) K.1 K.2.1 dX8_over_13 (by decide) ?_
      refine lv_goto (tgt := 27) K.1 K.2.1 dX8_over_14 (by decide) ?_
      exact rk_iret K hw hr hd dX8_over_27
  · have hd := hd.2 h_1
    refine lv_iconst (v := (-1 : Int32)) K.1 K.2.1 dX8_over_4 (by decide) ?_
    refine lv_goto (tgt := 27) K.1 K.2.1 dX8_over_5 (by decide) ?_
    exact rk_iret K hw hr hd dX8_over_27
theorem dX8_taken_0 : decode cX8_taken 0 = .ok (.iload_n 2, 1) := by decide +kernel
theorem dX8_taken_1 : decode cX8_taken 1 = .ok (.i2l, 1) := by decide +kernel
theorem dX8_taken_2 : decode cX8_taken 2 = .ok (.lconst 0, 1) := by decide +kernel
theorem dX8_taken_3 : decode cX8_taken 3 = .ok (.ldc2_w 98, 3) := by decide +kernel
theorem dX8_taken_6 : decode cX8_taken 6 = .ok (.invokestatic 67, 3) := by decide +kernel
theorem dX8_taken_9 : decode cX8_taken 9 = .ok (.ifCond .ne 6, 3) := by decide +kernel
theorem dX8_taken_12 : decode cX8_taken 12 = .ok (.bipush (-2), 2) := by decide +kernel
theorem dX8_taken_14 : decode cX8_taken 14 = .ok (.ireturn, 1) := by decide +kernel
theorem dX8_taken_15 : decode cX8_taken 15 = .ok (.aload_n 0, 1) := by decide +kernel
theorem dX8_taken_16 : decode cX8_taken 16 = .ok (.iload_n 1, 1) := by decide +kernel
theorem dX8_taken_17 : decode cX8_taken 17 = .ok (.invokevirtual 73, 3) := by decide +kernel
theorem dX8_taken_20 : decode cX8_taken 20 = .ok (.ifCond .ne 6, 3) := by decide +kernel
theorem dX8_taken_23 : decode cX8_taken 23 = .ok (.bipush (-11), 2) := by decide +kernel
theorem dX8_taken_25 : decode cX8_taken 25 = .ok (.ireturn, 1) := by decide +kernel
theorem dX8_taken_26 : decode cX8_taken 26 = .ok (.aload_n 0, 1) := by decide +kernel
theorem dX8_taken_27 : decode cX8_taken 27 = .ok (.getfield 26, 3) := by decide +kernel
theorem dX8_taken_30 : decode cX8_taken 30 = .ok (.iload_n 1, 1) := by decide +kernel
theorem dX8_taken_31 : decode cX8_taken 31 = .ok (.iaload, 1) := by decide +kernel
theorem dX8_taken_32 : decode cX8_taken 32 = .ok (.istore_n 3, 1) := by decide +kernel
theorem dX8_taken_33 : decode cX8_taken 33 = .ok (.iload_n 3, 1) := by decide +kernel
theorem dX8_taken_34 : decode cX8_taken 34 = .ok (.iconst (-1), 1) := by decide +kernel
theorem dX8_taken_35 : decode cX8_taken 35 = .ok (.if_icmp .eq 16, 3) := by decide +kernel
theorem dX8_taken_38 : decode cX8_taken 38 = .ok (.iload_n 3, 1) := by decide +kernel
theorem dX8_taken_39 : decode cX8_taken 39 = .ok (.iload_n 2, 1) := by decide +kernel
theorem dX8_taken_40 : decode cX8_taken 40 = .ok (.if_icmp .eq 11, 3) := by decide +kernel
theorem dX8_taken_43 : decode cX8_taken 43 = .ok (.iload_n 3, 1) := by decide +kernel
theorem dX8_taken_44 : decode cX8_taken 44 = .ok (.invokestatic 442, 3) := by decide +kernel
theorem dX8_taken_47 : decode cX8_taken 47 = .ok (.istore_n 3, 1) := by decide +kernel
theorem dX8_taken_48 : decode cX8_taken 48 = .ok (.goto (-15), 3) := by decide +kernel
theorem dX8_taken_51 : decode cX8_taken 51 = .ok (.iload_n 3, 1) := by decide +kernel
theorem dX8_taken_52 : decode cX8_taken 52 = .ok (.iload_n 2, 1) := by decide +kernel
theorem dX8_taken_53 : decode cX8_taken 53 = .ok (.if_icmp .ne 14, 3) := by decide +kernel
theorem dX8_taken_56 : decode cX8_taken 56 = .ok (.aload_n 0, 1) := by decide +kernel
theorem dX8_taken_57 : decode cX8_taken 57 = .ok (.getfield 29, 3) := by decide +kernel
theorem dX8_taken_60 : decode cX8_taken 60 = .ok (.iconst 5, 1) := by decide +kernel
theorem dX8_taken_61 : decode cX8_taken 61 = .ok (.iload_n 1, 1) := by decide +kernel
theorem dX8_taken_62 : decode cX8_taken 62 = .ok (.imul, 1) := by decide +kernel
theorem dX8_taken_63 : decode cX8_taken 63 = .ok (.iaload, 1) := by decide +kernel
theorem dX8_taken_64 : decode cX8_taken 64 = .ok (.goto 5, 3) := by decide +kernel
theorem dX8_taken_67 : decode cX8_taken 67 = .ok (.bipush (-13), 2) := by decide +kernel
theorem dX8_taken_69 : decode cX8_taken 69 = .ok (.ireturn, 1) := by decide +kernel
set_option maxHeartbeats 4000000 in
set_option maxRecDepth 100000 in
theorem bb_X8_taken_51 {p : Program} {l : Launch} {e : Env} {s : State} {m : MethodId} {args : Array Value} {below : List Frame} {meth : Method} {c : Code} {D : va_G} {cy : Nat → ClassId} {ad : Nat → Nat} {A : Nat → Prop} {Q : Int32 → Sg → Prop} (K : Kx p s m args meth c cX8_taken 4 RX8 D cy) (hr : meth.sig.returnType = (some .int)) (x1 : Int32) (x2 : Int32) (x3 : Int32)  (g0 : Sg) (H : Heap) (locs : List Loc) (ls : Array Slot) (hd : vv_X8_taken_J51 x1 x2 x3 g0 Q) (hw : Wd D A s.heap (wsM cy ad g0) H locs) (hl : lv_has ls 4 [(0, .ref (ad 0)), (1, .int x1), (2, .int x2), (3, .int x3)]) : W p l e (rmD 2) s m args below meth c H locs 0 0 (MQ below (va_Qi Q (PostG (wsM cy ad) D A) A) args s 0 0 A) (F0 m 51 ls []) := by
  unfold vv_X8_taken_J51 at hd
  refine lv_iload_n K.1 K.2.1 dX8_taken_51 rfl (lv_at hl 3 rfl) ?_
  refine lv_iload_n K.1 K.2.1 dX8_taken_52 rfl (lv_at hl 2 rfl) ?_
  refine lv_icmp_ne (tgt := 67) K.1 K.2.1 dX8_taken_53 (by decide) (fun h_9 => ?_) (fun h_9 => ?_)
  · have hd := hd.1 h_9
    refine lv_bipush (v := (-13 : Int32)) K.1 K.2.1 dX8_taken_67 (by decide) ?_
    exact rk_iret K hw hr hd dX8_taken_69
  · have hd := hd.2 h_9
    refine lv_aload_n K.1 K.2.1 dX8_taken_56 rfl (lv_at hl 0 rfl) ?_
    refine rm_get 10 K hw (by decide) kf_X8_29 rfl dX8_taken_57 ?_
    refine lv_iconst (v := (5 : Int32)) K.1 K.2.1 dX8_taken_60 (by decide) ?_
    refine lv_iload_n K.1 K.2.1 dX8_taken_61 rfl (lv_at hl 1 rfl) ?_
    refine lv_imul K.1 K.2.1 dX8_taken_62 ?_
    have hb := hd.1
    have hd := hd.2
    refine rm_iald 5 K hw (by decide) hb dX8_taken_63 ?_
    refine lv_goto (tgt := 69) K.1 K.2.1 dX8_taken_64 (by decide) ?_
    exact rk_iret K hw hr hd dX8_taken_69
set_option maxHeartbeats 4000000 in
set_option maxRecDepth 100000 in
theorem bb_X8_taken_33 {p : Program} {l : Launch} {e : Env} {s : State} {m : MethodId} {args : Array Value} {below : List Frame} {meth : Method} {c : Code} {D : va_G} {cy : Nat → ClassId} {ad : Nat → Nat} {A : Nat → Prop} {Q : Int32 → Sg → Prop} (K : Kx p s m args meth c cX8_taken 4 RX8 D cy) (hr : meth.sig.returnType = (some .int)) : ∀ (n : Nat) (x1 : Int32) (x2 : Int32) (x3 : Int32)  (g0 : Sg) (H : Heap) (locs : List Loc) (ls : Array Slot), vv_X8_taken_L33 Q n x1 x2 x3 g0 → Wd D A s.heap (wsM cy ad g0) H locs → lv_has ls 4 [(0, .ref (ad 0)), (1, .int x1), (2, .int x2), (3, .int x3)] → W p l e (rmD 2) s m args below meth c H locs 0 0 (MQ below (va_Qi Q (PostG (wsM cy ad) D A) A) args s 0 0 A) (F0 m 33 ls []) := by
  intro n
  induction n with
  | zero => intro _ _ _ _ _ _ _ hd; exact hd.elim
  | succ n ih =>
    intro x1 x2 x3 g0 H locs ls hd hw hl
    unfold vv_X8_taken_L33 at hd
    refine lv_iload_n K.1 K.2.1 dX8_taken_33 rfl (lv_at hl 3 rfl) ?_
    refine lv_iconst (v := (-1 : Int32)) K.1 K.2.1 dX8_taken_34 (by decide) ?_
    refine lv_icmp_eq (tgt := 51) K.1 K.2.1 dX8_taken_35 (by decide) (fun h_8 => ?_) (fun h_8 => ?_)
    · have hd := hd.1 h_8
      exact bb_X8_taken_51 K hr  x1 x2 x3 g0 _ _ _ hd hw (lv_sub hl [0, 1, 2, 3] rfl)
    · have hd := hd.2 h_8
      refine lv_iload_n K.1 K.2.1 dX8_taken_38 rfl (lv_at hl 3 rfl) ?_
      refine lv_iload_n K.1 K.2.1 dX8_taken_39 rfl (lv_at hl 2 rfl) ?_
      refine lv_icmp_eq (tgt := 51) K.1 K.2.1 dX8_taken_40 (by decide) (fun h_10 => ?_) (fun h_10 => ?_)
      · have hd := hd.1 h_10
        exact bb_X8_taken_51 K hr  x1 x2 x3 g0 _ _ _ hd hw (lv_sub hl [0, 1, 2, 3] rfl)
      · have hd := hd.2 h_10
        refine lv_iload_n K.1 K.2.1 dX8_taken_43 rfl (lv_at hl 3 rfl) ?_
        refine rk_si (As := [.int x3]) (rest := []) K hw (cc_X8_over l D cy ad A g0 _ x3 hd) lk_X8_442 ⟨Nat.le_of_ble_eq_true rfl, Nat.le_of_ble_eq_true rfl⟩ ⟨Nat.zero_le _, Nat.zero_le _⟩ rfl hl.1 (Nat.le_of_ble_eq_true rfl) rfl dX8_taken_44 (fun r_12 g_11 H locs hd hw => ?_)
        refine lv_topi (fun x3_13 ex3_13 => ?_)
        have hd := hd x3_13 ex3_13
        refine lv_istore_n (lv' := [(3, .int x3_13), (0, .ref (ad 0)), (1, .int x1), (2, .int x2)]) K.1 K.2.1 dX8_taken_47 rfl hl (by decide) rfl (fun ls hl => ?_)
        refine lv_goto (tgt := 33) K.1 K.2.1 dX8_taken_48 (by decide) ?_
        exact ih x1 x2 x3_13 g_11 _ _ _ hd hw (lv_sub hl [1, 2, 3, 0] rfl)
set_option maxHeartbeats 4000000 in
set_option maxRecDepth 100000 in
theorem cc_X8_taken (l : Launch) (D : va_G) (cy : Nat → ClassId) (ad : Nat → Nat) (A : Nat → Prop) (g0 : Sg) (Q : Int32 → Sg → Prop) (x1 : Int32) (x2 : Int32) (hd : vv_X8_taken x1 x2 g0 Q) : Met l yX8_taken (Cond.code yX8_taken cX8_taken 4 (some .int) :: TT) (rmD 2) (va_Pc [.ref (ad 0), .int x1, .int x2] (PreG (wsM cy ad) D cy A g0)) (va_Qi Q (PostG (wsM cy ad) D A) A) 0 0 A := by
  unfold vv_X8_taken at hd
  refine Met.ofW (cc := cX8_taken) (maxL := 4) (ret := (some .int)) (by decide) rfl ?_
  intro p e s m args below meth c s₁ B hml hv
  obtain ⟨rfl, hP, hK0, hD⟩ := hv
  have K : Kx p s m _ meth c cX8_taken 4 RX8 D cy := ⟨B.exec, B.bytes, hml, findClass_of_methodNamed B.named, fun w h => atoms_spec (ws := Cond.code yX8_taken cX8_taken 4 (some .int) :: TT) B.pre w (List.mem_cons_of_mem _ h), hK0, B.notSynchronized⟩
  have hw : Wd D A s.heap (wsM cy ad g0) s.heap [] := ⟨hP, hD, va_S.rf⟩
  have hr := B.returns
  have hl := lv_entry ([.ref (ad 0), .int x1, .int x2]) (n := 4) (Nat.le_of_ble_eq_true rfl)
  rw [lg_entry_eq]
  generalize (lg_sl ([.ref (ad 0), .int x1, .int x2]) ++ List.replicate (4 - (lg_sl ([.ref (ad 0), .int x1, .int x2])).length) Slot.unset).toArray = ls at hl ⊢
  have hl : lv_has ls 4 [(0, .ref (ad 0)), (1, .int x1), (2, .int x2)] := hl
  refine lv_iload_n K.1 K.2.1 dX8_taken_0 rfl (lv_at hl 2 rfl) ?_
  refine lv_i2l (v := x2.toInt64) K.1 K.2.1 dX8_taken_1 rfl ?_
  refine lv_lconst (v := (0 : Int64)) K.1 K.2.1 dX8_taken_2 rfl ?_
  refine lv_ldc2 K.1 K.2.1 K.2.2.2.1 (K.2.2.2.2.1 _ kl_X8_98) dX8_taken_3 ?_
  refine rk_si (As := [.long x2.toInt64, .long (0 : Int64), .long (5 : Int64)]) (rest := []) K hw (cc_X8_in l D cy ad A g0 _ (x2.toInt64) (0 : Int64) (5 : Int64) hd) lk_X8_67 ⟨Nat.le_of_ble_eq_true rfl, Nat.le_of_ble_eq_true rfl⟩ ⟨Nat.zero_le _, Nat.zero_le _⟩ rfl hl.1 (Nat.le_of_ble_eq_true rfl) rfl dX8_taken_6 (fun r_2 g_1 H locs hd hw => ?_)
  refine lv_if_ne (tgt := 15) K.1 K.2.1 dX8_taken_9 (by decide) (fun h_3 => ?_) (fun h_3 => ?_)
  · have hd := hd.1 h_3
    refine lv_aload_n K.1 K.2.1 dX8_taken_15 rfl (lv_at hl 0 rfl) ?_
    refine lv_iload_n K.1 K.2.1 dX8_taken_16 rfl (lv_at hl 1 rfl) ?_
    refine rk_vi (As := [.int x1]) (rest := []) K hw (cc_X8_isOne l D cy ad A g_1 _ x1 hd) lk_X8_73 (ci := 8) rfl (q0 := 0) (wsM_at cy ad _ (by decide)) ⟨Nat.le_of_ble_eq_true rfl, Nat.le_of_ble_eq_true rfl⟩ ⟨Nat.zero_le _, Nat.zero_le _⟩ rfl hl.1 (Nat.le_of_ble_eq_true rfl) rfl dX8_taken_17 (fun r_5 g_4 H locs hd hw => ?_)
    refine lv_if_ne (tgt := 26) K.1 K.2.1 dX8_taken_20 (by decide) (fun h_6 => ?_) (fun h_6 => ?_)
    · have hd := hd.1 h_6
      refine lv_aload_n K.1 K.2.1 dX8_taken_26 rfl (lv_at hl 0 rfl) ?_
      refine rm_get 9 K hw (by decide) kf_X8_26 rfl dX8_taken_27 ?_
      refine lv_iload_n K.1 K.2.1 dX8_taken_30 rfl (lv_at hl 1 rfl) ?_
      have hb := hd.1
      have hd := hd.2
      refine rm_iald 4 K hw (by decide) hb dX8_taken_31 ?_
      refine lv_topi (fun x3_7 ex3_7 => ?_)
      have hd := hd x3_7 ex3_7
      refine lv_istore_n (lv' := [(3, .int x3_7), (0, .ref (ad 0)), (1, .int x1), (2, .int x2)]) K.1 K.2.1 dX8_taken_32 rfl hl (by decide) rfl (fun ls hl => ?_)
      obtain ⟨n9, hd⟩ := hd
      exact bb_X8_taken_33 K hr  n9 x1 x2 x3_7 g_4 _ _ _ hd hw (lv_sub hl [1, 2, 3, 0] rfl)
    · have hd := hd.2 h_6
      refine lv_bipush (v := (-11 : Int32)) K.1 K.2.1 dX8_taken_23 (by decide) ?_
      exact rk_iret K hw hr hd dX8_taken_25
  · have hd := hd.2 h_3
    refine lv_bipush (v := (-2 : Int32)) K.1 K.2.1 dX8_taken_12 (by decide) ?_
    exact rk_iret K hw hr hd dX8_taken_14
