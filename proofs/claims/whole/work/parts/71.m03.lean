theorem dX8_not1_0 : decode cX8_not1 0 = .ok (.aload_n 0, 1) := by decide +kernel
theorem dX8_not1_1 : decode cX8_not1 1 = .ok (.bipush 110, 2) := by decide +kernel
theorem dX8_not1_3 : decode cX8_not1 3 = .ok (.bipush 111, 2) := by decide +kernel
theorem dX8_not1_5 : decode cX8_not1 5 = .ok (.bipush 116, 2) := by decide +kernel
theorem dX8_not1_7 : decode cX8_not1 7 = .ok (.iconst 0, 1) := by decide +kernel
theorem dX8_not1_8 : decode cX8_not1 8 = .ok (.iconst 0, 1) := by decide +kernel
theorem dX8_not1_9 : decode cX8_not1 9 = .ok (.iconst 0, 1) := by decide +kernel
theorem dX8_not1_10 : decode cX8_not1 10 = .ok (.iconst 0, 1) := by decide +kernel
theorem dX8_not1_11 : decode cX8_not1 11 = .ok (.iconst 0, 1) := by decide +kernel
theorem dX8_not1_12 : decode cX8_not1 12 = .ok (.invokevirtual 184, 3) := by decide +kernel
theorem dX8_not1_15 : decode cX8_not1 15 = .ok (.ifCond .eq 37, 3) := by decide +kernel
theorem dX8_not1_18 : decode cX8_not1 18 = .ok (.aload_n 0, 1) := by decide +kernel
theorem dX8_not1_19 : decode cX8_not1 19 = .ok (.invokevirtual 209, 3) := by decide +kernel
theorem dX8_not1_22 : decode cX8_not1 22 = .ok (.ifCond .ne 5, 3) := by decide +kernel
theorem dX8_not1_25 : decode cX8_not1 25 = .ok (.iconst 0, 1) := by decide +kernel
theorem dX8_not1_26 : decode cX8_not1 26 = .ok (.ireturn, 1) := by decide +kernel
theorem dX8_not1_27 : decode cX8_not1 27 = .ok (.aload_n 0, 1) := by decide +kernel
theorem dX8_not1_28 : decode cX8_not1 28 = .ok (.invokevirtual 284, 3) := by decide +kernel
theorem dX8_not1_31 : decode cX8_not1 31 = .ok (.istore_n 1, 1) := by decide +kernel
theorem dX8_not1_32 : decode cX8_not1 32 = .ok (.aload_n 0, 1) := by decide +kernel
theorem dX8_not1_33 : decode cX8_not1 33 = .ok (.dup, 1) := by decide +kernel
theorem dX8_not1_34 : decode cX8_not1 34 = .ok (.getfield 175, 3) := by decide +kernel
theorem dX8_not1_37 : decode cX8_not1 37 = .ok (.iconst 1, 1) := by decide +kernel
theorem dX8_not1_38 : decode cX8_not1 38 = .ok (.isub, 1) := by decide +kernel
theorem dX8_not1_39 : decode cX8_not1 39 = .ok (.putfield 175, 3) := by decide +kernel
theorem dX8_not1_42 : decode cX8_not1 42 = .ok (.iload_n 1, 1) := by decide +kernel
theorem dX8_not1_43 : decode cX8_not1 43 = .ok (.ifCond .ne 7, 3) := by decide +kernel
theorem dX8_not1_46 : decode cX8_not1 46 = .ok (.iconst 1, 1) := by decide +kernel
theorem dX8_not1_47 : decode cX8_not1 47 = .ok (.goto 4, 3) := by decide +kernel
theorem dX8_not1_50 : decode cX8_not1 50 = .ok (.iconst 0, 1) := by decide +kernel
theorem dX8_not1_51 : decode cX8_not1 51 = .ok (.ireturn, 1) := by decide +kernel
theorem dX8_not1_52 : decode cX8_not1 52 = .ok (.aload_n 0, 1) := by decide +kernel
theorem dX8_not1_53 : decode cX8_not1 53 = .ok (.invokevirtual 299, 3) := by decide +kernel
theorem dX8_not1_56 : decode cX8_not1 56 = .ok (.istore_n 1, 1) := by decide +kernel
theorem dX8_not1_57 : decode cX8_not1 57 = .ok (.aload_n 0, 1) := by decide +kernel
theorem dX8_not1_58 : decode cX8_not1 58 = .ok (.bipush 60, 2) := by decide +kernel
theorem dX8_not1_60 : decode cX8_not1 60 = .ok (.invokevirtual 206, 3) := by decide +kernel
theorem dX8_not1_63 : decode cX8_not1 63 = .ok (.ifCond .ne 14, 3) := by decide +kernel
theorem dX8_not1_66 : decode cX8_not1 66 = .ok (.aload_n 0, 1) := by decide +kernel
theorem dX8_not1_67 : decode cX8_not1 67 = .ok (.bipush 61, 2) := by decide +kernel
theorem dX8_not1_69 : decode cX8_not1 69 = .ok (.invokevirtual 206, 3) := by decide +kernel
theorem dX8_not1_72 : decode cX8_not1 72 = .ok (.ifCond .ne 5, 3) := by decide +kernel
theorem dX8_not1_75 : decode cX8_not1 75 = .ok (.iload_n 1, 1) := by decide +kernel
theorem dX8_not1_76 : decode cX8_not1 76 = .ok (.ireturn, 1) := by decide +kernel
theorem dX8_not1_77 : decode cX8_not1 77 = .ok (.aload_n 0, 1) := by decide +kernel
theorem dX8_not1_78 : decode cX8_not1 78 = .ok (.getfield 160, 3) := by decide +kernel
theorem dX8_not1_81 : decode cX8_not1 81 = .ok (.ldc2_w 228, 3) := by decide +kernel
theorem dX8_not1_84 : decode cX8_not1 84 = .ok (.lcmp, 1) := by decide +kernel
theorem dX8_not1_85 : decode cX8_not1 85 = .ok (.ifCond .ne 7, 3) := by decide +kernel
theorem dX8_not1_88 : decode cX8_not1 88 = .ok (.iconst 1, 1) := by decide +kernel
theorem dX8_not1_89 : decode cX8_not1 89 = .ok (.goto 4, 3) := by decide +kernel
theorem dX8_not1_92 : decode cX8_not1 92 = .ok (.iconst 0, 1) := by decide +kernel
theorem dX8_not1_93 : decode cX8_not1 93 = .ok (.istore_n 2, 1) := by decide +kernel
theorem dX8_not1_94 : decode cX8_not1 94 = .ok (.aload_n 0, 1) := by decide +kernel
theorem dX8_not1_95 : decode cX8_not1 95 = .ok (.invokevirtual 181, 3) := by decide +kernel
theorem dX8_not1_98 : decode cX8_not1 98 = .ok (.aload_n 0, 1) := by decide +kernel
theorem dX8_not1_99 : decode cX8_not1 99 = .ok (.invokevirtual 299, 3) := by decide +kernel
theorem dX8_not1_102 : decode cX8_not1 102 = .ok (.istore_n 3, 1) := by decide +kernel
theorem dX8_not1_103 : decode cX8_not1 103 = .ok (.iload_n 2, 1) := by decide +kernel
theorem dX8_not1_104 : decode cX8_not1 104 = .ok (.ifCond .eq 11, 3) := by decide +kernel
theorem dX8_not1_107 : decode cX8_not1 107 = .ok (.iload_n 1, 1) := by decide +kernel
theorem dX8_not1_108 : decode cX8_not1 108 = .ok (.iload_n 3, 1) := by decide +kernel
theorem dX8_not1_109 : decode cX8_not1 109 = .ok (.if_icmp .ge 15, 3) := by decide +kernel
theorem dX8_not1_112 : decode cX8_not1 112 = .ok (.goto 8, 3) := by decide +kernel
theorem dX8_not1_115 : decode cX8_not1 115 = .ok (.iload_n 1, 1) := by decide +kernel
theorem dX8_not1_116 : decode cX8_not1 116 = .ok (.iload_n 3, 1) := by decide +kernel
theorem dX8_not1_117 : decode cX8_not1 117 = .ok (.if_icmp .ne 7, 3) := by decide +kernel
theorem dX8_not1_120 : decode cX8_not1 120 = .ok (.iconst 1, 1) := by decide +kernel
theorem dX8_not1_121 : decode cX8_not1 121 = .ok (.goto 4, 3) := by decide +kernel
theorem dX8_not1_124 : decode cX8_not1 124 = .ok (.iconst 0, 1) := by decide +kernel
theorem dX8_not1_125 : decode cX8_not1 125 = .ok (.ireturn, 1) := by decide +kernel
set_option maxHeartbeats 4000000 in
set_option maxRecDepth 100000 in
theorem bb_X8_not1_120 {p : Program} {l : Launch} {e : Env} {s : State} {m : MethodId} {args : Array Value} {below : List Frame} {meth : Method} {c : Code} {D : va_G} {cy : Nat → ClassId} {ad : Nat → Nat} {A : Nat → Prop} {Q : Int32 → Sg → Prop} (K : Kx p s m args meth c cX8_not1 4 RX8 D cy) (hr : meth.sig.returnType = (some .int))   (g0 : Sg) (H : Heap) (locs : List Loc) (ls : Array Slot) (hd : vv_X8_not1_J120 g0 Q) (hw : Wd D A s.heap (wsM cy ad g0) H locs) (hl : lv_has ls 4 []) : W p l e (rmD 31) s m args below meth c H locs 0 0 (MQ below (va_Qi Q (PostG (wsM cy ad) D A) A) args s 0 0 A) (F0 m 120 ls []) := by
  unfold vv_X8_not1_J120 at hd
  refine lv_iconst (v := (1 : Int32)) K.1 K.2.1 dX8_not1_120 (by decide) ?_
  refine lv_goto (tgt := 125) K.1 K.2.1 dX8_not1_121 (by decide) ?_
  exact rk_iret K hw hr hd dX8_not1_125
set_option maxHeartbeats 4000000 in
set_option maxRecDepth 100000 in
theorem bb_X8_not1_93 {p : Program} {l : Launch} {e : Env} {s : State} {m : MethodId} {args : Array Value} {below : List Frame} {meth : Method} {c : Code} {D : va_G} {cy : Nat → ClassId} {ad : Nat → Nat} {A : Nat → Prop} {Q : Int32 → Sg → Prop} (K : Kx p s m args meth c cX8_not1 4 RX8 D cy) (hr : meth.sig.returnType = (some .int)) (x1 : Int32) (t0 : Int32) (g0 : Sg) (H : Heap) (locs : List Loc) (ls : Array Slot) (hd : vv_X8_not1_J93 x1 t0 g0 Q) (hw : Wd D A s.heap (wsM cy ad g0) H locs) (hl : lv_has ls 4 [(0, .ref (ad 0)), (1, .int x1)]) : W p l e (rmD 31) s m args below meth c H locs 0 0 (MQ below (va_Qi Q (PostG (wsM cy ad) D A) A) args s 0 0 A) (F0 m 93 ls [.int t0]) := by
  unfold vv_X8_not1_J93 at hd
  refine lv_topi (fun x2_11 ex2_11 => ?_)
  have hd := hd x2_11 ex2_11
  refine lv_istore_n (lv' := [(2, .int x2_11), (0, .ref (ad 0)), (1, .int x1)]) K.1 K.2.1 dX8_not1_93 rfl hl (by decide) rfl (fun ls hl => ?_)
  refine lv_aload_n K.1 K.2.1 dX8_not1_94 rfl (lv_at hl 1 rfl) ?_
  refine rk_vv (As := []) (rest := []) K hw (cc_X8_next l D cy ad A g0 _  hd) lk_X8_181 (ci := 8) rfl (q0 := 0) (wsM_at cy ad _ (by decide)) ⟨Nat.le_of_ble_eq_true rfl, Nat.le_of_ble_eq_true rfl⟩ ⟨Nat.zero_le _, Nat.zero_le _⟩ rfl hl.1 (Nat.le_of_ble_eq_true rfl) rfl dX8_not1_95 (fun g_12 H locs hd hw => ?_)
  refine lv_aload_n K.1 K.2.1 dX8_not1_98 rfl (lv_at hl 1 rfl) ?_
  refine rk_vi (As := []) (rest := []) K hw (cc_X8_added1 l D cy ad A g_12 _  hd) lk_X8_299 (ci := 8) rfl (q0 := 0) (wsM_at cy ad _ (by decide)) ⟨Nat.le_of_ble_eq_true rfl, Nat.le_of_ble_eq_true rfl⟩ ⟨Nat.zero_le _, Nat.zero_le _⟩ rfl hl.1 (Nat.le_of_ble_eq_true rfl) rfl dX8_not1_99 (fun r_15 g_14 H locs hd hw => ?_)
  refine lv_topi (fun x3_16 ex3_16 => ?_)
  have hd := hd x3_16 ex3_16
  refine lv_istore_n (lv' := [(3, .int x3_16), (2, .int x2_11), (0, .ref (ad 0)), (1, .int x1)]) K.1 K.2.1 dX8_not1_102 rfl hl (by decide) rfl (fun ls hl => ?_)
  refine lv_iload_n K.1 K.2.1 dX8_not1_103 rfl (lv_at hl 1 rfl) ?_
  refine lv_if_eq (tgt := 115) K.1 K.2.1 dX8_not1_104 (by decide) (fun h_17 => ?_) (fun h_17 => ?_)
  · have hd := hd.1 h_17
    refine lv_iload_n K.1 K.2.1 dX8_not1_115 rfl (lv_at hl 3 rfl) ?_
    refine lv_iload_n K.1 K.2.1 dX8_not1_116 rfl (lv_at hl 0 rfl) ?_
    refine lv_icmp_ne (tgt := 124) K.1 K.2.1 dX8_not1_117 (by decide) (fun h_18 => ?_) (fun h_18 => ?_)
    · have hd := hd.1 h_18
      refine lv_iconst (v := (0 : Int32)) K.1 K.2.1 dX8_not1_124 (by decide) ?_
      exact rk_iret K hw hr hd dX8_not1_125
    · have hd := hd.2 h_18
      exact bb_X8_not1_120 K hr   g_14 _ _ _ hd hw (lv_sub hl [] rfl)
  · have hd := hd.2 h_17
    refine lv_iload_n K.1 K.2.1 dX8_not1_107 rfl (lv_at hl 3 rfl) ?_
    refine lv_iload_n K.1 K.2.1 dX8_not1_108 rfl (lv_at hl 0 rfl) ?_
    refine lv_icmp_ge (tgt := 124) K.1 K.2.1 dX8_not1_109 (by decide) (fun h_19 => ?_) (fun h_19 => ?_)
    · have hd := hd.1 h_19
      refine lv_iconst (v := (0 : Int32)) K.1 K.2.1 dX8_not1_124 (by decide) ?_
      exact rk_iret K hw hr hd dX8_not1_125
    · have hd := hd.2 h_19
      refine lv_goto (tgt := 120) K.1 K.2.1 dX8_not1_112 (by decide) ?_
      exact bb_X8_not1_120 K hr   g_14 _ _ _ hd hw (lv_sub hl [] rfl)
set_option maxHeartbeats 4000000 in
set_option maxRecDepth 100000 in
theorem bb_X8_not1_77 {p : Program} {l : Launch} {e : Env} {s : State} {m : MethodId} {args : Array Value} {below : List Frame} {meth : Method} {c : Code} {D : va_G} {cy : Nat → ClassId} {ad : Nat → Nat} {A : Nat → Prop} {Q : Int32 → Sg → Prop} (K : Kx p s m args meth c cX8_not1 4 RX8 D cy) (hr : meth.sig.returnType = (some .int)) (x1 : Int32)  (g0 : Sg) (H : Heap) (locs : List Loc) (ls : Array Slot) (hd : vv_X8_not1_J77 x1 g0 Q) (hw : Wd D A s.heap (wsM cy ad g0) H locs) (hl : lv_has ls 4 [(0, .ref (ad 0)), (1, .int x1)]) : W p l e (rmD 31) s m args below meth c H locs 0 0 (MQ below (va_Qi Q (PostG (wsM cy ad) D A) A) args s 0 0 A) (F0 m 77 ls []) := by
  unfold vv_X8_not1_J77 at hd
  refine lv_aload_n K.1 K.2.1 dX8_not1_77 rfl (lv_at hl 0 rfl) ?_
  refine rm_get 23 K hw (by decide) kf_X8_160 rfl dX8_not1_78 ?_
  refine lv_ldc2 K.1 K.2.1 K.2.2.2.1 (K.2.2.2.2.1 _ kl_X8_228) dX8_not1_81 ?_
  refine W.lcmp K.1 K.2.1 dX8_not1_84 ?_
  refine lv_if_ne (tgt := 92) K.1 K.2.1 dX8_not1_85 (by decide) (fun h_10 => ?_) (fun h_10 => ?_)
  · have hd := hd.1 h_10
    refine lv_iconst (v := (0 : Int32)) K.1 K.2.1 dX8_not1_92 (by decide) ?_
    exact bb_X8_not1_93 K hr  x1 (0 : Int32) g0 _ _ _ hd hw (lv_sub hl [0, 1] rfl)
  · have hd := hd.2 h_10
    refine lv_iconst (v := (1 : Int32)) K.1 K.2.1 dX8_not1_88 (by decide) ?_
    refine lv_goto (tgt := 93) K.1 K.2.1 dX8_not1_89 (by decide) ?_
    exact bb_X8_not1_93 K hr  x1 (1 : Int32) g0 _ _ _ hd hw (lv_sub hl [0, 1] rfl)
set_option maxHeartbeats 4000000 in
set_option maxRecDepth 100000 in
theorem cc_X8_not1 (l : Launch) (D : va_G) (cy : Nat → ClassId) (ad : Nat → Nat) (A : Nat → Prop) (g0 : Sg) (Q : Int32 → Sg → Prop)  (hd : vv_X8_not1  g0 Q) : Met l yX8_not1 (Cond.code yX8_not1 cX8_not1 4 (some .int) :: TT) (rmD 31) (va_Pc [.ref (ad 0)] (PreG (wsM cy ad) D cy A g0)) (va_Qi Q (PostG (wsM cy ad) D A) A) 0 0 A := by
  unfold vv_X8_not1 at hd
  refine Met.ofW (cc := cX8_not1) (maxL := 4) (ret := (some .int)) (by decide) rfl ?_
  intro p e s m args below meth c s₁ B hml hv
  obtain ⟨rfl, hP, hK0, hD⟩ := hv
  have K : Kx p s m _ meth c cX8_not1 4 RX8 D cy := ⟨B.exec, B.bytes, hml, findClass_of_methodNamed B.named, fun w h => atoms_spec (ws := Cond.code yX8_not1 cX8_not1 4 (some .int) :: TT) B.pre w (List.mem_cons_of_mem _ h), hK0, B.notSynchronized⟩
  have hw : Wd D A s.heap (wsM cy ad g0) s.heap [] := ⟨hP, hD, va_S.rf⟩
  have hr := B.returns
  have hl := lv_entry ([.ref (ad 0)]) (n := 4) (Nat.le_of_ble_eq_true rfl)
  rw [lg_entry_eq]
  generalize (lg_sl ([.ref (ad 0)]) ++ List.replicate (4 - (lg_sl ([.ref (ad 0)])).length) Slot.unset).toArray = ls at hl ⊢
  have hl : lv_has ls 4 [(0, .ref (ad 0))] := hl
  refine lv_aload_n K.1 K.2.1 dX8_not1_0 rfl (lv_at hl 0 rfl) ?_
  refine lv_bipush (v := (110 : Int32)) K.1 K.2.1 dX8_not1_1 (by decide) ?_
  refine lv_bipush (v := (111 : Int32)) K.1 K.2.1 dX8_not1_3 (by decide) ?_
  refine lv_bipush (v := (116 : Int32)) K.1 K.2.1 dX8_not1_5 (by decide) ?_
  refine lv_iconst (v := (0 : Int32)) K.1 K.2.1 dX8_not1_7 (by decide) ?_
  refine lv_iconst (v := (0 : Int32)) K.1 K.2.1 dX8_not1_8 (by decide) ?_
  refine lv_iconst (v := (0 : Int32)) K.1 K.2.1 dX8_not1_9 (by decide) ?_
  refine lv_iconst (v := (0 : Int32)) K.1 K.2.1 dX8_not1_10 (by decide) ?_
  refine lv_iconst (v := (0 : Int32)) K.1 K.2.1 dX8_not1_11 (by decide) ?_
  refine rk_vi (As := [.int (110 : Int32), .int (111 : Int32), .int (116 : Int32), .int (0 : Int32), .int (0 : Int32), .int (0 : Int32), .int (0 : Int32), .int (0 : Int32)]) (rest := []) K hw (cc_X8_isWord l D cy ad A g0 _ (110 : Int32) (111 : Int32) (116 : Int32) (0 : Int32) (0 : Int32) (0 : Int32) (0 : Int32) (0 : Int32) hd) lk_X8_184 (ci := 8) rfl (q0 := 0) (wsM_at cy ad _ (by decide)) ⟨Nat.le_of_ble_eq_true rfl, Nat.le_of_ble_eq_true rfl⟩ ⟨Nat.zero_le _, Nat.zero_le _⟩ rfl hl.1 (Nat.le_of_ble_eq_true rfl) rfl dX8_not1_12 (fun r_2 g_1 H locs hd hw => ?_)
  refine lv_if_eq (tgt := 52) K.1 K.2.1 dX8_not1_15 (by decide) (fun h_3 => ?_) (fun h_3 => ?_)
  · have hd := hd.1 h_3
    refine lv_aload_n K.1 K.2.1 dX8_not1_52 rfl (lv_at hl 0 rfl) ?_
    refine rk_vi (As := []) (rest := []) K hw (cc_X8_added1 l D cy ad A g_1 _  hd) lk_X8_299 (ci := 8) rfl (q0 := 0) (wsM_at cy ad _ (by decide)) ⟨Nat.le_of_ble_eq_true rfl, Nat.le_of_ble_eq_true rfl⟩ ⟨Nat.zero_le _, Nat.zero_le _⟩ rfl hl.1 (Nat.le_of_ble_eq_true rfl) rfl dX8_not1_53 (fun r_5 g_4 H locs hd hw => ?_)
    refine lv_topi (fun x1_6 ex1_6 => ?_)
    have hd := hd x1_6 ex1_6
    refine lv_istore_n (lv' := [(1, .int x1_6), (0, .ref (ad 0))]) K.1 K.2.1 dX8_not1_56 rfl hl (by decide) rfl (fun ls hl => ?_)
    refine lv_aload_n K.1 K.2.1 dX8_not1_57 rfl (lv_at hl 1 rfl) ?_
    refine lv_bipush (v := (60 : Int32)) K.1 K.2.1 dX8_not1_58 (by decide) ?_
    refine rk_vi (As := [.int (60 : Int32)]) (rest := []) K hw (cc_X8_isSign l D cy ad A g_4 _ (60 : Int32) hd) lk_X8_206 (ci := 8) rfl (q0 := 0) (wsM_at cy ad _ (by decide)) ⟨Nat.le_of_ble_eq_true rfl, Nat.le_of_ble_eq_true rfl⟩ ⟨Nat.zero_le _, Nat.zero_le _⟩ rfl hl.1 (Nat.le_of_ble_eq_true rfl) rfl dX8_not1_60 (fun r_8 g_7 H locs hd hw => ?_)
    refine lv_if_ne (tgt := 77) K.1 K.2.1 dX8_not1_63 (by decide) (fun h_9 => ?_) (fun h_9 => ?_)
    · have hd := hd.1 h_9
      exact bb_X8_not1_77 K hr  x1_6 g_7 _ _ _ hd hw (lv_sub hl [1, 0] rfl)
    · have hd := hd.2 h_9
      refine lv_aload_n K.1 K.2.1 dX8_not1_66 rfl (lv_at hl 1 rfl) ?_
      refine lv_bipush (v := (61 : Int32)) K.1 K.2.1 dX8_not1_67 (by decide) ?_
      refine rk_vi (As := [.int (61 : Int32)]) (rest := []) K hw (cc_X8_isSign l D cy ad A g_7 _ (61 : Int32) hd) lk_X8_206 (ci := 8) rfl (q0 := 0) (wsM_at cy ad _ (by decide)) ⟨Nat.le_of_ble_eq_true rfl, Nat.le_of_ble_eq_true rfl⟩ ⟨Nat.zero_le _, Nat.zero_le _⟩ rfl hl.1 (Nat.le_of_ble_eq_true rfl) rfl dX8_not1_69 (fun r_21 g_20 H locs hd hw => ?_)
      refine lv_if_ne (tgt := 77) K.1 K.2.1 dX8_not1_72 (by decide) (fun h_22 => ?_) (fun h_22 => ?_)
      · have hd := hd.1 h_22
        exact bb_X8_not1_77 K hr  x1_6 g_20 _ _ _ hd hw (lv_sub hl [1, 0] rfl)
      · have hd := hd.2 h_22
        refine lv_iload_n K.1 K.2.1 dX8_not1_75 rfl (lv_at hl 0 rfl) ?_
        exact rk_iret K hw hr hd dX8_not1_76
  · have hd := hd.2 h_3
    refine lv_aload_n K.1 K.2.1 dX8_not1_18 rfl (lv_at hl 0 rfl) ?_
    refine rk_vi (As := []) (rest := []) K hw (cc_X8_opens l D cy ad A g_1 _  hd) lk_X8_209 (ci := 8) rfl (q0 := 0) (wsM_at cy ad _ (by decide)) ⟨Nat.le_of_ble_eq_true rfl, Nat.le_of_ble_eq_true rfl⟩ ⟨Nat.zero_le _, Nat.zero_le _⟩ rfl hl.1 (Nat.le_of_ble_eq_true rfl) rfl dX8_not1_19 (fun r_24 g_23 H locs hd hw => ?_)
    refine lv_if_ne (tgt := 27) K.1 K.2.1 dX8_not1_22 (by decide) (fun h_25 => ?_) (fun h_25 => ?_)
    · have hd := hd.1 h_25
      refine lv_aload_n K.1 K.2.1 dX8_not1_27 rfl (lv_at hl 0 rfl) ?_
      refine rk_vi (As := []) (rest := []) K hw (cc_X8_not2 l D cy ad A g_23 _  hd) lk_X8_284 (ci := 8) rfl (q0 := 0) (wsM_at cy ad _ (by decide)) ⟨Nat.le_of_ble_eq_true rfl, Nat.le_of_ble_eq_true rfl⟩ ⟨Nat.zero_le _, Nat.zero_le _⟩ rfl hl.1 (Nat.le_of_ble_eq_true rfl) rfl dX8_not1_28 (fun r_27 g_26 H locs hd hw => ?_)
      refine lv_topi (fun x1_28 ex1_28 => ?_)
      have hd := hd x1_28 ex1_28
      refine lv_istore_n (lv' := [(1, .int x1_28), (0, .ref (ad 0))]) K.1 K.2.1 dX8_not1_31 rfl hl (by decide) rfl (fun ls hl => ?_)
      refine lv_aload_n K.1 K.2.1 dX8_not1_32 rfl (lv_at hl 1 rfl) ?_
      refine lv_dup K.1 K.2.1 dX8_not1_33 rfl ?_
      refine rm_get 24 K hw (by decide) kf_X8_175 rfl dX8_not1_34 ?_
      refine lv_iconst (v := (1 : Int32)) K.1 K.2.1 dX8_not1_37 (by decide) ?_
      refine lv_isub K.1 K.2.1 dX8_not1_38 ?_
      refine rm_put 24 K hw (by decide) kf_X8_175 rfl rfl rfl rfl (fsM_24 ad g_26 _) dX8_not1_39 (fun g_29 eg_29 H locs hw => ?_)
      have hd := hd g_29 eg_29
      refine lv_iload_n K.1 K.2.1 dX8_not1_42 rfl (lv_at hl 0 rfl) ?_
      refine lv_if_ne (tgt := 50) K.1 K.2.1 dX8_not1_43 (by decide) (fun h_30 => ?_) (fun h_30 => ?_)
      · have hd := hd.1 h_30
        refine lv_iconst (v := (0 : Int32)) K.1 K.2.1 dX8_not1_50 (by decide) ?_
        exact rk_iret K hw hr hd dX8_not1_51
      · have hd := hd.2 h_30
        refine lv_iconst (v := (1 : Int32)) K.1 K.2.1 dX8_not1_46 (by decide) ?_
        refine lv_goto (tgt := 51) K.1 K.2.1 dX8_not1_47 (by decide) ?_
        exact rk_iret K hw hr hd dX8_not1_51
    · have hd := hd.2 h_25
      refine lv_iconst (v := (0 : Int32)) K.1 K.2.1 dX8_not1_25 (by decide) ?_
      exact rk_iret K hw hr hd dX8_not1_26
theorem dX8_both1_0 : decode cX8_both1 0 = .ok (.aload_n 0, 1) := by decide +kernel
theorem dX8_both1_1 : decode cX8_both1 1 = .ok (.invokevirtual 302, 3) := by decide +kernel
theorem dX8_both1_4 : decode cX8_both1 4 = .ok (.istore_n 1, 1) := by decide +kernel
theorem dX8_both1_5 : decode cX8_both1 5 = .ok (.aload_n 0, 1) := by decide +kernel
theorem dX8_both1_6 : decode cX8_both1 6 = .ok (.bipush 97, 2) := by decide +kernel
theorem dX8_both1_8 : decode cX8_both1 8 = .ok (.bipush 110, 2) := by decide +kernel
theorem dX8_both1_10 : decode cX8_both1 10 = .ok (.bipush 100, 2) := by decide +kernel
theorem dX8_both1_12 : decode cX8_both1 12 = .ok (.iconst 0, 1) := by decide +kernel
theorem dX8_both1_13 : decode cX8_both1 13 = .ok (.iconst 0, 1) := by decide +kernel
theorem dX8_both1_14 : decode cX8_both1 14 = .ok (.iconst 0, 1) := by decide +kernel
theorem dX8_both1_15 : decode cX8_both1 15 = .ok (.iconst 0, 1) := by decide +kernel
theorem dX8_both1_16 : decode cX8_both1 16 = .ok (.iconst 0, 1) := by decide +kernel
theorem dX8_both1_17 : decode cX8_both1 17 = .ok (.invokevirtual 184, 3) := by decide +kernel
theorem dX8_both1_20 : decode cX8_both1 20 = .ok (.ifCond .eq 29, 3) := by decide +kernel
theorem dX8_both1_23 : decode cX8_both1 23 = .ok (.aload_n 0, 1) := by decide +kernel
theorem dX8_both1_24 : decode cX8_both1 24 = .ok (.invokevirtual 181, 3) := by decide +kernel
theorem dX8_both1_27 : decode cX8_both1 27 = .ok (.aload_n 0, 1) := by decide +kernel
theorem dX8_both1_28 : decode cX8_both1 28 = .ok (.invokevirtual 302, 3) := by decide +kernel
theorem dX8_both1_31 : decode cX8_both1 31 = .ok (.istore_n 2, 1) := by decide +kernel
theorem dX8_both1_32 : decode cX8_both1 32 = .ok (.iload_n 1, 1) := by decide +kernel
theorem dX8_both1_33 : decode cX8_both1 33 = .ok (.ifCond .eq 11, 3) := by decide +kernel
theorem dX8_both1_36 : decode cX8_both1 36 = .ok (.iload_n 2, 1) := by decide +kernel
theorem dX8_both1_37 : decode cX8_both1 37 = .ok (.ifCond .eq 7, 3) := by decide +kernel
theorem dX8_both1_40 : decode cX8_both1 40 = .ok (.iconst 1, 1) := by decide +kernel
theorem dX8_both1_41 : decode cX8_both1 41 = .ok (.goto 4, 3) := by decide +kernel
theorem dX8_both1_44 : decode cX8_both1 44 = .ok (.iconst 0, 1) := by decide +kernel
theorem dX8_both1_45 : decode cX8_both1 45 = .ok (.istore_n 1, 1) := by decide +kernel
theorem dX8_both1_46 : decode cX8_both1 46 = .ok (.goto (-41), 3) := by decide +kernel
theorem dX8_both1_49 : decode cX8_both1 49 = .ok (.iload_n 1, 1) := by decide +kernel
theorem dX8_both1_50 : decode cX8_both1 50 = .ok (.ireturn, 1) := by decide +kernel
set_option maxHeartbeats 4000000 in
set_option maxRecDepth 100000 in
theorem bb_X8_both1_45 {p : Program} {l : Launch} {e : Env} {s : State} {m : MethodId} {args : Array Value} {below : List Frame} {meth : Method} {c : Code} {D : va_G} {cy : Nat → ClassId} {ad : Nat → Nat} {A : Nat → Prop} {Q : Int32 → Sg → Prop} (K : Kx p s m args meth c cX8_both1 3 RX8 D cy) (hr : meth.sig.returnType = (some .int)) {rc5 : Int32 → Sg → Prop} (hrc5 : ∀ (x1 : Int32) (u : Sg) (H : Heap) (locs : List Loc) (ls : Array Slot), rc5 x1 u → Wd D A s.heap (wsM cy ad u) H locs → lv_has ls 3 [(0, .ref (ad 0)), (1, .int x1)] → W p l e (rmD 32) s m args below meth c H locs 0 0 (MQ below (va_Qi Q (PostG (wsM cy ad) D A) A) args s 0 0 A) (F0 m 5 ls []))  (t0 : Int32) (g0 : Sg) (H : Heap) (locs : List Loc) (ls : Array Slot) (hd : vv_X8_both1_J45 rc5 t0 g0 Q) (hw : Wd D A s.heap (wsM cy ad g0) H locs) (hl : lv_has ls 3 [(0, .ref (ad 0))]) : W p l e (rmD 32) s m args below meth c H locs 0 0 (MQ below (va_Qi Q (PostG (wsM cy ad) D A) A) args s 0 0 A) (F0 m 45 ls [.int t0]) := by
  unfold vv_X8_both1_J45 at hd
  refine lv_topi (fun x1_13 ex1_13 => ?_)
  have hd := hd x1_13 ex1_13
  refine lv_istore_n (lv' := [(1, .int x1_13), (0, .ref (ad 0))]) K.1 K.2.1 dX8_both1_45 rfl hl (by decide) rfl (fun ls hl => ?_)
  refine lv_goto (tgt := 5) K.1 K.2.1 dX8_both1_46 (by decide) ?_
  exact hrc5 x1_13 g0 _ _ _ hd hw (lv_sub hl [1, 0] rfl)
set_option maxHeartbeats 4000000 in
set_option maxRecDepth 100000 in
theorem bb_X8_both1_44 {p : Program} {l : Launch} {e : Env} {s : State} {m : MethodId} {args : Array Value} {below : List Frame} {meth : Method} {c : Code} {D : va_G} {cy : Nat → ClassId} {ad : Nat → Nat} {A : Nat → Prop} {Q : Int32 → Sg → Prop} (K : Kx p s m args meth c cX8_both1 3 RX8 D cy) (hr : meth.sig.returnType = (some .int)) {rc5 : Int32 → Sg → Prop} (hrc5 : ∀ (x1 : Int32) (u : Sg) (H : Heap) (locs : List Loc) (ls : Array Slot), rc5 x1 u → Wd D A s.heap (wsM cy ad u) H locs → lv_has ls 3 [(0, .ref (ad 0)), (1, .int x1)] → W p l e (rmD 32) s m args below meth c H locs 0 0 (MQ below (va_Qi Q (PostG (wsM cy ad) D A) A) args s 0 0 A) (F0 m 5 ls []))   (g0 : Sg) (H : Heap) (locs : List Loc) (ls : Array Slot) (hd : vv_X8_both1_J44 rc5 g0 Q) (hw : Wd D A s.heap (wsM cy ad g0) H locs) (hl : lv_has ls 3 [(0, .ref (ad 0))]) : W p l e (rmD 32) s m args below meth c H locs 0 0 (MQ below (va_Qi Q (PostG (wsM cy ad) D A) A) args s 0 0 A) (F0 m 44 ls []) := by
  unfold vv_X8_both1_J44 at hd
  refine lv_iconst (v := (0 : Int32)) K.1 K.2.1 dX8_both1_44 (by decide) ?_
  exact bb_X8_both1_45 K hr hrc5 (0 : Int32) g0 _ _ _ hd hw (lv_sub hl [0] rfl)
set_option maxHeartbeats 4000000 in
set_option maxRecDepth 100000 in
theorem bb_X8_both1_5 {p : Program} {l : Launch} {e : Env} {s : State} {m : MethodId} {args : Array Value} {below : List Frame} {meth : Method} {c : Code} {D : va_G} {cy : Nat → ClassId} {ad : Nat → Nat} {A : Nat → Prop} {Q : Int32 → Sg → Prop} (K : Kx p s m args meth c cX8_both1 3 RX8 D cy) (hr : meth.sig.returnType = (some .int)) : ∀ (n : Nat) (x1 : Int32)  (g0 : Sg) (H : Heap) (locs : List Loc) (ls : Array Slot), vv_X8_both1_L5 Q n x1 g0 → Wd D A s.heap (wsM cy ad g0) H locs → lv_has ls 3 [(0, .ref (ad 0)), (1, .int x1)] → W p l e (rmD 32) s m args below meth c H locs 0 0 (MQ below (va_Qi Q (PostG (wsM cy ad) D A) A) args s 0 0 A) (F0 m 5 ls []) := by
  intro n
  induction n with
  | zero => intro _ _ _ _ _ hd; exact hd.elim
  | succ n ih =>
    intro x1 g0 H locs ls hd hw hl
    unfold vv_X8_both1_L5 at hd
    refine lv_aload_n K.1 K.2.1 dX8_both1_5 rfl (lv_at hl 0 rfl) ?_
    refine lv_bipush (v := (97 : Int32)) K.1 K.2.1 dX8_both1_6 (by decide) ?_
    refine lv_bipush (v := (110 : Int32)) K.1 K.2.1 dX8_both1_8 (by decide) ?_
    refine lv_bipush (v := (100 : Int32)) K.1 K.2.1 dX8_both1_10 (by decide) ?_
    refine lv_iconst (v := (0 : Int32)) K.1 K.2.1 dX8_both1_12 (by decide) ?_
    refine lv_iconst (v := (0 : Int32)) K.1 K.2.1 dX8_both1_13 (by decide) ?_
    refine lv_iconst (v := (0 : Int32)) K.1 K.2.1 dX8_both1_14 (by decide) ?_
    refine lv_iconst (v := (0 : Int32)) K.1 K.2.1 dX8_both1_15 (by decide) ?_
    refine lv_iconst (v := (0 : Int32)) K.1 K.2.1 dX8_both1_16 (by decide) ?_
    refine rk_vi (As := [.int (97 : Int32), .int (110 : Int32), .int (100 : Int32), .int (0 : Int32), .int (0 : Int32), .int (0 : Int32), .int (0 : Int32), .int (0 : Int32)]) (rest := []) K hw (cc_X8_isWord l D cy ad A g0 _ (97 : Int32) (110 : Int32) (100 : Int32) (0 : Int32) (0 : Int32) (0 : Int32) (0 : Int32) (0 : Int32) hd) lk_X8_184 (ci := 8) rfl (q0 := 0) (wsM_at cy ad _ (by decide)) ⟨Nat.le_of_ble_eq_true rfl, Nat.le_of_ble_eq_true rfl⟩ ⟨Nat.zero_le _, Nat.zero_le _⟩ rfl hl.1 (Nat.le_of_ble_eq_true rfl) rfl dX8_both1_17 (fun r_5 g_4 H locs hd hw => ?_)
    refine lv_if_eq (tgt := 49) K.1 K.2.1 dX8_both1_20 (by decide) (fun h_6 => ?_) (fun h_6 => ?_)
    · have hd := hd.1 h_6
      refine lv_iload_n K.1 K.2.1 dX8_both1_49 rfl (lv_at hl 1 rfl) ?_
      exact rk_iret K hw hr hd dX8_both1_50
    · have hd := hd.2 h_6
      refine lv_aload_n K.1 K.2.1 dX8_both1_23 rfl (lv_at hl 0 rfl) ?_
      refine rk_vv (As := []) (rest := []) K hw (cc_X8_next l D cy ad A g_4 _  hd) lk_X8_181 (ci := 8) rfl (q0 := 0) (wsM_at cy ad _ (by decide)) ⟨Nat.le_of_ble_eq_true rfl, Nat.le_of_ble_eq_true rfl⟩ ⟨Nat.zero_le _, Nat.zero_le _⟩ rfl hl.1 (Nat.le_of_ble_eq_true rfl) rfl dX8_both1_24 (fun g_7 H locs hd hw => ?_)
      refine lv_aload_n K.1 K.2.1 dX8_both1_27 rfl (lv_at hl 0 rfl) ?_
      refine rk_vi (As := []) (rest := []) K hw (cc_X8_not1 l D cy ad A g_7 _  hd) lk_X8_302 (ci := 8) rfl (q0 := 0) (wsM_at cy ad _ (by decide)) ⟨Nat.le_of_ble_eq_true rfl, Nat.le_of_ble_eq_true rfl⟩ ⟨Nat.zero_le _, Nat.zero_le _⟩ rfl hl.1 (Nat.le_of_ble_eq_true rfl) rfl dX8_both1_28 (fun r_10 g_9 H locs hd hw => ?_)
      refine lv_topi (fun x2_11 ex2_11 => ?_)
      have hd := hd x2_11 ex2_11
      refine lv_istore_n (lv' := [(2, .int x2_11), (0, .ref (ad 0)), (1, .int x1)]) K.1 K.2.1 dX8_both1_31 rfl hl (by decide) rfl (fun ls hl => ?_)
      refine lv_iload_n K.1 K.2.1 dX8_both1_32 rfl (lv_at hl 2 rfl) ?_
      refine lv_if_eq (tgt := 44) K.1 K.2.1 dX8_both1_33 (by decide) (fun h_12 => ?_) (fun h_12 => ?_)
      · have hd := hd.1 h_12
        exact bb_X8_both1_44 K hr ih  g_9 _ _ _ hd hw (lv_sub hl [1] rfl)
      · have hd := hd.2 h_12
        refine lv_iload_n K.1 K.2.1 dX8_both1_36 rfl (lv_at hl 0 rfl) ?_
        refine lv_if_eq (tgt := 44) K.1 K.2.1 dX8_both1_37 (by decide) (fun h_14 => ?_) (fun h_14 => ?_)
        · have hd := hd.1 h_14
          exact bb_X8_both1_44 K hr ih  g_9 _ _ _ hd hw (lv_sub hl [1] rfl)
        · have hd := hd.2 h_14
          refine lv_iconst (v := (1 : Int32)) K.1 K.2.1 dX8_both1_40 (by decide) ?_
          refine lv_goto (tgt := 45) K.1 K.2.1 dX8_both1_41 (by decide) ?_
          exact bb_X8_both1_45 K hr ih (1 : Int32) g_9 _ _ _ hd hw (lv_sub hl [1] rfl)
set_option maxHeartbeats 4000000 in
set_option maxRecDepth 100000 in
theorem cc_X8_both1 (l : Launch) (D : va_G) (cy : Nat → ClassId) (ad : Nat → Nat) (A : Nat → Prop) (g0 : Sg) (Q : Int32 → Sg → Prop)  (hd : vv_X8_both1  g0 Q) : Met l yX8_both1 (Cond.code yX8_both1 cX8_both1 3 (some .int) :: TT) (rmD 32) (va_Pc [.ref (ad 0)] (PreG (wsM cy ad) D cy A g0)) (va_Qi Q (PostG (wsM cy ad) D A) A) 0 0 A := by
  unfold vv_X8_both1 at hd
  refine Met.ofW (cc := cX8_both1) (maxL := 3) (ret := (some .int)) (by decide) rfl ?_
  intro p e s m args below meth c s₁ B hml hv
  obtain ⟨rfl, hP, hK0, hD⟩ := hv
  have K : Kx p s m _ meth c cX8_both1 3 RX8 D cy := ⟨B.exec, B.bytes, hml, findClass_of_methodNamed B.named, fun w h => atoms_spec (ws := Cond.code yX8_both1 cX8_both1 3 (some .int) :: TT) B.pre w (List.mem_cons_of_mem _ h), hK0, B.notSynchronized⟩
  have hw : Wd D A s.heap (wsM cy ad g0) s.heap [] := ⟨hP, hD, va_S.rf⟩
  have hr := B.returns
  have hl := lv_entry ([.ref (ad 0)]) (n := 3) (Nat.le_of_ble_eq_true rfl)
  rw [lg_entry_eq]
  generalize (lg_sl ([.ref (ad 0)]) ++ List.replicate (3 - (lg_sl ([.ref (ad 0)])).length) Slot.unset).toArray = ls at hl ⊢
  have hl : lv_has ls 3 [(0, .ref (ad 0))] := hl
  refine lv_aload_n K.1 K.2.1 dX8_both1_0 rfl (lv_at hl 0 rfl) ?_
  refine rk_vi (As := []) (rest := []) K hw (cc_X8_not1 l D cy ad A g0 _  hd) lk_X8_302 (ci := 8) rfl (q0 := 0) (wsM_at cy ad _ (by decide)) ⟨Nat.le_of_ble_eq_true rfl, Nat.le_of_ble_eq_true rfl⟩ ⟨Nat.zero_le _, Nat.zero_le _⟩ rfl hl.1 (Nat.le_of_ble_eq_true rfl) rfl dX8_both1_1 (fun r_2 g_1 H locs hd hw => ?_)
  refine lv_topi (fun x1_3 ex1_3 => ?_)
  have hd := hd x1_3 ex1_3
  refine lv_istore_n (lv' := [(1, .int x1_3), (0, .ref (ad 0))]) K.1 K.2.1 dX8_both1_4 rfl hl (by decide) rfl (fun ls hl => ?_)
  obtain ⟨n9, hd⟩ := hd
  exact bb_X8_both1_5 K hr  n9 x1_3 g_1 _ _ _ hd hw (lv_sub hl [1, 0] rfl)
theorem dX8_either1_0 : decode cX8_either1 0 = .ok (.aload_n 0, 1) := by decide +kernel
theorem dX8_either1_1 : decode cX8_either1 1 = .ok (.invokevirtual 305, 3) := by decide +kernel
theorem dX8_either1_4 : decode cX8_either1 4 = .ok (.istore_n 1, 1) := by decide +kernel
theorem dX8_either1_5 : decode cX8_either1 5 = .ok (.aload_n 0, 1) := by decide +kernel
theorem dX8_either1_6 : decode cX8_either1 6 = .ok (.bipush 111, 2) := by decide +kernel
theorem dX8_either1_8 : decode cX8_either1 8 = .ok (.bipush 114, 2) := by decide +kernel
theorem dX8_either1_10 : decode cX8_either1 10 = .ok (.iconst 0, 1) := by decide +kernel
theorem dX8_either1_11 : decode cX8_either1 11 = .ok (.iconst 0, 1) := by decide +kernel
theorem dX8_either1_12 : decode cX8_either1 12 = .ok (.iconst 0, 1) := by decide +kernel
theorem dX8_either1_13 : decode cX8_either1 13 = .ok (.iconst 0, 1) := by decide +kernel
theorem dX8_either1_14 : decode cX8_either1 14 = .ok (.iconst 0, 1) := by decide +kernel
theorem dX8_either1_15 : decode cX8_either1 15 = .ok (.iconst 0, 1) := by decide +kernel
theorem dX8_either1_16 : decode cX8_either1 16 = .ok (.invokevirtual 184, 3) := by decide +kernel
theorem dX8_either1_19 : decode cX8_either1 19 = .ok (.ifCond .eq 29, 3) := by decide +kernel
theorem dX8_either1_22 : decode cX8_either1 22 = .ok (.aload_n 0, 1) := by decide +kernel
theorem dX8_either1_23 : decode cX8_either1 23 = .ok (.invokevirtual 181, 3) := by decide +kernel
theorem dX8_either1_26 : decode cX8_either1 26 = .ok (.aload_n 0, 1) := by decide +kernel
theorem dX8_either1_27 : decode cX8_either1 27 = .ok (.invokevirtual 305, 3) := by decide +kernel
theorem dX8_either1_30 : decode cX8_either1 30 = .ok (.istore_n 2, 1) := by decide +kernel
theorem dX8_either1_31 : decode cX8_either1 31 = .ok (.iload_n 1, 1) := by decide +kernel
theorem dX8_either1_32 : decode cX8_either1 32 = .ok (.ifCond .ne 7, 3) := by decide +kernel
theorem dX8_either1_35 : decode cX8_either1 35 = .ok (.iload_n 2, 1) := by decide +kernel
theorem dX8_either1_36 : decode cX8_either1 36 = .ok (.ifCond .eq 7, 3) := by decide +kernel
theorem dX8_either1_39 : decode cX8_either1 39 = .ok (.iconst 1, 1) := by decide +kernel
theorem dX8_either1_40 : decode cX8_either1 40 = .ok (.goto 4, 3) := by decide +kernel
theorem dX8_either1_43 : decode cX8_either1 43 = .ok (.iconst 0, 1) := by decide +kernel
theorem dX8_either1_44 : decode cX8_either1 44 = .ok (.istore_n 1, 1) := by decide +kernel
theorem dX8_either1_45 : decode cX8_either1 45 = .ok (.goto (-40), 3) := by decide +kernel
theorem dX8_either1_48 : decode cX8_either1 48 = .ok (.iload_n 1, 1) := by decide +kernel
theorem dX8_either1_49 : decode cX8_either1 49 = .ok (.ireturn, 1) := by decide +kernel
set_option maxHeartbeats 4000000 in
set_option maxRecDepth 100000 in
theorem bb_X8_either1_44 {p : Program} {l : Launch} {e : Env} {s : State} {m : MethodId} {args : Array Value} {below : List Frame} {meth : Method} {c : Code} {D : va_G} {cy : Nat → ClassId} {ad : Nat → Nat} {A : Nat → Prop} {Q : Int32 → Sg → Prop} (K : Kx p s m args meth c cX8_either1 3 RX8 D cy) (hr : meth.sig.returnType = (some .int)) {rc5 : Int32 → Sg → Prop} (hrc5 : ∀ (x1 : Int32) (u : Sg) (H : Heap) (locs : List Loc) (ls : Array Slot), rc5 x1 u → Wd D A s.heap (wsM cy ad u) H locs → lv_has ls 3 [(0, .ref (ad 0)), (1, .int x1)] → W p l e (rmD 33) s m args below meth c H locs 0 0 (MQ below (va_Qi Q (PostG (wsM cy ad) D A) A) args s 0 0 A) (F0 m 5 ls []))  (t0 : Int32) (g0 : Sg) (H : Heap) (locs : List Loc) (ls : Array Slot) (hd : vv_X8_either1_J44 rc5 t0 g0 Q) (hw : Wd D A s.heap (wsM cy ad g0) H locs) (hl : lv_has ls 3 [(0, .ref (ad 0))]) : W p l e (rmD 33) s m args below meth c H locs 0 0 (MQ below (va_Qi Q (PostG (wsM cy ad) D A) A) args s 0 0 A) (F0 m 44 ls [.int t0]) := by
  unfold vv_X8_either1_J44 at hd
  refine lv_topi (fun x1_13 ex1_13 => ?_)
  have hd := hd x1_13 ex1_13
  refine lv_istore_n (lv' := [(1, .int x1_13), (0, .ref (ad 0))]) K.1 K.2.1 dX8_either1_44 rfl hl (by decide) rfl (fun ls hl => ?_)
  refine lv_goto (tgt := 5) K.1 K.2.1 dX8_either1_45 (by decide) ?_
  exact hrc5 x1_13 g0 _ _ _ hd hw (lv_sub hl [1, 0] rfl)
set_option maxHeartbeats 4000000 in
set_option maxRecDepth 100000 in
theorem bb_X8_either1_39 {p : Program} {l : Launch} {e : Env} {s : State} {m : MethodId} {args : Array Value} {below : List Frame} {meth : Method} {c : Code} {D : va_G} {cy : Nat → ClassId} {ad : Nat → Nat} {A : Nat → Prop} {Q : Int32 → Sg → Prop} (K : Kx p s m args meth c cX8_either1 3 RX8 D cy) (hr : meth.sig.returnType = (some .int)) {rc5 : Int32 → Sg → Prop} (hrc5 : ∀ (x1 : Int32) (u : Sg) (H : Heap) (locs : List Loc) (ls : Array Slot), rc5 x1 u → Wd D A s.heap (wsM cy ad u) H locs → lv_has ls 3 [(0, .ref (ad 0)), (1, .int x1)] → W p l e (rmD 33) s m args below meth c H locs 0 0 (MQ below (va_Qi Q (PostG (wsM cy ad) D A) A) args s 0 0 A) (F0 m 5 ls []))   (g0 : Sg) (H : Heap) (locs : List Loc) (ls : Array Slot) (hd : vv_X8_either1_J39 rc5 g0 Q) (hw : Wd D A s.heap (wsM cy ad g0) H locs) (hl : lv_has ls 3 [(0, .ref (ad 0))]) : W p l e (rmD 33) s m args below meth c H locs 0 0 (MQ below (va_Qi Q (PostG (wsM cy ad) D A) A) args s 0 0 A) (F0 m 39 ls []) := by
  unfold vv_X8_either1_J39 at hd
  refine lv_iconst (v := (1 : Int32)) K.1 K.2.1 dX8_either1_39 (by decide) ?_
  refine lv_goto (tgt := 44) K.1 K.2.1 dX8_either1_40 (by decide) ?_
  exact bb_X8_either1_44 K hr hrc5 (1 : Int32) g0 _ _ _ hd hw (lv_sub hl [0] rfl)
set_option maxHeartbeats 4000000 in
set_option maxRecDepth 100000 in
theorem bb_X8_either1_5 {p : Program} {l : Launch} {e : Env} {s : State} {m : MethodId} {args : Array Value} {below : List Frame} {meth : Method} {c : Code} {D : va_G} {cy : Nat → ClassId} {ad : Nat → Nat} {A : Nat → Prop} {Q : Int32 → Sg → Prop} (K : Kx p s m args meth c cX8_either1 3 RX8 D cy) (hr : meth.sig.returnType = (some .int)) : ∀ (n : Nat) (x1 : Int32)  (g0 : Sg) (H : Heap) (locs : List Loc) (ls : Array Slot), vv_X8_either1_L5 Q n x1 g0 → Wd D A s.heap (wsM cy ad g0) H locs → lv_has ls 3 [(0, .ref (ad 0)), (1, .int x1)] → W p l e (rmD 33) s m args below meth c H locs 0 0 (MQ below (va_Qi Q (PostG (wsM cy ad) D A) A) args s 0 0 A) (F0 m 5 ls []) := by
  intro n
  induction n with
  | zero => intro _ _ _ _ _ hd; exact hd.elim
  | succ n ih =>
    intro x1 g0 H locs ls hd hw hl
    unfold vv_X8_either1_L5 at hd
    refine lv_aload_n K.1 K.2.1 dX8_either1_5 rfl (lv_at hl 0 rfl) ?_
    refine lv_bipush (v := (111 : Int32)) K.1 K.2.1 dX8_either1_6 (by decide) ?_
    refine lv_bipush (v := (114 : Int32)) K.1 K.2.1 dX8_either1_8 (by decide) ?_
    refine lv_iconst (v := (0 : Int32)) K.1 K.2.1 dX8_either1_10 (by decide) ?_
    refine lv_iconst (v := (0 : Int32)) K.1 K.2.1 dX8_either1_11 (by decide) ?_
    refine lv_iconst (v := (0 : Int32)) K.1 K.2.1 dX8_either1_12 (by decide) ?_
    refine lv_iconst (v := (0 : Int32)) K.1 K.2.1 dX8_either1_13 (by decide) ?_
    refine lv_iconst (v := (0 : Int32)) K.1 K.2.1 dX8_either1_14 (by decide) ?_
    refine lv_iconst (v := (0 : Int32)) K.1 K.2.1 dX8_either1_15 (by decide) ?_
    refine rk_vi (As := [.int (111 : Int32), .int (114 : Int32), .int (0 : Int32), .int (0 : Int32), .int (0 : Int32), .int (0 : Int32), .int (0 : Int32), .int (0 : Int32)]) (rest := []) K hw (cc_X8_isWord l D cy ad A g0 _ (111 : Int32) (114 : Int32) (0 : Int32) (0 : Int32) (0 : Int32) (0 : Int32) (0 : Int32) (0 : Int32) hd) lk_X8_184 (ci := 8) rfl (q0 := 0) (wsM_at cy ad _ (by decide)) ⟨Nat.le_of_ble_eq_true rfl, Nat.le_of_ble_eq_true rfl⟩ ⟨Nat.zero_le _, Nat.zero_le _⟩ rfl hl.1 (Nat.le_of_ble_eq_true rfl) rfl dX8_either1_16 (fun r_5 g_4 H locs hd hw => ?_)
    refine lv_if_eq (tgt := 48) K.1 K.2.1 dX8_either1_19 (by decide) (fun h_6 => ?_) (fun h_6 => ?_)
    · have hd := hd.1 h_6
      refine lv_iload_n K.1 K.2.1 dX8_either1_48 rfl (lv_at hl 1 rfl) ?_
      exact rk_iret K hw hr hd dX8_either1_49
    · have hd := hd.2 h_6
      refine lv_aload_n K.1 K.2.1 dX8_either1_22 rfl (lv_at hl 0 rfl) ?_
      refine rk_vv (As := []) (rest := []) K hw (cc_X8_next l D cy ad A g_4 _  hd) lk_X8_181 (ci := 8) rfl (q0 := 0) (wsM_at cy ad _ (by decide)) ⟨Nat.le_of_ble_eq_true rfl, Nat.le_of_ble_eq_true rfl⟩ ⟨Nat.zero_le _, Nat.zero_le _⟩ rfl hl.1 (Nat.le_of_ble_eq_true rfl) rfl dX8_either1_23 (fun g_7 H locs hd hw => ?_)
      refine lv_aload_n K.1 K.2.1 dX8_either1_26 rfl (lv_at hl 0 rfl) ?_
      refine rk_vi (As := []) (rest := []) K hw (cc_X8_both1 l D cy ad A g_7 _  hd) lk_X8_305 (ci := 8) rfl (q0 := 0) (wsM_at cy ad _ (by decide)) ⟨Nat.le_of_ble_eq_true rfl, Nat.le_of_ble_eq_true rfl⟩ ⟨Nat.zero_le _, Nat.zero_le _⟩ rfl hl.1 (Nat.le_of_ble_eq_true rfl) rfl dX8_either1_27 (fun r_10 g_9 H locs hd hw => ?_)
      refine lv_topi (fun x2_11 ex2_11 => ?_)
      have hd := hd x2_11 ex2_11
      refine lv_istore_n (lv' := [(2, .int x2_11), (0, .ref (ad 0)), (1, .int x1)]) K.1 K.2.1 dX8_either1_30 rfl hl (by decide) rfl (fun ls hl => ?_)
      refine lv_iload_n K.1 K.2.1 dX8_either1_31 rfl (lv_at hl 2 rfl) ?_
      refine lv_if_ne (tgt := 39) K.1 K.2.1 dX8_either1_32 (by decide) (fun h_12 => ?_) (fun h_12 => ?_)
      · have hd := hd.1 h_12
        exact bb_X8_either1_39 K hr ih  g_9 _ _ _ hd hw (lv_sub hl [1] rfl)
      · have hd := hd.2 h_12
        refine lv_iload_n K.1 K.2.1 dX8_either1_35 rfl (lv_at hl 0 rfl) ?_
        refine lv_if_eq (tgt := 43) K.1 K.2.1 dX8_either1_36 (by decide) (fun h_14 => ?_) (fun h_14 => ?_)
        · have hd := hd.1 h_14
          refine lv_iconst (v := (0 : Int32)) K.1 K.2.1 dX8_either1_43 (by decide) ?_
          exact bb_X8_either1_44 K hr ih (0 : Int32) g_9 _ _ _ hd hw (lv_sub hl [1] rfl)
        · have hd := hd.2 h_14
          exact bb_X8_either1_39 K hr ih  g_9 _ _ _ hd hw (lv_sub hl [1] rfl)
set_option maxHeartbeats 4000000 in
set_option maxRecDepth 100000 in
theorem cc_X8_either1 (l : Launch) (D : va_G) (cy : Nat → ClassId) (ad : Nat → Nat) (A : Nat → Prop) (g0 : Sg) (Q : Int32 → Sg → Prop)  (hd : vv_X8_either1  g0 Q) : Met l yX8_either1 (Cond.code yX8_either1 cX8_either1 3 (some .int) :: TT) (rmD 33) (va_Pc [.ref (ad 0)] (PreG (wsM cy ad) D cy A g0)) (va_Qi Q (PostG (wsM cy ad) D A) A) 0 0 A := by
  unfold vv_X8_either1 at hd
  refine Met.ofW (cc := cX8_either1) (maxL := 3) (ret := (some .int)) (by decide) rfl ?_
  intro p e s m args below meth c s₁ B hml hv
  obtain ⟨rfl, hP, hK0, hD⟩ := hv
  have K : Kx p s m _ meth c cX8_either1 3 RX8 D cy := ⟨B.exec, B.bytes, hml, findClass_of_methodNamed B.named, fun w h => atoms_spec (ws := Cond.code yX8_either1 cX8_either1 3 (some .int) :: TT) B.pre w (List.mem_cons_of_mem _ h), hK0, B.notSynchronized⟩
  have hw : Wd D A s.heap (wsM cy ad g0) s.heap [] := ⟨hP, hD, va_S.rf⟩
  have hr := B.returns
  have hl := lv_entry ([.ref (ad 0)]) (n := 3) (Nat.le_of_ble_eq_true rfl)
  rw [lg_entry_eq]
  generalize (lg_sl ([.ref (ad 0)]) ++ List.replicate (3 - (lg_sl ([.ref (ad 0)])).length) Slot.unset).toArray = ls at hl ⊢
  have hl : lv_has ls 3 [(0, .ref (ad 0))] := hl
  refine lv_aload_n K.1 K.2.1 dX8_either1_0 rfl (lv_at hl 0 rfl) ?_
  refine rk_vi (As := []) (rest := []) K hw (cc_X8_both1 l D cy ad A g0 _  hd) lk_X8_305 (ci := 8) rfl (q0 := 0) (wsM_at cy ad _ (by decide)) ⟨Nat.le_of_ble_eq_true rfl, Nat.le_of_ble_eq_true rfl⟩ ⟨Nat.zero_le _, Nat.zero_le _⟩ rfl hl.1 (Nat.le_of_ble_eq_true rfl) rfl dX8_either1_1 (fun r_2 g_1 H locs hd hw => ?_)
  refine lv_topi (fun x1_3 ex1_3 => ?_)
  have hd := hd x1_3 ex1_3
  refine lv_istore_n (lv' := [(1, .int x1_3), (0, .ref (ad 0))]) K.1 K.2.1 dX8_either1_4 rfl hl (by decide) rfl (fun ls hl => ?_)
  obtain ⟨n9, hd⟩ := hd
  exact bb_X8_either1_5 K hr  n9 x1_3 g_1 _ _ _ hd hw (lv_sub hl [1, 0] rfl)
theorem dX8_atom0_0 : decode cX8_atom0 0 = .ok (.iconst 0, 1) := by decide +kernel
theorem dX8_atom0_1 : decode cX8_atom0 1 = .ok (.istore_n 1, 1) := by decide +kernel
theorem dX8_atom0_2 : decode cX8_atom0 2 = .ok (.aload_n 0, 1) := by decide +kernel
theorem dX8_atom0_3 : decode cX8_atom0 3 = .ok (.bipush 45, 2) := by decide +kernel
theorem dX8_atom0_5 : decode cX8_atom0 5 = .ok (.invokevirtual 206, 3) := by decide +kernel
theorem dX8_atom0_8 : decode cX8_atom0 8 = .ok (.ifCond .eq 29, 3) := by decide +kernel
theorem dX8_atom0_11 : decode cX8_atom0 11 = .ok (.aload_n 0, 1) := by decide +kernel
theorem dX8_atom0_12 : decode cX8_atom0 12 = .ok (.invokevirtual 209, 3) := by decide +kernel
theorem dX8_atom0_15 : decode cX8_atom0 15 = .ok (.ifCond .eq 146, 3) := by decide +kernel
theorem dX8_atom0_18 : decode cX8_atom0 18 = .ok (.aload_n 0, 1) := by decide +kernel
theorem dX8_atom0_19 : decode cX8_atom0 19 = .ok (.invokevirtual 293, 3) := by decide +kernel
theorem dX8_atom0_22 : decode cX8_atom0 22 = .ok (.ineg, 1) := by decide +kernel
theorem dX8_atom0_23 : decode cX8_atom0 23 = .ok (.istore_n 1, 1) := by decide +kernel
theorem dX8_atom0_24 : decode cX8_atom0 24 = .ok (.aload_n 0, 1) := by decide +kernel
theorem dX8_atom0_25 : decode cX8_atom0 25 = .ok (.dup, 1) := by decide +kernel
theorem dX8_atom0_26 : decode cX8_atom0 26 = .ok (.getfield 175, 3) := by decide +kernel
theorem dX8_atom0_29 : decode cX8_atom0 29 = .ok (.iconst 1, 1) := by decide +kernel
theorem dX8_atom0_30 : decode cX8_atom0 30 = .ok (.isub, 1) := by decide +kernel
theorem dX8_atom0_31 : decode cX8_atom0 31 = .ok (.putfield 175, 3) := by decide +kernel
theorem dX8_atom0_34 : decode cX8_atom0 34 = .ok (.goto 127, 3) := by decide +kernel
theorem dX8_atom0_37 : decode cX8_atom0 37 = .ok (.aload_n 0, 1) := by decide +kernel
theorem dX8_atom0_38 : decode cX8_atom0 38 = .ok (.bipush 40, 2) := by decide +kernel
theorem dX8_atom0_40 : decode cX8_atom0 40 = .ok (.invokevirtual 206, 3) := by decide +kernel
theorem dX8_atom0_43 : decode cX8_atom0 43 = .ok (.ifCond .eq 52, 3) := by decide +kernel
theorem dX8_atom0_46 : decode cX8_atom0 46 = .ok (.aload_n 0, 1) := by decide +kernel
theorem dX8_atom0_47 : decode cX8_atom0 47 = .ok (.invokevirtual 209, 3) := by decide +kernel
theorem dX8_atom0_50 : decode cX8_atom0 50 = .ok (.ifCond .eq 111, 3) := by decide +kernel
theorem dX8_atom0_53 : decode cX8_atom0 53 = .ok (.aload_n 0, 1) := by decide +kernel
theorem dX8_atom0_54 : decode cX8_atom0 54 = .ok (.invokevirtual 308, 3) := by decide +kernel
theorem dX8_atom0_57 : decode cX8_atom0 57 = .ok (.istore_n 1, 1) := by decide +kernel
theorem dX8_atom0_58 : decode cX8_atom0 58 = .ok (.aload_n 0, 1) := by decide +kernel
theorem dX8_atom0_59 : decode cX8_atom0 59 = .ok (.bipush 41, 2) := by decide +kernel
theorem dX8_atom0_61 : decode cX8_atom0 61 = .ok (.invokevirtual 206, 3) := by decide +kernel
theorem dX8_atom0_64 : decode cX8_atom0 64 = .ok (.ifCond .ne 7, 3) := by decide +kernel
theorem dX8_atom0_67 : decode cX8_atom0 67 = .ok (.aload_n 0, 1) := by decide +kernel
theorem dX8_atom0_68 : decode cX8_atom0 68 = .ok (.invokevirtual 178, 3) := by decide +kernel
theorem dX8_atom0_71 : decode cX8_atom0 71 = .ok (.aload_n 0, 1) := by decide +kernel
theorem dX8_atom0_72 : decode cX8_atom0 72 = .ok (.dup, 1) := by decide +kernel
theorem dX8_atom0_73 : decode cX8_atom0 73 = .ok (.getfield 175, 3) := by decide +kernel
theorem dX8_atom0_76 : decode cX8_atom0 76 = .ok (.iconst 1, 1) := by decide +kernel
theorem dX8_atom0_77 : decode cX8_atom0 77 = .ok (.isub, 1) := by decide +kernel
theorem dX8_atom0_78 : decode cX8_atom0 78 = .ok (.putfield 175, 3) := by decide +kernel
theorem dX8_atom0_81 : decode cX8_atom0 81 = .ok (.aload_n 0, 1) := by decide +kernel
theorem dX8_atom0_82 : decode cX8_atom0 82 = .ok (.getfield 164, 3) := by decide +kernel
theorem dX8_atom0_85 : decode cX8_atom0 85 = .ok (.ifCond .ne 76, 3) := by decide +kernel
theorem dX8_atom0_88 : decode cX8_atom0 88 = .ok (.aload_n 0, 1) := by decide +kernel
theorem dX8_atom0_89 : decode cX8_atom0 89 = .ok (.invokevirtual 181, 3) := by decide +kernel
theorem dX8_atom0_92 : decode cX8_atom0 92 = .ok (.goto 69, 3) := by decide +kernel
theorem dX8_atom0_95 : decode cX8_atom0 95 = .ok (.aload_n 0, 1) := by decide +kernel
theorem dX8_atom0_96 : decode cX8_atom0 96 = .ok (.getfield 164, 3) := by decide +kernel
theorem dX8_atom0_99 : decode cX8_atom0 99 = .ok (.ifCond .ne 24, 3) := by decide +kernel
theorem dX8_atom0_102 : decode cX8_atom0 102 = .ok (.aload_n 0, 1) := by decide +kernel
theorem dX8_atom0_103 : decode cX8_atom0 103 = .ok (.getfield 149, 3) := by decide +kernel
theorem dX8_atom0_106 : decode cX8_atom0 106 = .ok (.iconst 2, 1) := by decide +kernel
theorem dX8_atom0_107 : decode cX8_atom0 107 = .ok (.if_icmp .ne 16, 3) := by decide +kernel
theorem dX8_atom0_110 : decode cX8_atom0 110 = .ok (.aload_n 0, 1) := by decide +kernel
theorem dX8_atom0_111 : decode cX8_atom0 111 = .ok (.getfield 160, 3) := by decide +kernel
theorem dX8_atom0_114 : decode cX8_atom0 114 = .ok (.l2i, 1) := by decide +kernel
theorem dX8_atom0_115 : decode cX8_atom0 115 = .ok (.istore_n 1, 1) := by decide +kernel
theorem dX8_atom0_116 : decode cX8_atom0 116 = .ok (.aload_n 0, 1) := by decide +kernel
theorem dX8_atom0_117 : decode cX8_atom0 117 = .ok (.invokevirtual 181, 3) := by decide +kernel
theorem dX8_atom0_120 : decode cX8_atom0 120 = .ok (.goto 41, 3) := by decide +kernel
theorem dX8_atom0_123 : decode cX8_atom0 123 = .ok (.aload_n 0, 1) := by decide +kernel
theorem dX8_atom0_124 : decode cX8_atom0 124 = .ok (.getfield 164, 3) := by decide +kernel
theorem dX8_atom0_127 : decode cX8_atom0 127 = .ok (.ifCond .ne 30, 3) := by decide +kernel
theorem dX8_atom0_130 : decode cX8_atom0 130 = .ok (.aload_n 0, 1) := by decide +kernel
theorem dX8_atom0_131 : decode cX8_atom0 131 = .ok (.getfield 149, 3) := by decide +kernel
theorem dX8_atom0_134 : decode cX8_atom0 134 = .ok (.iconst 1, 1) := by decide +kernel
theorem dX8_atom0_135 : decode cX8_atom0 135 = .ok (.if_icmp .ne 22, 3) := by decide +kernel
theorem dX8_atom0_138 : decode cX8_atom0 138 = .ok (.aload_n 0, 1) := by decide +kernel
theorem dX8_atom0_139 : decode cX8_atom0 139 = .ok (.invokevirtual 213, 3) := by decide +kernel
theorem dX8_atom0_142 : decode cX8_atom0 142 = .ok (.istore_n 1, 1) := by decide +kernel
theorem dX8_atom0_143 : decode cX8_atom0 143 = .ok (.aload_n 0, 1) := by decide +kernel
theorem dX8_atom0_144 : decode cX8_atom0 144 = .ok (.getfield 164, 3) := by decide +kernel
theorem dX8_atom0_147 : decode cX8_atom0 147 = .ok (.ifCond .ne 14, 3) := by decide +kernel
theorem dX8_atom0_150 : decode cX8_atom0 150 = .ok (.aload_n 0, 1) := by decide +kernel
theorem dX8_atom0_151 : decode cX8_atom0 151 = .ok (.invokevirtual 181, 3) := by decide +kernel
theorem dX8_atom0_154 : decode cX8_atom0 154 = .ok (.goto 7, 3) := by decide +kernel
theorem dX8_atom0_157 : decode cX8_atom0 157 = .ok (.aload_n 0, 1) := by decide +kernel
theorem dX8_atom0_158 : decode cX8_atom0 158 = .ok (.invokevirtual 178, 3) := by decide +kernel
theorem dX8_atom0_161 : decode cX8_atom0 161 = .ok (.iload_n 1, 1) := by decide +kernel
theorem dX8_atom0_162 : decode cX8_atom0 162 = .ok (.ireturn, 1) := by decide +kernel
set_option maxHeartbeats 4000000 in
set_option maxRecDepth 100000 in
theorem bb_X8_atom0_157 {p : Program} {l : Launch} {e : Env} {s : State} {m : MethodId} {args : Array Value} {below : List Frame} {meth : Method} {c : Code} {D : va_G} {cy : Nat → ClassId} {ad : Nat → Nat} {A : Nat → Prop} {Q : Int32 → Sg → Prop} (K : Kx p s m args meth c cX8_atom0 2 RX8 D cy) (hr : meth.sig.returnType = (some .int)) (x1 : Int32)  (g0 : Sg) (H : Heap) (locs : List Loc) (ls : Array Slot) (hd : vv_X8_atom0_J157 x1 g0 Q) (hw : Wd D A s.heap (wsM cy ad g0) H locs) (hl : lv_has ls 2 [(0, .ref (ad 0)), (1, .int x1)]) : W p l e (rmD 34) s m args below meth c H locs 0 0 (MQ below (va_Qi Q (PostG (wsM cy ad) D A) A) args s 0 0 A) (F0 m 157 ls []) := by
  unfold vv_X8_atom0_J157 at hd
  refine lv_aload_n K.1 K.2.1 dX8_atom0_157 rfl (lv_at hl 0 rfl) ?_
  refine rk_vv (As := []) (rest := []) K hw (cc_X8_fail l D cy ad A g0 _  hd) lk_X8_178 (ci := 8) rfl (q0 := 0) (wsM_at cy ad _ (by decide)) ⟨Nat.le_of_ble_eq_true rfl, Nat.le_of_ble_eq_true rfl⟩ ⟨Nat.zero_le _, Nat.zero_le _⟩ rfl hl.1 (Nat.le_of_ble_eq_true rfl) rfl dX8_atom0_158 (fun g_10 H locs hd hw => ?_)
  refine lv_iload_n K.1 K.2.1 dX8_atom0_161 rfl (lv_at hl 1 rfl) ?_
  exact rk_iret K hw hr hd dX8_atom0_162
set_option maxHeartbeats 4000000 in
set_option maxRecDepth 100000 in
theorem bb_X8_atom0_123 {p : Program} {l : Launch} {e : Env} {s : State} {m : MethodId} {args : Array Value} {below : List Frame} {meth : Method} {c : Code} {D : va_G} {cy : Nat → ClassId} {ad : Nat → Nat} {A : Nat → Prop} {Q : Int32 → Sg → Prop} (K : Kx p s m args meth c cX8_atom0 2 RX8 D cy) (hr : meth.sig.returnType = (some .int)) (x1 : Int32)  (g0 : Sg) (H : Heap) (locs : List Loc) (ls : Array Slot) (hd : vv_X8_atom0_J123 x1 g0 Q) (hw : Wd D A s.heap (wsM cy ad g0) H locs) (hl : lv_has ls 2 [(0, .ref (ad 0)), (1, .int x1)]) : W p l e (rmD 34) s m args below meth c H locs 0 0 (MQ below (va_Qi Q (PostG (wsM cy ad) D A) A) args s 0 0 A) (F0 m 123 ls []) := by
  unfold vv_X8_atom0_J123 at hd
  refine lv_aload_n K.1 K.2.1 dX8_atom0_123 rfl (lv_at hl 0 rfl) ?_
  refine rm_get 25 K hw (by decide) kf_X8_164 rfl dX8_atom0_124 ?_
  refine lv_if_ne (tgt := 157) K.1 K.2.1 dX8_atom0_127 (by decide) (fun h_9 => ?_) (fun h_9 => ?_)
  · have hd := hd.1 h_9
    exact bb_X8_atom0_157 K hr  x1 g0 _ _ _ hd hw (lv_sub hl [0, 1] rfl)
  · have hd := hd.2 h_9
    refine lv_aload_n K.1 K.2.1 dX8_atom0_130 rfl (lv_at hl 0 rfl) ?_
    refine rm_get 21 K hw (by decide) kf_X8_149 rfl dX8_atom0_131 ?_
    refine lv_iconst (v := (1 : Int32)) K.1 K.2.1 dX8_atom0_134 (by decide) ?_
    refine lv_icmp_ne (tgt := 157) K.1 K.2.1 dX8_atom0_135 (by decide) (fun h_12 => ?_) (fun h_12 => ?_)
    · have hd := hd.1 h_12
      exact bb_X8_atom0_157 K hr  x1 g0 _ _ _ hd hw (lv_sub hl [0, 1] rfl)
    · have hd := hd.2 h_12
      refine lv_aload_n K.1 K.2.1 dX8_atom0_138 rfl (lv_at hl 0 rfl) ?_
      refine rk_vi (As := []) (rest := []) K hw (cc_X8_name l D cy ad A g0 _  hd) lk_X8_213 (ci := 8) rfl (q0 := 0) (wsM_at cy ad _ (by decide)) ⟨Nat.le_of_ble_eq_true rfl, Nat.le_of_ble_eq_true rfl⟩ ⟨Nat.zero_le _, Nat.zero_le _⟩ rfl hl.1 (Nat.le_of_ble_eq_true rfl) rfl dX8_atom0_139 (fun r_14 g_13 H locs hd hw => ?_)
      refine lv_topi (fun x1_15 ex1_15 => ?_)
      have hd := hd x1_15 ex1_15
      refine lv_istore_n (lv' := [(1, .int x1_15), (0, .ref (ad 0))]) K.1 K.2.1 dX8_atom0_142 rfl hl (by decide) rfl (fun ls hl => ?_)
      refine lv_aload_n K.1 K.2.1 dX8_atom0_143 rfl (lv_at hl 1 rfl) ?_
      refine rm_get 25 K hw (by decide) kf_X8_164 rfl dX8_atom0_144 ?_
      refine lv_if_ne (tgt := 161) K.1 K.2.1 dX8_atom0_147 (by decide) (fun h_16 => ?_) (fun h_16 => ?_)
      · have hd := hd.1 h_16
        refine lv_iload_n K.1 K.2.1 dX8_atom0_161 rfl (lv_at hl 0 rfl) ?_
        exact rk_iret K hw hr hd dX8_atom0_162
      · have hd := hd.2 h_16
        refine lv_aload_n K.1 K.2.1 dX8_atom0_150 rfl (lv_at hl 1 rfl) ?_
        refine rk_vv (As := []) (rest := []) K hw (cc_X8_next l D cy ad A g_13 _  hd) lk_X8_181 (ci := 8) rfl (q0 := 0) (wsM_at cy ad _ (by decide)) ⟨Nat.le_of_ble_eq_true rfl, Nat.le_of_ble_eq_true rfl⟩ ⟨Nat.zero_le _, Nat.zero_le _⟩ rfl hl.1 (Nat.le_of_ble_eq_true rfl) rfl dX8_atom0_151 (fun g_17 H locs hd hw => ?_)
        refine lv_goto (tgt := 161) K.1 K.2.1 dX8_atom0_154 (by decide) ?_
        refine lv_iload_n K.1 K.2.1 dX8_atom0_161 rfl (lv_at hl 0 rfl) ?_
        exact rk_iret K hw hr hd dX8_atom0_162
set_option maxHeartbeats 4000000 in
set_option maxRecDepth 100000 in
theorem bb_X8_atom0_71 {p : Program} {l : Launch} {e : Env} {s : State} {m : MethodId} {args : Array Value} {below : List Frame} {meth : Method} {c : Code} {D : va_G} {cy : Nat → ClassId} {ad : Nat → Nat} {A : Nat → Prop} {Q : Int32 → Sg → Prop} (K : Kx p s m args meth c cX8_atom0 2 RX8 D cy) (hr : meth.sig.returnType = (some .int)) (x1 : Int32)  (g0 : Sg) (H : Heap) (locs : List Loc) (ls : Array Slot) (hd : vv_X8_atom0_J71 x1 g0 Q) (hw : Wd D A s.heap (wsM cy ad g0) H locs) (hl : lv_has ls 2 [(0, .ref (ad 0)), (1, .int x1)]) : W p l e (rmD 34) s m args below meth c H locs 0 0 (MQ below (va_Qi Q (PostG (wsM cy ad) D A) A) args s 0 0 A) (F0 m 71 ls []) := by
  unfold vv_X8_atom0_J71 at hd
  refine lv_aload_n K.1 K.2.1 dX8_atom0_71 rfl (lv_at hl 0 rfl) ?_
  refine lv_dup K.1 K.2.1 dX8_atom0_72 rfl ?_
  refine rm_get 24 K hw (by decide) kf_X8_175 rfl dX8_atom0_73 ?_
  refine lv_iconst (v := (1 : Int32)) K.1 K.2.1 dX8_atom0_76 (by decide) ?_
  refine lv_isub K.1 K.2.1 dX8_atom0_77 ?_
  refine rm_put 24 K hw (by decide) kf_X8_175 rfl rfl rfl rfl (fsM_24 ad g0 _) dX8_atom0_78 (fun g_32 eg_32 H locs hw => ?_)
  have hd := hd g_32 eg_32
  refine lv_aload_n K.1 K.2.1 dX8_atom0_81 rfl (lv_at hl 0 rfl) ?_
  refine rm_get 25 K hw (by decide) kf_X8_164 rfl dX8_atom0_82 ?_
  refine lv_if_ne (tgt := 161) K.1 K.2.1 dX8_atom0_85 (by decide) (fun h_33 => ?_) (fun h_33 => ?_)
  · have hd := hd.1 h_33
    refine lv_iload_n K.1 K.2.1 dX8_atom0_161 rfl (lv_at hl 1 rfl) ?_
    exact rk_iret K hw hr hd dX8_atom0_162
  · have hd := hd.2 h_33
    refine lv_aload_n K.1 K.2.1 dX8_atom0_88 rfl (lv_at hl 0 rfl) ?_
    refine rk_vv (As := []) (rest := []) K hw (cc_X8_next l D cy ad A g_32 _  hd) lk_X8_181 (ci := 8) rfl (q0 := 0) (wsM_at cy ad _ (by decide)) ⟨Nat.le_of_ble_eq_true rfl, Nat.le_of_ble_eq_true rfl⟩ ⟨Nat.zero_le _, Nat.zero_le _⟩ rfl hl.1 (Nat.le_of_ble_eq_true rfl) rfl dX8_atom0_89 (fun g_34 H locs hd hw => ?_)
    refine lv_goto (tgt := 161) K.1 K.2.1 dX8_atom0_92 (by decide) ?_
    refine lv_iload_n K.1 K.2.1 dX8_atom0_161 rfl (lv_at hl 1 rfl) ?_
    exact rk_iret K hw hr hd dX8_atom0_162
set_option maxHeartbeats 4000000 in
set_option maxRecDepth 100000 in
theorem cc_X8_atom0 (l : Launch) (D : va_G) (cy : Nat → ClassId) (ad : Nat → Nat) (A : Nat → Prop) (g0 : Sg) (Q : Int32 → Sg → Prop)  (hd : vv_X8_atom0  g0 Q) : Met l yX8_atom0 (Cond.code yX8_atom0 cX8_atom0 2 (some .int) :: TT) (rmD 34) (va_Pc [.ref (ad 0)] (PreG (wsM cy ad) D cy A g0)) (va_Qi Q (PostG (wsM cy ad) D A) A) 0 0 A := by
  unfold vv_X8_atom0 at hd
  refine Met.ofW (cc := cX8_atom0) (maxL := 2) (ret := (some .int)) (by decide) rfl ?_
  intro p e s m args below meth c s₁ B hml hv
  obtain ⟨rfl, hP, hK0, hD⟩ := hv
  have K : Kx p s m _ meth c cX8_atom0 2 RX8 D cy := ⟨B.exec, B.bytes, hml, findClass_of_methodNamed B.named, fun w h => atoms_spec (ws := Cond.code yX8_atom0 cX8_atom0 2 (some .int) :: TT) B.pre w (List.mem_cons_of_mem _ h), hK0, B.notSynchronized⟩
  have hw : Wd D A s.heap (wsM cy ad g0) s.heap [] := ⟨hP, hD, va_S.rf⟩
  have hr := B.returns
  have hl := lv_entry ([.ref (ad 0)]) (n := 2) (Nat.le_of_ble_eq_true rfl)
  rw [lg_entry_eq]
  generalize (lg_sl ([.ref (ad 0)]) ++ List.replicate (2 - (lg_sl ([.ref (ad 0)])).length) Slot.unset).toArray = ls at hl ⊢
  have hl : lv_has ls 2 [(0, .ref (ad 0))] := hl
  refine lv_iconst (v := (0 : Int32)) K.1 K.2.1 dX8_atom0_0 (by decide) ?_
  refine lv_topi (fun x1_1 ex1_1 => ?_)
  have hd := hd x1_1 ex1_1
  refine lv_istore_n (lv' := [(1, .int x1_1), (0, .ref (ad 0))]) K.1 K.2.1 dX8_atom0_1 rfl hl (by decide) rfl (fun ls hl => ?_)
  refine lv_aload_n K.1 K.2.1 dX8_atom0_2 rfl (lv_at hl 1 rfl) ?_
  refine lv_bipush (v := (45 : Int32)) K.1 K.2.1 dX8_atom0_3 (by decide) ?_
  refine rk_vi (As := [.int (45 : Int32)]) (rest := []) K hw (cc_X8_isSign l D cy ad A g0 _ (45 : Int32) hd) lk_X8_206 (ci := 8) rfl (q0 := 0) (wsM_at cy ad _ (by decide)) ⟨Nat.le_of_ble_eq_true rfl, Nat.le_of_ble_eq_true rfl⟩ ⟨Nat.zero_le _, Nat.zero_le _⟩ rfl hl.1 (Nat.le_of_ble_eq_true rfl) rfl dX8_atom0_5 (fun r_3 g_2 H locs hd hw => ?_)
  refine lv_if_eq (tgt := 37) K.1 K.2.1 dX8_atom0_8 (by decide) (fun h_4 => ?_) (fun h_4 => ?_)
  · have hd := hd.1 h_4
    refine lv_aload_n K.1 K.2.1 dX8_atom0_37 rfl (lv_at hl 1 rfl) ?_
    refine lv_bipush (v := (40 : Int32)) K.1 K.2.1 dX8_atom0_38 (by decide) ?_
    refine rk_vi (As := [.int (40 : Int32)]) (rest := []) K hw (cc_X8_isSign l D cy ad A g_2 _ (40 : Int32) hd) lk_X8_206 (ci := 8) rfl (q0 := 0) (wsM_at cy ad _ (by decide)) ⟨Nat.le_of_ble_eq_true rfl, Nat.le_of_ble_eq_true rfl⟩ ⟨Nat.zero_le _, Nat.zero_le _⟩ rfl hl.1 (Nat.le_of_ble_eq_true rfl) rfl dX8_atom0_40 (fun r_6 g_5 H locs hd hw => ?_)
    refine lv_if_eq (tgt := 95) K.1 K.2.1 dX8_atom0_43 (by decide) (fun h_7 => ?_) (fun h_7 => ?_)
    · have hd := hd.1 h_7
      refine lv_aload_n K.1 K.2.1 dX8_atom0_95 rfl (lv_at hl 1 rfl) ?_
      refine rm_get 25 K hw (by decide) kf_X8_164 rfl dX8_atom0_96 ?_
      refine lv_if_ne (tgt := 123) K.1 K.2.1 dX8_atom0_99 (by decide) (fun h_8 => ?_) (fun h_8 => ?_)
      · have hd := hd.1 h_8
        exact bb_X8_atom0_123 K hr  x1_1 g_5 _ _ _ hd hw (lv_sub hl [1, 0] rfl)
      · have hd := hd.2 h_8
        refine lv_aload_n K.1 K.2.1 dX8_atom0_102 rfl (lv_at hl 1 rfl) ?_
        refine rm_get 21 K hw (by decide) kf_X8_149 rfl dX8_atom0_103 ?_
        refine lv_iconst (v := (2 : Int32)) K.1 K.2.1 dX8_atom0_106 (by decide) ?_
        refine lv_icmp_ne (tgt := 123) K.1 K.2.1 dX8_atom0_107 (by decide) (fun h_19 => ?_) (fun h_19 => ?_)
        · have hd := hd.1 h_19
          exact bb_X8_atom0_123 K hr  x1_1 g_5 _ _ _ hd hw (lv_sub hl [1, 0] rfl)
        · have hd := hd.2 h_19
          refine lv_aload_n K.1 K.2.1 dX8_atom0_110 rfl (lv_at hl 1 rfl) ?_
          refine rm_get 23 K hw (by decide) kf_X8_160 rfl dX8_atom0_111 ?_
          refine lv_l2i (v := (g_5 0 23).toInt64.toInt32) K.1 K.2.1 dX8_atom0_114 rfl ?_
          refine lv_topi (fun x1_20 ex1_20 => ?_)
          have hd := hd x1_20 ex1_20
          refine lv_istore_n (lv' := [(1, .int x1_20), (0, .ref (ad 0))]) K.1 K.2.1 dX8_atom0_115 rfl hl (by decide) rfl (fun ls hl => ?_)
          refine lv_aload_n K.1 K.2.1 dX8_atom0_116 rfl (lv_at hl 1 rfl) ?_
          refine rk_vv (As := []) (rest := []) K hw (cc_X8_next l D cy ad A g_5 _  hd) lk_X8_181 (ci := 8) rfl (q0 := 0) (wsM_at cy ad _ (by decide)) ⟨Nat.le_of_ble_eq_true rfl, Nat.le_of_ble_eq_true rfl⟩ ⟨Nat.zero_le _, Nat.zero_le _⟩ rfl hl.1 (Nat.le_of_ble_eq_true rfl) rfl dX8_atom0_117 (fun g_21 H locs hd hw => ?_)
          refine lv_goto (tgt := 161) K.1 K.2.1 dX8_atom0_120 (by decide) ?_
          refine lv_iload_n K.1 K.2.1 dX8_atom0_161 rfl (lv_at hl 0 rfl) ?_
          exact rk_iret K hw hr hd dX8_atom0_162
    · have hd := hd.2 h_7
      refine lv_aload_n K.1 K.2.1 dX8_atom0_46 rfl (lv_at hl 1 rfl) ?_
      refine rk_vi (As := []) (rest := []) K hw (cc_X8_opens l D cy ad A g_5 _  hd) lk_X8_209 (ci := 8) rfl (q0 := 0) (wsM_at cy ad _ (by decide)) ⟨Nat.le_of_ble_eq_true rfl, Nat.le_of_ble_eq_true rfl⟩ ⟨Nat.zero_le _, Nat.zero_le _⟩ rfl hl.1 (Nat.le_of_ble_eq_true rfl) rfl dX8_atom0_47 (fun r_24 g_23 H locs hd hw => ?_)
      refine lv_if_eq (tgt := 161) K.1 K.2.1 dX8_atom0_50 (by decide) (fun h_25 => ?_) (fun h_25 => ?_)
      · have hd := hd.1 h_25
        refine lv_iload_n K.1 K.2.1 dX8_atom0_161 rfl (lv_at hl 0 rfl) ?_
        exact rk_iret K hw hr hd dX8_atom0_162
      · have hd := hd.2 h_25
        refine lv_aload_n K.1 K.2.1 dX8_atom0_53 rfl (lv_at hl 1 rfl) ?_
        refine rk_vi (As := []) (rest := []) K hw (cc_X8_either1 l D cy ad A g_23 _  hd) lk_X8_308 (ci := 8) rfl (q0 := 0) (wsM_at cy ad _ (by decide)) ⟨Nat.le_of_ble_eq_true rfl, Nat.le_of_ble_eq_true rfl⟩ ⟨Nat.zero_le _, Nat.zero_le _⟩ rfl hl.1 (Nat.le_of_ble_eq_true rfl) rfl dX8_atom0_54 (fun r_27 g_26 H locs hd hw => ?_)
        refine lv_topi (fun x1_28 ex1_28 => ?_)
        have hd := hd x1_28 ex1_28
        refine lv_istore_n (lv' := [(1, .int x1_28), (0, .ref (ad 0))]) K.1 K.2.1 dX8_atom0_57 rfl hl (by decide) rfl (fun ls hl => ?_)
        refine lv_aload_n K.1 K.2.1 dX8_atom0_58 rfl (lv_at hl 1 rfl) ?_
        refine lv_bipush (v := (41 : Int32)) K.1 K.2.1 dX8_atom0_59 (by decide) ?_
        refine rk_vi (As := [.int (41 : Int32)]) (rest := []) K hw (cc_X8_isSign l D cy ad A g_26 _ (41 : Int32) hd) lk_X8_206 (ci := 8) rfl (q0 := 0) (wsM_at cy ad _ (by decide)) ⟨Nat.le_of_ble_eq_true rfl, Nat.le_of_ble_eq_true rfl⟩ ⟨Nat.zero_le _, Nat.zero_le _⟩ rfl hl.1 (Nat.le_of_ble_eq_true rfl) rfl dX8_atom0_61 (fun r_30 g_29 H locs hd hw => ?_)
        refine lv_if_ne (tgt := 71) K.1 K.2.1 dX8_atom0_64 (by decide) (fun h_31 => ?_) (fun h_31 => ?_)
        · have hd := hd.1 h_31
          exact bb_X8_atom0_71 K hr  x1_28 g_29 _ _ _ hd hw (lv_sub hl [1, 0] rfl)
        · have hd := hd.2 h_31
          refine lv_aload_n K.1 K.2.1 dX8_atom0_67 rfl (lv_at hl 1 rfl) ?_
          refine rk_vv (As := []) (rest := []) K hw (cc_X8_fail l D cy ad A g_29 _  hd) lk_X8_178 (ci := 8) rfl (q0 := 0) (wsM_at cy ad _ (by decide)) ⟨Nat.le_of_ble_eq_true rfl, Nat.le_of_ble_eq_true rfl⟩ ⟨Nat.zero_le _, Nat.zero_le _⟩ rfl hl.1 (Nat.le_of_ble_eq_true rfl) rfl dX8_atom0_68 (fun g_36 H locs hd hw => ?_)
          exact bb_X8_atom0_71 K hr  x1_28 g_36 _ _ _ hd hw (lv_sub hl [1, 0] rfl)
  · have hd := hd.2 h_4
    refine lv_aload_n K.1 K.2.1 dX8_atom0_11 rfl (lv_at hl 1 rfl) ?_
    refine rk_vi (As := []) (rest := []) K hw (cc_X8_opens l D cy ad A g_2 _  hd) lk_X8_209 (ci := 8) rfl (q0 := 0) (wsM_at cy ad _ (by decide)) ⟨Nat.le_of_ble_eq_true rfl, Nat.le_of_ble_eq_true rfl⟩ ⟨Nat.zero_le _, Nat.zero_le _⟩ rfl hl.1 (Nat.le_of_ble_eq_true rfl) rfl dX8_atom0_12 (fun r_39 g_38 H locs hd hw => ?_)
    refine lv_if_eq (tgt := 161) K.1 K.2.1 dX8_atom0_15 (by decide) (fun h_40 => ?_) (fun h_40 => ?_)
    · have hd := hd.1 h_40
      refine lv_iload_n K.1 K.2.1 dX8_atom0_161 rfl (lv_at hl 0 rfl) ?_
      exact rk_iret K hw hr hd dX8_atom0_162
    · have hd := hd.2 h_40
      refine lv_aload_n K.1 K.2.1 dX8_atom0_18 rfl (lv_at hl 1 rfl) ?_
      refine rk_vi (As := []) (rest := []) K hw (cc_X8_atom1 l D cy ad A g_38 _  hd) lk_X8_293 (ci := 8) rfl (q0 := 0) (wsM_at cy ad _ (by decide)) ⟨Nat.le_of_ble_eq_true rfl, Nat.le_of_ble_eq_true rfl⟩ ⟨Nat.zero_le _, Nat.zero_le _⟩ rfl hl.1 (Nat.le_of_ble_eq_true rfl) rfl dX8_atom0_19 (fun r_42 g_41 H locs hd hw => ?_)
      refine lv_ineg K.1 K.2.1 dX8_atom0_22 ?_
      refine lv_topi (fun x1_43 ex1_43 => ?_)
      have hd := hd x1_43 ex1_43
      refine lv_istore_n (lv' := [(1, .int x1_43), (0, .ref (ad 0))]) K.1 K.2.1 dX8_atom0_23 rfl hl (by decide) rfl (fun ls hl => ?_)
      refine lv_aload_n K.1 K.2.1 dX8_atom0_24 rfl (lv_at hl 1 rfl) ?_
      refine lv_dup K.1 K.2.1 dX8_atom0_25 rfl ?_
      refine rm_get 24 K hw (by decide) kf_X8_175 rfl dX8_atom0_26 ?_
      refine lv_iconst (v := (1 : Int32)) K.1 K.2.1 dX8_atom0_29 (by decide) ?_
      refine lv_isub K.1 K.2.1 dX8_atom0_30 ?_
      refine rm_put 24 K hw (by decide) kf_X8_175 rfl rfl rfl rfl (fsM_24 ad g_41 _) dX8_atom0_31 (fun g_44 eg_44 H locs hw => ?_)
      have hd := hd g_44 eg_44
      refine lv_goto (tgt := 161) K.1 K.2.1 dX8_atom0_34 (by decide) ?_
      refine lv_iload_n K.1 K.2.1 dX8_atom0_161 rfl (lv_at hl 0 rfl) ?_
      exact rk_iret K hw hr hd dX8_atom0_162
theorem dX8_term0_0 : decode cX8_term0 0 = .ok (.aload_n 0, 1) := by decide +kernel
theorem dX8_term0_1 : decode cX8_term0 1 = .ok (.invokevirtual 311, 3) := by decide +kernel
theorem dX8_term0_4 : decode cX8_term0 4 = .ok (.istore_n 1, 1) := by decide +kernel
theorem dX8_term0_5 : decode cX8_term0 5 = .ok (.aload_n 0, 1) := by decide +kernel
theorem dX8_term0_6 : decode cX8_term0 6 = .ok (.bipush 42, 2) := by decide +kernel
theorem dX8_term0_8 : decode cX8_term0 8 = .ok (.invokevirtual 206, 3) := by decide +kernel
theorem dX8_term0_11 : decode cX8_term0 11 = .ok (.ifCond .eq 17, 3) := by decide +kernel
theorem dX8_term0_14 : decode cX8_term0 14 = .ok (.aload_n 0, 1) := by decide +kernel
theorem dX8_term0_15 : decode cX8_term0 15 = .ok (.invokevirtual 181, 3) := by decide +kernel
theorem dX8_term0_18 : decode cX8_term0 18 = .ok (.iload_n 1, 1) := by decide +kernel
theorem dX8_term0_19 : decode cX8_term0 19 = .ok (.aload_n 0, 1) := by decide +kernel
theorem dX8_term0_20 : decode cX8_term0 20 = .ok (.invokevirtual 311, 3) := by decide +kernel
theorem dX8_term0_23 : decode cX8_term0 23 = .ok (.imul, 1) := by decide +kernel
theorem dX8_term0_24 : decode cX8_term0 24 = .ok (.istore_n 1, 1) := by decide +kernel
theorem dX8_term0_25 : decode cX8_term0 25 = .ok (.goto (-20), 3) := by decide +kernel
theorem dX8_term0_28 : decode cX8_term0 28 = .ok (.iload_n 1, 1) := by decide +kernel
theorem dX8_term0_29 : decode cX8_term0 29 = .ok (.ireturn, 1) := by decide +kernel
set_option maxHeartbeats 4000000 in
set_option maxRecDepth 100000 in
theorem bb_X8_term0_5 {p : Program} {l : Launch} {e : Env} {s : State} {m : MethodId} {args : Array Value} {below : List Frame} {meth : Method} {c : Code} {D : va_G} {cy : Nat → ClassId} {ad : Nat → Nat} {A : Nat → Prop} {Q : Int32 → Sg → Prop} (K : Kx p s m args meth c cX8_term0 2 RX8 D cy) (hr : meth.sig.returnType = (some .int)) : ∀ (n : Nat) (x1 : Int32)  (g0 : Sg) (H : Heap) (locs : List Loc) (ls : Array Slot), vv_X8_term0_L5 Q n x1 g0 → Wd D A s.heap (wsM cy ad g0) H locs → lv_has ls 2 [(0, .ref (ad 0)), (1, .int x1)] → W p l e (rmD 35) s m args below meth c H locs 0 0 (MQ below (va_Qi Q (PostG (wsM cy ad) D A) A) args s 0 0 A) (F0 m 5 ls []) := by
  intro n
  induction n with
  | zero => intro _ _ _ _ _ hd; exact hd.elim
  | succ n ih =>
    intro x1 g0 H locs ls hd hw hl
    unfold vv_X8_term0_L5 at hd
    refine lv_aload_n K.1 K.2.1 dX8_term0_5 rfl (lv_at hl 0 rfl) ?_
    refine lv_bipush (v := (42 : Int32)) K.1 K.2.1 dX8_term0_6 (by decide) ?_
    refine rk_vi (As := [.int (42 : Int32)]) (rest := []) K hw (cc_X8_isSign l D cy ad A g0 _ (42 : Int32) hd) lk_X8_206 (ci := 8) rfl (q0 := 0) (wsM_at cy ad _ (by decide)) ⟨Nat.le_of_ble_eq_true rfl, Nat.le_of_ble_eq_true rfl⟩ ⟨Nat.zero_le _, Nat.zero_le _⟩ rfl hl.1 (Nat.le_of_ble_eq_true rfl) rfl dX8_term0_8 (fun r_5 g_4 H locs hd hw => ?_)
    refine lv_if_eq (tgt := 28) K.1 K.2.1 dX8_term0_11 (by decide) (fun h_6 => ?_) (fun h_6 => ?_)
    · have hd := hd.1 h_6
      refine lv_iload_n K.1 K.2.1 dX8_term0_28 rfl (lv_at hl 1 rfl) ?_
      exact rk_iret K hw hr hd dX8_term0_29
    · have hd := hd.2 h_6
      refine lv_aload_n K.1 K.2.1 dX8_term0_14 rfl (lv_at hl 0 rfl) ?_
      refine rk_vv (As := []) (rest := []) K hw (cc_X8_next l D cy ad A g_4 _  hd) lk_X8_181 (ci := 8) rfl (q0 := 0) (wsM_at cy ad _ (by decide)) ⟨Nat.le_of_ble_eq_true rfl, Nat.le_of_ble_eq_true rfl⟩ ⟨Nat.zero_le _, Nat.zero_le _⟩ rfl hl.1 (Nat.le_of_ble_eq_true rfl) rfl dX8_term0_15 (fun g_7 H locs hd hw => ?_)
      refine lv_iload_n K.1 K.2.1 dX8_term0_18 rfl (lv_at hl 1 rfl) ?_
      refine lv_aload_n K.1 K.2.1 dX8_term0_19 rfl (lv_at hl 0 rfl) ?_
      refine rk_vi (As := []) (rest := [.int x1]) K hw (cc_X8_atom0 l D cy ad A g_7 _  hd) lk_X8_311 (ci := 8) rfl (q0 := 0) (wsM_at cy ad _ (by decide)) ⟨Nat.le_of_ble_eq_true rfl, Nat.le_of_ble_eq_true rfl⟩ ⟨Nat.zero_le _, Nat.zero_le _⟩ rfl hl.1 (Nat.le_of_ble_eq_true rfl) rfl dX8_term0_20 (fun r_10 g_9 H locs hd hw => ?_)
      refine lv_imul K.1 K.2.1 dX8_term0_23 ?_
      refine lv_topi (fun x1_11 ex1_11 => ?_)
      have hd := hd x1_11 ex1_11
      refine lv_istore_n (lv' := [(1, .int x1_11), (0, .ref (ad 0))]) K.1 K.2.1 dX8_term0_24 rfl hl (by decide) rfl (fun ls hl => ?_)
      refine lv_goto (tgt := 5) K.1 K.2.1 dX8_term0_25 (by decide) ?_
      exact ih x1_11 g_9 _ _ _ hd hw (lv_sub hl [1, 0] rfl)
set_option maxHeartbeats 4000000 in
set_option maxRecDepth 100000 in
theorem cc_X8_term0 (l : Launch) (D : va_G) (cy : Nat → ClassId) (ad : Nat → Nat) (A : Nat → Prop) (g0 : Sg) (Q : Int32 → Sg → Prop)  (hd : vv_X8_term0  g0 Q) : Met l yX8_term0 (Cond.code yX8_term0 cX8_term0 2 (some .int) :: TT) (rmD 35) (va_Pc [.ref (ad 0)] (PreG (wsM cy ad) D cy A g0)) (va_Qi Q (PostG (wsM cy ad) D A) A) 0 0 A := by
  unfold vv_X8_term0 at hd
  refine Met.ofW (cc := cX8_term0) (maxL := 2) (ret := (some .int)) (by decide) rfl ?_
  intro p e s m args below meth c s₁ B hml hv
  obtain ⟨rfl, hP, hK0, hD⟩ := hv
  have K : Kx p s m _ meth c cX8_term0 2 RX8 D cy := ⟨B.exec, B.bytes, hml, findClass_of_methodNamed B.named, fun w h => atoms_spec (ws := Cond.code yX8_term0 cX8_term0 2 (some .int) :: TT) B.pre w (List.mem_cons_of_mem _ h), hK0, B.notSynchronized⟩
  have hw : Wd D A s.heap (wsM cy ad g0) s.heap [] := ⟨hP, hD, va_S.rf⟩
  have hr := B.returns
  have hl := lv_entry ([.ref (ad 0)]) (n := 2) (Nat.le_of_ble_eq_true rfl)
  rw [lg_entry_eq]
  generalize (lg_sl ([.ref (ad 0)]) ++ List.replicate (2 - (lg_sl ([.ref (ad 0)])).length) Slot.unset).toArray = ls at hl ⊢
  have hl : lv_has ls 2 [(0, .ref (ad 0))] := hl
  refine lv_aload_n K.1 K.2.1 dX8_term0_0 rfl (lv_at hl 0 rfl) ?_
  refine rk_vi (As := []) (rest := []) K hw (cc_X8_atom0 l D cy ad A g0 _  hd) lk_X8_311 (ci := 8) rfl (q0 := 0) (wsM_at cy ad _ (by decide)) ⟨Nat.le_of_ble_eq_true rfl, Nat.le_of_ble_eq_true rfl⟩ ⟨Nat.zero_le _, Nat.zero_le _⟩ rfl hl.1 (Nat.le_of_ble_eq_true rfl) rfl dX8_term0_1 (fun r_2 g_1 H locs hd hw => ?_)
  refine lv_topi (fun x1_3 ex1_3 => ?_)
  have hd := hd x1_3 ex1_3
  refine lv_istore_n (lv' := [(1, .int x1_3), (0, .ref (ad 0))]) K.1 K.2.1 dX8_term0_4 rfl hl (by decide) rfl (fun ls hl => ?_)
  obtain ⟨n9, hd⟩ := hd
  exact bb_X8_term0_5 K hr  n9 x1_3 g_1 _ _ _ hd hw (lv_sub hl [1, 0] rfl)
theorem dX8_added0_0 : decode cX8_added0 0 = .ok (.aload_n 0, 1) := by decide +kernel
theorem dX8_added0_1 : decode cX8_added0 1 = .ok (.invokevirtual 314, 3) := by decide +kernel
theorem dX8_added0_4 : decode cX8_added0 4 = .ok (.istore_n 1, 1) := by decide +kernel
theorem dX8_added0_5 : decode cX8_added0 5 = .ok (.aload_n 0, 1) := by decide +kernel
theorem dX8_added0_6 : decode cX8_added0 6 = .ok (.bipush 43, 2) := by decide +kernel
theorem dX8_added0_8 : decode cX8_added0 8 = .ok (.invokevirtual 206, 3) := by decide +kernel
theorem dX8_added0_11 : decode cX8_added0 11 = .ok (.ifCond .ne 12, 3) := by decide +kernel
theorem dX8_added0_14 : decode cX8_added0 14 = .ok (.aload_n 0, 1) := by decide +kernel
theorem dX8_added0_15 : decode cX8_added0 15 = .ok (.bipush 45, 2) := by decide +kernel
theorem dX8_added0_17 : decode cX8_added0 17 = .ok (.invokevirtual 206, 3) := by decide +kernel
theorem dX8_added0_20 : decode cX8_added0 20 = .ok (.ifCond .eq 46, 3) := by decide +kernel
theorem dX8_added0_23 : decode cX8_added0 23 = .ok (.aload_n 0, 1) := by decide +kernel
theorem dX8_added0_24 : decode cX8_added0 24 = .ok (.getfield 160, 3) := by decide +kernel
theorem dX8_added0_27 : decode cX8_added0 27 = .ok (.ldc2_w 223, 3) := by decide +kernel
theorem dX8_added0_30 : decode cX8_added0 30 = .ok (.lcmp, 1) := by decide +kernel
theorem dX8_added0_31 : decode cX8_added0 31 = .ok (.ifCond .ne 7, 3) := by decide +kernel
theorem dX8_added0_34 : decode cX8_added0 34 = .ok (.iconst 1, 1) := by decide +kernel
theorem dX8_added0_35 : decode cX8_added0 35 = .ok (.goto 4, 3) := by decide +kernel
theorem dX8_added0_38 : decode cX8_added0 38 = .ok (.iconst 0, 1) := by decide +kernel
theorem dX8_added0_39 : decode cX8_added0 39 = .ok (.istore_n 2, 1) := by decide +kernel
theorem dX8_added0_40 : decode cX8_added0 40 = .ok (.aload_n 0, 1) := by decide +kernel
theorem dX8_added0_41 : decode cX8_added0 41 = .ok (.invokevirtual 181, 3) := by decide +kernel
theorem dX8_added0_44 : decode cX8_added0 44 = .ok (.aload_n 0, 1) := by decide +kernel
theorem dX8_added0_45 : decode cX8_added0 45 = .ok (.invokevirtual 314, 3) := by decide +kernel
theorem dX8_added0_48 : decode cX8_added0 48 = .ok (.istore_n 3, 1) := by decide +kernel
theorem dX8_added0_49 : decode cX8_added0 49 = .ok (.iload_n 2, 1) := by decide +kernel
theorem dX8_added0_50 : decode cX8_added0 50 = .ok (.ifCond .eq 9, 3) := by decide +kernel
theorem dX8_added0_53 : decode cX8_added0 53 = .ok (.iload_n 1, 1) := by decide +kernel
theorem dX8_added0_54 : decode cX8_added0 54 = .ok (.iload_n 3, 1) := by decide +kernel
theorem dX8_added0_55 : decode cX8_added0 55 = .ok (.iadd, 1) := by decide +kernel
theorem dX8_added0_56 : decode cX8_added0 56 = .ok (.goto 6, 3) := by decide +kernel
theorem dX8_added0_59 : decode cX8_added0 59 = .ok (.iload_n 1, 1) := by decide +kernel
theorem dX8_added0_60 : decode cX8_added0 60 = .ok (.iload_n 3, 1) := by decide +kernel
theorem dX8_added0_61 : decode cX8_added0 61 = .ok (.isub, 1) := by decide +kernel
theorem dX8_added0_62 : decode cX8_added0 62 = .ok (.istore_n 1, 1) := by decide +kernel
theorem dX8_added0_63 : decode cX8_added0 63 = .ok (.goto (-58), 3) := by decide +kernel
theorem dX8_added0_66 : decode cX8_added0 66 = .ok (.iload_n 1, 1) := by decide +kernel
theorem dX8_added0_67 : decode cX8_added0 67 = .ok (.ireturn, 1) := by decide +kernel
set_option maxHeartbeats 4000000 in
set_option maxRecDepth 100000 in
theorem bb_X8_added0_62 {p : Program} {l : Launch} {e : Env} {s : State} {m : MethodId} {args : Array Value} {below : List Frame} {meth : Method} {c : Code} {D : va_G} {cy : Nat → ClassId} {ad : Nat → Nat} {A : Nat → Prop} {Q : Int32 → Sg → Prop} (K : Kx p s m args meth c cX8_added0 4 RX8 D cy) (hr : meth.sig.returnType = (some .int)) {rc5 : Int32 → Sg → Prop} (hrc5 : ∀ (x1 : Int32) (u : Sg) (H : Heap) (locs : List Loc) (ls : Array Slot), rc5 x1 u → Wd D A s.heap (wsM cy ad u) H locs → lv_has ls 4 [(0, .ref (ad 0)), (1, .int x1)] → W p l e (rmD 36) s m args below meth c H locs 0 0 (MQ below (va_Qi Q (PostG (wsM cy ad) D A) A) args s 0 0 A) (F0 m 5 ls []))  (t0 : Int32) (g0 : Sg) (H : Heap) (locs : List Loc) (ls : Array Slot) (hd : vv_X8_added0_J62 rc5 t0 g0 Q) (hw : Wd D A s.heap (wsM cy ad g0) H locs) (hl : lv_has ls 4 [(0, .ref (ad 0))]) : W p l e (rmD 36) s m args below meth c H locs 0 0 (MQ below (va_Qi Q (PostG (wsM cy ad) D A) A) args s 0 0 A) (F0 m 62 ls [.int t0]) := by
  unfold vv_X8_added0_J62 at hd
  refine lv_topi (fun x1_15 ex1_15 => ?_)
  have hd := hd x1_15 ex1_15
  refine lv_istore_n (lv' := [(1, .int x1_15), (0, .ref (ad 0))]) K.1 K.2.1 dX8_added0_62 rfl hl (by decide) rfl (fun ls hl => ?_)
  refine lv_goto (tgt := 5) K.1 K.2.1 dX8_added0_63 (by decide) ?_
  exact hrc5 x1_15 g0 _ _ _ hd hw (lv_sub hl [1, 0] rfl)
set_option maxHeartbeats 4000000 in
set_option maxRecDepth 100000 in
theorem bb_X8_added0_39 {p : Program} {l : Launch} {e : Env} {s : State} {m : MethodId} {args : Array Value} {below : List Frame} {meth : Method} {c : Code} {D : va_G} {cy : Nat → ClassId} {ad : Nat → Nat} {A : Nat → Prop} {Q : Int32 → Sg → Prop} (K : Kx p s m args meth c cX8_added0 4 RX8 D cy) (hr : meth.sig.returnType = (some .int)) {rc5 : Int32 → Sg → Prop} (hrc5 : ∀ (x1 : Int32) (u : Sg) (H : Heap) (locs : List Loc) (ls : Array Slot), rc5 x1 u → Wd D A s.heap (wsM cy ad u) H locs → lv_has ls 4 [(0, .ref (ad 0)), (1, .int x1)] → W p l e (rmD 36) s m args below meth c H locs 0 0 (MQ below (va_Qi Q (PostG (wsM cy ad) D A) A) args s 0 0 A) (F0 m 5 ls [])) (x1 : Int32) (t0 : Int32) (g0 : Sg) (H : Heap) (locs : List Loc) (ls : Array Slot) (hd : vv_X8_added0_J39 rc5 x1 t0 g0 Q) (hw : Wd D A s.heap (wsM cy ad g0) H locs) (hl : lv_has ls 4 [(0, .ref (ad 0)), (1, .int x1)]) : W p l e (rmD 36) s m args below meth c H locs 0 0 (MQ below (va_Qi Q (PostG (wsM cy ad) D A) A) args s 0 0 A) (F0 m 39 ls [.int t0]) := by
  unfold vv_X8_added0_J39 at hd
  refine lv_topi (fun x2_8 ex2_8 => ?_)
  have hd := hd x2_8 ex2_8
  refine lv_istore_n (lv' := [(2, .int x2_8), (0, .ref (ad 0)), (1, .int x1)]) K.1 K.2.1 dX8_added0_39 rfl hl (by decide) rfl (fun ls hl => ?_)
  refine lv_aload_n K.1 K.2.1 dX8_added0_40 rfl (lv_at hl 1 rfl) ?_
  refine rk_vv (As := []) (rest := []) K hw (cc_X8_next l D cy ad A g0 _  hd) lk_X8_181 (ci := 8) rfl (q0 := 0) (wsM_at cy ad _ (by decide)) ⟨Nat.le_of_ble_eq_true rfl, Nat.le_of_ble_eq_true rfl⟩ ⟨Nat.zero_le _, Nat.zero_le _⟩ rfl hl.1 (Nat.le_of_ble_eq_true rfl) rfl dX8_added0_41 (fun g_9 H locs hd hw => ?_)
  refine lv_aload_n K.1 K.2.1 dX8_added0_44 rfl (lv_at hl 1 rfl) ?_
  refine rk_vi (As := []) (rest := []) K hw (cc_X8_term0 l D cy ad A g_9 _  hd) lk_X8_314 (ci := 8) rfl (q0 := 0) (wsM_at cy ad _ (by decide)) ⟨Nat.le_of_ble_eq_true rfl, Nat.le_of_ble_eq_true rfl⟩ ⟨Nat.zero_le _, Nat.zero_le _⟩ rfl hl.1 (Nat.le_of_ble_eq_true rfl) rfl dX8_added0_45 (fun r_12 g_11 H locs hd hw => ?_)
  refine lv_topi (fun x3_13 ex3_13 => ?_)
  have hd := hd x3_13 ex3_13
  refine lv_istore_n (lv' := [(3, .int x3_13), (2, .int x2_8), (0, .ref (ad 0)), (1, .int x1)]) K.1 K.2.1 dX8_added0_48 rfl hl (by decide) rfl (fun ls hl => ?_)
  refine lv_iload_n K.1 K.2.1 dX8_added0_49 rfl (lv_at hl 1 rfl) ?_
  refine lv_if_eq (tgt := 59) K.1 K.2.1 dX8_added0_50 (by decide) (fun h_14 => ?_) (fun h_14 => ?_)
  · have hd := hd.1 h_14
    refine lv_iload_n K.1 K.2.1 dX8_added0_59 rfl (lv_at hl 3 rfl) ?_
    refine lv_iload_n K.1 K.2.1 dX8_added0_60 rfl (lv_at hl 0 rfl) ?_
    refine lv_isub K.1 K.2.1 dX8_added0_61 ?_
    exact bb_X8_added0_62 K hr hrc5 (x1 - x3_13) g_11 _ _ _ hd hw (lv_sub hl [2] rfl)
  · have hd := hd.2 h_14
    refine lv_iload_n K.1 K.2.1 dX8_added0_53 rfl (lv_at hl 3 rfl) ?_
    refine lv_iload_n K.1 K.2.1 dX8_added0_54 rfl (lv_at hl 0 rfl) ?_
    refine lv_iadd K.1 K.2.1 dX8_added0_55 ?_
    refine lv_goto (tgt := 62) K.1 K.2.1 dX8_added0_56 (by decide) ?_
    exact bb_X8_added0_62 K hr hrc5 (x1 + x3_13) g_11 _ _ _ hd hw (lv_sub hl [2] rfl)
set_option maxHeartbeats 4000000 in
set_option maxRecDepth 100000 in
theorem bb_X8_added0_23 {p : Program} {l : Launch} {e : Env} {s : State} {m : MethodId} {args : Array Value} {below : List Frame} {meth : Method} {c : Code} {D : va_G} {cy : Nat → ClassId} {ad : Nat → Nat} {A : Nat → Prop} {Q : Int32 → Sg → Prop} (K : Kx p s m args meth c cX8_added0 4 RX8 D cy) (hr : meth.sig.returnType = (some .int)) {rc5 : Int32 → Sg → Prop} (hrc5 : ∀ (x1 : Int32) (u : Sg) (H : Heap) (locs : List Loc) (ls : Array Slot), rc5 x1 u → Wd D A s.heap (wsM cy ad u) H locs → lv_has ls 4 [(0, .ref (ad 0)), (1, .int x1)] → W p l e (rmD 36) s m args below meth c H locs 0 0 (MQ below (va_Qi Q (PostG (wsM cy ad) D A) A) args s 0 0 A) (F0 m 5 ls [])) (x1 : Int32)  (g0 : Sg) (H : Heap) (locs : List Loc) (ls : Array Slot) (hd : vv_X8_added0_J23 rc5 x1 g0 Q) (hw : Wd D A s.heap (wsM cy ad g0) H locs) (hl : lv_has ls 4 [(0, .ref (ad 0)), (1, .int x1)]) : W p l e (rmD 36) s m args below meth c H locs 0 0 (MQ below (va_Qi Q (PostG (wsM cy ad) D A) A) args s 0 0 A) (F0 m 23 ls []) := by
  unfold vv_X8_added0_J23 at hd
  refine lv_aload_n K.1 K.2.1 dX8_added0_23 rfl (lv_at hl 0 rfl) ?_
  refine rm_get 23 K hw (by decide) kf_X8_160 rfl dX8_added0_24 ?_
  refine lv_ldc2 K.1 K.2.1 K.2.2.2.1 (K.2.2.2.2.1 _ kl_X8_223) dX8_added0_27 ?_
  refine W.lcmp K.1 K.2.1 dX8_added0_30 ?_
  refine lv_if_ne (tgt := 38) K.1 K.2.1 dX8_added0_31 (by decide) (fun h_7 => ?_) (fun h_7 => ?_)
  · have hd := hd.1 h_7
    refine lv_iconst (v := (0 : Int32)) K.1 K.2.1 dX8_added0_38 (by decide) ?_
    exact bb_X8_added0_39 K hr hrc5 x1 (0 : Int32) g0 _ _ _ hd hw (lv_sub hl [0, 1] rfl)
  · have hd := hd.2 h_7
    refine lv_iconst (v := (1 : Int32)) K.1 K.2.1 dX8_added0_34 (by decide) ?_
    refine lv_goto (tgt := 39) K.1 K.2.1 dX8_added0_35 (by decide) ?_
    exact bb_X8_added0_39 K hr hrc5 x1 (1 : Int32) g0 _ _ _ hd hw (lv_sub hl [0, 1] rfl)
set_option maxHeartbeats 4000000 in
set_option maxRecDepth 100000 in
theorem bb_X8_added0_5 {p : Program} {l : Launch} {e : Env} {s : State} {m : MethodId} {args : Array Value} {below : List Frame} {meth : Method} {c : Code} {D : va_G} {cy : Nat → ClassId} {ad : Nat → Nat} {A : Nat → Prop} {Q : Int32 → Sg → Prop} (K : Kx p s m args meth c cX8_added0 4 RX8 D cy) (hr : meth.sig.returnType = (some .int)) : ∀ (n : Nat) (x1 : Int32)  (g0 : Sg) (H : Heap) (locs : List Loc) (ls : Array Slot), vv_X8_added0_L5 Q n x1 g0 → Wd D A s.heap (wsM cy ad g0) H locs → lv_has ls 4 [(0, .ref (ad 0)), (1, .int x1)] → W p l e (rmD 36) s m args below meth c H locs 0 0 (MQ below (va_Qi Q (PostG (wsM cy ad) D A) A) args s 0 0 A) (F0 m 5 ls []) := by
  intro n
  induction n with
  | zero => intro _ _ _ _ _ hd; exact hd.elim
  | succ n ih =>
    intro x1 g0 H locs ls hd hw hl
    unfold vv_X8_added0_L5 at hd
    refine lv_aload_n K.1 K.2.1 dX8_added0_5 rfl (lv_at hl 0 rfl) ?_
    refine lv_bipush (v := (43 : Int32)) K.1 K.2.1 dX8_added0_6 (by decide) ?_
    refine rk_vi (As := [.int (43 : Int32)]) (rest := []) K hw (cc_X8_isSign l D cy ad A g0 _ (43 : Int32) hd) lk_X8_206 (ci := 8) rfl (q0 := 0) (wsM_at cy ad _ (by decide)) ⟨Nat.le_of_ble_eq_true rfl, Nat.le_of_ble_eq_true rfl⟩ ⟨Nat.zero_le _, Nat.zero_le _⟩ rfl hl.1 (Nat.le_of_ble_eq_true rfl) rfl dX8_added0_8 (fun r_5 g_4 H locs hd hw => ?_)
    refine lv_if_ne (tgt := 23) K.1 K.2.1 dX8_added0_11 (by decide) (fun h_6 => ?_) (fun h_6 => ?_)
    · have hd := hd.1 h_6
      exact bb_X8_added0_23 K hr ih x1 g_4 _ _ _ hd hw (lv_sub hl [0, 1] rfl)
    · have hd := hd.2 h_6
      refine lv_aload_n K.1 K.2.1 dX8_added0_14 rfl (lv_at hl 0 rfl) ?_
      refine lv_bipush (v := (45 : Int32)) K.1 K.2.1 dX8_added0_15 (by decide) ?_
      refine rk_vi (As := [.int (45 : Int32)]) (rest := []) K hw (cc_X8_isSign l D cy ad A g_4 _ (45 : Int32) hd) lk_X8_206 (ci := 8) rfl (q0 := 0) (wsM_at cy ad _ (by decide)) ⟨Nat.le_of_ble_eq_true rfl, Nat.le_of_ble_eq_true rfl⟩ ⟨Nat.zero_le _, Nat.zero_le _⟩ rfl hl.1 (Nat.le_of_ble_eq_true rfl) rfl dX8_added0_17 (fun r_17 g_16 H locs hd hw => ?_)
      refine lv_if_eq (tgt := 66) K.1 K.2.1 dX8_added0_20 (by decide) (fun h_18 => ?_) (fun h_18 => ?_)
      · have hd := hd.1 h_18
        refine lv_iload_n K.1 K.2.1 dX8_added0_66 rfl (lv_at hl 1 rfl) ?_
        exact rk_iret K hw hr hd dX8_added0_67
      · have hd := hd.2 h_18
        exact bb_X8_added0_23 K hr ih x1 g_16 _ _ _ hd hw (lv_sub hl [0, 1] rfl)
set_option maxHeartbeats 4000000 in
set_option maxRecDepth 100000 in
theorem cc_X8_added0 (l : Launch) (D : va_G) (cy : Nat → ClassId) (ad : Nat → Nat) (A : Nat → Prop) (g0 : Sg) (Q : Int32 → Sg → Prop)  (hd : vv_X8_added0  g0 Q) : Met l yX8_added0 (Cond.code yX8_added0 cX8_added0 4 (some .int) :: TT) (rmD 36) (va_Pc [.ref (ad 0)] (PreG (wsM cy ad) D cy A g0)) (va_Qi Q (PostG (wsM cy ad) D A) A) 0 0 A := by
  unfold vv_X8_added0 at hd
  refine Met.ofW (cc := cX8_added0) (maxL := 4) (ret := (some .int)) (by decide) rfl ?_
  intro p e s m args below meth c s₁ B hml hv
  obtain ⟨rfl, hP, hK0, hD⟩ := hv
  have K : Kx p s m _ meth c cX8_added0 4 RX8 D cy := ⟨B.exec, B.bytes, hml, findClass_of_methodNamed B.named, fun w h => atoms_spec (ws := Cond.code yX8_added0 cX8_added0 4 (some .int) :: TT) B.pre w (List.mem_cons_of_mem _ h), hK0, B.notSynchronized⟩
  have hw : Wd D A s.heap (wsM cy ad g0) s.heap [] := ⟨hP, hD, va_S.rf⟩
  have hr := B.returns
  have hl := lv_entry ([.ref (ad 0)]) (n := 4) (Nat.le_of_ble_eq_true rfl)
  rw [lg_entry_eq]
  generalize (lg_sl ([.ref (ad 0)]) ++ List.replicate (4 - (lg_sl ([.ref (ad 0)])).length) Slot.unset).toArray = ls at hl ⊢
  have hl : lv_has ls 4 [(0, .ref (ad 0))] := hl
  refine lv_aload_n K.1 K.2.1 dX8_added0_0 rfl (lv_at hl 0 rfl) ?_
  refine rk_vi (As := []) (rest := []) K hw (cc_X8_term0 l D cy ad A g0 _  hd) lk_X8_314 (ci := 8) rfl (q0 := 0) (wsM_at cy ad _ (by decide)) ⟨Nat.le_of_ble_eq_true rfl, Nat.le_of_ble_eq_true rfl⟩ ⟨Nat.zero_le _, Nat.zero_le _⟩ rfl hl.1 (Nat.le_of_ble_eq_true rfl) rfl dX8_added0_1 (fun r_2 g_1 H locs hd hw => ?_)
  refine lv_topi (fun x1_3 ex1_3 => ?_)
  have hd := hd x1_3 ex1_3
  refine lv_istore_n (lv' := [(1, .int x1_3), (0, .ref (ad 0))]) K.1 K.2.1 dX8_added0_4 rfl hl (by decide) rfl (fun ls hl => ?_)
  obtain ⟨n9, hd⟩ := hd
  exact bb_X8_added0_5 K hr  n9 x1_3 g_1 _ _ _ hd hw (lv_sub hl [1, 0] rfl)
theorem dX8_not0_0 : decode cX8_not0 0 = .ok (.aload_n 0, 1) := by decide +kernel
theorem dX8_not0_1 : decode cX8_not0 1 = .ok (.bipush 110, 2) := by decide +kernel
theorem dX8_not0_3 : decode cX8_not0 3 = .ok (.bipush 111, 2) := by decide +kernel
theorem dX8_not0_5 : decode cX8_not0 5 = .ok (.bipush 116, 2) := by decide +kernel
theorem dX8_not0_7 : decode cX8_not0 7 = .ok (.iconst 0, 1) := by decide +kernel
theorem dX8_not0_8 : decode cX8_not0 8 = .ok (.iconst 0, 1) := by decide +kernel
theorem dX8_not0_9 : decode cX8_not0 9 = .ok (.iconst 0, 1) := by decide +kernel
theorem dX8_not0_10 : decode cX8_not0 10 = .ok (.iconst 0, 1) := by decide +kernel
theorem dX8_not0_11 : decode cX8_not0 11 = .ok (.iconst 0, 1) := by decide +kernel
theorem dX8_not0_12 : decode cX8_not0 12 = .ok (.invokevirtual 184, 3) := by decide +kernel
theorem dX8_not0_15 : decode cX8_not0 15 = .ok (.ifCond .eq 37, 3) := by decide +kernel
theorem dX8_not0_18 : decode cX8_not0 18 = .ok (.aload_n 0, 1) := by decide +kernel
theorem dX8_not0_19 : decode cX8_not0 19 = .ok (.invokevirtual 209, 3) := by decide +kernel
theorem dX8_not0_22 : decode cX8_not0 22 = .ok (.ifCond .ne 5, 3) := by decide +kernel
theorem dX8_not0_25 : decode cX8_not0 25 = .ok (.iconst 0, 1) := by decide +kernel
theorem dX8_not0_26 : decode cX8_not0 26 = .ok (.ireturn, 1) := by decide +kernel
theorem dX8_not0_27 : decode cX8_not0 27 = .ok (.aload_n 0, 1) := by decide +kernel
theorem dX8_not0_28 : decode cX8_not0 28 = .ok (.invokevirtual 302, 3) := by decide +kernel
theorem dX8_not0_31 : decode cX8_not0 31 = .ok (.istore_n 1, 1) := by decide +kernel
theorem dX8_not0_32 : decode cX8_not0 32 = .ok (.aload_n 0, 1) := by decide +kernel
theorem dX8_not0_33 : decode cX8_not0 33 = .ok (.dup, 1) := by decide +kernel
theorem dX8_not0_34 : decode cX8_not0 34 = .ok (.getfield 175, 3) := by decide +kernel
theorem dX8_not0_37 : decode cX8_not0 37 = .ok (.iconst 1, 1) := by decide +kernel
theorem dX8_not0_38 : decode cX8_not0 38 = .ok (.isub, 1) := by decide +kernel
theorem dX8_not0_39 : decode cX8_not0 39 = .ok (.putfield 175, 3) := by decide +kernel
theorem dX8_not0_42 : decode cX8_not0 42 = .ok (.iload_n 1, 1) := by decide +kernel
theorem dX8_not0_43 : decode cX8_not0 43 = .ok (.ifCond .ne 7, 3) := by decide +kernel
theorem dX8_not0_46 : decode cX8_not0 46 = .ok (.iconst 1, 1) := by decide +kernel
theorem dX8_not0_47 : decode cX8_not0 47 = .ok (.goto 4, 3) := by decide +kernel
theorem dX8_not0_50 : decode cX8_not0 50 = .ok (.iconst 0, 1) := by decide +kernel
theorem dX8_not0_51 : decode cX8_not0 51 = .ok (.ireturn, 1) := by decide +kernel
theorem dX8_not0_52 : decode cX8_not0 52 = .ok (.aload_n 0, 1) := by decide +kernel
theorem dX8_not0_53 : decode cX8_not0 53 = .ok (.invokevirtual 317, 3) := by decide +kernel
theorem dX8_not0_56 : decode cX8_not0 56 = .ok (.istore_n 1, 1) := by decide +kernel
theorem dX8_not0_57 : decode cX8_not0 57 = .ok (.aload_n 0, 1) := by decide +kernel
theorem dX8_not0_58 : decode cX8_not0 58 = .ok (.bipush 60, 2) := by decide +kernel
theorem dX8_not0_60 : decode cX8_not0 60 = .ok (.invokevirtual 206, 3) := by decide +kernel
theorem dX8_not0_63 : decode cX8_not0 63 = .ok (.ifCond .ne 14, 3) := by decide +kernel
theorem dX8_not0_66 : decode cX8_not0 66 = .ok (.aload_n 0, 1) := by decide +kernel
theorem dX8_not0_67 : decode cX8_not0 67 = .ok (.bipush 61, 2) := by decide +kernel
theorem dX8_not0_69 : decode cX8_not0 69 = .ok (.invokevirtual 206, 3) := by decide +kernel
theorem dX8_not0_72 : decode cX8_not0 72 = .ok (.ifCond .ne 5, 3) := by decide +kernel
theorem dX8_not0_75 : decode cX8_not0 75 = .ok (.iload_n 1, 1) := by decide +kernel
theorem dX8_not0_76 : decode cX8_not0 76 = .ok (.ireturn, 1) := by decide +kernel
theorem dX8_not0_77 : decode cX8_not0 77 = .ok (.aload_n 0, 1) := by decide +kernel
theorem dX8_not0_78 : decode cX8_not0 78 = .ok (.getfield 160, 3) := by decide +kernel
theorem dX8_not0_81 : decode cX8_not0 81 = .ok (.ldc2_w 228, 3) := by decide +kernel
theorem dX8_not0_84 : decode cX8_not0 84 = .ok (.lcmp, 1) := by decide +kernel
theorem dX8_not0_85 : decode cX8_not0 85 = .ok (.ifCond .ne 7, 3) := by decide +kernel
theorem dX8_not0_88 : decode cX8_not0 88 = .ok (.iconst 1, 1) := by decide +kernel
theorem dX8_not0_89 : decode cX8_not0 89 = .ok (.goto 4, 3) := by decide +kernel
theorem dX8_not0_92 : decode cX8_not0 92 = .ok (.iconst 0, 1) := by decide +kernel
theorem dX8_not0_93 : decode cX8_not0 93 = .ok (.istore_n 2, 1) := by decide +kernel
theorem dX8_not0_94 : decode cX8_not0 94 = .ok (.aload_n 0, 1) := by decide +kernel
theorem dX8_not0_95 : decode cX8_not0 95 = .ok (.invokevirtual 181, 3) := by decide +kernel
theorem dX8_not0_98 : decode cX8_not0 98 = .ok (.aload_n 0, 1) := by decide +kernel
theorem dX8_not0_99 : decode cX8_not0 99 = .ok (.invokevirtual 317, 3) := by decide +kernel
theorem dX8_not0_102 : decode cX8_not0 102 = .ok (.istore_n 3, 1) := by decide +kernel
theorem dX8_not0_103 : decode cX8_not0 103 = .ok (.iload_n 2, 1) := by decide +kernel
theorem dX8_not0_104 : decode cX8_not0 104 = .ok (.ifCond .eq 11, 3) := by decide +kernel
theorem dX8_not0_107 : decode cX8_not0 107 = .ok (.iload_n 1, 1) := by decide +kernel
theorem dX8_not0_108 : decode cX8_not0 108 = .ok (.iload_n 3, 1) := by decide +kernel
theorem dX8_not0_109 : decode cX8_not0 109 = .ok (.if_icmp .ge 15, 3) := by decide +kernel
theorem dX8_not0_112 : decode cX8_not0 112 = .ok (.goto 8, 3) := by decide +kernel
theorem dX8_not0_115 : decode cX8_not0 115 = .ok (.iload_n 1, 1) := by decide +kernel
theorem dX8_not0_116 : decode cX8_not0 116 = .ok (.iload_n 3, 1) := by decide +kernel
theorem dX8_not0_117 : decode cX8_not0 117 = .ok (.if_icmp .ne 7, 3) := by decide +kernel
theorem dX8_not0_120 : decode cX8_not0 120 = .ok (.iconst 1, 1) := by decide +kernel
theorem dX8_not0_121 : decode cX8_not0 121 = .ok (.goto 4, 3) := by decide +kernel
theorem dX8_not0_124 : decode cX8_not0 124 = .ok (.iconst 0, 1) := by decide +kernel
theorem dX8_not0_125 : decode cX8_not0 125 = .ok (.ireturn, 1) := by decide +kernel
set_option maxHeartbeats 4000000 in
set_option maxRecDepth 100000 in
theorem bb_X8_not0_120 {p : Program} {l : Launch} {e : Env} {s : State} {m : MethodId} {args : Array Value} {below : List Frame} {meth : Method} {c : Code} {D : va_G} {cy : Nat → ClassId} {ad : Nat → Nat} {A : Nat → Prop} {Q : Int32 → Sg → Prop} (K : Kx p s m args meth c cX8_not0 4 RX8 D cy) (hr : meth.sig.returnType = (some .int))   (g0 : Sg) (H : Heap) (locs : List Loc) (ls : Array Slot) (hd : vv_X8_not0_J120 g0 Q) (hw : Wd D A s.heap (wsM cy ad g0) H locs) (hl : lv_has ls 4 []) : W p l e (rmD 37) s m args below meth c H locs 0 0 (MQ below (va_Qi Q (PostG (wsM cy ad) D A) A) args s 0 0 A) (F0 m 120 ls []) := by
  unfold vv_X8_not0_J120 at hd
  refine lv_iconst (v := (1 : Int32)) K.1 K.2.1 dX8_not0_120 (by decide) ?_
  refine lv_goto (tgt := 125) K.1 K.2.1 dX8_not0_121 (by decide) ?_
  exact rk_iret K hw hr hd dX8_not0_125
set_option maxHeartbeats 4000000 in
set_option maxRecDepth 100000 in
theorem bb_X8_not0_93 {p : Program} {l : Launch} {e : Env} {s : State} {m : MethodId} {args : Array Value} {below : List Frame} {meth : Method} {c : Code} {D : va_G} {cy : Nat → ClassId} {ad : Nat → Nat} {A : Nat → Prop} {Q : Int32 → Sg → Prop} (K : Kx p s m args meth c cX8_not0 4 RX8 D cy) (hr : meth.sig.returnType = (some .int)) (x1 : Int32) (t0 : Int32) (g0 : Sg) (H : Heap) (locs : List Loc) (ls : Array Slot) (hd : vv_X8_not0_J93 x1 t0 g0 Q) (hw : Wd D A s.heap (wsM cy ad g0) H locs) (hl : lv_has ls 4 [(0, .ref (ad 0)), (1, .int x1)]) : W p l e (rmD 37) s m args below meth c H locs 0 0 (MQ below (va_Qi Q (PostG (wsM cy ad) D A) A) args s 0 0 A) (F0 m 93 ls [.int t0]) := by
  unfold vv_X8_not0_J93 at hd
  refine lv_topi (fun x2_11 ex2_11 => ?_)
  have hd := hd x2_11 ex2_11
  refine lv_istore_n (lv' := [(2, .int x2_11), (0, .ref (ad 0)), (1, .int x1)]) K.1 K.2.1 dX8_not0_93 rfl hl (by decide) rfl (fun ls hl => ?_)
  refine lv_aload_n K.1 K.2.1 dX8_not0_94 rfl (lv_at hl 1 rfl) ?_
  refine rk_vv (As := []) (rest := []) K hw (cc_X8_next l D cy ad A g0 _  hd) lk_X8_181 (ci := 8) rfl (q0 := 0) (wsM_at cy ad _ (by decide)) ⟨Nat.le_of_ble_eq_true rfl, Nat.le_of_ble_eq_true rfl⟩ ⟨Nat.zero_le _, Nat.zero_le _⟩ rfl hl.1 (Nat.le_of_ble_eq_true rfl) rfl dX8_not0_95 (fun g_12 H locs hd hw => ?_)
  refine lv_aload_n K.1 K.2.1 dX8_not0_98 rfl (lv_at hl 1 rfl) ?_
  refine rk_vi (As := []) (rest := []) K hw (cc_X8_added0 l D cy ad A g_12 _  hd) lk_X8_317 (ci := 8) rfl (q0 := 0) (wsM_at cy ad _ (by decide)) ⟨Nat.le_of_ble_eq_true rfl, Nat.le_of_ble_eq_true rfl⟩ ⟨Nat.zero_le _, Nat.zero_le _⟩ rfl hl.1 (Nat.le_of_ble_eq_true rfl) rfl dX8_not0_99 (fun r_15 g_14 H locs hd hw => ?_)
  refine lv_topi (fun x3_16 ex3_16 => ?_)
  have hd := hd x3_16 ex3_16
  refine lv_istore_n (lv' := [(3, .int x3_16), (2, .int x2_11), (0, .ref (ad 0)), (1, .int x1)]) K.1 K.2.1 dX8_not0_102 rfl hl (by decide) rfl (fun ls hl => ?_)
  refine lv_iload_n K.1 K.2.1 dX8_not0_103 rfl (lv_at hl 1 rfl) ?_
  refine lv_if_eq (tgt := 115) K.1 K.2.1 dX8_not0_104 (by decide) (fun h_17 => ?_) (fun h_17 => ?_)
  · have hd := hd.1 h_17
    refine lv_iload_n K.1 K.2.1 dX8_not0_115 rfl (lv_at hl 3 rfl) ?_
    refine lv_iload_n K.1 K.2.1 dX8_not0_116 rfl (lv_at hl 0 rfl) ?_
    refine lv_icmp_ne (tgt := 124) K.1 K.2.1 dX8_not0_117 (by decide) (fun h_18 => ?_) (fun h_18 => ?_)
    · have hd := hd.1 h_18
      refine lv_iconst (v := (0 : Int32)) K.1 K.2.1 dX8_not0_124 (by decide) ?_
      exact rk_iret K hw hr hd dX8_not0_125
    · have hd := hd.2 h_18
      exact bb_X8_not0_120 K hr   g_14 _ _ _ hd hw (lv_sub hl [] rfl)
  · have hd := hd.2 h_17
    refine lv_iload_n K.1 K.2.1 dX8_not0_107 rfl (lv_at hl 3 rfl) ?_
    refine lv_iload_n K.1 K.2.1 dX8_not0_108 rfl (lv_at hl 0 rfl) ?_
    refine lv_icmp_ge (tgt := 124) K.1 K.2.1 dX8_not0_109 (by decide) (fun h_19 => ?_) (fun h_19 => ?_)
    · have hd := hd.1 h_19
      refine lv_iconst (v := (0 : Int32)) K.1 K.2.1 dX8_not0_124 (by decide) ?_
      exact rk_iret K hw hr hd dX8_not0_125
    · have hd := hd.2 h_19
      refine lv_goto (tgt := 120) K.1 K.2.1 dX8_not0_112 (by decide) ?_
      exact bb_X8_not0_120 K hr   g_14 _ _ _ hd hw (lv_sub hl [] rfl)
set_option maxHeartbeats 4000000 in
set_option maxRecDepth 100000 in
theorem bb_X8_not0_77 {p : Program} {l : Launch} {e : Env} {s : State} {m : MethodId} {args : Array Value} {below : List Frame} {meth : Method} {c : Code} {D : va_G} {cy : Nat → ClassId} {ad : Nat → Nat} {A : Nat → Prop} {Q : Int32 → Sg → Prop} (K : Kx p s m args meth c cX8_not0 4 RX8 D cy) (hr : meth.sig.returnType = (some .int)) (x1 : Int32)  (g0 : Sg) (H : Heap) (locs : List Loc) (ls : Array Slot) (hd : vv_X8_not0_J77 x1 g0 Q) (hw : Wd D A s.heap (wsM cy ad g0) H locs) (hl : lv_has ls 4 [(0, .ref (ad 0)), (1, .int x1)]) : W p l e (rmD 37) s m args below meth c H locs 0 0 (MQ below (va_Qi Q (PostG (wsM cy ad) D A) A) args s 0 0 A) (F0 m 77 ls []) := by
  unfold vv_X8_not0_J77 at hd
  refine lv_aload_n K.1 K.2.1 dX8_not0_77 rfl (lv_at hl 0 rfl) ?_
  refine rm_get 23 K hw (by decide) kf_X8_160 rfl dX8_not0_78 ?_
  refine lv_ldc2 K.1 K.2.1 K.2.2.2.1 (K.2.2.2.2.1 _ kl_X8_228) dX8_not0_81 ?_
  refine W.lcmp K.1 K.2.1 dX8_not0_84 ?_
  refine lv_if_ne (tgt := 92) K.1 K.2.1 dX8_not0_85 (by decide) (fun h_10 => ?_) (fun h_10 => ?_)
  · have hd := hd.1 h_10
    refine lv_iconst (v := (0 : Int32)) K.1 K.2.1 dX8_not0_92 (by decide) ?_
    exact bb_X8_not0_93 K hr  x1 (0 : Int32) g0 _ _ _ hd hw (lv_sub hl [0, 1] rfl)
  · have hd := hd.2 h_10
    refine lv_iconst (v := (1 : Int32)) K.1 K.2.1 dX8_not0_88 (by decide) ?_
    refine lv_goto (tgt := 93) K.1 K.2.1 dX8_not0_89 (by decide) ?_
    exact bb_X8_not0_93 K hr  x1 (1 : Int32) g0 _ _ _ hd hw (lv_sub hl [0, 1] rfl)
set_option maxHeartbeats 4000000 in
set_option maxRecDepth 100000 in
theorem cc_X8_not0 (l : Launch) (D : va_G) (cy : Nat → ClassId) (ad : Nat → Nat) (A : Nat → Prop) (g0 : Sg) (Q : Int32 → Sg → Prop)  (hd : vv_X8_not0  g0 Q) : Met l yX8_not0 (Cond.code yX8_not0 cX8_not0 4 (some .int) :: TT) (rmD 37) (va_Pc [.ref (ad 0)] (PreG (wsM cy ad) D cy A g0)) (va_Qi Q (PostG (wsM cy ad) D A) A) 0 0 A := by
  unfold vv_X8_not0 at hd
  refine Met.ofW (cc := cX8_not0) (maxL := 4) (ret := (some .int)) (by decide) rfl ?_
  intro p e s m args below meth c s₁ B hml hv
  obtain ⟨rfl, hP, hK0, hD⟩ := hv
  have K : Kx p s m _ meth c cX8_not0 4 RX8 D cy := ⟨B.exec, B.bytes, hml, findClass_of_methodNamed B.named, fun w h => atoms_spec (ws := Cond.code yX8_not0 cX8_not0 4 (some .int) :: TT) B.pre w (List.mem_cons_of_mem _ h), hK0, B.notSynchronized⟩
  have hw : Wd D A s.heap (wsM cy ad g0) s.heap [] := ⟨hP, hD, va_S.rf⟩
  have hr := B.returns
  have hl := lv_entry ([.ref (ad 0)]) (n := 4) (Nat.le_of_ble_eq_true rfl)
  rw [lg_entry_eq]
  generalize (lg_sl ([.ref (ad 0)]) ++ List.replicate (4 - (lg_sl ([.ref (ad 0)])).length) Slot.unset).toArray = ls at hl ⊢
  have hl : lv_has ls 4 [(0, .ref (ad 0))] := hl
  refine lv_aload_n K.1 K.2.1 dX8_not0_0 rfl (lv_at hl 0 rfl) ?_
  refine lv_bipush (v := (110 : Int32)) K.1 K.2.1 dX8_not0_1 (by decide) ?_
  refine lv_bipush (v := (111 : Int32)) K.1 K.2.1 dX8_not0_3 (by decide) ?_
  refine lv_bipush (v := (116 : Int32)) K.1 K.2.1 dX8_not0_5 (by decide) ?_
  refine lv_iconst (v := (0 : Int32)) K.1 K.2.1 dX8_not0_7 (by decide) ?_
  refine lv_iconst (v := (0 : Int32)) K.1 K.2.1 dX8_not0_8 (by decide) ?_
  refine lv_iconst (v := (0 : Int32)) K.1 K.2.1 dX8_not0_9 (by decide) ?_
  refine lv_iconst (v := (0 : Int32)) K.1 K.2.1 dX8_not0_10 (by decide) ?_
  refine lv_iconst (v := (0 : Int32)) K.1 K.2.1 dX8_not0_11 (by decide) ?_
  refine rk_vi (As := [.int (110 : Int32), .int (111 : Int32), .int (116 : Int32), .int (0 : Int32), .int (0 : Int32), .int (0 : Int32), .int (0 : Int32), .int (0 : Int32)]) (rest := []) K hw (cc_X8_isWord l D cy ad A g0 _ (110 : Int32) (111 : Int32) (116 : Int32) (0 : Int32) (0 : Int32) (0 : Int32) (0 : Int32) (0 : Int32) hd) lk_X8_184 (ci := 8) rfl (q0 := 0) (wsM_at cy ad _ (by decide)) ⟨Nat.le_of_ble_eq_true rfl, Nat.le_of_ble_eq_true rfl⟩ ⟨Nat.zero_le _, Nat.zero_le _⟩ rfl hl.1 (Nat.le_of_ble_eq_true rfl) rfl dX8_not0_12 (fun r_2 g_1 H locs hd hw => ?_)
  refine lv_if_eq (tgt := 52) K.1 K.2.1 dX8_not0_15 (by decide) (fun h_3 => ?_) (fun h_3 => ?_)
  · have hd := hd.1 h_3
    refine lv_aload_n K.1 K.2.1 dX8_not0_52 rfl (lv_at hl 0 rfl) ?_
    refine rk_vi (As := []) (rest := []) K hw (cc_X8_added0 l D cy ad A g_1 _  hd) lk_X8_317 (ci := 8) rfl (q0 := 0) (wsM_at cy ad _ (by decide)) ⟨Nat.le_of_ble_eq_true rfl, Nat.le_of_ble_eq_true rfl⟩ ⟨Nat.zero_le _, Nat.zero_le _⟩ rfl hl.1 (Nat.le_of_ble_eq_true rfl) rfl dX8_not0_53 (fun r_5 g_4 H locs hd hw => ?_)
    refine lv_topi (fun x1_6 ex1_6 => ?_)
    have hd := hd x1_6 ex1_6
    refine lv_istore_n (lv' := [(1, .int x1_6), (0, .ref (ad 0))]) K.1 K.2.1 dX8_not0_56 rfl hl (by decide) rfl (fun ls hl => ?_)
    refine lv_aload_n K.1 K.2.1 dX8_not0_57 rfl (lv_at hl 1 rfl) ?_
    refine lv_bipush (v := (60 : Int32)) K.1 K.2.1 dX8_not0_58 (by decide) ?_
    refine rk_vi (As := [.int (60 : Int32)]) (rest := []) K hw (cc_X8_isSign l D cy ad A g_4 _ (60 : Int32) hd) lk_X8_206 (ci := 8) rfl (q0 := 0) (wsM_at cy ad _ (by decide)) ⟨Nat.le_of_ble_eq_true rfl, Nat.le_of_ble_eq_true rfl⟩ ⟨Nat.zero_le _, Nat.zero_le _⟩ rfl hl.1 (Nat.le_of_ble_eq_true rfl) rfl dX8_not0_60 (fun r_8 g_7 H locs hd hw => ?_)
    refine lv_if_ne (tgt := 77) K.1 K.2.1 dX8_not0_63 (by decide) (fun h_9 => ?_) (fun h_9 => ?_)
    · have hd := hd.1 h_9
      exact bb_X8_not0_77 K hr  x1_6 g_7 _ _ _ hd hw (lv_sub hl [1, 0] rfl)
    · have hd := hd.2 h_9
      refine lv_aload_n K.1 K.2.1 dX8_not0_66 rfl (lv_at hl 1 rfl) ?_
      refine lv_bipush (v := (61 : Int32)) K.1 K.2.1 dX8_not0_67 (by decide) ?_
      refine rk_vi (As := [.int (61 : Int32)]) (rest := []) K hw (cc_X8_isSign l D cy ad A g_7 _ (61 : Int32) hd) lk_X8_206 (ci := 8) rfl (q0 := 0) (wsM_at cy ad _ (by decide)) ⟨Nat.le_of_ble_eq_true rfl, Nat.le_of_ble_eq_true rfl⟩ ⟨Nat.zero_le _, Nat.zero_le _⟩ rfl hl.1 (Nat.le_of_ble_eq_true rfl) rfl dX8_not0_69 (fun r_21 g_20 H locs hd hw => ?_)
      refine lv_if_ne (tgt := 77) K.1 K.2.1 dX8_not0_72 (by decide) (fun h_22 => ?_) (fun h_22 => ?_)
      · have hd := hd.1 h_22
        exact bb_X8_not0_77 K hr  x1_6 g_20 _ _ _ hd hw (lv_sub hl [1, 0] rfl)
      · have hd := hd.2 h_22
        refine lv_iload_n K.1 K.2.1 dX8_not0_75 rfl (lv_at hl 0 rfl) ?_
        exact rk_iret K hw hr hd dX8_not0_76
  · have hd := hd.2 h_3
    refine lv_aload_n K.1 K.2.1 dX8_not0_18 rfl (lv_at hl 0 rfl) ?_
    refine rk_vi (As := []) (rest := []) K hw (cc_X8_opens l D cy ad A g_1 _  hd) lk_X8_209 (ci := 8) rfl (q0 := 0) (wsM_at cy ad _ (by decide)) ⟨Nat.le_of_ble_eq_true rfl, Nat.le_of_ble_eq_true rfl⟩ ⟨Nat.zero_le _, Nat.zero_le _⟩ rfl hl.1 (Nat.le_of_ble_eq_true rfl) rfl dX8_not0_19 (fun r_24 g_23 H locs hd hw => ?_)
    refine lv_if_ne (tgt := 27) K.1 K.2.1 dX8_not0_22 (by decide) (fun h_25 => ?_) (fun h_25 => ?_)
    · have hd := hd.1 h_25
      refine lv_aload_n K.1 K.2.1 dX8_not0_27 rfl (lv_at hl 0 rfl) ?_
      refine rk_vi (As := []) (rest := []) K hw (cc_X8_not1 l D cy ad A g_23 _  hd) lk_X8_302 (ci := 8) rfl (q0 := 0) (wsM_at cy ad _ (by decide)) ⟨Nat.le_of_ble_eq_true rfl, Nat.le_of_ble_eq_true rfl⟩ ⟨Nat.zero_le _, Nat.zero_le _⟩ rfl hl.1 (Nat.le_of_ble_eq_true rfl) rfl dX8_not0_28 (fun r_27 g_26 H locs hd hw => ?_)
      refine lv_topi (fun x1_28 ex1_28 => ?_)
      have hd := hd x1_28 ex1_28
      refine lv_istore_n (lv' := [(1, .int x1_28), (0, .ref (ad 0))]) K.1 K.2.1 dX8_not0_31 rfl hl (by decide) rfl (fun ls hl => ?_)
      refine lv_aload_n K.1 K.2.1 dX8_not0_32 rfl (lv_at hl 1 rfl) ?_
      refine lv_dup K.1 K.2.1 dX8_not0_33 rfl ?_
      refine rm_get 24 K hw (by decide) kf_X8_175 rfl dX8_not0_34 ?_
      refine lv_iconst (v := (1 : Int32)) K.1 K.2.1 dX8_not0_37 (by decide) ?_
      refine lv_isub K.1 K.2.1 dX8_not0_38 ?_
      refine rm_put 24 K hw (by decide) kf_X8_175 rfl rfl rfl rfl (fsM_24 ad g_26 _) dX8_not0_39 (fun g_29 eg_29 H locs hw => ?_)
      have hd := hd g_29 eg_29
      refine lv_iload_n K.1 K.2.1 dX8_not0_42 rfl (lv_at hl 0 rfl) ?_
      refine lv_if_ne (tgt := 50) K.1 K.2.1 dX8_not0_43 (by decide) (fun h_30 => ?_) (fun h_30 => ?_)
      · have hd := hd.1 h_30
        refine lv_iconst (v := (0 : Int32)) K.1 K.2.1 dX8_not0_50 (by decide) ?_
        exact rk_iret K hw hr hd dX8_not0_51
      · have hd := hd.2 h_30
        refine lv_iconst (v := (1 : Int32)) K.1 K.2.1 dX8_not0_46 (by decide) ?_
        refine lv_goto (tgt := 51) K.1 K.2.1 dX8_not0_47 (by decide) ?_
        exact rk_iret K hw hr hd dX8_not0_51
    · have hd := hd.2 h_25
      refine lv_iconst (v := (0 : Int32)) K.1 K.2.1 dX8_not0_25 (by decide) ?_
      exact rk_iret K hw hr hd dX8_not0_26
theorem dX8_both0_0 : decode cX8_both0 0 = .ok (.aload_n 0, 1) := by decide +kernel
theorem dX8_both0_1 : decode cX8_both0 1 = .ok (.invokevirtual 320, 3) := by decide +kernel
theorem dX8_both0_4 : decode cX8_both0 4 = .ok (.istore_n 1, 1) := by decide +kernel
theorem dX8_both0_5 : decode cX8_both0 5 = .ok (.aload_n 0, 1) := by decide +kernel
theorem dX8_both0_6 : decode cX8_both0 6 = .ok (.bipush 97, 2) := by decide +kernel
theorem dX8_both0_8 : decode cX8_both0 8 = .ok (.bipush 110, 2) := by decide +kernel
theorem dX8_both0_10 : decode cX8_both0 10 = .ok (.bipush 100, 2) := by decide +kernel
theorem dX8_both0_12 : decode cX8_both0 12 = .ok (.iconst 0, 1) := by decide +kernel
theorem dX8_both0_13 : decode cX8_both0 13 = .ok (.iconst 0, 1) := by decide +kernel
theorem dX8_both0_14 : decode cX8_both0 14 = .ok (.iconst 0, 1) := by decide +kernel
theorem dX8_both0_15 : decode cX8_both0 15 = .ok (.iconst 0, 1) := by decide +kernel
theorem dX8_both0_16 : decode cX8_both0 16 = .ok (.iconst 0, 1) := by decide +kernel
theorem dX8_both0_17 : decode cX8_both0 17 = .ok (.invokevirtual 184, 3) := by decide +kernel
theorem dX8_both0_20 : decode cX8_both0 20 = .ok (.ifCond .eq 29, 3) := by decide +kernel
theorem dX8_both0_23 : decode cX8_both0 23 = .ok (.aload_n 0, 1) := by decide +kernel
theorem dX8_both0_24 : decode cX8_both0 24 = .ok (.invokevirtual 181, 3) := by decide +kernel
theorem dX8_both0_27 : decode cX8_both0 27 = .ok (.aload_n 0, 1) := by decide +kernel
theorem dX8_both0_28 : decode cX8_both0 28 = .ok (.invokevirtual 320, 3) := by decide +kernel
theorem dX8_both0_31 : decode cX8_both0 31 = .ok (.istore_n 2, 1) := by decide +kernel
theorem dX8_both0_32 : decode cX8_both0 32 = .ok (.iload_n 1, 1) := by decide +kernel
theorem dX8_both0_33 : decode cX8_both0 33 = .ok (.ifCond .eq 11, 3) := by decide +kernel
theorem dX8_both0_36 : decode cX8_both0 36 = .ok (.iload_n 2, 1) := by decide +kernel
theorem dX8_both0_37 : decode cX8_both0 37 = .ok (.ifCond .eq 7, 3) := by decide +kernel
theorem dX8_both0_40 : decode cX8_both0 40 = .ok (.iconst 1, 1) := by decide +kernel
theorem dX8_both0_41 : decode cX8_both0 41 = .ok (.goto 4, 3) := by decide +kernel
theorem dX8_both0_44 : decode cX8_both0 44 = .ok (.iconst 0, 1) := by decide +kernel
theorem dX8_both0_45 : decode cX8_both0 45 = .ok (.istore_n 1, 1) := by decide +kernel
theorem dX8_both0_46 : decode cX8_both0 46 = .ok (.goto (-41), 3) := by decide +kernel
theorem dX8_both0_49 : decode cX8_both0 49 = .ok (.iload_n 1, 1) := by decide +kernel
theorem dX8_both0_50 : decode cX8_both0 50 = .ok (.ireturn, 1) := by decide +kernel
set_option maxHeartbeats 4000000 in
set_option maxRecDepth 100000 in
theorem bb_X8_both0_45 {p : Program} {l : Launch} {e : Env} {s : State} {m : MethodId} {args : Array Value} {below : List Frame} {meth : Method} {c : Code} {D : va_G} {cy : Nat → ClassId} {ad : Nat → Nat} {A : Nat → Prop} {Q : Int32 → Sg → Prop} (K : Kx p s m args meth c cX8_both0 3 RX8 D cy) (hr : meth.sig.returnType = (some .int)) {rc5 : Int32 → Sg → Prop} (hrc5 : ∀ (x1 : Int32) (u : Sg) (H : Heap) (locs : List Loc) (ls : Array Slot), rc5 x1 u → Wd D A s.heap (wsM cy ad u) H locs → lv_has ls 3 [(0, .ref (ad 0)), (1, .int x1)] → W p l e (rmD 38) s m args below meth c H locs 0 0 (MQ below (va_Qi Q (PostG (wsM cy ad) D A) A) args s 0 0 A) (F0 m 5 ls []))  (t0 : Int32) (g0 : Sg) (H : Heap) (locs : List Loc) (ls : Array Slot) (hd : vv_X8_both0_J45 rc5 t0 g0 Q) (hw : Wd D A s.heap (wsM cy ad g0) H locs) (hl : lv_has ls 3 [(0, .ref (ad 0))]) : W p l e (rmD 38) s m args below meth c H locs 0 0 (MQ below (va_Qi Q (PostG (wsM cy ad) D A) A) args s 0 0 A) (F0 m 45 ls [.int t0]) := by
  unfold vv_X8_both0_J45 at hd
  refine lv_topi (fun x1_13 ex1_13 => ?_)
  have hd := hd x1_13 ex1_13
  refine lv_istore_n (lv' := [(1, .int x1_13), (0, .ref (ad 0))]) K.1 K.2.1 dX8_both0_45 rfl hl (by decide) rfl (fun ls hl => ?_)
  refine lv_goto (tgt := 5) K.1 K.2.1 dX8_both0_46 (by decide) ?_
  exact hrc5 x1_13 g0 _ _ _ hd hw (lv_sub hl [1, 0] rfl)
set_option maxHeartbeats 4000000 in
set_option maxRecDepth 100000 in
theorem bb_X8_both0_44 {p : Program} {l : Launch} {e : Env} {s : State} {m : MethodId} {args : Array Value} {below : List Frame} {meth : Method} {c : Code} {D : va_G} {cy : Nat → ClassId} {ad : Nat → Nat} {A : Nat → Prop} {Q : Int32 → Sg → Prop} (K : Kx p s m args meth c cX8_both0 3 RX8 D cy) (hr : meth.sig.returnType = (some .int)) {rc5 : Int32 → Sg → Prop} (hrc5 : ∀ (x1 : Int32) (u : Sg) (H : Heap) (locs : List Loc) (ls : Array Slot), rc5 x1 u → Wd D A s.heap (wsM cy ad u) H locs → lv_has ls 3 [(0, .ref (ad 0)), (1, .int x1)] → W p l e (rmD 38) s m args below meth c H locs 0 0 (MQ below (va_Qi Q (PostG (wsM cy ad) D A) A) args s 0 0 A) (F0 m 5 ls []))   (g0 : Sg) (H : Heap) (locs : List Loc) (ls : Array Slot) (hd : vv_X8_both0_J44 rc5 g0 Q) (hw : Wd D A s.heap (wsM cy ad g0) H locs) (hl : lv_has ls 3 [(0, .ref (ad 0))]) : W p l e (rmD 38) s m args below meth c H locs 0 0 (MQ below (va_Qi Q (PostG (wsM cy ad) D A) A) args s 0 0 A) (F0 m 44 ls []) := by
  unfold vv_X8_both0_J44 at hd
  refine lv_iconst (v := (0 : Int32)) K.1 K.2.1 dX8_both0_44 (by decide) ?_
  exact bb_X8_both0_45 K hr hrc5 (0 : Int32) g0 _ _ _ hd hw (lv_sub hl [0] rfl)
set_option maxHeartbeats 4000000 in
set_option maxRecDepth 100000 in
theorem bb_X8_both0_5 {p : Program} {l : Launch} {e : Env} {s : State} {m : MethodId} {args : Array Value} {below : List Frame} {meth : Method} {c : Code} {D : va_G} {cy : Nat → ClassId} {ad : Nat → Nat} {A : Nat → Prop} {Q : Int32 → Sg → Prop} (K : Kx p s m args meth c cX8_both0 3 RX8 D cy) (hr : meth.sig.returnType = (some .int)) : ∀ (n : Nat) (x1 : Int32)  (g0 : Sg) (H : Heap) (locs : List Loc) (ls : Array Slot), vv_X8_both0_L5 Q n x1 g0 → Wd D A s.heap (wsM cy ad g0) H locs → lv_has ls 3 [(0, .ref (ad 0)), (1, .int x1)] → W p l e (rmD 38) s m args below meth c H locs 0 0 (MQ below (va_Qi Q (PostG (wsM cy ad) D A) A) args s 0 0 A) (F0 m 5 ls []) := by
  intro n
  induction n with
  | zero => intro _ _ _ _ _ hd; exact hd.elim
  | succ n ih =>
    intro x1 g0 H locs ls hd hw hl
    unfold vv_X8_both0_L5 at hd
    refine lv_aload_n K.1 K.2.1 dX8_both0_5 rfl (lv_at hl 0 rfl) ?_
    refine lv_bipush (v := (97 : Int32)) K.1 K.2.1 dX8_both0_6 (by decide) ?_
    refine lv_bipush (v := (110 : Int32)) K.1 K.2.1 dX8_both0_8 (by decide) ?_
    refine lv_bipush (v := (100 : Int32)) K.1 K.2.1 dX8_both0_10 (by decide) ?_
    refine lv_iconst (v := (0 : Int32)) K.1 K.2.1 dX8_both0_12 (by decide) ?_
    refine lv_iconst (v := (0 : Int32)) K.1 K.2.1 dX8_both0_13 (by decide) ?_
    refine lv_iconst (v := (0 : Int32)) K.1 K.2.1 dX8_both0_14 (by decide) ?_
    refine lv_iconst (v := (0 : Int32)) K.1 K.2.1 dX8_both0_15 (by decide) ?_
    refine lv_iconst (v := (0 : Int32)) K.1 K.2.1 dX8_both0_16 (by decide) ?_
    refine rk_vi (As := [.int (97 : Int32), .int (110 : Int32), .int (100 : Int32), .int (0 : Int32), .int (0 : Int32), .int (0 : Int32), .int (0 : Int32), .int (0 : Int32)]) (rest := []) K hw (cc_X8_isWord l D cy ad A g0 _ (97 : Int32) (110 : Int32) (100 : Int32) (0 : Int32) (0 : Int32) (0 : Int32) (0 : Int32) (0 : Int32) hd) lk_X8_184 (ci := 8) rfl (q0 := 0) (wsM_at cy ad _ (by decide)) ⟨Nat.le_of_ble_eq_true rfl, Nat.le_of_ble_eq_true rfl⟩ ⟨Nat.zero_le _, Nat.zero_le _⟩ rfl hl.1 (Nat.le_of_ble_eq_true rfl) rfl dX8_both0_17 (fun r_5 g_4 H locs hd hw => ?_)
    refine lv_if_eq (tgt := 49) K.1 K.2.1 dX8_both0_20 (by decide) (fun h_6 => ?_) (fun h_6 => ?_)
    · have hd := hd.1 h_6
      refine lv_iload_n K.1 K.2.1 dX8_both0_49 rfl (lv_at hl 1 rfl) ?_
      exact rk_iret K hw hr hd dX8_both0_50
    · have hd := hd.2 h_6
      refine lv_aload_n K.1 K.2.1 dX8_both0_23 rfl (lv_at hl 0 rfl) ?_
      refine rk_vv (As := []) (rest := []) K hw (cc_X8_next l D cy ad A g_4 _  hd) lk_X8_181 (ci := 8) rfl (q0 := 0) (wsM_at cy ad _ (by decide)) ⟨Nat.le_of_ble_eq_true rfl, Nat.le_of_ble_eq_true rfl⟩ ⟨Nat.zero_le _, Nat.zero_le _⟩ rfl hl.1 (Nat.le_of_ble_eq_true rfl) rfl dX8_both0_24 (fun g_7 H locs hd hw => ?_)
      refine lv_aload_n K.1 K.2.1 dX8_both0_27 rfl (lv_at hl 0 rfl) ?_
      refine rk_vi (As := []) (rest := []) K hw (cc_X8_not0 l D cy ad A g_7 _  hd) lk_X8_320 (ci := 8) rfl (q0 := 0) (wsM_at cy ad _ (by decide)) ⟨Nat.le_of_ble_eq_true rfl, Nat.le_of_ble_eq_true rfl⟩ ⟨Nat.zero_le _, Nat.zero_le _⟩ rfl hl.1 (Nat.le_of_ble_eq_true rfl) rfl dX8_both0_28 (fun r_10 g_9 H locs hd hw => ?_)
      refine lv_topi (fun x2_11 ex2_11 => ?_)
      have hd := hd x2_11 ex2_11
      refine lv_istore_n (lv' := [(2, .int x2_11), (0, .ref (ad 0)), (1, .int x1)]) K.1 K.2.1 dX8_both0_31 rfl hl (by decide) rfl (fun ls hl => ?_)
      refine lv_iload_n K.1 K.2.1 dX8_both0_32 rfl (lv_at hl 2 rfl) ?_
      refine lv_if_eq (tgt := 44) K.1 K.2.1 dX8_both0_33 (by decide) (fun h_12 => ?_) (fun h_12 => ?_)
      · have hd := hd.1 h_12
        exact bb_X8_both0_44 K hr ih  g_9 _ _ _ hd hw (lv_sub hl [1] rfl)
      · have hd := hd.2 h_12
        refine lv_iload_n K.1 K.2.1 dX8_both0_36 rfl (lv_at hl 0 rfl) ?_
        refine lv_if_eq (tgt := 44) K.1 K.2.1 dX8_both0_37 (by decide) (fun h_14 => ?_) (fun h_14 => ?_)
        · have hd := hd.1 h_14
          exact bb_X8_both0_44 K hr ih  g_9 _ _ _ hd hw (lv_sub hl [1] rfl)
        · have hd := hd.2 h_14
          refine lv_iconst (v := (1 : Int32)) K.1 K.2.1 dX8_both0_40 (by decide) ?_
          refine lv_goto (tgt := 45) K.1 K.2.1 dX8_both0_41 (by decide) ?_
          exact bb_X8_both0_45 K hr ih (1 : Int32) g_9 _ _ _ hd hw (lv_sub hl [1] rfl)
set_option maxHeartbeats 4000000 in
set_option maxRecDepth 100000 in
theorem cc_X8_both0 (l : Launch) (D : va_G) (cy : Nat → ClassId) (ad : Nat → Nat) (A : Nat → Prop) (g0 : Sg) (Q : Int32 → Sg → Prop)  (hd : vv_X8_both0  g0 Q) : Met l yX8_both0 (Cond.code yX8_both0 cX8_both0 3 (some .int) :: TT) (rmD 38) (va_Pc [.ref (ad 0)] (PreG (wsM cy ad) D cy A g0)) (va_Qi Q (PostG (wsM cy ad) D A) A) 0 0 A := by
  unfold vv_X8_both0 at hd
  refine Met.ofW (cc := cX8_both0) (maxL := 3) (ret := (some .int)) (by decide) rfl ?_
  intro p e s m args below meth c s₁ B hml hv
  obtain ⟨rfl, hP, hK0, hD⟩ := hv
  have K : Kx p s m _ meth c cX8_both0 3 RX8 D cy := ⟨B.exec, B.bytes, hml, findClass_of_methodNamed B.named, fun w h => atoms_spec (ws := Cond.code yX8_both0 cX8_both0 3 (some .int) :: TT) B.pre w (List.mem_cons_of_mem _ h), hK0, B.notSynchronized⟩
  have hw : Wd D A s.heap (wsM cy ad g0) s.heap [] := ⟨hP, hD, va_S.rf⟩
  have hr := B.returns
  have hl := lv_entry ([.ref (ad 0)]) (n := 3) (Nat.le_of_ble_eq_true rfl)
  rw [lg_entry_eq]
  generalize (lg_sl ([.ref (ad 0)]) ++ List.replicate (3 - (lg_sl ([.ref (ad 0)])).length) Slot.unset).toArray = ls at hl ⊢
  have hl : lv_has ls 3 [(0, .ref (ad 0))] := hl
  refine lv_aload_n K.1 K.2.1 dX8_both0_0 rfl (lv_at hl 0 rfl) ?_
  refine rk_vi (As := []) (rest := []) K hw (cc_X8_not0 l D cy ad A g0 _  hd) lk_X8_320 (ci := 8) rfl (q0 := 0) (wsM_at cy ad _ (by decide)) ⟨Nat.le_of_ble_eq_true rfl, Nat.le_of_ble_eq_true rfl⟩ ⟨Nat.zero_le _, Nat.zero_le _⟩ rfl hl.1 (Nat.le_of_ble_eq_true rfl) rfl dX8_both0_1 (fun r_2 g_1 H locs hd hw => ?_)
  refine lv_topi (fun x1_3 ex1_3 => ?_)
  have hd := hd x1_3 ex1_3
  refine lv_istore_n (lv' := [(1, .int x1_3), (0, .ref (ad 0))]) K.1 K.2.1 dX8_both0_4 rfl hl (by decide) rfl (fun ls hl => ?_)
  obtain ⟨n9, hd⟩ := hd
  exact bb_X8_both0_5 K hr  n9 x1_3 g_1 _ _ _ hd hw (lv_sub hl [1, 0] rfl)
theorem dX8_either0_0 : decode cX8_either0 0 = .ok (.aload_n 0, 1) := by decide +kernel
theorem dX8_either0_1 : decode cX8_either0 1 = .ok (.invokevirtual 323, 3) := by decide +kernel
theorem dX8_either0_4 : decode cX8_either0 4 = .ok (.istore_n 1, 1) := by decide +kernel
theorem dX8_either0_5 : decode cX8_either0 5 = .ok (.aload_n 0, 1) := by decide +kernel
theorem dX8_either0_6 : decode cX8_either0 6 = .ok (.bipush 111, 2) := by decide +kernel
theorem dX8_either0_8 : decode cX8_either0 8 = .ok (.bipush 114, 2) := by decide +kernel
theorem dX8_either0_10 : decode cX8_either0 10 = .ok (.iconst 0, 1) := by decide +kernel
theorem dX8_either0_11 : decode cX8_either0 11 = .ok (.iconst 0, 1) := by decide +kernel
theorem dX8_either0_12 : decode cX8_either0 12 = .ok (.iconst 0, 1) := by decide +kernel
theorem dX8_either0_13 : decode cX8_either0 13 = .ok (.iconst 0, 1) := by decide +kernel
theorem dX8_either0_14 : decode cX8_either0 14 = .ok (.iconst 0, 1) := by decide +kernel
theorem dX8_either0_15 : decode cX8_either0 15 = .ok (.iconst 0, 1) := by decide +kernel
theorem dX8_either0_16 : decode cX8_either0 16 = .ok (.invokevirtual 184, 3) := by decide +kernel
theorem dX8_either0_19 : decode cX8_either0 19 = .ok (.ifCond .eq 29, 3) := by decide +kernel
theorem dX8_either0_22 : decode cX8_either0 22 = .ok (.aload_n 0, 1) := by decide +kernel
theorem dX8_either0_23 : decode cX8_either0 23 = .ok (.invokevirtual 181, 3) := by decide +kernel
theorem dX8_either0_26 : decode cX8_either0 26 = .ok (.aload_n 0, 1) := by decide +kernel
theorem dX8_either0_27 : decode cX8_either0 27 = .ok (.invokevirtual 323, 3) := by decide +kernel
theorem dX8_either0_30 : decode cX8_either0 30 = .ok (.istore_n 2, 1) := by decide +kernel
theorem dX8_either0_31 : decode cX8_either0 31 = .ok (.iload_n 1, 1) := by decide +kernel
theorem dX8_either0_32 : decode cX8_either0 32 = .ok (.ifCond .ne 7, 3) := by decide +kernel
theorem dX8_either0_35 : decode cX8_either0 35 = .ok (.iload_n 2, 1) := by decide +kernel
theorem dX8_either0_36 : decode cX8_either0 36 = .ok (.ifCond .eq 7, 3) := by decide +kernel
theorem dX8_either0_39 : decode cX8_either0 39 = .ok (.iconst 1, 1) := by decide +kernel
theorem dX8_either0_40 : decode cX8_either0 40 = .ok (.goto 4, 3) := by decide +kernel
theorem dX8_either0_43 : decode cX8_either0 43 = .ok (.iconst 0, 1) := by decide +kernel
theorem dX8_either0_44 : decode cX8_either0 44 = .ok (.istore_n 1, 1) := by decide +kernel
theorem dX8_either0_45 : decode cX8_either0 45 = .ok (.goto (-40), 3) := by decide +kernel
theorem dX8_either0_48 : decode cX8_either0 48 = .ok (.iload_n 1, 1) := by decide +kernel
theorem dX8_either0_49 : decode cX8_either0 49 = .ok (.ireturn, 1) := by decide +kernel
set_option maxHeartbeats 4000000 in
set_option maxRecDepth 100000 in
theorem bb_X8_either0_44 {p : Program} {l : Launch} {e : Env} {s : State} {m : MethodId} {args : Array Value} {below : List Frame} {meth : Method} {c : Code} {D : va_G} {cy : Nat → ClassId} {ad : Nat → Nat} {A : Nat → Prop} {Q : Int32 → Sg → Prop} (K : Kx p s m args meth c cX8_either0 3 RX8 D cy) (hr : meth.sig.returnType = (some .int)) {rc5 : Int32 → Sg → Prop} (hrc5 : ∀ (x1 : Int32) (u : Sg) (H : Heap) (locs : List Loc) (ls : Array Slot), rc5 x1 u → Wd D A s.heap (wsM cy ad u) H locs → lv_has ls 3 [(0, .ref (ad 0)), (1, .int x1)] → W p l e (rmD 39) s m args below meth c H locs 0 0 (MQ below (va_Qi Q (PostG (wsM cy ad) D A) A) args s 0 0 A) (F0 m 5 ls []))  (t0 : Int32) (g0 : Sg) (H : Heap) (locs : List Loc) (ls : Array Slot) (hd : vv_X8_either0_J44 rc5 t0 g0 Q) (hw : Wd D A s.heap (wsM cy ad g0) H locs) (hl : lv_has ls 3 [(0, .ref (ad 0))]) : W p l e (rmD 39) s m args below meth c H locs 0 0 (MQ below (va_Qi Q (PostG (wsM cy ad) D A) A) args s 0 0 A) (F0 m 44 ls [.int t0]) := by
  unfold vv_X8_either0_J44 at hd
  refine lv_topi (fun x1_13 ex1_13 => ?_)
  have hd := hd x1_13 ex1_13
  refine lv_istore_n (lv' := [(1, .int x1_13), (0, .ref (ad 0))]) K.1 K.2.1 dX8_either0_44 rfl hl (by decide) rfl (fun ls hl => ?_)
  refine lv_goto (tgt := 5) K.1 K.2.1 dX8_either0_45 (by decide) ?_
  exact hrc5 x1_13 g0 _ _ _ hd hw (lv_sub hl [1, 0] rfl)
set_option maxHeartbeats 4000000 in
set_option maxRecDepth 100000 in
theorem bb_X8_either0_39 {p : Program} {l : Launch} {e : Env} {s : State} {m : MethodId} {args : Array Value} {below : List Frame} {meth : Method} {c : Code} {D : va_G} {cy : Nat → ClassId} {ad : Nat → Nat} {A : Nat → Prop} {Q : Int32 → Sg → Prop} (K : Kx p s m args meth c cX8_either0 3 RX8 D cy) (hr : meth.sig.returnType = (some .int)) {rc5 : Int32 → Sg → Prop} (hrc5 : ∀ (x1 : Int32) (u : Sg) (H : Heap) (locs : List Loc) (ls : Array Slot), rc5 x1 u → Wd D A s.heap (wsM cy ad u) H locs → lv_has ls 3 [(0, .ref (ad 0)), (1, .int x1)] → W p l e (rmD 39) s m args below meth c H locs 0 0 (MQ below (va_Qi Q (PostG (wsM cy ad) D A) A) args s 0 0 A) (F0 m 5 ls []))   (g0 : Sg) (H : Heap) (locs : List Loc) (ls : Array Slot) (hd : vv_X8_either0_J39 rc5 g0 Q) (hw : Wd D A s.heap (wsM cy ad g0) H locs) (hl : lv_has ls 3 [(0, .ref (ad 0))]) : W p l e (rmD 39) s m args below meth c H locs 0 0 (MQ below (va_Qi Q (PostG (wsM cy ad) D A) A) args s 0 0 A) (F0 m 39 ls []) := by
  unfold vv_X8_either0_J39 at hd
  refine lv_iconst (v := (1 : Int32)) K.1 K.2.1 dX8_either0_39 (by decide) ?_
  refine lv_goto (tgt := 44) K.1 K.2.1 dX8_either0_40 (by decide) ?_
  exact bb_X8_either0_44 K hr hrc5 (1 : Int32) g0 _ _ _ hd hw (lv_sub hl [0] rfl)
set_option maxHeartbeats 4000000 in
set_option maxRecDepth 100000 in
theorem bb_X8_either0_5 {p : Program} {l : Launch} {e : Env} {s : State} {m : MethodId} {args : Array Value} {below : List Frame} {meth : Method} {c : Code} {D : va_G} {cy : Nat → ClassId} {ad : Nat → Nat} {A : Nat → Prop} {Q : Int32 → Sg → Prop} (K : Kx p s m args meth c cX8_either0 3 RX8 D cy) (hr : meth.sig.returnType = (some .int)) : ∀ (n : Nat) (x1 : Int32)  (g0 : Sg) (H : Heap) (locs : List Loc) (ls : Array Slot), vv_X8_either0_L5 Q n x1 g0 → Wd D A s.heap (wsM cy ad g0) H locs → lv_has ls 3 [(0, .ref (ad 0)), (1, .int x1)] → W p l e (rmD 39) s m args below meth c H locs 0 0 (MQ below (va_Qi Q (PostG (wsM cy ad) D A) A) args s 0 0 A) (F0 m 5 ls []) := by
  intro n
  induction n with
  | zero => intro _ _ _ _ _ hd; exact hd.elim
  | succ n ih =>
    intro x1 g0 H locs ls hd hw hl
    unfold vv_X8_either0_L5 at hd
    refine lv_aload_n K.1 K.2.1 dX8_either0_5 rfl (lv_at hl 0 rfl) ?_
    refine lv_bipush (v := (111 : Int32)) K.1 K.2.1 dX8_either0_6 (by decide) ?_
    refine lv_bipush (v := (114 : Int32)) K.1 K.2.1 dX8_either0_8 (by decide) ?_
    refine lv_iconst (v := (0 : Int32)) K.1 K.2.1 dX8_either0_10 (by decide) ?_
    refine lv_iconst (v := (0 : Int32)) K.1 K.2.1 dX8_either0_11 (by decide) ?_
    refine lv_iconst (v := (0 : Int32)) K.1 K.2.1 dX8_either0_12 (by decide) ?_
    refine lv_iconst (v := (0 : Int32)) K.1 K.2.1 dX8_either0_13 (by decide) ?_
    refine lv_iconst (v := (0 : Int32)) K.1 K.2.1 dX8_either0_14 (by decide) ?_
    refine lv_iconst (v := (0 : Int32)) K.1 K.2.1 dX8_either0_15 (by decide) ?_
    refine rk_vi (As := [.int (111 : Int32), .int (114 : Int32), .int (0 : Int32), .int (0 : Int32), .int (0 : Int32), .int (0 : Int32), .int (0 : Int32), .int (0 : Int32)]) (rest := []) K hw (cc_X8_isWord l D cy ad A g0 _ (111 : Int32) (114 : Int32) (0 : Int32) (0 : Int32) (0 : Int32) (0 : Int32) (0 : Int32) (0 : Int32) hd) lk_X8_184 (ci := 8) rfl (q0 := 0) (wsM_at cy ad _ (by decide)) ⟨Nat.le_of_ble_eq_true rfl, Nat.le_of_ble_eq_true rfl⟩ ⟨Nat.zero_le _, Nat.zero_le _⟩ rfl hl.1 (Nat.le_of_ble_eq_true rfl) rfl dX8_either0_16 (fun r_5 g_4 H locs hd hw => ?_)
    refine lv_if_eq (tgt := 48) K.1 K.2.1 dX8_either0_19 (by decide) (fun h_6 => ?_) (fun h_6 => ?_)
    · have hd := hd.1 h_6
      refine lv_iload_n K.1 K.2.1 dX8_either0_48 rfl (lv_at hl 1 rfl) ?_
      exact rk_iret K hw hr hd dX8_either0_49
    · have hd := hd.2 h_6
      refine lv_aload_n K.1 K.2.1 dX8_either0_22 rfl (lv_at hl 0 rfl) ?_
      refine rk_vv (As := []) (rest := []) K hw (cc_X8_next l D cy ad A g_4 _  hd) lk_X8_181 (ci := 8) rfl (q0 := 0) (wsM_at cy ad _ (by decide)) ⟨Nat.le_of_ble_eq_true rfl, Nat.le_of_ble_eq_true rfl⟩ ⟨Nat.zero_le _, Nat.zero_le _⟩ rfl hl.1 (Nat.le_of_ble_eq_true rfl) rfl dX8_either0_23 (fun g_7 H locs hd hw => ?_)
      refine lv_aload_n K.1 K.2.1 dX8_either0_26 rfl (lv_at hl 0 rfl) ?_
      refine rk_vi (As := []) (rest := []) K hw (cc_X8_both0 l D cy ad A g_7 _  hd) lk_X8_323 (ci := 8) rfl (q0 := 0) (wsM_at cy ad _ (by decide)) ⟨Nat.le_of_ble_eq_true rfl, Nat.le_of_ble_eq_true rfl⟩ ⟨Nat.zero_le _, Nat.zero_le _⟩ rfl hl.1 (Nat.le_of_ble_eq_true rfl) rfl dX8_either0_27 (fun r_10 g_9 H locs hd hw => ?_)
      refine lv_topi (fun x2_11 ex2_11 => ?_)
      have hd := hd x2_11 ex2_11
      refine lv_istore_n (lv' := [(2, .int x2_11), (0, .ref (ad 0)), (1, .int x1)]) K.1 K.2.1 dX8_either0_30 rfl hl (by decide) rfl (fun ls hl => ?_)
      refine lv_iload_n K.1 K.2.1 dX8_either0_31 rfl (lv_at hl 2 rfl) ?_
      refine lv_if_ne (tgt := 39) K.1 K.2.1 dX8_either0_32 (by decide) (fun h_12 => ?_) (fun h_12 => ?_)
      · have hd := hd.1 h_12
        exact bb_X8_either0_39 K hr ih  g_9 _ _ _ hd hw (lv_sub hl [1] rfl)
      · have hd := hd.2 h_12
        refine lv_iload_n K.1 K.2.1 dX8_either0_35 rfl (lv_at hl 0 rfl) ?_
        refine lv_if_eq (tgt := 43) K.1 K.2.1 dX8_either0_36 (by decide) (fun h_14 => ?_) (fun h_14 => ?_)
        · have hd := hd.1 h_14
          refine lv_iconst (v := (0 : Int32)) K.1 K.2.1 dX8_either0_43 (by decide) ?_
          exact bb_X8_either0_44 K hr ih (0 : Int32) g_9 _ _ _ hd hw (lv_sub hl [1] rfl)
        · have hd := hd.2 h_14
          exact bb_X8_either0_39 K hr ih  g_9 _ _ _ hd hw (lv_sub hl [1] rfl)
set_option maxHeartbeats 4000000 in
set_option maxRecDepth 100000 in
theorem cc_X8_either0 (l : Launch) (D : va_G) (cy : Nat → ClassId) (ad : Nat → Nat) (A : Nat → Prop) (g0 : Sg) (Q : Int32 → Sg → Prop)  (hd : vv_X8_either0  g0 Q) : Met l yX8_either0 (Cond.code yX8_either0 cX8_either0 3 (some .int) :: TT) (rmD 39) (va_Pc [.ref (ad 0)] (PreG (wsM cy ad) D cy A g0)) (va_Qi Q (PostG (wsM cy ad) D A) A) 0 0 A := by
  unfold vv_X8_either0 at hd
  refine Met.ofW (cc := cX8_either0) (maxL := 3) (ret := (some .int)) (by decide) rfl ?_
  intro p e s m args below meth c s₁ B hml hv
  obtain ⟨rfl, hP, hK0, hD⟩ := hv
  have K : Kx p s m _ meth c cX8_either0 3 RX8 D cy := ⟨B.exec, B.bytes, hml, findClass_of_methodNamed B.named, fun w h => atoms_spec (ws := Cond.code yX8_either0 cX8_either0 3 (some .int) :: TT) B.pre w (List.mem_cons_of_mem _ h), hK0, B.notSynchronized⟩
  have hw : Wd D A s.heap (wsM cy ad g0) s.heap [] := ⟨hP, hD, va_S.rf⟩
  have hr := B.returns
  have hl := lv_entry ([.ref (ad 0)]) (n := 3) (Nat.le_of_ble_eq_true rfl)
  rw [lg_entry_eq]
  generalize (lg_sl ([.ref (ad 0)]) ++ List.replicate (3 - (lg_sl ([.ref (ad 0)])).length) Slot.unset).toArray = ls at hl ⊢
  have hl : lv_has ls 3 [(0, .ref (ad 0))] := hl
  refine lv_aload_n K.1 K.2.1 dX8_either0_0 rfl (lv_at hl 0 rfl) ?_
  refine rk_vi (As := []) (rest := []) K hw (cc_X8_both0 l D cy ad A g0 _  hd) lk_X8_323 (ci := 8) rfl (q0 := 0) (wsM_at cy ad _ (by decide)) ⟨Nat.le_of_ble_eq_true rfl, Nat.le_of_ble_eq_true rfl⟩ ⟨Nat.zero_le _, Nat.zero_le _⟩ rfl hl.1 (Nat.le_of_ble_eq_true rfl) rfl dX8_either0_1 (fun r_2 g_1 H locs hd hw => ?_)
  refine lv_topi (fun x1_3 ex1_3 => ?_)
  have hd := hd x1_3 ex1_3
  refine lv_istore_n (lv' := [(1, .int x1_3), (0, .ref (ad 0))]) K.1 K.2.1 dX8_either0_4 rfl hl (by decide) rfl (fun ls hl => ?_)
  obtain ⟨n9, hd⟩ := hd
  exact bb_X8_either0_5 K hr  n9 x1_3 g_1 _ _ _ hd hw (lv_sub hl [1, 0] rfl)
theorem dX8_part_0 : decode cX8_part 0 = .ok (.iload_n 1, 1) := by decide +kernel
theorem dX8_part_1 : decode cX8_part 1 = .ok (.ifCond .ne 7, 3) := by decide +kernel
theorem dX8_part_4 : decode cX8_part 4 = .ok (.aload_n 0, 1) := by decide +kernel
theorem dX8_part_5 : decode cX8_part 5 = .ok (.invokevirtual 178, 3) := by decide +kernel
theorem dX8_part_8 : decode cX8_part 8 = .ok (.aload_n 0, 1) := by decide +kernel
theorem dX8_part_9 : decode cX8_part 9 = .ok (.getfield 164, 3) := by decide +kernel
theorem dX8_part_12 : decode cX8_part 12 = .ok (.ifCond .ne 7, 3) := by decide +kernel
theorem dX8_part_15 : decode cX8_part 15 = .ok (.aload_n 0, 1) := by decide +kernel
theorem dX8_part_16 : decode cX8_part 16 = .ok (.invokevirtual 181, 3) := by decide +kernel
theorem dX8_part_19 : decode cX8_part 19 = .ok (.aload_n 0, 1) := by decide +kernel
theorem dX8_part_20 : decode cX8_part 20 = .ok (.getfield 164, 3) := by decide +kernel
theorem dX8_part_23 : decode cX8_part 23 = .ok (.ifCond .eq 7, 3) := by decide +kernel
theorem dX8_part_26 : decode cX8_part 26 = .ok (.iconst 0, 1) := by decide +kernel
theorem dX8_part_27 : decode cX8_part 27 = .ok (.goto 7, 3) := by decide +kernel
theorem dX8_part_30 : decode cX8_part 30 = .ok (.aload_n 0, 1) := by decide +kernel
theorem dX8_part_31 : decode cX8_part 31 = .ok (.invokevirtual 326, 3) := by decide +kernel
theorem dX8_part_34 : decode cX8_part 34 = .ok (.istore_n 2, 1) := by decide +kernel
theorem dX8_part_35 : decode cX8_part 35 = .ok (.aload_n 0, 1) := by decide +kernel
theorem dX8_part_36 : decode cX8_part 36 = .ok (.bipush 59, 2) := by decide +kernel
theorem dX8_part_38 : decode cX8_part 38 = .ok (.invokevirtual 206, 3) := by decide +kernel
theorem dX8_part_41 : decode cX8_part 41 = .ok (.ifCond .ne 7, 3) := by decide +kernel
theorem dX8_part_44 : decode cX8_part 44 = .ok (.aload_n 0, 1) := by decide +kernel
theorem dX8_part_45 : decode cX8_part 45 = .ok (.invokevirtual 178, 3) := by decide +kernel
theorem dX8_part_48 : decode cX8_part 48 = .ok (.aload_n 0, 1) := by decide +kernel
theorem dX8_part_49 : decode cX8_part 49 = .ok (.getfield 164, 3) := by decide +kernel
theorem dX8_part_52 : decode cX8_part 52 = .ok (.ifCond .ne 7, 3) := by decide +kernel
theorem dX8_part_55 : decode cX8_part 55 = .ok (.aload_n 0, 1) := by decide +kernel
theorem dX8_part_56 : decode cX8_part 56 = .ok (.invokevirtual 181, 3) := by decide +kernel
theorem dX8_part_59 : decode cX8_part 59 = .ok (.iload_n 2, 1) := by decide +kernel
theorem dX8_part_60 : decode cX8_part 60 = .ok (.ireturn, 1) := by decide +kernel
set_option maxHeartbeats 4000000 in
set_option maxRecDepth 100000 in
theorem bb_X8_part_48 {p : Program} {l : Launch} {e : Env} {s : State} {m : MethodId} {args : Array Value} {below : List Frame} {meth : Method} {c : Code} {D : va_G} {cy : Nat → ClassId} {ad : Nat → Nat} {A : Nat → Prop} {Q : Int32 → Sg → Prop} (K : Kx p s m args meth c cX8_part 3 RX8 D cy) (hr : meth.sig.returnType = (some .int)) (x2 : Int32)  (g0 : Sg) (H : Heap) (locs : List Loc) (ls : Array Slot) (hd : vv_X8_part_J48 x2 g0 Q) (hw : Wd D A s.heap (wsM cy ad g0) H locs) (hl : lv_has ls 3 [(0, .ref (ad 0)), (2, .int x2)]) : W p l e (rmD 40) s m args below meth c H locs 0 0 (MQ below (va_Qi Q (PostG (wsM cy ad) D A) A) args s 0 0 A) (F0 m 48 ls []) := by
  unfold vv_X8_part_J48 at hd
  refine lv_aload_n K.1 K.2.1 dX8_part_48 rfl (lv_at hl 0 rfl) ?_
  refine rm_get 25 K hw (by decide) kf_X8_164 rfl dX8_part_49 ?_
  refine lv_if_ne (tgt := 59) K.1 K.2.1 dX8_part_52 (by decide) (fun h_10 => ?_) (fun h_10 => ?_)
  · have hd := hd.1 h_10
    refine lv_iload_n K.1 K.2.1 dX8_part_59 rfl (lv_at hl 1 rfl) ?_
    exact rk_iret K hw hr hd dX8_part_60
  · have hd := hd.2 h_10
    refine lv_aload_n K.1 K.2.1 dX8_part_55 rfl (lv_at hl 0 rfl) ?_
    refine rk_vv (As := []) (rest := []) K hw (cc_X8_next l D cy ad A g0 _  hd) lk_X8_181 (ci := 8) rfl (q0 := 0) (wsM_at cy ad _ (by decide)) ⟨Nat.le_of_ble_eq_true rfl, Nat.le_of_ble_eq_true rfl⟩ ⟨Nat.zero_le _, Nat.zero_le _⟩ rfl hl.1 (Nat.le_of_ble_eq_true rfl) rfl dX8_part_56 (fun g_11 H locs hd hw => ?_)
    refine lv_iload_n K.1 K.2.1 dX8_part_59 rfl (lv_at hl 1 rfl) ?_
    exact rk_iret K hw hr hd dX8_part_60
set_option maxHeartbeats 4000000 in
set_option maxRecDepth 100000 in
theorem bb_X8_part_34 {p : Program} {l : Launch} {e : Env} {s : State} {m : MethodId} {args : Array Value} {below : List Frame} {meth : Method} {c : Code} {D : va_G} {cy : Nat → ClassId} {ad : Nat → Nat} {A : Nat → Prop} {Q : Int32 → Sg → Prop} (K : Kx p s m args meth c cX8_part 3 RX8 D cy) (hr : meth.sig.returnType = (some .int))  (t0 : Int32) (g0 : Sg) (H : Heap) (locs : List Loc) (ls : Array Slot) (hd : vv_X8_part_J34 t0 g0 Q) (hw : Wd D A s.heap (wsM cy ad g0) H locs) (hl : lv_has ls 3 [(0, .ref (ad 0))]) : W p l e (rmD 40) s m args below meth c H locs 0 0 (MQ below (va_Qi Q (PostG (wsM cy ad) D A) A) args s 0 0 A) (F0 m 34 ls [.int t0]) := by
  unfold vv_X8_part_J34 at hd
  refine lv_topi (fun x2_6 ex2_6 => ?_)
  have hd := hd x2_6 ex2_6
  refine lv_istore_n (lv' := [(2, .int x2_6), (0, .ref (ad 0))]) K.1 K.2.1 dX8_part_34 rfl hl (by decide) rfl (fun ls hl => ?_)
  refine lv_aload_n K.1 K.2.1 dX8_part_35 rfl (lv_at hl 1 rfl) ?_
  refine lv_bipush (v := (59 : Int32)) K.1 K.2.1 dX8_part_36 (by decide) ?_
  refine rk_vi (As := [.int (59 : Int32)]) (rest := []) K hw (cc_X8_isSign l D cy ad A g0 _ (59 : Int32) hd) lk_X8_206 (ci := 8) rfl (q0 := 0) (wsM_at cy ad _ (by decide)) ⟨Nat.le_of_ble_eq_true rfl, Nat.le_of_ble_eq_true rfl⟩ ⟨Nat.zero_le _, Nat.zero_le _⟩ rfl hl.1 (Nat.le_of_ble_eq_true rfl) rfl dX8_part_38 (fun r_8 g_7 H locs hd hw => ?_)
  refine lv_if_ne (tgt := 48) K.1 K.2.1 dX8_part_41 (by decide) (fun h_9 => ?_) (fun h_9 => ?_)
  · have hd := hd.1 h_9
    exact bb_X8_part_48 K hr  x2_6 g_7 _ _ _ hd hw (lv_sub hl [1, 0] rfl)
  · have hd := hd.2 h_9
    refine lv_aload_n K.1 K.2.1 dX8_part_44 rfl (lv_at hl 1 rfl) ?_
    refine rk_vv (As := []) (rest := []) K hw (cc_X8_fail l D cy ad A g_7 _  hd) lk_X8_178 (ci := 8) rfl (q0 := 0) (wsM_at cy ad _ (by decide)) ⟨Nat.le_of_ble_eq_true rfl, Nat.le_of_ble_eq_true rfl⟩ ⟨Nat.zero_le _, Nat.zero_le _⟩ rfl hl.1 (Nat.le_of_ble_eq_true rfl) rfl dX8_part_45 (fun g_13 H locs hd hw => ?_)
    exact bb_X8_part_48 K hr  x2_6 g_13 _ _ _ hd hw (lv_sub hl [1, 0] rfl)
set_option maxHeartbeats 4000000 in
set_option maxRecDepth 100000 in
theorem bb_X8_part_19 {p : Program} {l : Launch} {e : Env} {s : State} {m : MethodId} {args : Array Value} {below : List Frame} {meth : Method} {c : Code} {D : va_G} {cy : Nat → ClassId} {ad : Nat → Nat} {A : Nat → Prop} {Q : Int32 → Sg → Prop} (K : Kx p s m args meth c cX8_part 3 RX8 D cy) (hr : meth.sig.returnType = (some .int))   (g0 : Sg) (H : Heap) (locs : List Loc) (ls : Array Slot) (hd : vv_X8_part_J19 g0 Q) (hw : Wd D A s.heap (wsM cy ad g0) H locs) (hl : lv_has ls 3 [(0, .ref (ad 0))]) : W p l e (rmD 40) s m args below meth c H locs 0 0 (MQ below (va_Qi Q (PostG (wsM cy ad) D A) A) args s 0 0 A) (F0 m 19 ls []) := by
  unfold vv_X8_part_J19 at hd
  refine lv_aload_n K.1 K.2.1 dX8_part_19 rfl (lv_at hl 0 rfl) ?_
  refine rm_get 25 K hw (by decide) kf_X8_164 rfl dX8_part_20 ?_
  refine lv_if_eq (tgt := 30) K.1 K.2.1 dX8_part_23 (by decide) (fun h_3 => ?_) (fun h_3 => ?_)
  · have hd := hd.1 h_3
    refine lv_aload_n K.1 K.2.1 dX8_part_30 rfl (lv_at hl 0 rfl) ?_
    refine rk_vi (As := []) (rest := []) K hw (cc_X8_either0 l D cy ad A g0 _  hd) lk_X8_326 (ci := 8) rfl (q0 := 0) (wsM_at cy ad _ (by decide)) ⟨Nat.le_of_ble_eq_true rfl, Nat.le_of_ble_eq_true rfl⟩ ⟨Nat.zero_le _, Nat.zero_le _⟩ rfl hl.1 (Nat.le_of_ble_eq_true rfl) rfl dX8_part_31 (fun r_5 g_4 H locs hd hw => ?_)
    exact bb_X8_part_34 K hr  r_5 g_4 _ _ _ hd hw (lv_sub hl [0] rfl)
  · have hd := hd.2 h_3
    refine lv_iconst (v := (0 : Int32)) K.1 K.2.1 dX8_part_26 (by decide) ?_
    refine lv_goto (tgt := 34) K.1 K.2.1 dX8_part_27 (by decide) ?_
    exact bb_X8_part_34 K hr  (0 : Int32) g0 _ _ _ hd hw (lv_sub hl [0] rfl)
set_option maxHeartbeats 4000000 in
set_option maxRecDepth 100000 in
theorem bb_X8_part_8 {p : Program} {l : Launch} {e : Env} {s : State} {m : MethodId} {args : Array Value} {below : List Frame} {meth : Method} {c : Code} {D : va_G} {cy : Nat → ClassId} {ad : Nat → Nat} {A : Nat → Prop} {Q : Int32 → Sg → Prop} (K : Kx p s m args meth c cX8_part 3 RX8 D cy) (hr : meth.sig.returnType = (some .int))   (g0 : Sg) (H : Heap) (locs : List Loc) (ls : Array Slot) (hd : vv_X8_part_J8 g0 Q) (hw : Wd D A s.heap (wsM cy ad g0) H locs) (hl : lv_has ls 3 [(0, .ref (ad 0))]) : W p l e (rmD 40) s m args below meth c H locs 0 0 (MQ below (va_Qi Q (PostG (wsM cy ad) D A) A) args s 0 0 A) (F0 m 8 ls []) := by
  unfold vv_X8_part_J8 at hd
  refine lv_aload_n K.1 K.2.1 dX8_part_8 rfl (lv_at hl 0 rfl) ?_
  refine rm_get 25 K hw (by decide) kf_X8_164 rfl dX8_part_9 ?_
  refine lv_if_ne (tgt := 19) K.1 K.2.1 dX8_part_12 (by decide) (fun h_2 => ?_) (fun h_2 => ?_)
  · have hd := hd.1 h_2
    exact bb_X8_part_19 K hr   g0 _ _ _ hd hw (lv_sub hl [0] rfl)
  · have hd := hd.2 h_2
    refine lv_aload_n K.1 K.2.1 dX8_part_15 rfl (lv_at hl 0 rfl) ?_
    refine rk_vv (As := []) (rest := []) K hw (cc_X8_next l D cy ad A g0 _  hd) lk_X8_181 (ci := 8) rfl (q0 := 0) (wsM_at cy ad _ (by decide)) ⟨Nat.le_of_ble_eq_true rfl, Nat.le_of_ble_eq_true rfl⟩ ⟨Nat.zero_le _, Nat.zero_le _⟩ rfl hl.1 (Nat.le_of_ble_eq_true rfl) rfl dX8_part_16 (fun g_15 H locs hd hw => ?_)
    exact bb_X8_part_19 K hr   g_15 _ _ _ hd hw (lv_sub hl [0] rfl)
set_option maxHeartbeats 4000000 in
set_option maxRecDepth 100000 in
theorem cc_X8_part (l : Launch) (D : va_G) (cy : Nat → ClassId) (ad : Nat → Nat) (A : Nat → Prop) (g0 : Sg) (Q : Int32 → Sg → Prop) (x1 : Int32) (hd : vv_X8_part x1 g0 Q) : Met l yX8_part (Cond.code yX8_part cX8_part 3 (some .int) :: TT) (rmD 40) (va_Pc [.ref (ad 0), .int x1] (PreG (wsM cy ad) D cy A g0)) (va_Qi Q (PostG (wsM cy ad) D A) A) 0 0 A := by
  unfold vv_X8_part at hd
  refine Met.ofW (cc := cX8_part) (maxL := 3) (ret := (some .int)) (by decide) rfl ?_
  intro p e s m args below meth c s₁ B hml hv
  obtain ⟨rfl, hP, hK0, hD⟩ := hv
  have K : Kx p s m _ meth c cX8_part 3 RX8 D cy := ⟨B.exec, B.bytes, hml, findClass_of_methodNamed B.named, fun w h => atoms_spec (ws := Cond.code yX8_part cX8_part 3 (some .int) :: TT) B.pre w (List.mem_cons_of_mem _ h), hK0, B.notSynchronized⟩
  have hw : Wd D A s.heap (wsM cy ad g0) s.heap [] := ⟨hP, hD, va_S.rf⟩
  have hr := B.returns
  have hl := lv_entry ([.ref (ad 0), .int x1]) (n := 3) (Nat.le_of_ble_eq_true rfl)
  rw [lg_entry_eq]
  generalize (lg_sl ([.ref (ad 0), .int x1]) ++ List.replicate (3 - (lg_sl ([.ref (ad 0), .int x1])).length) Slot.unset).toArray = ls at hl ⊢
  have hl : lv_has ls 3 [(0, .ref (ad 0)), (1, .int x1)] := hl
  refine lv_iload_n K.1 K.2.1 dX8_part_0 rfl (lv_at hl 1 rfl) ?_
  refine lv_if_ne (tgt := 8) K.1 K.2.1 dX8_part_1 (by decide) (fun h_1 => ?_) (fun h_1 => ?_)
  · have hd := hd.1 h_1
    exact bb_X8_part_8 K hr   g0 _ _ _ hd hw (lv_sub hl [0] rfl)
  · have hd := hd.2 h_1
    refine lv_aload_n K.1 K.2.1 dX8_part_4 rfl (lv_at hl 0 rfl) ?_
    refine rk_vv (As := []) (rest := []) K hw (cc_X8_fail l D cy ad A g0 _  hd) lk_X8_178 (ci := 8) rfl (q0 := 0) (wsM_at cy ad _ (by decide)) ⟨Nat.le_of_ble_eq_true rfl, Nat.le_of_ble_eq_true rfl⟩ ⟨Nat.zero_le _, Nat.zero_le _⟩ rfl hl.1 (Nat.le_of_ble_eq_true rfl) rfl dX8_part_5 (fun g_17 H locs hd hw => ?_)
    exact bb_X8_part_8 K hr   g_17 _ _ _ hd hw (lv_sub hl [0] rfl)
theorem dX8_read_0 : decode cX8_read 0 = .ok (.aload_n 0, 1) := by decide +kernel
theorem dX8_read_1 : decode cX8_read 1 = .ok (.sipush 160, 3) := by decide +kernel
theorem dX8_read_4 : decode cX8_read 4 = .ok (.iload_n 1, 1) := by decide +kernel
theorem dX8_read_5 : decode cX8_read 5 = .ok (.imul, 1) := by decide +kernel
theorem dX8_read_6 : decode cX8_read 6 = .ok (.putfield 137, 3) := by decide +kernel
theorem dX8_read_9 : decode cX8_read 9 = .ok (.aload_n 0, 1) := by decide +kernel
theorem dX8_read_10 : decode cX8_read 10 = .ok (.aload_n 0, 1) := by decide +kernel
theorem dX8_read_11 : decode cX8_read 11 = .ok (.getfield 17, 3) := by decide +kernel
theorem dX8_read_14 : decode cX8_read 14 = .ok (.iload_n 1, 1) := by decide +kernel
theorem dX8_read_15 : decode cX8_read 15 = .ok (.iaload, 1) := by decide +kernel
theorem dX8_read_16 : decode cX8_read 16 = .ok (.putfield 134, 3) := by decide +kernel
theorem dX8_read_19 : decode cX8_read 19 = .ok (.aload_n 0, 1) := by decide +kernel
theorem dX8_read_20 : decode cX8_read 20 = .ok (.iconst 0, 1) := by decide +kernel
theorem dX8_read_21 : decode cX8_read 21 = .ok (.putfield 140, 3) := by decide +kernel
theorem dX8_read_24 : decode cX8_read 24 = .ok (.aload_n 0, 1) := by decide +kernel
theorem dX8_read_25 : decode cX8_read 25 = .ok (.iconst 0, 1) := by decide +kernel
theorem dX8_read_26 : decode cX8_read 26 = .ok (.putfield 175, 3) := by decide +kernel
theorem dX8_read_29 : decode cX8_read 29 = .ok (.aload_n 0, 1) := by decide +kernel
theorem dX8_read_30 : decode cX8_read 30 = .ok (.iconst 0, 1) := by decide +kernel
theorem dX8_read_31 : decode cX8_read 31 = .ok (.putfield 164, 3) := by decide +kernel
theorem dX8_read_34 : decode cX8_read 34 = .ok (.aload_n 0, 1) := by decide +kernel
theorem dX8_read_35 : decode cX8_read 35 = .ok (.invokevirtual 181, 3) := by decide +kernel
theorem dX8_read_38 : decode cX8_read 38 = .ok (.aload_n 0, 1) := by decide +kernel
theorem dX8_read_39 : decode cX8_read 39 = .ok (.aload_n 0, 1) := by decide +kernel
theorem dX8_read_40 : decode cX8_read 40 = .ok (.bipush 102, 2) := by decide +kernel
theorem dX8_read_42 : decode cX8_read 42 = .ok (.bipush 101, 2) := by decide +kernel
theorem dX8_read_44 : decode cX8_read 44 = .ok (.bipush 101, 2) := by decide +kernel
theorem dX8_read_46 : decode cX8_read 46 = .ok (.bipush 108, 2) := by decide +kernel
theorem dX8_read_48 : decode cX8_read 48 = .ok (.bipush 115, 2) := by decide +kernel
theorem dX8_read_50 : decode cX8_read 50 = .ok (.iconst 0, 1) := by decide +kernel
theorem dX8_read_51 : decode cX8_read 51 = .ok (.iconst 0, 1) := by decide +kernel
theorem dX8_read_52 : decode cX8_read 52 = .ok (.iconst 0, 1) := by decide +kernel
theorem dX8_read_53 : decode cX8_read 53 = .ok (.invokevirtual 184, 3) := by decide +kernel
theorem dX8_read_56 : decode cX8_read 56 = .ok (.invokevirtual 329, 3) := by decide +kernel
theorem dX8_read_59 : decode cX8_read 59 = .ok (.istore_n 3, 1) := by decide +kernel
theorem dX8_read_60 : decode cX8_read 60 = .ok (.aload_n 0, 1) := by decide +kernel
theorem dX8_read_61 : decode cX8_read 61 = .ok (.getfield 164, 3) := by decide +kernel
theorem dX8_read_64 : decode cX8_read 64 = .ok (.ifCond .eq 7, 3) := by decide +kernel
theorem dX8_read_67 : decode cX8_read 67 = .ok (.iconst 0, 1) := by decide +kernel
theorem dX8_read_68 : decode cX8_read 68 = .ok (.goto 25, 3) := by decide +kernel
theorem dX8_read_71 : decode cX8_read 71 = .ok (.aload_n 0, 1) := by decide +kernel
theorem dX8_read_72 : decode cX8_read 72 = .ok (.aload_n 0, 1) := by decide +kernel
theorem dX8_read_73 : decode cX8_read 73 = .ok (.bipush 119, 2) := by decide +kernel
theorem dX8_read_75 : decode cX8_read 75 = .ok (.bipush 101, 2) := by decide +kernel
theorem dX8_read_77 : decode cX8_read 77 = .ok (.bipush 105, 2) := by decide +kernel
theorem dX8_read_79 : decode cX8_read 79 = .ok (.bipush 103, 2) := by decide +kernel
theorem dX8_read_81 : decode cX8_read 81 = .ok (.bipush 104, 2) := by decide +kernel
theorem dX8_read_83 : decode cX8_read 83 = .ok (.bipush 115, 2) := by decide +kernel
theorem dX8_read_85 : decode cX8_read 85 = .ok (.iconst 0, 1) := by decide +kernel
theorem dX8_read_86 : decode cX8_read 86 = .ok (.iconst 0, 1) := by decide +kernel
theorem dX8_read_87 : decode cX8_read 87 = .ok (.invokevirtual 184, 3) := by decide +kernel
theorem dX8_read_90 : decode cX8_read 90 = .ok (.invokevirtual 329, 3) := by decide +kernel
theorem dX8_read_93 : decode cX8_read 93 = .ok (.istore 4, 2) := by decide +kernel
theorem dX8_read_95 : decode cX8_read 95 = .ok (.aload_n 0, 1) := by decide +kernel
theorem dX8_read_96 : decode cX8_read 96 = .ok (.getfield 164, 3) := by decide +kernel
theorem dX8_read_99 : decode cX8_read 99 = .ok (.ifCond .eq 7, 3) := by decide +kernel
theorem dX8_read_102 : decode cX8_read 102 = .ok (.iconst 0, 1) := by decide +kernel
theorem dX8_read_103 : decode cX8_read 103 = .ok (.goto 26, 3) := by decide +kernel
theorem dX8_read_106 : decode cX8_read 106 = .ok (.aload_n 0, 1) := by decide +kernel
theorem dX8_read_107 : decode cX8_read 107 = .ok (.aload_n 0, 1) := by decide +kernel
theorem dX8_read_108 : decode cX8_read 108 = .ok (.bipush 115, 2) := by decide +kernel
theorem dX8_read_110 : decode cX8_read 110 = .ok (.bipush 109, 2) := by decide +kernel
theorem dX8_read_112 : decode cX8_read 112 = .ok (.bipush 111, 2) := by decide +kernel
theorem dX8_read_114 : decode cX8_read 114 = .ok (.bipush 111, 2) := by decide +kernel
theorem dX8_read_116 : decode cX8_read 116 = .ok (.bipush 116, 2) := by decide +kernel
theorem dX8_read_118 : decode cX8_read 118 = .ok (.bipush 104, 2) := by decide +kernel
theorem dX8_read_120 : decode cX8_read 120 = .ok (.bipush 115, 2) := by decide +kernel
theorem dX8_read_122 : decode cX8_read 122 = .ok (.iconst 0, 1) := by decide +kernel
theorem dX8_read_123 : decode cX8_read 123 = .ok (.invokevirtual 184, 3) := by decide +kernel
theorem dX8_read_126 : decode cX8_read 126 = .ok (.invokevirtual 329, 3) := by decide +kernel
theorem dX8_read_129 : decode cX8_read 129 = .ok (.istore 5, 2) := by decide +kernel
theorem dX8_read_131 : decode cX8_read 131 = .ok (.aload_n 0, 1) := by decide +kernel
theorem dX8_read_132 : decode cX8_read 132 = .ok (.getfield 164, 3) := by decide +kernel
theorem dX8_read_135 : decode cX8_read 135 = .ok (.ifCond .ne 14, 3) := by decide +kernel
theorem dX8_read_138 : decode cX8_read 138 = .ok (.aload_n 0, 1) := by decide +kernel
theorem dX8_read_139 : decode cX8_read 139 = .ok (.getfield 149, 3) := by decide +kernel
theorem dX8_read_142 : decode cX8_read 142 = .ok (.ifCond .eq 7, 3) := by decide +kernel
theorem dX8_read_145 : decode cX8_read 145 = .ok (.aload_n 0, 1) := by decide +kernel
theorem dX8_read_146 : decode cX8_read 146 = .ok (.invokevirtual 178, 3) := by decide +kernel
theorem dX8_read_149 : decode cX8_read 149 = .ok (.iload_n 2, 1) := by decide +kernel
theorem dX8_read_150 : decode cX8_read 150 = .ok (.ifCond .ne 7, 3) := by decide +kernel
theorem dX8_read_153 : decode cX8_read 153 = .ok (.iload_n 3, 1) := by decide +kernel
theorem dX8_read_154 : decode cX8_read 154 = .ok (.goto 15, 3) := by decide +kernel
theorem dX8_read_157 : decode cX8_read 157 = .ok (.iload_n 2, 1) := by decide +kernel
theorem dX8_read_158 : decode cX8_read 158 = .ok (.iconst 1, 1) := by decide +kernel
theorem dX8_read_159 : decode cX8_read 159 = .ok (.if_icmp .ne 8, 3) := by decide +kernel
theorem dX8_read_162 : decode cX8_read 162 = .ok (.iload 4, 2) := by decide +kernel
theorem dX8_read_164 : decode cX8_read 164 = .ok (.goto 5, 3) := by decide +kernel
theorem dX8_read_167 : decode cX8_read 167 = .ok (.iload 5, 2) := by decide +kernel
theorem dX8_read_169 : decode cX8_read 169 = .ok (.ireturn, 1) := by decide +kernel
set_option maxHeartbeats 4000000 in
set_option maxRecDepth 100000 in
theorem bb_X8_read_149 {p : Program} {l : Launch} {e : Env} {s : State} {m : MethodId} {args : Array Value} {below : List Frame} {meth : Method} {c : Code} {D : va_G} {cy : Nat → ClassId} {ad : Nat → Nat} {A : Nat → Prop} {Q : Int32 → Sg → Prop} (K : Kx p s m args meth c cX8_read 6 RX8 D cy) (hr : meth.sig.returnType = (some .int)) (x2 : Int32) (x3 : Int32) (x4 : Int32) (x5 : Int32)  (g0 : Sg) (H : Heap) (locs : List Loc) (ls : Array Slot) (hd : vv_X8_read_J149 x2 x3 x4 x5 g0 Q) (hw : Wd D A s.heap (wsM cy ad g0) H locs) (hl : lv_has ls 6 [(2, .int x2), (3, .int x3), (4, .int x4), (5, .int x5)]) : W p l e (rmD 41) s m args below meth c H locs 0 0 (MQ below (va_Qi Q (PostG (wsM cy ad) D A) A) args s 0 0 A) (F0 m 149 ls []) := by
  unfold vv_X8_read_J149 at hd
  refine lv_iload_n K.1 K.2.1 dX8_read_149 rfl (lv_at hl 0 rfl) ?_
  refine lv_if_ne (tgt := 157) K.1 K.2.1 dX8_read_150 (by decide) (fun h_26 => ?_) (fun h_26 => ?_)
  · have hd := hd.1 h_26
    refine lv_iload_n K.1 K.2.1 dX8_read_157 rfl (lv_at hl 0 rfl) ?_
    refine lv_iconst (v := (1 : Int32)) K.1 K.2.1 dX8_read_158 (by decide) ?_
    refine lv_icmp_ne (tgt := 167) K.1 K.2.1 dX8_read_159 (by decide) (fun h_27 => ?_) (fun h_27 => ?_)
    · have hd := hd.1 h_27
      refine lv_iload K.1 K.2.1 dX8_read_167 (lv_at hl 3 rfl) ?_
      exact rk_iret K hw hr hd dX8_read_169
    · have hd := hd.2 h_27
      refine lv_iload K.1 K.2.1 dX8_read_162 (lv_at hl 2 rfl) ?_
      refine lv_goto (tgt := 169) K.1 K.2.1 dX8_read_164 (by decide) ?_
      exact rk_iret K hw hr hd dX8_read_169
  · have hd := hd.2 h_26
    refine lv_iload_n K.1 K.2.1 dX8_read_153 rfl (lv_at hl 1 rfl) ?_
    refine lv_goto (tgt := 169) K.1 K.2.1 dX8_read_154 (by decide) ?_
    exact rk_iret K hw hr hd dX8_read_169
set_option maxHeartbeats 4000000 in
set_option maxRecDepth 100000 in
theorem bb_X8_read_129 {p : Program} {l : Launch} {e : Env} {s : State} {m : MethodId} {args : Array Value} {below : List Frame} {meth : Method} {c : Code} {D : va_G} {cy : Nat → ClassId} {ad : Nat → Nat} {A : Nat → Prop} {Q : Int32 → Sg → Prop} (K : Kx p s m args meth c cX8_read 6 RX8 D cy) (hr : meth.sig.returnType = (some .int)) (x2 : Int32) (x3 : Int32) (x4 : Int32) (t0 : Int32) (g0 : Sg) (H : Heap) (locs : List Loc) (ls : Array Slot) (hd : vv_X8_read_J129 x2 x3 x4 t0 g0 Q) (hw : Wd D A s.heap (wsM cy ad g0) H locs) (hl : lv_has ls 6 [(0, .ref (ad 0)), (2, .int x2), (3, .int x3), (4, .int x4)]) : W p l e (rmD 41) s m args below meth c H locs 0 0 (MQ below (va_Qi Q (PostG (wsM cy ad) D A) A) args s 0 0 A) (F0 m 129 ls [.int t0]) := by
  unfold vv_X8_read_J129 at hd
  refine lv_topi (fun x5_24 ex5_24 => ?_)
  have hd := hd x5_24 ex5_24
  refine lv_istore (lv' := [(5, .int x5_24), (0, .ref (ad 0)), (2, .int x2), (3, .int x3), (4, .int x4)]) K.1 K.2.1 dX8_read_129 hl (by decide) rfl (fun ls hl => ?_)
  refine lv_aload_n K.1 K.2.1 dX8_read_131 rfl (lv_at hl 1 rfl) ?_
  refine rm_get 25 K hw (by decide) kf_X8_164 rfl dX8_read_132 ?_
  refine lv_if_ne (tgt := 149) K.1 K.2.1 dX8_read_135 (by decide) (fun h_25 => ?_) (fun h_25 => ?_)
  · have hd := hd.1 h_25
    exact bb_X8_read_149 K hr  x2 x3 x4 x5_24 g0 _ _ _ hd hw (lv_sub hl [2, 3, 4, 0] rfl)
  · have hd := hd.2 h_25
    refine lv_aload_n K.1 K.2.1 dX8_read_138 rfl (lv_at hl 1 rfl) ?_
    refine rm_get 21 K hw (by decide) kf_X8_149 rfl dX8_read_139 ?_
    refine lv_if_eq (tgt := 149) K.1 K.2.1 dX8_read_142 (by decide) (fun h_28 => ?_) (fun h_28 => ?_)
    · have hd := hd.1 h_28
      exact bb_X8_read_149 K hr  x2 x3 x4 x5_24 g0 _ _ _ hd hw (lv_sub hl [2, 3, 4, 0] rfl)
    · have hd := hd.2 h_28
      refine lv_aload_n K.1 K.2.1 dX8_read_145 rfl (lv_at hl 1 rfl) ?_
      refine rk_vv (As := []) (rest := []) K hw (cc_X8_fail l D cy ad A g0 _  hd) lk_X8_178 (ci := 8) rfl (q0 := 0) (wsM_at cy ad _ (by decide)) ⟨Nat.le_of_ble_eq_true rfl, Nat.le_of_ble_eq_true rfl⟩ ⟨Nat.zero_le _, Nat.zero_le _⟩ rfl hl.1 (Nat.le_of_ble_eq_true rfl) rfl dX8_read_146 (fun g_29 H locs hd hw => ?_)
      exact bb_X8_read_149 K hr  x2 x3 x4 x5_24 g_29 _ _ _ hd hw (lv_sub hl [2, 3, 4, 0] rfl)
set_option maxHeartbeats 4000000 in
set_option maxRecDepth 100000 in
theorem bb_X8_read_93 {p : Program} {l : Launch} {e : Env} {s : State} {m : MethodId} {args : Array Value} {below : List Frame} {meth : Method} {c : Code} {D : va_G} {cy : Nat → ClassId} {ad : Nat → Nat} {A : Nat → Prop} {Q : Int32 → Sg → Prop} (K : Kx p s m args meth c cX8_read 6 RX8 D cy) (hr : meth.sig.returnType = (some .int)) (x2 : Int32) (x3 : Int32) (t0 : Int32) (g0 : Sg) (H : Heap) (locs : List Loc) (ls : Array Slot) (hd : vv_X8_read_J93 x2 x3 t0 g0 Q) (hw : Wd D A s.heap (wsM cy ad g0) H locs) (hl : lv_has ls 6 [(0, .ref (ad 0)), (2, .int x2), (3, .int x3)]) : W p l e (rmD 41) s m args below meth c H locs 0 0 (MQ below (va_Qi Q (PostG (wsM cy ad) D A) A) args s 0 0 A) (F0 m 93 ls [.int t0]) := by
  unfold vv_X8_read_J93 at hd
  refine lv_topi (fun x4_18 ex4_18 => ?_)
  have hd := hd x4_18 ex4_18
  refine lv_istore (lv' := [(4, .int x4_18), (0, .ref (ad 0)), (2, .int x2), (3, .int x3)]) K.1 K.2.1 dX8_read_93 hl (by decide) rfl (fun ls hl => ?_)
  refine lv_aload_n K.1 K.2.1 dX8_read_95 rfl (lv_at hl 1 rfl) ?_
  refine rm_get 25 K hw (by decide) kf_X8_164 rfl dX8_read_96 ?_
  refine lv_if_eq (tgt := 106) K.1 K.2.1 dX8_read_99 (by decide) (fun h_19 => ?_) (fun h_19 => ?_)
  · have hd := hd.1 h_19
    refine lv_aload_n K.1 K.2.1 dX8_read_106 rfl (lv_at hl 1 rfl) ?_
    refine lv_aload_n K.1 K.2.1 dX8_read_107 rfl (lv_at hl 1 rfl) ?_
    refine lv_bipush (v := (115 : Int32)) K.1 K.2.1 dX8_read_108 (by decide) ?_
    refine lv_bipush (v := (109 : Int32)) K.1 K.2.1 dX8_read_110 (by decide) ?_
    refine lv_bipush (v := (111 : Int32)) K.1 K.2.1 dX8_read_112 (by decide) ?_
    refine lv_bipush (v := (111 : Int32)) K.1 K.2.1 dX8_read_114 (by decide) ?_
    refine lv_bipush (v := (116 : Int32)) K.1 K.2.1 dX8_read_116 (by decide) ?_
    refine lv_bipush (v := (104 : Int32)) K.1 K.2.1 dX8_read_118 (by decide) ?_
    refine lv_bipush (v := (115 : Int32)) K.1 K.2.1 dX8_read_120 (by decide) ?_
    refine lv_iconst (v := (0 : Int32)) K.1 K.2.1 dX8_read_122 (by decide) ?_
    refine rk_vi (As := [.int (115 : Int32), .int (109 : Int32), .int (111 : Int32), .int (111 : Int32), .int (116 : Int32), .int (104 : Int32), .int (115 : Int32), .int (0 : Int32)]) (rest := [.ref (ad 0)]) K hw (cc_X8_isWord l D cy ad A g0 _ (115 : Int32) (109 : Int32) (111 : Int32) (111 : Int32) (116 : Int32) (104 : Int32) (115 : Int32) (0 : Int32) hd) lk_X8_184 (ci := 8) rfl (q0 := 0) (wsM_at cy ad _ (by decide)) ⟨Nat.le_of_ble_eq_true rfl, Nat.le_of_ble_eq_true rfl⟩ ⟨Nat.zero_le _, Nat.zero_le _⟩ rfl hl.1 (Nat.le_of_ble_eq_true rfl) rfl dX8_read_123 (fun r_21 g_20 H locs hd hw => ?_)
    refine rk_vi (As := [.int r_21]) (rest := []) K hw (cc_X8_part l D cy ad A g_20 _ r_21 hd) lk_X8_329 (ci := 8) rfl (q0 := 0) (wsM_at cy ad _ (by decide)) ⟨Nat.le_of_ble_eq_true rfl, Nat.le_of_ble_eq_true rfl⟩ ⟨Nat.zero_le _, Nat.zero_le _⟩ rfl hl.1 (Nat.le_of_ble_eq_true rfl) rfl dX8_read_126 (fun r_23 g_22 H locs hd hw => ?_)
    exact bb_X8_read_129 K hr  x2 x3 x4_18 r_23 g_22 _ _ _ hd hw (lv_sub hl [1, 2, 3, 0] rfl)
  · have hd := hd.2 h_19
    refine lv_iconst (v := (0 : Int32)) K.1 K.2.1 dX8_read_102 (by decide) ?_
    refine lv_goto (tgt := 129) K.1 K.2.1 dX8_read_103 (by decide) ?_
    exact bb_X8_read_129 K hr  x2 x3 x4_18 (0 : Int32) g0 _ _ _ hd hw (lv_sub hl [1, 2, 3, 0] rfl)
set_option maxHeartbeats 4000000 in
set_option maxRecDepth 100000 in
theorem cc_X8_read (l : Launch) (D : va_G) (cy : Nat → ClassId) (ad : Nat → Nat) (A : Nat → Prop) (g0 : Sg) (Q : Int32 → Sg → Prop) (x1 : Int32) (x2 : Int32) (hd : vv_X8_read x1 x2 g0 Q) : Met l yX8_read (Cond.code yX8_read cX8_read 6 (some .int) :: TT) (rmD 41) (va_Pc [.ref (ad 0), .int x1, .int x2] (PreG (wsM cy ad) D cy A g0)) (va_Qi Q (PostG (wsM cy ad) D A) A) 0 0 A := by
  unfold vv_X8_read at hd
  refine Met.ofW (cc := cX8_read) (maxL := 6) (ret := (some .int)) (by decide) rfl ?_
  intro p e s m args below meth c s₁ B hml hv
  obtain ⟨rfl, hP, hK0, hD⟩ := hv
  have K : Kx p s m _ meth c cX8_read 6 RX8 D cy := ⟨B.exec, B.bytes, hml, findClass_of_methodNamed B.named, fun w h => atoms_spec (ws := Cond.code yX8_read cX8_read 6 (some .int) :: TT) B.pre w (List.mem_cons_of_mem _ h), hK0, B.notSynchronized⟩
  have hw : Wd D A s.heap (wsM cy ad g0) s.heap [] := ⟨hP, hD, va_S.rf⟩
  have hr := B.returns
  have hl := lv_entry ([.ref (ad 0), .int x1, .int x2]) (n := 6) (Nat.le_of_ble_eq_true rfl)
  rw [lg_entry_eq]
  generalize (lg_sl ([.ref (ad 0), .int x1, .int x2]) ++ List.replicate (6 - (lg_sl ([.ref (ad 0), .int x1, .int x2])).length) Slot.unset).toArray = ls at hl ⊢
  have hl : lv_has ls 6 [(0, .ref (ad 0)), (1, .int x1), (2, .int x2)] := hl
  refine lv_aload_n K.1 K.2.1 dX8_read_0 rfl (lv_at hl 0 rfl) ?_
  refine lv_sipush (v := (160 : Int32)) K.1 K.2.1 dX8_read_1 (by decide) ?_
  refine lv_iload_n K.1 K.2.1 dX8_read_4 rfl (lv_at hl 1 rfl) ?_
  refine lv_imul K.1 K.2.1 dX8_read_5 ?_
  refine rm_put 18 K hw (by decide) kf_X8_137 rfl rfl rfl rfl (fsM_18 ad g0 _) dX8_read_6 (fun g_1 eg_1 H locs hw => ?_)
  have hd := hd g_1 eg_1
  refine lv_aload_n K.1 K.2.1 dX8_read_9 rfl (lv_at hl 0 rfl) ?_
  refine lv_aload_n K.1 K.2.1 dX8_read_10 rfl (lv_at hl 0 rfl) ?_
  refine rm_get 2 K hw (by decide) kf_X8_17 rfl dX8_read_11 ?_
  refine lv_iload_n K.1 K.2.1 dX8_read_14 rfl (lv_at hl 1 rfl) ?_
  have hb := hd.1
  have hd := hd.2
  refine rm_iald 2 K hw (by decide) hb dX8_read_15 ?_
  refine rm_put 19 K hw (by decide) kf_X8_134 rfl rfl rfl rfl (fsM_19 ad g_1 _) dX8_read_16 (fun g_2 eg_2 H locs hw => ?_)
  have hd := hd g_2 eg_2
  refine lv_aload_n K.1 K.2.1 dX8_read_19 rfl (lv_at hl 0 rfl) ?_
  refine lv_iconst (v := (0 : Int32)) K.1 K.2.1 dX8_read_20 (by decide) ?_
  refine rm_put 20 K hw (by decide) kf_X8_140 rfl rfl rfl rfl (fsM_20 ad g_2 _) dX8_read_21 (fun g_3 eg_3 H locs hw => ?_)
  have hd := hd g_3 eg_3
  refine lv_aload_n K.1 K.2.1 dX8_read_24 rfl (lv_at hl 0 rfl) ?_
  refine lv_iconst (v := (0 : Int32)) K.1 K.2.1 dX8_read_25 (by decide) ?_
  refine rm_put 24 K hw (by decide) kf_X8_175 rfl rfl rfl rfl (fsM_24 ad g_3 _) dX8_read_26 (fun g_4 eg_4 H locs hw => ?_)
  have hd := hd g_4 eg_4
  refine lv_aload_n K.1 K.2.1 dX8_read_29 rfl (lv_at hl 0 rfl) ?_
  refine lv_iconst (v := (0 : Int32)) K.1 K.2.1 dX8_read_30 (by decide) ?_
  refine rm_put 25 K hw (by decide) kf_X8_164 rfl rfl rfl rfl (fsM_25 ad g_4 _) dX8_read_31 (fun g_5 eg_5 H locs hw => ?_)
  have hd := hd g_5 eg_5
  refine lv_aload_n K.1 K.2.1 dX8_read_34 rfl (lv_at hl 0 rfl) ?_
  refine rk_vv (As := []) (rest := []) K hw (cc_X8_next l D cy ad A g_5 _  hd) lk_X8_181 (ci := 8) rfl (q0 := 0) (wsM_at cy ad _ (by decide)) ⟨Nat.le_of_ble_eq_true rfl, Nat.le_of_ble_eq_true rfl⟩ ⟨Nat.zero_le _, Nat.zero_le _⟩ rfl hl.1 (Nat.le_of_ble_eq_true rfl) rfl dX8_read_35 (fun g_6 H locs hd hw => ?_)
  refine lv_aload_n K.1 K.2.1 dX8_read_38 rfl (lv_at hl 0 rfl) ?_
  refine lv_aload_n K.1 K.2.1 dX8_read_39 rfl (lv_at hl 0 rfl) ?_
  refine lv_bipush (v := (102 : Int32)) K.1 K.2.1 dX8_read_40 (by decide) ?_
  refine lv_bipush (v := (101 : Int32)) K.1 K.2.1 dX8_read_42 (by decide) ?_
  refine lv_bipush (v := (101 : Int32)) K.1 K.2.1 dX8_read_44 (by decide) ?_
  refine lv_bipush (v := (108 : Int32)) K.1 K.2.1 dX8_read_46 (by decide) ?_
  refine lv_bipush (v := (115 : Int32)) K.1 K.2.1 dX8_read_48 (by decide) ?_
  refine lv_iconst (v := (0 : Int32)) K.1 K.2.1 dX8_read_50 (by decide) ?_
  refine lv_iconst (v := (0 : Int32)) K.1 K.2.1 dX8_read_51 (by decide) ?_
  refine lv_iconst (v := (0 : Int32)) K.1 K.2.1 dX8_read_52 (by decide) ?_
  refine rk_vi (As := [.int (102 : Int32), .int (101 : Int32), .int (101 : Int32), .int (108 : Int32), .int (115 : Int32), .int (0 : Int32), .int (0 : Int32), .int (0 : Int32)]) (rest := [.ref (ad 0)]) K hw (cc_X8_isWord l D cy ad A g_6 _ (102 : Int32) (101 : Int32) (101 : Int32) (108 : Int32) (115 : Int32) (0 : Int32) (0 : Int32) (0 : Int32) hd) lk_X8_184 (ci := 8) rfl (q0 := 0) (wsM_at cy ad _ (by decide)) ⟨Nat.le_of_ble_eq_true rfl, Nat.le_of_ble_eq_true rfl⟩ ⟨Nat.zero_le _, Nat.zero_le _⟩ rfl hl.1 (Nat.le_of_ble_eq_true rfl) rfl dX8_read_53 (fun r_9 g_8 H locs hd hw => ?_)
  refine rk_vi (As := [.int r_9]) (rest := []) K hw (cc_X8_part l D cy ad A g_8 _ r_9 hd) lk_X8_329 (ci := 8) rfl (q0 := 0) (wsM_at cy ad _ (by decide)) ⟨Nat.le_of_ble_eq_true rfl, Nat.le_of_ble_eq_true rfl⟩ ⟨Nat.zero_le _, Nat.zero_le _⟩ rfl hl.1 (Nat.le_of_ble_eq_true rfl) rfl dX8_read_56 (fun r_11 g_10 H locs hd hw => ?_)
  refine lv_topi (fun x3_12 ex3_12 => ?_)
  have hd := hd x3_12 ex3_12
  refine lv_istore_n (lv' := [(3, .int x3_12), (0, .ref (ad 0)), (1, .int x1), (2, .int x2)]) K.1 K.2.1 dX8_read_59 rfl hl (by decide) rfl (fun ls hl => ?_)
  refine lv_aload_n K.1 K.2.1 dX8_read_60 rfl (lv_at hl 1 rfl) ?_
  refine rm_get 25 K hw (by decide) kf_X8_164 rfl dX8_read_61 ?_
  refine lv_if_eq (tgt := 71) K.1 K.2.1 dX8_read_64 (by decide) (fun h_13 => ?_) (fun h_13 => ?_)
  · have hd := hd.1 h_13
    refine lv_aload_n K.1 K.2.1 dX8_read_71 rfl (lv_at hl 1 rfl) ?_
    refine lv_aload_n K.1 K.2.1 dX8_read_72 rfl (lv_at hl 1 rfl) ?_
    refine lv_bipush (v := (119 : Int32)) K.1 K.2.1 dX8_read_73 (by decide) ?_
    refine lv_bipush (v := (101 : Int32)) K.1 K.2.1 dX8_read_75 (by decide) ?_
    refine lv_bipush (v := (105 : Int32)) K.1 K.2.1 dX8_read_77 (by decide) ?_
    refine lv_bipush (v := (103 : Int32)) K.1 K.2.1 dX8_read_79 (by decide) ?_
    refine lv_bipush (v := (104 : Int32)) K.1 K.2.1 dX8_read_81 (by decide) ?_
    refine lv_bipush (v := (115 : Int32)) K.1 K.2.1 dX8_read_83 (by decide) ?_
    refine lv_iconst (v := (0 : Int32)) K.1 K.2.1 dX8_read_85 (by decide) ?_
    refine lv_iconst (v := (0 : Int32)) K.1 K.2.1 dX8_read_86 (by decide) ?_
    refine rk_vi (As := [.int (119 : Int32), .int (101 : Int32), .int (105 : Int32), .int (103 : Int32), .int (104 : Int32), .int (115 : Int32), .int (0 : Int32), .int (0 : Int32)]) (rest := [.ref (ad 0)]) K hw (cc_X8_isWord l D cy ad A g_10 _ (119 : Int32) (101 : Int32) (105 : Int32) (103 : Int32) (104 : Int32) (115 : Int32) (0 : Int32) (0 : Int32) hd) lk_X8_184 (ci := 8) rfl (q0 := 0) (wsM_at cy ad _ (by decide)) ⟨Nat.le_of_ble_eq_true rfl, Nat.le_of_ble_eq_true rfl⟩ ⟨Nat.zero_le _, Nat.zero_le _⟩ rfl hl.1 (Nat.le_of_ble_eq_true rfl) rfl dX8_read_87 (fun r_15 g_14 H locs hd hw => ?_)
    refine rk_vi (As := [.int r_15]) (rest := []) K hw (cc_X8_part l D cy ad A g_14 _ r_15 hd) lk_X8_329 (ci := 8) rfl (q0 := 0) (wsM_at cy ad _ (by decide)) ⟨Nat.le_of_ble_eq_true rfl, Nat.le_of_ble_eq_true rfl⟩ ⟨Nat.zero_le _, Nat.zero_le _⟩ rfl hl.1 (Nat.le_of_ble_eq_true rfl) rfl dX8_read_90 (fun r_17 g_16 H locs hd hw => ?_)
    exact bb_X8_read_93 K hr  x2 x3_12 r_17 g_16 _ _ _ hd hw (lv_sub hl [1, 3, 0] rfl)
  · have hd := hd.2 h_13
    refine lv_iconst (v := (0 : Int32)) K.1 K.2.1 dX8_read_67 (by decide) ?_
    refine lv_goto (tgt := 93) K.1 K.2.1 dX8_read_68 (by decide) ?_
    exact bb_X8_read_93 K hr  x2 x3_12 (0 : Int32) g_10 _ _ _ hd hw (lv_sub hl [1, 3, 0] rfl)
theorem dX8_says_0 : decode cX8_says 0 = .ok (.aload_n 0, 1) := by decide +kernel
theorem dX8_says_1 : decode cX8_says 1 = .ok (.aload_n 0, 1) := by decide +kernel
theorem dX8_says_2 : decode cX8_says 2 = .ok (.getfield 29, 3) := by decide +kernel
theorem dX8_says_5 : decode cX8_says 5 = .ok (.iconst 5, 1) := by decide +kernel
theorem dX8_says_6 : decode cX8_says 6 = .ok (.iload_n 2, 1) := by decide +kernel
theorem dX8_says_7 : decode cX8_says 7 = .ok (.imul, 1) := by decide +kernel
theorem dX8_says_8 : decode cX8_says 8 = .ok (.iconst 3, 1) := by decide +kernel
theorem dX8_says_9 : decode cX8_says 9 = .ok (.iadd, 1) := by decide +kernel
theorem dX8_says_10 : decode cX8_says 10 = .ok (.iaload, 1) := by decide +kernel
theorem dX8_says_11 : decode cX8_says 11 = .ok (.putfield 188, 3) := by decide +kernel
theorem dX8_says_14 : decode cX8_says 14 = .ok (.aload_n 0, 1) := by decide +kernel
theorem dX8_says_15 : decode cX8_says 15 = .ok (.aload_n 0, 1) := by decide +kernel
theorem dX8_says_16 : decode cX8_says 16 = .ok (.getfield 29, 3) := by decide +kernel
theorem dX8_says_19 : decode cX8_says 19 = .ok (.iconst 5, 1) := by decide +kernel
theorem dX8_says_20 : decode cX8_says 20 = .ok (.iload_n 2, 1) := by decide +kernel
theorem dX8_says_21 : decode cX8_says 21 = .ok (.imul, 1) := by decide +kernel
theorem dX8_says_22 : decode cX8_says 22 = .ok (.iaload, 1) := by decide +kernel
theorem dX8_says_23 : decode cX8_says 23 = .ok (.putfield 191, 3) := by decide +kernel
theorem dX8_says_26 : decode cX8_says 26 = .ok (.aload_n 0, 1) := by decide +kernel
theorem dX8_says_27 : decode cX8_says 27 = .ok (.iload_n 3, 1) := by decide +kernel
theorem dX8_says_28 : decode cX8_says 28 = .ok (.putfield 194, 3) := by decide +kernel
theorem dX8_says_31 : decode cX8_says 31 = .ok (.aload_n 0, 1) := by decide +kernel
theorem dX8_says_32 : decode cX8_says 32 = .ok (.aload_n 0, 1) := by decide +kernel
theorem dX8_says_33 : decode cX8_says 33 = .ok (.getfield 29, 3) := by decide +kernel
theorem dX8_says_36 : decode cX8_says 36 = .ok (.iconst 5, 1) := by decide +kernel
theorem dX8_says_37 : decode cX8_says 37 = .ok (.iload_n 2, 1) := by decide +kernel
theorem dX8_says_38 : decode cX8_says 38 = .ok (.imul, 1) := by decide +kernel
theorem dX8_says_39 : decode cX8_says 39 = .ok (.iconst 1, 1) := by decide +kernel
theorem dX8_says_40 : decode cX8_says 40 = .ok (.iadd, 1) := by decide +kernel
theorem dX8_says_41 : decode cX8_says 41 = .ok (.iaload, 1) := by decide +kernel
theorem dX8_says_42 : decode cX8_says 42 = .ok (.putfield 197, 3) := by decide +kernel
theorem dX8_says_45 : decode cX8_says 45 = .ok (.aload_n 0, 1) := by decide +kernel
theorem dX8_says_46 : decode cX8_says 46 = .ok (.aload_n 0, 1) := by decide +kernel
theorem dX8_says_47 : decode cX8_says 47 = .ok (.getfield 92, 3) := by decide +kernel
theorem dX8_says_50 : decode cX8_says 50 = .ok (.putfield 200, 3) := by decide +kernel
theorem dX8_says_53 : decode cX8_says 53 = .ok (.aload_n 0, 1) := by decide +kernel
theorem dX8_says_54 : decode cX8_says 54 = .ok (.aload_n 0, 1) := by decide +kernel
theorem dX8_says_55 : decode cX8_says 55 = .ok (.getfield 29, 3) := by decide +kernel
theorem dX8_says_58 : decode cX8_says 58 = .ok (.iconst 5, 1) := by decide +kernel
theorem dX8_says_59 : decode cX8_says 59 = .ok (.iload_n 2, 1) := by decide +kernel
theorem dX8_says_60 : decode cX8_says 60 = .ok (.imul, 1) := by decide +kernel
theorem dX8_says_61 : decode cX8_says 61 = .ok (.iconst 2, 1) := by decide +kernel
theorem dX8_says_62 : decode cX8_says 62 = .ok (.iadd, 1) := by decide +kernel
theorem dX8_says_63 : decode cX8_says 63 = .ok (.iaload, 1) := by decide +kernel
theorem dX8_says_64 : decode cX8_says 64 = .ok (.putfield 203, 3) := by decide +kernel
theorem dX8_says_67 : decode cX8_says 67 = .ok (.aload_n 0, 1) := by decide +kernel
theorem dX8_says_68 : decode cX8_says 68 = .ok (.aload_n 0, 1) := by decide +kernel
theorem dX8_says_69 : decode cX8_says 69 = .ok (.getfield 95, 3) := by decide +kernel
theorem dX8_says_72 : decode cX8_says 72 = .ok (.iload_n 1, 1) := by decide +kernel
theorem dX8_says_73 : decode cX8_says 73 = .ok (.invokevirtual 333, 3) := by decide +kernel
theorem dX8_says_76 : decode cX8_says 76 = .ok (.iload_n 1, 1) := by decide +kernel
theorem dX8_says_77 : decode cX8_says 77 = .ok (.ifCond .ne 8, 3) := by decide +kernel
theorem dX8_says_80 : decode cX8_says 80 = .ok (.bipush (-99), 2) := by decide +kernel
theorem dX8_says_82 : decode cX8_says 82 = .ok (.goto 4, 3) := by decide +kernel
theorem dX8_says_85 : decode cX8_says 85 = .ok (.iconst 0, 1) := by decide +kernel
theorem dX8_says_86 : decode cX8_says 86 = .ok (.bipush 99, 2) := by decide +kernel
theorem dX8_says_88 : decode cX8_says 88 = .ok (.invokestatic 336, 3) := by decide +kernel
theorem dX8_says_91 : decode cX8_says 91 = .ok (.ireturn, 1) := by decide +kernel
set_option maxHeartbeats 4000000 in
set_option maxRecDepth 100000 in
theorem bb_X8_says_86 {p : Program} {l : Launch} {e : Env} {s : State} {m : MethodId} {args : Array Value} {below : List Frame} {meth : Method} {c : Code} {D : va_G} {cy : Nat → ClassId} {ad : Nat → Nat} {A : Nat → Prop} {Q : Int32 → Sg → Prop} (K : Kx p s m args meth c cX8_says 4 RX8 D cy) (hr : meth.sig.returnType = (some .int))  (t0 : Int32) (t1 : Int32) (g0 : Sg) (H : Heap) (locs : List Loc) (ls : Array Slot) (hd : vv_X8_says_J86 t0 t1 g0 Q) (hw : Wd D A s.heap (wsM cy ad g0) H locs) (hl : lv_has ls 4 []) : W p l e (rmD 42) s m args below meth c H locs 0 0 (MQ below (va_Qi Q (PostG (wsM cy ad) D A) A) args s 0 0 A) (F0 m 86 ls [.int t1, .int t0]) := by
  unfold vv_X8_says_J86 at hd
  refine lv_bipush (v := (99 : Int32)) K.1 K.2.1 dX8_says_86 (by decide) ?_
  refine rk_si (As := [.int t0, .int t1, .int (99 : Int32)]) (rest := []) K hw (cc_X8_within l D cy ad A g0 _ t0 t1 (99 : Int32) hd) lk_X8_336 ⟨Nat.le_of_ble_eq_true rfl, Nat.le_of_ble_eq_true rfl⟩ ⟨Nat.zero_le _, Nat.zero_le _⟩ rfl hl.1 (Nat.le_of_ble_eq_true rfl) rfl dX8_says_88 (fun r_11 g_10 H locs hd hw => ?_)
  exact rk_iret K hw hr hd dX8_says_91
set_option maxHeartbeats 4000000 in
set_option maxRecDepth 100000 in
theorem cc_X8_says (l : Launch) (D : va_G) (cy : Nat → ClassId) (ad : Nat → Nat) (A : Nat → Prop) (g0 : Sg) (Q : Int32 → Sg → Prop) (x1 : Int32) (x2 : Int32) (x3 : Int32) (hd : vv_X8_says x1 x2 x3 g0 Q) : Met l yX8_says (Cond.code yX8_says cX8_says 4 (some .int) :: TT) (rmD 42) (va_Pc [.ref (ad 0), .int x1, .int x2, .int x3] (PreG (wsM cy ad) D cy A g0)) (va_Qi Q (PostG (wsM cy ad) D A) A) 0 0 A := by
  unfold vv_X8_says at hd
  refine Met.ofW (cc := cX8_says) (maxL := 4) (ret := (some .int)) (by decide) rfl ?_
  intro p e s m args below meth c s₁ B hml hv
  obtain ⟨rfl, hP, hK0, hD⟩ := hv
  have K : Kx p s m _ meth c cX8_says 4 RX8 D cy := ⟨B.exec, B.bytes, hml, findClass_of_methodNamed B.named, fun w h => atoms_spec (ws := Cond.code yX8_says cX8_says 4 (some .int) :: TT) B.pre w (List.mem_cons_of_mem _ h), hK0, B.notSynchronized⟩
  have hw : Wd D A s.heap (wsM cy ad g0) s.heap [] := ⟨hP, hD, va_S.rf⟩
  have hr := B.returns
  have hl := lv_entry ([.ref (ad 0), .int x1, .int x2, .int x3]) (n := 4) (Nat.le_of_ble_eq_true rfl)
  rw [lg_entry_eq]
  generalize (lg_sl ([.ref (ad 0), .int x1, .int x2, .int x3]) ++ List.replicate (4 - (lg_sl ([.ref (ad 0), .int x1, .int x2, .int x3])).length) Slot.unset).toArray = ls at hl ⊢
  have hl : lv_has ls 4 [(0, .ref (ad 0)), (1, .int x1), (2, .int x2), (3, .int x3)] := hl
  refine lv_aload_n K.1 K.2.1 dX8_says_0 rfl (lv_at hl 0 rfl) ?_
  refine lv_aload_n K.1 K.2.1 dX8_says_1 rfl (lv_at hl 0 rfl) ?_
  refine rm_get 10 K hw (by decide) kf_X8_29 rfl dX8_says_2 ?_
  refine lv_iconst (v := (5 : Int32)) K.1 K.2.1 dX8_says_5 (by decide) ?_
  refine lv_iload_n K.1 K.2.1 dX8_says_6 rfl (lv_at hl 2 rfl) ?_
  refine lv_imul K.1 K.2.1 dX8_says_7 ?_
  refine lv_iconst (v := (3 : Int32)) K.1 K.2.1 dX8_says_8 (by decide) ?_
  refine lv_iadd K.1 K.2.1 dX8_says_9 ?_
  have hb := hd.1
  have hd := hd.2
  refine rm_iald 5 K hw (by decide) hb dX8_says_10 ?_
  refine rm_put 12 K hw (by decide) kf_X8_188 rfl rfl rfl rfl (fsM_12 ad g0 _) dX8_says_11 (fun g_1 eg_1 H locs hw => ?_)
  have hd := hd g_1 eg_1
  refine lv_aload_n K.1 K.2.1 dX8_says_14 rfl (lv_at hl 0 rfl) ?_
  refine lv_aload_n K.1 K.2.1 dX8_says_15 rfl (lv_at hl 0 rfl) ?_
  refine rm_get 10 K hw (by decide) kf_X8_29 rfl dX8_says_16 ?_
  refine lv_iconst (v := (5 : Int32)) K.1 K.2.1 dX8_says_19 (by decide) ?_
  refine lv_iload_n K.1 K.2.1 dX8_says_20 rfl (lv_at hl 2 rfl) ?_
  refine lv_imul K.1 K.2.1 dX8_says_21 ?_
  have hb := hd.1
  have hd := hd.2
  refine rm_iald 5 K hw (by decide) hb dX8_says_22 ?_
  refine rm_put 13 K hw (by decide) kf_X8_191 rfl rfl rfl rfl (fsM_13 ad g_1 _) dX8_says_23 (fun g_2 eg_2 H locs hw => ?_)
  have hd := hd g_2 eg_2
  refine lv_aload_n K.1 K.2.1 dX8_says_26 rfl (lv_at hl 0 rfl) ?_
  refine lv_iload_n K.1 K.2.1 dX8_says_27 rfl (lv_at hl 3 rfl) ?_
  refine rm_put 14 K hw (by decide) kf_X8_194 rfl rfl rfl rfl (fsM_14 ad g_2 _) dX8_says_28 (fun g_3 eg_3 H locs hw => ?_)
  have hd := hd g_3 eg_3
  refine lv_aload_n K.1 K.2.1 dX8_says_31 rfl (lv_at hl 0 rfl) ?_
  refine lv_aload_n K.1 K.2.1 dX8_says_32 rfl (lv_at hl 0 rfl) ?_
  refine rm_get 10 K hw (by decide) kf_X8_29 rfl dX8_says_33 ?_
  refine lv_iconst (v := (5 : Int32)) K.1 K.2.1 dX8_says_36 (by decide) ?_
  refine lv_iload_n K.1 K.2.1 dX8_says_37 rfl (lv_at hl 2 rfl) ?_
  refine lv_imul K.1 K.2.1 dX8_says_38 ?_
  refine lv_iconst (v := (1 : Int32)) K.1 K.2.1 dX8_says_39 (by decide) ?_
  refine lv_iadd K.1 K.2.1 dX8_says_40 ?_
  have hb := hd.1
  have hd := hd.2
  refine rm_iald 5 K hw (by decide) hb dX8_says_41 ?_
  refine rm_put 15 K hw (by decide) kf_X8_197 rfl rfl rfl rfl (fsM_15 ad g_3 _) dX8_says_42 (fun g_4 eg_4 H locs hw => ?_)
  have hd := hd g_4 eg_4
  refine lv_aload_n K.1 K.2.1 dX8_says_45 rfl (lv_at hl 0 rfl) ?_
  refine lv_aload_n K.1 K.2.1 dX8_says_46 rfl (lv_at hl 0 rfl) ?_
  refine rm_get 7 K hw (by decide) kf_X8_92 rfl dX8_says_47 ?_
  refine rm_put 16 K hw (by decide) kf_X8_200 rfl rfl rfl rfl (fsM_16 ad g_4 _) dX8_says_50 (fun g_5 eg_5 H locs hw => ?_)
  have hd := hd g_5 eg_5
  refine lv_aload_n K.1 K.2.1 dX8_says_53 rfl (lv_at hl 0 rfl) ?_
  refine lv_aload_n K.1 K.2.1 dX8_says_54 rfl (lv_at hl 0 rfl) ?_
  refine rm_get 10 K hw (by decide) kf_X8_29 rfl dX8_says_55 ?_
  refine lv_iconst (v := (5 : Int32)) K.1 K.2.1 dX8_says_58 (by decide) ?_
  refine lv_iload_n K.1 K.2.1 dX8_says_59 rfl (lv_at hl 2 rfl) ?_
  refine lv_imul K.1 K.2.1 dX8_says_60 ?_
  refine lv_iconst (v := (2 : Int32)) K.1 K.2.1 dX8_says_61 (by decide) ?_
  refine lv_iadd K.1 K.2.1 dX8_says_62 ?_
  have hb := hd.1
  have hd := hd.2
  refine rm_iald 5 K hw (by decide) hb dX8_says_63 ?_
  refine rm_put 17 K hw (by decide) kf_X8_203 rfl rfl rfl rfl (fsM_17 ad g_5 _) dX8_says_64 (fun g_6 eg_6 H locs hw => ?_)
  have hd := hd g_6 eg_6
  refine lv_aload_n K.1 K.2.1 dX8_says_67 rfl (lv_at hl 0 rfl) ?_
  refine lv_aload_n K.1 K.2.1 dX8_says_68 rfl (lv_at hl 0 rfl) ?_
  refine rm_get 4 K hw (by decide) kf_X8_95 rfl dX8_says_69 ?_
  refine lv_iload_n K.1 K.2.1 dX8_says_72 rfl (lv_at hl 1 rfl) ?_
  refine rk_vi (As := [.int (g_6 0 4), .int x1]) (rest := []) K hw (cc_X8_read l D cy ad A g_6 _ (g_6 0 4) x1 hd) lk_X8_333 (ci := 8) rfl (q0 := 0) (wsM_at cy ad _ (by decide)) ⟨Nat.le_of_ble_eq_true rfl, Nat.le_of_ble_eq_true rfl⟩ ⟨Nat.zero_le _, Nat.zero_le _⟩ rfl hl.1 (Nat.le_of_ble_eq_true rfl) rfl dX8_says_73 (fun r_8 g_7 H locs hd hw => ?_)
  refine lv_iload_n K.1 K.2.1 dX8_says_76 rfl (lv_at hl 1 rfl) ?_
  refine lv_if_ne (tgt := 85) K.1 K.2.1 dX8_says_77 (by decide) (fun h_9 => ?_) (fun h_9 => ?_)
  · have hd := hd.1 h_9
    refine lv_iconst (v := (0 : Int32)) K.1 K.2.1 dX8_says_85 (by decide) ?_
    exact bb_X8_says_86 K hr  r_8 (0 : Int32) g_7 _ _ _ hd hw (lv_sub hl [] rfl)
  · have hd := hd.2 h_9
    refine lv_bipush (v := (-99 : Int32)) K.1 K.2.1 dX8_says_80 (by decide) ?_
    refine lv_goto (tgt := 86) K.1 K.2.1 dX8_says_82 (by decide) ?_
    exact bb_X8_says_86 K hr  r_8 (-99 : Int32) g_7 _ _ _ hd hw (lv_sub hl [] rfl)
theorem dX8_feelsOf_0 : decode cX8_feelsOf 0 = .ok (.aload_n 0, 1) := by decide +kernel
theorem dX8_feelsOf_1 : decode cX8_feelsOf 1 = .ok (.getfield 26, 3) := by decide +kernel
theorem dX8_feelsOf_4 : decode cX8_feelsOf 4 = .ok (.iload_n 1, 1) := by decide +kernel
theorem dX8_feelsOf_5 : decode cX8_feelsOf 5 = .ok (.iaload, 1) := by decide +kernel
theorem dX8_feelsOf_6 : decode cX8_feelsOf 6 = .ok (.istore_n 3, 1) := by decide +kernel
theorem dX8_feelsOf_7 : decode cX8_feelsOf 7 = .ok (.iload_n 3, 1) := by decide +kernel
theorem dX8_feelsOf_8 : decode cX8_feelsOf 8 = .ok (.iconst 4, 1) := by decide +kernel
theorem dX8_feelsOf_9 : decode cX8_feelsOf 9 = .ok (.if_icmp .eq 23, 3) := by decide +kernel
theorem dX8_feelsOf_12 : decode cX8_feelsOf 12 = .ok (.iload_n 3, 1) := by decide +kernel
theorem dX8_feelsOf_13 : decode cX8_feelsOf 13 = .ok (.iconst 3, 1) := by decide +kernel
theorem dX8_feelsOf_14 : decode cX8_feelsOf 14 = .ok (.if_icmp .ne 38, 3) := by decide +kernel
theorem dX8_feelsOf_17 : decode cX8_feelsOf 17 = .ok (.iload_n 2, 1) := by decide +kernel
theorem dX8_feelsOf_18 : decode cX8_feelsOf 18 = .ok (.aload_n 0, 1) := by decide +kernel
theorem dX8_feelsOf_19 : decode cX8_feelsOf 19 = .ok (.getfield 29, 3) := by decide +kernel
theorem dX8_feelsOf_22 : decode cX8_feelsOf 22 = .ok (.iconst 5, 1) := by decide +kernel
theorem dX8_feelsOf_23 : decode cX8_feelsOf 23 = .ok (.iload_n 1, 1) := by decide +kernel
theorem dX8_feelsOf_24 : decode cX8_feelsOf 24 = .ok (.imul, 1) := by decide +kernel
theorem dX8_feelsOf_25 : decode cX8_feelsOf 25 = .ok (.iaload, 1) := by decide +kernel
theorem dX8_feelsOf_26 : decode cX8_feelsOf 26 = .ok (.bipush 8, 2) := by decide +kernel
theorem dX8_feelsOf_28 : decode cX8_feelsOf 28 = .ok (.irem, 1) := by decide +kernel
theorem dX8_feelsOf_29 : decode cX8_feelsOf 29 = .ok (.if_icmp .ne 23, 3) := by decide +kernel
theorem dX8_feelsOf_32 : decode cX8_feelsOf 32 = .ok (.iload_n 3, 1) := by decide +kernel
theorem dX8_feelsOf_33 : decode cX8_feelsOf 33 = .ok (.iconst 4, 1) := by decide +kernel
theorem dX8_feelsOf_34 : decode cX8_feelsOf 34 = .ok (.if_icmp .ne 16, 3) := by decide +kernel
theorem dX8_feelsOf_37 : decode cX8_feelsOf 37 = .ok (.aload_n 0, 1) := by decide +kernel
theorem dX8_feelsOf_38 : decode cX8_feelsOf 38 = .ok (.getfield 29, 3) := by decide +kernel
theorem dX8_feelsOf_41 : decode cX8_feelsOf 41 = .ok (.iconst 5, 1) := by decide +kernel
theorem dX8_feelsOf_42 : decode cX8_feelsOf 42 = .ok (.iload_n 1, 1) := by decide +kernel
theorem dX8_feelsOf_43 : decode cX8_feelsOf 43 = .ok (.imul, 1) := by decide +kernel
theorem dX8_feelsOf_44 : decode cX8_feelsOf 44 = .ok (.iconst 1, 1) := by decide +kernel
theorem dX8_feelsOf_45 : decode cX8_feelsOf 45 = .ok (.iadd, 1) := by decide +kernel
theorem dX8_feelsOf_46 : decode cX8_feelsOf 46 = .ok (.iaload, 1) := by decide +kernel
theorem dX8_feelsOf_47 : decode cX8_feelsOf 47 = .ok (.goto 4, 3) := by decide +kernel
theorem dX8_feelsOf_50 : decode cX8_feelsOf 50 = .ok (.iconst 0, 1) := by decide +kernel
theorem dX8_feelsOf_51 : decode cX8_feelsOf 51 = .ok (.ireturn, 1) := by decide +kernel
theorem dX8_feelsOf_52 : decode cX8_feelsOf 52 = .ok (.aload_n 0, 1) := by decide +kernel
theorem dX8_feelsOf_53 : decode cX8_feelsOf 53 = .ok (.iconst 0, 1) := by decide +kernel
theorem dX8_feelsOf_54 : decode cX8_feelsOf 54 = .ok (.iload_n 1, 1) := by decide +kernel
theorem dX8_feelsOf_55 : decode cX8_feelsOf 55 = .ok (.iload_n 2, 1) := by decide +kernel
theorem dX8_feelsOf_56 : decode cX8_feelsOf 56 = .ok (.invokevirtual 340, 3) := by decide +kernel
theorem dX8_feelsOf_59 : decode cX8_feelsOf 59 = .ok (.istore 4, 2) := by decide +kernel
theorem dX8_feelsOf_61 : decode cX8_feelsOf 61 = .ok (.iload_n 3, 1) := by decide +kernel
theorem dX8_feelsOf_62 : decode cX8_feelsOf 62 = .ok (.iconst 1, 1) := by decide +kernel
theorem dX8_feelsOf_63 : decode cX8_feelsOf 63 = .ok (.if_icmp .eq 8, 3) := by decide +kernel
theorem dX8_feelsOf_66 : decode cX8_feelsOf 66 = .ok (.iload_n 3, 1) := by decide +kernel
theorem dX8_feelsOf_67 : decode cX8_feelsOf 67 = .ok (.iconst 3, 1) := by decide +kernel
theorem dX8_feelsOf_68 : decode cX8_feelsOf 68 = .ok (.if_icmp .ne 10, 3) := by decide +kernel
theorem dX8_feelsOf_71 : decode cX8_feelsOf 71 = .ok (.iconst 2, 1) := by decide +kernel
theorem dX8_feelsOf_72 : decode cX8_feelsOf 72 = .ok (.iload 4, 2) := by decide +kernel
theorem dX8_feelsOf_74 : decode cX8_feelsOf 74 = .ok (.imul, 1) := by decide +kernel
theorem dX8_feelsOf_75 : decode cX8_feelsOf 75 = .ok (.goto 35, 3) := by decide +kernel
theorem dX8_feelsOf_78 : decode cX8_feelsOf 78 = .ok (.iload_n 3, 1) := by decide +kernel
theorem dX8_feelsOf_79 : decode cX8_feelsOf 79 = .ok (.iconst 2, 1) := by decide +kernel
theorem dX8_feelsOf_80 : decode cX8_feelsOf 80 = .ok (.if_icmp .ne 16, 3) := by decide +kernel
theorem dX8_feelsOf_83 : decode cX8_feelsOf 83 = .ok (.iload_n 2, 1) := by decide +kernel
theorem dX8_feelsOf_84 : decode cX8_feelsOf 84 = .ok (.iconst 2, 1) := by decide +kernel
theorem dX8_feelsOf_85 : decode cX8_feelsOf 85 = .ok (.irem, 1) := by decide +kernel
theorem dX8_feelsOf_86 : decode cX8_feelsOf 86 = .ok (.iconst 1, 1) := by decide +kernel
theorem dX8_feelsOf_87 : decode cX8_feelsOf 87 = .ok (.if_icmp .ne 9, 3) := by decide +kernel
theorem dX8_feelsOf_90 : decode cX8_feelsOf 90 = .ok (.iload 4, 2) := by decide +kernel
theorem dX8_feelsOf_92 : decode cX8_feelsOf 92 = .ok (.ineg, 1) := by decide +kernel
theorem dX8_feelsOf_93 : decode cX8_feelsOf 93 = .ok (.goto 17, 3) := by decide +kernel
theorem dX8_feelsOf_96 : decode cX8_feelsOf 96 = .ok (.iload_n 3, 1) := by decide +kernel
theorem dX8_feelsOf_97 : decode cX8_feelsOf 97 = .ok (.iconst 5, 1) := by decide +kernel
theorem dX8_feelsOf_98 : decode cX8_feelsOf 98 = .ok (.if_icmp .ne 10, 3) := by decide +kernel
theorem dX8_feelsOf_101 : decode cX8_feelsOf 101 = .ok (.iload 4, 2) := by decide +kernel
theorem dX8_feelsOf_103 : decode cX8_feelsOf 103 = .ok (.iconst 1, 1) := by decide +kernel
theorem dX8_feelsOf_104 : decode cX8_feelsOf 104 = .ok (.isub, 1) := by decide +kernel
theorem dX8_feelsOf_105 : decode cX8_feelsOf 105 = .ok (.goto 5, 3) := by decide +kernel
theorem dX8_feelsOf_108 : decode cX8_feelsOf 108 = .ok (.iload 4, 2) := by decide +kernel
theorem dX8_feelsOf_110 : decode cX8_feelsOf 110 = .ok (.ireturn, 1) := by decide +kernel
set_option maxHeartbeats 4000000 in
set_option maxRecDepth 100000 in
theorem bb_X8_feelsOf_32 {p : Program} {l : Launch} {e : Env} {s : State} {m : MethodId} {args : Array Value} {below : List Frame} {meth : Method} {c : Code} {D : va_G} {cy : Nat → ClassId} {ad : Nat → Nat} {A : Nat → Prop} {Q : Int32 → Sg → Prop} (K : Kx p s m args meth c cX8_feelsOf 5 RX8 D cy) (hr : meth.sig.returnType = (some .int)) (x1 : Int32) (x3 : Int32)  (g0 : Sg) (H : Heap) (locs : List Loc) (ls : Array Slot) (hd : vv_X8_feelsOf_J32 x1 x3 g0 Q) (hw : Wd D A s.heap (wsM cy ad g0) H locs) (hl : lv_has ls 5 [(0, .ref (ad 0)), (1, .int x1), (3, .int x3)]) : W p l e (rmD 43) s m args below meth c H locs 0 0 (MQ below (va_Qi Q (PostG (wsM cy ad) D A) A) args s 0 0 A) (F0 m 32 ls []) := by
  unfold vv_X8_feelsOf_J32 at hd
  refine lv_iload_n K.1 K.2.1 dX8_feelsOf_32 rfl (lv_at hl 2 rfl) ?_
  refine lv_iconst (v := (4 : Int32)) K.1 K.2.1 dX8_feelsOf_33 (by decide) ?_
  refine lv_icmp_ne (tgt := 50) K.1 K.2.1 dX8_feelsOf_34 (by decide) (fun h_3 => ?_) (fun h_3 => ?_)
  · have hd := hd.1 h_3
    refine lv_iconst (v := (0 : Int32)) K.1 K.2.1 dX8_feelsOf_50 (by decide) ?_
    exact rk_iret K hw hr hd dX8_feelsOf_51
  · have hd := hd.2 h_3
    refine lv_aload_n K.1 K.2.1 dX8_feelsOf_37 rfl (lv_at hl 0 rfl) ?_
    refine rm_get 10 K hw (by decide) kf_X8_29 rfl dX8_feelsOf_38 ?_
    refine lv_iconst (v := (5 : Int32)) K.1 K.2.1 dX8_feelsOf_41 (by decide) ?_
    refine lv_iload_n K.1 K.2.1 dX8_feelsOf_42 rfl (lv_at hl 1 rfl) ?_
    refine lv_imul K.1 K.2.1 dX8_feelsOf_43 ?_
    refine lv_iconst (v := (1 : Int32)) K.1 K.2.1 dX8_feelsOf_44 (by decide) ?_
    refine lv_iadd K.1 K.2.1 dX8_feelsOf_45 ?_
    have hb := hd.1
    have hd := hd.2
    refine rm_iald 5 K hw (by decide) hb dX8_feelsOf_46 ?_
    refine lv_goto (tgt := 51) K.1 K.2.1 dX8_feelsOf_47 (by decide) ?_
    exact rk_iret K hw hr hd dX8_feelsOf_51
set_option maxHeartbeats 4000000 in
set_option maxRecDepth 100000 in
theorem bb_X8_feelsOf_71 {p : Program} {l : Launch} {e : Env} {s : State} {m : MethodId} {args : Array Value} {below : List Frame} {meth : Method} {c : Code} {D : va_G} {cy : Nat → ClassId} {ad : Nat → Nat} {A : Nat → Prop} {Q : Int32 → Sg → Prop} (K : Kx p s m args meth c cX8_feelsOf 5 RX8 D cy) (hr : meth.sig.returnType = (some .int)) (x4 : Int32)  (g0 : Sg) (H : Heap) (locs : List Loc) (ls : Array Slot) (hd : vv_X8_feelsOf_J71 x4 g0 Q) (hw : Wd D A s.heap (wsM cy ad g0) H locs) (hl : lv_has ls 5 [(4, .int x4)]) : W p l e (rmD 43) s m args below meth c H locs 0 0 (MQ below (va_Qi Q (PostG (wsM cy ad) D A) A) args s 0 0 A) (F0 m 71 ls []) := by
  unfold vv_X8_feelsOf_J71 at hd
  refine lv_iconst (v := (2 : Int32)) K.1 K.2.1 dX8_feelsOf_71 (by decide) ?_
  refine lv_iload K.1 K.2.1 dX8_feelsOf_72 (lv_at hl 0 rfl) ?_
  refine lv_imul K.1 K.2.1 dX8_feelsOf_74 ?_
  refine lv_goto (tgt := 110) K.1 K.2.1 dX8_feelsOf_75 (by decide) ?_
  exact rk_iret K hw hr hd dX8_feelsOf_110
set_option maxHeartbeats 4000000 in
set_option maxRecDepth 100000 in
theorem bb_X8_feelsOf_96 {p : Program} {l : Launch} {e : Env} {s : State} {m : MethodId} {args : Array Value} {below : List Frame} {meth : Method} {c : Code} {D : va_G} {cy : Nat → ClassId} {ad : Nat → Nat} {A : Nat → Prop} {Q : Int32 → Sg → Prop} (K : Kx p s m args meth c cX8_feelsOf 5 RX8 D cy) (hr : meth.sig.returnType = (some .int)) (x3 : Int32) (x4 : Int32)  (g0 : Sg) (H : Heap) (locs : List Loc) (ls : Array Slot) (hd : vv_X8_feelsOf_J96 x3 x4 g0 Q) (hw : Wd D A s.heap (wsM cy ad g0) H locs) (hl : lv_has ls 5 [(3, .int x3), (4, .int x4)]) : W p l e (rmD 43) s m args below meth c H locs 0 0 (MQ below (va_Qi Q (PostG (wsM cy ad) D A) A) args s 0 0 A) (F0 m 96 ls []) := by
  unfold vv_X8_feelsOf_J96 at hd
  refine lv_iload_n K.1 K.2.1 dX8_feelsOf_96 rfl (lv_at hl 0 rfl) ?_
  refine lv_iconst (v := (5 : Int32)) K.1 K.2.1 dX8_feelsOf_97 (by decide) ?_
  refine lv_icmp_ne (tgt := 108) K.1 K.2.1 dX8_feelsOf_98 (by decide) (fun h_11 => ?_) (fun h_11 => ?_)
  · have hd := hd.1 h_11
    refine lv_iload K.1 K.2.1 dX8_feelsOf_108 (lv_at hl 1 rfl) ?_
    exact rk_iret K hw hr hd dX8_feelsOf_110
  · have hd := hd.2 h_11
    refine lv_iload K.1 K.2.1 dX8_feelsOf_101 (lv_at hl 1 rfl) ?_
    refine lv_iconst (v := (1 : Int32)) K.1 K.2.1 dX8_feelsOf_103 (by decide) ?_
    refine lv_isub K.1 K.2.1 dX8_feelsOf_104 ?_
    refine lv_goto (tgt := 110) K.1 K.2.1 dX8_feelsOf_105 (by decide) ?_
    exact rk_iret K hw hr hd dX8_feelsOf_110
set_option maxHeartbeats 4000000 in
set_option maxRecDepth 100000 in
theorem bb_X8_feelsOf_52 {p : Program} {l : Launch} {e : Env} {s : State} {m : MethodId} {args : Array Value} {below : List Frame} {meth : Method} {c : Code} {D : va_G} {cy : Nat → ClassId} {ad : Nat → Nat} {A : Nat → Prop} {Q : Int32 → Sg → Prop} (K : Kx p s m args meth c cX8_feelsOf 5 RX8 D cy) (hr : meth.sig.returnType = (some .int)) (x1 : Int32) (x2 : Int32) (x3 : Int32)  (g0 : Sg) (H : Heap) (locs : List Loc) (ls : Array Slot) (hd : vv_X8_feelsOf_J52 x1 x2 x3 g0 Q) (hw : Wd D A s.heap (wsM cy ad g0) H locs) (hl : lv_has ls 5 [(0, .ref (ad 0)), (1, .int x1), (2, .int x2), (3, .int x3)]) : W p l e (rmD 43) s m args below meth c H locs 0 0 (MQ below (va_Qi Q (PostG (wsM cy ad) D A) A) args s 0 0 A) (F0 m 52 ls []) := by
  unfold vv_X8_feelsOf_J52 at hd
  refine lv_aload_n K.1 K.2.1 dX8_feelsOf_52 rfl (lv_at hl 0 rfl) ?_
  refine lv_iconst (v := (0 : Int32)) K.1 K.2.1 dX8_feelsOf_53 (by decide) ?_
  refine lv_iload_n K.1 K.2.1 dX8_feelsOf_54 rfl (lv_at hl 1 rfl) ?_
  refine lv_iload_n K.1 K.2.1 dX8_feelsOf_55 rfl (lv_at hl 2 rfl) ?_
  refine rk_vi (As := [.int (0 : Int32), .int x1, .int x2]) (rest := []) K hw (cc_X8_says l D cy ad A g0 _ (0 : Int32) x1 x2 hd) lk_X8_340 (ci := 8) rfl (q0 := 0) (wsM_at cy ad _ (by decide)) ⟨Nat.le_of_ble_eq_true rfl, Nat.le_of_ble_eq_true rfl⟩ ⟨Nat.zero_le _, Nat.zero_le _⟩ rfl hl.1 (Nat.le_of_ble_eq_true rfl) rfl dX8_feelsOf_56 (fun r_6 g_5 H locs hd hw => ?_)
  refine lv_topi (fun x4_7 ex4_7 => ?_)
  have hd := hd x4_7 ex4_7
  refine lv_istore (lv' := [(4, .int x4_7), (0, .ref (ad 0)), (1, .int x1), (2, .int x2), (3, .int x3)]) K.1 K.2.1 dX8_feelsOf_59 hl (by decide) rfl (fun ls hl => ?_)
  refine lv_iload_n K.1 K.2.1 dX8_feelsOf_61 rfl (lv_at hl 4 rfl) ?_
  refine lv_iconst (v := (1 : Int32)) K.1 K.2.1 dX8_feelsOf_62 (by decide) ?_
  refine lv_icmp_eq (tgt := 71) K.1 K.2.1 dX8_feelsOf_63 (by decide) (fun h_8 => ?_) (fun h_8 => ?_)
  · have hd := hd.1 h_8
    exact bb_X8_feelsOf_71 K hr  x4_7 g_5 _ _ _ hd hw (lv_sub hl [0] rfl)
  · have hd := hd.2 h_8
    refine lv_iload_n K.1 K.2.1 dX8_feelsOf_66 rfl (lv_at hl 4 rfl) ?_
    refine lv_iconst (v := (3 : Int32)) K.1 K.2.1 dX8_feelsOf_67 (by decide) ?_
    refine lv_icmp_ne (tgt := 78) K.1 K.2.1 dX8_feelsOf_68 (by decide) (fun h_9 => ?_) (fun h_9 => ?_)
    · have hd := hd.1 h_9
      refine lv_iload_n K.1 K.2.1 dX8_feelsOf_78 rfl (lv_at hl 4 rfl) ?_
      refine lv_iconst (v := (2 : Int32)) K.1 K.2.1 dX8_feelsOf_79 (by decide) ?_
      refine lv_icmp_ne (tgt := 96) K.1 K.2.1 dX8_feelsOf_80 (by decide) (fun h_10 => ?_) (fun h_10 => ?_)
      · have hd := hd.1 h_10
        exact bb_X8_feelsOf_96 K hr  x3 x4_7 g_5 _ _ _ hd hw (lv_sub hl [4, 0] rfl)
      · have hd := hd.2 h_10
        refine lv_iload_n K.1 K.2.1 dX8_feelsOf_83 rfl (lv_at hl 3 rfl) ?_
        refine lv_iconst (v := (2 : Int32)) K.1 K.2.1 dX8_feelsOf_84 (by decide) ?_
        refine lv_irem K.1 K.2.1 dX8_feelsOf_85 (by decide) ?_
        refine lv_iconst (v := (1 : Int32)) K.1 K.2.1 dX8_feelsOf_86 (by decide) ?_
        refine lv_icmp_ne (tgt := 96) K.1 K.2.1 dX8_feelsOf_87 (by decide) (fun h_12 => ?_) (fun h_12 => ?_)
        · have hd := hd.1 h_12
          exact bb_X8_feelsOf_96 K hr  x3 x4_7 g_5 _ _ _ hd hw (lv_sub hl [4, 0] rfl)
        · have hd := hd.2 h_12
          refine lv_iload K.1 K.2.1 dX8_feelsOf_90 (lv_at hl 0 rfl) ?_
          refine lv_ineg K.1 K.2.1 dX8_feelsOf_92 ?_
          refine lv_goto (tgt := 110) K.1 K.2.1 dX8_feelsOf_93 (by decide) ?_
          exact rk_iret K hw hr hd dX8_feelsOf_110
    · have hd := hd.2 h_9
      exact bb_X8_feelsOf_71 K hr  x4_7 g_5 _ _ _ hd hw (lv_sub hl [0] rfl)
set_option maxHeartbeats 4000000 in
set_option maxRecDepth 100000 in
theorem cc_X8_feelsOf (l : Launch) (D : va_G) (cy : Nat → ClassId) (ad : Nat → Nat) (A : Nat → Prop) (g0 : Sg) (Q : Int32 → Sg → Prop) (x1 : Int32) (x2 : Int32) (hd : vv_X8_feelsOf x1 x2 g0 Q) : Met l yX8_feelsOf (Cond.code yX8_feelsOf cX8_feelsOf 5 (some .int) :: TT) (rmD 43) (va_Pc [.ref (ad 0), .int x1, .int x2] (PreG (wsM cy ad) D cy A g0)) (va_Qi Q (PostG (wsM cy ad) D A) A) 0 0 A := by
  unfold vv_X8_feelsOf at hd
  refine Met.ofW (cc := cX8_feelsOf) (maxL := 5) (ret := (some .int)) (by decide) rfl ?_
  intro p e s m args below meth c s₁ B hml hv
  obtain ⟨rfl, hP, hK0, hD⟩ := hv
  have K : Kx p s m _ meth c cX8_feelsOf 5 RX8 D cy := ⟨B.exec, B.bytes, hml, findClass_of_methodNamed B.named, fun w h => atoms_spec (ws := Cond.code yX8_feelsOf cX8_feelsOf 5 (some .int) :: TT) B.pre w (List.mem_cons_of_mem _ h), hK0, B.notSynchronized⟩
  have hw : Wd D A s.heap (wsM cy ad g0) s.heap [] := ⟨hP, hD, va_S.rf⟩
  have hr := B.returns
  have hl := lv_entry ([.ref (ad 0), .int x1, .int x2]) (n := 5) (Nat.le_of_ble_eq_true rfl)
  rw [lg_entry_eq]
  generalize (lg_sl ([.ref (ad 0), .int x1, .int x2]) ++ List.replicate (5 - (lg_sl ([.ref (ad 0), .int x1, .int x2])).length) Slot.unset).toArray = ls at hl ⊢
  have hl : lv_has ls 5 [(0, .ref (ad 0)), (1, .int x1), (2, .int x2)] := hl
  refine lv_aload_n K.1 K.2.1 dX8_feelsOf_0 rfl (lv_at hl 0 rfl) ?_
  refine rm_get 9 K hw (by decide) kf_X8_26 rfl dX8_feelsOf_1 ?_
  refine lv_iload_n K.1 K.2.1 dX8_feelsOf_4 rfl (lv_at hl 1 rfl) ?_
  have hb := hd.1
  have hd := hd.2
  refine rm_iald 4 K hw (by decide) hb dX8_feelsOf_5 ?_
  refine lv_topi (fun x3_1 ex3_1 => ?_)
  have hd := hd x3_1 ex3_1
  refine lv_istore_n (lv' := [(3, .int x3_1), (0, .ref (ad 0)), (1, .int x1), (2, .int x2)]) K.1 K.2.1 dX8_feelsOf_6 rfl hl (by decide) rfl (fun ls hl => ?_)
  refine lv_iload_n K.1 K.2.1 dX8_feelsOf_7 rfl (lv_at hl 0 rfl) ?_
  refine lv_iconst (v := (4 : Int32)) K.1 K.2.1 dX8_feelsOf_8 (by decide) ?_
  refine lv_icmp_eq (tgt := 32) K.1 K.2.1 dX8_feelsOf_9 (by decide) (fun h_2 => ?_) (fun h_2 => ?_)
  · have hd := hd.1 h_2
    exact bb_X8_feelsOf_32 K hr  x1 x3_1 g0 _ _ _ hd hw (lv_sub hl [1, 2, 0] rfl)
  · have hd := hd.2 h_2
    refine lv_iload_n K.1 K.2.1 dX8_feelsOf_12 rfl (lv_at hl 0 rfl) ?_
    refine lv_iconst (v := (3 : Int32)) K.1 K.2.1 dX8_feelsOf_13 (by decide) ?_
    refine lv_icmp_ne (tgt := 52) K.1 K.2.1 dX8_feelsOf_14 (by decide) (fun h_4 => ?_) (fun h_4 => ?_)
    · have hd := hd.1 h_4
      exact bb_X8_feelsOf_52 K hr  x1 x2 x3_1 g0 _ _ _ hd hw (lv_sub hl [1, 2, 3, 0] rfl)
    · have hd := hd.2 h_4
      refine lv_iload_n K.1 K.2.1 dX8_feelsOf_17 rfl (lv_at hl 3 rfl) ?_
      refine lv_aload_n K.1 K.2.1 dX8_feelsOf_18 rfl (lv_at hl 1 rfl) ?_
      refine rm_get 10 K hw (by decide) kf_X8_29 rfl dX8_feelsOf_19 ?_
      refine lv_iconst (v := (5 : Int32)) K.1 K.2.1 dX8_feelsOf_22 (by decide) ?_
      refine lv_iload_n K.1 K.2.1 dX8_feelsOf_23 rfl (lv_at hl 2 rfl) ?_
      refine lv_imul K.1 K.2.1 dX8_feelsOf_24 ?_
      have hb := hd.1
      have hd := hd.2
      refine rm_iald 5 K hw (by decide) hb dX8_feelsOf_25 ?_
      refine lv_bipush (v := (8 : Int32)) K.1 K.2.1 dX8_feelsOf_26 (by decide) ?_
      refine lv_irem K.1 K.2.1 dX8_feelsOf_28 (by decide) ?_
      refine lv_icmp_ne (tgt := 52) K.1 K.2.1 dX8_feelsOf_29 (by decide) (fun h_13 => ?_) (fun h_13 => ?_)
      · have hd := hd.1 h_13
        exact bb_X8_feelsOf_52 K hr  x1 x2 x3_1 g0 _ _ _ hd hw (lv_sub hl [1, 2, 3, 0] rfl)
      · have hd := hd.2 h_13
        exact bb_X8_feelsOf_32 K hr  x1 x3_1 g0 _ _ _ hd hw (lv_sub hl [1, 2, 0] rfl)
theorem dX8_isWhole_0 : decode cX8_isWhole 0 = .ok (.aload_n 0, 1) := by decide +kernel
theorem dX8_isWhole_1 : decode cX8_isWhole 1 = .ok (.getfield 29, 3) := by decide +kernel
theorem dX8_isWhole_4 : decode cX8_isWhole 4 = .ok (.iconst 5, 1) := by decide +kernel
theorem dX8_isWhole_5 : decode cX8_isWhole 5 = .ok (.iload_n 1, 1) := by decide +kernel
theorem dX8_isWhole_6 : decode cX8_isWhole 6 = .ok (.imul, 1) := by decide +kernel
theorem dX8_isWhole_7 : decode cX8_isWhole 7 = .ok (.iconst 4, 1) := by decide +kernel
theorem dX8_isWhole_8 : decode cX8_isWhole 8 = .ok (.iadd, 1) := by decide +kernel
theorem dX8_isWhole_9 : decode cX8_isWhole 9 = .ok (.iaload, 1) := by decide +kernel
theorem dX8_isWhole_10 : decode cX8_isWhole 10 = .ok (.ifCond .ne 7, 3) := by decide +kernel
theorem dX8_isWhole_13 : decode cX8_isWhole 13 = .ok (.iconst 1, 1) := by decide +kernel
theorem dX8_isWhole_14 : decode cX8_isWhole 14 = .ok (.goto 4, 3) := by decide +kernel
theorem dX8_isWhole_17 : decode cX8_isWhole 17 = .ok (.iconst 0, 1) := by decide +kernel
theorem dX8_isWhole_18 : decode cX8_isWhole 18 = .ok (.ireturn, 1) := by decide +kernel
set_option maxHeartbeats 4000000 in
set_option maxRecDepth 100000 in
theorem cc_X8_isWhole (l : Launch) (D : va_G) (cy : Nat → ClassId) (ad : Nat → Nat) (A : Nat → Prop) (g0 : Sg) (Q : Int32 → Sg → Prop) (x1 : Int32) (hd : vv_X8_isWhole x1 g0 Q) : Met l yX8_isWhole (Cond.code yX8_isWhole cX8_isWhole 2 (some .boolean) :: TT) (rmD 0) (va_Pc [.ref (ad 0), .int x1] (PreG (wsM cy ad) D cy A g0)) (va_Qi Q (PostG (wsM cy ad) D A) A) 0 0 A := by
  unfold vv_X8_isWhole at hd
  refine Met.ofW (cc := cX8_isWhole) (maxL := 2) (ret := (some .boolean)) (by decide) rfl ?_
  intro p e s m args below meth c s₁ B hml hv
  obtain ⟨rfl, hP, hK0, hD⟩ := hv
  have K : Kx p s m _ meth c cX8_isWhole 2 RX8 D cy := ⟨B.exec, B.bytes, hml, findClass_of_methodNamed B.named, fun w h => atoms_spec (ws := Cond.code yX8_isWhole cX8_isWhole 2 (some .boolean) :: TT) B.pre w (List.mem_cons_of_mem _ h), hK0, B.notSynchronized⟩
  have hw : Wd D A s.heap (wsM cy ad g0) s.heap [] := ⟨hP, hD, va_S.rf⟩
  have hr := B.returns
  have hl := lv_entry ([.ref (ad 0), .int x1]) (n := 2) (Nat.le_of_ble_eq_true rfl)
  rw [lg_entry_eq]
  generalize (lg_sl ([.ref (ad 0), .int x1]) ++ List.replicate (2 - (lg_sl ([.ref (ad 0), .int x1])).length) Slot.unset).toArray = ls at hl ⊢
  have hl : lv_has ls 2 [(0, .ref (ad 0)), (1, .int x1)] := hl
  refine lv_aload_n K.1 K.2.1 dX8_isWhole_0 rfl (lv_at hl 0 rfl) ?_
  refine rm_get 10 K hw (by decide) kf_X8_29 rfl dX8_isWhole_1 ?_
  refine lv_iconst (v := (5 : Int32)) K.1 K.2.1 dX8_isWhole_4 (by decide) ?_
  refine lv_iload_n K.1 K.2.1 dX8_isWhole_5 rfl (lv_at hl 1 rfl) ?_
  refine lv_imul K.1 K.2.1 dX8_isWhole_6 ?_
  refine lv_iconst (v := (4 : Int32)) K.1 K.2.1 dX8_isWhole_7 (by decide) ?_
  refine lv_iadd K.1 K.2.1 dX8_isWhole_8 ?_
  have hb := hd.1
  have hd := hd.2
  refine rm_iald 5 K hw (by decide) hb dX8_isWhole_9 ?_
  refine lv_if_ne (tgt := 17) K.1 K.2.1 dX8_isWhole_10 (by decide) (fun h_1 => ?_) (fun h_1 => ?_)
  · have hd := hd.1 h_1
    refine lv_iconst (v := (0 : Int32)) K.1 K.2.1 dX8_isWhole_17 (by decide) ?_
    exact rk_zret K hw hr (by decide) hd dX8_isWhole_18
  · have hd := hd.2 h_1
    refine lv_iconst (v := (1 : Int32)) K.1 K.2.1 dX8_isWhole_13 (by decide) ?_
    refine lv_goto (tgt := 18) K.1 K.2.1 dX8_isWhole_14 (by decide) ?_
    exact rk_zret K hw hr (by decide) hd dX8_isWhole_18
theorem dX8_voteOf_0 : decode cX8_voteOf 0 = .ok (.aload_n 0, 1) := by decide +kernel
theorem dX8_voteOf_1 : decode cX8_voteOf 1 = .ok (.iload_n 1, 1) := by decide +kernel
theorem dX8_voteOf_2 : decode cX8_voteOf 2 = .ok (.iload_n 2, 1) := by decide +kernel
theorem dX8_voteOf_3 : decode cX8_voteOf 3 = .ok (.invokevirtual 112, 3) := by decide +kernel
theorem dX8_voteOf_6 : decode cX8_voteOf 6 = .ok (.istore_n 3, 1) := by decide +kernel
theorem dX8_voteOf_7 : decode cX8_voteOf 7 = .ok (.iload_n 3, 1) := by decide +kernel
theorem dX8_voteOf_8 : decode cX8_voteOf 8 = .ok (.ifCond .le 7, 3) := by decide +kernel
theorem dX8_voteOf_11 : decode cX8_voteOf 11 = .ok (.iconst 1, 1) := by decide +kernel
theorem dX8_voteOf_12 : decode cX8_voteOf 12 = .ok (.goto 12, 3) := by decide +kernel
theorem dX8_voteOf_15 : decode cX8_voteOf 15 = .ok (.iload_n 3, 1) := by decide +kernel
theorem dX8_voteOf_16 : decode cX8_voteOf 16 = .ok (.ifCond .ge 7, 3) := by decide +kernel
theorem dX8_voteOf_19 : decode cX8_voteOf 19 = .ok (.iconst (-1), 1) := by decide +kernel
theorem dX8_voteOf_20 : decode cX8_voteOf 20 = .ok (.goto 4, 3) := by decide +kernel
theorem dX8_voteOf_23 : decode cX8_voteOf 23 = .ok (.iconst 0, 1) := by decide +kernel
theorem dX8_voteOf_24 : decode cX8_voteOf 24 = .ok (.ireturn, 1) := by decide +kernel
set_option maxHeartbeats 4000000 in
set_option maxRecDepth 100000 in
theorem cc_X8_voteOf (l : Launch) (D : va_G) (cy : Nat → ClassId) (ad : Nat → Nat) (A : Nat → Prop) (g0 : Sg) (Q : Int32 → Sg → Prop) (x1 : Int32) (x2 : Int32) (hd : vv_X8_voteOf x1 x2 g0 Q) : Met l yX8_voteOf (Cond.code yX8_voteOf cX8_voteOf 4 (some .int) :: TT) (rmD 44) (va_Pc [.ref (ad 0), .int x1, .int x2] (PreG (wsM cy ad) D cy A g0)) (va_Qi Q (PostG (wsM cy ad) D A) A) 0 0 A := by
  unfold vv_X8_voteOf at hd
  refine Met.ofW (cc := cX8_voteOf) (maxL := 4) (ret := (some .int)) (by decide) rfl ?_
  intro p e s m args below meth c s₁ B hml hv
  obtain ⟨rfl, hP, hK0, hD⟩ := hv
  have K : Kx p s m _ meth c cX8_voteOf 4 RX8 D cy := ⟨B.exec, B.bytes, hml, findClass_of_methodNamed B.named, fun w h => atoms_spec (ws := Cond.code yX8_voteOf cX8_voteOf 4 (some .int) :: TT) B.pre w (List.mem_cons_of_mem _ h), hK0, B.notSynchronized⟩
  have hw : Wd D A s.heap (wsM cy ad g0) s.heap [] := ⟨hP, hD, va_S.rf⟩
  have hr := B.returns
  have hl := lv_entry ([.ref (ad 0), .int x1, .int x2]) (n := 4) (Nat.le_of_ble_eq_true rfl)
  rw [lg_entry_eq]
  generalize (lg_sl ([.ref (ad 0), .int x1, .int x2]) ++ List.replicate (4 - (lg_sl ([.ref (ad 0), .int x1, .int x2])).length) Slot.unset).toArray = ls at hl ⊢
  have hl : lv_has ls 4 [(0, .ref (ad 0)), (1, .int x1), (2, .int x2)] := hl
  refine lv_aload_n K.1 K.2.1 dX8_voteOf_0 rfl (lv_at hl 0 rfl) ?_
  refine lv_iload_n K.1 K.2.1 dX8_voteOf_1 rfl (lv_at hl 1 rfl) ?_
  refine lv_iload_n K.1 K.2.1 dX8_voteOf_2 rfl (lv_at hl 2 rfl) ?_
  refine rk_vi (As := [.int x1, .int x2]) (rest := []) K hw (cc_X8_feelsOf l D cy ad A g0 _ x1 x2 hd) lk_X8_112 (ci := 8) rfl (q0 := 0) (wsM_at cy ad _ (by decide)) ⟨Nat.le_of_ble_eq_true rfl, Nat.le_of_ble_eq_true rfl⟩ ⟨Nat.zero_le _, Nat.zero_le _⟩ rfl hl.1 (Nat.le_of_ble_eq_true rfl) rfl dX8_voteOf_3 (fun r_2 g_1 H locs hd hw => ?_)
  refine lv_topi (fun x3_3 ex3_3 => ?_)
  have hd := hd x3_3 ex3_3
  refine lv_istore_n (lv' := [(3, .int x3_3), (0, .ref (ad 0)), (1, .int x1), (2, .int x2)]) K.1 K.2.1 dX8_voteOf_6 rfl hl (by decide) rfl (fun ls hl => ?_)
  refine lv_iload_n K.1 K.2.1 dX8_voteOf_7 rfl (lv_at hl 0 rfl) ?_
  refine lv_if_le (tgt := 15) K.1 K.2.1 dX8_voteOf_8 (by decide) (fun h_4 => ?_) (fun h_4 => ?_)
  · have hd := hd.1 h_4
    refine lv_iload_n K.1 K.2.1 dX8_voteOf_15 rfl (lv_at hl 0 rfl) ?_
    refine lv_if_ge (tgt := 23) K.1 K.2.1 dX8_voteOf_16 (by decide) (fun h_5 => ?_) (fun h_5 => ?_)
    · have hd := hd.1 h_5
      refine lv_iconst (v := (0 : Int32)) K.1 K.2.1 dX8_voteOf_23 (by decide) ?_
      exact rk_iret K hw hr hd dX8_voteOf_24
    · have hd := hd.2 h_5
      refine lv_iconst (v := (-1 : Int32)) K.1 K.2.1 dX8_voteOf_19 (by decide) ?_
      refine lv_goto (tgt := 24) K.1 K.2.1 dX8_voteOf_20 (by decide) ?_
      exact rk_iret K hw hr hd dX8_voteOf_24
  · have hd := hd.2 h_4
    refine lv_iconst (v := (1 : Int32)) K.1 K.2.1 dX8_voteOf_11 (by decide) ?_
    refine lv_goto (tgt := 24) K.1 K.2.1 dX8_voteOf_12 (by decide) ?_
    exact rk_iret K hw hr hd dX8_voteOf_24
theorem dX8_weighsOf_0 : decode cX8_weighsOf 0 = .ok (.aload_n 0, 1) := by decide +kernel
theorem dX8_weighsOf_1 : decode cX8_weighsOf 1 = .ok (.getfield 26, 3) := by decide +kernel
theorem dX8_weighsOf_4 : decode cX8_weighsOf 4 = .ok (.iload_n 1, 1) := by decide +kernel
theorem dX8_weighsOf_5 : decode cX8_weighsOf 5 = .ok (.iaload, 1) := by decide +kernel
theorem dX8_weighsOf_6 : decode cX8_weighsOf 6 = .ok (.istore_n 2, 1) := by decide +kernel
theorem dX8_weighsOf_7 : decode cX8_weighsOf 7 = .ok (.iload_n 2, 1) := by decide +kernel
theorem dX8_weighsOf_8 : decode cX8_weighsOf 8 = .ok (.iconst 5, 1) := by decide +kernel
theorem dX8_weighsOf_9 : decode cX8_weighsOf 9 = .ok (.if_icmp .ne 5, 3) := by decide +kernel
theorem dX8_weighsOf_12 : decode cX8_weighsOf 12 = .ok (.iconst 3, 1) := by decide +kernel
theorem dX8_weighsOf_13 : decode cX8_weighsOf 13 = .ok (.ireturn, 1) := by decide +kernel
theorem dX8_weighsOf_14 : decode cX8_weighsOf 14 = .ok (.aload_n 0, 1) := by decide +kernel
theorem dX8_weighsOf_15 : decode cX8_weighsOf 15 = .ok (.iconst 1, 1) := by decide +kernel
theorem dX8_weighsOf_16 : decode cX8_weighsOf 16 = .ok (.iload_n 1, 1) := by decide +kernel
theorem dX8_weighsOf_17 : decode cX8_weighsOf 17 = .ok (.iconst 0, 1) := by decide +kernel
theorem dX8_weighsOf_18 : decode cX8_weighsOf 18 = .ok (.invokevirtual 340, 3) := by decide +kernel
theorem dX8_weighsOf_21 : decode cX8_weighsOf 21 = .ok (.istore_n 3, 1) := by decide +kernel
theorem dX8_weighsOf_22 : decode cX8_weighsOf 22 = .ok (.iload_n 2, 1) := by decide +kernel
theorem dX8_weighsOf_23 : decode cX8_weighsOf 23 = .ok (.iconst 1, 1) := by decide +kernel
theorem dX8_weighsOf_24 : decode cX8_weighsOf 24 = .ok (.if_icmp .eq 8, 3) := by decide +kernel
theorem dX8_weighsOf_27 : decode cX8_weighsOf 27 = .ok (.iload_n 2, 1) := by decide +kernel
theorem dX8_weighsOf_28 : decode cX8_weighsOf 28 = .ok (.iconst 3, 1) := by decide +kernel
theorem dX8_weighsOf_29 : decode cX8_weighsOf 29 = .ok (.if_icmp .ne 16, 3) := by decide +kernel
theorem dX8_weighsOf_32 : decode cX8_weighsOf 32 = .ok (.iload_n 3, 1) := by decide +kernel
theorem dX8_weighsOf_33 : decode cX8_weighsOf 33 = .ok (.aload_n 0, 1) := by decide +kernel
theorem dX8_weighsOf_34 : decode cX8_weighsOf 34 = .ok (.getfield 29, 3) := by decide +kernel
theorem dX8_weighsOf_37 : decode cX8_weighsOf 37 = .ok (.iconst 5, 1) := by decide +kernel
theorem dX8_weighsOf_38 : decode cX8_weighsOf 38 = .ok (.iload_n 1, 1) := by decide +kernel
theorem dX8_weighsOf_39 : decode cX8_weighsOf 39 = .ok (.imul, 1) := by decide +kernel
theorem dX8_weighsOf_40 : decode cX8_weighsOf 40 = .ok (.iaload, 1) := by decide +kernel
theorem dX8_weighsOf_41 : decode cX8_weighsOf 41 = .ok (.iadd, 1) := by decide +kernel
theorem dX8_weighsOf_42 : decode cX8_weighsOf 42 = .ok (.goto 28, 3) := by decide +kernel
theorem dX8_weighsOf_45 : decode cX8_weighsOf 45 = .ok (.iload_n 2, 1) := by decide +kernel
theorem dX8_weighsOf_46 : decode cX8_weighsOf 46 = .ok (.iconst 2, 1) := by decide +kernel
theorem dX8_weighsOf_47 : decode cX8_weighsOf 47 = .ok (.if_icmp .ne 9, 3) := by decide +kernel
theorem dX8_weighsOf_50 : decode cX8_weighsOf 50 = .ok (.iload_n 3, 1) := by decide +kernel
theorem dX8_weighsOf_51 : decode cX8_weighsOf 51 = .ok (.iconst 2, 1) := by decide +kernel
theorem dX8_weighsOf_52 : decode cX8_weighsOf 52 = .ok (.idiv, 1) := by decide +kernel
theorem dX8_weighsOf_53 : decode cX8_weighsOf 53 = .ok (.goto 17, 3) := by decide +kernel
theorem dX8_weighsOf_56 : decode cX8_weighsOf 56 = .ok (.iload_n 2, 1) := by decide +kernel
theorem dX8_weighsOf_57 : decode cX8_weighsOf 57 = .ok (.iconst 4, 1) := by decide +kernel
theorem dX8_weighsOf_58 : decode cX8_weighsOf 58 = .ok (.if_icmp .ne 11, 3) := by decide +kernel
theorem dX8_weighsOf_61 : decode cX8_weighsOf 61 = .ok (.iload_n 3, 1) := by decide +kernel
theorem dX8_weighsOf_62 : decode cX8_weighsOf 62 = .ok (.iconst 2, 1) := by decide +kernel
theorem dX8_weighsOf_63 : decode cX8_weighsOf 63 = .ok (.idiv, 1) := by decide +kernel
theorem dX8_weighsOf_64 : decode cX8_weighsOf 64 = .ok (.iconst 1, 1) := by decide +kernel
theorem dX8_weighsOf_65 : decode cX8_weighsOf 65 = .ok (.iadd, 1) := by decide +kernel
theorem dX8_weighsOf_66 : decode cX8_weighsOf 66 = .ok (.goto 4, 3) := by decide +kernel
theorem dX8_weighsOf_69 : decode cX8_weighsOf 69 = .ok (.iload_n 3, 1) := by decide +kernel
theorem dX8_weighsOf_70 : decode cX8_weighsOf 70 = .ok (.istore 4, 2) := by decide +kernel
theorem dX8_weighsOf_72 : decode cX8_weighsOf 72 = .ok (.iload 4, 2) := by decide +kernel
theorem dX8_weighsOf_74 : decode cX8_weighsOf 74 = .ok (.iconst 0, 1) := by decide +kernel
theorem dX8_weighsOf_75 : decode cX8_weighsOf 75 = .ok (.bipush 99, 2) := by decide +kernel
theorem dX8_weighsOf_77 : decode cX8_weighsOf 77 = .ok (.invokestatic 336, 3) := by decide +kernel
theorem dX8_weighsOf_80 : decode cX8_weighsOf 80 = .ok (.ireturn, 1) := by decide +kernel
set_option maxHeartbeats 4000000 in
set_option maxRecDepth 100000 in
theorem bb_X8_weighsOf_70 {p : Program} {l : Launch} {e : Env} {s : State} {m : MethodId} {args : Array Value} {below : List Frame} {meth : Method} {c : Code} {D : va_G} {cy : Nat → ClassId} {ad : Nat → Nat} {A : Nat → Prop} {Q : Int32 → Sg → Prop} (K : Kx p s m args meth c cX8_weighsOf 5 RX8 D cy) (hr : meth.sig.returnType = (some .int))  (t0 : Int32) (g0 : Sg) (H : Heap) (locs : List Loc) (ls : Array Slot) (hd : vv_X8_weighsOf_J70 t0 g0 Q) (hw : Wd D A s.heap (wsM cy ad g0) H locs) (hl : lv_has ls 5 []) : W p l e (rmD 43) s m args below meth c H locs 0 0 (MQ below (va_Qi Q (PostG (wsM cy ad) D A) A) args s 0 0 A) (F0 m 70 ls [.int t0]) := by
  unfold vv_X8_weighsOf_J70 at hd
  refine lv_topi (fun x4_7 ex4_7 => ?_)
  have hd := hd x4_7 ex4_7
  refine lv_istore (lv' := [(4, .int x4_7)]) K.1 K.2.1 dX8_weighsOf_70 hl (by decide) rfl (fun ls hl => ?_)
  refine lv_iload K.1 K.2.1 dX8_weighsOf_72 (lv_at hl 0 rfl) ?_
  refine lv_iconst (v := (0 : Int32)) K.1 K.2.1 dX8_weighsOf_74 (by decide) ?_
  refine lv_bipush (v := (99 : Int32)) K.1 K.2.1 dX8_weighsOf_75 (by decide) ?_
  refine rk_si (As := [.int x4_7, .int (0 : Int32), .int (99 : Int32)]) (rest := []) K hw (cc_X8_within l D cy ad A g0 _ x4_7 (0 : Int32) (99 : Int32) hd) lk_X8_336 ⟨Nat.le_of_ble_eq_true rfl, Nat.le_of_ble_eq_true rfl⟩ ⟨Nat.zero_le _, Nat.zero_le _⟩ rfl hl.1 (Nat.le_of_ble_eq_true rfl) rfl dX8_weighsOf_77 (fun r_9 g_8 H locs hd hw => ?_)
  exact rk_iret K hw hr hd dX8_weighsOf_80
set_option maxHeartbeats 4000000 in
set_option maxRecDepth 100000 in
theorem bb_X8_weighsOf_32 {p : Program} {l : Launch} {e : Env} {s : State} {m : MethodId} {args : Array Value} {below : List Frame} {meth : Method} {c : Code} {D : va_G} {cy : Nat → ClassId} {ad : Nat → Nat} {A : Nat → Prop} {Q : Int32 → Sg → Prop} (K : Kx p s m args meth c cX8_weighsOf 5 RX8 D cy) (hr : meth.sig.returnType = (some .int)) (x1 : Int32) (x3 : Int32)  (g0 : Sg) (H : Heap) (locs : List Loc) (ls : Array Slot) (hd : vv_X8_weighsOf_J32 x1 x3 g0 Q) (hw : Wd D A s.heap (wsM cy ad g0) H locs) (hl : lv_has ls 5 [(0, .ref (ad 0)), (1, .int x1), (3, .int x3)]) : W p l e (rmD 43) s m args below meth c H locs 0 0 (MQ below (va_Qi Q (PostG (wsM cy ad) D A) A) args s 0 0 A) (F0 m 32 ls []) := by
  unfold vv_X8_weighsOf_J32 at hd
  refine lv_iload_n K.1 K.2.1 dX8_weighsOf_32 rfl (lv_at hl 2 rfl) ?_
  refine lv_aload_n K.1 K.2.1 dX8_weighsOf_33 rfl (lv_at hl 0 rfl) ?_
  refine rm_get 10 K hw (by decide) kf_X8_29 rfl dX8_weighsOf_34 ?_
  refine lv_iconst (v := (5 : Int32)) K.1 K.2.1 dX8_weighsOf_37 (by decide) ?_
  refine lv_iload_n K.1 K.2.1 dX8_weighsOf_38 rfl (lv_at hl 1 rfl) ?_
  refine lv_imul K.1 K.2.1 dX8_weighsOf_39 ?_
  have hb := hd.1
  have hd := hd.2
  refine rm_iald 5 K hw (by decide) hb dX8_weighsOf_40 ?_
  refine lv_iadd K.1 K.2.1 dX8_weighsOf_41 ?_
  refine lv_goto (tgt := 70) K.1 K.2.1 dX8_weighsOf_42 (by decide) ?_
  exact bb_X8_weighsOf_70 K hr  (x3 + (g0 5 ((5 : Int32) * x1).toNatClampNeg)) g0 _ _ _ hd hw (lv_sub hl [] rfl)
set_option maxHeartbeats 4000000 in
set_option maxRecDepth 100000 in
theorem cc_X8_weighsOf (l : Launch) (D : va_G) (cy : Nat → ClassId) (ad : Nat → Nat) (A : Nat → Prop) (g0 : Sg) (Q : Int32 → Sg → Prop) (x1 : Int32) (hd : vv_X8_weighsOf x1 g0 Q) : Met l yX8_weighsOf (Cond.code yX8_weighsOf cX8_weighsOf 5 (some .int) :: TT) (rmD 43) (va_Pc [.ref (ad 0), .int x1] (PreG (wsM cy ad) D cy A g0)) (va_Qi Q (PostG (wsM cy ad) D A) A) 0 0 A := by
  unfold vv_X8_weighsOf at hd
  refine Met.ofW (cc := cX8_weighsOf) (maxL := 5) (ret := (some .int)) (by decide) rfl ?_
  intro p e s m args below meth c s₁ B hml hv
  obtain ⟨rfl, hP, hK0, hD⟩ := hv
  have K : Kx p s m _ meth c cX8_weighsOf 5 RX8 D cy := ⟨B.exec, B.bytes, hml, findClass_of_methodNamed B.named, fun w h => atoms_spec (ws := Cond.code yX8_weighsOf cX8_weighsOf 5 (some .int) :: TT) B.pre w (List.mem_cons_of_mem _ h), hK0, B.notSynchronized⟩
  have hw : Wd D A s.heap (wsM cy ad g0) s.heap [] := ⟨hP, hD, va_S.rf⟩
  have hr := B.returns
  have hl := lv_entry ([.ref (ad 0), .int x1]) (n := 5) (Nat.le_of_ble_eq_true rfl)
  rw [lg_entry_eq]
  generalize (lg_sl ([.ref (ad 0), .int x1]) ++ List.replicate (5 - (lg_sl ([.ref (ad 0), .int x1])).length) Slot.unset).toArray = ls at hl ⊢
  have hl : lv_has ls 5 [(0, .ref (ad 0)), (1, .int x1)] := hl
  refine lv_aload_n K.1 K.2.1 dX8_weighsOf_0 rfl (lv_at hl 0 rfl) ?_
  refine rm_get 9 K hw (by decide) kf_X8_26 rfl dX8_weighsOf_1 ?_
  refine lv_iload_n K.1 K.2.1 dX8_weighsOf_4 rfl (lv_at hl 1 rfl) ?_
  have hb := hd.1
  have hd := hd.2
  refine rm_iald 4 K hw (by decide) hb dX8_weighsOf_5 ?_
  refine lv_topi (fun x2_1 ex2_1 => ?_)
  have hd := hd x2_1 ex2_1
  refine lv_istore_n (lv' := [(2, .int x2_1), (0, .ref (ad 0)), (1, .int x1)]) K.1 K.2.1 dX8_weighsOf_6 rfl hl (by decide) rfl (fun ls hl => ?_)
  refine lv_iload_n K.1 K.2.1 dX8_weighsOf_7 rfl (lv_at hl 0 rfl) ?_
  refine lv_iconst (v := (5 : Int32)) K.1 K.2.1 dX8_weighsOf_8 (by decide) ?_
  refine lv_icmp_ne (tgt := 14) K.1 K.2.1 dX8_weighsOf_9 (by decide) (fun h_2 => ?_) (fun h_2 => ?_)
  · have hd := hd.1 h_2
    refine lv_aload_n K.1 K.2.1 dX8_weighsOf_14 rfl (lv_at hl 1 rfl) ?_
    refine lv_iconst (v := (1 : Int32)) K.1 K.2.1 dX8_weighsOf_15 (by decide) ?_
    refine lv_iload_n K.1 K.2.1 dX8_weighsOf_16 rfl (lv_at hl 2 rfl) ?_
    refine lv_iconst (v := (0 : Int32)) K.1 K.2.1 dX8_weighsOf_17 (by decide) ?_
    refine rk_vi (As := [.int (1 : Int32), .int x1, .int (0 : Int32)]) (rest := []) K hw (cc_X8_says l D cy ad A g0 _ (1 : Int32) x1 (0 : Int32) hd) lk_X8_340 (ci := 8) rfl (q0 := 0) (wsM_at cy ad _ (by decide)) ⟨Nat.le_of_ble_eq_true rfl, Nat.le_of_ble_eq_true rfl⟩ ⟨Nat.zero_le _, Nat.zero_le _⟩ rfl hl.1 (Nat.le_of_ble_eq_true rfl) rfl dX8_weighsOf_18 (fun r_4 g_3 H locs hd hw => ?_)
    refine lv_topi (fun x3_5 ex3_5 => ?_)
    have hd := hd x3_5 ex3_5
    refine lv_istore_n (lv' := [(3, .int x3_5), (2, .int x2_1), (0, .ref (ad 0)), (1, .int x1)]) K.1 K.2.1 dX8_weighsOf_21 rfl hl (by decide) rfl (fun ls hl => ?_)
    refine lv_iload_n K.1 K.2.1 dX8_weighsOf_22 rfl (lv_at hl 1 rfl) ?_
    refine lv_iconst (v := (1 : Int32)) K.1 K.2.1 dX8_weighsOf_23 (by decide) ?_
    refine lv_icmp_eq (tgt := 32) K.1 K.2.1 dX8_weighsOf_24 (by decide) (fun h_6 => ?_) (fun h_6 => ?_)
    · have hd := hd.1 h_6
      exact bb_X8_weighsOf_32 K hr  x1 x3_5 g_3 _ _ _ hd hw (lv_sub hl [2, 3, 0] rfl)
    · have hd := hd.2 h_6
      refine lv_iload_n K.1 K.2.1 dX8_weighsOf_27 rfl (lv_at hl 1 rfl) ?_
      refine lv_iconst (v := (3 : Int32)) K.1 K.2.1 dX8_weighsOf_28 (by decide) ?_
      refine lv_icmp_ne (tgt := 45) K.1 K.2.1 dX8_weighsOf_29 (by decide) (fun h_10 => ?_) (fun h_10 => ?_)
      · have hd := hd.1 h_10
        refine lv_iload_n K.1 K.2.1 dX8_weighsOf_45 rfl (lv_at hl 1 rfl) ?_
        refine lv_iconst (v := (2 : Int32)) K.1 K.2.1 dX8_weighsOf_46 (by decide) ?_
        refine lv_icmp_ne (tgt := 56) K.1 K.2.1 dX8_weighsOf_47 (by decide) (fun h_11 => ?_) (fun h_11 => ?_)
        · have hd := hd.1 h_11
          refine lv_iload_n K.1 K.2.1 dX8_weighsOf_56 rfl (lv_at hl 1 rfl) ?_
          refine lv_iconst (v := (4 : Int32)) K.1 K.2.1 dX8_weighsOf_57 (by decide) ?_
          refine lv_icmp_ne (tgt := 69) K.1 K.2.1 dX8_weighsOf_58 (by decide) (fun h_12 => ?_) (fun h_12 => ?_)
          · have hd := hd.1 h_12
            refine lv_iload_n K.1 K.2.1 dX8_weighsOf_69 rfl (lv_at hl 0 rfl) ?_
            exact bb_X8_weighsOf_70 K hr  x3_5 g_3 _ _ _ hd hw (lv_sub hl [] rfl)
          · have hd := hd.2 h_12
            refine lv_iload_n K.1 K.2.1 dX8_weighsOf_61 rfl (lv_at hl 0 rfl) ?_
            refine lv_iconst (v := (2 : Int32)) K.1 K.2.1 dX8_weighsOf_62 (by decide) ?_
            refine lv_idiv K.1 K.2.1 dX8_weighsOf_63 (by decide) ?_
            refine lv_iconst (v := (1 : Int32)) K.1 K.2.1 dX8_weighsOf_64 (by decide) ?_
            refine lv_iadd K.1 K.2.1 dX8_weighsOf_65 ?_
            refine lv_goto (tgt := 70) K.1 K.2.1 dX8_weighsOf_66 (by decide) ?_
            exact bb_X8_weighsOf_70 K hr  ((x3_5 / (2 : Int32)) + (1 : Int32)) g_3 _ _ _ hd hw (lv_sub hl [] rfl)
        · have hd := hd.2 h_11
          refine lv_iload_n K.1 K.2.1 dX8_weighsOf_50 rfl (lv_at hl 0 rfl) ?_
          refine lv_iconst (v := (2 : Int32)) K.1 K.2.1 dX8_weighsOf_51 (by decide) ?_
          refine lv_idiv K.1 K.2.1 dX8_weighsOf_52 (by decide) ?_
          refine lv_goto (tgt := 70) K.1 K.2.1 dX8_weighsOf_53 (by decide) ?_
          exact bb_X8_weighsOf_70 K hr  (x3_5 / (2 : Int32)) g_3 _ _ _ hd hw (lv_sub hl [] rfl)
      · have hd := hd.2 h_10
        exact bb_X8_weighsOf_32 K hr  x1 x3_5 g_3 _ _ _ hd hw (lv_sub hl [2, 3, 0] rfl)
  · have hd := hd.2 h_2
    refine lv_iconst (v := (3 : Int32)) K.1 K.2.1 dX8_weighsOf_12 (by decide) ?_
    exact rk_iret K hw hr hd dX8_weighsOf_13
theorem dX8_smoothsOf_0 : decode cX8_smoothsOf 0 = .ok (.aload_n 0, 1) := by decide +kernel
theorem dX8_smoothsOf_1 : decode cX8_smoothsOf 1 = .ok (.getfield 26, 3) := by decide +kernel
theorem dX8_smoothsOf_4 : decode cX8_smoothsOf 4 = .ok (.iload_n 1, 1) := by decide +kernel
theorem dX8_smoothsOf_5 : decode cX8_smoothsOf 5 = .ok (.iaload, 1) := by decide +kernel
theorem dX8_smoothsOf_6 : decode cX8_smoothsOf 6 = .ok (.istore_n 2, 1) := by decide +kernel
theorem dX8_smoothsOf_7 : decode cX8_smoothsOf 7 = .ok (.iload_n 2, 1) := by decide +kernel
theorem dX8_smoothsOf_8 : decode cX8_smoothsOf 8 = .ok (.iconst 5, 1) := by decide +kernel
theorem dX8_smoothsOf_9 : decode cX8_smoothsOf 9 = .ok (.if_icmp .ne 5, 3) := by decide +kernel
theorem dX8_smoothsOf_12 : decode cX8_smoothsOf 12 = .ok (.iconst 0, 1) := by decide +kernel
theorem dX8_smoothsOf_13 : decode cX8_smoothsOf 13 = .ok (.ireturn, 1) := by decide +kernel
theorem dX8_smoothsOf_14 : decode cX8_smoothsOf 14 = .ok (.aload_n 0, 1) := by decide +kernel
theorem dX8_smoothsOf_15 : decode cX8_smoothsOf 15 = .ok (.iconst 2, 1) := by decide +kernel
theorem dX8_smoothsOf_16 : decode cX8_smoothsOf 16 = .ok (.iload_n 1, 1) := by decide +kernel
theorem dX8_smoothsOf_17 : decode cX8_smoothsOf 17 = .ok (.iconst 0, 1) := by decide +kernel
theorem dX8_smoothsOf_18 : decode cX8_smoothsOf 18 = .ok (.invokevirtual 340, 3) := by decide +kernel
theorem dX8_smoothsOf_21 : decode cX8_smoothsOf 21 = .ok (.istore_n 3, 1) := by decide +kernel
theorem dX8_smoothsOf_22 : decode cX8_smoothsOf 22 = .ok (.iload_n 2, 1) := by decide +kernel
theorem dX8_smoothsOf_23 : decode cX8_smoothsOf 23 = .ok (.iconst 2, 1) := by decide +kernel
theorem dX8_smoothsOf_24 : decode cX8_smoothsOf 24 = .ok (.if_icmp .eq 8, 3) := by decide +kernel
theorem dX8_smoothsOf_27 : decode cX8_smoothsOf 27 = .ok (.iload_n 2, 1) := by decide +kernel
theorem dX8_smoothsOf_28 : decode cX8_smoothsOf 28 = .ok (.iconst 4, 1) := by decide +kernel
theorem dX8_smoothsOf_29 : decode cX8_smoothsOf 29 = .ok (.if_icmp .ne 9, 3) := by decide +kernel
theorem dX8_smoothsOf_32 : decode cX8_smoothsOf 32 = .ok (.iconst 2, 1) := by decide +kernel
theorem dX8_smoothsOf_33 : decode cX8_smoothsOf 33 = .ok (.iload_n 3, 1) := by decide +kernel
theorem dX8_smoothsOf_34 : decode cX8_smoothsOf 34 = .ok (.imul, 1) := by decide +kernel
theorem dX8_smoothsOf_35 : decode cX8_smoothsOf 35 = .ok (.goto 22, 3) := by decide +kernel
theorem dX8_smoothsOf_38 : decode cX8_smoothsOf 38 = .ok (.iload_n 2, 1) := by decide +kernel
theorem dX8_smoothsOf_39 : decode cX8_smoothsOf 39 = .ok (.iconst 3, 1) := by decide +kernel
theorem dX8_smoothsOf_40 : decode cX8_smoothsOf 40 = .ok (.if_icmp .ne 16, 3) := by decide +kernel
theorem dX8_smoothsOf_43 : decode cX8_smoothsOf 43 = .ok (.iload_n 3, 1) := by decide +kernel
theorem dX8_smoothsOf_44 : decode cX8_smoothsOf 44 = .ok (.aload_n 0, 1) := by decide +kernel
theorem dX8_smoothsOf_45 : decode cX8_smoothsOf 45 = .ok (.getfield 29, 3) := by decide +kernel
theorem dX8_smoothsOf_48 : decode cX8_smoothsOf 48 = .ok (.iconst 5, 1) := by decide +kernel
theorem dX8_smoothsOf_49 : decode cX8_smoothsOf 49 = .ok (.iload_n 1, 1) := by decide +kernel
theorem dX8_smoothsOf_50 : decode cX8_smoothsOf 50 = .ok (.imul, 1) := by decide +kernel
theorem dX8_smoothsOf_51 : decode cX8_smoothsOf 51 = .ok (.iaload, 1) := by decide +kernel
theorem dX8_smoothsOf_52 : decode cX8_smoothsOf 52 = .ok (.iadd, 1) := by decide +kernel
theorem dX8_smoothsOf_53 : decode cX8_smoothsOf 53 = .ok (.goto 4, 3) := by decide +kernel
theorem dX8_smoothsOf_56 : decode cX8_smoothsOf 56 = .ok (.iload_n 3, 1) := by decide +kernel
theorem dX8_smoothsOf_57 : decode cX8_smoothsOf 57 = .ok (.iconst 0, 1) := by decide +kernel
theorem dX8_smoothsOf_58 : decode cX8_smoothsOf 58 = .ok (.bipush 99, 2) := by decide +kernel
theorem dX8_smoothsOf_60 : decode cX8_smoothsOf 60 = .ok (.invokestatic 336, 3) := by decide +kernel
theorem dX8_smoothsOf_63 : decode cX8_smoothsOf 63 = .ok (.ireturn, 1) := by decide +kernel
set_option maxHeartbeats 4000000 in
set_option maxRecDepth 100000 in
theorem bb_X8_smoothsOf_57 {p : Program} {l : Launch} {e : Env} {s : State} {m : MethodId} {args : Array Value} {below : List Frame} {meth : Method} {c : Code} {D : va_G} {cy : Nat → ClassId} {ad : Nat → Nat} {A : Nat → Prop} {Q : Int32 → Sg → Prop} (K : Kx p s m args meth c cX8_smoothsOf 4 RX8 D cy) (hr : meth.sig.returnType = (some .int))  (t0 : Int32) (g0 : Sg) (H : Heap) (locs : List Loc) (ls : Array Slot) (hd : vv_X8_smoothsOf_J57 t0 g0 Q) (hw : Wd D A s.heap (wsM cy ad g0) H locs) (hl : lv_has ls 4 []) : W p l e (rmD 43) s m args below meth c H locs 0 0 (MQ below (va_Qi Q (PostG (wsM cy ad) D A) A) args s 0 0 A) (F0 m 57 ls [.int t0]) := by
  unfold vv_X8_smoothsOf_J57 at hd
  refine lv_iconst (v := (0 : Int32)) K.1 K.2.1 dX8_smoothsOf_57 (by decide) ?_
  refine lv_bipush (v := (99 : Int32)) K.1 K.2.1 dX8_smoothsOf_58 (by decide) ?_
  refine rk_si (As := [.int t0, .int (0 : Int32), .int (99 : Int32)]) (rest := []) K hw (cc_X8_within l D cy ad A g0 _ t0 (0 : Int32) (99 : Int32) hd) lk_X8_336 ⟨Nat.le_of_ble_eq_true rfl, Nat.le_of_ble_eq_true rfl⟩ ⟨Nat.zero_le _, Nat.zero_le _⟩ rfl hl.1 (Nat.le_of_ble_eq_true rfl) rfl dX8_smoothsOf_60 (fun r_8 g_7 H locs hd hw => ?_)
  exact rk_iret K hw hr hd dX8_smoothsOf_63
set_option maxHeartbeats 4000000 in
set_option maxRecDepth 100000 in
theorem bb_X8_smoothsOf_32 {p : Program} {l : Launch} {e : Env} {s : State} {m : MethodId} {args : Array Value} {below : List Frame} {meth : Method} {c : Code} {D : va_G} {cy : Nat → ClassId} {ad : Nat → Nat} {A : Nat → Prop} {Q : Int32 → Sg → Prop} (K : Kx p s m args meth c cX8_smoothsOf 4 RX8 D cy) (hr : meth.sig.returnType = (some .int)) (x3 : Int32)  (g0 : Sg) (H : Heap) (locs : List Loc) (ls : Array Slot) (hd : vv_X8_smoothsOf_J32 x3 g0 Q) (hw : Wd D A s.heap (wsM cy ad g0) H locs) (hl : lv_has ls 4 [(3, .int x3)]) : W p l e (rmD 43) s m args below meth c H locs 0 0 (MQ below (va_Qi Q (PostG (wsM cy ad) D A) A) args s 0 0 A) (F0 m 32 ls []) := by
  unfold vv_X8_smoothsOf_J32 at hd
  refine lv_iconst (v := (2 : Int32)) K.1 K.2.1 dX8_smoothsOf_32 (by decide) ?_
  refine lv_iload_n K.1 K.2.1 dX8_smoothsOf_33 rfl (lv_at hl 0 rfl) ?_
  refine lv_imul K.1 K.2.1 dX8_smoothsOf_34 ?_
  refine lv_goto (tgt := 57) K.1 K.2.1 dX8_smoothsOf_35 (by decide) ?_
  exact bb_X8_smoothsOf_57 K hr  ((2 : Int32) * x3) g0 _ _ _ hd hw (lv_sub hl [] rfl)
set_option maxHeartbeats 4000000 in
set_option maxRecDepth 100000 in
theorem cc_X8_smoothsOf (l : Launch) (D : va_G) (cy : Nat → ClassId) (ad : Nat → Nat) (A : Nat → Prop) (g0 : Sg) (Q : Int32 → Sg → Prop) (x1 : Int32) (hd : vv_X8_smoothsOf x1 g0 Q) : Met l yX8_smoothsOf (Cond.code yX8_smoothsOf cX8_smoothsOf 4 (some .int) :: TT) (rmD 43) (va_Pc [.ref (ad 0), .int x1] (PreG (wsM cy ad) D cy A g0)) (va_Qi Q (PostG (wsM cy ad) D A) A) 0 0 A := by
  unfold vv_X8_smoothsOf at hd
  refine Met.ofW (cc := cX8_smoothsOf) (maxL := 4) (ret := (some .int)) (by decide) rfl ?_
  intro p e s m args below meth c s₁ B hml hv
  obtain ⟨rfl, hP, hK0, hD⟩ := hv
  have K : Kx p s m _ meth c cX8_smoothsOf 4 RX8 D cy := ⟨B.exec, B.bytes, hml, findClass_of_methodNamed B.named, fun w h => atoms_spec (ws := Cond.code yX8_smoothsOf cX8_smoothsOf 4 (some .int) :: TT) B.pre w (List.mem_cons_of_mem _ h), hK0, B.notSynchronized⟩
  have hw : Wd D A s.heap (wsM cy ad g0) s.heap [] := ⟨hP, hD, va_S.rf⟩
  have hr := B.returns
  have hl := lv_entry ([.ref (ad 0), .int x1]) (n := 4) (Nat.le_of_ble_eq_true rfl)
  rw [lg_entry_eq]
  generalize (lg_sl ([.ref (ad 0), .int x1]) ++ List.replicate (4 - (lg_sl ([.ref (ad 0), .int x1])).length) Slot.unset).toArray = ls at hl ⊢
  have hl : lv_has ls 4 [(0, .ref (ad 0)), (1, .int x1)] := hl
  refine lv_aload_n K.1 K.2.1 dX8_smoothsOf_0 rfl (lv_at hl 0 rfl) ?_
  refine rm_get 9 K hw (by decide) kf_X8_26 rfl dX8_smoothsOf_1 ?_
  refine lv_iload_n K.1 K.2.1 dX8_smoothsOf_4 rfl (lv_at hl 1 rfl) ?_
  have hb := hd.1
  have hd := hd.2
  refine rm_iald 4 K hw (by decide) hb dX8_smoothsOf_5 ?_
  refine lv_topi (fun x2_1 ex2_1 => ?_)
  have hd := hd x2_1 ex2_1
  refine lv_istore_n (lv' := [(2, .int x2_1), (0, .ref (ad 0)), (1, .int x1)]) K.1 K.2.1 dX8_smoothsOf_6 rfl hl (by decide) rfl (fun ls hl => ?_)
  refine lv_iload_n K.1 K.2.1 dX8_smoothsOf_7 rfl (lv_at hl 0 rfl) ?_
  refine lv_iconst (v := (5 : Int32)) K.1 K.2.1 dX8_smoothsOf_8 (by decide) ?_
  refine lv_icmp_ne (tgt := 14) K.1 K.2.1 dX8_smoothsOf_9 (by decide) (fun h_2 => ?_) (fun h_2 => ?_)
  · have hd := hd.1 h_2
    refine lv_aload_n K.1 K.2.1 dX8_smoothsOf_14 rfl (lv_at hl 1 rfl) ?_
    refine lv_iconst (v := (2 : Int32)) K.1 K.2.1 dX8_smoothsOf_15 (by decide) ?_
    refine lv_iload_n K.1 K.2.1 dX8_smoothsOf_16 rfl (lv_at hl 2 rfl) ?_
    refine lv_iconst (v := (0 : Int32)) K.1 K.2.1 dX8_smoothsOf_17 (by decide) ?_
    refine rk_vi (As := [.int (2 : Int32), .int x1, .int (0 : Int32)]) (rest := []) K hw (cc_X8_says l D cy ad A g0 _ (2 : Int32) x1 (0 : Int32) hd) lk_X8_340 (ci := 8) rfl (q0 := 0) (wsM_at cy ad _ (by decide)) ⟨Nat.le_of_ble_eq_true rfl, Nat.le_of_ble_eq_true rfl⟩ ⟨Nat.zero_le _, Nat.zero_le _⟩ rfl hl.1 (Nat.le_of_ble_eq_true rfl) rfl dX8_smoothsOf_18 (fun r_4 g_3 H locs hd hw => ?_)
    refine lv_topi (fun x3_5 ex3_5 => ?_)
    have hd := hd x3_5 ex3_5
    refine lv_istore_n (lv' := [(3, .int x3_5), (2, .int x2_1), (0, .ref (ad 0)), (1, .int x1)]) K.1 K.2.1 dX8_smoothsOf_21 rfl hl (by decide) rfl (fun ls hl => ?_)
    refine lv_iload_n K.1 K.2.1 dX8_smoothsOf_22 rfl (lv_at hl 1 rfl) ?_
    refine lv_iconst (v := (2 : Int32)) K.1 K.2.1 dX8_smoothsOf_23 (by decide) ?_
    refine lv_icmp_eq (tgt := 32) K.1 K.2.1 dX8_smoothsOf_24 (by decide) (fun h_6 => ?_) (fun h_6 => ?_)
    · have hd := hd.1 h_6
      exact bb_X8_smoothsOf_32 K hr  x3_5 g_3 _ _ _ hd hw (lv_sub hl [0] rfl)
    · have hd := hd.2 h_6
      refine lv_iload_n K.1 K.2.1 dX8_smoothsOf_27 rfl (lv_at hl 1 rfl) ?_
      refine lv_iconst (v := (4 : Int32)) K.1 K.2.1 dX8_smoothsOf_28 (by decide) ?_
      refine lv_icmp_ne (tgt := 38) K.1 K.2.1 dX8_smoothsOf_29 (by decide) (fun h_9 => ?_) (fun h_9 => ?_)
      · have hd := hd.1 h_9
        refine lv_iload_n K.1 K.2.1 dX8_smoothsOf_38 rfl (lv_at hl 1 rfl) ?_
        refine lv_iconst (v := (3 : Int32)) K.1 K.2.1 dX8_smoothsOf_39 (by decide) ?_
        refine lv_icmp_ne (tgt := 56) K.1 K.2.1 dX8_smoothsOf_40 (by decide) (fun h_10 => ?_) (fun h_10 => ?_)
        · have hd := hd.1 h_10
          refine lv_iload_n K.1 K.2.1 dX8_smoothsOf_56 rfl (lv_at hl 0 rfl) ?_
          exact bb_X8_smoothsOf_57 K hr  x3_5 g_3 _ _ _ hd hw (lv_sub hl [] rfl)
        · have hd := hd.2 h_10
          refine lv_iload_n K.1 K.2.1 dX8_smoothsOf_43 rfl (lv_at hl 0 rfl) ?_
          refine lv_aload_n K.1 K.2.1 dX8_smoothsOf_44 rfl (lv_at hl 2 rfl) ?_
          refine rm_get 10 K hw (by decide) kf_X8_29 rfl dX8_smoothsOf_45 ?_
          refine lv_iconst (v := (5 : Int32)) K.1 K.2.1 dX8_smoothsOf_48 (by decide) ?_
          refine lv_iload_n K.1 K.2.1 dX8_smoothsOf_49 rfl (lv_at hl 3 rfl) ?_
          refine lv_imul K.1 K.2.1 dX8_smoothsOf_50 ?_
          have hb := hd.1
          have hd := hd.2
          refine rm_iald 5 K hw (by decide) hb dX8_smoothsOf_51 ?_
          refine lv_iadd K.1 K.2.1 dX8_smoothsOf_52 ?_
          refine lv_goto (tgt := 57) K.1 K.2.1 dX8_smoothsOf_53 (by decide) ?_
          exact bb_X8_smoothsOf_57 K hr  (x3_5 + (g_3 5 ((5 : Int32) * x1).toNatClampNeg)) g_3 _ _ _ hd hw (lv_sub hl [] rfl)
      · have hd := hd.2 h_9
        exact bb_X8_smoothsOf_32 K hr  x3_5 g_3 _ _ _ hd hw (lv_sub hl [0] rfl)
  · have hd := hd.2 h_2
    refine lv_iconst (v := (0 : Int32)) K.1 K.2.1 dX8_smoothsOf_12 (by decide) ?_
    exact rk_iret K hw hr hd dX8_smoothsOf_13
theorem dX8_told_0 : decode cX8_told 0 = .ok (.iload_n 2, 1) := by decide +kernel
theorem dX8_told_1 : decode cX8_told 1 = .ok (.i2l, 1) := by decide +kernel
theorem dX8_told_2 : decode cX8_told 2 = .ok (.ldc2_w 104, 3) := by decide +kernel
theorem dX8_told_5 : decode cX8_told 5 = .ok (.ldc2_w 106, 3) := by decide +kernel
theorem dX8_told_8 : decode cX8_told 8 = .ok (.invokestatic 67, 3) := by decide +kernel
theorem dX8_told_11 : decode cX8_told 11 = .ok (.ifCond .ne 17, 3) := by decide +kernel
theorem dX8_told_14 : decode cX8_told 14 = .ok (.iload_n 2, 1) := by decide +kernel
theorem dX8_told_15 : decode cX8_told 15 = .ok (.i2l, 1) := by decide +kernel
theorem dX8_told_16 : decode cX8_told 16 = .ok (.ldc2_w 108, 3) := by decide +kernel
theorem dX8_told_19 : decode cX8_told 19 = .ok (.ldc2_w 110, 3) := by decide +kernel
theorem dX8_told_22 : decode cX8_told 22 = .ok (.invokestatic 67, 3) := by decide +kernel
theorem dX8_told_25 : decode cX8_told 25 = .ok (.ifCond .eq 7, 3) := by decide +kernel
theorem dX8_told_28 : decode cX8_told 28 = .ok (.iconst 1, 1) := by decide +kernel
theorem dX8_told_29 : decode cX8_told 29 = .ok (.goto 4, 3) := by decide +kernel
theorem dX8_told_32 : decode cX8_told 32 = .ok (.iconst 0, 1) := by decide +kernel
theorem dX8_told_33 : decode cX8_told 33 = .ok (.istore_n 3, 1) := by decide +kernel
theorem dX8_told_34 : decode cX8_told 34 = .ok (.iload_n 2, 1) := by decide +kernel
theorem dX8_told_35 : decode cX8_told 35 = .ok (.i2l, 1) := by decide +kernel
theorem dX8_told_36 : decode cX8_told 36 = .ok (.lconst 0, 1) := by decide +kernel
theorem dX8_told_37 : decode cX8_told 37 = .ok (.ldc2_w 100, 3) := by decide +kernel
theorem dX8_told_40 : decode cX8_told 40 = .ok (.invokestatic 67, 3) := by decide +kernel
theorem dX8_told_43 : decode cX8_told 43 = .ok (.ifCond .ne 7, 3) := by decide +kernel
theorem dX8_told_46 : decode cX8_told 46 = .ok (.iload_n 3, 1) := by decide +kernel
theorem dX8_told_47 : decode cX8_told 47 = .ok (.ifCond .eq 16, 3) := by decide +kernel
theorem dX8_told_50 : decode cX8_told 50 = .ok (.iload_n 2, 1) := by decide +kernel
theorem dX8_told_51 : decode cX8_told 51 = .ok (.iconst 1, 1) := by decide +kernel
theorem dX8_told_52 : decode cX8_told 52 = .ok (.if_icmp .le 15, 3) := by decide +kernel
theorem dX8_told_55 : decode cX8_told 55 = .ok (.aload_n 0, 1) := by decide +kernel
theorem dX8_told_56 : decode cX8_told 56 = .ok (.iload_n 1, 1) := by decide +kernel
theorem dX8_told_57 : decode cX8_told 57 = .ok (.invokevirtual 73, 3) := by decide +kernel
theorem dX8_told_60 : decode cX8_told 60 = .ok (.ifCond .ne 7, 3) := by decide +kernel
theorem dX8_told_63 : decode cX8_told 63 = .ok (.sipush (-1000), 3) := by decide +kernel
theorem dX8_told_66 : decode cX8_told 66 = .ok (.ireturn, 1) := by decide +kernel
theorem dX8_told_67 : decode cX8_told 67 = .ok (.iload_n 3, 1) := by decide +kernel
theorem dX8_told_68 : decode cX8_told 68 = .ok (.ifCond .eq 43, 3) := by decide +kernel
theorem dX8_told_71 : decode cX8_told 71 = .ok (.iload_n 2, 1) := by decide +kernel
theorem dX8_told_72 : decode cX8_told 72 = .ok (.bipush 20, 2) := by decide +kernel
theorem dX8_told_74 : decode cX8_told 74 = .ok (.if_icmp .ge 15, 3) := by decide +kernel
theorem dX8_told_77 : decode cX8_told 77 = .ok (.aload_n 0, 1) := by decide +kernel
theorem dX8_told_78 : decode cX8_told 78 = .ok (.iload_n 1, 1) := by decide +kernel
theorem dX8_told_79 : decode cX8_told 79 = .ok (.iload_n 2, 1) := by decide +kernel
theorem dX8_told_80 : decode cX8_told 80 = .ok (.bipush 10, 2) := by decide +kernel
theorem dX8_told_82 : decode cX8_told 82 = .ok (.isub, 1) := by decide +kernel
theorem dX8_told_83 : decode cX8_told 83 = .ok (.invokevirtual 112, 3) := by decide +kernel
theorem dX8_told_86 : decode cX8_told 86 = .ok (.goto 24, 3) := by decide +kernel
theorem dX8_told_89 : decode cX8_told 89 = .ok (.aload_n 0, 1) := by decide +kernel
theorem dX8_told_90 : decode cX8_told 90 = .ok (.iload_n 1, 1) := by decide +kernel
theorem dX8_told_91 : decode cX8_told 91 = .ok (.invokevirtual 115, 3) := by decide +kernel
theorem dX8_told_94 : decode cX8_told 94 = .ok (.ifCond .eq 15, 3) := by decide +kernel
theorem dX8_told_97 : decode cX8_told 97 = .ok (.aload_n 0, 1) := by decide +kernel
theorem dX8_told_98 : decode cX8_told 98 = .ok (.iload_n 1, 1) := by decide +kernel
theorem dX8_told_99 : decode cX8_told 99 = .ok (.iload_n 2, 1) := by decide +kernel
theorem dX8_told_100 : decode cX8_told 100 = .ok (.bipush 20, 2) := by decide +kernel
theorem dX8_told_102 : decode cX8_told 102 = .ok (.isub, 1) := by decide +kernel
theorem dX8_told_103 : decode cX8_told 103 = .ok (.invokevirtual 118, 3) := by decide +kernel
theorem dX8_told_106 : decode cX8_told 106 = .ok (.goto 4, 3) := by decide +kernel
theorem dX8_told_109 : decode cX8_told 109 = .ok (.iconst 0, 1) := by decide +kernel
theorem dX8_told_110 : decode cX8_told 110 = .ok (.ireturn, 1) := by decide +kernel
theorem dX8_told_111 : decode cX8_told 111 = .ok (.iload_n 2, 1) := by decide +kernel
theorem dX8_told_112 : decode cX8_told 112 = .ok (.bipush 7, 2) := by decide +kernel
theorem dX8_told_114 : decode cX8_told 114 = .ok (.if_icmp .ge 39, 3) := by decide +kernel
theorem dX8_told_117 : decode cX8_told 117 = .ok (.iload_n 2, 1) := by decide +kernel
theorem dX8_told_118 : decode cX8_told 118 = .ok (.ifCond .ne 10, 3) := by decide +kernel
theorem dX8_told_121 : decode cX8_told 121 = .ok (.aload_n 0, 1) := by decide +kernel
theorem dX8_told_122 : decode cX8_told 122 = .ok (.getfield 92, 3) := by decide +kernel
theorem dX8_told_125 : decode cX8_told 125 = .ok (.goto 27, 3) := by decide +kernel
theorem dX8_told_128 : decode cX8_told 128 = .ok (.iload_n 2, 1) := by decide +kernel
theorem dX8_told_129 : decode cX8_told 129 = .ok (.iconst 1, 1) := by decide +kernel
theorem dX8_told_130 : decode cX8_told 130 = .ok (.if_icmp .ne 10, 3) := by decide +kernel
theorem dX8_told_133 : decode cX8_told 133 = .ok (.aload_n 0, 1) := by decide +kernel
theorem dX8_told_134 : decode cX8_told 134 = .ok (.getfield 23, 3) := by decide +kernel
theorem dX8_told_137 : decode cX8_told 137 = .ok (.goto 15, 3) := by decide +kernel
theorem dX8_told_140 : decode cX8_told 140 = .ok (.aload_n 0, 1) := by decide +kernel
theorem dX8_told_141 : decode cX8_told 141 = .ok (.getfield 29, 3) := by decide +kernel
theorem dX8_told_144 : decode cX8_told 144 = .ok (.iconst 5, 1) := by decide +kernel
theorem dX8_told_145 : decode cX8_told 145 = .ok (.iload_n 1, 1) := by decide +kernel
theorem dX8_told_146 : decode cX8_told 146 = .ok (.imul, 1) := by decide +kernel
theorem dX8_told_147 : decode cX8_told 147 = .ok (.iload_n 2, 1) := by decide +kernel
theorem dX8_told_148 : decode cX8_told 148 = .ok (.iadd, 1) := by decide +kernel
theorem dX8_told_149 : decode cX8_told 149 = .ok (.iconst 2, 1) := by decide +kernel
theorem dX8_told_150 : decode cX8_told 150 = .ok (.isub, 1) := by decide +kernel
theorem dX8_told_151 : decode cX8_told 151 = .ok (.iaload, 1) := by decide +kernel
theorem dX8_told_152 : decode cX8_told 152 = .ok (.ireturn, 1) := by decide +kernel
theorem dX8_told_153 : decode cX8_told 153 = .ok (.iload_n 2, 1) := by decide +kernel
theorem dX8_told_154 : decode cX8_told 154 = .ok (.bipush 7, 2) := by decide +kernel
theorem dX8_told_156 : decode cX8_told 156 = .ok (.if_icmp .ne 12, 3) := by decide +kernel
theorem dX8_told_159 : decode cX8_told 159 = .ok (.aload_n 0, 1) := by decide +kernel
theorem dX8_told_160 : decode cX8_told 160 = .ok (.getfield 26, 3) := by decide +kernel
theorem dX8_told_163 : decode cX8_told 163 = .ok (.iload_n 1, 1) := by decide +kernel
theorem dX8_told_164 : decode cX8_told 164 = .ok (.iaload, 1) := by decide +kernel
theorem dX8_told_165 : decode cX8_told 165 = .ok (.goto 22, 3) := by decide +kernel
theorem dX8_told_168 : decode cX8_told 168 = .ok (.iload_n 2, 1) := by decide +kernel
theorem dX8_told_169 : decode cX8_told 169 = .ok (.bipush 8, 2) := by decide +kernel
theorem dX8_told_171 : decode cX8_told 171 = .ok (.if_icmp .ne 11, 3) := by decide +kernel
theorem dX8_told_174 : decode cX8_told 174 = .ok (.aload_n 0, 1) := by decide +kernel
theorem dX8_told_175 : decode cX8_told 175 = .ok (.iload_n 1, 1) := by decide +kernel
theorem dX8_told_176 : decode cX8_told 176 = .ok (.invokevirtual 121, 3) := by decide +kernel
theorem dX8_told_179 : decode cX8_told 179 = .ok (.goto 8, 3) := by decide +kernel
theorem dX8_told_182 : decode cX8_told 182 = .ok (.aload_n 0, 1) := by decide +kernel
theorem dX8_told_183 : decode cX8_told 183 = .ok (.iload_n 1, 1) := by decide +kernel
theorem dX8_told_184 : decode cX8_told 184 = .ok (.invokevirtual 124, 3) := by decide +kernel
theorem dX8_told_187 : decode cX8_told 187 = .ok (.ireturn, 1) := by decide +kernel
set_option maxHeartbeats 4000000 in
set_option maxRecDepth 100000 in
theorem bb_X8_told_67 {p : Program} {l : Launch} {e : Env} {s : State} {m : MethodId} {args : Array Value} {below : List Frame} {meth : Method} {c : Code} {D : va_G} {cy : Nat → ClassId} {ad : Nat → Nat} {A : Nat → Prop} {Q : Int32 → Sg → Prop} (K : Kx p s m args meth c cX8_told 4 RX8 D cy) (hr : meth.sig.returnType = (some .int)) (x1 : Int32) (x2 : Int32) (x3 : Int32)  (g0 : Sg) (H : Heap) (locs : List Loc) (ls : Array Slot) (hd : vv_X8_told_J67 x1 x2 x3 g0 Q) (hw : Wd D A s.heap (wsM cy ad g0) H locs) (hl : lv_has ls 4 [(0, .ref (ad 0)), (1, .int x1), (2, .int x2), (3, .int x3)]) : W p l e (rmD 45) s m args below meth c H locs 0 0 (MQ below (va_Qi Q (PostG (wsM cy ad) D A) A) args s 0 0 A) (F0 m 67 ls []) := by
  unfold vv_X8_told_J67 at hd
  refine lv_iload_n K.1 K.2.1 dX8_told_67 rfl (lv_at hl 3 rfl) ?_
  refine lv_if_eq (tgt := 111) K.1 K.2.1 dX8_told_68 (by decide) (fun h_9 => ?_) (fun h_9 => ?_)
  · have hd := hd.1 h_9
    refine lv_iload_n K.1 K.2.1 dX8_told_111 rfl (lv_at hl 2 rfl) ?_
    refine lv_bipush (v := (7 : Int32)) K.1 K.2.1 dX8_told_112 (by decide) ?_
    refine lv_icmp_ge (tgt := 153) K.1 K.2.1 dX8_told_114 (by decide) (fun h_10 => ?_) (fun h_10 => ?_)
    · have hd := hd.1 h_10
      refine lv_iload_n K.1 K.2.1 dX8_told_153 rfl (lv_at hl 2 rfl) ?_
      refine lv_bipush (v := (7 : Int32)) K.1 K.2.1 dX8_told_154 (by decide) ?_
      refine lv_icmp_ne (tgt := 168) K.1 K.2.1 dX8_told_156 (by decide) (fun h_11 => ?_) (fun h_11 => ?_)
      · have hd := hd.1 h_11
        refine lv_iload_n K.1 K.2.1 dX8_told_168 rfl (lv_at hl 2 rfl) ?_
        refine lv_bipush (v := (8 : Int32)) K.1 K.2.1 dX8_told_169 (by decide) ?_
        refine lv_icmp_ne (tgt := 182) K.1 K.2.1 dX8_told_171 (by decide) (fun h_12 => ?_) (fun h_12 => ?_)
        · have hd := hd.1 h_12
          refine lv_aload_n K.1 K.2.1 dX8_told_182 rfl (lv_at hl 0 rfl) ?_
          refine lv_iload_n K.1 K.2.1 dX8_told_183 rfl (lv_at hl 1 rfl) ?_
          refine rk_vi (As := [.int x1]) (rest := []) K hw (cc_X8_smoothsOf l D cy ad A g0 _ x1 hd) lk_X8_124 (ci := 8) rfl (q0 := 0) (wsM_at cy ad _ (by decide)) ⟨Nat.le_of_ble_eq_true rfl, Nat.le_of_ble_eq_true rfl⟩ ⟨Nat.zero_le _, Nat.zero_le _⟩ rfl hl.1 (Nat.le_of_ble_eq_true rfl) rfl dX8_told_184 (fun r_14 g_13 H locs hd hw => ?_)
          exact rk_iret K hw hr hd dX8_told_187
        · have hd := hd.2 h_12
          refine lv_aload_n K.1 K.2.1 dX8_told_174 rfl (lv_at hl 0 rfl) ?_
          refine lv_iload_n K.1 K.2.1 dX8_told_175 rfl (lv_at hl 1 rfl) ?_
          refine rk_vi (As := [.int x1]) (rest := []) K hw (cc_X8_weighsOf l D cy ad A g0 _ x1 hd) lk_X8_121 (ci := 8) rfl (q0 := 0) (wsM_at cy ad _ (by decide)) ⟨Nat.le_of_ble_eq_true rfl, Nat.le_of_ble_eq_true rfl⟩ ⟨Nat.zero_le _, Nat.zero_le _⟩ rfl hl.1 (Nat.le_of_ble_eq_true rfl) rfl dX8_told_176 (fun r_16 g_15 H locs hd hw => ?_)
          refine lv_goto (tgt := 187) K.1 K.2.1 dX8_told_179 (by decide) ?_
          exact rk_iret K hw hr hd dX8_told_187
      · have hd := hd.2 h_11
        refine lv_aload_n K.1 K.2.1 dX8_told_159 rfl (lv_at hl 0 rfl) ?_
        refine rm_get 9 K hw (by decide) kf_X8_26 rfl dX8_told_160 ?_
        refine lv_iload_n K.1 K.2.1 dX8_told_163 rfl (lv_at hl 1 rfl) ?_
        have hb := hd.1
        have hd := hd.2
        refine rm_iald 4 K hw (by decide) hb dX8_told_164 ?_
        refine lv_goto (tgt := 187) K.1 K.2.1 dX8_told_165 (by decide) ?_
        exact rk_iret K hw hr hd dX8_told_187
    · have hd := hd.2 h_10
      refine lv_iload_n K.1 K.2.1 dX8_told_117 rfl (lv_at hl 2 rfl) ?_
      refine lv_if_ne (tgt := 128) K.1 K.2.1 dX8_told_118 (by decide) (fun h_17 => ?_) (fun h_17 => ?_)
      · have hd := hd.1 h_17
        refine lv_iload_n K.1 K.2.1 dX8_told_128 rfl (lv_at hl 2 rfl) ?_
        refine lv_iconst (v := (1 : Int32)) K.1 K.2.1 dX8_told_129 (by decide) ?_
        refine lv_icmp_ne (tgt := 140) K.1 K.2.1 dX8_told_130 (by decide) (fun h_18 => ?_) (fun h_18 => ?_)
        · have hd := hd.1 h_18
          refine lv_aload_n K.1 K.2.1 dX8_told_140 rfl (lv_at hl 0 rfl) ?_
          refine rm_get 10 K hw (by decide) kf_X8_29 rfl dX8_told_141 ?_
          refine lv_iconst (v := (5 : Int32)) K.1 K.2.1 dX8_told_144 (by decide) ?_
          refine lv_iload_n K.1 K.2.1 dX8_told_145 rfl (lv_at hl 1 rfl) ?_
          refine lv_imul K.1 K.2.1 dX8_told_146 ?_
          refine lv_iload_n K.1 K.2.1 dX8_told_147 rfl (lv_at hl 2 rfl) ?_
          refine lv_iadd K.1 K.2.1 dX8_told_148 ?_
          refine lv_iconst (v := (2 : Int32)) K.1 K.2.1 dX8_told_149 (by decide) ?_
          refine lv_isub K.1 K.2.1 dX8_told_150 ?_
          have hb := hd.1
          have hd := hd.2
          refine rm_iald 5 K hw (by decide) hb dX8_told_151 ?_
          exact rk_iret K hw hr hd dX8_told_152
        · have hd := hd.2 h_18
          refine lv_aload_n K.1 K.2.1 dX8_told_133 rfl (lv_at hl 0 rfl) ?_
          refine rm_get 8 K hw (by decide) kf_X8_23 rfl dX8_told_134 ?_
          refine lv_goto (tgt := 152) K.1 K.2.1 dX8_told_137 (by decide) ?_
          exact rk_iret K hw hr hd dX8_told_152
      · have hd := hd.2 h_17
        refine lv_aload_n K.1 K.2.1 dX8_told_121 rfl (lv_at hl 0 rfl) ?_
        refine rm_get 7 K hw (by decide) kf_X8_92 rfl dX8_told_122 ?_
        refine lv_goto (tgt := 152) K.1 K.2.1 dX8_told_125 (by decide) ?_
        exact rk_iret K hw hr hd dX8_told_152
  · have hd := hd.2 h_9
    refine lv_iload_n K.1 K.2.1 dX8_told_71 rfl (lv_at hl 2 rfl) ?_
    refine lv_bipush (v := (20 : Int32)) K.1 K.2.1 dX8_told_72 (by decide) ?_
    refine lv_icmp_ge (tgt := 89) K.1 K.2.1 dX8_told_74 (by decide) (fun h_19 => ?_) (fun h_19 => ?_)
    · have hd := hd.1 h_19
      refine lv_aload_n K.1 K.2.1 dX8_told_89 rfl (lv_at hl 0 rfl) ?_
      refine lv_iload_n K.1 K.2.1 dX8_told_90 rfl (lv_at hl 1 rfl) ?_
      refine rk_vi (As := [.int x1]) (rest := []) K hw (cc_X8_isWhole l D cy ad A g0 _ x1 hd) lk_X8_115 (ci := 8) rfl (q0 := 0) (wsM_at cy ad _ (by decide)) ⟨Nat.le_of_ble_eq_true rfl, Nat.le_of_ble_eq_true rfl⟩ ⟨Nat.zero_le _, Nat.zero_le _⟩ rfl hl.1 (Nat.le_of_ble_eq_true rfl) rfl dX8_told_91 (fun r_21 g_20 H locs hd hw => ?_)
      refine lv_if_eq (tgt := 109) K.1 K.2.1 dX8_told_94 (by decide) (fun h_22 => ?_) (fun h_22 => ?_)
      · have hd := hd.1 h_22
        refine lv_iconst (v := (0 : Int32)) K.1 K.2.1 dX8_told_109 (by decide) ?_
        exact rk_iret K hw hr hd dX8_told_110
      · have hd := hd.2 h_22
        refine lv_aload_n K.1 K.2.1 dX8_told_97 rfl (lv_at hl 0 rfl) ?_
        refine lv_iload_n K.1 K.2.1 dX8_told_98 rfl (lv_at hl 1 rfl) ?_
        refine lv_iload_n K.1 K.2.1 dX8_told_99 rfl (lv_at hl 2 rfl) ?_
        refine lv_bipush (v := (20 : Int32)) K.1 K.2.1 dX8_told_100 (by decide) ?_
        refine lv_isub K.1 K.2.1 dX8_told_102 ?_
        refine rk_vi (As := [.int x1, .int (x2 - (20 : Int32))]) (rest := []) K hw (cc_X8_voteOf l D cy ad A g_20 _ x1 (x2 - (20 : Int32)) hd) lk_X8_118 (ci := 8) rfl (q0 := 0) (wsM_at cy ad _ (by decide)) ⟨Nat.le_of_ble_eq_true rfl, Nat.le_of_ble_eq_true rfl⟩ ⟨Nat.zero_le _, Nat.zero_le _⟩ rfl hl.1 (Nat.le_of_ble_eq_true rfl) rfl dX8_told_103 (fun r_24 g_23 H locs hd hw => ?_)
        refine lv_goto (tgt := 110) K.1 K.2.1 dX8_told_106 (by decide) ?_
        exact rk_iret K hw hr hd dX8_told_110
    · have hd := hd.2 h_19
      refine lv_aload_n K.1 K.2.1 dX8_told_77 rfl (lv_at hl 0 rfl) ?_
      refine lv_iload_n K.1 K.2.1 dX8_told_78 rfl (lv_at hl 1 rfl) ?_
      refine lv_iload_n K.1 K.2.1 dX8_told_79 rfl (lv_at hl 2 rfl) ?_
      refine lv_bipush (v := (10 : Int32)) K.1 K.2.1 dX8_told_80 (by decide) ?_
      refine lv_isub K.1 K.2.1 dX8_told_82 ?_
      refine rk_vi (As := [.int x1, .int (x2 - (10 : Int32))]) (rest := []) K hw (cc_X8_feelsOf l D cy ad A g0 _ x1 (x2 - (10 : Int32)) hd) lk_X8_112 (ci := 8) rfl (q0 := 0) (wsM_at cy ad _ (by decide)) ⟨Nat.le_of_ble_eq_true rfl, Nat.le_of_ble_eq_true rfl⟩ ⟨Nat.zero_le _, Nat.zero_le _⟩ rfl hl.1 (Nat.le_of_ble_eq_true rfl) rfl dX8_told_83 (fun r_26 g_25 H locs hd hw => ?_)
      refine lv_goto (tgt := 110) K.1 K.2.1 dX8_told_86 (by decide) ?_
      exact rk_iret K hw hr hd dX8_told_110
set_option maxHeartbeats 4000000 in
set_option maxRecDepth 100000 in
theorem bb_X8_told_50 {p : Program} {l : Launch} {e : Env} {s : State} {m : MethodId} {args : Array Value} {below : List Frame} {meth : Method} {c : Code} {D : va_G} {cy : Nat → ClassId} {ad : Nat → Nat} {A : Nat → Prop} {Q : Int32 → Sg → Prop} (K : Kx p s m args meth c cX8_told 4 RX8 D cy) (hr : meth.sig.returnType = (some .int)) (x1 : Int32) (x2 : Int32) (x3 : Int32)  (g0 : Sg) (H : Heap) (locs : List Loc) (ls : Array Slot) (hd : vv_X8_told_J50 x1 x2 x3 g0 Q) (hw : Wd D A s.heap (wsM cy ad g0) H locs) (hl : lv_has ls 4 [(0, .ref (ad 0)), (1, .int x1), (2, .int x2), (3, .int x3)]) : W p l e (rmD 45) s m args below meth c H locs 0 0 (MQ below (va_Qi Q (PostG (wsM cy ad) D A) A) args s 0 0 A) (F0 m 50 ls []) := by
  unfold vv_X8_told_J50 at hd
  refine lv_iload_n K.1 K.2.1 dX8_told_50 rfl (lv_at hl 2 rfl) ?_
  refine lv_iconst (v := (1 : Int32)) K.1 K.2.1 dX8_told_51 (by decide) ?_
  refine lv_icmp_le (tgt := 67) K.1 K.2.1 dX8_told_52 (by decide) (fun h_8 => ?_) (fun h_8 => ?_)
  · have hd := hd.1 h_8
    exact bb_X8_told_67 K hr  x1 x2 x3 g0 _ _ _ hd hw (lv_sub hl [0, 1, 2, 3] rfl)
  · have hd := hd.2 h_8
    refine lv_aload_n K.1 K.2.1 dX8_told_55 rfl (lv_at hl 0 rfl) ?_
    refine lv_iload_n K.1 K.2.1 dX8_told_56 rfl (lv_at hl 1 rfl) ?_
    refine rk_vi (As := [.int x1]) (rest := []) K hw (cc_X8_isOne l D cy ad A g0 _ x1 hd) lk_X8_73 (ci := 8) rfl (q0 := 0) (wsM_at cy ad _ (by decide)) ⟨Nat.le_of_ble_eq_true rfl, Nat.le_of_ble_eq_true rfl⟩ ⟨Nat.zero_le _, Nat.zero_le _⟩ rfl hl.1 (Nat.le_of_ble_eq_true rfl) rfl dX8_told_57 (fun r_28 g_27 H locs hd hw => ?_)
    refine lv_if_ne (tgt := 67) K.1 K.2.1 dX8_told_60 (by decide) (fun h_29 => ?_) (fun h_29 => ?_)
    · have hd := hd.1 h_29
      exact bb_X8_told_67 K hr  x1 x2 x3 g_27 _ _ _ hd hw (lv_sub hl [0, 1, 2, 3] rfl)
    · have hd := hd.2 h_29
      refine lv_sipush (v := (-1000 : Int32)) K.1 K.2.1 dX8_told_63 (by decide) ?_
      exact rk_iret K hw hr hd dX8_told_66
set_option maxHeartbeats 4000000 in
set_option maxRecDepth 100000 in
theorem bb_X8_told_33 {p : Program} {l : Launch} {e : Env} {s : State} {m : MethodId} {args : Array Value} {below : List Frame} {meth : Method} {c : Code} {D : va_G} {cy : Nat → ClassId} {ad : Nat → Nat} {A : Nat → Prop} {Q : Int32 → Sg → Prop} (K : Kx p s m args meth c cX8_told 4 RX8 D cy) (hr : meth.sig.returnType = (some .int)) (x1 : Int32) (x2 : Int32) (t0 : Int32) (g0 : Sg) (H : Heap) (locs : List Loc) (ls : Array Slot) (hd : vv_X8_told_J33 x1 x2 t0 g0 Q) (hw : Wd D A s.heap (wsM cy ad g0) H locs) (hl : lv_has ls 4 [(0, .ref (ad 0)), (1, .int x1), (2, .int x2)]) : W p l e (rmD 45) s m args below meth c H locs 0 0 (MQ below (va_Qi Q (PostG (wsM cy ad) D A) A) args s 0 0 A) (F0 m 33 ls [.int t0]) := by
  unfold vv_X8_told_J33 at hd
  refine lv_topi (fun x3_4 ex3_4 => ?_)
  have hd := hd x3_4 ex3_4
  refine lv_istore_n (lv' := [(3, .int x3_4), (0, .ref (ad 0)), (1, .int x1), (2, .int x2)]) K.1 K.2.1 dX8_told_33 rfl hl (by decide) rfl (fun ls hl => ?_)
  refine lv_iload_n K.1 K.2.1 dX8_told_34 rfl (lv_at hl 3 rfl) ?_
  refine lv_i2l (v := x2.toInt64) K.1 K.2.1 dX8_told_35 rfl ?_
  refine lv_lconst (v := (0 : Int64)) K.1 K.2.1 dX8_told_36 rfl ?_
  refine lv_ldc2 K.1 K.2.1 K.2.2.2.1 (K.2.2.2.2.1 _ kl_X8_100) dX8_told_37 ?_
  refine rk_si (As := [.long x2.toInt64, .long (0 : Int64), .long (9 : Int64)]) (rest := []) K hw (cc_X8_in l D cy ad A g0 _ (x2.toInt64) (0 : Int64) (9 : Int64) hd) lk_X8_67 ⟨Nat.le_of_ble_eq_true rfl, Nat.le_of_ble_eq_true rfl⟩ ⟨Nat.zero_le _, Nat.zero_le _⟩ rfl hl.1 (Nat.le_of_ble_eq_true rfl) rfl dX8_told_40 (fun r_6 g_5 H locs hd hw => ?_)
  refine lv_if_ne (tgt := 50) K.1 K.2.1 dX8_told_43 (by decide) (fun h_7 => ?_) (fun h_7 => ?_)
  · have hd := hd.1 h_7
    exact bb_X8_told_50 K hr  x1 x2 x3_4 g_5 _ _ _ hd hw (lv_sub hl [1, 2, 3, 0] rfl)
  · have hd := hd.2 h_7
    refine lv_iload_n K.1 K.2.1 dX8_told_46 rfl (lv_at hl 0 rfl) ?_
    refine lv_if_eq (tgt := 63) K.1 K.2.1 dX8_told_47 (by decide) (fun h_30 => ?_) (fun h_30 => ?_)
    · have hd := hd.1 h_30
      refine lv_sipush (v := (-1000 : Int32)) K.1 K.2.1 dX8_told_63 (by decide) ?_
      exact rk_iret K hw hr hd dX8_told_66
    · have hd := hd.2 h_30
      exact bb_X8_told_50 K hr  x1 x2 x3_4 g_5 _ _ _ hd hw (lv_sub hl [1, 2, 3, 0] rfl)
set_option maxHeartbeats 4000000 in
set_option maxRecDepth 100000 in
theorem bb_X8_told_28 {p : Program} {l : Launch} {e : Env} {s : State} {m : MethodId} {args : Array Value} {below : List Frame} {meth : Method} {c : Code} {D : va_G} {cy : Nat → ClassId} {ad : Nat → Nat} {A : Nat → Prop} {Q : Int32 → Sg → Prop} (K : Kx p s m args meth c cX8_told 4 RX8 D cy) (hr : meth.sig.returnType = (some .int)) (x1 : Int32) (x2 : Int32)  (g0 : Sg) (H : Heap) (locs : List Loc) (ls : Array Slot) (hd : vv_X8_told_J28 x1 x2 g0 Q) (hw : Wd D A s.heap (wsM cy ad g0) H locs) (hl : lv_has ls 4 [(0, .ref (ad 0)), (1, .int x1), (2, .int x2)]) : W p l e (rmD 45) s m args below meth c H locs 0 0 (MQ below (va_Qi Q (PostG (wsM cy ad) D A) A) args s 0 0 A) (F0 m 28 ls []) := by
  unfold vv_X8_told_J28 at hd
  refine lv_iconst (v := (1 : Int32)) K.1 K.2.1 dX8_told_28 (by decide) ?_
  refine lv_goto (tgt := 33) K.1 K.2.1 dX8_told_29 (by decide) ?_
  exact bb_X8_told_33 K hr  x1 x2 (1 : Int32) g0 _ _ _ hd hw (lv_sub hl [0, 1, 2] rfl)
set_option maxHeartbeats 4000000 in
set_option maxRecDepth 100000 in
theorem cc_X8_told (l : Launch) (D : va_G) (cy : Nat → ClassId) (ad : Nat → Nat) (A : Nat → Prop) (g0 : Sg) (Q : Int32 → Sg → Prop) (x1 : Int32) (x2 : Int32) (hd : vv_X8_told x1 x2 g0 Q) : Met l yX8_told (Cond.code yX8_told cX8_told 4 (some .int) :: TT) (rmD 45) (va_Pc [.ref (ad 0), .int x1, .int x2] (PreG (wsM cy ad) D cy A g0)) (va_Qi Q (PostG (wsM cy ad) D A) A) 0 0 A := by
  unfold vv_X8_told at hd
  refine Met.ofW (cc := cX8_told) (maxL := 4) (ret := (some .int)) (by decide) rfl ?_
  intro p e s m args below meth c s₁ B hml hv
  obtain ⟨rfl, hP, hK0, hD⟩ := hv
  have K : Kx p s m _ meth c cX8_told 4 RX8 D cy := ⟨B.exec, B.bytes, hml, findClass_of_methodNamed B.named, fun w h => atoms_spec (ws := Cond.code yX8_told cX8_told 4 (some .int) :: TT) B.pre w (List.mem_cons_of_mem _ h), hK0, B.notSynchronized⟩
  have hw : Wd D A s.heap (wsM cy ad g0) s.heap [] := ⟨hP, hD, va_S.rf⟩
  have hr := B.returns
  have hl := lv_entry ([.ref (ad 0), .int x1, .int x2]) (n := 4) (Nat.le_of_ble_eq_true rfl)
  rw [lg_entry_eq]
  generalize (lg_sl ([.ref (ad 0), .int x1, .int x2]) ++ List.replicate (4 - (lg_sl ([.ref (ad 0), .int x1, .int x2])).length) Slot.unset).toArray = ls at hl ⊢
  have hl : lv_has ls 4 [(0, .ref (ad 0)), (1, .int x1), (2, .int x2)] := hl
  refine lv_iload_n K.1 K.2.1 dX8_told_0 rfl (lv_at hl 2 rfl) ?_
  refine lv_i2l (v := x2.toInt64) K.1 K.2.1 dX8_told_1 rfl ?_
  refine lv_ldc2 K.1 K.2.1 K.2.2.2.1 (K.2.2.2.2.1 _ kl_X8_104) dX8_told_2 ?_
  refine lv_ldc2 K.1 K.2.1 K.2.2.2.1 (K.2.2.2.2.1 _ kl_X8_106) dX8_told_5 ?_
  refine rk_si (As := [.long x2.toInt64, .long (10 : Int64), .long (17 : Int64)]) (rest := []) K hw (cc_X8_in l D cy ad A g0 _ (x2.toInt64) (10 : Int64) (17 : Int64) hd) lk_X8_67 ⟨Nat.le_of_ble_eq_true rfl, Nat.le_of_ble_eq_true rfl⟩ ⟨Nat.zero_le _, Nat.zero_le _⟩ rfl hl.1 (Nat.le_of_ble_eq_true rfl) rfl dX8_told_8 (fun r_2 g_1 H locs hd hw => ?_)
  refine lv_if_ne (tgt := 28) K.1 K.2.1 dX8_told_11 (by decide) (fun h_3 => ?_) (fun h_3 => ?_)
  · have hd := hd.1 h_3
    exact bb_X8_told_28 K hr  x1 x2 g_1 _ _ _ hd hw (lv_sub hl [0, 1, 2] rfl)
  · have hd := hd.2 h_3
    refine lv_iload_n K.1 K.2.1 dX8_told_14 rfl (lv_at hl 2 rfl) ?_
    refine lv_i2l (v := x2.toInt64) K.1 K.2.1 dX8_told_15 rfl ?_
    refine lv_ldc2 K.1 K.2.1 K.2.2.2.1 (K.2.2.2.2.1 _ kl_X8_108) dX8_told_16 ?_
    refine lv_ldc2 K.1 K.2.1 K.2.2.2.1 (K.2.2.2.2.1 _ kl_X8_110) dX8_told_19 ?_
    refine rk_si (As := [.long x2.toInt64, .long (20 : Int64), .long (27 : Int64)]) (rest := []) K hw (cc_X8_in l D cy ad A g_1 _ (x2.toInt64) (20 : Int64) (27 : Int64) hd) lk_X8_67 ⟨Nat.le_of_ble_eq_true rfl, Nat.le_of_ble_eq_true rfl⟩ ⟨Nat.zero_le _, Nat.zero_le _⟩ rfl hl.1 (Nat.le_of_ble_eq_true rfl) rfl dX8_told_22 (fun r_32 g_31 H locs hd hw => ?_)
    refine lv_if_eq (tgt := 32) K.1 K.2.1 dX8_told_25 (by decide) (fun h_33 => ?_) (fun h_33 => ?_)
    · have hd := hd.1 h_33
      refine lv_iconst (v := (0 : Int32)) K.1 K.2.1 dX8_told_32 (by decide) ?_
      exact bb_X8_told_33 K hr  x1 x2 (0 : Int32) g_31 _ _ _ hd hw (lv_sub hl [0, 1, 2] rfl)
    · have hd := hd.2 h_33
      exact bb_X8_told_28 K hr  x1 x2 g_31 _ _ _ hd hw (lv_sub hl [0, 1, 2] rfl)
