theorem dX8_not4_0 : decode cX8_not4 0 = .ok (.aload_n 0, 1) := by decide +kernel
theorem dX8_not4_1 : decode cX8_not4 1 = .ok (.bipush 110, 2) := by decide +kernel
theorem dX8_not4_3 : decode cX8_not4 3 = .ok (.bipush 111, 2) := by decide +kernel
theorem dX8_not4_5 : decode cX8_not4 5 = .ok (.bipush 116, 2) := by decide +kernel
theorem dX8_not4_7 : decode cX8_not4 7 = .ok (.iconst 0, 1) := by decide +kernel
theorem dX8_not4_8 : decode cX8_not4 8 = .ok (.iconst 0, 1) := by decide +kernel
theorem dX8_not4_9 : decode cX8_not4 9 = .ok (.iconst 0, 1) := by decide +kernel
theorem dX8_not4_10 : decode cX8_not4 10 = .ok (.iconst 0, 1) := by decide +kernel
theorem dX8_not4_11 : decode cX8_not4 11 = .ok (.iconst 0, 1) := by decide +kernel
theorem dX8_not4_12 : decode cX8_not4 12 = .ok (.invokevirtual 184, 3) := by decide +kernel
theorem dX8_not4_15 : decode cX8_not4 15 = .ok (.ifCond .eq 37, 3) := by decide +kernel
theorem dX8_not4_18 : decode cX8_not4 18 = .ok (.aload_n 0, 1) := by decide +kernel
theorem dX8_not4_19 : decode cX8_not4 19 = .ok (.invokevirtual 209, 3) := by decide +kernel
theorem dX8_not4_22 : decode cX8_not4 22 = .ok (.ifCond .ne 5, 3) := by decide +kernel
theorem dX8_not4_25 : decode cX8_not4 25 = .ok (.iconst 0, 1) := by decide +kernel
theorem dX8_not4_26 : decode cX8_not4 26 = .ok (.ireturn, 1) := by decide +kernel
theorem dX8_not4_27 : decode cX8_not4 27 = .ok (.aload_n 0, 1) := by decide +kernel
theorem dX8_not4_28 : decode cX8_not4 28 = .ok (.invokevirtual 230, 3) := by decide +kernel
theorem dX8_not4_31 : decode cX8_not4 31 = .ok (.istore_n 1, 1) := by decide +kernel
theorem dX8_not4_32 : decode cX8_not4 32 = .ok (.aload_n 0, 1) := by decide +kernel
theorem dX8_not4_33 : decode cX8_not4 33 = .ok (.dup, 1) := by decide +kernel
theorem dX8_not4_34 : decode cX8_not4 34 = .ok (.getfield 175, 3) := by decide +kernel
theorem dX8_not4_37 : decode cX8_not4 37 = .ok (.iconst 1, 1) := by decide +kernel
theorem dX8_not4_38 : decode cX8_not4 38 = .ok (.isub, 1) := by decide +kernel
theorem dX8_not4_39 : decode cX8_not4 39 = .ok (.putfield 175, 3) := by decide +kernel
theorem dX8_not4_42 : decode cX8_not4 42 = .ok (.iload_n 1, 1) := by decide +kernel
theorem dX8_not4_43 : decode cX8_not4 43 = .ok (.ifCond .ne 7, 3) := by decide +kernel
theorem dX8_not4_46 : decode cX8_not4 46 = .ok (.iconst 1, 1) := by decide +kernel
theorem dX8_not4_47 : decode cX8_not4 47 = .ok (.goto 4, 3) := by decide +kernel
theorem dX8_not4_50 : decode cX8_not4 50 = .ok (.iconst 0, 1) := by decide +kernel
theorem dX8_not4_51 : decode cX8_not4 51 = .ok (.ireturn, 1) := by decide +kernel
theorem dX8_not4_52 : decode cX8_not4 52 = .ok (.aload_n 0, 1) := by decide +kernel
theorem dX8_not4_53 : decode cX8_not4 53 = .ok (.invokevirtual 245, 3) := by decide +kernel
theorem dX8_not4_56 : decode cX8_not4 56 = .ok (.istore_n 1, 1) := by decide +kernel
theorem dX8_not4_57 : decode cX8_not4 57 = .ok (.aload_n 0, 1) := by decide +kernel
theorem dX8_not4_58 : decode cX8_not4 58 = .ok (.bipush 60, 2) := by decide +kernel
theorem dX8_not4_60 : decode cX8_not4 60 = .ok (.invokevirtual 206, 3) := by decide +kernel
theorem dX8_not4_63 : decode cX8_not4 63 = .ok (.ifCond .ne 14, 3) := by decide +kernel
theorem dX8_not4_66 : decode cX8_not4 66 = .ok (.aload_n 0, 1) := by decide +kernel
theorem dX8_not4_67 : decode cX8_not4 67 = .ok (.bipush 61, 2) := by decide +kernel
theorem dX8_not4_69 : decode cX8_not4 69 = .ok (.invokevirtual 206, 3) := by decide +kernel
theorem dX8_not4_72 : decode cX8_not4 72 = .ok (.ifCond .ne 5, 3) := by decide +kernel
theorem dX8_not4_75 : decode cX8_not4 75 = .ok (.iload_n 1, 1) := by decide +kernel
theorem dX8_not4_76 : decode cX8_not4 76 = .ok (.ireturn, 1) := by decide +kernel
theorem dX8_not4_77 : decode cX8_not4 77 = .ok (.aload_n 0, 1) := by decide +kernel
theorem dX8_not4_78 : decode cX8_not4 78 = .ok (.getfield 160, 3) := by decide +kernel
theorem dX8_not4_81 : decode cX8_not4 81 = .ok (.ldc2_w 228, 3) := by decide +kernel
theorem dX8_not4_84 : decode cX8_not4 84 = .ok (.lcmp, 1) := by decide +kernel
theorem dX8_not4_85 : decode cX8_not4 85 = .ok (.ifCond .ne 7, 3) := by decide +kernel
theorem dX8_not4_88 : decode cX8_not4 88 = .ok (.iconst 1, 1) := by decide +kernel
theorem dX8_not4_89 : decode cX8_not4 89 = .ok (.goto 4, 3) := by decide +kernel
theorem dX8_not4_92 : decode cX8_not4 92 = .ok (.iconst 0, 1) := by decide +kernel
theorem dX8_not4_93 : decode cX8_not4 93 = .ok (.istore_n 2, 1) := by decide +kernel
theorem dX8_not4_94 : decode cX8_not4 94 = .ok (.aload_n 0, 1) := by decide +kernel
theorem dX8_not4_95 : decode cX8_not4 95 = .ok (.invokevirtual 181, 3) := by decide +kernel
theorem dX8_not4_98 : decode cX8_not4 98 = .ok (.aload_n 0, 1) := by decide +kernel
theorem dX8_not4_99 : decode cX8_not4 99 = .ok (.invokevirtual 245, 3) := by decide +kernel
theorem dX8_not4_102 : decode cX8_not4 102 = .ok (.istore_n 3, 1) := by decide +kernel
theorem dX8_not4_103 : decode cX8_not4 103 = .ok (.iload_n 2, 1) := by decide +kernel
theorem dX8_not4_104 : decode cX8_not4 104 = .ok (.ifCond .eq 11, 3) := by decide +kernel
theorem dX8_not4_107 : decode cX8_not4 107 = .ok (.iload_n 1, 1) := by decide +kernel
theorem dX8_not4_108 : decode cX8_not4 108 = .ok (.iload_n 3, 1) := by decide +kernel
theorem dX8_not4_109 : decode cX8_not4 109 = .ok (.if_icmp .ge 15, 3) := by decide +kernel
theorem dX8_not4_112 : decode cX8_not4 112 = .ok (.goto 8, 3) := by decide +kernel
theorem dX8_not4_115 : decode cX8_not4 115 = .ok (.iload_n 1, 1) := by decide +kernel
theorem dX8_not4_116 : decode cX8_not4 116 = .ok (.iload_n 3, 1) := by decide +kernel
theorem dX8_not4_117 : decode cX8_not4 117 = .ok (.if_icmp .ne 7, 3) := by decide +kernel
theorem dX8_not4_120 : decode cX8_not4 120 = .ok (.iconst 1, 1) := by decide +kernel
theorem dX8_not4_121 : decode cX8_not4 121 = .ok (.goto 4, 3) := by decide +kernel
theorem dX8_not4_124 : decode cX8_not4 124 = .ok (.iconst 0, 1) := by decide +kernel
theorem dX8_not4_125 : decode cX8_not4 125 = .ok (.ireturn, 1) := by decide +kernel
set_option maxHeartbeats 4000000 in
set_option maxRecDepth 100000 in
theorem bb_X8_not4_120 {p : Program} {l : Launch} {e : Env} {s : State} {m : MethodId} {args : Array Value} {below : List Frame} {meth : Method} {c : Code} {D : va_G} {cy : Nat → ClassId} {ad : Nat → Nat} {A : Nat → Prop} {Q : Int32 → Sg → Prop} (K : Kx p s m args meth c cX8_not4 4 RX8 D cy) (hr : meth.sig.returnType = (some .int))   (g0 : Sg) (H : Heap) (locs : List Loc) (ls : Array Slot) (hd : vv_X8_not4_J120 g0 Q) (hw : Wd D A s.heap (wsM cy ad g0) H locs) (hl : lv_has ls 4 []) : W p l e (rmD 13) s m args below meth c H locs 0 0 (MQ below (va_Qi Q (PostG (wsM cy ad) D A) A) args s 0 0 A) (F0 m 120 ls []) := by
  unfold vv_X8_not4_J120 at hd
  refine lv_iconst (v := (1 : Int32)) K.1 K.2.1 dX8_not4_120 (by decide) ?_
  refine lv_goto (tgt := 125) K.1 K.2.1 dX8_not4_121 (by decide) ?_
  exact rk_iret K hw hr hd dX8_not4_125
set_option maxHeartbeats 4000000 in
set_option maxRecDepth 100000 in
theorem bb_X8_not4_93 {p : Program} {l : Launch} {e : Env} {s : State} {m : MethodId} {args : Array Value} {below : List Frame} {meth : Method} {c : Code} {D : va_G} {cy : Nat → ClassId} {ad : Nat → Nat} {A : Nat → Prop} {Q : Int32 → Sg → Prop} (K : Kx p s m args meth c cX8_not4 4 RX8 D cy) (hr : meth.sig.returnType = (some .int)) (x1 : Int32) (t0 : Int32) (g0 : Sg) (H : Heap) (locs : List Loc) (ls : Array Slot) (hd : vv_X8_not4_J93 x1 t0 g0 Q) (hw : Wd D A s.heap (wsM cy ad g0) H locs) (hl : lv_has ls 4 [(0, .ref (ad 0)), (1, .int x1)]) : W p l e (rmD 13) s m args below meth c H locs 0 0 (MQ below (va_Qi Q (PostG (wsM cy ad) D A) A) args s 0 0 A) (F0 m 93 ls [.int t0]) := by
  unfold vv_X8_not4_J93 at hd
  refine lv_topi (fun x2_11 ex2_11 => ?_)
  have hd := hd x2_11 ex2_11
  refine lv_istore_n (lv' := [(2, .int x2_11), (0, .ref (ad 0)), (1, .int x1)]) K.1 K.2.1 dX8_not4_93 rfl hl (by decide) rfl (fun ls hl => ?_)
  refine lv_aload_n K.1 K.2.1 dX8_not4_94 rfl (lv_at hl 1 rfl) ?_
  refine rk_vv (As := []) (rest := []) K hw (cc_X8_next l D cy ad A g0 _  hd) lk_X8_181 (ci := 8) rfl (q0 := 0) (wsM_at cy ad _ (by decide)) ⟨Nat.le_of_ble_eq_true rfl, Nat.le_of_ble_eq_true rfl⟩ ⟨Nat.zero_le _, Nat.zero_le _⟩ rfl hl.1 (Nat.le_of_ble_eq_true rfl) rfl dX8_not4_95 (fun g_12 H locs hd hw => ?_)
  refine lv_aload_n K.1 K.2.1 dX8_not4_98 rfl (lv_at hl 1 rfl) ?_
  refine rk_vi (As := []) (rest := []) K hw (cc_X8_added4 l D cy ad A g_12 _  hd) lk_X8_245 (ci := 8) rfl (q0 := 0) (wsM_at cy ad _ (by decide)) ⟨Nat.le_of_ble_eq_true rfl, Nat.le_of_ble_eq_true rfl⟩ ⟨Nat.zero_le _, Nat.zero_le _⟩ rfl hl.1 (Nat.le_of_ble_eq_true rfl) rfl dX8_not4_99 (fun r_15 g_14 H locs hd hw => ?_)
  refine lv_topi (fun x3_16 ex3_16 => ?_)
  have hd := hd x3_16 ex3_16
  refine lv_istore_n (lv' := [(3, .int x3_16), (2, .int x2_11), (0, .ref (ad 0)), (1, .int x1)]) K.1 K.2.1 dX8_not4_102 rfl hl (by decide) rfl (fun ls hl => ?_)
  refine lv_iload_n K.1 K.2.1 dX8_not4_103 rfl (lv_at hl 1 rfl) ?_
  refine lv_if_eq (tgt := 115) K.1 K.2.1 dX8_not4_104 (by decide) (fun h_17 => ?_) (fun h_17 => ?_)
  · have hd := hd.1 h_17
    refine lv_iload_n K.1 K.2.1 dX8_not4_115 rfl (lv_at hl 3 rfl) ?_
    refine lv_iload_n K.1 K.2.1 dX8_not4_116 rfl (lv_at hl 0 rfl) ?_
    refine lv_icmp_ne (tgt := 124) K.1 K.2.1 dX8_not4_117 (by decide) (fun h_18 => ?_) (fun h_18 => ?_)
    · have hd := hd.1 h_18
      refine lv_iconst (v := (0 : Int32)) K.1 K.2.1 dX8_not4_124 (by decide) ?_
      exact rk_iret K hw hr hd dX8_not4_125
    · have hd := hd.2 h_18
      exact bb_X8_not4_120 K hr   g_14 _ _ _ hd hw (lv_sub hl [] rfl)
  · have hd := hd.2 h_17
    refine lv_iload_n K.1 K.2.1 dX8_not4_107 rfl (lv_at hl 3 rfl) ?_
    refine lv_iload_n K.1 K.2.1 dX8_not4_108 rfl (lv_at hl 0 rfl) ?_
    refine lv_icmp_ge (tgt := 124) K.1 K.2.1 dX8_not4_109 (by decide) (fun h_19 => ?_) (fun h_19 => ?_)
    · have hd := hd.1 h_19
      refine lv_iconst (v := (0 : Int32)) K.1 K.2.1 dX8_not4_124 (by decide) ?_
      exact rk_iret K hw hr hd dX8_not4_125
    · have hd := hd.2 h_19
      refine lv_goto (tgt := 120) K.1 K.2.1 dX8_not4_112 (by decide) ?_
      exact bb_X8_not4_120 K hr   g_14 _ _ _ hd hw (lv_sub hl [] rfl)
set_option maxHeartbeats 4000000 in
set_option maxRecDepth 100000 in
theorem bb_X8_not4_77 {p : Program} {l : Launch} {e : Env} {s : State} {m : MethodId} {args : Array Value} {below : List Frame} {meth : Method} {c : Code} {D : va_G} {cy : Nat → ClassId} {ad : Nat → Nat} {A : Nat → Prop} {Q : Int32 → Sg → Prop} (K : Kx p s m args meth c cX8_not4 4 RX8 D cy) (hr : meth.sig.returnType = (some .int)) (x1 : Int32)  (g0 : Sg) (H : Heap) (locs : List Loc) (ls : Array Slot) (hd : vv_X8_not4_J77 x1 g0 Q) (hw : Wd D A s.heap (wsM cy ad g0) H locs) (hl : lv_has ls 4 [(0, .ref (ad 0)), (1, .int x1)]) : W p l e (rmD 13) s m args below meth c H locs 0 0 (MQ below (va_Qi Q (PostG (wsM cy ad) D A) A) args s 0 0 A) (F0 m 77 ls []) := by
  unfold vv_X8_not4_J77 at hd
  refine lv_aload_n K.1 K.2.1 dX8_not4_77 rfl (lv_at hl 0 rfl) ?_
  refine rm_get 23 K hw (by decide) kf_X8_160 rfl dX8_not4_78 ?_
  refine lv_ldc2 K.1 K.2.1 K.2.2.2.1 (K.2.2.2.2.1 _ kl_X8_228) dX8_not4_81 ?_
  refine W.lcmp K.1 K.2.1 dX8_not4_84 ?_
  refine lv_if_ne (tgt := 92) K.1 K.2.1 dX8_not4_85 (by decide) (fun h_10 => ?_) (fun h_10 => ?_)
  · have hd := hd.1 h_10
    refine lv_iconst (v := (0 : Int32)) K.1 K.2.1 dX8_not4_92 (by decide) ?_
    exact bb_X8_not4_93 K hr  x1 (0 : Int32) g0 _ _ _ hd hw (lv_sub hl [0, 1] rfl)
  · have hd := hd.2 h_10
    refine lv_iconst (v := (1 : Int32)) K.1 K.2.1 dX8_not4_88 (by decide) ?_
    refine lv_goto (tgt := 93) K.1 K.2.1 dX8_not4_89 (by decide) ?_
    exact bb_X8_not4_93 K hr  x1 (1 : Int32) g0 _ _ _ hd hw (lv_sub hl [0, 1] rfl)
set_option maxHeartbeats 4000000 in
set_option maxRecDepth 100000 in
theorem cc_X8_not4 (l : Launch) (D : va_G) (cy : Nat → ClassId) (ad : Nat → Nat) (A : Nat → Prop) (g0 : Sg) (Q : Int32 → Sg → Prop)  (hd : vv_X8_not4  g0 Q) : Met l yX8_not4 (Cond.code yX8_not4 cX8_not4 4 (some .int) :: TT) (rmD 13) (va_Pc [.ref (ad 0)] (PreG (wsM cy ad) D cy A g0)) (va_Qi Q (PostG (wsM cy ad) D A) A) 0 0 A := by
  unfold vv_X8_not4 at hd
  refine Met.ofW (cc := cX8_not4) (maxL := 4) (ret := (some .int)) (by decide) rfl ?_
  intro p e s m args below meth c s₁ B hml hv
  obtain ⟨rfl, hP, hK0, hD⟩ := hv
  have K : Kx p s m _ meth c cX8_not4 4 RX8 D cy := ⟨B.exec, B.bytes, hml, findClass_of_methodNamed B.named, fun w h => atoms_spec (ws := Cond.code yX8_not4 cX8_not4 4 (some .int) :: TT) B.pre w (List.mem_cons_of_mem _ h), hK0, B.notSynchronized⟩
  have hw : Wd D A s.heap (wsM cy ad g0) s.heap [] := ⟨hP, hD, va_S.rf⟩
  have hr := B.returns
  have hl := lv_entry ([.ref (ad 0)]) (n := 4) (Nat.le_of_ble_eq_true rfl)
  rw [lg_entry_eq]
  generalize (lg_sl ([.ref (ad 0)]) ++ List.replicate (4 - (lg_sl ([.ref (ad 0)])).length) Slot.unset).toArray = ls at hl ⊢
  have hl : lv_has ls 4 [(0, .ref (ad 0))] := hl
  refine lv_aload_n K.1 K.2.1 dX8_not4_0 rfl (lv_at hl 0 rfl) ?_
  refine lv_bipush (v := (110 : Int32)) K.1 K.2.1 dX8_not4_1 (by decide) ?_
  refine lv_bipush (v := (111 : Int32)) K.1 K.2.1 dX8_not4_3 (by decide) ?_
  refine lv_bipush (v := (116 : Int32)) K.1 K.2.1 dX8_not4_5 (by decide) ?_
  refine lv_iconst (v := (0 : Int32)) K.1 K.2.1 dX8_not4_7 (by decide) ?_
  refine lv_iconst (v := (0 : Int32)) K.1 K.2.1 dX8_not4_8 (by decide) ?_
  refine lv_iconst (v := (0 : Int32)) K.1 K.2.1 dX8_not4_9 (by decide) ?_
  refine lv_iconst (v := (0 : Int32)) K.1 K.2.1 dX8_not4_10 (by decide) ?_
  refine lv_iconst (v := (0 : Int32)) K.1 K.2.1 dX8_not4_11 (by decide) ?_
  refine rk_vi (As := [.int (110 : Int32), .int (111 : Int32), .int (116 : Int32), .int (0 : Int32), .int (0 : Int32), .int (0 : Int32), .int (0 : Int32), .int (0 : Int32)]) (rest := []) K hw (cc_X8_isWord l D cy ad A g0 _ (110 : Int32) (111 : Int32) (116 : Int32) (0 : Int32) (0 : Int32) (0 : Int32) (0 : Int32) (0 : Int32) hd) lk_X8_184 (ci := 8) rfl (q0 := 0) (wsM_at cy ad _ (by decide)) ⟨Nat.le_of_ble_eq_true rfl, Nat.le_of_ble_eq_true rfl⟩ ⟨Nat.zero_le _, Nat.zero_le _⟩ rfl hl.1 (Nat.le_of_ble_eq_true rfl) rfl dX8_not4_12 (fun r_2 g_1 H locs hd hw => ?_)
  refine lv_if_eq (tgt := 52) K.1 K.2.1 dX8_not4_15 (by decide) (fun h_3 => ?_) (fun h_3 => ?_)
  · have hd := hd.1 h_3
    refine lv_aload_n K.1 K.2.1 dX8_not4_52 rfl (lv_at hl 0 rfl) ?_
    refine rk_vi (As := []) (rest := []) K hw (cc_X8_added4 l D cy ad A g_1 _  hd) lk_X8_245 (ci := 8) rfl (q0 := 0) (wsM_at cy ad _ (by decide)) ⟨Nat.le_of_ble_eq_true rfl, Nat.le_of_ble_eq_true rfl⟩ ⟨Nat.zero_le _, Nat.zero_le _⟩ rfl hl.1 (Nat.le_of_ble_eq_true rfl) rfl dX8_not4_53 (fun r_5 g_4 H locs hd hw => ?_)
    refine lv_topi (fun x1_6 ex1_6 => ?_)
    have hd := hd x1_6 ex1_6
    refine lv_istore_n (lv' := [(1, .int x1_6), (0, .ref (ad 0))]) K.1 K.2.1 dX8_not4_56 rfl hl (by decide) rfl (fun ls hl => ?_)
    refine lv_aload_n K.1 K.2.1 dX8_not4_57 rfl (lv_at hl 1 rfl) ?_
    refine lv_bipush (v := (60 : Int32)) K.1 K.2.1 dX8_not4_58 (by decide) ?_
    refine rk_vi (As := [.int (60 : Int32)]) (rest := []) K hw (cc_X8_isSign l D cy ad A g_4 _ (60 : Int32) hd) lk_X8_206 (ci := 8) rfl (q0 := 0) (wsM_at cy ad _ (by decide)) ⟨Nat.le_of_ble_eq_true rfl, Nat.le_of_ble_eq_true rfl⟩ ⟨Nat.zero_le _, Nat.zero_le _⟩ rfl hl.1 (Nat.le_of_ble_eq_true rfl) rfl dX8_not4_60 (fun r_8 g_7 H locs hd hw => ?_)
    refine lv_if_ne (tgt := 77) K.1 K.2.1 dX8_not4_63 (by decide) (fun h_9 => ?_) (fun h_9 => ?_)
    · have hd := hd.1 h_9
      exact bb_X8_not4_77 K hr  x1_6 g_7 _ _ _ hd hw (lv_sub hl [1, 0] rfl)
    · have hd := hd.2 h_9
      refine lv_aload_n K.1 K.2.1 dX8_not4_66 rfl (lv_at hl 1 rfl) ?_
      refine lv_bipush (v := (61 : Int32)) K.1 K.2.1 dX8_not4_67 (by decide) ?_
      refine rk_vi (As := [.int (61 : Int32)]) (rest := []) K hw (cc_X8_isSign l D cy ad A g_7 _ (61 : Int32) hd) lk_X8_206 (ci := 8) rfl (q0 := 0) (wsM_at cy ad _ (by decide)) ⟨Nat.le_of_ble_eq_true rfl, Nat.le_of_ble_eq_true rfl⟩ ⟨Nat.zero_le _, Nat.zero_le _⟩ rfl hl.1 (Nat.le_of_ble_eq_true rfl) rfl dX8_not4_69 (fun r_21 g_20 H locs hd hw => ?_)
      refine lv_if_ne (tgt := 77) K.1 K.2.1 dX8_not4_72 (by decide) (fun h_22 => ?_) (fun h_22 => ?_)
      · have hd := hd.1 h_22
        exact bb_X8_not4_77 K hr  x1_6 g_20 _ _ _ hd hw (lv_sub hl [1, 0] rfl)
      · have hd := hd.2 h_22
        refine lv_iload_n K.1 K.2.1 dX8_not4_75 rfl (lv_at hl 0 rfl) ?_
        exact rk_iret K hw hr hd dX8_not4_76
  · have hd := hd.2 h_3
    refine lv_aload_n K.1 K.2.1 dX8_not4_18 rfl (lv_at hl 0 rfl) ?_
    refine rk_vi (As := []) (rest := []) K hw (cc_X8_opens l D cy ad A g_1 _  hd) lk_X8_209 (ci := 8) rfl (q0 := 0) (wsM_at cy ad _ (by decide)) ⟨Nat.le_of_ble_eq_true rfl, Nat.le_of_ble_eq_true rfl⟩ ⟨Nat.zero_le _, Nat.zero_le _⟩ rfl hl.1 (Nat.le_of_ble_eq_true rfl) rfl dX8_not4_19 (fun r_24 g_23 H locs hd hw => ?_)
    refine lv_if_ne (tgt := 27) K.1 K.2.1 dX8_not4_22 (by decide) (fun h_25 => ?_) (fun h_25 => ?_)
    · have hd := hd.1 h_25
      refine lv_aload_n K.1 K.2.1 dX8_not4_27 rfl (lv_at hl 0 rfl) ?_
      refine rk_vi (As := []) (rest := []) K hw (cc_X8_not5 l D cy ad A g_23 _  hd) lk_X8_230 (ci := 8) rfl (q0 := 0) (wsM_at cy ad _ (by decide)) ⟨Nat.le_of_ble_eq_true rfl, Nat.le_of_ble_eq_true rfl⟩ ⟨Nat.zero_le _, Nat.zero_le _⟩ rfl hl.1 (Nat.le_of_ble_eq_true rfl) rfl dX8_not4_28 (fun r_27 g_26 H locs hd hw => ?_)
      refine lv_topi (fun x1_28 ex1_28 => ?_)
      have hd := hd x1_28 ex1_28
      refine lv_istore_n (lv' := [(1, .int x1_28), (0, .ref (ad 0))]) K.1 K.2.1 dX8_not4_31 rfl hl (by decide) rfl (fun ls hl => ?_)
      refine lv_aload_n K.1 K.2.1 dX8_not4_32 rfl (lv_at hl 1 rfl) ?_
      refine lv_dup K.1 K.2.1 dX8_not4_33 rfl ?_
      refine rm_get 24 K hw (by decide) kf_X8_175 rfl dX8_not4_34 ?_
      refine lv_iconst (v := (1 : Int32)) K.1 K.2.1 dX8_not4_37 (by decide) ?_
      refine lv_isub K.1 K.2.1 dX8_not4_38 ?_
      refine rm_put 24 K hw (by decide) kf_X8_175 rfl rfl rfl rfl (fsM_24 ad g_26 _) dX8_not4_39 (fun g_29 eg_29 H locs hw => ?_)
      have hd := hd g_29 eg_29
      refine lv_iload_n K.1 K.2.1 dX8_not4_42 rfl (lv_at hl 0 rfl) ?_
      refine lv_if_ne (tgt := 50) K.1 K.2.1 dX8_not4_43 (by decide) (fun h_30 => ?_) (fun h_30 => ?_)
      · have hd := hd.1 h_30
        refine lv_iconst (v := (0 : Int32)) K.1 K.2.1 dX8_not4_50 (by decide) ?_
        exact rk_iret K hw hr hd dX8_not4_51
      · have hd := hd.2 h_30
        refine lv_iconst (v := (1 : Int32)) K.1 K.2.1 dX8_not4_46 (by decide) ?_
        refine lv_goto (tgt := 51) K.1 K.2.1 dX8_not4_47 (by decide) ?_
        exact rk_iret K hw hr hd dX8_not4_51
    · have hd := hd.2 h_25
      refine lv_iconst (v := (0 : Int32)) K.1 K.2.1 dX8_not4_25 (by decide) ?_
      exact rk_iret K hw hr hd dX8_not4_26
theorem dX8_both4_0 : decode cX8_both4 0 = .ok (.aload_n 0, 1) := by decide +kernel
theorem dX8_both4_1 : decode cX8_both4 1 = .ok (.invokevirtual 248, 3) := by decide +kernel
theorem dX8_both4_4 : decode cX8_both4 4 = .ok (.istore_n 1, 1) := by decide +kernel
theorem dX8_both4_5 : decode cX8_both4 5 = .ok (.aload_n 0, 1) := by decide +kernel
theorem dX8_both4_6 : decode cX8_both4 6 = .ok (.bipush 97, 2) := by decide +kernel
theorem dX8_both4_8 : decode cX8_both4 8 = .ok (.bipush 110, 2) := by decide +kernel
theorem dX8_both4_10 : decode cX8_both4 10 = .ok (.bipush 100, 2) := by decide +kernel
theorem dX8_both4_12 : decode cX8_both4 12 = .ok (.iconst 0, 1) := by decide +kernel
theorem dX8_both4_13 : decode cX8_both4 13 = .ok (.iconst 0, 1) := by decide +kernel
theorem dX8_both4_14 : decode cX8_both4 14 = .ok (.iconst 0, 1) := by decide +kernel
theorem dX8_both4_15 : decode cX8_both4 15 = .ok (.iconst 0, 1) := by decide +kernel
theorem dX8_both4_16 : decode cX8_both4 16 = .ok (.iconst 0, 1) := by decide +kernel
theorem dX8_both4_17 : decode cX8_both4 17 = .ok (.invokevirtual 184, 3) := by decide +kernel
theorem dX8_both4_20 : decode cX8_both4 20 = .ok (.ifCond .eq 29, 3) := by decide +kernel
theorem dX8_both4_23 : decode cX8_both4 23 = .ok (.aload_n 0, 1) := by decide +kernel
theorem dX8_both4_24 : decode cX8_both4 24 = .ok (.invokevirtual 181, 3) := by decide +kernel
theorem dX8_both4_27 : decode cX8_both4 27 = .ok (.aload_n 0, 1) := by decide +kernel
theorem dX8_both4_28 : decode cX8_both4 28 = .ok (.invokevirtual 248, 3) := by decide +kernel
theorem dX8_both4_31 : decode cX8_both4 31 = .ok (.istore_n 2, 1) := by decide +kernel
theorem dX8_both4_32 : decode cX8_both4 32 = .ok (.iload_n 1, 1) := by decide +kernel
theorem dX8_both4_33 : decode cX8_both4 33 = .ok (.ifCond .eq 11, 3) := by decide +kernel
theorem dX8_both4_36 : decode cX8_both4 36 = .ok (.iload_n 2, 1) := by decide +kernel
theorem dX8_both4_37 : decode cX8_both4 37 = .ok (.ifCond .eq 7, 3) := by decide +kernel
theorem dX8_both4_40 : decode cX8_both4 40 = .ok (.iconst 1, 1) := by decide +kernel
theorem dX8_both4_41 : decode cX8_both4 41 = .ok (.goto 4, 3) := by decide +kernel
theorem dX8_both4_44 : decode cX8_both4 44 = .ok (.iconst 0, 1) := by decide +kernel
theorem dX8_both4_45 : decode cX8_both4 45 = .ok (.istore_n 1, 1) := by decide +kernel
theorem dX8_both4_46 : decode cX8_both4 46 = .ok (.goto (-41), 3) := by decide +kernel
theorem dX8_both4_49 : decode cX8_both4 49 = .ok (.iload_n 1, 1) := by decide +kernel
theorem dX8_both4_50 : decode cX8_both4 50 = .ok (.ireturn, 1) := by decide +kernel
set_option maxHeartbeats 4000000 in
set_option maxRecDepth 100000 in
theorem bb_X8_both4_45 {p : Program} {l : Launch} {e : Env} {s : State} {m : MethodId} {args : Array Value} {below : List Frame} {meth : Method} {c : Code} {D : va_G} {cy : Nat → ClassId} {ad : Nat → Nat} {A : Nat → Prop} {Q : Int32 → Sg → Prop} (K : Kx p s m args meth c cX8_both4 3 RX8 D cy) (hr : meth.sig.returnType = (some .int)) {rc5 : Int32 → Sg → Prop} (hrc5 : ∀ (x1 : Int32) (u : Sg) (H : Heap) (locs : List Loc) (ls : Array Slot), rc5 x1 u → Wd D A s.heap (wsM cy ad u) H locs → lv_has ls 3 [(0, .ref (ad 0)), (1, .int x1)] → W p l e (rmD 14) s m args below meth c H locs 0 0 (MQ below (va_Qi Q (PostG (wsM cy ad) D A) A) args s 0 0 A) (F0 m 5 ls []))  (t0 : Int32) (g0 : Sg) (H : Heap) (locs : List Loc) (ls : Array Slot) (hd : vv_X8_both4_J45 rc5 t0 g0 Q) (hw : Wd D A s.heap (wsM cy ad g0) H locs) (hl : lv_has ls 3 [(0, .ref (ad 0))]) : W p l e (rmD 14) s m args below meth c H locs 0 0 (MQ below (va_Qi Q (PostG (wsM cy ad) D A) A) args s 0 0 A) (F0 m 45 ls [.int t0]) := by
  unfold vv_X8_both4_J45 at hd
  refine lv_topi (fun x1_13 ex1_13 => ?_)
  have hd := hd x1_13 ex1_13
  refine lv_istore_n (lv' := [(1, .int x1_13), (0, .ref (ad 0))]) K.1 K.2.1 dX8_both4_45 rfl hl (by decide) rfl (fun ls hl => ?_)
  refine lv_goto (tgt := 5) K.1 K.2.1 dX8_both4_46 (by decide) ?_
  exact hrc5 x1_13 g0 _ _ _ hd hw (lv_sub hl [1, 0] rfl)
set_option maxHeartbeats 4000000 in
set_option maxRecDepth 100000 in
theorem bb_X8_both4_44 {p : Program} {l : Launch} {e : Env} {s : State} {m : MethodId} {args : Array Value} {below : List Frame} {meth : Method} {c : Code} {D : va_G} {cy : Nat → ClassId} {ad : Nat → Nat} {A : Nat → Prop} {Q : Int32 → Sg → Prop} (K : Kx p s m args meth c cX8_both4 3 RX8 D cy) (hr : meth.sig.returnType = (some .int)) {rc5 : Int32 → Sg → Prop} (hrc5 : ∀ (x1 : Int32) (u : Sg) (H : Heap) (locs : List Loc) (ls : Array Slot), rc5 x1 u → Wd D A s.heap (wsM cy ad u) H locs → lv_has ls 3 [(0, .ref (ad 0)), (1, .int x1)] → W p l e (rmD 14) s m args below meth c H locs 0 0 (MQ below (va_Qi Q (PostG (wsM cy ad) D A) A) args s 0 0 A) (F0 m 5 ls []))   (g0 : Sg) (H : Heap) (locs : List Loc) (ls : Array Slot) (hd : vv_X8_both4_J44 rc5 g0 Q) (hw : Wd D A s.heap (wsM cy ad g0) H locs) (hl : lv_has ls 3 [(0, .ref (ad 0))]) : W p l e (rmD 14) s m args below meth c H locs 0 0 (MQ below (va_Qi Q (PostG (wsM cy ad) D A) A) args s 0 0 A) (F0 m 44 ls []) := by
  unfold vv_X8_both4_J44 at hd
  refine lv_iconst (v := (0 : Int32)) K.1 K.2.1 dX8_both4_44 (by decide) ?_
  exact bb_X8_both4_45 K hr hrc5 (0 : Int32) g0 _ _ _ hd hw (lv_sub hl [0] rfl)
set_option maxHeartbeats 4000000 in
set_option maxRecDepth 100000 in
theorem bb_X8_both4_5 {p : Program} {l : Launch} {e : Env} {s : State} {m : MethodId} {args : Array Value} {below : List Frame} {meth : Method} {c : Code} {D : va_G} {cy : Nat → ClassId} {ad : Nat → Nat} {A : Nat → Prop} {Q : Int32 → Sg → Prop} (K : Kx p s m args meth c cX8_both4 3 RX8 D cy) (hr : meth.sig.returnType = (some .int)) : ∀ (n : Nat) (x1 : Int32)  (g0 : Sg) (H : Heap) (locs : List Loc) (ls : Array Slot), vv_X8_both4_L5 Q n x1 g0 → Wd D A s.heap (wsM cy ad g0) H locs → lv_has ls 3 [(0, .ref (ad 0)), (1, .int x1)] → W p l e (rmD 14) s m args below meth c H locs 0 0 (MQ below (va_Qi Q (PostG (wsM cy ad) D A) A) args s 0 0 A) (F0 m 5 ls []) := by
  intro n
  induction n with
  | zero => intro _ _ _ _ _ hd; exact hd.elim
  | succ n ih =>
    intro x1 g0 H locs ls hd hw hl
    unfold vv_X8_both4_L5 at hd
    refine lv_aload_n K.1 K.2.1 dX8_both4_5 rfl (lv_at hl 0 rfl) ?_
    refine lv_bipush (v := (97 : Int32)) K.1 K.2.1 dX8_both4_6 (by decide) ?_
    refine lv_bipush (v := (110 : Int32)) K.1 K.2.1 dX8_both4_8 (by decide) ?_
    refine lv_bipush (v := (100 : Int32)) K.1 K.2.1 dX8_both4_10 (by decide) ?_
    refine lv_iconst (v := (0 : Int32)) K.1 K.2.1 dX8_both4_12 (by decide) ?_
    refine lv_iconst (v := (0 : Int32)) K.1 K.2.1 dX8_both4_13 (by decide) ?_
    refine lv_iconst (v := (0 : Int32)) K.1 K.2.1 dX8_both4_14 (by decide) ?_
    refine lv_iconst (v := (0 : Int32)) K.1 K.2.1 dX8_both4_15 (by decide) ?_
    refine lv_iconst (v := (0 : Int32)) K.1 K.2.1 dX8_both4_16 (by decide) ?_
    refine rk_vi (As := [.int (97 : Int32), .int (110 : Int32), .int (100 : Int32), .int (0 : Int32), .int (0 : Int32), .int (0 : Int32), .int (0 : Int32), .int (0 : Int32)]) (rest := []) K hw (cc_X8_isWord l D cy ad A g0 _ (97 : Int32) (110 : Int32) (100 : Int32) (0 : Int32) (0 : Int32) (0 : Int32) (0 : Int32) (0 : Int32) hd) lk_X8_184 (ci := 8) rfl (q0 := 0) (wsM_at cy ad _ (by decide)) ⟨Nat.le_of_ble_eq_true rfl, Nat.le_of_ble_eq_true rfl⟩ ⟨Nat.zero_le _, Nat.zero_le _⟩ rfl hl.1 (Nat.le_of_ble_eq_true rfl) rfl dX8_both4_17 (fun r_5 g_4 H locs hd hw => ?_)
    refine lv_if_eq (tgt := 49) K.1 K.2.1 dX8_both4_20 (by decide) (fun h_6 => ?_) (fun h_6 => ?_)
    · have hd := hd.1 h_6
      refine lv_iload_n K.1 K.2.1 dX8_both4_49 rfl (lv_at hl 1 rfl) ?_
      exact rk_iret K hw hr hd dX8_both4_50
    · have hd := hd.2 h_6
      refine lv_aload_n K.1 K.2.1 dX8_both4_23 rfl (lv_at hl 0 rfl) ?_
      refine rk_vv (As := []) (rest := []) K hw (cc_X8_next l D cy ad A g_4 _  hd) lk_X8_181 (ci := 8) rfl (q0 := 0) (wsM_at cy ad _ (by decide)) ⟨Nat.le_of_ble_eq_true rfl, Nat.le_of_ble_eq_true rfl⟩ ⟨Nat.zero_le _, Nat.zero_le _⟩ rfl hl.1 (Nat.le_of_ble_eq_true rfl) rfl dX8_both4_24 (fun g_7 H locs hd hw => ?_)
      refine lv_aload_n K.1 K.2.1 dX8_both4_27 rfl (lv_at hl 0 rfl) ?_
      refine rk_vi (As := []) (rest := []) K hw (cc_X8_not4 l D cy ad A g_7 _  hd) lk_X8_248 (ci := 8) rfl (q0 := 0) (wsM_at cy ad _ (by decide)) ⟨Nat.le_of_ble_eq_true rfl, Nat.le_of_ble_eq_true rfl⟩ ⟨Nat.zero_le _, Nat.zero_le _⟩ rfl hl.1 (Nat.le_of_ble_eq_true rfl) rfl dX8_both4_28 (fun r_10 g_9 H locs hd hw => ?_)
      refine lv_topi (fun x2_11 ex2_11 => ?_)
      have hd := hd x2_11 ex2_11
      refine lv_istore_n (lv' := [(2, .int x2_11), (0, .ref (ad 0)), (1, .int x1)]) K.1 K.2.1 dX8_both4_31 rfl hl (by decide) rfl (fun ls hl => ?_)
      refine lv_iload_n K.1 K.2.1 dX8_both4_32 rfl (lv_at hl 2 rfl) ?_
      refine lv_if_eq (tgt := 44) K.1 K.2.1 dX8_both4_33 (by decide) (fun h_12 => ?_) (fun h_12 => ?_)
      · have hd := hd.1 h_12
        exact bb_X8_both4_44 K hr ih  g_9 _ _ _ hd hw (lv_sub hl [1] rfl)
      · have hd := hd.2 h_12
        refine lv_iload_n K.1 K.2.1 dX8_both4_36 rfl (lv_at hl 0 rfl) ?_
        refine lv_if_eq (tgt := 44) K.1 K.2.1 dX8_both4_37 (by decide) (fun h_14 => ?_) (fun h_14 => ?_)
        · have hd := hd.1 h_14
          exact bb_X8_both4_44 K hr ih  g_9 _ _ _ hd hw (lv_sub hl [1] rfl)
        · have hd := hd.2 h_14
          refine lv_iconst (v := (1 : Int32)) K.1 K.2.1 dX8_both4_40 (by decide) ?_
          refine lv_goto (tgt := 45) K.1 K.2.1 dX8_both4_41 (by decide) ?_
          exact bb_X8_both4_45 K hr ih (1 : Int32) g_9 _ _ _ hd hw (lv_sub hl [1] rfl)
set_option maxHeartbeats 4000000 in
set_option maxRecDepth 100000 in
theorem cc_X8_both4 (l : Launch) (D : va_G) (cy : Nat → ClassId) (ad : Nat → Nat) (A : Nat → Prop) (g0 : Sg) (Q : Int32 → Sg → Prop)  (hd : vv_X8_both4  g0 Q) : Met l yX8_both4 (Cond.code yX8_both4 cX8_both4 3 (some .int) :: TT) (rmD 14) (va_Pc [.ref (ad 0)] (PreG (wsM cy ad) D cy A g0)) (va_Qi Q (PostG (wsM cy ad) D A) A) 0 0 A := by
  unfold vv_X8_both4 at hd
  refine Met.ofW (cc := cX8_both4) (maxL := 3) (ret := (some .int)) (by decide) rfl ?_
  intro p e s m args below meth c s₁ B hml hv
  obtain ⟨rfl, hP, hK0, hD⟩ := hv
  have K : Kx p s m _ meth c cX8_both4 3 RX8 D cy := ⟨B.exec, B.bytes, hml, findClass_of_methodNamed B.named, fun w h => atoms_spec (ws := Cond.code yX8_both4 cX8_both4 3 (some .int) :: TT) B.pre w (List.mem_cons_of_mem _ h), hK0, B.notSynchronized⟩
  have hw : Wd D A s.heap (wsM cy ad g0) s.heap [] := ⟨hP, hD, va_S.rf⟩
  have hr := B.returns
  have hl := lv_entry ([.ref (ad 0)]) (n := 3) (Nat.le_of_ble_eq_true rfl)
  rw [lg_entry_eq]
  generalize (lg_sl ([.ref (ad 0)]) ++ List.replicate (3 - (lg_sl ([.ref (ad 0)])).length) Slot.unset).toArray = ls at hl ⊢
  have hl : lv_has ls 3 [(0, .ref (ad 0))] := hl
  refine lv_aload_n K.1 K.2.1 dX8_both4_0 rfl (lv_at hl 0 rfl) ?_
  refine rk_vi (As := []) (rest := []) K hw (cc_X8_not4 l D cy ad A g0 _  hd) lk_X8_248 (ci := 8) rfl (q0 := 0) (wsM_at cy ad _ (by decide)) ⟨Nat.le_of_ble_eq_true rfl, Nat.le_of_ble_eq_true rfl⟩ ⟨Nat.zero_le _, Nat.zero_le _⟩ rfl hl.1 (Nat.le_of_ble_eq_true rfl) rfl dX8_both4_1 (fun r_2 g_1 H locs hd hw => ?_)
  refine lv_topi (fun x1_3 ex1_3 => ?_)
  have hd := hd x1_3 ex1_3
  refine lv_istore_n (lv' := [(1, .int x1_3), (0, .ref (ad 0))]) K.1 K.2.1 dX8_both4_4 rfl hl (by decide) rfl (fun ls hl => ?_)
  obtain ⟨n9, hd⟩ := hd
  exact bb_X8_both4_5 K hr  n9 x1_3 g_1 _ _ _ hd hw (lv_sub hl [1, 0] rfl)
theorem dX8_either4_0 : decode cX8_either4 0 = .ok (.aload_n 0, 1) := by decide +kernel
theorem dX8_either4_1 : decode cX8_either4 1 = .ok (.invokevirtual 251, 3) := by decide +kernel
theorem dX8_either4_4 : decode cX8_either4 4 = .ok (.istore_n 1, 1) := by decide +kernel
theorem dX8_either4_5 : decode cX8_either4 5 = .ok (.aload_n 0, 1) := by decide +kernel
theorem dX8_either4_6 : decode cX8_either4 6 = .ok (.bipush 111, 2) := by decide +kernel
theorem dX8_either4_8 : decode cX8_either4 8 = .ok (.bipush 114, 2) := by decide +kernel
theorem dX8_either4_10 : decode cX8_either4 10 = .ok (.iconst 0, 1) := by decide +kernel
theorem dX8_either4_11 : decode cX8_either4 11 = .ok (.iconst 0, 1) := by decide +kernel
theorem dX8_either4_12 : decode cX8_either4 12 = .ok (.iconst 0, 1) := by decide +kernel
theorem dX8_either4_13 : decode cX8_either4 13 = .ok (.iconst 0, 1) := by decide +kernel
theorem dX8_either4_14 : decode cX8_either4 14 = .ok (.iconst 0, 1) := by decide +kernel
theorem dX8_either4_15 : decode cX8_either4 15 = .ok (.iconst 0, 1) := by decide +kernel
theorem dX8_either4_16 : decode cX8_either4 16 = .ok (.invokevirtual 184, 3) := by decide +kernel
theorem dX8_either4_19 : decode cX8_either4 19 = .ok (.ifCond .eq 29, 3) := by decide +kernel
theorem dX8_either4_22 : decode cX8_either4 22 = .ok (.aload_n 0, 1) := by decide +kernel
theorem dX8_either4_23 : decode cX8_either4 23 = .ok (.invokevirtual 181, 3) := by decide +kernel
theorem dX8_either4_26 : decode cX8_either4 26 = .ok (.aload_n 0, 1) := by decide +kernel
theorem dX8_either4_27 : decode cX8_either4 27 = .ok (.invokevirtual 251, 3) := by decide +kernel
theorem dX8_either4_30 : decode cX8_either4 30 = .ok (.istore_n 2, 1) := by decide +kernel
theorem dX8_either4_31 : decode cX8_either4 31 = .ok (.iload_n 1, 1) := by decide +kernel
theorem dX8_either4_32 : decode cX8_either4 32 = .ok (.ifCond .ne 7, 3) := by decide +kernel
theorem dX8_either4_35 : decode cX8_either4 35 = .ok (.iload_n 2, 1) := by decide +kernel
theorem dX8_either4_36 : decode cX8_either4 36 = .ok (.ifCond .eq 7, 3) := by decide +kernel
theorem dX8_either4_39 : decode cX8_either4 39 = .ok (.iconst 1, 1) := by decide +kernel
theorem dX8_either4_40 : decode cX8_either4 40 = .ok (.goto 4, 3) := by decide +kernel
theorem dX8_either4_43 : decode cX8_either4 43 = .ok (.iconst 0, 1) := by decide +kernel
theorem dX8_either4_44 : decode cX8_either4 44 = .ok (.istore_n 1, 1) := by decide +kernel
theorem dX8_either4_45 : decode cX8_either4 45 = .ok (.goto (-40), 3) := by decide +kernel
theorem dX8_either4_48 : decode cX8_either4 48 = .ok (.iload_n 1, 1) := by decide +kernel
theorem dX8_either4_49 : decode cX8_either4 49 = .ok (.ireturn, 1) := by decide +kernel
set_option maxHeartbeats 4000000 in
set_option maxRecDepth 100000 in
theorem bb_X8_either4_44 {p : Program} {l : Launch} {e : Env} {s : State} {m : MethodId} {args : Array Value} {below : List Frame} {meth : Method} {c : Code} {D : va_G} {cy : Nat → ClassId} {ad : Nat → Nat} {A : Nat → Prop} {Q : Int32 → Sg → Prop} (K : Kx p s m args meth c cX8_either4 3 RX8 D cy) (hr : meth.sig.returnType = (some .int)) {rc5 : Int32 → Sg → Prop} (hrc5 : ∀ (x1 : Int32) (u : Sg) (H : Heap) (locs : List Loc) (ls : Array Slot), rc5 x1 u → Wd D A s.heap (wsM cy ad u) H locs → lv_has ls 3 [(0, .ref (ad 0)), (1, .int x1)] → W p l e (rmD 15) s m args below meth c H locs 0 0 (MQ below (va_Qi Q (PostG (wsM cy ad) D A) A) args s 0 0 A) (F0 m 5 ls []))  (t0 : Int32) (g0 : Sg) (H : Heap) (locs : List Loc) (ls : Array Slot) (hd : vv_X8_either4_J44 rc5 t0 g0 Q) (hw : Wd D A s.heap (wsM cy ad g0) H locs) (hl : lv_has ls 3 [(0, .ref (ad 0))]) : W p l e (rmD 15) s m args below meth c H locs 0 0 (MQ below (va_Qi Q (PostG (wsM cy ad) D A) A) args s 0 0 A) (F0 m 44 ls [.int t0]) := by
  unfold vv_X8_either4_J44 at hd
  refine lv_topi (fun x1_13 ex1_13 => ?_)
  have hd := hd x1_13 ex1_13
  refine lv_istore_n (lv' := [(1, .int x1_13), (0, .ref (ad 0))]) K.1 K.2.1 dX8_either4_44 rfl hl (by decide) rfl (fun ls hl => ?_)
  refine lv_goto (tgt := 5) K.1 K.2.1 dX8_either4_45 (by decide) ?_
  exact hrc5 x1_13 g0 _ _ _ hd hw (lv_sub hl [1, 0] rfl)
set_option maxHeartbeats 4000000 in
set_option maxRecDepth 100000 in
theorem bb_X8_either4_39 {p : Program} {l : Launch} {e : Env} {s : State} {m : MethodId} {args : Array Value} {below : List Frame} {meth : Method} {c : Code} {D : va_G} {cy : Nat → ClassId} {ad : Nat → Nat} {A : Nat → Prop} {Q : Int32 → Sg → Prop} (K : Kx p s m args meth c cX8_either4 3 RX8 D cy) (hr : meth.sig.returnType = (some .int)) {rc5 : Int32 → Sg → Prop} (hrc5 : ∀ (x1 : Int32) (u : Sg) (H : Heap) (locs : List Loc) (ls : Array Slot), rc5 x1 u → Wd D A s.heap (wsM cy ad u) H locs → lv_has ls 3 [(0, .ref (ad 0)), (1, .int x1)] → W p l e (rmD 15) s m args below meth c H locs 0 0 (MQ below (va_Qi Q (PostG (wsM cy ad) D A) A) args s 0 0 A) (F0 m 5 ls []))   (g0 : Sg) (H : Heap) (locs : List Loc) (ls : Array Slot) (hd : vv_X8_either4_J39 rc5 g0 Q) (hw : Wd D A s.heap (wsM cy ad g0) H locs) (hl : lv_has ls 3 [(0, .ref (ad 0))]) : W p l e (rmD 15) s m args below meth c H locs 0 0 (MQ below (va_Qi Q (PostG (wsM cy ad) D A) A) args s 0 0 A) (F0 m 39 ls []) := by
  unfold vv_X8_either4_J39 at hd
  refine lv_iconst (v := (1 : Int32)) K.1 K.2.1 dX8_either4_39 (by decide) ?_
  refine lv_goto (tgt := 44) K.1 K.2.1 dX8_either4_40 (by decide) ?_
  exact bb_X8_either4_44 K hr hrc5 (1 : Int32) g0 _ _ _ hd hw (lv_sub hl [0] rfl)
set_option maxHeartbeats 4000000 in
set_option maxRecDepth 100000 in
theorem bb_X8_either4_5 {p : Program} {l : Launch} {e : Env} {s : State} {m : MethodId} {args : Array Value} {below : List Frame} {meth : Method} {c : Code} {D : va_G} {cy : Nat → ClassId} {ad : Nat → Nat} {A : Nat → Prop} {Q : Int32 → Sg → Prop} (K : Kx p s m args meth c cX8_either4 3 RX8 D cy) (hr : meth.sig.returnType = (some .int)) : ∀ (n : Nat) (x1 : Int32)  (g0 : Sg) (H : Heap) (locs : List Loc) (ls : Array Slot), vv_X8_either4_L5 Q n x1 g0 → Wd D A s.heap (wsM cy ad g0) H locs → lv_has ls 3 [(0, .ref (ad 0)), (1, .int x1)] → W p l e (rmD 15) s m args below meth c H locs 0 0 (MQ below (va_Qi Q (PostG (wsM cy ad) D A) A) args s 0 0 A) (F0 m 5 ls []) := by
  intro n
  induction n with
  | zero => intro _ _ _ _ _ hd; exact hd.elim
  | succ n ih =>
    intro x1 g0 H locs ls hd hw hl
    unfold vv_X8_either4_L5 at hd
    refine lv_aload_n K.1 K.2.1 dX8_either4_5 rfl (lv_at hl 0 rfl) ?_
    refine lv_bipush (v := (111 : Int32)) K.1 K.2.1 dX8_either4_6 (by decide) ?_
    refine lv_bipush (v := (114 : Int32)) K.1 K.2.1 dX8_either4_8 (by decide) ?_
    refine lv_iconst (v := (0 : Int32)) K.1 K.2.1 dX8_either4_10 (by decide) ?_
    refine lv_iconst (v := (0 : Int32)) K.1 K.2.1 dX8_either4_11 (by decide) ?_
    refine lv_iconst (v := (0 : Int32)) K.1 K.2.1 dX8_either4_12 (by decide) ?_
    refine lv_iconst (v := (0 : Int32)) K.1 K.2.1 dX8_either4_13 (by decide) ?_
    refine lv_iconst (v := (0 : Int32)) K.1 K.2.1 dX8_either4_14 (by decide) ?_
    refine lv_iconst (v := (0 : Int32)) K.1 K.2.1 dX8_either4_15 (by decide) ?_
    refine rk_vi (As := [.int (111 : Int32), .int (114 : Int32), .int (0 : Int32), .int (0 : Int32), .int (0 : Int32), .int (0 : Int32), .int (0 : Int32), .int (0 : Int32)]) (rest := []) K hw (cc_X8_isWord l D cy ad A g0 _ (111 : Int32) (114 : Int32) (0 : Int32) (0 : Int32) (0 : Int32) (0 : Int32) (0 : Int32) (0 : Int32) hd) lk_X8_184 (ci := 8) rfl (q0 := 0) (wsM_at cy ad _ (by decide)) ⟨Nat.le_of_ble_eq_true rfl, Nat.le_of_ble_eq_true rfl⟩ ⟨Nat.zero_le _, Nat.zero_le _⟩ rfl hl.1 (Nat.le_of_ble_eq_true rfl) rfl dX8_either4_16 (fun r_5 g_4 H locs hd hw => ?_)
    refine lv_if_eq (tgt := 48) K.1 K.2.1 dX8_either4_19 (by decide) (fun h_6 => ?_) (fun h_6 => ?_)
    · have hd := hd.1 h_6
      refine lv_iload_n K.1 K.2.1 dX8_either4_48 rfl (lv_at hl 1 rfl) ?_
      exact rk_iret K hw hr hd dX8_either4_49
    · have hd := hd.2 h_6
      refine lv_aload_n K.1 K.2.1 dX8_either4_22 rfl (lv_at hl 0 rfl) ?_
      refine rk_vv (As := []) (rest := []) K hw (cc_X8_next l D cy ad A g_4 _  hd) lk_X8_181 (ci := 8) rfl (q0 := 0) (wsM_at cy ad _ (by decide)) ⟨Nat.le_of_ble_eq_true rfl, Nat.le_of_ble_eq_true rfl⟩ ⟨Nat.zero_le _, Nat.zero_le _⟩ rfl hl.1 (Nat.le_of_ble_eq_true rfl) rfl dX8_either4_23 (fun g_7 H locs hd hw => ?_)
      refine lv_aload_n K.1 K.2.1 dX8_either4_26 rfl (lv_at hl 0 rfl) ?_
      refine rk_vi (As := []) (rest := []) K hw (cc_X8_both4 l D cy ad A g_7 _  hd) lk_X8_251 (ci := 8) rfl (q0 := 0) (wsM_at cy ad _ (by decide)) ⟨Nat.le_of_ble_eq_true rfl, Nat.le_of_ble_eq_true rfl⟩ ⟨Nat.zero_le _, Nat.zero_le _⟩ rfl hl.1 (Nat.le_of_ble_eq_true rfl) rfl dX8_either4_27 (fun r_10 g_9 H locs hd hw => ?_)
      refine lv_topi (fun x2_11 ex2_11 => ?_)
      have hd := hd x2_11 ex2_11
      refine lv_istore_n (lv' := [(2, .int x2_11), (0, .ref (ad 0)), (1, .int x1)]) K.1 K.2.1 dX8_either4_30 rfl hl (by decide) rfl (fun ls hl => ?_)
      refine lv_iload_n K.1 K.2.1 dX8_either4_31 rfl (lv_at hl 2 rfl) ?_
      refine lv_if_ne (tgt := 39) K.1 K.2.1 dX8_either4_32 (by decide) (fun h_12 => ?_) (fun h_12 => ?_)
      · have hd := hd.1 h_12
        exact bb_X8_either4_39 K hr ih  g_9 _ _ _ hd hw (lv_sub hl [1] rfl)
      · have hd := hd.2 h_12
        refine lv_iload_n K.1 K.2.1 dX8_either4_35 rfl (lv_at hl 0 rfl) ?_
        refine lv_if_eq (tgt := 43) K.1 K.2.1 dX8_either4_36 (by decide) (fun h_14 => ?_) (fun h_14 => ?_)
        · have hd := hd.1 h_14
          refine lv_iconst (v := (0 : Int32)) K.1 K.2.1 dX8_either4_43 (by decide) ?_
          exact bb_X8_either4_44 K hr ih (0 : Int32) g_9 _ _ _ hd hw (lv_sub hl [1] rfl)
        · have hd := hd.2 h_14
          exact bb_X8_either4_39 K hr ih  g_9 _ _ _ hd hw (lv_sub hl [1] rfl)
set_option maxHeartbeats 4000000 in
set_option maxRecDepth 100000 in
theorem cc_X8_either4 (l : Launch) (D : va_G) (cy : Nat → ClassId) (ad : Nat → Nat) (A : Nat → Prop) (g0 : Sg) (Q : Int32 → Sg → Prop)  (hd : vv_X8_either4  g0 Q) : Met l yX8_either4 (Cond.code yX8_either4 cX8_either4 3 (some .int) :: TT) (rmD 15) (va_Pc [.ref (ad 0)] (PreG (wsM cy ad) D cy A g0)) (va_Qi Q (PostG (wsM cy ad) D A) A) 0 0 A := by
  unfold vv_X8_either4 at hd
  refine Met.ofW (cc := cX8_either4) (maxL := 3) (ret := (some .int)) (by decide) rfl ?_
  intro p e s m args below meth c s₁ B hml hv
  obtain ⟨rfl, hP, hK0, hD⟩ := hv
  have K : Kx p s m _ meth c cX8_either4 3 RX8 D cy := ⟨B.exec, B.bytes, hml, findClass_of_methodNamed B.named, fun w h => atoms_spec (ws := Cond.code yX8_either4 cX8_either4 3 (some .int) :: TT) B.pre w (List.mem_cons_of_mem _ h), hK0, B.notSynchronized⟩
  have hw : Wd D A s.heap (wsM cy ad g0) s.heap [] := ⟨hP, hD, va_S.rf⟩
  have hr := B.returns
  have hl := lv_entry ([.ref (ad 0)]) (n := 3) (Nat.le_of_ble_eq_true rfl)
  rw [lg_entry_eq]
  generalize (lg_sl ([.ref (ad 0)]) ++ List.replicate (3 - (lg_sl ([.ref (ad 0)])).length) Slot.unset).toArray = ls at hl ⊢
  have hl : lv_has ls 3 [(0, .ref (ad 0))] := hl
  refine lv_aload_n K.1 K.2.1 dX8_either4_0 rfl (lv_at hl 0 rfl) ?_
  refine rk_vi (As := []) (rest := []) K hw (cc_X8_both4 l D cy ad A g0 _  hd) lk_X8_251 (ci := 8) rfl (q0 := 0) (wsM_at cy ad _ (by decide)) ⟨Nat.le_of_ble_eq_true rfl, Nat.le_of_ble_eq_true rfl⟩ ⟨Nat.zero_le _, Nat.zero_le _⟩ rfl hl.1 (Nat.le_of_ble_eq_true rfl) rfl dX8_either4_1 (fun r_2 g_1 H locs hd hw => ?_)
  refine lv_topi (fun x1_3 ex1_3 => ?_)
  have hd := hd x1_3 ex1_3
  refine lv_istore_n (lv' := [(1, .int x1_3), (0, .ref (ad 0))]) K.1 K.2.1 dX8_either4_4 rfl hl (by decide) rfl (fun ls hl => ?_)
  obtain ⟨n9, hd⟩ := hd
  exact bb_X8_either4_5 K hr  n9 x1_3 g_1 _ _ _ hd hw (lv_sub hl [1, 0] rfl)
theorem dX8_atom3_0 : decode cX8_atom3 0 = .ok (.iconst 0, 1) := by decide +kernel
theorem dX8_atom3_1 : decode cX8_atom3 1 = .ok (.istore_n 1, 1) := by decide +kernel
theorem dX8_atom3_2 : decode cX8_atom3 2 = .ok (.aload_n 0, 1) := by decide +kernel
theorem dX8_atom3_3 : decode cX8_atom3 3 = .ok (.bipush 45, 2) := by decide +kernel
theorem dX8_atom3_5 : decode cX8_atom3 5 = .ok (.invokevirtual 206, 3) := by decide +kernel
theorem dX8_atom3_8 : decode cX8_atom3 8 = .ok (.ifCond .eq 29, 3) := by decide +kernel
theorem dX8_atom3_11 : decode cX8_atom3 11 = .ok (.aload_n 0, 1) := by decide +kernel
theorem dX8_atom3_12 : decode cX8_atom3 12 = .ok (.invokevirtual 209, 3) := by decide +kernel
theorem dX8_atom3_15 : decode cX8_atom3 15 = .ok (.ifCond .eq 146, 3) := by decide +kernel
theorem dX8_atom3_18 : decode cX8_atom3 18 = .ok (.aload_n 0, 1) := by decide +kernel
theorem dX8_atom3_19 : decode cX8_atom3 19 = .ok (.invokevirtual 239, 3) := by decide +kernel
theorem dX8_atom3_22 : decode cX8_atom3 22 = .ok (.ineg, 1) := by decide +kernel
theorem dX8_atom3_23 : decode cX8_atom3 23 = .ok (.istore_n 1, 1) := by decide +kernel
theorem dX8_atom3_24 : decode cX8_atom3 24 = .ok (.aload_n 0, 1) := by decide +kernel
theorem dX8_atom3_25 : decode cX8_atom3 25 = .ok (.dup, 1) := by decide +kernel
theorem dX8_atom3_26 : decode cX8_atom3 26 = .ok (.getfield 175, 3) := by decide +kernel
theorem dX8_atom3_29 : decode cX8_atom3 29 = .ok (.iconst 1, 1) := by decide +kernel
theorem dX8_atom3_30 : decode cX8_atom3 30 = .ok (.isub, 1) := by decide +kernel
theorem dX8_atom3_31 : decode cX8_atom3 31 = .ok (.putfield 175, 3) := by decide +kernel
theorem dX8_atom3_34 : decode cX8_atom3 34 = .ok (.goto 127, 3) := by decide +kernel
theorem dX8_atom3_37 : decode cX8_atom3 37 = .ok (.aload_n 0, 1) := by decide +kernel
theorem dX8_atom3_38 : decode cX8_atom3 38 = .ok (.bipush 40, 2) := by decide +kernel
theorem dX8_atom3_40 : decode cX8_atom3 40 = .ok (.invokevirtual 206, 3) := by decide +kernel
theorem dX8_atom3_43 : decode cX8_atom3 43 = .ok (.ifCond .eq 52, 3) := by decide +kernel
theorem dX8_atom3_46 : decode cX8_atom3 46 = .ok (.aload_n 0, 1) := by decide +kernel
theorem dX8_atom3_47 : decode cX8_atom3 47 = .ok (.invokevirtual 209, 3) := by decide +kernel
theorem dX8_atom3_50 : decode cX8_atom3 50 = .ok (.ifCond .eq 111, 3) := by decide +kernel
theorem dX8_atom3_53 : decode cX8_atom3 53 = .ok (.aload_n 0, 1) := by decide +kernel
theorem dX8_atom3_54 : decode cX8_atom3 54 = .ok (.invokevirtual 254, 3) := by decide +kernel
theorem dX8_atom3_57 : decode cX8_atom3 57 = .ok (.istore_n 1, 1) := by decide +kernel
theorem dX8_atom3_58 : decode cX8_atom3 58 = .ok (.aload_n 0, 1) := by decide +kernel
theorem dX8_atom3_59 : decode cX8_atom3 59 = .ok (.bipush 41, 2) := by decide +kernel
theorem dX8_atom3_61 : decode cX8_atom3 61 = .ok (.invokevirtual 206, 3) := by decide +kernel
theorem dX8_atom3_64 : decode cX8_atom3 64 = .ok (.ifCond .ne 7, 3) := by decide +kernel
theorem dX8_atom3_67 : decode cX8_atom3 67 = .ok (.aload_n 0, 1) := by decide +kernel
theorem dX8_atom3_68 : decode cX8_atom3 68 = .ok (.invokevirtual 178, 3) := by decide +kernel
theorem dX8_atom3_71 : decode cX8_atom3 71 = .ok (.aload_n 0, 1) := by decide +kernel
theorem dX8_atom3_72 : decode cX8_atom3 72 = .ok (.dup, 1) := by decide +kernel
theorem dX8_atom3_73 : decode cX8_atom3 73 = .ok (.getfield 175, 3) := by decide +kernel
theorem dX8_atom3_76 : decode cX8_atom3 76 = .ok (.iconst 1, 1) := by decide +kernel
theorem dX8_atom3_77 : decode cX8_atom3 77 = .ok (.isub, 1) := by decide +kernel
theorem dX8_atom3_78 : decode cX8_atom3 78 = .ok (.putfield 175, 3) := by decide +kernel
theorem dX8_atom3_81 : decode cX8_atom3 81 = .ok (.aload_n 0, 1) := by decide +kernel
theorem dX8_atom3_82 : decode cX8_atom3 82 = .ok (.getfield 164, 3) := by decide +kernel
theorem dX8_atom3_85 : decode cX8_atom3 85 = .ok (.ifCond .ne 76, 3) := by decide +kernel
theorem dX8_atom3_88 : decode cX8_atom3 88 = .ok (.aload_n 0, 1) := by decide +kernel
theorem dX8_atom3_89 : decode cX8_atom3 89 = .ok (.invokevirtual 181, 3) := by decide +kernel
theorem dX8_atom3_92 : decode cX8_atom3 92 = .ok (.goto 69, 3) := by decide +kernel
theorem dX8_atom3_95 : decode cX8_atom3 95 = .ok (.aload_n 0, 1) := by decide +kernel
theorem dX8_atom3_96 : decode cX8_atom3 96 = .ok (.getfield 164, 3) := by decide +kernel
theorem dX8_atom3_99 : decode cX8_atom3 99 = .ok (.ifCond .ne 24, 3) := by decide +kernel
theorem dX8_atom3_102 : decode cX8_atom3 102 = .ok (.aload_n 0, 1) := by decide +kernel
theorem dX8_atom3_103 : decode cX8_atom3 103 = .ok (.getfield 149, 3) := by decide +kernel
theorem dX8_atom3_106 : decode cX8_atom3 106 = .ok (.iconst 2, 1) := by decide +kernel
theorem dX8_atom3_107 : decode cX8_atom3 107 = .ok (.if_icmp .ne 16, 3) := by decide +kernel
theorem dX8_atom3_110 : decode cX8_atom3 110 = .ok (.aload_n 0, 1) := by decide +kernel
theorem dX8_atom3_111 : decode cX8_atom3 111 = .ok (.getfield 160, 3) := by decide +kernel
theorem dX8_atom3_114 : decode cX8_atom3 114 = .ok (.l2i, 1) := by decide +kernel
theorem dX8_atom3_115 : decode cX8_atom3 115 = .ok (.istore_n 1, 1) := by decide +kernel
theorem dX8_atom3_116 : decode cX8_atom3 116 = .ok (.aload_n 0, 1) := by decide +kernel
theorem dX8_atom3_117 : decode cX8_atom3 117 = .ok (.invokevirtual 181, 3) := by decide +kernel
theorem dX8_atom3_120 : decode cX8_atom3 120 = .ok (.goto 41, 3) := by decide +kernel
theorem dX8_atom3_123 : decode cX8_atom3 123 = .ok (.aload_n 0, 1) := by decide +kernel
theorem dX8_atom3_124 : decode cX8_atom3 124 = .ok (.getfield 164, 3) := by decide +kernel
theorem dX8_atom3_127 : decode cX8_atom3 127 = .ok (.ifCond .ne 30, 3) := by decide +kernel
theorem dX8_atom3_130 : decode cX8_atom3 130 = .ok (.aload_n 0, 1) := by decide +kernel
theorem dX8_atom3_131 : decode cX8_atom3 131 = .ok (.getfield 149, 3) := by decide +kernel
theorem dX8_atom3_134 : decode cX8_atom3 134 = .ok (.iconst 1, 1) := by decide +kernel
theorem dX8_atom3_135 : decode cX8_atom3 135 = .ok (.if_icmp .ne 22, 3) := by decide +kernel
theorem dX8_atom3_138 : decode cX8_atom3 138 = .ok (.aload_n 0, 1) := by decide +kernel
theorem dX8_atom3_139 : decode cX8_atom3 139 = .ok (.invokevirtual 213, 3) := by decide +kernel
theorem dX8_atom3_142 : decode cX8_atom3 142 = .ok (.istore_n 1, 1) := by decide +kernel
theorem dX8_atom3_143 : decode cX8_atom3 143 = .ok (.aload_n 0, 1) := by decide +kernel
theorem dX8_atom3_144 : decode cX8_atom3 144 = .ok (.getfield 164, 3) := by decide +kernel
theorem dX8_atom3_147 : decode cX8_atom3 147 = .ok (.ifCond .ne 14, 3) := by decide +kernel
theorem dX8_atom3_150 : decode cX8_atom3 150 = .ok (.aload_n 0, 1) := by decide +kernel
theorem dX8_atom3_151 : decode cX8_atom3 151 = .ok (.invokevirtual 181, 3) := by decide +kernel
theorem dX8_atom3_154 : decode cX8_atom3 154 = .ok (.goto 7, 3) := by decide +kernel
theorem dX8_atom3_157 : decode cX8_atom3 157 = .ok (.aload_n 0, 1) := by decide +kernel
theorem dX8_atom3_158 : decode cX8_atom3 158 = .ok (.invokevirtual 178, 3) := by decide +kernel
theorem dX8_atom3_161 : decode cX8_atom3 161 = .ok (.iload_n 1, 1) := by decide +kernel
theorem dX8_atom3_162 : decode cX8_atom3 162 = .ok (.ireturn, 1) := by decide +kernel
set_option maxHeartbeats 4000000 in
set_option maxRecDepth 100000 in
theorem bb_X8_atom3_157 {p : Program} {l : Launch} {e : Env} {s : State} {m : MethodId} {args : Array Value} {below : List Frame} {meth : Method} {c : Code} {D : va_G} {cy : Nat → ClassId} {ad : Nat → Nat} {A : Nat → Prop} {Q : Int32 → Sg → Prop} (K : Kx p s m args meth c cX8_atom3 2 RX8 D cy) (hr : meth.sig.returnType = (some .int)) (x1 : Int32)  (g0 : Sg) (H : Heap) (locs : List Loc) (ls : Array Slot) (hd : vv_X8_atom3_J157 x1 g0 Q) (hw : Wd D A s.heap (wsM cy ad g0) H locs) (hl : lv_has ls 2 [(0, .ref (ad 0)), (1, .int x1)]) : W p l e (rmD 16) s m args below meth c H locs 0 0 (MQ below (va_Qi Q (PostG (wsM cy ad) D A) A) args s 0 0 A) (F0 m 157 ls []) := by
  unfold vv_X8_atom3_J157 at hd
  refine lv_aload_n K.1 K.2.1 dX8_atom3_157 rfl (lv_at hl 0 rfl) ?_
  refine rk_vv (As := []) (rest := []) K hw (cc_X8_fail l D cy ad A g0 _  hd) lk_X8_178 (ci := 8) rfl (q0 := 0) (wsM_at cy ad _ (by decide)) ⟨Nat.le_of_ble_eq_true rfl, Nat.le_of_ble_eq_true rfl⟩ ⟨Nat.zero_le _, Nat.zero_le _⟩ rfl hl.1 (Nat.le_of_ble_eq_true rfl) rfl dX8_atom3_158 (fun g_10 H locs hd hw => ?_)
  refine lv_iload_n K.1 K.2.1 dX8_atom3_161 rfl (lv_at hl 1 rfl) ?_
  exact rk_iret K hw hr hd dX8_atom3_162
set_option maxHeartbeats 4000000 in
set_option maxRecDepth 100000 in
theorem bb_X8_atom3_123 {p : Program} {l : Launch} {e : Env} {s : State} {m : MethodId} {args : Array Value} {below : List Frame} {meth : Method} {c : Code} {D : va_G} {cy : Nat → ClassId} {ad : Nat → Nat} {A : Nat → Prop} {Q : Int32 → Sg → Prop} (K : Kx p s m args meth c cX8_atom3 2 RX8 D cy) (hr : meth.sig.returnType = (some .int)) (x1 : Int32)  (g0 : Sg) (H : Heap) (locs : List Loc) (ls : Array Slot) (hd : vv_X8_atom3_J123 x1 g0 Q) (hw : Wd D A s.heap (wsM cy ad g0) H locs) (hl : lv_has ls 2 [(0, .ref (ad 0)), (1, .int x1)]) : W p l e (rmD 16) s m args below meth c H locs 0 0 (MQ below (va_Qi Q (PostG (wsM cy ad) D A) A) args s 0 0 A) (F0 m 123 ls []) := by
  unfold vv_X8_atom3_J123 at hd
  refine lv_aload_n K.1 K.2.1 dX8_atom3_123 rfl (lv_at hl 0 rfl) ?_
  refine rm_get 25 K hw (by decide) kf_X8_164 rfl dX8_atom3_124 ?_
  refine lv_if_ne (tgt := 157) K.1 K.2.1 dX8_atom3_127 (by decide) (fun h_9 => ?_) (fun h_9 => ?_)
  · have hd := hd.1 h_9
    exact bb_X8_atom3_157 K hr  x1 g0 _ _ _ hd hw (lv_sub hl [0, 1] rfl)
  · have hd := hd.2 h_9
    refine lv_aload_n K.1 K.2.1 dX8_atom3_130 rfl (lv_at hl 0 rfl) ?_
    refine rm_get 21 K hw (by decide) kf_X8_149 rfl dX8_atom3_131 ?_
    refine lv_iconst (v := (1 : Int32)) K.1 K.2.1 dX8_atom3_134 (by decide) ?_
    refine lv_icmp_ne (tgt := 157) K.1 K.2.1 dX8_atom3_135 (by decide) (fun h_12 => ?_) (fun h_12 => ?_)
    · have hd := hd.1 h_12
      exact bb_X8_atom3_157 K hr  x1 g0 _ _ _ hd hw (lv_sub hl [0, 1] rfl)
    · have hd := hd.2 h_12
      refine lv_aload_n K.1 K.2.1 dX8_atom3_138 rfl (lv_at hl 0 rfl) ?_
      refine rk_vi (As := []) (rest := []) K hw (cc_X8_name l D cy ad A g0 _  hd) lk_X8_213 (ci := 8) rfl (q0 := 0) (wsM_at cy ad _ (by decide)) ⟨Nat.le_of_ble_eq_true rfl, Nat.le_of_ble_eq_true rfl⟩ ⟨Nat.zero_le _, Nat.zero_le _⟩ rfl hl.1 (Nat.le_of_ble_eq_true rfl) rfl dX8_atom3_139 (fun r_14 g_13 H locs hd hw => ?_)
      refine lv_topi (fun x1_15 ex1_15 => ?_)
      have hd := hd x1_15 ex1_15
      refine lv_istore_n (lv' := [(1, .int x1_15), (0, .ref (ad 0))]) K.1 K.2.1 dX8_atom3_142 rfl hl (by decide) rfl (fun ls hl => ?_)
      refine lv_aload_n K.1 K.2.1 dX8_atom3_143 rfl (lv_at hl 1 rfl) ?_
      refine rm_get 25 K hw (by decide) kf_X8_164 rfl dX8_atom3_144 ?_
      refine lv_if_ne (tgt := 161) K.1 K.2.1 dX8_atom3_147 (by decide) (fun h_16 => ?_) (fun h_16 => ?_)
      · have hd := hd.1 h_16
        refine lv_iload_n K.1 K.2.1 dX8_atom3_161 rfl (lv_at hl 0 rfl) ?_
        exact rk_iret K hw hr hd dX8_atom3_162
      · have hd := hd.2 h_16
        refine lv_aload_n K.1 K.2.1 dX8_atom3_150 rfl (lv_at hl 1 rfl) ?_
        refine rk_vv (As := []) (rest := []) K hw (cc_X8_next l D cy ad A g_13 _  hd) lk_X8_181 (ci := 8) rfl (q0 := 0) (wsM_at cy ad _ (by decide)) ⟨Nat.le_of_ble_eq_true rfl, Nat.le_of_ble_eq_true rfl⟩ ⟨Nat.zero_le _, Nat.zero_le _⟩ rfl hl.1 (Nat.le_of_ble_eq_true rfl) rfl dX8_atom3_151 (fun g_17 H locs hd hw => ?_)
        refine lv_goto (tgt := 161) K.1 K.2.1 dX8_atom3_154 (by decide) ?_
        refine lv_iload_n K.1 K.2.1 dX8_atom3_161 rfl (lv_at hl 0 rfl) ?_
        exact rk_iret K hw hr hd dX8_atom3_162
set_option maxHeartbeats 4000000 in
set_option maxRecDepth 100000 in
theorem bb_X8_atom3_71 {p : Program} {l : Launch} {e : Env} {s : State} {m : MethodId} {args : Array Value} {below : List Frame} {meth : Method} {c : Code} {D : va_G} {cy : Nat → ClassId} {ad : Nat → Nat} {A : Nat → Prop} {Q : Int32 → Sg → Prop} (K : Kx p s m args meth c cX8_atom3 2 RX8 D cy) (hr : meth.sig.returnType = (some .int)) (x1 : Int32)  (g0 : Sg) (H : Heap) (locs : List Loc) (ls : Array Slot) (hd : vv_X8_atom3_J71 x1 g0 Q) (hw : Wd D A s.heap (wsM cy ad g0) H locs) (hl : lv_has ls 2 [(0, .ref (ad 0)), (1, .int x1)]) : W p l e (rmD 16) s m args below meth c H locs 0 0 (MQ below (va_Qi Q (PostG (wsM cy ad) D A) A) args s 0 0 A) (F0 m 71 ls []) := by
  unfold vv_X8_atom3_J71 at hd
  refine lv_aload_n K.1 K.2.1 dX8_atom3_71 rfl (lv_at hl 0 rfl) ?_
  refine lv_dup K.1 K.2.1 dX8_atom3_72 rfl ?_
  refine rm_get 24 K hw (by decide) kf_X8_175 rfl dX8_atom3_73 ?_
  refine lv_iconst (v := (1 : Int32)) K.1 K.2.1 dX8_atom3_76 (by decide) ?_
  refine lv_isub K.1 K.2.1 dX8_atom3_77 ?_
  refine rm_put 24 K hw (by decide) kf_X8_175 rfl rfl rfl rfl (fsM_24 ad g0 _) dX8_atom3_78 (fun g_32 eg_32 H locs hw => ?_)
  have hd := hd g_32 eg_32
  refine lv_aload_n K.1 K.2.1 dX8_atom3_81 rfl (lv_at hl 0 rfl) ?_
  refine rm_get 25 K hw (by decide) kf_X8_164 rfl dX8_atom3_82 ?_
  refine lv_if_ne (tgt := 161) K.1 K.2.1 dX8_atom3_85 (by decide) (fun h_33 => ?_) (fun h_33 => ?_)
  · have hd := hd.1 h_33
    refine lv_iload_n K.1 K.2.1 dX8_atom3_161 rfl (lv_at hl 1 rfl) ?_
    exact rk_iret K hw hr hd dX8_atom3_162
  · have hd := hd.2 h_33
    refine lv_aload_n K.1 K.2.1 dX8_atom3_88 rfl (lv_at hl 0 rfl) ?_
    refine rk_vv (As := []) (rest := []) K hw (cc_X8_next l D cy ad A g_32 _  hd) lk_X8_181 (ci := 8) rfl (q0 := 0) (wsM_at cy ad _ (by decide)) ⟨Nat.le_of_ble_eq_true rfl, Nat.le_of_ble_eq_true rfl⟩ ⟨Nat.zero_le _, Nat.zero_le _⟩ rfl hl.1 (Nat.le_of_ble_eq_true rfl) rfl dX8_atom3_89 (fun g_34 H locs hd hw => ?_)
    refine lv_goto (tgt := 161) K.1 K.2.1 dX8_atom3_92 (by decide) ?_
    refine lv_iload_n K.1 K.2.1 dX8_atom3_161 rfl (lv_at hl 1 rfl) ?_
    exact rk_iret K hw hr hd dX8_atom3_162
set_option maxHeartbeats 4000000 in
set_option maxRecDepth 100000 in
theorem cc_X8_atom3 (l : Launch) (D : va_G) (cy : Nat → ClassId) (ad : Nat → Nat) (A : Nat → Prop) (g0 : Sg) (Q : Int32 → Sg → Prop)  (hd : vv_X8_atom3  g0 Q) : Met l yX8_atom3 (Cond.code yX8_atom3 cX8_atom3 2 (some .int) :: TT) (rmD 16) (va_Pc [.ref (ad 0)] (PreG (wsM cy ad) D cy A g0)) (va_Qi Q (PostG (wsM cy ad) D A) A) 0 0 A := by
  unfold vv_X8_atom3 at hd
  refine Met.ofW (cc := cX8_atom3) (maxL := 2) (ret := (some .int)) (by decide) rfl ?_
  intro p e s m args below meth c s₁ B hml hv
  obtain ⟨rfl, hP, hK0, hD⟩ := hv
  have K : Kx p s m _ meth c cX8_atom3 2 RX8 D cy := ⟨B.exec, B.bytes, hml, findClass_of_methodNamed B.named, fun w h => atoms_spec (ws := Cond.code yX8_atom3 cX8_atom3 2 (some .int) :: TT) B.pre w (List.mem_cons_of_mem _ h), hK0, B.notSynchronized⟩
  have hw : Wd D A s.heap (wsM cy ad g0) s.heap [] := ⟨hP, hD, va_S.rf⟩
  have hr := B.returns
  have hl := lv_entry ([.ref (ad 0)]) (n := 2) (Nat.le_of_ble_eq_true rfl)
  rw [lg_entry_eq]
  generalize (lg_sl ([.ref (ad 0)]) ++ List.replicate (2 - (lg_sl ([.ref (ad 0)])).length) Slot.unset).toArray = ls at hl ⊢
  have hl : lv_has ls 2 [(0, .ref (ad 0))] := hl
  refine lv_iconst (v := (0 : Int32)) K.1 K.2.1 dX8_atom3_0 (by decide) ?_
  refine lv_topi (fun x1_1 ex1_1 => ?_)
  have hd := hd x1_1 ex1_1
  refine lv_istore_n (lv' := [(1, .int x1_1), (0, .ref (ad 0))]) K.1 K.2.1 dX8_atom3_1 rfl hl (by decide) rfl (fun ls hl => ?_)
  refine lv_aload_n K.1 K.2.1 dX8_atom3_2 rfl (lv_at hl 1 rfl) ?_
  refine lv_bipush (v := (45 : Int32)) K.1 K.2.1 dX8_atom3_3 (by decide) ?_
  refine rk_vi (As := [.int (45 : Int32)]) (rest := []) K hw (cc_X8_isSign l D cy ad A g0 _ (45 : Int32) hd) lk_X8_206 (ci := 8) rfl (q0 := 0) (wsM_at cy ad _ (by decide)) ⟨Nat.le_of_ble_eq_true rfl, Nat.le_of_ble_eq_true rfl⟩ ⟨Nat.zero_le _, Nat.zero_le _⟩ rfl hl.1 (Nat.le_of_ble_eq_true rfl) rfl dX8_atom3_5 (fun r_3 g_2 H locs hd hw => ?_)
  refine lv_if_eq (tgt := 37) K.1 K.2.1 dX8_atom3_8 (by decide) (fun h_4 => ?_) (fun h_4 => ?_)
  · have hd := hd.1 h_4
    refine lv_aload_n K.1 K.2.1 dX8_atom3_37 rfl (lv_at hl 1 rfl) ?_
    refine lv_bipush (v := (40 : Int32)) K.1 K.2.1 dX8_atom3_38 (by decide) ?_
    refine rk_vi (As := [.int (40 : Int32)]) (rest := []) K hw (cc_X8_isSign l D cy ad A g_2 _ (40 : Int32) hd) lk_X8_206 (ci := 8) rfl (q0 := 0) (wsM_at cy ad _ (by decide)) ⟨Nat.le_of_ble_eq_true rfl, Nat.le_of_ble_eq_true rfl⟩ ⟨Nat.zero_le _, Nat.zero_le _⟩ rfl hl.1 (Nat.le_of_ble_eq_true rfl) rfl dX8_atom3_40 (fun r_6 g_5 H locs hd hw => ?_)
    refine lv_if_eq (tgt := 95) K.1 K.2.1 dX8_atom3_43 (by decide) (fun h_7 => ?_) (fun h_7 => ?_)
    · have hd := hd.1 h_7
      refine lv_aload_n K.1 K.2.1 dX8_atom3_95 rfl (lv_at hl 1 rfl) ?_
      refine rm_get 25 K hw (by decide) kf_X8_164 rfl dX8_atom3_96 ?_
      refine lv_if_ne (tgt := 123) K.1 K.2.1 dX8_atom3_99 (by decide) (fun h_8 => ?_) (fun h_8 => ?_)
      · have hd := hd.1 h_8
        exact bb_X8_atom3_123 K hr  x1_1 g_5 _ _ _ hd hw (lv_sub hl [1, 0] rfl)
      · have hd := hd.2 h_8
        refine lv_aload_n K.1 K.2.1 dX8_atom3_102 rfl (lv_at hl 1 rfl) ?_
        refine rm_get 21 K hw (by decide) kf_X8_149 rfl dX8_atom3_103 ?_
        refine lv_iconst (v := (2 : Int32)) K.1 K.2.1 dX8_atom3_106 (by decide) ?_
        refine lv_icmp_ne (tgt := 123) K.1 K.2.1 dX8_atom3_107 (by decide) (fun h_19 => ?_) (fun h_19 => ?_)
        · have hd := hd.1 h_19
          exact bb_X8_atom3_123 K hr  x1_1 g_5 _ _ _ hd hw (lv_sub hl [1, 0] rfl)
        · have hd := hd.2 h_19
          refine lv_aload_n K.1 K.2.1 dX8_atom3_110 rfl (lv_at hl 1 rfl) ?_
          refine rm_get 23 K hw (by decide) kf_X8_160 rfl dX8_atom3_111 ?_
          refine lv_l2i (v := (g_5 0 23).toInt64.toInt32) K.1 K.2.1 dX8_atom3_114 rfl ?_
          refine lv_topi (fun x1_20 ex1_20 => ?_)
          have hd := hd x1_20 ex1_20
          refine lv_istore_n (lv' := [(1, .int x1_20), (0, .ref (ad 0))]) K.1 K.2.1 dX8_atom3_115 rfl hl (by decide) rfl (fun ls hl => ?_)
          refine lv_aload_n K.1 K.2.1 dX8_atom3_116 rfl (lv_at hl 1 rfl) ?_
          refine rk_vv (As := []) (rest := []) K hw (cc_X8_next l D cy ad A g_5 _  hd) lk_X8_181 (ci := 8) rfl (q0 := 0) (wsM_at cy ad _ (by decide)) ⟨Nat.le_of_ble_eq_true rfl, Nat.le_of_ble_eq_true rfl⟩ ⟨Nat.zero_le _, Nat.zero_le _⟩ rfl hl.1 (Nat.le_of_ble_eq_true rfl) rfl dX8_atom3_117 (fun g_21 H locs hd hw => ?_)
          refine lv_goto (tgt := 161) K.1 K.2.1 dX8_atom3_120 (by decide) ?_
          refine lv_iload_n K.1 K.2.1 dX8_atom3_161 rfl (lv_at hl 0 rfl) ?_
          exact rk_iret K hw hr hd dX8_atom3_162
    · have hd := hd.2 h_7
      refine lv_aload_n K.1 K.2.1 dX8_atom3_46 rfl (lv_at hl 1 rfl) ?_
      refine rk_vi (As := []) (rest := []) K hw (cc_X8_opens l D cy ad A g_5 _  hd) lk_X8_209 (ci := 8) rfl (q0 := 0) (wsM_at cy ad _ (by decide)) ⟨Nat.le_of_ble_eq_true rfl, Nat.le_of_ble_eq_true rfl⟩ ⟨Nat.zero_le _, Nat.zero_le _⟩ rfl hl.1 (Nat.le_of_ble_eq_true rfl) rfl dX8_atom3_47 (fun r_24 g_23 H locs hd hw => ?_)
      refine lv_if_eq (tgt := 161) K.1 K.2.1 dX8_atom3_50 (by decide) (fun h_25 => ?_) (fun h_25 => ?_)
      · have hd := hd.1 h_25
        refine lv_iload_n K.1 K.2.1 dX8_atom3_161 rfl (lv_at hl 0 rfl) ?_
        exact rk_iret K hw hr hd dX8_atom3_162
      · have hd := hd.2 h_25
        refine lv_aload_n K.1 K.2.1 dX8_atom3_53 rfl (lv_at hl 1 rfl) ?_
        refine rk_vi (As := []) (rest := []) K hw (cc_X8_either4 l D cy ad A g_23 _  hd) lk_X8_254 (ci := 8) rfl (q0 := 0) (wsM_at cy ad _ (by decide)) ⟨Nat.le_of_ble_eq_true rfl, Nat.le_of_ble_eq_true rfl⟩ ⟨Nat.zero_le _, Nat.zero_le _⟩ rfl hl.1 (Nat.le_of_ble_eq_true rfl) rfl dX8_atom3_54 (fun r_27 g_26 H locs hd hw => ?_)
        refine lv_topi (fun x1_28 ex1_28 => ?_)
        have hd := hd x1_28 ex1_28
        refine lv_istore_n (lv' := [(1, .int x1_28), (0, .ref (ad 0))]) K.1 K.2.1 dX8_atom3_57 rfl hl (by decide) rfl (fun ls hl => ?_)
        refine lv_aload_n K.1 K.2.1 dX8_atom3_58 rfl (lv_at hl 1 rfl) ?_
        refine lv_bipush (v := (41 : Int32)) K.1 K.2.1 dX8_atom3_59 (by decide) ?_
        refine rk_vi (As := [.int (41 : Int32)]) (rest := []) K hw (cc_X8_isSign l D cy ad A g_26 _ (41 : Int32) hd) lk_X8_206 (ci := 8) rfl (q0 := 0) (wsM_at cy ad _ (by decide)) ⟨Nat.le_of_ble_eq_true rfl, Nat.le_of_ble_eq_true rfl⟩ ⟨Nat.zero_le _, Nat.zero_le _⟩ rfl hl.1 (Nat.le_of_ble_eq_true rfl) rfl dX8_atom3_61 (fun r_30 g_29 H locs hd hw => ?_)
        refine lv_if_ne (tgt := 71) K.1 K.2.1 dX8_atom3_64 (by decide) (fun h_31 => ?_) (fun h_31 => ?_)
        · have hd := hd.1 h_31
          exact bb_X8_atom3_71 K hr  x1_28 g_29 _ _ _ hd hw (lv_sub hl [1, 0] rfl)
        · have hd := hd.2 h_31
          refine lv_aload_n K.1 K.2.1 dX8_atom3_67 rfl (lv_at hl 1 rfl) ?_
          refine rk_vv (As := []) (rest := []) K hw (cc_X8_fail l D cy ad A g_29 _  hd) lk_X8_178 (ci := 8) rfl (q0 := 0) (wsM_at cy ad _ (by decide)) ⟨Nat.le_of_ble_eq_true rfl, Nat.le_of_ble_eq_true rfl⟩ ⟨Nat.zero_le _, Nat.zero_le _⟩ rfl hl.1 (Nat.le_of_ble_eq_true rfl) rfl dX8_atom3_68 (fun g_36 H locs hd hw => ?_)
          exact bb_X8_atom3_71 K hr  x1_28 g_36 _ _ _ hd hw (lv_sub hl [1, 0] rfl)
  · have hd := hd.2 h_4
    refine lv_aload_n K.1 K.2.1 dX8_atom3_11 rfl (lv_at hl 1 rfl) ?_
    refine rk_vi (As := []) (rest := []) K hw (cc_X8_opens l D cy ad A g_2 _  hd) lk_X8_209 (ci := 8) rfl (q0 := 0) (wsM_at cy ad _ (by decide)) ⟨Nat.le_of_ble_eq_true rfl, Nat.le_of_ble_eq_true rfl⟩ ⟨Nat.zero_le _, Nat.zero_le _⟩ rfl hl.1 (Nat.le_of_ble_eq_true rfl) rfl dX8_atom3_12 (fun r_39 g_38 H locs hd hw => ?_)
    refine lv_if_eq (tgt := 161) K.1 K.2.1 dX8_atom3_15 (by decide) (fun h_40 => ?_) (fun h_40 => ?_)
    · have hd := hd.1 h_40
      refine lv_iload_n K.1 K.2.1 dX8_atom3_161 rfl (lv_at hl 0 rfl) ?_
      exact rk_iret K hw hr hd dX8_atom3_162
    · have hd := hd.2 h_40
      refine lv_aload_n K.1 K.2.1 dX8_atom3_18 rfl (lv_at hl 1 rfl) ?_
      refine rk_vi (As := []) (rest := []) K hw (cc_X8_atom4 l D cy ad A g_38 _  hd) lk_X8_239 (ci := 8) rfl (q0 := 0) (wsM_at cy ad _ (by decide)) ⟨Nat.le_of_ble_eq_true rfl, Nat.le_of_ble_eq_true rfl⟩ ⟨Nat.zero_le _, Nat.zero_le _⟩ rfl hl.1 (Nat.le_of_ble_eq_true rfl) rfl dX8_atom3_19 (fun r_42 g_41 H locs hd hw => ?_)
      refine lv_ineg K.1 K.2.1 dX8_atom3_22 ?_
      refine lv_topi (fun x1_43 ex1_43 => ?_)
      have hd := hd x1_43 ex1_43
      refine lv_istore_n (lv' := [(1, .int x1_43), (0, .ref (ad 0))]) K.1 K.2.1 dX8_atom3_23 rfl hl (by decide) rfl (fun ls hl => ?_)
      refine lv_aload_n K.1 K.2.1 dX8_atom3_24 rfl (lv_at hl 1 rfl) ?_
      refine lv_dup K.1 K.2.1 dX8_atom3_25 rfl ?_
      refine rm_get 24 K hw (by decide) kf_X8_175 rfl dX8_atom3_26 ?_
      refine lv_iconst (v := (1 : Int32)) K.1 K.2.1 dX8_atom3_29 (by decide) ?_
      refine lv_isub K.1 K.2.1 dX8_atom3_30 ?_
      refine rm_put 24 K hw (by decide) kf_X8_175 rfl rfl rfl rfl (fsM_24 ad g_41 _) dX8_atom3_31 (fun g_44 eg_44 H locs hw => ?_)
      have hd := hd g_44 eg_44
      refine lv_goto (tgt := 161) K.1 K.2.1 dX8_atom3_34 (by decide) ?_
      refine lv_iload_n K.1 K.2.1 dX8_atom3_161 rfl (lv_at hl 0 rfl) ?_
      exact rk_iret K hw hr hd dX8_atom3_162
theorem dX8_term3_0 : decode cX8_term3 0 = .ok (.aload_n 0, 1) := by decide +kernel
theorem dX8_term3_1 : decode cX8_term3 1 = .ok (.invokevirtual 257, 3) := by decide +kernel
theorem dX8_term3_4 : decode cX8_term3 4 = .ok (.istore_n 1, 1) := by decide +kernel
theorem dX8_term3_5 : decode cX8_term3 5 = .ok (.aload_n 0, 1) := by decide +kernel
theorem dX8_term3_6 : decode cX8_term3 6 = .ok (.bipush 42, 2) := by decide +kernel
theorem dX8_term3_8 : decode cX8_term3 8 = .ok (.invokevirtual 206, 3) := by decide +kernel
theorem dX8_term3_11 : decode cX8_term3 11 = .ok (.ifCond .eq 17, 3) := by decide +kernel
theorem dX8_term3_14 : decode cX8_term3 14 = .ok (.aload_n 0, 1) := by decide +kernel
theorem dX8_term3_15 : decode cX8_term3 15 = .ok (.invokevirtual 181, 3) := by decide +kernel
theorem dX8_term3_18 : decode cX8_term3 18 = .ok (.iload_n 1, 1) := by decide +kernel
theorem dX8_term3_19 : decode cX8_term3 19 = .ok (.aload_n 0, 1) := by decide +kernel
theorem dX8_term3_20 : decode cX8_term3 20 = .ok (.invokevirtual 257, 3) := by decide +kernel
theorem dX8_term3_23 : decode cX8_term3 23 = .ok (.imul, 1) := by decide +kernel
theorem dX8_term3_24 : decode cX8_term3 24 = .ok (.istore_n 1, 1) := by decide +kernel
theorem dX8_term3_25 : decode cX8_term3 25 = .ok (.goto (-20), 3) := by decide +kernel
theorem dX8_term3_28 : decode cX8_term3 28 = .ok (.iload_n 1, 1) := by decide +kernel
theorem dX8_term3_29 : decode cX8_term3 29 = .ok (.ireturn, 1) := by decide +kernel
set_option maxHeartbeats 4000000 in
set_option maxRecDepth 100000 in
theorem bb_X8_term3_5 {p : Program} {l : Launch} {e : Env} {s : State} {m : MethodId} {args : Array Value} {below : List Frame} {meth : Method} {c : Code} {D : va_G} {cy : Nat → ClassId} {ad : Nat → Nat} {A : Nat → Prop} {Q : Int32 → Sg → Prop} (K : Kx p s m args meth c cX8_term3 2 RX8 D cy) (hr : meth.sig.returnType = (some .int)) : ∀ (n : Nat) (x1 : Int32)  (g0 : Sg) (H : Heap) (locs : List Loc) (ls : Array Slot), vv_X8_term3_L5 Q n x1 g0 → Wd D A s.heap (wsM cy ad g0) H locs → lv_has ls 2 [(0, .ref (ad 0)), (1, .int x1)] → W p l e (rmD 17) s m args below meth c H locs 0 0 (MQ below (va_Qi Q (PostG (wsM cy ad) D A) A) args s 0 0 A) (F0 m 5 ls []) := by
  intro n
  induction n with
  | zero => intro _ _ _ _ _ hd; exact hd.elim
  | succ n ih =>
    intro x1 g0 H locs ls hd hw hl
    unfold vv_X8_term3_L5 at hd
    refine lv_aload_n K.1 K.2.1 dX8_term3_5 rfl (lv_at hl 0 rfl) ?_
    refine lv_bipush (v := (42 : Int32)) K.1 K.2.1 dX8_term3_6 (by decide) ?_
    refine rk_vi (As := [.int (42 : Int32)]) (rest := []) K hw (cc_X8_isSign l D cy ad A g0 _ (42 : Int32) hd) lk_X8_206 (ci := 8) rfl (q0 := 0) (wsM_at cy ad _ (by decide)) ⟨Nat.le_of_ble_eq_true rfl, Nat.le_of_ble_eq_true rfl⟩ ⟨Nat.zero_le _, Nat.zero_le _⟩ rfl hl.1 (Nat.le_of_ble_eq_true rfl) rfl dX8_term3_8 (fun r_5 g_4 H locs hd hw => ?_)
    refine lv_if_eq (tgt := 28) K.1 K.2.1 dX8_term3_11 (by decide) (fun h_6 => ?_) (fun h_6 => ?_)
    · have hd := hd.1 h_6
      refine lv_iload_n K.1 K.2.1 dX8_term3_28 rfl (lv_at hl 1 rfl) ?_
      exact rk_iret K hw hr hd dX8_term3_29
    · have hd := hd.2 h_6
      refine lv_aload_n K.1 K.2.1 dX8_term3_14 rfl (lv_at hl 0 rfl) ?_
      refine rk_vv (As := []) (rest := []) K hw (cc_X8_next l D cy ad A g_4 _  hd) lk_X8_181 (ci := 8) rfl (q0 := 0) (wsM_at cy ad _ (by decide)) ⟨Nat.le_of_ble_eq_true rfl, Nat.le_of_ble_eq_true rfl⟩ ⟨Nat.zero_le _, Nat.zero_le _⟩ rfl hl.1 (Nat.le_of_ble_eq_true rfl) rfl dX8_term3_15 (fun g_7 H locs hd hw => ?_)
      refine lv_iload_n K.1 K.2.1 dX8_term3_18 rfl (lv_at hl 1 rfl) ?_
      refine lv_aload_n K.1 K.2.1 dX8_term3_19 rfl (lv_at hl 0 rfl) ?_
      refine rk_vi (As := []) (rest := [.int x1]) K hw (cc_X8_atom3 l D cy ad A g_7 _  hd) lk_X8_257 (ci := 8) rfl (q0 := 0) (wsM_at cy ad _ (by decide)) ⟨Nat.le_of_ble_eq_true rfl, Nat.le_of_ble_eq_true rfl⟩ ⟨Nat.zero_le _, Nat.zero_le _⟩ rfl hl.1 (Nat.le_of_ble_eq_true rfl) rfl dX8_term3_20 (fun r_10 g_9 H locs hd hw => ?_)
      refine lv_imul K.1 K.2.1 dX8_term3_23 ?_
      refine lv_topi (fun x1_11 ex1_11 => ?_)
      have hd := hd x1_11 ex1_11
      refine lv_istore_n (lv' := [(1, .int x1_11), (0, .ref (ad 0))]) K.1 K.2.1 dX8_term3_24 rfl hl (by decide) rfl (fun ls hl => ?_)
      refine lv_goto (tgt := 5) K.1 K.2.1 dX8_term3_25 (by decide) ?_
      exact ih x1_11 g_9 _ _ _ hd hw (lv_sub hl [1, 0] rfl)
set_option maxHeartbeats 4000000 in
set_option maxRecDepth 100000 in
theorem cc_X8_term3 (l : Launch) (D : va_G) (cy : Nat → ClassId) (ad : Nat → Nat) (A : Nat → Prop) (g0 : Sg) (Q : Int32 → Sg → Prop)  (hd : vv_X8_term3  g0 Q) : Met l yX8_term3 (Cond.code yX8_term3 cX8_term3 2 (some .int) :: TT) (rmD 17) (va_Pc [.ref (ad 0)] (PreG (wsM cy ad) D cy A g0)) (va_Qi Q (PostG (wsM cy ad) D A) A) 0 0 A := by
  unfold vv_X8_term3 at hd
  refine Met.ofW (cc := cX8_term3) (maxL := 2) (ret := (some .int)) (by decide) rfl ?_
  intro p e s m args below meth c s₁ B hml hv
  obtain ⟨rfl, hP, hK0, hD⟩ := hv
  have K : Kx p s m _ meth c cX8_term3 2 RX8 D cy := ⟨B.exec, B.bytes, hml, findClass_of_methodNamed B.named, fun w h => atoms_spec (ws := Cond.code yX8_term3 cX8_term3 2 (some .int) :: TT) B.pre w (List.mem_cons_of_mem _ h), hK0, B.notSynchronized⟩
  have hw : Wd D A s.heap (wsM cy ad g0) s.heap [] := ⟨hP, hD, va_S.rf⟩
  have hr := B.returns
  have hl := lv_entry ([.ref (ad 0)]) (n := 2) (Nat.le_of_ble_eq_true rfl)
  rw [lg_entry_eq]
  generalize (lg_sl ([.ref (ad 0)]) ++ List.replicate (2 - (lg_sl ([.ref (ad 0)])).length) Slot.unset).toArray = ls at hl ⊢
  have hl : lv_has ls 2 [(0, .ref (ad 0))] := hl
  refine lv_aload_n K.1 K.2.1 dX8_term3_0 rfl (lv_at hl 0 rfl) ?_
  refine rk_vi (As := []) (rest := []) K hw (cc_X8_atom3 l D cy ad A g0 _  hd) lk_X8_257 (ci := 8) rfl (q0 := 0) (wsM_at cy ad _ (by decide)) ⟨Nat.le_of_ble_eq_true rfl, Nat.le_of_ble_eq_true rfl⟩ ⟨Nat.zero_le _, Nat.zero_le _⟩ rfl hl.1 (Nat.le_of_ble_eq_true rfl) rfl dX8_term3_1 (fun r_2 g_1 H locs hd hw => ?_)
  refine lv_topi (fun x1_3 ex1_3 => ?_)
  have hd := hd x1_3 ex1_3
  refine lv_istore_n (lv' := [(1, .int x1_3), (0, .ref (ad 0))]) K.1 K.2.1 dX8_term3_4 rfl hl (by decide) rfl (fun ls hl => ?_)
  obtain ⟨n9, hd⟩ := hd
  exact bb_X8_term3_5 K hr  n9 x1_3 g_1 _ _ _ hd hw (lv_sub hl [1, 0] rfl)
theorem dX8_added3_0 : decode cX8_added3 0 = .ok (.aload_n 0, 1) := by decide +kernel
theorem dX8_added3_1 : decode cX8_added3 1 = .ok (.invokevirtual 260, 3) := by decide +kernel
theorem dX8_added3_4 : decode cX8_added3 4 = .ok (.istore_n 1, 1) := by decide +kernel
theorem dX8_added3_5 : decode cX8_added3 5 = .ok (.aload_n 0, 1) := by decide +kernel
theorem dX8_added3_6 : decode cX8_added3 6 = .ok (.bipush 43, 2) := by decide +kernel
theorem dX8_added3_8 : decode cX8_added3 8 = .ok (.invokevirtual 206, 3) := by decide +kernel
theorem dX8_added3_11 : decode cX8_added3 11 = .ok (.ifCond .ne 12, 3) := by decide +kernel
theorem dX8_added3_14 : decode cX8_added3 14 = .ok (.aload_n 0, 1) := by decide +kernel
theorem dX8_added3_15 : decode cX8_added3 15 = .ok (.bipush 45, 2) := by decide +kernel
theorem dX8_added3_17 : decode cX8_added3 17 = .ok (.invokevirtual 206, 3) := by decide +kernel
theorem dX8_added3_20 : decode cX8_added3 20 = .ok (.ifCond .eq 46, 3) := by decide +kernel
theorem dX8_added3_23 : decode cX8_added3 23 = .ok (.aload_n 0, 1) := by decide +kernel
theorem dX8_added3_24 : decode cX8_added3 24 = .ok (.getfield 160, 3) := by decide +kernel
theorem dX8_added3_27 : decode cX8_added3 27 = .ok (.ldc2_w 223, 3) := by decide +kernel
theorem dX8_added3_30 : decode cX8_added3 30 = .ok (.lcmp, 1) := by decide +kernel
theorem dX8_added3_31 : decode cX8_added3 31 = .ok (.ifCond .ne 7, 3) := by decide +kernel
theorem dX8_added3_34 : decode cX8_added3 34 = .ok (.iconst 1, 1) := by decide +kernel
theorem dX8_added3_35 : decode cX8_added3 35 = .ok (.goto 4, 3) := by decide +kernel
theorem dX8_added3_38 : decode cX8_added3 38 = .ok (.iconst 0, 1) := by decide +kernel
theorem dX8_added3_39 : decode cX8_added3 39 = .ok (.istore_n 2, 1) := by decide +kernel
theorem dX8_added3_40 : decode cX8_added3 40 = .ok (.aload_n 0, 1) := by decide +kernel
theorem dX8_added3_41 : decode cX8_added3 41 = .ok (.invokevirtual 181, 3) := by decide +kernel
theorem dX8_added3_44 : decode cX8_added3 44 = .ok (.aload_n 0, 1) := by decide +kernel
theorem dX8_added3_45 : decode cX8_added3 45 = .ok (.invokevirtual 260, 3) := by decide +kernel
theorem dX8_added3_48 : decode cX8_added3 48 = .ok (.istore_n 3, 1) := by decide +kernel
theorem dX8_added3_49 : decode cX8_added3 49 = .ok (.iload_n 2, 1) := by decide +kernel
theorem dX8_added3_50 : decode cX8_added3 50 = .ok (.ifCond .eq 9, 3) := by decide +kernel
theorem dX8_added3_53 : decode cX8_added3 53 = .ok (.iload_n 1, 1) := by decide +kernel
theorem dX8_added3_54 : decode cX8_added3 54 = .ok (.iload_n 3, 1) := by decide +kernel
theorem dX8_added3_55 : decode cX8_added3 55 = .ok (.iadd, 1) := by decide +kernel
theorem dX8_added3_56 : decode cX8_added3 56 = .ok (.goto 6, 3) := by decide +kernel
theorem dX8_added3_59 : decode cX8_added3 59 = .ok (.iload_n 1, 1) := by decide +kernel
theorem dX8_added3_60 : decode cX8_added3 60 = .ok (.iload_n 3, 1) := by decide +kernel
theorem dX8_added3_61 : decode cX8_added3 61 = .ok (.isub, 1) := by decide +kernel
theorem dX8_added3_62 : decode cX8_added3 62 = .ok (.istore_n 1, 1) := by decide +kernel
theorem dX8_added3_63 : decode cX8_added3 63 = .ok (.goto (-58), 3) := by decide +kernel
theorem dX8_added3_66 : decode cX8_added3 66 = .ok (.iload_n 1, 1) := by decide +kernel
theorem dX8_added3_67 : decode cX8_added3 67 = .ok (.ireturn, 1) := by decide +kernel
set_option maxHeartbeats 4000000 in
set_option maxRecDepth 100000 in
theorem bb_X8_added3_62 {p : Program} {l : Launch} {e : Env} {s : State} {m : MethodId} {args : Array Value} {below : List Frame} {meth : Method} {c : Code} {D : va_G} {cy : Nat → ClassId} {ad : Nat → Nat} {A : Nat → Prop} {Q : Int32 → Sg → Prop} (K : Kx p s m args meth c cX8_added3 4 RX8 D cy) (hr : meth.sig.returnType = (some .int)) {rc5 : Int32 → Sg → Prop} (hrc5 : ∀ (x1 : Int32) (u : Sg) (H : Heap) (locs : List Loc) (ls : Array Slot), rc5 x1 u → Wd D A s.heap (wsM cy ad u) H locs → lv_has ls 4 [(0, .ref (ad 0)), (1, .int x1)] → W p l e (rmD 18) s m args below meth c H locs 0 0 (MQ below (va_Qi Q (PostG (wsM cy ad) D A) A) args s 0 0 A) (F0 m 5 ls []))  (t0 : Int32) (g0 : Sg) (H : Heap) (locs : List Loc) (ls : Array Slot) (hd : vv_X8_added3_J62 rc5 t0 g0 Q) (hw : Wd D A s.heap (wsM cy ad g0) H locs) (hl : lv_has ls 4 [(0, .ref (ad 0))]) : W p l e (rmD 18) s m args below meth c H locs 0 0 (MQ below (va_Qi Q (PostG (wsM cy ad) D A) A) args s 0 0 A) (F0 m 62 ls [.int t0]) := by
  unfold vv_X8_added3_J62 at hd
  refine lv_topi (fun x1_15 ex1_15 => ?_)
  have hd := hd x1_15 ex1_15
  refine lv_istore_n (lv' := [(1, .int x1_15), (0, .ref (ad 0))]) K.1 K.2.1 dX8_added3_62 rfl hl (by decide) rfl (fun ls hl => ?_)
  refine lv_goto (tgt := 5) K.1 K.2.1 dX8_added3_63 (by decide) ?_
  exact hrc5 x1_15 g0 _ _ _ hd hw (lv_sub hl [1, 0] rfl)
set_option maxHeartbeats 4000000 in
set_option maxRecDepth 100000 in
theorem bb_X8_added3_39 {p : Program} {l : Launch} {e : Env} {s : State} {m : MethodId} {args : Array Value} {below : List Frame} {meth : Method} {c : Code} {D : va_G} {cy : Nat → ClassId} {ad : Nat → Nat} {A : Nat → Prop} {Q : Int32 → Sg → Prop} (K : Kx p s m args meth c cX8_added3 4 RX8 D cy) (hr : meth.sig.returnType = (some .int)) {rc5 : Int32 → Sg → Prop} (hrc5 : ∀ (x1 : Int32) (u : Sg) (H : Heap) (locs : List Loc) (ls : Array Slot), rc5 x1 u → Wd D A s.heap (wsM cy ad u) H locs → lv_has ls 4 [(0, .ref (ad 0)), (1, .int x1)] → W p l e (rmD 18) s m args below meth c H locs 0 0 (MQ below (va_Qi Q (PostG (wsM cy ad) D A) A) args s 0 0 A) (F0 m 5 ls [])) (x1 : Int32) (t0 : Int32) (g0 : Sg) (H : Heap) (locs : List Loc) (ls : Array Slot) (hd : vv_X8_added3_J39 rc5 x1 t0 g0 Q) (hw : Wd D A s.heap (wsM cy ad g0) H locs) (hl : lv_has ls 4 [(0, .ref (ad 0)), (1, .int x1)]) : W p l e (rmD 18) s m args below meth c H locs 0 0 (MQ below (va_Qi Q (PostG (wsM cy ad) D A) A) args s 0 0 A) (F0 m 39 ls [.int t0]) := by
  unfold vv_X8_added3_J39 at hd
  refine lv_topi (fun x2_8 ex2_8 => ?_)
  have hd := hd x2_8 ex2_8
  refine lv_istore_n (lv' := [(2, .int x2_8), (0, .ref (ad 0)), (1, .int x1)]) K.1 K.2.1 dX8_added3_39 rfl hl (by decide) rfl (fun ls hl => ?_)
  refine lv_aload_n K.1 K.2.1 dX8_added3_40 rfl (lv_at hl 1 rfl) ?_
  refine rk_vv (As := []) (rest := []) K hw (cc_X8_next l D cy ad A g0 _  hd) lk_X8_181 (ci := 8) rfl (q0 := 0) (wsM_at cy ad _ (by decide)) ⟨Nat.le_of_ble_eq_true rfl, Nat.le_of_ble_eq_true rfl⟩ ⟨Nat.zero_le _, Nat.zero_le _⟩ rfl hl.1 (Nat.le_of_ble_eq_true rfl) rfl dX8_added3_41 (fun g_9 H locs hd hw => ?_)
  refine lv_aload_n K.1 K.2.1 dX8_added3_44 rfl (lv_at hl 1 rfl) ?_
  refine rk_vi (As := []) (rest := []) K hw (cc_X8_term3 l D cy ad A g_9 _  hd) lk_X8_260 (ci := 8) rfl (q0 := 0) (wsM_at cy ad _ (by decide)) ⟨Nat.le_of_ble_eq_true rfl, Nat.le_of_ble_eq_true rfl⟩ ⟨Nat.zero_le _, Nat.zero_le _⟩ rfl hl.1 (Nat.le_of_ble_eq_true rfl) rfl dX8_added3_45 (fun r_12 g_11 H locs hd hw => ?_)
  refine lv_topi (fun x3_13 ex3_13 => ?_)
  have hd := hd x3_13 ex3_13
  refine lv_istore_n (lv' := [(3, .int x3_13), (2, .int x2_8), (0, .ref (ad 0)), (1, .int x1)]) K.1 K.2.1 dX8_added3_48 rfl hl (by decide) rfl (fun ls hl => ?_)
  refine lv_iload_n K.1 K.2.1 dX8_added3_49 rfl (lv_at hl 1 rfl) ?_
  refine lv_if_eq (tgt := 59) K.1 K.2.1 dX8_added3_50 (by decide) (fun h_14 => ?_) (fun h_14 => ?_)
  · have hd := hd.1 h_14
    refine lv_iload_n K.1 K.2.1 dX8_added3_59 rfl (lv_at hl 3 rfl) ?_
    refine lv_iload_n K.1 K.2.1 dX8_added3_60 rfl (lv_at hl 0 rfl) ?_
    refine lv_isub K.1 K.2.1 dX8_added3_61 ?_
    exact bb_X8_added3_62 K hr hrc5 (x1 - x3_13) g_11 _ _ _ hd hw (lv_sub hl [2] rfl)
  · have hd := hd.2 h_14
    refine lv_iload_n K.1 K.2.1 dX8_added3_53 rfl (lv_at hl 3 rfl) ?_
    refine lv_iload_n K.1 K.2.1 dX8_added3_54 rfl (lv_at hl 0 rfl) ?_
    refine lv_iadd K.1 K.2.1 dX8_added3_55 ?_
    refine lv_goto (tgt := 62) K.1 K.2.1 dX8_added3_56 (by decide) ?_
    exact bb_X8_added3_62 K hr hrc5 (x1 + x3_13) g_11 _ _ _ hd hw (lv_sub hl [2] rfl)
set_option maxHeartbeats 4000000 in
set_option maxRecDepth 100000 in
theorem bb_X8_added3_23 {p : Program} {l : Launch} {e : Env} {s : State} {m : MethodId} {args : Array Value} {below : List Frame} {meth : Method} {c : Code} {D : va_G} {cy : Nat → ClassId} {ad : Nat → Nat} {A : Nat → Prop} {Q : Int32 → Sg → Prop} (K : Kx p s m args meth c cX8_added3 4 RX8 D cy) (hr : meth.sig.returnType = (some .int)) {rc5 : Int32 → Sg → Prop} (hrc5 : ∀ (x1 : Int32) (u : Sg) (H : Heap) (locs : List Loc) (ls : Array Slot), rc5 x1 u → Wd D A s.heap (wsM cy ad u) H locs → lv_has ls 4 [(0, .ref (ad 0)), (1, .int x1)] → W p l e (rmD 18) s m args below meth c H locs 0 0 (MQ below (va_Qi Q (PostG (wsM cy ad) D A) A) args s 0 0 A) (F0 m 5 ls [])) (x1 : Int32)  (g0 : Sg) (H : Heap) (locs : List Loc) (ls : Array Slot) (hd : vv_X8_added3_J23 rc5 x1 g0 Q) (hw : Wd D A s.heap (wsM cy ad g0) H locs) (hl : lv_has ls 4 [(0, .ref (ad 0)), (1, .int x1)]) : W p l e (rmD 18) s m args below meth c H locs 0 0 (MQ below (va_Qi Q (PostG (wsM cy ad) D A) A) args s 0 0 A) (F0 m 23 ls []) := by
  unfold vv_X8_added3_J23 at hd
  refine lv_aload_n K.1 K.2.1 dX8_added3_23 rfl (lv_at hl 0 rfl) ?_
  refine rm_get 23 K hw (by decide) kf_X8_160 rfl dX8_added3_24 ?_
  refine lv_ldc2 K.1 K.2.1 K.2.2.2.1 (K.2.2.2.2.1 _ kl_X8_223) dX8_added3_27 ?_
  refine W.lcmp K.1 K.2.1 dX8_added3_30 ?_
  refine lv_if_ne (tgt := 38) K.1 K.2.1 dX8_added3_31 (by decide) (fun h_7 => ?_) (fun h_7 => ?_)
  · have hd := hd.1 h_7
    refine lv_iconst (v := (0 : Int32)) K.1 K.2.1 dX8_added3_38 (by decide) ?_
    exact bb_X8_added3_39 K hr hrc5 x1 (0 : Int32) g0 _ _ _ hd hw (lv_sub hl [0, 1] rfl)
  · have hd := hd.2 h_7
    refine lv_iconst (v := (1 : Int32)) K.1 K.2.1 dX8_added3_34 (by decide) ?_
    refine lv_goto (tgt := 39) K.1 K.2.1 dX8_added3_35 (by decide) ?_
    exact bb_X8_added3_39 K hr hrc5 x1 (1 : Int32) g0 _ _ _ hd hw (lv_sub hl [0, 1] rfl)
set_option maxHeartbeats 4000000 in
set_option maxRecDepth 100000 in
theorem bb_X8_added3_5 {p : Program} {l : Launch} {e : Env} {s : State} {m : MethodId} {args : Array Value} {below : List Frame} {meth : Method} {c : Code} {D : va_G} {cy : Nat → ClassId} {ad : Nat → Nat} {A : Nat → Prop} {Q : Int32 → Sg → Prop} (K : Kx p s m args meth c cX8_added3 4 RX8 D cy) (hr : meth.sig.returnType = (some .int)) : ∀ (n : Nat) (x1 : Int32)  (g0 : Sg) (H : Heap) (locs : List Loc) (ls : Array Slot), vv_X8_added3_L5 Q n x1 g0 → Wd D A s.heap (wsM cy ad g0) H locs → lv_has ls 4 [(0, .ref (ad 0)), (1, .int x1)] → W p l e (rmD 18) s m args below meth c H locs 0 0 (MQ below (va_Qi Q (PostG (wsM cy ad) D A) A) args s 0 0 A) (F0 m 5 ls []) := by
  intro n
  induction n with
  | zero => intro _ _ _ _ _ hd; exact hd.elim
  | succ n ih =>
    intro x1 g0 H locs ls hd hw hl
    unfold vv_X8_added3_L5 at hd
    refine lv_aload_n K.1 K.2.1 dX8_added3_5 rfl (lv_at hl 0 rfl) ?_
    refine lv_bipush (v := (43 : Int32)) K.1 K.2.1 dX8_added3_6 (by decide) ?_
    refine rk_vi (As := [.int (43 : Int32)]) (rest := []) K hw (cc_X8_isSign l D cy ad A g0 _ (43 : Int32) hd) lk_X8_206 (ci := 8) rfl (q0 := 0) (wsM_at cy ad _ (by decide)) ⟨Nat.le_of_ble_eq_true rfl, Nat.le_of_ble_eq_true rfl⟩ ⟨Nat.zero_le _, Nat.zero_le _⟩ rfl hl.1 (Nat.le_of_ble_eq_true rfl) rfl dX8_added3_8 (fun r_5 g_4 H locs hd hw => ?_)
    refine lv_if_ne (tgt := 23) K.1 K.2.1 dX8_added3_11 (by decide) (fun h_6 => ?_) (fun h_6 => ?_)
    · have hd := hd.1 h_6
      exact bb_X8_added3_23 K hr ih x1 g_4 _ _ _ hd hw (lv_sub hl [0, 1] rfl)
    · have hd := hd.2 h_6
      refine lv_aload_n K.1 K.2.1 dX8_added3_14 rfl (lv_at hl 0 rfl) ?_
      refine lv_bipush (v := (45 : Int32)) K.1 K.2.1 dX8_added3_15 (by decide) ?_
      refine rk_vi (As := [.int (45 : Int32)]) (rest := []) K hw (cc_X8_isSign l D cy ad A g_4 _ (45 : Int32) hd) lk_X8_206 (ci := 8) rfl (q0 := 0) (wsM_at cy ad _ (by decide)) ⟨Nat.le_of_ble_eq_true rfl, Nat.le_of_ble_eq_true rfl⟩ ⟨Nat.zero_le _, Nat.zero_le _⟩ rfl hl.1 (Nat.le_of_ble_eq_true rfl) rfl dX8_added3_17 (fun r_17 g_16 H locs hd hw => ?_)
      refine lv_if_eq (tgt := 66) K.1 K.2.1 dX8_added3_20 (by decide) (fun h_18 => ?_) (fun h_18 => ?_)
      · have hd := hd.1 h_18
        refine lv_iload_n K.1 K.2.1 dX8_added3_66 rfl (lv_at hl 1 rfl) ?_
        exact rk_iret K hw hr hd dX8_added3_67
      · have hd := hd.2 h_18
        exact bb_X8_added3_23 K hr ih x1 g_16 _ _ _ hd hw (lv_sub hl [0, 1] rfl)
set_option maxHeartbeats 4000000 in
set_option maxRecDepth 100000 in
theorem cc_X8_added3 (l : Launch) (D : va_G) (cy : Nat → ClassId) (ad : Nat → Nat) (A : Nat → Prop) (g0 : Sg) (Q : Int32 → Sg → Prop)  (hd : vv_X8_added3  g0 Q) : Met l yX8_added3 (Cond.code yX8_added3 cX8_added3 4 (some .int) :: TT) (rmD 18) (va_Pc [.ref (ad 0)] (PreG (wsM cy ad) D cy A g0)) (va_Qi Q (PostG (wsM cy ad) D A) A) 0 0 A := by
  unfold vv_X8_added3 at hd
  refine Met.ofW (cc := cX8_added3) (maxL := 4) (ret := (some .int)) (by decide) rfl ?_
  intro p e s m args below meth c s₁ B hml hv
  obtain ⟨rfl, hP, hK0, hD⟩ := hv
  have K : Kx p s m _ meth c cX8_added3 4 RX8 D cy := ⟨B.exec, B.bytes, hml, findClass_of_methodNamed B.named, fun w h => atoms_spec (ws := Cond.code yX8_added3 cX8_added3 4 (some .int) :: TT) B.pre w (List.mem_cons_of_mem _ h), hK0, B.notSynchronized⟩
  have hw : Wd D A s.heap (wsM cy ad g0) s.heap [] := ⟨hP, hD, va_S.rf⟩
  have hr := B.returns
  have hl := lv_entry ([.ref (ad 0)]) (n := 4) (Nat.le_of_ble_eq_true rfl)
  rw [lg_entry_eq]
  generalize (lg_sl ([.ref (ad 0)]) ++ List.replicate (4 - (lg_sl ([.ref (ad 0)])).length) Slot.unset).toArray = ls at hl ⊢
  have hl : lv_has ls 4 [(0, .ref (ad 0))] := hl
  refine lv_aload_n K.1 K.2.1 dX8_added3_0 rfl (lv_at hl 0 rfl) ?_
  refine rk_vi (As := []) (rest := []) K hw (cc_X8_term3 l D cy ad A g0 _  hd) lk_X8_260 (ci := 8) rfl (q0 := 0) (wsM_at cy ad _ (by decide)) ⟨Nat.le_of_ble_eq_true rfl, Nat.le_of_ble_eq_true rfl⟩ ⟨Nat.zero_le _, Nat.zero_le _⟩ rfl hl.1 (Nat.le_of_ble_eq_true rfl) rfl dX8_added3_1 (fun r_2 g_1 H locs hd hw => ?_)
  refine lv_topi (fun x1_3 ex1_3 => ?_)
  have hd := hd x1_3 ex1_3
  refine lv_istore_n (lv' := [(1, .int x1_3), (0, .ref (ad 0))]) K.1 K.2.1 dX8_added3_4 rfl hl (by decide) rfl (fun ls hl => ?_)
  obtain ⟨n9, hd⟩ := hd
  exact bb_X8_added3_5 K hr  n9 x1_3 g_1 _ _ _ hd hw (lv_sub hl [1, 0] rfl)
theorem dX8_not3_0 : decode cX8_not3 0 = .ok (.aload_n 0, 1) := by decide +kernel
theorem dX8_not3_1 : decode cX8_not3 1 = .ok (.bipush 110, 2) := by decide +kernel
theorem dX8_not3_3 : decode cX8_not3 3 = .ok (.bipush 111, 2) := by decide +kernel
theorem dX8_not3_5 : decode cX8_not3 5 = .ok (.bipush 116, 2) := by decide +kernel
theorem dX8_not3_7 : decode cX8_not3 7 = .ok (.iconst 0, 1) := by decide +kernel
theorem dX8_not3_8 : decode cX8_not3 8 = .ok (.iconst 0, 1) := by decide +kernel
theorem dX8_not3_9 : decode cX8_not3 9 = .ok (.iconst 0, 1) := by decide +kernel
theorem dX8_not3_10 : decode cX8_not3 10 = .ok (.iconst 0, 1) := by decide +kernel
theorem dX8_not3_11 : decode cX8_not3 11 = .ok (.iconst 0, 1) := by decide +kernel
theorem dX8_not3_12 : decode cX8_not3 12 = .ok (.invokevirtual 184, 3) := by decide +kernel
theorem dX8_not3_15 : decode cX8_not3 15 = .ok (.ifCond .eq 37, 3) := by decide +kernel
theorem dX8_not3_18 : decode cX8_not3 18 = .ok (.aload_n 0, 1) := by decide +kernel
theorem dX8_not3_19 : decode cX8_not3 19 = .ok (.invokevirtual 209, 3) := by decide +kernel
theorem dX8_not3_22 : decode cX8_not3 22 = .ok (.ifCond .ne 5, 3) := by decide +kernel
theorem dX8_not3_25 : decode cX8_not3 25 = .ok (.iconst 0, 1) := by decide +kernel
theorem dX8_not3_26 : decode cX8_not3 26 = .ok (.ireturn, 1) := by decide +kernel
theorem dX8_not3_27 : decode cX8_not3 27 = .ok (.aload_n 0, 1) := by decide +kernel
theorem dX8_not3_28 : decode cX8_not3 28 = .ok (.invokevirtual 248, 3) := by decide +kernel
theorem dX8_not3_31 : decode cX8_not3 31 = .ok (.istore_n 1, 1) := by decide +kernel
theorem dX8_not3_32 : decode cX8_not3 32 = .ok (.aload_n 0, 1) := by decide +kernel
theorem dX8_not3_33 : decode cX8_not3 33 = .ok (.dup, 1) := by decide +kernel
theorem dX8_not3_34 : decode cX8_not3 34 = .ok (.getfield 175, 3) := by decide +kernel
theorem dX8_not3_37 : decode cX8_not3 37 = .ok (.iconst 1, 1) := by decide +kernel
theorem dX8_not3_38 : decode cX8_not3 38 = .ok (.isub, 1) := by decide +kernel
theorem dX8_not3_39 : decode cX8_not3 39 = .ok (.putfield 175, 3) := by decide +kernel
theorem dX8_not3_42 : decode cX8_not3 42 = .ok (.iload_n 1, 1) := by decide +kernel
theorem dX8_not3_43 : decode cX8_not3 43 = .ok (.ifCond .ne 7, 3) := by decide +kernel
theorem dX8_not3_46 : decode cX8_not3 46 = .ok (.iconst 1, 1) := by decide +kernel
theorem dX8_not3_47 : decode cX8_not3 47 = .ok (.goto 4, 3) := by decide +kernel
theorem dX8_not3_50 : decode cX8_not3 50 = .ok (.iconst 0, 1) := by decide +kernel
theorem dX8_not3_51 : decode cX8_not3 51 = .ok (.ireturn, 1) := by decide +kernel
theorem dX8_not3_52 : decode cX8_not3 52 = .ok (.aload_n 0, 1) := by decide +kernel
theorem dX8_not3_53 : decode cX8_not3 53 = .ok (.invokevirtual 263, 3) := by decide +kernel
theorem dX8_not3_56 : decode cX8_not3 56 = .ok (.istore_n 1, 1) := by decide +kernel
theorem dX8_not3_57 : decode cX8_not3 57 = .ok (.aload_n 0, 1) := by decide +kernel
theorem dX8_not3_58 : decode cX8_not3 58 = .ok (.bipush 60, 2) := by decide +kernel
theorem dX8_not3_60 : decode cX8_not3 60 = .ok (.invokevirtual 206, 3) := by decide +kernel
theorem dX8_not3_63 : decode cX8_not3 63 = .ok (.ifCond .ne 14, 3) := by decide +kernel
theorem dX8_not3_66 : decode cX8_not3 66 = .ok (.aload_n 0, 1) := by decide +kernel
theorem dX8_not3_67 : decode cX8_not3 67 = .ok (.bipush 61, 2) := by decide +kernel
theorem dX8_not3_69 : decode cX8_not3 69 = .ok (.invokevirtual 206, 3) := by decide +kernel
theorem dX8_not3_72 : decode cX8_not3 72 = .ok (.ifCond .ne 5, 3) := by decide +kernel
theorem dX8_not3_75 : decode cX8_not3 75 = .ok (.iload_n 1, 1) := by decide +kernel
theorem dX8_not3_76 : decode cX8_not3 76 = .ok (.ireturn, 1) := by decide +kernel
theorem dX8_not3_77 : decode cX8_not3 77 = .ok (.aload_n 0, 1) := by decide +kernel
theorem dX8_not3_78 : decode cX8_not3 78 = .ok (.getfield 160, 3) := by decide +kernel
theorem dX8_not3_81 : decode cX8_not3 81 = .ok (.ldc2_w 228, 3) := by decide +kernel
theorem dX8_not3_84 : decode cX8_not3 84 = .ok (.lcmp, 1) := by decide +kernel
theorem dX8_not3_85 : decode cX8_not3 85 = .ok (.ifCond .ne 7, 3) := by decide +kernel
theorem dX8_not3_88 : decode cX8_not3 88 = .ok (.iconst 1, 1) := by decide +kernel
theorem dX8_not3_89 : decode cX8_not3 89 = .ok (.goto 4, 3) := by decide +kernel
theorem dX8_not3_92 : decode cX8_not3 92 = .ok (.iconst 0, 1) := by decide +kernel
theorem dX8_not3_93 : decode cX8_not3 93 = .ok (.istore_n 2, 1) := by decide +kernel
theorem dX8_not3_94 : decode cX8_not3 94 = .ok (.aload_n 0, 1) := by decide +kernel
theorem dX8_not3_95 : decode cX8_not3 95 = .ok (.invokevirtual 181, 3) := by decide +kernel
theorem dX8_not3_98 : decode cX8_not3 98 = .ok (.aload_n 0, 1) := by decide +kernel
theorem dX8_not3_99 : decode cX8_not3 99 = .ok (.invokevirtual 263, 3) := by decide +kernel
theorem dX8_not3_102 : decode cX8_not3 102 = .ok (.istore_n 3, 1) := by decide +kernel
theorem dX8_not3_103 : decode cX8_not3 103 = .ok (.iload_n 2, 1) := by decide +kernel
theorem dX8_not3_104 : decode cX8_not3 104 = .ok (.ifCond .eq 11, 3) := by decide +kernel
theorem dX8_not3_107 : decode cX8_not3 107 = .ok (.iload_n 1, 1) := by decide +kernel
theorem dX8_not3_108 : decode cX8_not3 108 = .ok (.iload_n 3, 1) := by decide +kernel
theorem dX8_not3_109 : decode cX8_not3 109 = .ok (.if_icmp .ge 15, 3) := by decide +kernel
theorem dX8_not3_112 : decode cX8_not3 112 = .ok (.goto 8, 3) := by decide +kernel
theorem dX8_not3_115 : decode cX8_not3 115 = .ok (.iload_n 1, 1) := by decide +kernel
theorem dX8_not3_116 : decode cX8_not3 116 = .ok (.iload_n 3, 1) := by decide +kernel
theorem dX8_not3_117 : decode cX8_not3 117 = .ok (.if_icmp .ne 7, 3) := by decide +kernel
theorem dX8_not3_120 : decode cX8_not3 120 = .ok (.iconst 1, 1) := by decide +kernel
theorem dX8_not3_121 : decode cX8_not3 121 = .ok (.goto 4, 3) := by decide +kernel
theorem dX8_not3_124 : decode cX8_not3 124 = .ok (.iconst 0, 1) := by decide +kernel
theorem dX8_not3_125 : decode cX8_not3 125 = .ok (.ireturn, 1) := by decide +kernel
set_option maxHeartbeats 4000000 in
set_option maxRecDepth 100000 in
theorem bb_X8_not3_120 {p : Program} {l : Launch} {e : Env} {s : State} {m : MethodId} {args : Array Value} {below : List Frame} {meth : Method} {c : Code} {D : va_G} {cy : Nat → ClassId} {ad : Nat → Nat} {A : Nat → Prop} {Q : Int32 → Sg → Prop} (K : Kx p s m args meth c cX8_not3 4 RX8 D cy) (hr : meth.sig.returnType = (some .int))   (g0 : Sg) (H : Heap) (locs : List Loc) (ls : Array Slot) (hd : vv_X8_not3_J120 g0 Q) (hw : Wd D A s.heap (wsM cy ad g0) H locs) (hl : lv_has ls 4 []) : W p l e (rmD 19) s m args below meth c H locs 0 0 (MQ below (va_Qi Q (PostG (wsM cy ad) D A) A) args s 0 0 A) (F0 m 120 ls []) := by
  unfold vv_X8_not3_J120 at hd
  refine lv_iconst (v := (1 : Int32)) K.1 K.2.1 dX8_not3_120 (by decide) ?_
  refine lv_goto (tgt := 125) K.1 K.2.1 dX8_not3_121 (by decide) ?_
  exact rk_iret K hw hr hd dX8_not3_125
set_option maxHeartbeats 4000000 in
set_option maxRecDepth 100000 in
theorem bb_X8_not3_93 {p : Program} {l : Launch} {e : Env} {s : State} {m : MethodId} {args : Array Value} {below : List Frame} {meth : Method} {c : Code} {D : va_G} {cy : Nat → ClassId} {ad : Nat → Nat} {A : Nat → Prop} {Q : Int32 → Sg → Prop} (K : Kx p s m args meth c cX8_not3 4 RX8 D cy) (hr : meth.sig.returnType = (some .int)) (x1 : Int32) (t0 : Int32) (g0 : Sg) (H : Heap) (locs : List Loc) (ls : Array Slot) (hd : vv_X8_not3_J93 x1 t0 g0 Q) (hw : Wd D A s.heap (wsM cy ad g0) H locs) (hl : lv_has ls 4 [(0, .ref (ad 0)), (1, .int x1)]) : W p l e (rmD 19) s m args below meth c H locs 0 0 (MQ below (va_Qi Q (PostG (wsM cy ad) D A) A) args s 0 0 A) (F0 m 93 ls [.int t0]) := by
  unfold vv_X8_not3_J93 at hd
  refine lv_topi (fun x2_11 ex2_11 => ?_)
  have hd := hd x2_11 ex2_11
  refine lv_istore_n (lv' := [(2, .int x2_11), (0, .ref (ad 0)), (1, .int x1)]) K.1 K.2.1 dX8_not3_93 rfl hl (by decide) rfl (fun ls hl => ?_)
  refine lv_aload_n K.1 K.2.1 dX8_not3_94 rfl (lv_at hl 1 rfl) ?_
  refine rk_vv (As := []) (rest := []) K hw (cc_X8_next l D cy ad A g0 _  hd) lk_X8_181 (ci := 8) rfl (q0 := 0) (wsM_at cy ad _ (by decide)) ⟨Nat.le_of_ble_eq_true rfl, Nat.le_of_ble_eq_true rfl⟩ ⟨Nat.zero_le _, Nat.zero_le _⟩ rfl hl.1 (Nat.le_of_ble_eq_true rfl) rfl dX8_not3_95 (fun g_12 H locs hd hw => ?_)
  refine lv_aload_n K.1 K.2.1 dX8_not3_98 rfl (lv_at hl 1 rfl) ?_
  refine rk_vi (As := []) (rest := []) K hw (cc_X8_added3 l D cy ad A g_12 _  hd) lk_X8_263 (ci := 8) rfl (q0 := 0) (wsM_at cy ad _ (by decide)) ⟨Nat.le_of_ble_eq_true rfl, Nat.le_of_ble_eq_true rfl⟩ ⟨Nat.zero_le _, Nat.zero_le _⟩ rfl hl.1 (Nat.le_of_ble_eq_true rfl) rfl dX8_not3_99 (fun r_15 g_14 H locs hd hw => ?_)
  refine lv_topi (fun x3_16 ex3_16 => ?_)
  have hd := hd x3_16 ex3_16
  refine lv_istore_n (lv' := [(3, .int x3_16), (2, .int x2_11), (0, .ref (ad 0)), (1, .int x1)]) K.1 K.2.1 dX8_not3_102 rfl hl (by decide) rfl (fun ls hl => ?_)
  refine lv_iload_n K.1 K.2.1 dX8_not3_103 rfl (lv_at hl 1 rfl) ?_
  refine lv_if_eq (tgt := 115) K.1 K.2.1 dX8_not3_104 (by decide) (fun h_17 => ?_) (fun h_17 => ?_)
  · have hd := hd.1 h_17
    refine lv_iload_n K.1 K.2.1 dX8_not3_115 rfl (lv_at hl 3 rfl) ?_
    refine lv_iload_n K.1 K.2.1 dX8_not3_116 rfl (lv_at hl 0 rfl) ?_
    refine lv_icmp_ne (tgt := 124) K.1 K.2.1 dX8_not3_117 (by decide) (fun h_18 => ?_) (fun h_18 => ?_)
    · have hd := hd.1 h_18
      refine lv_iconst (v := (0 : Int32)) K.1 K.2.1 dX8_not3_124 (by decide) ?_
      exact rk_iret K hw hr hd dX8_not3_125
    · have hd := hd.2 h_18
      exact bb_X8_not3_120 K hr   g_14 _ _ _ hd hw (lv_sub hl [] rfl)
  · have hd := hd.2 h_17
    refine lv_iload_n K.1 K.2.1 dX8_not3_107 rfl (lv_at hl 3 rfl) ?_
    refine lv_iload_n K.1 K.2.1 dX8_not3_108 rfl (lv_at hl 0 rfl) ?_
    refine lv_icmp_ge (tgt := 124) K.1 K.2.1 dX8_not3_109 (by decide) (fun h_19 => ?_) (fun h_19 => ?_)
    · have hd := hd.1 h_19
      refine lv_iconst (v := (0 : Int32)) K.1 K.2.1 dX8_not3_124 (by decide) ?_
      exact rk_iret K hw hr hd dX8_not3_125
    · have hd := hd.2 h_19
      refine lv_goto (tgt := 120) K.1 K.2.1 dX8_not3_112 (by decide) ?_
      exact bb_X8_not3_120 K hr   g_14 _ _ _ hd hw (lv_sub hl [] rfl)
set_option maxHeartbeats 4000000 in
set_option maxRecDepth 100000 in
theorem bb_X8_not3_77 {p : Program} {l : Launch} {e : Env} {s : State} {m : MethodId} {args : Array Value} {below : List Frame} {meth : Method} {c : Code} {D : va_G} {cy : Nat → ClassId} {ad : Nat → Nat} {A : Nat → Prop} {Q : Int32 → Sg → Prop} (K : Kx p s m args meth c cX8_not3 4 RX8 D cy) (hr : meth.sig.returnType = (some .int)) (x1 : Int32)  (g0 : Sg) (H : Heap) (locs : List Loc) (ls : Array Slot) (hd : vv_X8_not3_J77 x1 g0 Q) (hw : Wd D A s.heap (wsM cy ad g0) H locs) (hl : lv_has ls 4 [(0, .ref (ad 0)), (1, .int x1)]) : W p l e (rmD 19) s m args below meth c H locs 0 0 (MQ below (va_Qi Q (PostG (wsM cy ad) D A) A) args s 0 0 A) (F0 m 77 ls []) := by
  unfold vv_X8_not3_J77 at hd
  refine lv_aload_n K.1 K.2.1 dX8_not3_77 rfl (lv_at hl 0 rfl) ?_
  refine rm_get 23 K hw (by decide) kf_X8_160 rfl dX8_not3_78 ?_
  refine lv_ldc2 K.1 K.2.1 K.2.2.2.1 (K.2.2.2.2.1 _ kl_X8_228) dX8_not3_81 ?_
  refine W.lcmp K.1 K.2.1 dX8_not3_84 ?_
  refine lv_if_ne (tgt := 92) K.1 K.2.1 dX8_not3_85 (by decide) (fun h_10 => ?_) (fun h_10 => ?_)
  · have hd := hd.1 h_10
    refine lv_iconst (v := (0 : Int32)) K.1 K.2.1 dX8_not3_92 (by decide) ?_
    exact bb_X8_not3_93 K hr  x1 (0 : Int32) g0 _ _ _ hd hw (lv_sub hl [0, 1] rfl)
  · have hd := hd.2 h_10
    refine lv_iconst (v := (1 : Int32)) K.1 K.2.1 dX8_not3_88 (by decide) ?_
    refine lv_goto (tgt := 93) K.1 K.2.1 dX8_not3_89 (by decide) ?_
    exact bb_X8_not3_93 K hr  x1 (1 : Int32) g0 _ _ _ hd hw (lv_sub hl [0, 1] rfl)
set_option maxHeartbeats 4000000 in
set_option maxRecDepth 100000 in
theorem cc_X8_not3 (l : Launch) (D : va_G) (cy : Nat → ClassId) (ad : Nat → Nat) (A : Nat → Prop) (g0 : Sg) (Q : Int32 → Sg → Prop)  (hd : vv_X8_not3  g0 Q) : Met l yX8_not3 (Cond.code yX8_not3 cX8_not3 4 (some .int) :: TT) (rmD 19) (va_Pc [.ref (ad 0)] (PreG (wsM cy ad) D cy A g0)) (va_Qi Q (PostG (wsM cy ad) D A) A) 0 0 A := by
  unfold vv_X8_not3 at hd
  refine Met.ofW (cc := cX8_not3) (maxL := 4) (ret := (some .int)) (by decide) rfl ?_
  intro p e s m args below meth c s₁ B hml hv
  obtain ⟨rfl, hP, hK0, hD⟩ := hv
  have K : Kx p s m _ meth c cX8_not3 4 RX8 D cy := ⟨B.exec, B.bytes, hml, findClass_of_methodNamed B.named, fun w h => atoms_spec (ws := Cond.code yX8_not3 cX8_not3 4 (some .int) :: TT) B.pre w (List.mem_cons_of_mem _ h), hK0, B.notSynchronized⟩
  have hw : Wd D A s.heap (wsM cy ad g0) s.heap [] := ⟨hP, hD, va_S.rf⟩
  have hr := B.returns
  have hl := lv_entry ([.ref (ad 0)]) (n := 4) (Nat.le_of_ble_eq_true rfl)
  rw [lg_entry_eq]
  generalize (lg_sl ([.ref (ad 0)]) ++ List.replicate (4 - (lg_sl ([.ref (ad 0)])).length) Slot.unset).toArray = ls at hl ⊢
  have hl : lv_has ls 4 [(0, .ref (ad 0))] := hl
  refine lv_aload_n K.1 K.2.1 dX8_not3_0 rfl (lv_at hl 0 rfl) ?_
  refine lv_bipush (v := (110 : Int32)) K.1 K.2.1 dX8_not3_1 (by decide) ?_
  refine lv_bipush (v := (111 : Int32)) K.1 K.2.1 dX8_not3_3 (by decide) ?_
  refine lv_bipush (v := (116 : Int32)) K.1 K.2.1 dX8_not3_5 (by decide) ?_
  refine lv_iconst (v := (0 : Int32)) K.1 K.2.1 dX8_not3_7 (by decide) ?_
  refine lv_iconst (v := (0 : Int32)) K.1 K.2.1 dX8_not3_8 (by decide) ?_
  refine lv_iconst (v := (0 : Int32)) K.1 K.2.1 dX8_not3_9 (by decide) ?_
  refine lv_iconst (v := (0 : Int32)) K.1 K.2.1 dX8_not3_10 (by decide) ?_
  refine lv_iconst (v := (0 : Int32)) K.1 K.2.1 dX8_not3_11 (by decide) ?_
  refine rk_vi (As := [.int (110 : Int32), .int (111 : Int32), .int (116 : Int32), .int (0 : Int32), .int (0 : Int32), .int (0 : Int32), .int (0 : Int32), .int (0 : Int32)]) (rest := []) K hw (cc_X8_isWord l D cy ad A g0 _ (110 : Int32) (111 : Int32) (116 : Int32) (0 : Int32) (0 : Int32) (0 : Int32) (0 : Int32) (0 : Int32) hd) lk_X8_184 (ci := 8) rfl (q0 := 0) (wsM_at cy ad _ (by decide)) ⟨Nat.le_of_ble_eq_true rfl, Nat.le_of_ble_eq_true rfl⟩ ⟨Nat.zero_le _, Nat.zero_le _⟩ rfl hl.1 (Nat.le_of_ble_eq_true rfl) rfl dX8_not3_12 (fun r_2 g_1 H locs hd hw => ?_)
  refine lv_if_eq (tgt := 52) K.1 K.2.1 dX8_not3_15 (by decide) (fun h_3 => ?_) (fun h_3 => ?_)
  · have hd := hd.1 h_3
    refine lv_aload_n K.1 K.2.1 dX8_not3_52 rfl (lv_at hl 0 rfl) ?_
    refine rk_vi (As := []) (rest := []) K hw (cc_X8_added3 l D cy ad A g_1 _  hd) lk_X8_263 (ci := 8) rfl (q0 := 0) (wsM_at cy ad _ (by decide)) ⟨Nat.le_of_ble_eq_true rfl, Nat.le_of_ble_eq_true rfl⟩ ⟨Nat.zero_le _, Nat.zero_le _⟩ rfl hl.1 (Nat.le_of_ble_eq_true rfl) rfl dX8_not3_53 (fun r_5 g_4 H locs hd hw => ?_)
    refine lv_topi (fun x1_6 ex1_6 => ?_)
    have hd := hd x1_6 ex1_6
    refine lv_istore_n (lv' := [(1, .int x1_6), (0, .ref (ad 0))]) K.1 K.2.1 dX8_not3_56 rfl hl (by decide) rfl (fun ls hl => ?_)
    refine lv_aload_n K.1 K.2.1 dX8_not3_57 rfl (lv_at hl 1 rfl) ?_
    refine lv_bipush (v := (60 : Int32)) K.1 K.2.1 dX8_not3_58 (by decide) ?_
    refine rk_vi (As := [.int (60 : Int32)]) (rest := []) K hw (cc_X8_isSign l D cy ad A g_4 _ (60 : Int32) hd) lk_X8_206 (ci := 8) rfl (q0 := 0) (wsM_at cy ad _ (by decide)) ⟨Nat.le_of_ble_eq_true rfl, Nat.le_of_ble_eq_true rfl⟩ ⟨Nat.zero_le _, Nat.zero_le _⟩ rfl hl.1 (Nat.le_of_ble_eq_true rfl) rfl dX8_not3_60 (fun r_8 g_7 H locs hd hw => ?_)
    refine lv_if_ne (tgt := 77) K.1 K.2.1 dX8_not3_63 (by decide) (fun h_9 => ?_) (fun h_9 => ?_)
    · have hd := hd.1 h_9
      exact bb_X8_not3_77 K hr  x1_6 g_7 _ _ _ hd hw (lv_sub hl [1, 0] rfl)
    · have hd := hd.2 h_9
      refine lv_aload_n K.1 K.2.1 dX8_not3_66 rfl (lv_at hl 1 rfl) ?_
      refine lv_bipush (v := (61 : Int32)) K.1 K.2.1 dX8_not3_67 (by decide) ?_
      refine rk_vi (As := [.int (61 : Int32)]) (rest := []) K hw (cc_X8_isSign l D cy ad A g_7 _ (61 : Int32) hd) lk_X8_206 (ci := 8) rfl (q0 := 0) (wsM_at cy ad _ (by decide)) ⟨Nat.le_of_ble_eq_true rfl, Nat.le_of_ble_eq_true rfl⟩ ⟨Nat.zero_le _, Nat.zero_le _⟩ rfl hl.1 (Nat.le_of_ble_eq_true rfl) rfl dX8_not3_69 (fun r_21 g_20 H locs hd hw => ?_)
      refine lv_if_ne (tgt := 77) K.1 K.2.1 dX8_not3_72 (by decide) (fun h_22 => ?_) (fun h_22 => ?_)
      · have hd := hd.1 h_22
        exact bb_X8_not3_77 K hr  x1_6 g_20 _ _ _ hd hw (lv_sub hl [1, 0] rfl)
      · have hd := hd.2 h_22
        refine lv_iload_n K.1 K.2.1 dX8_not3_75 rfl (lv_at hl 0 rfl) ?_
        exact rk_iret K hw hr hd dX8_not3_76
  · have hd := hd.2 h_3
    refine lv_aload_n K.1 K.2.1 dX8_not3_18 rfl (lv_at hl 0 rfl) ?_
    refine rk_vi (As := []) (rest := []) K hw (cc_X8_opens l D cy ad A g_1 _  hd) lk_X8_209 (ci := 8) rfl (q0 := 0) (wsM_at cy ad _ (by decide)) ⟨Nat.le_of_ble_eq_true rfl, Nat.le_of_ble_eq_true rfl⟩ ⟨Nat.zero_le _, Nat.zero_le _⟩ rfl hl.1 (Nat.le_of_ble_eq_true rfl) rfl dX8_not3_19 (fun r_24 g_23 H locs hd hw => ?_)
    refine lv_if_ne (tgt := 27) K.1 K.2.1 dX8_not3_22 (by decide) (fun h_25 => ?_) (fun h_25 => ?_)
    · have hd := hd.1 h_25
      refine lv_aload_n K.1 K.2.1 dX8_not3_27 rfl (lv_at hl 0 rfl) ?_
      refine rk_vi (As := []) (rest := []) K hw (cc_X8_not4 l D cy ad A g_23 _  hd) lk_X8_248 (ci := 8) rfl (q0 := 0) (wsM_at cy ad _ (by decide)) ⟨Nat.le_of_ble_eq_true rfl, Nat.le_of_ble_eq_true rfl⟩ ⟨Nat.zero_le _, Nat.zero_le _⟩ rfl hl.1 (Nat.le_of_ble_eq_true rfl) rfl dX8_not3_28 (fun r_27 g_26 H locs hd hw => ?_)
      refine lv_topi (fun x1_28 ex1_28 => ?_)
      have hd := hd x1_28 ex1_28
      refine lv_istore_n (lv' := [(1, .int x1_28), (0, .ref (ad 0))]) K.1 K.2.1 dX8_not3_31 rfl hl (by decide) rfl (fun ls hl => ?_)
      refine lv_aload_n K.1 K.2.1 dX8_not3_32 rfl (lv_at hl 1 rfl) ?_
      refine lv_dup K.1 K.2.1 dX8_not3_33 rfl ?_
      refine rm_get 24 K hw (by decide) kf_X8_175 rfl dX8_not3_34 ?_
      refine lv_iconst (v := (1 : Int32)) K.1 K.2.1 dX8_not3_37 (by decide) ?_
      refine lv_isub K.1 K.2.1 dX8_not3_38 ?_
      refine rm_put 24 K hw (by decide) kf_X8_175 rfl rfl rfl rfl (fsM_24 ad g_26 _) dX8_not3_39 (fun g_29 eg_29 H locs hw => ?_)
      have hd := hd g_29 eg_29
      refine lv_iload_n K.1 K.2.1 dX8_not3_42 rfl (lv_at hl 0 rfl) ?_
      refine lv_if_ne (tgt := 50) K.1 K.2.1 dX8_not3_43 (by decide) (fun h_30 => ?_) (fun h_30 => ?_)
      · have hd := hd.1 h_30
        refine lv_iconst (v := (0 : Int32)) K.1 K.2.1 dX8_not3_50 (by decide) ?_
        exact rk_iret K hw hr hd dX8_not3_51
      · have hd := hd.2 h_30
        refine lv_iconst (v := (1 : Int32)) K.1 K.2.1 dX8_not3_46 (by decide) ?_
        refine lv_goto (tgt := 51) K.1 K.2.1 dX8_not3_47 (by decide) ?_
        exact rk_iret K hw hr hd dX8_not3_51
    · have hd := hd.2 h_25
      refine lv_iconst (v := (0 : Int32)) K.1 K.2.1 dX8_not3_25 (by decide) ?_
      exact rk_iret K hw hr hd dX8_not3_26
theorem dX8_both3_0 : decode cX8_both3 0 = .ok (.aload_n 0, 1) := by decide +kernel
theorem dX8_both3_1 : decode cX8_both3 1 = .ok (.invokevirtual 266, 3) := by decide +kernel
theorem dX8_both3_4 : decode cX8_both3 4 = .ok (.istore_n 1, 1) := by decide +kernel
theorem dX8_both3_5 : decode cX8_both3 5 = .ok (.aload_n 0, 1) := by decide +kernel
theorem dX8_both3_6 : decode cX8_both3 6 = .ok (.bipush 97, 2) := by decide +kernel
theorem dX8_both3_8 : decode cX8_both3 8 = .ok (.bipush 110, 2) := by decide +kernel
theorem dX8_both3_10 : decode cX8_both3 10 = .ok (.bipush 100, 2) := by decide +kernel
theorem dX8_both3_12 : decode cX8_both3 12 = .ok (.iconst 0, 1) := by decide +kernel
theorem dX8_both3_13 : decode cX8_both3 13 = .ok (.iconst 0, 1) := by decide +kernel
theorem dX8_both3_14 : decode cX8_both3 14 = .ok (.iconst 0, 1) := by decide +kernel
theorem dX8_both3_15 : decode cX8_both3 15 = .ok (.iconst 0, 1) := by decide +kernel
theorem dX8_both3_16 : decode cX8_both3 16 = .ok (.iconst 0, 1) := by decide +kernel
theorem dX8_both3_17 : decode cX8_both3 17 = .ok (.invokevirtual 184, 3) := by decide +kernel
theorem dX8_both3_20 : decode cX8_both3 20 = .ok (.ifCond .eq 29, 3) := by decide +kernel
theorem dX8_both3_23 : decode cX8_both3 23 = .ok (.aload_n 0, 1) := by decide +kernel
theorem dX8_both3_24 : decode cX8_both3 24 = .ok (.invokevirtual 181, 3) := by decide +kernel
theorem dX8_both3_27 : decode cX8_both3 27 = .ok (.aload_n 0, 1) := by decide +kernel
theorem dX8_both3_28 : decode cX8_both3 28 = .ok (.invokevirtual 266, 3) := by decide +kernel
theorem dX8_both3_31 : decode cX8_both3 31 = .ok (.istore_n 2, 1) := by decide +kernel
theorem dX8_both3_32 : decode cX8_both3 32 = .ok (.iload_n 1, 1) := by decide +kernel
theorem dX8_both3_33 : decode cX8_both3 33 = .ok (.ifCond .eq 11, 3) := by decide +kernel
theorem dX8_both3_36 : decode cX8_both3 36 = .ok (.iload_n 2, 1) := by decide +kernel
theorem dX8_both3_37 : decode cX8_both3 37 = .ok (.ifCond .eq 7, 3) := by decide +kernel
theorem dX8_both3_40 : decode cX8_both3 40 = .ok (.iconst 1, 1) := by decide +kernel
theorem dX8_both3_41 : decode cX8_both3 41 = .ok (.goto 4, 3) := by decide +kernel
theorem dX8_both3_44 : decode cX8_both3 44 = .ok (.iconst 0, 1) := by decide +kernel
theorem dX8_both3_45 : decode cX8_both3 45 = .ok (.istore_n 1, 1) := by decide +kernel
theorem dX8_both3_46 : decode cX8_both3 46 = .ok (.goto (-41), 3) := by decide +kernel
theorem dX8_both3_49 : decode cX8_both3 49 = .ok (.iload_n 1, 1) := by decide +kernel
theorem dX8_both3_50 : decode cX8_both3 50 = .ok (.ireturn, 1) := by decide +kernel
set_option maxHeartbeats 4000000 in
set_option maxRecDepth 100000 in
theorem bb_X8_both3_45 {p : Program} {l : Launch} {e : Env} {s : State} {m : MethodId} {args : Array Value} {below : List Frame} {meth : Method} {c : Code} {D : va_G} {cy : Nat → ClassId} {ad : Nat → Nat} {A : Nat → Prop} {Q : Int32 → Sg → Prop} (K : Kx p s m args meth c cX8_both3 3 RX8 D cy) (hr : meth.sig.returnType = (some .int)) {rc5 : Int32 → Sg → Prop} (hrc5 : ∀ (x1 : Int32) (u : Sg) (H : Heap) (locs : List Loc) (ls : Array Slot), rc5 x1 u → Wd D A s.heap (wsM cy ad u) H locs → lv_has ls 3 [(0, .ref (ad 0)), (1, .int x1)] → W p l e (rmD 20) s m args below meth c H locs 0 0 (MQ below (va_Qi Q (PostG (wsM cy ad) D A) A) args s 0 0 A) (F0 m 5 ls []))  (t0 : Int32) (g0 : Sg) (H : Heap) (locs : List Loc) (ls : Array Slot) (hd : vv_X8_both3_J45 rc5 t0 g0 Q) (hw : Wd D A s.heap (wsM cy ad g0) H locs) (hl : lv_has ls 3 [(0, .ref (ad 0))]) : W p l e (rmD 20) s m args below meth c H locs 0 0 (MQ below (va_Qi Q (PostG (wsM cy ad) D A) A) args s 0 0 A) (F0 m 45 ls [.int t0]) := by
  unfold vv_X8_both3_J45 at hd
  refine lv_topi (fun x1_13 ex1_13 => ?_)
  have hd := hd x1_13 ex1_13
  refine lv_istore_n (lv' := [(1, .int x1_13), (0, .ref (ad 0))]) K.1 K.2.1 dX8_both3_45 rfl hl (by decide) rfl (fun ls hl => ?_)
  refine lv_goto (tgt := 5) K.1 K.2.1 dX8_both3_46 (by decide) ?_
  exact hrc5 x1_13 g0 _ _ _ hd hw (lv_sub hl [1, 0] rfl)
set_option maxHeartbeats 4000000 in
set_option maxRecDepth 100000 in
theorem bb_X8_both3_44 {p : Program} {l : Launch} {e : Env} {s : State} {m : MethodId} {args : Array Value} {below : List Frame} {meth : Method} {c : Code} {D : va_G} {cy : Nat → ClassId} {ad : Nat → Nat} {A : Nat → Prop} {Q : Int32 → Sg → Prop} (K : Kx p s m args meth c cX8_both3 3 RX8 D cy) (hr : meth.sig.returnType = (some .int)) {rc5 : Int32 → Sg → Prop} (hrc5 : ∀ (x1 : Int32) (u : Sg) (H : Heap) (locs : List Loc) (ls : Array Slot), rc5 x1 u → Wd D A s.heap (wsM cy ad u) H locs → lv_has ls 3 [(0, .ref (ad 0)), (1, .int x1)] → W p l e (rmD 20) s m args below meth c H locs 0 0 (MQ below (va_Qi Q (PostG (wsM cy ad) D A) A) args s 0 0 A) (F0 m 5 ls []))   (g0 : Sg) (H : Heap) (locs : List Loc) (ls : Array Slot) (hd : vv_X8_both3_J44 rc5 g0 Q) (hw : Wd D A s.heap (wsM cy ad g0) H locs) (hl : lv_has ls 3 [(0, .ref (ad 0))]) : W p l e (rmD 20) s m args below meth c H locs 0 0 (MQ below (va_Qi Q (PostG (wsM cy ad) D A) A) args s 0 0 A) (F0 m 44 ls []) := by
  unfold vv_X8_both3_J44 at hd
  refine lv_iconst (v := (0 : Int32)) K.1 K.2.1 dX8_both3_44 (by decide) ?_
  exact bb_X8_both3_45 K hr hrc5 (0 : Int32) g0 _ _ _ hd hw (lv_sub hl [0] rfl)
set_option maxHeartbeats 4000000 in
set_option maxRecDepth 100000 in
theorem bb_X8_both3_5 {p : Program} {l : Launch} {e : Env} {s : State} {m : MethodId} {args : Array Value} {below : List Frame} {meth : Method} {c : Code} {D : va_G} {cy : Nat → ClassId} {ad : Nat → Nat} {A : Nat → Prop} {Q : Int32 → Sg → Prop} (K : Kx p s m args meth c cX8_both3 3 RX8 D cy) (hr : meth.sig.returnType = (some .int)) : ∀ (n : Nat) (x1 : Int32)  (g0 : Sg) (H : Heap) (locs : List Loc) (ls : Array Slot), vv_X8_both3_L5 Q n x1 g0 → Wd D A s.heap (wsM cy ad g0) H locs → lv_has ls 3 [(0, .ref (ad 0)), (1, .int x1)] → W p l e (rmD 20) s m args below meth c H locs 0 0 (MQ below (va_Qi Q (PostG (wsM cy ad) D A) A) args s 0 0 A) (F0 m 5 ls []) := by
  intro n
  induction n with
  | zero => intro _ _ _ _ _ hd; exact hd.elim
  | succ n ih =>
    intro x1 g0 H locs ls hd hw hl
    unfold vv_X8_both3_L5 at hd
    refine lv_aload_n K.1 K.2.1 dX8_both3_5 rfl (lv_at hl 0 rfl) ?_
    refine lv_bipush (v := (97 : Int32)) K.1 K.2.1 dX8_both3_6 (by decide) ?_
    refine lv_bipush (v := (110 : Int32)) K.1 K.2.1 dX8_both3_8 (by decide) ?_
    refine lv_bipush (v := (100 : Int32)) K.1 K.2.1 dX8_both3_10 (by decide) ?_
    refine lv_iconst (v := (0 : Int32)) K.1 K.2.1 dX8_both3_12 (by decide) ?_
    refine lv_iconst (v := (0 : Int32)) K.1 K.2.1 dX8_both3_13 (by decide) ?_
    refine lv_iconst (v := (0 : Int32)) K.1 K.2.1 dX8_both3_14 (by decide) ?_
    refine lv_iconst (v := (0 : Int32)) K.1 K.2.1 dX8_both3_15 (by decide) ?_
    refine lv_iconst (v := (0 : Int32)) K.1 K.2.1 dX8_both3_16 (by decide) ?_
    refine rk_vi (As := [.int (97 : Int32), .int (110 : Int32), .int (100 : Int32), .int (0 : Int32), .int (0 : Int32), .int (0 : Int32), .int (0 : Int32), .int (0 : Int32)]) (rest := []) K hw (cc_X8_isWord l D cy ad A g0 _ (97 : Int32) (110 : Int32) (100 : Int32) (0 : Int32) (0 : Int32) (0 : Int32) (0 : Int32) (0 : Int32) hd) lk_X8_184 (ci := 8) rfl (q0 := 0) (wsM_at cy ad _ (by decide)) ⟨Nat.le_of_ble_eq_true rfl, Nat.le_of_ble_eq_true rfl⟩ ⟨Nat.zero_le _, Nat.zero_le _⟩ rfl hl.1 (Nat.le_of_ble_eq_true rfl) rfl dX8_both3_17 (fun r_5 g_4 H locs hd hw => ?_)
    refine lv_if_eq (tgt := 49) K.1 K.2.1 dX8_both3_20 (by decide) (fun h_6 => ?_) (fun h_6 => ?_)
    · have hd := hd.1 h_6
      refine lv_iload_n K.1 K.2.1 dX8_both3_49 rfl (lv_at hl 1 rfl) ?_
      exact rk_iret K hw hr hd dX8_both3_50
    · have hd := hd.2 h_6
      refine lv_aload_n K.1 K.2.1 dX8_both3_23 rfl (lv_at hl 0 rfl) ?_
      refine rk_vv (As := []) (rest := []) K hw (cc_X8_next l D cy ad A g_4 _  hd) lk_X8_181 (ci := 8) rfl (q0 := 0) (wsM_at cy ad _ (by decide)) ⟨Nat.le_of_ble_eq_true rfl, Nat.le_of_ble_eq_true rfl⟩ ⟨Nat.zero_le _, Nat.zero_le _⟩ rfl hl.1 (Nat.le_of_ble_eq_true rfl) rfl dX8_both3_24 (fun g_7 H locs hd hw => ?_)
      refine lv_aload_n K.1 K.2.1 dX8_both3_27 rfl (lv_at hl 0 rfl) ?_
      refine rk_vi (As := []) (rest := []) K hw (cc_X8_not3 l D cy ad A g_7 _  hd) lk_X8_266 (ci := 8) rfl (q0 := 0) (wsM_at cy ad _ (by decide)) ⟨Nat.le_of_ble_eq_true rfl, Nat.le_of_ble_eq_true rfl⟩ ⟨Nat.zero_le _, Nat.zero_le _⟩ rfl hl.1 (Nat.le_of_ble_eq_true rfl) rfl dX8_both3_28 (fun r_10 g_9 H locs hd hw => ?_)
      refine lv_topi (fun x2_11 ex2_11 => ?_)
      have hd := hd x2_11 ex2_11
      refine lv_istore_n (lv' := [(2, .int x2_11), (0, .ref (ad 0)), (1, .int x1)]) K.1 K.2.1 dX8_both3_31 rfl hl (by decide) rfl (fun ls hl => ?_)
      refine lv_iload_n K.1 K.2.1 dX8_both3_32 rfl (lv_at hl 2 rfl) ?_
      refine lv_if_eq (tgt := 44) K.1 K.2.1 dX8_both3_33 (by decide) (fun h_12 => ?_) (fun h_12 => ?_)
      · have hd := hd.1 h_12
        exact bb_X8_both3_44 K hr ih  g_9 _ _ _ hd hw (lv_sub hl [1] rfl)
      · have hd := hd.2 h_12
        refine lv_iload_n K.1 K.2.1 dX8_both3_36 rfl (lv_at hl 0 rfl) ?_
        refine lv_if_eq (tgt := 44) K.1 K.2.1 dX8_both3_37 (by decide) (fun h_14 => ?_) (fun h_14 => ?_)
        · have hd := hd.1 h_14
          exact bb_X8_both3_44 K hr ih  g_9 _ _ _ hd hw (lv_sub hl [1] rfl)
        · have hd := hd.2 h_14
          refine lv_iconst (v := (1 : Int32)) K.1 K.2.1 dX8_both3_40 (by decide) ?_
          refine lv_goto (tgt := 45) K.1 K.2.1 dX8_both3_41 (by decide) ?_
          exact bb_X8_both3_45 K hr ih (1 : Int32) g_9 _ _ _ hd hw (lv_sub hl [1] rfl)
set_option maxHeartbeats 4000000 in
set_option maxRecDepth 100000 in
theorem cc_X8_both3 (l : Launch) (D : va_G) (cy : Nat → ClassId) (ad : Nat → Nat) (A : Nat → Prop) (g0 : Sg) (Q : Int32 → Sg → Prop)  (hd : vv_X8_both3  g0 Q) : Met l yX8_both3 (Cond.code yX8_both3 cX8_both3 3 (some .int) :: TT) (rmD 20) (va_Pc [.ref (ad 0)] (PreG (wsM cy ad) D cy A g0)) (va_Qi Q (PostG (wsM cy ad) D A) A) 0 0 A := by
  unfold vv_X8_both3 at hd
  refine Met.ofW (cc := cX8_both3) (maxL := 3) (ret := (some .int)) (by decide) rfl ?_
  intro p e s m args below meth c s₁ B hml hv
  obtain ⟨rfl, hP, hK0, hD⟩ := hv
  have K : Kx p s m _ meth c cX8_both3 3 RX8 D cy := ⟨B.exec, B.bytes, hml, findClass_of_methodNamed B.named, fun w h => atoms_spec (ws := Cond.code yX8_both3 cX8_both3 3 (some .int) :: TT) B.pre w (List.mem_cons_of_mem _ h), hK0, B.notSynchronized⟩
  have hw : Wd D A s.heap (wsM cy ad g0) s.heap [] := ⟨hP, hD, va_S.rf⟩
  have hr := B.returns
  have hl := lv_entry ([.ref (ad 0)]) (n := 3) (Nat.le_of_ble_eq_true rfl)
  rw [lg_entry_eq]
  generalize (lg_sl ([.ref (ad 0)]) ++ List.replicate (3 - (lg_sl ([.ref (ad 0)])).length) Slot.unset).toArray = ls at hl ⊢
  have hl : lv_has ls 3 [(0, .ref (ad 0))] := hl
  refine lv_aload_n K.1 K.2.1 dX8_both3_0 rfl (lv_at hl 0 rfl) ?_
  refine rk_vi (As := []) (rest := []) K hw (cc_X8_not3 l D cy ad A g0 _  hd) lk_X8_266 (ci := 8) rfl (q0 := 0) (wsM_at cy ad _ (by decide)) ⟨Nat.le_of_ble_eq_true rfl, Nat.le_of_ble_eq_true rfl⟩ ⟨Nat.zero_le _, Nat.zero_le _⟩ rfl hl.1 (Nat.le_of_ble_eq_true rfl) rfl dX8_both3_1 (fun r_2 g_1 H locs hd hw => ?_)
  refine lv_topi (fun x1_3 ex1_3 => ?_)
  have hd := hd x1_3 ex1_3
  refine lv_istore_n (lv' := [(1, .int x1_3), (0, .ref (ad 0))]) K.1 K.2.1 dX8_both3_4 rfl hl (by decide) rfl (fun ls hl => ?_)
  obtain ⟨n9, hd⟩ := hd
  exact bb_X8_both3_5 K hr  n9 x1_3 g_1 _ _ _ hd hw (lv_sub hl [1, 0] rfl)
theorem dX8_either3_0 : decode cX8_either3 0 = .ok (.aload_n 0, 1) := by decide +kernel
theorem dX8_either3_1 : decode cX8_either3 1 = .ok (.invokevirtual 269, 3) := by decide +kernel
theorem dX8_either3_4 : decode cX8_either3 4 = .ok (.istore_n 1, 1) := by decide +kernel
theorem dX8_either3_5 : decode cX8_either3 5 = .ok (.aload_n 0, 1) := by decide +kernel
theorem dX8_either3_6 : decode cX8_either3 6 = .ok (.bipush 111, 2) := by decide +kernel
theorem dX8_either3_8 : decode cX8_either3 8 = .ok (.bipush 114, 2) := by decide +kernel
theorem dX8_either3_10 : decode cX8_either3 10 = .ok (.iconst 0, 1) := by decide +kernel
theorem dX8_either3_11 : decode cX8_either3 11 = .ok (.iconst 0, 1) := by decide +kernel
theorem dX8_either3_12 : decode cX8_either3 12 = .ok (.iconst 0, 1) := by decide +kernel
theorem dX8_either3_13 : decode cX8_either3 13 = .ok (.iconst 0, 1) := by decide +kernel
theorem dX8_either3_14 : decode cX8_either3 14 = .ok (.iconst 0, 1) := by decide +kernel
theorem dX8_either3_15 : decode cX8_either3 15 = .ok (.iconst 0, 1) := by decide +kernel
theorem dX8_either3_16 : decode cX8_either3 16 = .ok (.invokevirtual 184, 3) := by decide +kernel
theorem dX8_either3_19 : decode cX8_either3 19 = .ok (.ifCond .eq 29, 3) := by decide +kernel
theorem dX8_either3_22 : decode cX8_either3 22 = .ok (.aload_n 0, 1) := by decide +kernel
theorem dX8_either3_23 : decode cX8_either3 23 = .ok (.invokevirtual 181, 3) := by decide +kernel
theorem dX8_either3_26 : decode cX8_either3 26 = .ok (.aload_n 0, 1) := by decide +kernel
theorem dX8_either3_27 : decode cX8_either3 27 = .ok (.invokevirtual 269, 3) := by decide +kernel
theorem dX8_either3_30 : decode cX8_either3 30 = .ok (.istore_n 2, 1) := by decide +kernel
theorem dX8_either3_31 : decode cX8_either3 31 = .ok (.iload_n 1, 1) := by decide +kernel
theorem dX8_either3_32 : decode cX8_either3 32 = .ok (.ifCond .ne 7, 3) := by decide +kernel
theorem dX8_either3_35 : decode cX8_either3 35 = .ok (.iload_n 2, 1) := by decide +kernel
theorem dX8_either3_36 : decode cX8_either3 36 = .ok (.ifCond .eq 7, 3) := by decide +kernel
theorem dX8_either3_39 : decode cX8_either3 39 = .ok (.iconst 1, 1) := by decide +kernel
theorem dX8_either3_40 : decode cX8_either3 40 = .ok (.goto 4, 3) := by decide +kernel
theorem dX8_either3_43 : decode cX8_either3 43 = .ok (.iconst 0, 1) := by decide +kernel
theorem dX8_either3_44 : decode cX8_either3 44 = .ok (.istore_n 1, 1) := by decide +kernel
theorem dX8_either3_45 : decode cX8_either3 45 = .ok (.goto (-40), 3) := by decide +kernel
theorem dX8_either3_48 : decode cX8_either3 48 = .ok (.iload_n 1, 1) := by decide +kernel
theorem dX8_either3_49 : decode cX8_either3 49 = .ok (.ireturn, 1) := by decide +kernel
set_option maxHeartbeats 4000000 in
set_option maxRecDepth 100000 in
theorem bb_X8_either3_44 {p : Program} {l : Launch} {e : Env} {s : State} {m : MethodId} {args : Array Value} {below : List Frame} {meth : Method} {c : Code} {D : va_G} {cy : Nat → ClassId} {ad : Nat → Nat} {A : Nat → Prop} {Q : Int32 → Sg → Prop} (K : Kx p s m args meth c cX8_either3 3 RX8 D cy) (hr : meth.sig.returnType = (some .int)) {rc5 : Int32 → Sg → Prop} (hrc5 : ∀ (x1 : Int32) (u : Sg) (H : Heap) (locs : List Loc) (ls : Array Slot), rc5 x1 u → Wd D A s.heap (wsM cy ad u) H locs → lv_has ls 3 [(0, .ref (ad 0)), (1, .int x1)] → W p l e (rmD 21) s m args below meth c H locs 0 0 (MQ below (va_Qi Q (PostG (wsM cy ad) D A) A) args s 0 0 A) (F0 m 5 ls []))  (t0 : Int32) (g0 : Sg) (H : Heap) (locs : List Loc) (ls : Array Slot) (hd : vv_X8_either3_J44 rc5 t0 g0 Q) (hw : Wd D A s.heap (wsM cy ad g0) H locs) (hl : lv_has ls 3 [(0, .ref (ad 0))]) : W p l e (rmD 21) s m args below meth c H locs 0 0 (MQ below (va_Qi Q (PostG (wsM cy ad) D A) A) args s 0 0 A) (F0 m 44 ls [.int t0]) := by
  unfold vv_X8_either3_J44 at hd
  refine lv_topi (fun x1_13 ex1_13 => ?_)
  have hd := hd x1_13 ex1_13
  refine lv_istore_n (lv' := [(1, .int x1_13), (0, .ref (ad 0))]) K.1 K.2.1 dX8_either3_44 rfl hl (by decide) rfl (fun ls hl => ?_)
  refine lv_goto (tgt := 5) K.1 K.2.1 dX8_either3_45 (by decide) ?_
  exact hrc5 x1_13 g0 _ _ _ hd hw (lv_sub hl [1, 0] rfl)
set_option maxHeartbeats 4000000 in
set_option maxRecDepth 100000 in
theorem bb_X8_either3_39 {p : Program} {l : Launch} {e : Env} {s : State} {m : MethodId} {args : Array Value} {below : List Frame} {meth : Method} {c : Code} {D : va_G} {cy : Nat → ClassId} {ad : Nat → Nat} {A : Nat → Prop} {Q : Int32 → Sg → Prop} (K : Kx p s m args meth c cX8_either3 3 RX8 D cy) (hr : meth.sig.returnType = (some .int)) {rc5 : Int32 → Sg → Prop} (hrc5 : ∀ (x1 : Int32) (u : Sg) (H : Heap) (locs : List Loc) (ls : Array Slot), rc5 x1 u → Wd D A s.heap (wsM cy ad u) H locs → lv_has ls 3 [(0, .ref (ad 0)), (1, .int x1)] → W p l e (rmD 21) s m args below meth c H locs 0 0 (MQ below (va_Qi Q (PostG (wsM cy ad) D A) A) args s 0 0 A) (F0 m 5 ls []))   (g0 : Sg) (H : Heap) (locs : List Loc) (ls : Array Slot) (hd : vv_X8_either3_J39 rc5 g0 Q) (hw : Wd D A s.heap (wsM cy ad g0) H locs) (hl : lv_has ls 3 [(0, .ref (ad 0))]) : W p l e (rmD 21) s m args below meth c H locs 0 0 (MQ below (va_Qi Q (PostG (wsM cy ad) D A) A) args s 0 0 A) (F0 m 39 ls []) := by
  unfold vv_X8_either3_J39 at hd
  refine lv_iconst (v := (1 : Int32)) K.1 K.2.1 dX8_either3_39 (by decide) ?_
  refine lv_goto (tgt := 44) K.1 K.2.1 dX8_either3_40 (by decide) ?_
  exact bb_X8_either3_44 K hr hrc5 (1 : Int32) g0 _ _ _ hd hw (lv_sub hl [0] rfl)
set_option maxHeartbeats 4000000 in
set_option maxRecDepth 100000 in
theorem bb_X8_either3_5 {p : Program} {l : Launch} {e : Env} {s : State} {m : MethodId} {args : Array Value} {below : List Frame} {meth : Method} {c : Code} {D : va_G} {cy : Nat → ClassId} {ad : Nat → Nat} {A : Nat → Prop} {Q : Int32 → Sg → Prop} (K : Kx p s m args meth c cX8_either3 3 RX8 D cy) (hr : meth.sig.returnType = (some .int)) : ∀ (n : Nat) (x1 : Int32)  (g0 : Sg) (H : Heap) (locs : List Loc) (ls : Array Slot), vv_X8_either3_L5 Q n x1 g0 → Wd D A s.heap (wsM cy ad g0) H locs → lv_has ls 3 [(0, .ref (ad 0)), (1, .int x1)] → W p l e (rmD 21) s m args below meth c H locs 0 0 (MQ below (va_Qi Q (PostG (wsM cy ad) D A) A) args s 0 0 A) (F0 m 5 ls []) := by
  intro n
  induction n with
  | zero => intro _ _ _ _ _ hd; exact hd.elim
  | succ n ih =>
    intro x1 g0 H locs ls hd hw hl
    unfold vv_X8_either3_L5 at hd
    refine lv_aload_n K.1 K.2.1 dX8_either3_5 rfl (lv_at hl 0 rfl) ?_
    refine lv_bipush (v := (111 : Int32)) K.1 K.2.1 dX8_either3_6 (by decide) ?_
    refine lv_bipush (v := (114 : Int32)) K.1 K.2.1 dX8_either3_8 (by decide) ?_
    refine lv_iconst (v := (0 : Int32)) K.1 K.2.1 dX8_either3_10 (by decide) ?_
    refine lv_iconst (v := (0 : Int32)) K.1 K.2.1 dX8_either3_11 (by decide) ?_
    refine lv_iconst (v := (0 : Int32)) K.1 K.2.1 dX8_either3_12 (by decide) ?_
    refine lv_iconst (v := (0 : Int32)) K.1 K.2.1 dX8_either3_13 (by decide) ?_
    refine lv_iconst (v := (0 : Int32)) K.1 K.2.1 dX8_either3_14 (by decide) ?_
    refine lv_iconst (v := (0 : Int32)) K.1 K.2.1 dX8_either3_15 (by decide) ?_
    refine rk_vi (As := [.int (111 : Int32), .int (114 : Int32), .int (0 : Int32), .int (0 : Int32), .int (0 : Int32), .int (0 : Int32), .int (0 : Int32), .int (0 : Int32)]) (rest := []) K hw (cc_X8_isWord l D cy ad A g0 _ (111 : Int32) (114 : Int32) (0 : Int32) (0 : Int32) (0 : Int32) (0 : Int32) (0 : Int32) (0 : Int32) hd) lk_X8_184 (ci := 8) rfl (q0 := 0) (wsM_at cy ad _ (by decide)) ⟨Nat.le_of_ble_eq_true rfl, Nat.le_of_ble_eq_true rfl⟩ ⟨Nat.zero_le _, Nat.zero_le _⟩ rfl hl.1 (Nat.le_of_ble_eq_true rfl) rfl dX8_either3_16 (fun r_5 g_4 H locs hd hw => ?_)
    refine lv_if_eq (tgt := 48) K.1 K.2.1 dX8_either3_19 (by decide) (fun h_6 => ?_) (fun h_6 => ?_)
    · have hd := hd.1 h_6
      refine lv_iload_n K.1 K.2.1 dX8_either3_48 rfl (lv_at hl 1 rfl) ?_
      exact rk_iret K hw hr hd dX8_either3_49
    · have hd := hd.2 h_6
      refine lv_aload_n K.1 K.2.1 dX8_either3_22 rfl (lv_at hl 0 rfl) ?_
      refine rk_vv (As := []) (rest := []) K hw (cc_X8_next l D cy ad A g_4 _  hd) lk_X8_181 (ci := 8) rfl (q0 := 0) (wsM_at cy ad _ (by decide)) ⟨Nat.le_of_ble_eq_true rfl, Nat.le_of_ble_eq_true rfl⟩ ⟨Nat.zero_le _, Nat.zero_le _⟩ rfl hl.1 (Nat.le_of_ble_eq_true rfl) rfl dX8_either3_23 (fun g_7 H locs hd hw => ?_)
      refine lv_aload_n K.1 K.2.1 dX8_either3_26 rfl (lv_at hl 0 rfl) ?_
      refine rk_vi (As := []) (rest := []) K hw (cc_X8_both3 l D cy ad A g_7 _  hd) lk_X8_269 (ci := 8) rfl (q0 := 0) (wsM_at cy ad _ (by decide)) ⟨Nat.le_of_ble_eq_true rfl, Nat.le_of_ble_eq_true rfl⟩ ⟨Nat.zero_le _, Nat.zero_le _⟩ rfl hl.1 (Nat.le_of_ble_eq_true rfl) rfl dX8_either3_27 (fun r_10 g_9 H locs hd hw => ?_)
      refine lv_topi (fun x2_11 ex2_11 => ?_)
      have hd := hd x2_11 ex2_11
      refine lv_istore_n (lv' := [(2, .int x2_11), (0, .ref (ad 0)), (1, .int x1)]) K.1 K.2.1 dX8_either3_30 rfl hl (by decide) rfl (fun ls hl => ?_)
      refine lv_iload_n K.1 K.2.1 dX8_either3_31 rfl (lv_at hl 2 rfl) ?_
      refine lv_if_ne (tgt := 39) K.1 K.2.1 dX8_either3_32 (by decide) (fun h_12 => ?_) (fun h_12 => ?_)
      · have hd := hd.1 h_12
        exact bb_X8_either3_39 K hr ih  g_9 _ _ _ hd hw (lv_sub hl [1] rfl)
      · have hd := hd.2 h_12
        refine lv_iload_n K.1 K.2.1 dX8_either3_35 rfl (lv_at hl 0 rfl) ?_
        refine lv_if_eq (tgt := 43) K.1 K.2.1 dX8_either3_36 (by decide) (fun h_14 => ?_) (fun h_14 => ?_)
        · have hd := hd.1 h_14
          refine lv_iconst (v := (0 : Int32)) K.1 K.2.1 dX8_either3_43 (by decide) ?_
          exact bb_X8_either3_44 K hr ih (0 : Int32) g_9 _ _ _ hd hw (lv_sub hl [1] rfl)
        · have hd := hd.2 h_14
          exact bb_X8_either3_39 K hr ih  g_9 _ _ _ hd hw (lv_sub hl [1] rfl)
set_option maxHeartbeats 4000000 in
set_option maxRecDepth 100000 in
theorem cc_X8_either3 (l : Launch) (D : va_G) (cy : Nat → ClassId) (ad : Nat → Nat) (A : Nat → Prop) (g0 : Sg) (Q : Int32 → Sg → Prop)  (hd : vv_X8_either3  g0 Q) : Met l yX8_either3 (Cond.code yX8_either3 cX8_either3 3 (some .int) :: TT) (rmD 21) (va_Pc [.ref (ad 0)] (PreG (wsM cy ad) D cy A g0)) (va_Qi Q (PostG (wsM cy ad) D A) A) 0 0 A := by
  unfold vv_X8_either3 at hd
  refine Met.ofW (cc := cX8_either3) (maxL := 3) (ret := (some .int)) (by decide) rfl ?_
  intro p e s m args below meth c s₁ B hml hv
  obtain ⟨rfl, hP, hK0, hD⟩ := hv
  have K : Kx p s m _ meth c cX8_either3 3 RX8 D cy := ⟨B.exec, B.bytes, hml, findClass_of_methodNamed B.named, fun w h => atoms_spec (ws := Cond.code yX8_either3 cX8_either3 3 (some .int) :: TT) B.pre w (List.mem_cons_of_mem _ h), hK0, B.notSynchronized⟩
  have hw : Wd D A s.heap (wsM cy ad g0) s.heap [] := ⟨hP, hD, va_S.rf⟩
  have hr := B.returns
  have hl := lv_entry ([.ref (ad 0)]) (n := 3) (Nat.le_of_ble_eq_true rfl)
  rw [lg_entry_eq]
  generalize (lg_sl ([.ref (ad 0)]) ++ List.replicate (3 - (lg_sl ([.ref (ad 0)])).length) Slot.unset).toArray = ls at hl ⊢
  have hl : lv_has ls 3 [(0, .ref (ad 0))] := hl
  refine lv_aload_n K.1 K.2.1 dX8_either3_0 rfl (lv_at hl 0 rfl) ?_
  refine rk_vi (As := []) (rest := []) K hw (cc_X8_both3 l D cy ad A g0 _  hd) lk_X8_269 (ci := 8) rfl (q0 := 0) (wsM_at cy ad _ (by decide)) ⟨Nat.le_of_ble_eq_true rfl, Nat.le_of_ble_eq_true rfl⟩ ⟨Nat.zero_le _, Nat.zero_le _⟩ rfl hl.1 (Nat.le_of_ble_eq_true rfl) rfl dX8_either3_1 (fun r_2 g_1 H locs hd hw => ?_)
  refine lv_topi (fun x1_3 ex1_3 => ?_)
  have hd := hd x1_3 ex1_3
  refine lv_istore_n (lv' := [(1, .int x1_3), (0, .ref (ad 0))]) K.1 K.2.1 dX8_either3_4 rfl hl (by decide) rfl (fun ls hl => ?_)
  obtain ⟨n9, hd⟩ := hd
  exact bb_X8_either3_5 K hr  n9 x1_3 g_1 _ _ _ hd hw (lv_sub hl [1, 0] rfl)
theorem dX8_atom2_0 : decode cX8_atom2 0 = .ok (.iconst 0, 1) := by decide +kernel
theorem dX8_atom2_1 : decode cX8_atom2 1 = .ok (.istore_n 1, 1) := by decide +kernel
theorem dX8_atom2_2 : decode cX8_atom2 2 = .ok (.aload_n 0, 1) := by decide +kernel
theorem dX8_atom2_3 : decode cX8_atom2 3 = .ok (.bipush 45, 2) := by decide +kernel
theorem dX8_atom2_5 : decode cX8_atom2 5 = .ok (.invokevirtual 206, 3) := by decide +kernel
theorem dX8_atom2_8 : decode cX8_atom2 8 = .ok (.ifCond .eq 29, 3) := by decide +kernel
theorem dX8_atom2_11 : decode cX8_atom2 11 = .ok (.aload_n 0, 1) := by decide +kernel
theorem dX8_atom2_12 : decode cX8_atom2 12 = .ok (.invokevirtual 209, 3) := by decide +kernel
theorem dX8_atom2_15 : decode cX8_atom2 15 = .ok (.ifCond .eq 146, 3) := by decide +kernel
theorem dX8_atom2_18 : decode cX8_atom2 18 = .ok (.aload_n 0, 1) := by decide +kernel
theorem dX8_atom2_19 : decode cX8_atom2 19 = .ok (.invokevirtual 257, 3) := by decide +kernel
theorem dX8_atom2_22 : decode cX8_atom2 22 = .ok (.ineg, 1) := by decide +kernel
theorem dX8_atom2_23 : decode cX8_atom2 23 = .ok (.istore_n 1, 1) := by decide +kernel
theorem dX8_atom2_24 : decode cX8_atom2 24 = .ok (.aload_n 0, 1) := by decide +kernel
theorem dX8_atom2_25 : decode cX8_atom2 25 = .ok (.dup, 1) := by decide +kernel
theorem dX8_atom2_26 : decode cX8_atom2 26 = .ok (.getfield 175, 3) := by decide +kernel
theorem dX8_atom2_29 : decode cX8_atom2 29 = .ok (.iconst 1, 1) := by decide +kernel
theorem dX8_atom2_30 : decode cX8_atom2 30 = .ok (.isub, 1) := by decide +kernel
theorem dX8_atom2_31 : decode cX8_atom2 31 = .ok (.putfield 175, 3) := by decide +kernel
theorem dX8_atom2_34 : decode cX8_atom2 34 = .ok (.goto 127, 3) := by decide +kernel
theorem dX8_atom2_37 : decode cX8_atom2 37 = .ok (.aload_n 0, 1) := by decide +kernel
theorem dX8_atom2_38 : decode cX8_atom2 38 = .ok (.bipush 40, 2) := by decide +kernel
theorem dX8_atom2_40 : decode cX8_atom2 40 = .ok (.invokevirtual 206, 3) := by decide +kernel
theorem dX8_atom2_43 : decode cX8_atom2 43 = .ok (.ifCond .eq 52, 3) := by decide +kernel
theorem dX8_atom2_46 : decode cX8_atom2 46 = .ok (.aload_n 0, 1) := by decide +kernel
theorem dX8_atom2_47 : decode cX8_atom2 47 = .ok (.invokevirtual 209, 3) := by decide +kernel
theorem dX8_atom2_50 : decode cX8_atom2 50 = .ok (.ifCond .eq 111, 3) := by decide +kernel
theorem dX8_atom2_53 : decode cX8_atom2 53 = .ok (.aload_n 0, 1) := by decide +kernel
theorem dX8_atom2_54 : decode cX8_atom2 54 = .ok (.invokevirtual 272, 3) := by decide +kernel
theorem dX8_atom2_57 : decode cX8_atom2 57 = .ok (.istore_n 1, 1) := by decide +kernel
theorem dX8_atom2_58 : decode cX8_atom2 58 = .ok (.aload_n 0, 1) := by decide +kernel
theorem dX8_atom2_59 : decode cX8_atom2 59 = .ok (.bipush 41, 2) := by decide +kernel
theorem dX8_atom2_61 : decode cX8_atom2 61 = .ok (.invokevirtual 206, 3) := by decide +kernel
theorem dX8_atom2_64 : decode cX8_atom2 64 = .ok (.ifCond .ne 7, 3) := by decide +kernel
theorem dX8_atom2_67 : decode cX8_atom2 67 = .ok (.aload_n 0, 1) := by decide +kernel
theorem dX8_atom2_68 : decode cX8_atom2 68 = .ok (.invokevirtual 178, 3) := by decide +kernel
theorem dX8_atom2_71 : decode cX8_atom2 71 = .ok (.aload_n 0, 1) := by decide +kernel
theorem dX8_atom2_72 : decode cX8_atom2 72 = .ok (.dup, 1) := by decide +kernel
theorem dX8_atom2_73 : decode cX8_atom2 73 = .ok (.getfield 175, 3) := by decide +kernel
theorem dX8_atom2_76 : decode cX8_atom2 76 = .ok (.iconst 1, 1) := by decide +kernel
theorem dX8_atom2_77 : decode cX8_atom2 77 = .ok (.isub, 1) := by decide +kernel
theorem dX8_atom2_78 : decode cX8_atom2 78 = .ok (.putfield 175, 3) := by decide +kernel
theorem dX8_atom2_81 : decode cX8_atom2 81 = .ok (.aload_n 0, 1) := by decide +kernel
theorem dX8_atom2_82 : decode cX8_atom2 82 = .ok (.getfield 164, 3) := by decide +kernel
theorem dX8_atom2_85 : decode cX8_atom2 85 = .ok (.ifCond .ne 76, 3) := by decide +kernel
theorem dX8_atom2_88 : decode cX8_atom2 88 = .ok (.aload_n 0, 1) := by decide +kernel
theorem dX8_atom2_89 : decode cX8_atom2 89 = .ok (.invokevirtual 181, 3) := by decide +kernel
theorem dX8_atom2_92 : decode cX8_atom2 92 = .ok (.goto 69, 3) := by decide +kernel
theorem dX8_atom2_95 : decode cX8_atom2 95 = .ok (.aload_n 0, 1) := by decide +kernel
theorem dX8_atom2_96 : decode cX8_atom2 96 = .ok (.getfield 164, 3) := by decide +kernel
theorem dX8_atom2_99 : decode cX8_atom2 99 = .ok (.ifCond .ne 24, 3) := by decide +kernel
theorem dX8_atom2_102 : decode cX8_atom2 102 = .ok (.aload_n 0, 1) := by decide +kernel
theorem dX8_atom2_103 : decode cX8_atom2 103 = .ok (.getfield 149, 3) := by decide +kernel
theorem dX8_atom2_106 : decode cX8_atom2 106 = .ok (.iconst 2, 1) := by decide +kernel
theorem dX8_atom2_107 : decode cX8_atom2 107 = .ok (.if_icmp .ne 16, 3) := by decide +kernel
theorem dX8_atom2_110 : decode cX8_atom2 110 = .ok (.aload_n 0, 1) := by decide +kernel
theorem dX8_atom2_111 : decode cX8_atom2 111 = .ok (.getfield 160, 3) := by decide +kernel
theorem dX8_atom2_114 : decode cX8_atom2 114 = .ok (.l2i, 1) := by decide +kernel
theorem dX8_atom2_115 : decode cX8_atom2 115 = .ok (.istore_n 1, 1) := by decide +kernel
theorem dX8_atom2_116 : decode cX8_atom2 116 = .ok (.aload_n 0, 1) := by decide +kernel
theorem dX8_atom2_117 : decode cX8_atom2 117 = .ok (.invokevirtual 181, 3) := by decide +kernel
theorem dX8_atom2_120 : decode cX8_atom2 120 = .ok (.goto 41, 3) := by decide +kernel
theorem dX8_atom2_123 : decode cX8_atom2 123 = .ok (.aload_n 0, 1) := by decide +kernel
theorem dX8_atom2_124 : decode cX8_atom2 124 = .ok (.getfield 164, 3) := by decide +kernel
theorem dX8_atom2_127 : decode cX8_atom2 127 = .ok (.ifCond .ne 30, 3) := by decide +kernel
theorem dX8_atom2_130 : decode cX8_atom2 130 = .ok (.aload_n 0, 1) := by decide +kernel
theorem dX8_atom2_131 : decode cX8_atom2 131 = .ok (.getfield 149, 3) := by decide +kernel
theorem dX8_atom2_134 : decode cX8_atom2 134 = .ok (.iconst 1, 1) := by decide +kernel
theorem dX8_atom2_135 : decode cX8_atom2 135 = .ok (.if_icmp .ne 22, 3) := by decide +kernel
theorem dX8_atom2_138 : decode cX8_atom2 138 = .ok (.aload_n 0, 1) := by decide +kernel
theorem dX8_atom2_139 : decode cX8_atom2 139 = .ok (.invokevirtual 213, 3) := by decide +kernel
theorem dX8_atom2_142 : decode cX8_atom2 142 = .ok (.istore_n 1, 1) := by decide +kernel
theorem dX8_atom2_143 : decode cX8_atom2 143 = .ok (.aload_n 0, 1) := by decide +kernel
theorem dX8_atom2_144 : decode cX8_atom2 144 = .ok (.getfield 164, 3) := by decide +kernel
theorem dX8_atom2_147 : decode cX8_atom2 147 = .ok (.ifCond .ne 14, 3) := by decide +kernel
theorem dX8_atom2_150 : decode cX8_atom2 150 = .ok (.aload_n 0, 1) := by decide +kernel
theorem dX8_atom2_151 : decode cX8_atom2 151 = .ok (.invokevirtual 181, 3) := by decide +kernel
theorem dX8_atom2_154 : decode cX8_atom2 154 = .ok (.goto 7, 3) := by decide +kernel
theorem dX8_atom2_157 : decode cX8_atom2 157 = .ok (.aload_n 0, 1) := by decide +kernel
theorem dX8_atom2_158 : decode cX8_atom2 158 = .ok (.invokevirtual 178, 3) := by decide +kernel
theorem dX8_atom2_161 : decode cX8_atom2 161 = .ok (.iload_n 1, 1) := by decide +kernel
theorem dX8_atom2_162 : decode cX8_atom2 162 = .ok (.ireturn, 1) := by decide +kernel
set_option maxHeartbeats 4000000 in
set_option maxRecDepth 100000 in
theorem bb_X8_atom2_157 {p : Program} {l : Launch} {e : Env} {s : State} {m : MethodId} {args : Array Value} {below : List Frame} {meth : Method} {c : Code} {D : va_G} {cy : Nat → ClassId} {ad : Nat → Nat} {A : Nat → Prop} {Q : Int32 → Sg → Prop} (K : Kx p s m args meth c cX8_atom2 2 RX8 D cy) (hr : meth.sig.returnType = (some .int)) (x1 : Int32)  (g0 : Sg) (H : Heap) (locs : List Loc) (ls : Array Slot) (hd : vv_X8_atom2_J157 x1 g0 Q) (hw : Wd D A s.heap (wsM cy ad g0) H locs) (hl : lv_has ls 2 [(0, .ref (ad 0)), (1, .int x1)]) : W p l e (rmD 22) s m args below meth c H locs 0 0 (MQ below (va_Qi Q (PostG (wsM cy ad) D A) A) args s 0 0 A) (F0 m 157 ls []) := by
  unfold vv_X8_atom2_J157 at hd
  refine lv_aload_n K.1 K.2.1 dX8_atom2_157 rfl (lv_at hl 0 rfl) ?_
  refine rk_vv (As := []) (rest := []) K hw (cc_X8_fail l D cy ad A g0 _  hd) lk_X8_178 (ci := 8) rfl (q0 := 0) (wsM_at cy ad _ (by decide)) ⟨Nat.le_of_ble_eq_true rfl, Nat.le_of_ble_eq_true rfl⟩ ⟨Nat.zero_le _, Nat.zero_le _⟩ rfl hl.1 (Nat.le_of_ble_eq_true rfl) rfl dX8_atom2_158 (fun g_10 H locs hd hw => ?_)
  refine lv_iload_n K.1 K.2.1 dX8_atom2_161 rfl (lv_at hl 1 rfl) ?_
  exact rk_iret K hw hr hd dX8_atom2_162
set_option maxHeartbeats 4000000 in
set_option maxRecDepth 100000 in
theorem bb_X8_atom2_123 {p : Program} {l : Launch} {e : Env} {s : State} {m : MethodId} {args : Array Value} {below : List Frame} {meth : Method} {c : Code} {D : va_G} {cy : Nat → ClassId} {ad : Nat → Nat} {A : Nat → Prop} {Q : Int32 → Sg → Prop} (K : Kx p s m args meth c cX8_atom2 2 RX8 D cy) (hr : meth.sig.returnType = (some .int)) (x1 : Int32)  (g0 : Sg) (H : Heap) (locs : List Loc) (ls : Array Slot) (hd : vv_X8_atom2_J123 x1 g0 Q) (hw : Wd D A s.heap (wsM cy ad g0) H locs) (hl : lv_has ls 2 [(0, .ref (ad 0)), (1, .int x1)]) : W p l e (rmD 22) s m args below meth c H locs 0 0 (MQ below (va_Qi Q (PostG (wsM cy ad) D A) A) args s 0 0 A) (F0 m 123 ls []) := by
  unfold vv_X8_atom2_J123 at hd
  refine lv_aload_n K.1 K.2.1 dX8_atom2_123 rfl (lv_at hl 0 rfl) ?_
  refine rm_get 25 K hw (by decide) kf_X8_164 rfl dX8_atom2_124 ?_
  refine lv_if_ne (tgt := 157) K.1 K.2.1 dX8_atom2_127 (by decide) (fun h_9 => ?_) (fun h_9 => ?_)
  · have hd := hd.1 h_9
    exact bb_X8_atom2_157 K hr  x1 g0 _ _ _ hd hw (lv_sub hl [0, 1] rfl)
  · have hd := hd.2 h_9
    refine lv_aload_n K.1 K.2.1 dX8_atom2_130 rfl (lv_at hl 0 rfl) ?_
    refine rm_get 21 K hw (by decide) kf_X8_149 rfl dX8_atom2_131 ?_
    refine lv_iconst (v := (1 : Int32)) K.1 K.2.1 dX8_atom2_134 (by decide) ?_
    refine lv_icmp_ne (tgt := 157) K.1 K.2.1 dX8_atom2_135 (by decide) (fun h_12 => ?_) (fun h_12 => ?_)
    · have hd := hd.1 h_12
      exact bb_X8_atom2_157 K hr  x1 g0 _ _ _ hd hw (lv_sub hl [0, 1] rfl)
    · have hd := hd.2 h_12
      refine lv_aload_n K.1 K.2.1 dX8_atom2_138 rfl (lv_at hl 0 rfl) ?_
      refine rk_vi (As := []) (rest := []) K hw (cc_X8_name l D cy ad A g0 _  hd) lk_X8_213 (ci := 8) rfl (q0 := 0) (wsM_at cy ad _ (by decide)) ⟨Nat.le_of_ble_eq_true rfl, Nat.le_of_ble_eq_true rfl⟩ ⟨Nat.zero_le _, Nat.zero_le _⟩ rfl hl.1 (Nat.le_of_ble_eq_true rfl) rfl dX8_atom2_139 (fun r_14 g_13 H locs hd hw => ?_)
      refine lv_topi (fun x1_15 ex1_15 => ?_)
      have hd := hd x1_15 ex1_15
      refine lv_istore_n (lv' := [(1, .int x1_15), (0, .ref (ad 0))]) K.1 K.2.1 dX8_atom2_142 rfl hl (by decide) rfl (fun ls hl => ?_)
      refine lv_aload_n K.1 K.2.1 dX8_atom2_143 rfl (lv_at hl 1 rfl) ?_
      refine rm_get 25 K hw (by decide) kf_X8_164 rfl dX8_atom2_144 ?_
      refine lv_if_ne (tgt := 161) K.1 K.2.1 dX8_atom2_147 (by decide) (fun h_16 => ?_) (fun h_16 => ?_)
      · have hd := hd.1 h_16
        refine lv_iload_n K.1 K.2.1 dX8_atom2_161 rfl (lv_at hl 0 rfl) ?_
        exact rk_iret K hw hr hd dX8_atom2_162
      · have hd := hd.2 h_16
        refine lv_aload_n K.1 K.2.1 dX8_atom2_150 rfl (lv_at hl 1 rfl) ?_
        refine rk_vv (As := []) (rest := []) K hw (cc_X8_next l D cy ad A g_13 _  hd) lk_X8_181 (ci := 8) rfl (q0 := 0) (wsM_at cy ad _ (by decide)) ⟨Nat.le_of_ble_eq_true rfl, Nat.le_of_ble_eq_true rfl⟩ ⟨Nat.zero_le _, Nat.zero_le _⟩ rfl hl.1 (Nat.le_of_ble_eq_true rfl) rfl dX8_atom2_151 (fun g_17 H locs hd hw => ?_)
        refine lv_goto (tgt := 161) K.1 K.2.1 dX8_atom2_154 (by decide) ?_
        refine lv_iload_n K.1 K.2.1 dX8_atom2_161 rfl (lv_at hl 0 rfl) ?_
        exact rk_iret K hw hr hd dX8_atom2_162
set_option maxHeartbeats 4000000 in
set_option maxRecDepth 100000 in
theorem bb_X8_atom2_71 {p : Program} {l : Launch} {e : Env} {s : State} {m : MethodId} {args : Array Value} {below : List Frame} {meth : Method} {c : Code} {D : va_G} {cy : Nat → ClassId} {ad : Nat → Nat} {A : Nat → Prop} {Q : Int32 → Sg → Prop} (K : Kx p s m args meth c cX8_atom2 2 RX8 D cy) (hr : meth.sig.returnType = (some .int)) (x1 : Int32)  (g0 : Sg) (H : Heap) (locs : List Loc) (ls : Array Slot) (hd : vv_X8_atom2_J71 x1 g0 Q) (hw : Wd D A s.heap (wsM cy ad g0) H locs) (hl : lv_has ls 2 [(0, .ref (ad 0)), (1, .int x1)]) : W p l e (rmD 22) s m args below meth c H locs 0 0 (MQ below (va_Qi Q (PostG (wsM cy ad) D A) A) args s 0 0 A) (F0 m 71 ls []) := by
  unfold vv_X8_atom2_J71 at hd
  refine lv_aload_n K.1 K.2.1 dX8_atom2_71 rfl (lv_at hl 0 rfl) ?_
  refine lv_dup K.1 K.2.1 dX8_atom2_72 rfl ?_
  refine rm_get 24 K hw (by decide) kf_X8_175 rfl dX8_atom2_73 ?_
  refine lv_iconst (v := (1 : Int32)) K.1 K.2.1 dX8_atom2_76 (by decide) ?_
  refine lv_isub K.1 K.2.1 dX8_atom2_77 ?_
  refine rm_put 24 K hw (by decide) kf_X8_175 rfl rfl rfl rfl (fsM_24 ad g0 _) dX8_atom2_78 (fun g_32 eg_32 H locs hw => ?_)
  have hd := hd g_32 eg_32
  refine lv_aload_n K.1 K.2.1 dX8_atom2_81 rfl (lv_at hl 0 rfl) ?_
  refine rm_get 25 K hw (by decide) kf_X8_164 rfl dX8_atom2_82 ?_
  refine lv_if_ne (tgt := 161) K.1 K.2.1 dX8_atom2_85 (by decide) (fun h_33 => ?_) (fun h_33 => ?_)
  · have hd := hd.1 h_33
    refine lv_iload_n K.1 K.2.1 dX8_atom2_161 rfl (lv_at hl 1 rfl) ?_
    exact rk_iret K hw hr hd dX8_atom2_162
  · have hd := hd.2 h_33
    refine lv_aload_n K.1 K.2.1 dX8_atom2_88 rfl (lv_at hl 0 rfl) ?_
    refine rk_vv (As := []) (rest := []) K hw (cc_X8_next l D cy ad A g_32 _  hd) lk_X8_181 (ci := 8) rfl (q0 := 0) (wsM_at cy ad _ (by decide)) ⟨Nat.le_of_ble_eq_true rfl, Nat.le_of_ble_eq_true rfl⟩ ⟨Nat.zero_le _, Nat.zero_le _⟩ rfl hl.1 (Nat.le_of_ble_eq_true rfl) rfl dX8_atom2_89 (fun g_34 H locs hd hw => ?_)
    refine lv_goto (tgt := 161) K.1 K.2.1 dX8_atom2_92 (by decide) ?_
    refine lv_iload_n K.1 K.2.1 dX8_atom2_161 rfl (lv_at hl 1 rfl) ?_
    exact rk_iret K hw hr hd dX8_atom2_162
set_option maxHeartbeats 4000000 in
set_option maxRecDepth 100000 in
theorem cc_X8_atom2 (l : Launch) (D : va_G) (cy : Nat → ClassId) (ad : Nat → Nat) (A : Nat → Prop) (g0 : Sg) (Q : Int32 → Sg → Prop)  (hd : vv_X8_atom2  g0 Q) : Met l yX8_atom2 (Cond.code yX8_atom2 cX8_atom2 2 (some .int) :: TT) (rmD 22) (va_Pc [.ref (ad 0)] (PreG (wsM cy ad) D cy A g0)) (va_Qi Q (PostG (wsM cy ad) D A) A) 0 0 A := by
  unfold vv_X8_atom2 at hd
  refine Met.ofW (cc := cX8_atom2) (maxL := 2) (ret := (some .int)) (by decide) rfl ?_
  intro p e s m args below meth c s₁ B hml hv
  obtain ⟨rfl, hP, hK0, hD⟩ := hv
  have K : Kx p s m _ meth c cX8_atom2 2 RX8 D cy := ⟨B.exec, B.bytes, hml, findClass_of_methodNamed B.named, fun w h => atoms_spec (ws := Cond.code yX8_atom2 cX8_atom2 2 (some .int) :: TT) B.pre w (List.mem_cons_of_mem _ h), hK0, B.notSynchronized⟩
  have hw : Wd D A s.heap (wsM cy ad g0) s.heap [] := ⟨hP, hD, va_S.rf⟩
  have hr := B.returns
  have hl := lv_entry ([.ref (ad 0)]) (n := 2) (Nat.le_of_ble_eq_true rfl)
  rw [lg_entry_eq]
  generalize (lg_sl ([.ref (ad 0)]) ++ List.replicate (2 - (lg_sl ([.ref (ad 0)])).length) Slot.unset).toArray = ls at hl ⊢
  have hl : lv_has ls 2 [(0, .ref (ad 0))] := hl
  refine lv_iconst (v := (0 : Int32)) K.1 K.2.1 dX8_atom2_0 (by decide) ?_
  refine lv_topi (fun x1_1 ex1_1 => ?_)
  have hd := hd x1_1 ex1_1
  refine lv_istore_n (lv' := [(1, .int x1_1), (0, .ref (ad 0))]) K.1 K.2.1 dX8_atom2_1 rfl hl (by decide) rfl (fun ls hl => ?_)
  refine lv_aload_n K.1 K.2.1 dX8_atom2_2 rfl (lv_at hl 1 rfl) ?_
  refine lv_bipush (v := (45 : Int32)) K.1 K.2.1 dX8_atom2_3 (by decide) ?_
  refine rk_vi (As := [.int (45 : Int32)]) (rest := []) K hw (cc_X8_isSign l D cy ad A g0 _ (45 : Int32) hd) lk_X8_206 (ci := 8) rfl (q0 := 0) (wsM_at cy ad _ (by decide)) ⟨Nat.le_of_ble_eq_true rfl, Nat.le_of_ble_eq_true rfl⟩ ⟨Nat.zero_le _, Nat.zero_le _⟩ rfl hl.1 (Nat.le_of_ble_eq_true rfl) rfl dX8_atom2_5 (fun r_3 g_2 H locs hd hw => ?_)
  refine lv_if_eq (tgt := 37) K.1 K.2.1 dX8_atom2_8 (by decide) (fun h_4 => ?_) (fun h_4 => ?_)
  · have hd := hd.1 h_4
    refine lv_aload_n K.1 K.2.1 dX8_atom2_37 rfl (lv_at hl 1 rfl) ?_
    refine lv_bipush (v := (40 : Int32)) K.1 K.2.1 dX8_atom2_38 (by decide) ?_
    refine rk_vi (As := [.int (40 : Int32)]) (rest := []) K hw (cc_X8_isSign l D cy ad A g_2 _ (40 : Int32) hd) lk_X8_206 (ci := 8) rfl (q0 := 0) (wsM_at cy ad _ (by decide)) ⟨Nat.le_of_ble_eq_true rfl, Nat.le_of_ble_eq_true rfl⟩ ⟨Nat.zero_le _, Nat.zero_le _⟩ rfl hl.1 (Nat.le_of_ble_eq_true rfl) rfl dX8_atom2_40 (fun r_6 g_5 H locs hd hw => ?_)
    refine lv_if_eq (tgt := 95) K.1 K.2.1 dX8_atom2_43 (by decide) (fun h_7 => ?_) (fun h_7 => ?_)
    · have hd := hd.1 h_7
      refine lv_aload_n K.1 K.2.1 dX8_atom2_95 rfl (lv_at hl 1 rfl) ?_
      refine rm_get 25 K hw (by decide) kf_X8_164 rfl dX8_atom2_96 ?_
      refine lv_if_ne (tgt := 123) K.1 K.2.1 dX8_atom2_99 (by decide) (fun h_8 => ?_) (fun h_8 => ?_)
      · have hd := hd.1 h_8
        exact bb_X8_atom2_123 K hr  x1_1 g_5 _ _ _ hd hw (lv_sub hl [1, 0] rfl)
      · have hd := hd.2 h_8
        refine lv_aload_n K.1 K.2.1 dX8_atom2_102 rfl (lv_at hl 1 rfl) ?_
        refine rm_get 21 K hw (by decide) kf_X8_149 rfl dX8_atom2_103 ?_
        refine lv_iconst (v := (2 : Int32)) K.1 K.2.1 dX8_atom2_106 (by decide) ?_
        refine lv_icmp_ne (tgt := 123) K.1 K.2.1 dX8_atom2_107 (by decide) (fun h_19 => ?_) (fun h_19 => ?_)
        · have hd := hd.1 h_19
          exact bb_X8_atom2_123 K hr  x1_1 g_5 _ _ _ hd hw (lv_sub hl [1, 0] rfl)
        · have hd := hd.2 h_19
          refine lv_aload_n K.1 K.2.1 dX8_atom2_110 rfl (lv_at hl 1 rfl) ?_
          refine rm_get 23 K hw (by decide) kf_X8_160 rfl dX8_atom2_111 ?_
          refine lv_l2i (v := (g_5 0 23).toInt64.toInt32) K.1 K.2.1 dX8_atom2_114 rfl ?_
          refine lv_topi (fun x1_20 ex1_20 => ?_)
          have hd := hd x1_20 ex1_20
          refine lv_istore_n (lv' := [(1, .int x1_20), (0, .ref (ad 0))]) K.1 K.2.1 dX8_atom2_115 rfl hl (by decide) rfl (fun ls hl => ?_)
          refine lv_aload_n K.1 K.2.1 dX8_atom2_116 rfl (lv_at hl 1 rfl) ?_
          refine rk_vv (As := []) (rest := []) K hw (cc_X8_next l D cy ad A g_5 _  hd) lk_X8_181 (ci := 8) rfl (q0 := 0) (wsM_at cy ad _ (by decide)) ⟨Nat.le_of_ble_eq_true rfl, Nat.le_of_ble_eq_true rfl⟩ ⟨Nat.zero_le _, Nat.zero_le _⟩ rfl hl.1 (Nat.le_of_ble_eq_true rfl) rfl dX8_atom2_117 (fun g_21 H locs hd hw => ?_)
          refine lv_goto (tgt := 161) K.1 K.2.1 dX8_atom2_120 (by decide) ?_
          refine lv_iload_n K.1 K.2.1 dX8_atom2_161 rfl (lv_at hl 0 rfl) ?_
          exact rk_iret K hw hr hd dX8_atom2_162
    · have hd := hd.2 h_7
      refine lv_aload_n K.1 K.2.1 dX8_atom2_46 rfl (lv_at hl 1 rfl) ?_
      refine rk_vi (As := []) (rest := []) K hw (cc_X8_opens l D cy ad A g_5 _  hd) lk_X8_209 (ci := 8) rfl (q0 := 0) (wsM_at cy ad _ (by decide)) ⟨Nat.le_of_ble_eq_true rfl, Nat.le_of_ble_eq_true rfl⟩ ⟨Nat.zero_le _, Nat.zero_le _⟩ rfl hl.1 (Nat.le_of_ble_eq_true rfl) rfl dX8_atom2_47 (fun r_24 g_23 H locs hd hw => ?_)
      refine lv_if_eq (tgt := 161) K.1 K.2.1 dX8_atom2_50 (by decide) (fun h_25 => ?_) (fun h_25 => ?_)
      · have hd := hd.1 h_25
        refine lv_iload_n K.1 K.2.1 dX8_atom2_161 rfl (lv_at hl 0 rfl) ?_
        exact rk_iret K hw hr hd dX8_atom2_162
      · have hd := hd.2 h_25
        refine lv_aload_n K.1 K.2.1 dX8_atom2_53 rfl (lv_at hl 1 rfl) ?_
        refine rk_vi (As := []) (rest := []) K hw (cc_X8_either3 l D cy ad A g_23 _  hd) lk_X8_272 (ci := 8) rfl (q0 := 0) (wsM_at cy ad _ (by decide)) ⟨Nat.le_of_ble_eq_true rfl, Nat.le_of_ble_eq_true rfl⟩ ⟨Nat.zero_le _, Nat.zero_le _⟩ rfl hl.1 (Nat.le_of_ble_eq_true rfl) rfl dX8_atom2_54 (fun r_27 g_26 H locs hd hw => ?_)
        refine lv_topi (fun x1_28 ex1_28 => ?_)
        have hd := hd x1_28 ex1_28
        refine lv_istore_n (lv' := [(1, .int x1_28), (0, .ref (ad 0))]) K.1 K.2.1 dX8_atom2_57 rfl hl (by decide) rfl (fun ls hl => ?_)
        refine lv_aload_n K.1 K.2.1 dX8_atom2_58 rfl (lv_at hl 1 rfl) ?_
        refine lv_bipush (v := (41 : Int32)) K.1 K.2.1 dX8_atom2_59 (by decide) ?_
        refine rk_vi (As := [.int (41 : Int32)]) (rest := []) K hw (cc_X8_isSign l D cy ad A g_26 _ (41 : Int32) hd) lk_X8_206 (ci := 8) rfl (q0 := 0) (wsM_at cy ad _ (by decide)) ⟨Nat.le_of_ble_eq_true rfl, Nat.le_of_ble_eq_true rfl⟩ ⟨Nat.zero_le _, Nat.zero_le _⟩ rfl hl.1 (Nat.le_of_ble_eq_true rfl) rfl dX8_atom2_61 (fun r_30 g_29 H locs hd hw => ?_)
        refine lv_if_ne (tgt := 71) K.1 K.2.1 dX8_atom2_64 (by decide) (fun h_31 => ?_) (fun h_31 => ?_)
        · have hd := hd.1 h_31
          exact bb_X8_atom2_71 K hr  x1_28 g_29 _ _ _ hd hw (lv_sub hl [1, 0] rfl)
        · have hd := hd.2 h_31
          refine lv_aload_n K.1 K.2.1 dX8_atom2_67 rfl (lv_at hl 1 rfl) ?_
          refine rk_vv (As := []) (rest := []) K hw (cc_X8_fail l D cy ad A g_29 _  hd) lk_X8_178 (ci := 8) rfl (q0 := 0) (wsM_at cy ad _ (by decide)) ⟨Nat.le_of_ble_eq_true rfl, Nat.le_of_ble_eq_true rfl⟩ ⟨Nat.zero_le _, Nat.zero_le _⟩ rfl hl.1 (Nat.le_of_ble_eq_true rfl) rfl dX8_atom2_68 (fun g_36 H locs hd hw => ?_)
          exact bb_X8_atom2_71 K hr  x1_28 g_36 _ _ _ hd hw (lv_sub hl [1, 0] rfl)
  · have hd := hd.2 h_4
    refine lv_aload_n K.1 K.2.1 dX8_atom2_11 rfl (lv_at hl 1 rfl) ?_
    refine rk_vi (As := []) (rest := []) K hw (cc_X8_opens l D cy ad A g_2 _  hd) lk_X8_209 (ci := 8) rfl (q0 := 0) (wsM_at cy ad _ (by decide)) ⟨Nat.le_of_ble_eq_true rfl, Nat.le_of_ble_eq_true rfl⟩ ⟨Nat.zero_le _, Nat.zero_le _⟩ rfl hl.1 (Nat.le_of_ble_eq_true rfl) rfl dX8_atom2_12 (fun r_39 g_38 H locs hd hw => ?_)
    refine lv_if_eq (tgt := 161) K.1 K.2.1 dX8_atom2_15 (by decide) (fun h_40 => ?_) (fun h_40 => ?_)
    · have hd := hd.1 h_40
      refine lv_iload_n K.1 K.2.1 dX8_atom2_161 rfl (lv_at hl 0 rfl) ?_
      exact rk_iret K hw hr hd dX8_atom2_162
    · have hd := hd.2 h_40
      refine lv_aload_n K.1 K.2.1 dX8_atom2_18 rfl (lv_at hl 1 rfl) ?_
      refine rk_vi (As := []) (rest := []) K hw (cc_X8_atom3 l D cy ad A g_38 _  hd) lk_X8_257 (ci := 8) rfl (q0 := 0) (wsM_at cy ad _ (by decide)) ⟨Nat.le_of_ble_eq_true rfl, Nat.le_of_ble_eq_true rfl⟩ ⟨Nat.zero_le _, Nat.zero_le _⟩ rfl hl.1 (Nat.le_of_ble_eq_true rfl) rfl dX8_atom2_19 (fun r_42 g_41 H locs hd hw => ?_)
      refine lv_ineg K.1 K.2.1 dX8_atom2_22 ?_
      refine lv_topi (fun x1_43 ex1_43 => ?_)
      have hd := hd x1_43 ex1_43
      refine lv_istore_n (lv' := [(1, .int x1_43), (0, .ref (ad 0))]) K.1 K.2.1 dX8_atom2_23 rfl hl (by decide) rfl (fun ls hl => ?_)
      refine lv_aload_n K.1 K.2.1 dX8_atom2_24 rfl (lv_at hl 1 rfl) ?_
      refine lv_dup K.1 K.2.1 dX8_atom2_25 rfl ?_
      refine rm_get 24 K hw (by decide) kf_X8_175 rfl dX8_atom2_26 ?_
      refine lv_iconst (v := (1 : Int32)) K.1 K.2.1 dX8_atom2_29 (by decide) ?_
      refine lv_isub K.1 K.2.1 dX8_atom2_30 ?_
      refine rm_put 24 K hw (by decide) kf_X8_175 rfl rfl rfl rfl (fsM_24 ad g_41 _) dX8_atom2_31 (fun g_44 eg_44 H locs hw => ?_)
      have hd := hd g_44 eg_44
      refine lv_goto (tgt := 161) K.1 K.2.1 dX8_atom2_34 (by decide) ?_
      refine lv_iload_n K.1 K.2.1 dX8_atom2_161 rfl (lv_at hl 0 rfl) ?_
      exact rk_iret K hw hr hd dX8_atom2_162
theorem dX8_term2_0 : decode cX8_term2 0 = .ok (.aload_n 0, 1) := by decide +kernel
theorem dX8_term2_1 : decode cX8_term2 1 = .ok (.invokevirtual 275, 3) := by decide +kernel
theorem dX8_term2_4 : decode cX8_term2 4 = .ok (.istore_n 1, 1) := by decide +kernel
theorem dX8_term2_5 : decode cX8_term2 5 = .ok (.aload_n 0, 1) := by decide +kernel
theorem dX8_term2_6 : decode cX8_term2 6 = .ok (.bipush 42, 2) := by decide +kernel
theorem dX8_term2_8 : decode cX8_term2 8 = .ok (.invokevirtual 206, 3) := by decide +kernel
theorem dX8_term2_11 : decode cX8_term2 11 = .ok (.ifCond .eq 17, 3) := by decide +kernel
theorem dX8_term2_14 : decode cX8_term2 14 = .ok (.aload_n 0, 1) := by decide +kernel
theorem dX8_term2_15 : decode cX8_term2 15 = .ok (.invokevirtual 181, 3) := by decide +kernel
theorem dX8_term2_18 : decode cX8_term2 18 = .ok (.iload_n 1, 1) := by decide +kernel
theorem dX8_term2_19 : decode cX8_term2 19 = .ok (.aload_n 0, 1) := by decide +kernel
theorem dX8_term2_20 : decode cX8_term2 20 = .ok (.invokevirtual 275, 3) := by decide +kernel
theorem dX8_term2_23 : decode cX8_term2 23 = .ok (.imul, 1) := by decide +kernel
theorem dX8_term2_24 : decode cX8_term2 24 = .ok (.istore_n 1, 1) := by decide +kernel
theorem dX8_term2_25 : decode cX8_term2 25 = .ok (.goto (-20), 3) := by decide +kernel
theorem dX8_term2_28 : decode cX8_term2 28 = .ok (.iload_n 1, 1) := by decide +kernel
theorem dX8_term2_29 : decode cX8_term2 29 = .ok (.ireturn, 1) := by decide +kernel
set_option maxHeartbeats 4000000 in
set_option maxRecDepth 100000 in
theorem bb_X8_term2_5 {p : Program} {l : Launch} {e : Env} {s : State} {m : MethodId} {args : Array Value} {below : List Frame} {meth : Method} {c : Code} {D : va_G} {cy : Nat → ClassId} {ad : Nat → Nat} {A : Nat → Prop} {Q : Int32 → Sg → Prop} (K : Kx p s m args meth c cX8_term2 2 RX8 D cy) (hr : meth.sig.returnType = (some .int)) : ∀ (n : Nat) (x1 : Int32)  (g0 : Sg) (H : Heap) (locs : List Loc) (ls : Array Slot), vv_X8_term2_L5 Q n x1 g0 → Wd D A s.heap (wsM cy ad g0) H locs → lv_has ls 2 [(0, .ref (ad 0)), (1, .int x1)] → W p l e (rmD 23) s m args below meth c H locs 0 0 (MQ below (va_Qi Q (PostG (wsM cy ad) D A) A) args s 0 0 A) (F0 m 5 ls []) := by
  intro n
  induction n with
  | zero => intro _ _ _ _ _ hd; exact hd.elim
  | succ n ih =>
    intro x1 g0 H locs ls hd hw hl
    unfold vv_X8_term2_L5 at hd
    refine lv_aload_n K.1 K.2.1 dX8_term2_5 rfl (lv_at hl 0 rfl) ?_
    refine lv_bipush (v := (42 : Int32)) K.1 K.2.1 dX8_term2_6 (by decide) ?_
    refine rk_vi (As := [.int (42 : Int32)]) (rest := []) K hw (cc_X8_isSign l D cy ad A g0 _ (42 : Int32) hd) lk_X8_206 (ci := 8) rfl (q0 := 0) (wsM_at cy ad _ (by decide)) ⟨Nat.le_of_ble_eq_true rfl, Nat.le_of_ble_eq_true rfl⟩ ⟨Nat.zero_le _, Nat.zero_le _⟩ rfl hl.1 (Nat.le_of_ble_eq_true rfl) rfl dX8_term2_8 (fun r_5 g_4 H locs hd hw => ?_)
    refine lv_if_eq (tgt := 28) K.1 K.2.1 dX8_term2_11 (by decide) (fun h_6 => ?_) (fun h_6 => ?_)
    · have hd := hd.1 h_6
      refine lv_iload_n K.1 K.2.1 dX8_term2_28 rfl (lv_at hl 1 rfl) ?_
      exact rk_iret K hw hr hd dX8_term2_29
    · have hd := hd.2 h_6
      refine lv_aload_n K.1 K.2.1 dX8_term2_14 rfl (lv_at hl 0 rfl) ?_
      refine rk_vv (As := []) (rest := []) K hw (cc_X8_next l D cy ad A g_4 _  hd) lk_X8_181 (ci := 8) rfl (q0 := 0) (wsM_at cy ad _ (by decide)) ⟨Nat.le_of_ble_eq_true rfl, Nat.le_of_ble_eq_true rfl⟩ ⟨Nat.zero_le _, Nat.zero_le _⟩ rfl hl.1 (Nat.le_of_ble_eq_true rfl) rfl dX8_term2_15 (fun g_7 H locs hd hw => ?_)
      refine lv_iload_n K.1 K.2.1 dX8_term2_18 rfl (lv_at hl 1 rfl) ?_
      refine lv_aload_n K.1 K.2.1 dX8_term2_19 rfl (lv_at hl 0 rfl) ?_
      refine rk_vi (As := []) (rest := [.int x1]) K hw (cc_X8_atom2 l D cy ad A g_7 _  hd) lk_X8_275 (ci := 8) rfl (q0 := 0) (wsM_at cy ad _ (by decide)) ⟨Nat.le_of_ble_eq_true rfl, Nat.le_of_ble_eq_true rfl⟩ ⟨Nat.zero_le _, Nat.zero_le _⟩ rfl hl.1 (Nat.le_of_ble_eq_true rfl) rfl dX8_term2_20 (fun r_10 g_9 H locs hd hw => ?_)
      refine lv_imul K.1 K.2.1 dX8_term2_23 ?_
      refine lv_topi (fun x1_11 ex1_11 => ?_)
      have hd := hd x1_11 ex1_11
      refine lv_istore_n (lv' := [(1, .int x1_11), (0, .ref (ad 0))]) K.1 K.2.1 dX8_term2_24 rfl hl (by decide) rfl (fun ls hl => ?_)
      refine lv_goto (tgt := 5) K.1 K.2.1 dX8_term2_25 (by decide) ?_
      exact ih x1_11 g_9 _ _ _ hd hw (lv_sub hl [1, 0] rfl)
set_option maxHeartbeats 4000000 in
set_option maxRecDepth 100000 in
theorem cc_X8_term2 (l : Launch) (D : va_G) (cy : Nat → ClassId) (ad : Nat → Nat) (A : Nat → Prop) (g0 : Sg) (Q : Int32 → Sg → Prop)  (hd : vv_X8_term2  g0 Q) : Met l yX8_term2 (Cond.code yX8_term2 cX8_term2 2 (some .int) :: TT) (rmD 23) (va_Pc [.ref (ad 0)] (PreG (wsM cy ad) D cy A g0)) (va_Qi Q (PostG (wsM cy ad) D A) A) 0 0 A := by
  unfold vv_X8_term2 at hd
  refine Met.ofW (cc := cX8_term2) (maxL := 2) (ret := (some .int)) (by decide) rfl ?_
  intro p e s m args below meth c s₁ B hml hv
  obtain ⟨rfl, hP, hK0, hD⟩ := hv
  have K : Kx p s m _ meth c cX8_term2 2 RX8 D cy := ⟨B.exec, B.bytes, hml, findClass_of_methodNamed B.named, fun w h => atoms_spec (ws := Cond.code yX8_term2 cX8_term2 2 (some .int) :: TT) B.pre w (List.mem_cons_of_mem _ h), hK0, B.notSynchronized⟩
  have hw : Wd D A s.heap (wsM cy ad g0) s.heap [] := ⟨hP, hD, va_S.rf⟩
  have hr := B.returns
  have hl := lv_entry ([.ref (ad 0)]) (n := 2) (Nat.le_of_ble_eq_true rfl)
  rw [lg_entry_eq]
  generalize (lg_sl ([.ref (ad 0)]) ++ List.replicate (2 - (lg_sl ([.ref (ad 0)])).length) Slot.unset).toArray = ls at hl ⊢
  have hl : lv_has ls 2 [(0, .ref (ad 0))] := hl
  refine lv_aload_n K.1 K.2.1 dX8_term2_0 rfl (lv_at hl 0 rfl) ?_
  refine rk_vi (As := []) (rest := []) K hw (cc_X8_atom2 l D cy ad A g0 _  hd) lk_X8_275 (ci := 8) rfl (q0 := 0) (wsM_at cy ad _ (by decide)) ⟨Nat.le_of_ble_eq_true rfl, Nat.le_of_ble_eq_true rfl⟩ ⟨Nat.zero_le _, Nat.zero_le _⟩ rfl hl.1 (Nat.le_of_ble_eq_true rfl) rfl dX8_term2_1 (fun r_2 g_1 H locs hd hw => ?_)
  refine lv_topi (fun x1_3 ex1_3 => ?_)
  have hd := hd x1_3 ex1_3
  refine lv_istore_n (lv' := [(1, .int x1_3), (0, .ref (ad 0))]) K.1 K.2.1 dX8_term2_4 rfl hl (by decide) rfl (fun ls hl => ?_)
  obtain ⟨n9, hd⟩ := hd
  exact bb_X8_term2_5 K hr  n9 x1_3 g_1 _ _ _ hd hw (lv_sub hl [1, 0] rfl)
theorem dX8_added2_0 : decode cX8_added2 0 = .ok (.aload_n 0, 1) := by decide +kernel
theorem dX8_added2_1 : decode cX8_added2 1 = .ok (.invokevirtual 278, 3) := by decide +kernel
theorem dX8_added2_4 : decode cX8_added2 4 = .ok (.istore_n 1, 1) := by decide +kernel
theorem dX8_added2_5 : decode cX8_added2 5 = .ok (.aload_n 0, 1) := by decide +kernel
theorem dX8_added2_6 : decode cX8_added2 6 = .ok (.bipush 43, 2) := by decide +kernel
theorem dX8_added2_8 : decode cX8_added2 8 = .ok (.invokevirtual 206, 3) := by decide +kernel
theorem dX8_added2_11 : decode cX8_added2 11 = .ok (.ifCond .ne 12, 3) := by decide +kernel
theorem dX8_added2_14 : decode cX8_added2 14 = .ok (.aload_n 0, 1) := by decide +kernel
theorem dX8_added2_15 : decode cX8_added2 15 = .ok (.bipush 45, 2) := by decide +kernel
theorem dX8_added2_17 : decode cX8_added2 17 = .ok (.invokevirtual 206, 3) := by decide +kernel
theorem dX8_added2_20 : decode cX8_added2 20 = .ok (.ifCond .eq 46, 3) := by decide +kernel
theorem dX8_added2_23 : decode cX8_added2 23 = .ok (.aload_n 0, 1) := by decide +kernel
theorem dX8_added2_24 : decode cX8_added2 24 = .ok (.getfield 160, 3) := by decide +kernel
theorem dX8_added2_27 : decode cX8_added2 27 = .ok (.ldc2_w 223, 3) := by decide +kernel
theorem dX8_added2_30 : decode cX8_added2 30 = .ok (.lcmp, 1) := by decide +kernel
theorem dX8_added2_31 : decode cX8_added2 31 = .ok (.ifCond .ne 7, 3) := by decide +kernel
theorem dX8_added2_34 : decode cX8_added2 34 = .ok (.iconst 1, 1) := by decide +kernel
theorem dX8_added2_35 : decode cX8_added2 35 = .ok (.goto 4, 3) := by decide +kernel
theorem dX8_added2_38 : decode cX8_added2 38 = .ok (.iconst 0, 1) := by decide +kernel
theorem dX8_added2_39 : decode cX8_added2 39 = .ok (.istore_n 2, 1) := by decide +kernel
theorem dX8_added2_40 : decode cX8_added2 40 = .ok (.aload_n 0, 1) := by decide +kernel
theorem dX8_added2_41 : decode cX8_added2 41 = .ok (.invokevirtual 181, 3) := by decide +kernel
theorem dX8_added2_44 : decode cX8_added2 44 = .ok (.aload_n 0, 1) := by decide +kernel
theorem dX8_added2_45 : decode cX8_added2 45 = .ok (.invokevirtual 278, 3) := by decide +kernel
theorem dX8_added2_48 : decode cX8_added2 48 = .ok (.istore_n 3, 1) := by decide +kernel
theorem dX8_added2_49 : decode cX8_added2 49 = .ok (.iload_n 2, 1) := by decide +kernel
theorem dX8_added2_50 : decode cX8_added2 50 = .ok (.ifCond .eq 9, 3) := by decide +kernel
theorem dX8_added2_53 : decode cX8_added2 53 = .ok (.iload_n 1, 1) := by decide +kernel
theorem dX8_added2_54 : decode cX8_added2 54 = .ok (.iload_n 3, 1) := by decide +kernel
theorem dX8_added2_55 : decode cX8_added2 55 = .ok (.iadd, 1) := by decide +kernel
theorem dX8_added2_56 : decode cX8_added2 56 = .ok (.goto 6, 3) := by decide +kernel
theorem dX8_added2_59 : decode cX8_added2 59 = .ok (.iload_n 1, 1) := by decide +kernel
theorem dX8_added2_60 : decode cX8_added2 60 = .ok (.iload_n 3, 1) := by decide +kernel
theorem dX8_added2_61 : decode cX8_added2 61 = .ok (.isub, 1) := by decide +kernel
theorem dX8_added2_62 : decode cX8_added2 62 = .ok (.istore_n 1, 1) := by decide +kernel
theorem dX8_added2_63 : decode cX8_added2 63 = .ok (.goto (-58), 3) := by decide +kernel
theorem dX8_added2_66 : decode cX8_added2 66 = .ok (.iload_n 1, 1) := by decide +kernel
theorem dX8_added2_67 : decode cX8_added2 67 = .ok (.ireturn, 1) := by decide +kernel
set_option maxHeartbeats 4000000 in
set_option maxRecDepth 100000 in
theorem bb_X8_added2_62 {p : Program} {l : Launch} {e : Env} {s : State} {m : MethodId} {args : Array Value} {below : List Frame} {meth : Method} {c : Code} {D : va_G} {cy : Nat → ClassId} {ad : Nat → Nat} {A : Nat → Prop} {Q : Int32 → Sg → Prop} (K : Kx p s m args meth c cX8_added2 4 RX8 D cy) (hr : meth.sig.returnType = (some .int)) {rc5 : Int32 → Sg → Prop} (hrc5 : ∀ (x1 : Int32) (u : Sg) (H : Heap) (locs : List Loc) (ls : Array Slot), rc5 x1 u → Wd D A s.heap (wsM cy ad u) H locs → lv_has ls 4 [(0, .ref (ad 0)), (1, .int x1)] → W p l e (rmD 24) s m args below meth c H locs 0 0 (MQ below (va_Qi Q (PostG (wsM cy ad) D A) A) args s 0 0 A) (F0 m 5 ls []))  (t0 : Int32) (g0 : Sg) (H : Heap) (locs : List Loc) (ls : Array Slot) (hd : vv_X8_added2_J62 rc5 t0 g0 Q) (hw : Wd D A s.heap (wsM cy ad g0) H locs) (hl : lv_has ls 4 [(0, .ref (ad 0))]) : W p l e (rmD 24) s m args below meth c H locs 0 0 (MQ below (va_Qi Q (PostG (wsM cy ad) D A) A) args s 0 0 A) (F0 m 62 ls [.int t0]) := by
  unfold vv_X8_added2_J62 at hd
  refine lv_topi (fun x1_15 ex1_15 => ?_)
  have hd := hd x1_15 ex1_15
  refine lv_istore_n (lv' := [(1, .int x1_15), (0, .ref (ad 0))]) K.1 K.2.1 dX8_added2_62 rfl hl (by decide) rfl (fun ls hl => ?_)
  refine lv_goto (tgt := 5) K.1 K.2.1 dX8_added2_63 (by decide) ?_
  exact hrc5 x1_15 g0 _ _ _ hd hw (lv_sub hl [1, 0] rfl)
set_option maxHeartbeats 4000000 in
set_option maxRecDepth 100000 in
theorem bb_X8_added2_39 {p : Program} {l : Launch} {e : Env} {s : State} {m : MethodId} {args : Array Value} {below : List Frame} {meth : Method} {c : Code} {D : va_G} {cy : Nat → ClassId} {ad : Nat → Nat} {A : Nat → Prop} {Q : Int32 → Sg → Prop} (K : Kx p s m args meth c cX8_added2 4 RX8 D cy) (hr : meth.sig.returnType = (some .int)) {rc5 : Int32 → Sg → Prop} (hrc5 : ∀ (x1 : Int32) (u : Sg) (H : Heap) (locs : List Loc) (ls : Array Slot), rc5 x1 u → Wd D A s.heap (wsM cy ad u) H locs → lv_has ls 4 [(0, .ref (ad 0)), (1, .int x1)] → W p l e (rmD 24) s m args below meth c H locs 0 0 (MQ below (va_Qi Q (PostG (wsM cy ad) D A) A) args s 0 0 A) (F0 m 5 ls [])) (x1 : Int32) (t0 : Int32) (g0 : Sg) (H : Heap) (locs : List Loc) (ls : Array Slot) (hd : vv_X8_added2_J39 rc5 x1 t0 g0 Q) (hw : Wd D A s.heap (wsM cy ad g0) H locs) (hl : lv_has ls 4 [(0, .ref (ad 0)), (1, .int x1)]) : W p l e (rmD 24) s m args below meth c H locs 0 0 (MQ below (va_Qi Q (PostG (wsM cy ad) D A) A) args s 0 0 A) (F0 m 39 ls [.int t0]) := by
  unfold vv_X8_added2_J39 at hd
  refine lv_topi (fun x2_8 ex2_8 => ?_)
  have hd := hd x2_8 ex2_8
  refine lv_istore_n (lv' := [(2, .int x2_8), (0, .ref (ad 0)), (1, .int x1)]) K.1 K.2.1 dX8_added2_39 rfl hl (by decide) rfl (fun ls hl => ?_)
  refine lv_aload_n K.1 K.2.1 dX8_added2_40 rfl (lv_at hl 1 rfl) ?_
  refine rk_vv (As := []) (rest := []) K hw (cc_X8_next l D cy ad A g0 _  hd) lk_X8_181 (ci := 8) rfl (q0 := 0) (wsM_at cy ad _ (by decide)) ⟨Nat.le_of_ble_eq_true rfl, Nat.le_of_ble_eq_true rfl⟩ ⟨Nat.zero_le _, Nat.zero_le _⟩ rfl hl.1 (Nat.le_of_ble_eq_true rfl) rfl dX8_added2_41 (fun g_9 H locs hd hw => ?_)
  refine lv_aload_n K.1 K.2.1 dX8_added2_44 rfl (lv_at hl 1 rfl) ?_
  refine rk_vi (As := []) (rest := []) K hw (cc_X8_term2 l D cy ad A g_9 _  hd) lk_X8_278 (ci := 8) rfl (q0 := 0) (wsM_at cy ad _ (by decide)) ⟨Nat.le_of_ble_eq_true rfl, Nat.le_of_ble_eq_true rfl⟩ ⟨Nat.zero_le _, Nat.zero_le _⟩ rfl hl.1 (Nat.le_of_ble_eq_true rfl) rfl dX8_added2_45 (fun r_12 g_11 H locs hd hw => ?_)
  refine lv_topi (fun x3_13 ex3_13 => ?_)
  have hd := hd x3_13 ex3_13
  refine lv_istore_n (lv' := [(3, .int x3_13), (2, .int x2_8), (0, .ref (ad 0)), (1, .int x1)]) K.1 K.2.1 dX8_added2_48 rfl hl (by decide) rfl (fun ls hl => ?_)
  refine lv_iload_n K.1 K.2.1 dX8_added2_49 rfl (lv_at hl 1 rfl) ?_
  refine lv_if_eq (tgt := 59) K.1 K.2.1 dX8_added2_50 (by decide) (fun h_14 => ?_) (fun h_14 => ?_)
  · have hd := hd.1 h_14
    refine lv_iload_n K.1 K.2.1 dX8_added2_59 rfl (lv_at hl 3 rfl) ?_
    refine lv_iload_n K.1 K.2.1 dX8_added2_60 rfl (lv_at hl 0 rfl) ?_
    refine lv_isub K.1 K.2.1 dX8_added2_61 ?_
    exact bb_X8_added2_62 K hr hrc5 (x1 - x3_13) g_11 _ _ _ hd hw (lv_sub hl [2] rfl)
  · have hd := hd.2 h_14
    refine lv_iload_n K.1 K.2.1 dX8_added2_53 rfl (lv_at hl 3 rfl) ?_
    refine lv_iload_n K.1 K.2.1 dX8_added2_54 rfl (lv_at hl 0 rfl) ?_
    refine lv_iadd K.1 K.2.1 dX8_added2_55 ?_
    refine lv_goto (tgt := 62) K.1 K.2.1 dX8_added2_56 (by decide) ?_
    exact bb_X8_added2_62 K hr hrc5 (x1 + x3_13) g_11 _ _ _ hd hw (lv_sub hl [2] rfl)
set_option maxHeartbeats 4000000 in
set_option maxRecDepth 100000 in
theorem bb_X8_added2_23 {p : Program} {l : Launch} {e : Env} {s : State} {m : MethodId} {args : Array Value} {below : List Frame} {meth : Method} {c : Code} {D : va_G} {cy : Nat → ClassId} {ad : Nat → Nat} {A : Nat → Prop} {Q : Int32 → Sg → Prop} (K : Kx p s m args meth c cX8_added2 4 RX8 D cy) (hr : meth.sig.returnType = (some .int)) {rc5 : Int32 → Sg → Prop} (hrc5 : ∀ (x1 : Int32) (u : Sg) (H : Heap) (locs : List Loc) (ls : Array Slot), rc5 x1 u → Wd D A s.heap (wsM cy ad u) H locs → lv_has ls 4 [(0, .ref (ad 0)), (1, .int x1)] → W p l e (rmD 24) s m args below meth c H locs 0 0 (MQ below (va_Qi Q (PostG (wsM cy ad) D A) A) args s 0 0 A) (F0 m 5 ls [])) (x1 : Int32)  (g0 : Sg) (H : Heap) (locs : List Loc) (ls : Array Slot) (hd : vv_X8_added2_J23 rc5 x1 g0 Q) (hw : Wd D A s.heap (wsM cy ad g0) H locs) (hl : lv_has ls 4 [(0, .ref (ad 0)), (1, .int x1)]) : W p l e (rmD 24) s m args below meth c H locs 0 0 (MQ below (va_Qi Q (PostG (wsM cy ad) D A) A) args s 0 0 A) (F0 m 23 ls []) := by
  unfold vv_X8_added2_J23 at hd
  refine lv_aload_n K.1 K.2.1 dX8_added2_23 rfl (lv_at hl 0 rfl) ?_
  refine rm_get 23 K hw (by decide) kf_X8_160 rfl dX8_added2_24 ?_
  refine lv_ldc2 K.1 K.2.1 K.2.2.2.1 (K.2.2.2.2.1 _ kl_X8_223) dX8_added2_27 ?_
  refine W.lcmp K.1 K.2.1 dX8_added2_30 ?_
  refine lv_if_ne (tgt := 38) K.1 K.2.1 dX8_added2_31 (by decide) (fun h_7 => ?_) (fun h_7 => ?_)
  · have hd := hd.1 h_7
    refine lv_iconst (v := (0 : Int32)) K.1 K.2.1 dX8_added2_38 (by decide) ?_
    exact bb_X8_added2_39 K hr hrc5 x1 (0 : Int32) g0 _ _ _ hd hw (lv_sub hl [0, 1] rfl)
  · have hd := hd.2 h_7
    refine lv_iconst (v := (1 : Int32)) K.1 K.2.1 dX8_added2_34 (by decide) ?_
    refine lv_goto (tgt := 39) K.1 K.2.1 dX8_added2_35 (by decide) ?_
    exact bb_X8_added2_39 K hr hrc5 x1 (1 : Int32) g0 _ _ _ hd hw (lv_sub hl [0, 1] rfl)
set_option maxHeartbeats 4000000 in
set_option maxRecDepth 100000 in
theorem bb_X8_added2_5 {p : Program} {l : Launch} {e : Env} {s : State} {m : MethodId} {args : Array Value} {below : List Frame} {meth : Method} {c : Code} {D : va_G} {cy : Nat → ClassId} {ad : Nat → Nat} {A : Nat → Prop} {Q : Int32 → Sg → Prop} (K : Kx p s m args meth c cX8_added2 4 RX8 D cy) (hr : meth.sig.returnType = (some .int)) : ∀ (n : Nat) (x1 : Int32)  (g0 : Sg) (H : Heap) (locs : List Loc) (ls : Array Slot), vv_X8_added2_L5 Q n x1 g0 → Wd D A s.heap (wsM cy ad g0) H locs → lv_has ls 4 [(0, .ref (ad 0)), (1, .int x1)] → W p l e (rmD 24) s m args below meth c H locs 0 0 (MQ below (va_Qi Q (PostG (wsM cy ad) D A) A) args s 0 0 A) (F0 m 5 ls []) := by
  intro n
  induction n with
  | zero => intro _ _ _ _ _ hd; exact hd.elim
  | succ n ih =>
    intro x1 g0 H locs ls hd hw hl
    unfold vv_X8_added2_L5 at hd
    refine lv_aload_n K.1 K.2.1 dX8_added2_5 rfl (lv_at hl 0 rfl) ?_
    refine lv_bipush (v := (43 : Int32)) K.1 K.2.1 dX8_added2_6 (by decide) ?_
    refine rk_vi (As := [.int (43 : Int32)]) (rest := []) K hw (cc_X8_isSign l D cy ad A g0 _ (43 : Int32) hd) lk_X8_206 (ci := 8) rfl (q0 := 0) (wsM_at cy ad _ (by decide)) ⟨Nat.le_of_ble_eq_true rfl, Nat.le_of_ble_eq_true rfl⟩ ⟨Nat.zero_le _, Nat.zero_le _⟩ rfl hl.1 (Nat.le_of_ble_eq_true rfl) rfl dX8_added2_8 (fun r_5 g_4 H locs hd hw => ?_)
    refine lv_if_ne (tgt := 23) K.1 K.2.1 dX8_added2_11 (by decide) (fun h_6 => ?_) (fun h_6 => ?_)
    · have hd := hd.1 h_6
      exact bb_X8_added2_23 K hr ih x1 g_4 _ _ _ hd hw (lv_sub hl [0, 1] rfl)
    · have hd := hd.2 h_6
      refine lv_aload_n K.1 K.2.1 dX8_added2_14 rfl (lv_at hl 0 rfl) ?_
      refine lv_bipush (v := (45 : Int32)) K.1 K.2.1 dX8_added2_15 (by decide) ?_
      refine rk_vi (As := [.int (45 : Int32)]) (rest := []) K hw (cc_X8_isSign l D cy ad A g_4 _ (45 : Int32) hd) lk_X8_206 (ci := 8) rfl (q0 := 0) (wsM_at cy ad _ (by decide)) ⟨Nat.le_of_ble_eq_true rfl, Nat.le_of_ble_eq_true rfl⟩ ⟨Nat.zero_le _, Nat.zero_le _⟩ rfl hl.1 (Nat.le_of_ble_eq_true rfl) rfl dX8_added2_17 (fun r_17 g_16 H locs hd hw => ?_)
      refine lv_if_eq (tgt := 66) K.1 K.2.1 dX8_added2_20 (by decide) (fun h_18 => ?_) (fun h_18 => ?_)
      · have hd := hd.1 h_18
        refine lv_iload_n K.1 K.2.1 dX8_added2_66 rfl (lv_at hl 1 rfl) ?_
        exact rk_iret K hw hr hd dX8_added2_67
      · have hd := hd.2 h_18
        exact bb_X8_added2_23 K hr ih x1 g_16 _ _ _ hd hw (lv_sub hl [0, 1] rfl)
set_option maxHeartbeats 4000000 in
set_option maxRecDepth 100000 in
theorem cc_X8_added2 (l : Launch) (D : va_G) (cy : Nat → ClassId) (ad : Nat → Nat) (A : Nat → Prop) (g0 : Sg) (Q : Int32 → Sg → Prop)  (hd : vv_X8_added2  g0 Q) : Met l yX8_added2 (Cond.code yX8_added2 cX8_added2 4 (some .int) :: TT) (rmD 24) (va_Pc [.ref (ad 0)] (PreG (wsM cy ad) D cy A g0)) (va_Qi Q (PostG (wsM cy ad) D A) A) 0 0 A := by
  unfold vv_X8_added2 at hd
  refine Met.ofW (cc := cX8_added2) (maxL := 4) (ret := (some .int)) (by decide) rfl ?_
  intro p e s m args below meth c s₁ B hml hv
  obtain ⟨rfl, hP, hK0, hD⟩ := hv
  have K : Kx p s m _ meth c cX8_added2 4 RX8 D cy := ⟨B.exec, B.bytes, hml, findClass_of_methodNamed B.named, fun w h => atoms_spec (ws := Cond.code yX8_added2 cX8_added2 4 (some .int) :: TT) B.pre w (List.mem_cons_of_mem _ h), hK0, B.notSynchronized⟩
  have hw : Wd D A s.heap (wsM cy ad g0) s.heap [] := ⟨hP, hD, va_S.rf⟩
  have hr := B.returns
  have hl := lv_entry ([.ref (ad 0)]) (n := 4) (Nat.le_of_ble_eq_true rfl)
  rw [lg_entry_eq]
  generalize (lg_sl ([.ref (ad 0)]) ++ List.replicate (4 - (lg_sl ([.ref (ad 0)])).length) Slot.unset).toArray = ls at hl ⊢
  have hl : lv_has ls 4 [(0, .ref (ad 0))] := hl
  refine lv_aload_n K.1 K.2.1 dX8_added2_0 rfl (lv_at hl 0 rfl) ?_
  refine rk_vi (As := []) (rest := []) K hw (cc_X8_term2 l D cy ad A g0 _  hd) lk_X8_278 (ci := 8) rfl (q0 := 0) (wsM_at cy ad _ (by decide)) ⟨Nat.le_of_ble_eq_true rfl, Nat.le_of_ble_eq_true rfl⟩ ⟨Nat.zero_le _, Nat.zero_le _⟩ rfl hl.1 (Nat.le_of_ble_eq_true rfl) rfl dX8_added2_1 (fun r_2 g_1 H locs hd hw => ?_)
  refine lv_topi (fun x1_3 ex1_3 => ?_)
  have hd := hd x1_3 ex1_3
  refine lv_istore_n (lv' := [(1, .int x1_3), (0, .ref (ad 0))]) K.1 K.2.1 dX8_added2_4 rfl hl (by decide) rfl (fun ls hl => ?_)
  obtain ⟨n9, hd⟩ := hd
  exact bb_X8_added2_5 K hr  n9 x1_3 g_1 _ _ _ hd hw (lv_sub hl [1, 0] rfl)
theorem dX8_not2_0 : decode cX8_not2 0 = .ok (.aload_n 0, 1) := by decide +kernel
theorem dX8_not2_1 : decode cX8_not2 1 = .ok (.bipush 110, 2) := by decide +kernel
theorem dX8_not2_3 : decode cX8_not2 3 = .ok (.bipush 111, 2) := by decide +kernel
theorem dX8_not2_5 : decode cX8_not2 5 = .ok (.bipush 116, 2) := by decide +kernel
theorem dX8_not2_7 : decode cX8_not2 7 = .ok (.iconst 0, 1) := by decide +kernel
theorem dX8_not2_8 : decode cX8_not2 8 = .ok (.iconst 0, 1) := by decide +kernel
theorem dX8_not2_9 : decode cX8_not2 9 = .ok (.iconst 0, 1) := by decide +kernel
theorem dX8_not2_10 : decode cX8_not2 10 = .ok (.iconst 0, 1) := by decide +kernel
theorem dX8_not2_11 : decode cX8_not2 11 = .ok (.iconst 0, 1) := by decide +kernel
theorem dX8_not2_12 : decode cX8_not2 12 = .ok (.invokevirtual 184, 3) := by decide +kernel
theorem dX8_not2_15 : decode cX8_not2 15 = .ok (.ifCond .eq 37, 3) := by decide +kernel
theorem dX8_not2_18 : decode cX8_not2 18 = .ok (.aload_n 0, 1) := by decide +kernel
theorem dX8_not2_19 : decode cX8_not2 19 = .ok (.invokevirtual 209, 3) := by decide +kernel
theorem dX8_not2_22 : decode cX8_not2 22 = .ok (.ifCond .ne 5, 3) := by decide +kernel
theorem dX8_not2_25 : decode cX8_not2 25 = .ok (.iconst 0, 1) := by decide +kernel
theorem dX8_not2_26 : decode cX8_not2 26 = .ok (.ireturn, 1) := by decide +kernel
theorem dX8_not2_27 : decode cX8_not2 27 = .ok (.aload_n 0, 1) := by decide +kernel
theorem dX8_not2_28 : decode cX8_not2 28 = .ok (.invokevirtual 266, 3) := by decide +kernel
theorem dX8_not2_31 : decode cX8_not2 31 = .ok (.istore_n 1, 1) := by decide +kernel
theorem dX8_not2_32 : decode cX8_not2 32 = .ok (.aload_n 0, 1) := by decide +kernel
theorem dX8_not2_33 : decode cX8_not2 33 = .ok (.dup, 1) := by decide +kernel
theorem dX8_not2_34 : decode cX8_not2 34 = .ok (.getfield 175, 3) := by decide +kernel
theorem dX8_not2_37 : decode cX8_not2 37 = .ok (.iconst 1, 1) := by decide +kernel
theorem dX8_not2_38 : decode cX8_not2 38 = .ok (.isub, 1) := by decide +kernel
theorem dX8_not2_39 : decode cX8_not2 39 = .ok (.putfield 175, 3) := by decide +kernel
theorem dX8_not2_42 : decode cX8_not2 42 = .ok (.iload_n 1, 1) := by decide +kernel
theorem dX8_not2_43 : decode cX8_not2 43 = .ok (.ifCond .ne 7, 3) := by decide +kernel
theorem dX8_not2_46 : decode cX8_not2 46 = .ok (.iconst 1, 1) := by decide +kernel
theorem dX8_not2_47 : decode cX8_not2 47 = .ok (.goto 4, 3) := by decide +kernel
theorem dX8_not2_50 : decode cX8_not2 50 = .ok (.iconst 0, 1) := by decide +kernel
theorem dX8_not2_51 : decode cX8_not2 51 = .ok (.ireturn, 1) := by decide +kernel
theorem dX8_not2_52 : decode cX8_not2 52 = .ok (.aload_n 0, 1) := by decide +kernel
theorem dX8_not2_53 : decode cX8_not2 53 = .ok (.invokevirtual 281, 3) := by decide +kernel
theorem dX8_not2_56 : decode cX8_not2 56 = .ok (.istore_n 1, 1) := by decide +kernel
theorem dX8_not2_57 : decode cX8_not2 57 = .ok (.aload_n 0, 1) := by decide +kernel
theorem dX8_not2_58 : decode cX8_not2 58 = .ok (.bipush 60, 2) := by decide +kernel
theorem dX8_not2_60 : decode cX8_not2 60 = .ok (.invokevirtual 206, 3) := by decide +kernel
theorem dX8_not2_63 : decode cX8_not2 63 = .ok (.ifCond .ne 14, 3) := by decide +kernel
theorem dX8_not2_66 : decode cX8_not2 66 = .ok (.aload_n 0, 1) := by decide +kernel
theorem dX8_not2_67 : decode cX8_not2 67 = .ok (.bipush 61, 2) := by decide +kernel
theorem dX8_not2_69 : decode cX8_not2 69 = .ok (.invokevirtual 206, 3) := by decide +kernel
theorem dX8_not2_72 : decode cX8_not2 72 = .ok (.ifCond .ne 5, 3) := by decide +kernel
theorem dX8_not2_75 : decode cX8_not2 75 = .ok (.iload_n 1, 1) := by decide +kernel
theorem dX8_not2_76 : decode cX8_not2 76 = .ok (.ireturn, 1) := by decide +kernel
theorem dX8_not2_77 : decode cX8_not2 77 = .ok (.aload_n 0, 1) := by decide +kernel
theorem dX8_not2_78 : decode cX8_not2 78 = .ok (.getfield 160, 3) := by decide +kernel
theorem dX8_not2_81 : decode cX8_not2 81 = .ok (.ldc2_w 228, 3) := by decide +kernel
theorem dX8_not2_84 : decode cX8_not2 84 = .ok (.lcmp, 1) := by decide +kernel
theorem dX8_not2_85 : decode cX8_not2 85 = .ok (.ifCond .ne 7, 3) := by decide +kernel
theorem dX8_not2_88 : decode cX8_not2 88 = .ok (.iconst 1, 1) := by decide +kernel
theorem dX8_not2_89 : decode cX8_not2 89 = .ok (.goto 4, 3) := by decide +kernel
theorem dX8_not2_92 : decode cX8_not2 92 = .ok (.iconst 0, 1) := by decide +kernel
theorem dX8_not2_93 : decode cX8_not2 93 = .ok (.istore_n 2, 1) := by decide +kernel
theorem dX8_not2_94 : decode cX8_not2 94 = .ok (.aload_n 0, 1) := by decide +kernel
theorem dX8_not2_95 : decode cX8_not2 95 = .ok (.invokevirtual 181, 3) := by decide +kernel
theorem dX8_not2_98 : decode cX8_not2 98 = .ok (.aload_n 0, 1) := by decide +kernel
theorem dX8_not2_99 : decode cX8_not2 99 = .ok (.invokevirtual 281, 3) := by decide +kernel
theorem dX8_not2_102 : decode cX8_not2 102 = .ok (.istore_n 3, 1) := by decide +kernel
theorem dX8_not2_103 : decode cX8_not2 103 = .ok (.iload_n 2, 1) := by decide +kernel
theorem dX8_not2_104 : decode cX8_not2 104 = .ok (.ifCond .eq 11, 3) := by decide +kernel
theorem dX8_not2_107 : decode cX8_not2 107 = .ok (.iload_n 1, 1) := by decide +kernel
theorem dX8_not2_108 : decode cX8_not2 108 = .ok (.iload_n 3, 1) := by decide +kernel
theorem dX8_not2_109 : decode cX8_not2 109 = .ok (.if_icmp .ge 15, 3) := by decide +kernel
theorem dX8_not2_112 : decode cX8_not2 112 = .ok (.goto 8, 3) := by decide +kernel
theorem dX8_not2_115 : decode cX8_not2 115 = .ok (.iload_n 1, 1) := by decide +kernel
theorem dX8_not2_116 : decode cX8_not2 116 = .ok (.iload_n 3, 1) := by decide +kernel
theorem dX8_not2_117 : decode cX8_not2 117 = .ok (.if_icmp .ne 7, 3) := by decide +kernel
theorem dX8_not2_120 : decode cX8_not2 120 = .ok (.iconst 1, 1) := by decide +kernel
theorem dX8_not2_121 : decode cX8_not2 121 = .ok (.goto 4, 3) := by decide +kernel
theorem dX8_not2_124 : decode cX8_not2 124 = .ok (.iconst 0, 1) := by decide +kernel
theorem dX8_not2_125 : decode cX8_not2 125 = .ok (.ireturn, 1) := by decide +kernel
set_option maxHeartbeats 4000000 in
set_option maxRecDepth 100000 in
theorem bb_X8_not2_120 {p : Program} {l : Launch} {e : Env} {s : State} {m : MethodId} {args : Array Value} {below : List Frame} {meth : Method} {c : Code} {D : va_G} {cy : Nat → ClassId} {ad : Nat → Nat} {A : Nat → Prop} {Q : Int32 → Sg → Prop} (K : Kx p s m args meth c cX8_not2 4 RX8 D cy) (hr : meth.sig.returnType = (some .int))   (g0 : Sg) (H : Heap) (locs : List Loc) (ls : Array Slot) (hd : vv_X8_not2_J120 g0 Q) (hw : Wd D A s.heap (wsM cy ad g0) H locs) (hl : lv_has ls 4 []) : W p l e (rmD 25) s m args below meth c H locs 0 0 (MQ below (va_Qi Q (PostG (wsM cy ad) D A) A) args s 0 0 A) (F0 m 120 ls []) := by
  unfold vv_X8_not2_J120 at hd
  refine lv_iconst (v := (1 : Int32)) K.1 K.2.1 dX8_not2_120 (by decide) ?_
  refine lv_goto (tgt := 125) K.1 K.2.1 dX8_not2_121 (by decide) ?_
  exact rk_iret K hw hr hd dX8_not2_125
set_option maxHeartbeats 4000000 in
set_option maxRecDepth 100000 in
theorem bb_X8_not2_93 {p : Program} {l : Launch} {e : Env} {s : State} {m : MethodId} {args : Array Value} {below : List Frame} {meth : Method} {c : Code} {D : va_G} {cy : Nat → ClassId} {ad : Nat → Nat} {A : Nat → Prop} {Q : Int32 → Sg → Prop} (K : Kx p s m args meth c cX8_not2 4 RX8 D cy) (hr : meth.sig.returnType = (some .int)) (x1 : Int32) (t0 : Int32) (g0 : Sg) (H : Heap) (locs : List Loc) (ls : Array Slot) (hd : vv_X8_not2_J93 x1 t0 g0 Q) (hw : Wd D A s.heap (wsM cy ad g0) H locs) (hl : lv_has ls 4 [(0, .ref (ad 0)), (1, .int x1)]) : W p l e (rmD 25) s m args below meth c H locs 0 0 (MQ below (va_Qi Q (PostG (wsM cy ad) D A) A) args s 0 0 A) (F0 m 93 ls [.int t0]) := by
  unfold vv_X8_not2_J93 at hd
  refine lv_topi (fun x2_11 ex2_11 => ?_)
  have hd := hd x2_11 ex2_11
  refine lv_istore_n (lv' := [(2, .int x2_11), (0, .ref (ad 0)), (1, .int x1)]) K.1 K.2.1 dX8_not2_93 rfl hl (by decide) rfl (fun ls hl => ?_)
  refine lv_aload_n K.1 K.2.1 dX8_not2_94 rfl (lv_at hl 1 rfl) ?_
  refine rk_vv (As := []) (rest := []) K hw (cc_X8_next l D cy ad A g0 _  hd) lk_X8_181 (ci := 8) rfl (q0 := 0) (wsM_at cy ad _ (by decide)) ⟨Nat.le_of_ble_eq_true rfl, Nat.le_of_ble_eq_true rfl⟩ ⟨Nat.zero_le _, Nat.zero_le _⟩ rfl hl.1 (Nat.le_of_ble_eq_true rfl) rfl dX8_not2_95 (fun g_12 H locs hd hw => ?_)
  refine lv_aload_n K.1 K.2.1 dX8_not2_98 rfl (lv_at hl 1 rfl) ?_
  refine rk_vi (As := []) (rest := []) K hw (cc_X8_added2 l D cy ad A g_12 _  hd) lk_X8_281 (ci := 8) rfl (q0 := 0) (wsM_at cy ad _ (by decide)) ⟨Nat.le_of_ble_eq_true rfl, Nat.le_of_ble_eq_true rfl⟩ ⟨Nat.zero_le _, Nat.zero_le _⟩ rfl hl.1 (Nat.le_of_ble_eq_true rfl) rfl dX8_not2_99 (fun r_15 g_14 H locs hd hw => ?_)
  refine lv_topi (fun x3_16 ex3_16 => ?_)
  have hd := hd x3_16 ex3_16
  refine lv_istore_n (lv' := [(3, .int x3_16), (2, .int x2_11), (0, .ref (ad 0)), (1, .int x1)]) K.1 K.2.1 dX8_not2_102 rfl hl (by decide) rfl (fun ls hl => ?_)
  refine lv_iload_n K.1 K.2.1 dX8_not2_103 rfl (lv_at hl 1 rfl) ?_
  refine lv_if_eq (tgt := 115) K.1 K.2.1 dX8_not2_104 (by decide) (fun h_17 => ?_) (fun h_17 => ?_)
  · have hd := hd.1 h_17
    refine lv_iload_n K.1 K.2.1 dX8_not2_115 rfl (lv_at hl 3 rfl) ?_
    refine lv_iload_n K.1 K.2.1 dX8_not2_116 rfl (lv_at hl 0 rfl) ?_
    refine lv_icmp_ne (tgt := 124) K.1 K.2.1 dX8_not2_117 (by decide) (fun h_18 => ?_) (fun h_18 => ?_)
    · have hd := hd.1 h_18
      refine lv_iconst (v := (0 : Int32)) K.1 K.2.1 dX8_not2_124 (by decide) ?_
      exact rk_iret K hw hr hd dX8_not2_125
    · have hd := hd.2 h_18
      exact bb_X8_not2_120 K hr   g_14 _ _ _ hd hw (lv_sub hl [] rfl)
  · have hd := hd.2 h_17
    refine lv_iload_n K.1 K.2.1 dX8_not2_107 rfl (lv_at hl 3 rfl) ?_
    refine lv_iload_n K.1 K.2.1 dX8_not2_108 rfl (lv_at hl 0 rfl) ?_
    refine lv_icmp_ge (tgt := 124) K.1 K.2.1 dX8_not2_109 (by decide) (fun h_19 => ?_) (fun h_19 => ?_)
    · have hd := hd.1 h_19
      refine lv_iconst (v := (0 : Int32)) K.1 K.2.1 dX8_not2_124 (by decide) ?_
      exact rk_iret K hw hr hd dX8_not2_125
    · have hd := hd.2 h_19
      refine lv_goto (tgt := 120) K.1 K.2.1 dX8_not2_112 (by decide) ?_
      exact bb_X8_not2_120 K hr   g_14 _ _ _ hd hw (lv_sub hl [] rfl)
set_option maxHeartbeats 4000000 in
set_option maxRecDepth 100000 in
theorem bb_X8_not2_77 {p : Program} {l : Launch} {e : Env} {s : State} {m : MethodId} {args : Array Value} {below : List Frame} {meth : Method} {c : Code} {D : va_G} {cy : Nat → ClassId} {ad : Nat → Nat} {A : Nat → Prop} {Q : Int32 → Sg → Prop} (K : Kx p s m args meth c cX8_not2 4 RX8 D cy) (hr : meth.sig.returnType = (some .int)) (x1 : Int32)  (g0 : Sg) (H : Heap) (locs : List Loc) (ls : Array Slot) (hd : vv_X8_not2_J77 x1 g0 Q) (hw : Wd D A s.heap (wsM cy ad g0) H locs) (hl : lv_has ls 4 [(0, .ref (ad 0)), (1, .int x1)]) : W p l e (rmD 25) s m args below meth c H locs 0 0 (MQ below (va_Qi Q (PostG (wsM cy ad) D A) A) args s 0 0 A) (F0 m 77 ls []) := by
  unfold vv_X8_not2_J77 at hd
  refine lv_aload_n K.1 K.2.1 dX8_not2_77 rfl (lv_at hl 0 rfl) ?_
  refine rm_get 23 K hw (by decide) kf_X8_160 rfl dX8_not2_78 ?_
  refine lv_ldc2 K.1 K.2.1 K.2.2.2.1 (K.2.2.2.2.1 _ kl_X8_228) dX8_not2_81 ?_
  refine W.lcmp K.1 K.2.1 dX8_not2_84 ?_
  refine lv_if_ne (tgt := 92) K.1 K.2.1 dX8_not2_85 (by decide) (fun h_10 => ?_) (fun h_10 => ?_)
  · have hd := hd.1 h_10
    refine lv_iconst (v := (0 : Int32)) K.1 K.2.1 dX8_not2_92 (by decide) ?_
    exact bb_X8_not2_93 K hr  x1 (0 : Int32) g0 _ _ _ hd hw (lv_sub hl [0, 1] rfl)
  · have hd := hd.2 h_10
    refine lv_iconst (v := (1 : Int32)) K.1 K.2.1 dX8_not2_88 (by decide) ?_
    refine lv_goto (tgt := 93) K.1 K.2.1 dX8_not2_89 (by decide) ?_
    exact bb_X8_not2_93 K hr  x1 (1 : Int32) g0 _ _ _ hd hw (lv_sub hl [0, 1] rfl)
set_option maxHeartbeats 4000000 in
set_option maxRecDepth 100000 in
theorem cc_X8_not2 (l : Launch) (D : va_G) (cy : Nat → ClassId) (ad : Nat → Nat) (A : Nat → Prop) (g0 : Sg) (Q : Int32 → Sg → Prop)  (hd : vv_X8_not2  g0 Q) : Met l yX8_not2 (Cond.code yX8_not2 cX8_not2 4 (some .int) :: TT) (rmD 25) (va_Pc [.ref (ad 0)] (PreG (wsM cy ad) D cy A g0)) (va_Qi Q (PostG (wsM cy ad) D A) A) 0 0 A := by
  unfold vv_X8_not2 at hd
  refine Met.ofW (cc := cX8_not2) (maxL := 4) (ret := (some .int)) (by decide) rfl ?_
  intro p e s m args below meth c s₁ B hml hv
  obtain ⟨rfl, hP, hK0, hD⟩ := hv
  have K : Kx p s m _ meth c cX8_not2 4 RX8 D cy := ⟨B.exec, B.bytes, hml, findClass_of_methodNamed B.named, fun w h => atoms_spec (ws := Cond.code yX8_not2 cX8_not2 4 (some .int) :: TT) B.pre w (List.mem_cons_of_mem _ h), hK0, B.notSynchronized⟩
  have hw : Wd D A s.heap (wsM cy ad g0) s.heap [] := ⟨hP, hD, va_S.rf⟩
  have hr := B.returns
  have hl := lv_entry ([.ref (ad 0)]) (n := 4) (Nat.le_of_ble_eq_true rfl)
  rw [lg_entry_eq]
  generalize (lg_sl ([.ref (ad 0)]) ++ List.replicate (4 - (lg_sl ([.ref (ad 0)])).length) Slot.unset).toArray = ls at hl ⊢
  have hl : lv_has ls 4 [(0, .ref (ad 0))] := hl
  refine lv_aload_n K.1 K.2.1 dX8_not2_0 rfl (lv_at hl 0 rfl) ?_
  refine lv_bipush (v := (110 : Int32)) K.1 K.2.1 dX8_not2_1 (by decide) ?_
  refine lv_bipush (v := (111 : Int32)) K.1 K.2.1 dX8_not2_3 (by decide) ?_
  refine lv_bipush (v := (116 : Int32)) K.1 K.2.1 dX8_not2_5 (by decide) ?_
  refine lv_iconst (v := (0 : Int32)) K.1 K.2.1 dX8_not2_7 (by decide) ?_
  refine lv_iconst (v := (0 : Int32)) K.1 K.2.1 dX8_not2_8 (by decide) ?_
  refine lv_iconst (v := (0 : Int32)) K.1 K.2.1 dX8_not2_9 (by decide) ?_
  refine lv_iconst (v := (0 : Int32)) K.1 K.2.1 dX8_not2_10 (by decide) ?_
  refine lv_iconst (v := (0 : Int32)) K.1 K.2.1 dX8_not2_11 (by decide) ?_
  refine rk_vi (As := [.int (110 : Int32), .int (111 : Int32), .int (116 : Int32), .int (0 : Int32), .int (0 : Int32), .int (0 : Int32), .int (0 : Int32), .int (0 : Int32)]) (rest := []) K hw (cc_X8_isWord l D cy ad A g0 _ (110 : Int32) (111 : Int32) (116 : Int32) (0 : Int32) (0 : Int32) (0 : Int32) (0 : Int32) (0 : Int32) hd) lk_X8_184 (ci := 8) rfl (q0 := 0) (wsM_at cy ad _ (by decide)) ⟨Nat.le_of_ble_eq_true rfl, Nat.le_of_ble_eq_true rfl⟩ ⟨Nat.zero_le _, Nat.zero_le _⟩ rfl hl.1 (Nat.le_of_ble_eq_true rfl) rfl dX8_not2_12 (fun r_2 g_1 H locs hd hw => ?_)
  refine lv_if_eq (tgt := 52) K.1 K.2.1 dX8_not2_15 (by decide) (fun h_3 => ?_) (fun h_3 => ?_)
  · have hd := hd.1 h_3
    refine lv_aload_n K.1 K.2.1 dX8_not2_52 rfl (lv_at hl 0 rfl) ?_
    refine rk_vi (As := []) (rest := []) K hw (cc_X8_added2 l D cy ad A g_1 _  hd) lk_X8_281 (ci := 8) rfl (q0 := 0) (wsM_at cy ad _ (by decide)) ⟨Nat.le_of_ble_eq_true rfl, Nat.le_of_ble_eq_true rfl⟩ ⟨Nat.zero_le _, Nat.zero_le _⟩ rfl hl.1 (Nat.le_of_ble_eq_true rfl) rfl dX8_not2_53 (fun r_5 g_4 H locs hd hw => ?_)
    refine lv_topi (fun x1_6 ex1_6 => ?_)
    have hd := hd x1_6 ex1_6
    refine lv_istore_n (lv' := [(1, .int x1_6), (0, .ref (ad 0))]) K.1 K.2.1 dX8_not2_56 rfl hl (by decide) rfl (fun ls hl => ?_)
    refine lv_aload_n K.1 K.2.1 dX8_not2_57 rfl (lv_at hl 1 rfl) ?_
    refine lv_bipush (v := (60 : Int32)) K.1 K.2.1 dX8_not2_58 (by decide) ?_
    refine rk_vi (As := [.int (60 : Int32)]) (rest := []) K hw (cc_X8_isSign l D cy ad A g_4 _ (60 : Int32) hd) lk_X8_206 (ci := 8) rfl (q0 := 0) (wsM_at cy ad _ (by decide)) ⟨Nat.le_of_ble_eq_true rfl, Nat.le_of_ble_eq_true rfl⟩ ⟨Nat.zero_le _, Nat.zero_le _⟩ rfl hl.1 (Nat.le_of_ble_eq_true rfl) rfl dX8_not2_60 (fun r_8 g_7 H locs hd hw => ?_)
    refine lv_if_ne (tgt := 77) K.1 K.2.1 dX8_not2_63 (by decide) (fun h_9 => ?_) (fun h_9 => ?_)
    · have hd := hd.1 h_9
      exact bb_X8_not2_77 K hr  x1_6 g_7 _ _ _ hd hw (lv_sub hl [1, 0] rfl)
    · have hd := hd.2 h_9
      refine lv_aload_n K.1 K.2.1 dX8_not2_66 rfl (lv_at hl 1 rfl) ?_
      refine lv_bipush (v := (61 : Int32)) K.1 K.2.1 dX8_not2_67 (by decide) ?_
      refine rk_vi (As := [.int (61 : Int32)]) (rest := []) K hw (cc_X8_isSign l D cy ad A g_7 _ (61 : Int32) hd) lk_X8_206 (ci := 8) rfl (q0 := 0) (wsM_at cy ad _ (by decide)) ⟨Nat.le_of_ble_eq_true rfl, Nat.le_of_ble_eq_true rfl⟩ ⟨Nat.zero_le _, Nat.zero_le _⟩ rfl hl.1 (Nat.le_of_ble_eq_true rfl) rfl dX8_not2_69 (fun r_21 g_20 H locs hd hw => ?_)
      refine lv_if_ne (tgt := 77) K.1 K.2.1 dX8_not2_72 (by decide) (fun h_22 => ?_) (fun h_22 => ?_)
      · have hd := hd.1 h_22
        exact bb_X8_not2_77 K hr  x1_6 g_20 _ _ _ hd hw (lv_sub hl [1, 0] rfl)
      · have hd := hd.2 h_22
        refine lv_iload_n K.1 K.2.1 dX8_not2_75 rfl (lv_at hl 0 rfl) ?_
        exact rk_iret K hw hr hd dX8_not2_76
  · have hd := hd.2 h_3
    refine lv_aload_n K.1 K.2.1 dX8_not2_18 rfl (lv_at hl 0 rfl) ?_
    refine rk_vi (As := []) (rest := []) K hw (cc_X8_opens l D cy ad A g_1 _  hd) lk_X8_209 (ci := 8) rfl (q0 := 0) (wsM_at cy ad _ (by decide)) ⟨Nat.le_of_ble_eq_true rfl, Nat.le_of_ble_eq_true rfl⟩ ⟨Nat.zero_le _, Nat.zero_le _⟩ rfl hl.1 (Nat.le_of_ble_eq_true rfl) rfl dX8_not2_19 (fun r_24 g_23 H locs hd hw => ?_)
    refine lv_if_ne (tgt := 27) K.1 K.2.1 dX8_not2_22 (by decide) (fun h_25 => ?_) (fun h_25 => ?_)
    · have hd := hd.1 h_25
      refine lv_aload_n K.1 K.2.1 dX8_not2_27 rfl (lv_at hl 0 rfl) ?_
      refine rk_vi (As := []) (rest := []) K hw (cc_X8_not3 l D cy ad A g_23 _  hd) lk_X8_266 (ci := 8) rfl (q0 := 0) (wsM_at cy ad _ (by decide)) ⟨Nat.le_of_ble_eq_true rfl, Nat.le_of_ble_eq_true rfl⟩ ⟨Nat.zero_le _, Nat.zero_le _⟩ rfl hl.1 (Nat.le_of_ble_eq_true rfl) rfl dX8_not2_28 (fun r_27 g_26 H locs hd hw => ?_)
      refine lv_topi (fun x1_28 ex1_28 => ?_)
      have hd := hd x1_28 ex1_28
      refine lv_istore_n (lv' := [(1, .int x1_28), (0, .ref (ad 0))]) K.1 K.2.1 dX8_not2_31 rfl hl (by decide) rfl (fun ls hl => ?_)
      refine lv_aload_n K.1 K.2.1 dX8_not2_32 rfl (lv_at hl 1 rfl) ?_
      refine lv_dup K.1 K.2.1 dX8_not2_33 rfl ?_
      refine rm_get 24 K hw (by decide) kf_X8_175 rfl dX8_not2_34 ?_
      refine lv_iconst (v := (1 : Int32)) K.1 K.2.1 dX8_not2_37 (by decide) ?_
      refine lv_isub K.1 K.2.1 dX8_not2_38 ?_
      refine rm_put 24 K hw (by decide) kf_X8_175 rfl rfl rfl rfl (fsM_24 ad g_26 _) dX8_not2_39 (fun g_29 eg_29 H locs hw => ?_)
      have hd := hd g_29 eg_29
      refine lv_iload_n K.1 K.2.1 dX8_not2_42 rfl (lv_at hl 0 rfl) ?_
      refine lv_if_ne (tgt := 50) K.1 K.2.1 dX8_not2_43 (by decide) (fun h_30 => ?_) (fun h_30 => ?_)
      · have hd := hd.1 h_30
        refine lv_iconst (v := (0 : Int32)) K.1 K.2.1 dX8_not2_50 (by decide) ?_
        exact rk_iret K hw hr hd dX8_not2_51
      · have hd := hd.2 h_30
        refine lv_iconst (v := (1 : Int32)) K.1 K.2.1 dX8_not2_46 (by decide) ?_
        refine lv_goto (tgt := 51) K.1 K.2.1 dX8_not2_47 (by decide) ?_
        exact rk_iret K hw hr hd dX8_not2_51
    · have hd := hd.2 h_25
      refine lv_iconst (v := (0 : Int32)) K.1 K.2.1 dX8_not2_25 (by decide) ?_
      exact rk_iret K hw hr hd dX8_not2_26
theorem dX8_both2_0 : decode cX8_both2 0 = .ok (.aload_n 0, 1) := by decide +kernel
theorem dX8_both2_1 : decode cX8_both2 1 = .ok (.invokevirtual 284, 3) := by decide +kernel
theorem dX8_both2_4 : decode cX8_both2 4 = .ok (.istore_n 1, 1) := by decide +kernel
theorem dX8_both2_5 : decode cX8_both2 5 = .ok (.aload_n 0, 1) := by decide +kernel
theorem dX8_both2_6 : decode cX8_both2 6 = .ok (.bipush 97, 2) := by decide +kernel
theorem dX8_both2_8 : decode cX8_both2 8 = .ok (.bipush 110, 2) := by decide +kernel
theorem dX8_both2_10 : decode cX8_both2 10 = .ok (.bipush 100, 2) := by decide +kernel
theorem dX8_both2_12 : decode cX8_both2 12 = .ok (.iconst 0, 1) := by decide +kernel
theorem dX8_both2_13 : decode cX8_both2 13 = .ok (.iconst 0, 1) := by decide +kernel
theorem dX8_both2_14 : decode cX8_both2 14 = .ok (.iconst 0, 1) := by decide +kernel
theorem dX8_both2_15 : decode cX8_both2 15 = .ok (.iconst 0, 1) := by decide +kernel
theorem dX8_both2_16 : decode cX8_both2 16 = .ok (.iconst 0, 1) := by decide +kernel
theorem dX8_both2_17 : decode cX8_both2 17 = .ok (.invokevirtual 184, 3) := by decide +kernel
theorem dX8_both2_20 : decode cX8_both2 20 = .ok (.ifCond .eq 29, 3) := by decide +kernel
theorem dX8_both2_23 : decode cX8_both2 23 = .ok (.aload_n 0, 1) := by decide +kernel
theorem dX8_both2_24 : decode cX8_both2 24 = .ok (.invokevirtual 181, 3) := by decide +kernel
theorem dX8_both2_27 : decode cX8_both2 27 = .ok (.aload_n 0, 1) := by decide +kernel
theorem dX8_both2_28 : decode cX8_both2 28 = .ok (.invokevirtual 284, 3) := by decide +kernel
theorem dX8_both2_31 : decode cX8_both2 31 = .ok (.istore_n 2, 1) := by decide +kernel
theorem dX8_both2_32 : decode cX8_both2 32 = .ok (.iload_n 1, 1) := by decide +kernel
theorem dX8_both2_33 : decode cX8_both2 33 = .ok (.ifCond .eq 11, 3) := by decide +kernel
theorem dX8_both2_36 : decode cX8_both2 36 = .ok (.iload_n 2, 1) := by decide +kernel
theorem dX8_both2_37 : decode cX8_both2 37 = .ok (.ifCond .eq 7, 3) := by decide +kernel
theorem dX8_both2_40 : decode cX8_both2 40 = .ok (.iconst 1, 1) := by decide +kernel
theorem dX8_both2_41 : decode cX8_both2 41 = .ok (.goto 4, 3) := by decide +kernel
theorem dX8_both2_44 : decode cX8_both2 44 = .ok (.iconst 0, 1) := by decide +kernel
theorem dX8_both2_45 : decode cX8_both2 45 = .ok (.istore_n 1, 1) := by decide +kernel
theorem dX8_both2_46 : decode cX8_both2 46 = .ok (.goto (-41), 3) := by decide +kernel
theorem dX8_both2_49 : decode cX8_both2 49 = .ok (.iload_n 1, 1) := by decide +kernel
theorem dX8_both2_50 : decode cX8_both2 50 = .ok (.ireturn, 1) := by decide +kernel
set_option maxHeartbeats 4000000 in
set_option maxRecDepth 100000 in
theorem bb_X8_both2_45 {p : Program} {l : Launch} {e : Env} {s : State} {m : MethodId} {args : Array Value} {below : List Frame} {meth : Method} {c : Code} {D : va_G} {cy : Nat → ClassId} {ad : Nat → Nat} {A : Nat → Prop} {Q : Int32 → Sg → Prop} (K : Kx p s m args meth c cX8_both2 3 RX8 D cy) (hr : meth.sig.returnType = (some .int)) {rc5 : Int32 → Sg → Prop} (hrc5 : ∀ (x1 : Int32) (u : Sg) (H : Heap) (locs : List Loc) (ls : Array Slot), rc5 x1 u → Wd D A s.heap (wsM cy ad u) H locs → lv_has ls 3 [(0, .ref (ad 0)), (1, .int x1)] → W p l e (rmD 26) s m args below meth c H locs 0 0 (MQ below (va_Qi Q (PostG (wsM cy ad) D A) A) args s 0 0 A) (F0 m 5 ls []))  (t0 : Int32) (g0 : Sg) (H : Heap) (locs : List Loc) (ls : Array Slot) (hd : vv_X8_both2_J45 rc5 t0 g0 Q) (hw : Wd D A s.heap (wsM cy ad g0) H locs) (hl : lv_has ls 3 [(0, .ref (ad 0))]) : W p l e (rmD 26) s m args below meth c H locs 0 0 (MQ below (va_Qi Q (PostG (wsM cy ad) D A) A) args s 0 0 A) (F0 m 45 ls [.int t0]) := by
  unfold vv_X8_both2_J45 at hd
  refine lv_topi (fun x1_13 ex1_13 => ?_)
  have hd := hd x1_13 ex1_13
  refine lv_istore_n (lv' := [(1, .int x1_13), (0, .ref (ad 0))]) K.1 K.2.1 dX8_both2_45 rfl hl (by decide) rfl (fun ls hl => ?_)
  refine lv_goto (tgt := 5) K.1 K.2.1 dX8_both2_46 (by decide) ?_
  exact hrc5 x1_13 g0 _ _ _ hd hw (lv_sub hl [1, 0] rfl)
set_option maxHeartbeats 4000000 in
set_option maxRecDepth 100000 in
theorem bb_X8_both2_44 {p : Program} {l : Launch} {e : Env} {s : State} {m : MethodId} {args : Array Value} {below : List Frame} {meth : Method} {c : Code} {D : va_G} {cy : Nat → ClassId} {ad : Nat → Nat} {A : Nat → Prop} {Q : Int32 → Sg → Prop} (K : Kx p s m args meth c cX8_both2 3 RX8 D cy) (hr : meth.sig.returnType = (some .int)) {rc5 : Int32 → Sg → Prop} (hrc5 : ∀ (x1 : Int32) (u : Sg) (H : Heap) (locs : List Loc) (ls : Array Slot), rc5 x1 u → Wd D A s.heap (wsM cy ad u) H locs → lv_has ls 3 [(0, .ref (ad 0)), (1, .int x1)] → W p l e (rmD 26) s m args below meth c H locs 0 0 (MQ below (va_Qi Q (PostG (wsM cy ad) D A) A) args s 0 0 A) (F0 m 5 ls []))   (g0 : Sg) (H : Heap) (locs : List Loc) (ls : Array Slot) (hd : vv_X8_both2_J44 rc5 g0 Q) (hw : Wd D A s.heap (wsM cy ad g0) H locs) (hl : lv_has ls 3 [(0, .ref (ad 0))]) : W p l e (rmD 26) s m args below meth c H locs 0 0 (MQ below (va_Qi Q (PostG (wsM cy ad) D A) A) args s 0 0 A) (F0 m 44 ls []) := by
  unfold vv_X8_both2_J44 at hd
  refine lv_iconst (v := (0 : Int32)) K.1 K.2.1 dX8_both2_44 (by decide) ?_
  exact bb_X8_both2_45 K hr hrc5 (0 : Int32) g0 _ _ _ hd hw (lv_sub hl [0] rfl)
set_option maxHeartbeats 4000000 in
set_option maxRecDepth 100000 in
theorem bb_X8_both2_5 {p : Program} {l : Launch} {e : Env} {s : State} {m : MethodId} {args : Array Value} {below : List Frame} {meth : Method} {c : Code} {D : va_G} {cy : Nat → ClassId} {ad : Nat → Nat} {A : Nat → Prop} {Q : Int32 → Sg → Prop} (K : Kx p s m args meth c cX8_both2 3 RX8 D cy) (hr : meth.sig.returnType = (some .int)) : ∀ (n : Nat) (x1 : Int32)  (g0 : Sg) (H : Heap) (locs : List Loc) (ls : Array Slot), vv_X8_both2_L5 Q n x1 g0 → Wd D A s.heap (wsM cy ad g0) H locs → lv_has ls 3 [(0, .ref (ad 0)), (1, .int x1)] → W p l e (rmD 26) s m args below meth c H locs 0 0 (MQ below (va_Qi Q (PostG (wsM cy ad) D A) A) args s 0 0 A) (F0 m 5 ls []) := by
  intro n
  induction n with
  | zero => intro _ _ _ _ _ hd; exact hd.elim
  | succ n ih =>
    intro x1 g0 H locs ls hd hw hl
    unfold vv_X8_both2_L5 at hd
    refine lv_aload_n K.1 K.2.1 dX8_both2_5 rfl (lv_at hl 0 rfl) ?_
    refine lv_bipush (v := (97 : Int32)) K.1 K.2.1 dX8_both2_6 (by decide) ?_
    refine lv_bipush (v := (110 : Int32)) K.1 K.2.1 dX8_both2_8 (by decide) ?_
    refine lv_bipush (v := (100 : Int32)) K.1 K.2.1 dX8_both2_10 (by decide) ?_
    refine lv_iconst (v := (0 : Int32)) K.1 K.2.1 dX8_both2_12 (by decide) ?_
    refine lv_iconst (v := (0 : Int32)) K.1 K.2.1 dX8_both2_13 (by decide) ?_
    refine lv_iconst (v := (0 : Int32)) K.1 K.2.1 dX8_both2_14 (by decide) ?_
    refine lv_iconst (v := (0 : Int32)) K.1 K.2.1 dX8_both2_15 (by decide) ?_
    refine lv_iconst (v := (0 : Int32)) K.1 K.2.1 dX8_both2_16 (by decide) ?_
    refine rk_vi (As := [.int (97 : Int32), .int (110 : Int32), .int (100 : Int32), .int (0 : Int32), .int (0 : Int32), .int (0 : Int32), .int (0 : Int32), .int (0 : Int32)]) (rest := []) K hw (cc_X8_isWord l D cy ad A g0 _ (97 : Int32) (110 : Int32) (100 : Int32) (0 : Int32) (0 : Int32) (0 : Int32) (0 : Int32) (0 : Int32) hd) lk_X8_184 (ci := 8) rfl (q0 := 0) (wsM_at cy ad _ (by decide)) ⟨Nat.le_of_ble_eq_true rfl, Nat.le_of_ble_eq_true rfl⟩ ⟨Nat.zero_le _, Nat.zero_le _⟩ rfl hl.1 (Nat.le_of_ble_eq_true rfl) rfl dX8_both2_17 (fun r_5 g_4 H locs hd hw => ?_)
    refine lv_if_eq (tgt := 49) K.1 K.2.1 dX8_both2_20 (by decide) (fun h_6 => ?_) (fun h_6 => ?_)
    · have hd := hd.1 h_6
      refine lv_iload_n K.1 K.2.1 dX8_both2_49 rfl (lv_at hl 1 rfl) ?_
      exact rk_iret K hw hr hd dX8_both2_50
    · have hd := hd.2 h_6
      refine lv_aload_n K.1 K.2.1 dX8_both2_23 rfl (lv_at hl 0 rfl) ?_
      refine rk_vv (As := []) (rest := []) K hw (cc_X8_next l D cy ad A g_4 _  hd) lk_X8_181 (ci := 8) rfl (q0 := 0) (wsM_at cy ad _ (by decide)) ⟨Nat.le_of_ble_eq_true rfl, Nat.le_of_ble_eq_true rfl⟩ ⟨Nat.zero_le _, Nat.zero_le _⟩ rfl hl.1 (Nat.le_of_ble_eq_true rfl) rfl dX8_both2_24 (fun g_7 H locs hd hw => ?_)
      refine lv_aload_n K.1 K.2.1 dX8_both2_27 rfl (lv_at hl 0 rfl) ?_
      refine rk_vi (As := []) (rest := []) K hw (cc_X8_not2 l D cy ad A g_7 _  hd) lk_X8_284 (ci := 8) rfl (q0 := 0) (wsM_at cy ad _ (by decide)) ⟨Nat.le_of_ble_eq_true rfl, Nat.le_of_ble_eq_true rfl⟩ ⟨Nat.zero_le _, Nat.zero_le _⟩ rfl hl.1 (Nat.le_of_ble_eq_true rfl) rfl dX8_both2_28 (fun r_10 g_9 H locs hd hw => ?_)
      refine lv_topi (fun x2_11 ex2_11 => ?_)
      have hd := hd x2_11 ex2_11
      refine lv_istore_n (lv' := [(2, .int x2_11), (0, .ref (ad 0)), (1, .int x1)]) K.1 K.2.1 dX8_both2_31 rfl hl (by decide) rfl (fun ls hl => ?_)
      refine lv_iload_n K.1 K.2.1 dX8_both2_32 rfl (lv_at hl 2 rfl) ?_
      refine lv_if_eq (tgt := 44) K.1 K.2.1 dX8_both2_33 (by decide) (fun h_12 => ?_) (fun h_12 => ?_)
      · have hd := hd.1 h_12
        exact bb_X8_both2_44 K hr ih  g_9 _ _ _ hd hw (lv_sub hl [1] rfl)
      · have hd := hd.2 h_12
        refine lv_iload_n K.1 K.2.1 dX8_both2_36 rfl (lv_at hl 0 rfl) ?_
        refine lv_if_eq (tgt := 44) K.1 K.2.1 dX8_both2_37 (by decide) (fun h_14 => ?_) (fun h_14 => ?_)
        · have hd := hd.1 h_14
          exact bb_X8_both2_44 K hr ih  g_9 _ _ _ hd hw (lv_sub hl [1] rfl)
        · have hd := hd.2 h_14
          refine lv_iconst (v := (1 : Int32)) K.1 K.2.1 dX8_both2_40 (by decide) ?_
          refine lv_goto (tgt := 45) K.1 K.2.1 dX8_both2_41 (by decide) ?_
          exact bb_X8_both2_45 K hr ih (1 : Int32) g_9 _ _ _ hd hw (lv_sub hl [1] rfl)
set_option maxHeartbeats 4000000 in
set_option maxRecDepth 100000 in
theorem cc_X8_both2 (l : Launch) (D : va_G) (cy : Nat → ClassId) (ad : Nat → Nat) (A : Nat → Prop) (g0 : Sg) (Q : Int32 → Sg → Prop)  (hd : vv_X8_both2  g0 Q) : Met l yX8_both2 (Cond.code yX8_both2 cX8_both2 3 (some .int) :: TT) (rmD 26) (va_Pc [.ref (ad 0)] (PreG (wsM cy ad) D cy A g0)) (va_Qi Q (PostG (wsM cy ad) D A) A) 0 0 A := by
  unfold vv_X8_both2 at hd
  refine Met.ofW (cc := cX8_both2) (maxL := 3) (ret := (some .int)) (by decide) rfl ?_
  intro p e s m args below meth c s₁ B hml hv
  obtain ⟨rfl, hP, hK0, hD⟩ := hv
  have K : Kx p s m _ meth c cX8_both2 3 RX8 D cy := ⟨B.exec, B.bytes, hml, findClass_of_methodNamed B.named, fun w h => atoms_spec (ws := Cond.code yX8_both2 cX8_both2 3 (some .int) :: TT) B.pre w (List.mem_cons_of_mem _ h), hK0, B.notSynchronized⟩
  have hw : Wd D A s.heap (wsM cy ad g0) s.heap [] := ⟨hP, hD, va_S.rf⟩
  have hr := B.returns
  have hl := lv_entry ([.ref (ad 0)]) (n := 3) (Nat.le_of_ble_eq_true rfl)
  rw [lg_entry_eq]
  generalize (lg_sl ([.ref (ad 0)]) ++ List.replicate (3 - (lg_sl ([.ref (ad 0)])).length) Slot.unset).toArray = ls at hl ⊢
  have hl : lv_has ls 3 [(0, .ref (ad 0))] := hl
  refine lv_aload_n K.1 K.2.1 dX8_both2_0 rfl (lv_at hl 0 rfl) ?_
  refine rk_vi (As := []) (rest := []) K hw (cc_X8_not2 l D cy ad A g0 _  hd) lk_X8_284 (ci := 8) rfl (q0 := 0) (wsM_at cy ad _ (by decide)) ⟨Nat.le_of_ble_eq_true rfl, Nat.le_of_ble_eq_true rfl⟩ ⟨Nat.zero_le _, Nat.zero_le _⟩ rfl hl.1 (Nat.le_of_ble_eq_true rfl) rfl dX8_both2_1 (fun r_2 g_1 H locs hd hw => ?_)
  refine lv_topi (fun x1_3 ex1_3 => ?_)
  have hd := hd x1_3 ex1_3
  refine lv_istore_n (lv' := [(1, .int x1_3), (0, .ref (ad 0))]) K.1 K.2.1 dX8_both2_4 rfl hl (by decide) rfl (fun ls hl => ?_)
  obtain ⟨n9, hd⟩ := hd
  exact bb_X8_both2_5 K hr  n9 x1_3 g_1 _ _ _ hd hw (lv_sub hl [1, 0] rfl)
theorem dX8_either2_0 : decode cX8_either2 0 = .ok (.aload_n 0, 1) := by decide +kernel
theorem dX8_either2_1 : decode cX8_either2 1 = .ok (.invokevirtual 287, 3) := by decide +kernel
theorem dX8_either2_4 : decode cX8_either2 4 = .ok (.istore_n 1, 1) := by decide +kernel
theorem dX8_either2_5 : decode cX8_either2 5 = .ok (.aload_n 0, 1) := by decide +kernel
theorem dX8_either2_6 : decode cX8_either2 6 = .ok (.bipush 111, 2) := by decide +kernel
theorem dX8_either2_8 : decode cX8_either2 8 = .ok (.bipush 114, 2) := by decide +kernel
theorem dX8_either2_10 : decode cX8_either2 10 = .ok (.iconst 0, 1) := by decide +kernel
theorem dX8_either2_11 : decode cX8_either2 11 = .ok (.iconst 0, 1) := by decide +kernel
theorem dX8_either2_12 : decode cX8_either2 12 = .ok (.iconst 0, 1) := by decide +kernel
theorem dX8_either2_13 : decode cX8_either2 13 = .ok (.iconst 0, 1) := by decide +kernel
theorem dX8_either2_14 : decode cX8_either2 14 = .ok (.iconst 0, 1) := by decide +kernel
theorem dX8_either2_15 : decode cX8_either2 15 = .ok (.iconst 0, 1) := by decide +kernel
theorem dX8_either2_16 : decode cX8_either2 16 = .ok (.invokevirtual 184, 3) := by decide +kernel
theorem dX8_either2_19 : decode cX8_either2 19 = .ok (.ifCond .eq 29, 3) := by decide +kernel
theorem dX8_either2_22 : decode cX8_either2 22 = .ok (.aload_n 0, 1) := by decide +kernel
theorem dX8_either2_23 : decode cX8_either2 23 = .ok (.invokevirtual 181, 3) := by decide +kernel
theorem dX8_either2_26 : decode cX8_either2 26 = .ok (.aload_n 0, 1) := by decide +kernel
theorem dX8_either2_27 : decode cX8_either2 27 = .ok (.invokevirtual 287, 3) := by decide +kernel
theorem dX8_either2_30 : decode cX8_either2 30 = .ok (.istore_n 2, 1) := by decide +kernel
theorem dX8_either2_31 : decode cX8_either2 31 = .ok (.iload_n 1, 1) := by decide +kernel
theorem dX8_either2_32 : decode cX8_either2 32 = .ok (.ifCond .ne 7, 3) := by decide +kernel
theorem dX8_either2_35 : decode cX8_either2 35 = .ok (.iload_n 2, 1) := by decide +kernel
theorem dX8_either2_36 : decode cX8_either2 36 = .ok (.ifCond .eq 7, 3) := by decide +kernel
theorem dX8_either2_39 : decode cX8_either2 39 = .ok (.iconst 1, 1) := by decide +kernel
theorem dX8_either2_40 : decode cX8_either2 40 = .ok (.goto 4, 3) := by decide +kernel
theorem dX8_either2_43 : decode cX8_either2 43 = .ok (.iconst 0, 1) := by decide +kernel
theorem dX8_either2_44 : decode cX8_either2 44 = .ok (.istore_n 1, 1) := by decide +kernel
theorem dX8_either2_45 : decode cX8_either2 45 = .ok (.goto (-40), 3) := by decide +kernel
theorem dX8_either2_48 : decode cX8_either2 48 = .ok (.iload_n 1, 1) := by decide +kernel
theorem dX8_either2_49 : decode cX8_either2 49 = .ok (.ireturn, 1) := by decide +kernel
set_option maxHeartbeats 4000000 in
set_option maxRecDepth 100000 in
theorem bb_X8_either2_44 {p : Program} {l : Launch} {e : Env} {s : State} {m : MethodId} {args : Array Value} {below : List Frame} {meth : Method} {c : Code} {D : va_G} {cy : Nat → ClassId} {ad : Nat → Nat} {A : Nat → Prop} {Q : Int32 → Sg → Prop} (K : Kx p s m args meth c cX8_either2 3 RX8 D cy) (hr : meth.sig.returnType = (some .int)) {rc5 : Int32 → Sg → Prop} (hrc5 : ∀ (x1 : Int32) (u : Sg) (H : Heap) (locs : List Loc) (ls : Array Slot), rc5 x1 u → Wd D A s.heap (wsM cy ad u) H locs → lv_has ls 3 [(0, .ref (ad 0)), (1, .int x1)] → W p l e (rmD 27) s m args below meth c H locs 0 0 (MQ below (va_Qi Q (PostG (wsM cy ad) D A) A) args s 0 0 A) (F0 m 5 ls []))  (t0 : Int32) (g0 : Sg) (H : Heap) (locs : List Loc) (ls : Array Slot) (hd : vv_X8_either2_J44 rc5 t0 g0 Q) (hw : Wd D A s.heap (wsM cy ad g0) H locs) (hl : lv_has ls 3 [(0, .ref (ad 0))]) : W p l e (rmD 27) s m args below meth c H locs 0 0 (MQ below (va_Qi Q (PostG (wsM cy ad) D A) A) args s 0 0 A) (F0 m 44 ls [.int t0]) := by
  unfold vv_X8_either2_J44 at hd
  refine lv_topi (fun x1_13 ex1_13 => ?_)
  have hd := hd x1_13 ex1_13
  refine lv_istore_n (lv' := [(1, .int x1_13), (0, .ref (ad 0))]) K.1 K.2.1 dX8_either2_44 rfl hl (by decide) rfl (fun ls hl => ?_)
  refine lv_goto (tgt := 5) K.1 K.2.1 dX8_either2_45 (by decide) ?_
  exact hrc5 x1_13 g0 _ _ _ hd hw (lv_sub hl [1, 0] rfl)
set_option maxHeartbeats 4000000 in
set_option maxRecDepth 100000 in
theorem bb_X8_either2_39 {p : Program} {l : Launch} {e : Env} {s : State} {m : MethodId} {args : Array Value} {below : List Frame} {meth : Method} {c : Code} {D : va_G} {cy : Nat → ClassId} {ad : Nat → Nat} {A : Nat → Prop} {Q : Int32 → Sg → Prop} (K : Kx p s m args meth c cX8_either2 3 RX8 D cy) (hr : meth.sig.returnType = (some .int)) {rc5 : Int32 → Sg → Prop} (hrc5 : ∀ (x1 : Int32) (u : Sg) (H : Heap) (locs : List Loc) (ls : Array Slot), rc5 x1 u → Wd D A s.heap (wsM cy ad u) H locs → lv_has ls 3 [(0, .ref (ad 0)), (1, .int x1)] → W p l e (rmD 27) s m args below meth c H locs 0 0 (MQ below (va_Qi Q (PostG (wsM cy ad) D A) A) args s 0 0 A) (F0 m 5 ls []))   (g0 : Sg) (H : Heap) (locs : List Loc) (ls : Array Slot) (hd : vv_X8_either2_J39 rc5 g0 Q) (hw : Wd D A s.heap (wsM cy ad g0) H locs) (hl : lv_has ls 3 [(0, .ref (ad 0))]) : W p l e (rmD 27) s m args below meth c H locs 0 0 (MQ below (va_Qi Q (PostG (wsM cy ad) D A) A) args s 0 0 A) (F0 m 39 ls []) := by
  unfold vv_X8_either2_J39 at hd
  refine lv_iconst (v := (1 : Int32)) K.1 K.2.1 dX8_either2_39 (by decide) ?_
  refine lv_goto (tgt := 44) K.1 K.2.1 dX8_either2_40 (by decide) ?_
  exact bb_X8_either2_44 K hr hrc5 (1 : Int32) g0 _ _ _ hd hw (lv_sub hl [0] rfl)
set_option maxHeartbeats 4000000 in
set_option maxRecDepth 100000 in
theorem bb_X8_either2_5 {p : Program} {l : Launch} {e : Env} {s : State} {m : MethodId} {args : Array Value} {below : List Frame} {meth : Method} {c : Code} {D : va_G} {cy : Nat → ClassId} {ad : Nat → Nat} {A : Nat → Prop} {Q : Int32 → Sg → Prop} (K : Kx p s m args meth c cX8_either2 3 RX8 D cy) (hr : meth.sig.returnType = (some .int)) : ∀ (n : Nat) (x1 : Int32)  (g0 : Sg) (H : Heap) (locs : List Loc) (ls : Array Slot), vv_X8_either2_L5 Q n x1 g0 → Wd D A s.heap (wsM cy ad g0) H locs → lv_has ls 3 [(0, .ref (ad 0)), (1, .int x1)] → W p l e (rmD 27) s m args below meth c H locs 0 0 (MQ below (va_Qi Q (PostG (wsM cy ad) D A) A) args s 0 0 A) (F0 m 5 ls []) := by
  intro n
  induction n with
  | zero => intro _ _ _ _ _ hd; exact hd.elim
  | succ n ih =>
    intro x1 g0 H locs ls hd hw hl
    unfold vv_X8_either2_L5 at hd
    refine lv_aload_n K.1 K.2.1 dX8_either2_5 rfl (lv_at hl 0 rfl) ?_
    refine lv_bipush (v := (111 : Int32)) K.1 K.2.1 dX8_either2_6 (by decide) ?_
    refine lv_bipush (v := (114 : Int32)) K.1 K.2.1 dX8_either2_8 (by decide) ?_
    refine lv_iconst (v := (0 : Int32)) K.1 K.2.1 dX8_either2_10 (by decide) ?_
    refine lv_iconst (v := (0 : Int32)) K.1 K.2.1 dX8_either2_11 (by decide) ?_
    refine lv_iconst (v := (0 : Int32)) K.1 K.2.1 dX8_either2_12 (by decide) ?_
    refine lv_iconst (v := (0 : Int32)) K.1 K.2.1 dX8_either2_13 (by decide) ?_
    refine lv_iconst (v := (0 : Int32)) K.1 K.2.1 dX8_either2_14 (by decide) ?_
    refine lv_iconst (v := (0 : Int32)) K.1 K.2.1 dX8_either2_15 (by decide) ?_
    refine rk_vi (As := [.int (111 : Int32), .int (114 : Int32), .int (0 : Int32), .int (0 : Int32), .int (0 : Int32), .int (0 : Int32), .int (0 : Int32), .int (0 : Int32)]) (rest := []) K hw (cc_X8_isWord l D cy ad A g0 _ (111 : Int32) (114 : Int32) (0 : Int32) (0 : Int32) (0 : Int32) (0 : Int32) (0 : Int32) (0 : Int32) hd) lk_X8_184 (ci := 8) rfl (q0 := 0) (wsM_at cy ad _ (by decide)) ⟨Nat.le_of_ble_eq_true rfl, Nat.le_of_ble_eq_true rfl⟩ ⟨Nat.zero_le _, Nat.zero_le _⟩ rfl hl.1 (Nat.le_of_ble_eq_true rfl) rfl dX8_either2_16 (fun r_5 g_4 H locs hd hw => ?_)
    refine lv_if_eq (tgt := 48) K.1 K.2.1 dX8_either2_19 (by decide) (fun h_6 => ?_) (fun h_6 => ?_)
    · have hd := hd.1 h_6
      refine lv_iload_n K.1 K.2.1 dX8_either2_48 rfl (lv_at hl 1 rfl) ?_
      exact rk_iret K hw hr hd dX8_either2_49
    · have hd := hd.2 h_6
      refine lv_aload_n K.1 K.2.1 dX8_either2_22 rfl (lv_at hl 0 rfl) ?_
      refine rk_vv (As := []) (rest := []) K hw (cc_X8_next l D cy ad A g_4 _  hd) lk_X8_181 (ci := 8) rfl (q0 := 0) (wsM_at cy ad _ (by decide)) ⟨Nat.le_of_ble_eq_true rfl, Nat.le_of_ble_eq_true rfl⟩ ⟨Nat.zero_le _, Nat.zero_le _⟩ rfl hl.1 (Nat.le_of_ble_eq_true rfl) rfl dX8_either2_23 (fun g_7 H locs hd hw => ?_)
      refine lv_aload_n K.1 K.2.1 dX8_either2_26 rfl (lv_at hl 0 rfl) ?_
      refine rk_vi (As := []) (rest := []) K hw (cc_X8_both2 l D cy ad A g_7 _  hd) lk_X8_287 (ci := 8) rfl (q0 := 0) (wsM_at cy ad _ (by decide)) ⟨Nat.le_of_ble_eq_true rfl, Nat.le_of_ble_eq_true rfl⟩ ⟨Nat.zero_le _, Nat.zero_le _⟩ rfl hl.1 (Nat.le_of_ble_eq_true rfl) rfl dX8_either2_27 (fun r_10 g_9 H locs hd hw => ?_)
      refine lv_topi (fun x2_11 ex2_11 => ?_)
      have hd := hd x2_11 ex2_11
      refine lv_istore_n (lv' := [(2, .int x2_11), (0, .ref (ad 0)), (1, .int x1)]) K.1 K.2.1 dX8_either2_30 rfl hl (by decide) rfl (fun ls hl => ?_)
      refine lv_iload_n K.1 K.2.1 dX8_either2_31 rfl (lv_at hl 2 rfl) ?_
      refine lv_if_ne (tgt := 39) K.1 K.2.1 dX8_either2_32 (by decide) (fun h_12 => ?_) (fun h_12 => ?_)
      · have hd := hd.1 h_12
        exact bb_X8_either2_39 K hr ih  g_9 _ _ _ hd hw (lv_sub hl [1] rfl)
      · have hd := hd.2 h_12
        refine lv_iload_n K.1 K.2.1 dX8_either2_35 rfl (lv_at hl 0 rfl) ?_
        refine lv_if_eq (tgt := 43) K.1 K.2.1 dX8_either2_36 (by decide) (fun h_14 => ?_) (fun h_14 => ?_)
        · have hd := hd.1 h_14
          refine lv_iconst (v := (0 : Int32)) K.1 K.2.1 dX8_either2_43 (by decide) ?_
          exact bb_X8_either2_44 K hr ih (0 : Int32) g_9 _ _ _ hd hw (lv_sub hl [1] rfl)
        · have hd := hd.2 h_14
          exact bb_X8_either2_39 K hr ih  g_9 _ _ _ hd hw (lv_sub hl [1] rfl)
set_option maxHeartbeats 4000000 in
set_option maxRecDepth 100000 in
theorem cc_X8_either2 (l : Launch) (D : va_G) (cy : Nat → ClassId) (ad : Nat → Nat) (A : Nat → Prop) (g0 : Sg) (Q : Int32 → Sg → Prop)  (hd : vv_X8_either2  g0 Q) : Met l yX8_either2 (Cond.code yX8_either2 cX8_either2 3 (some .int) :: TT) (rmD 27) (va_Pc [.ref (ad 0)] (PreG (wsM cy ad) D cy A g0)) (va_Qi Q (PostG (wsM cy ad) D A) A) 0 0 A := by
  unfold vv_X8_either2 at hd
  refine Met.ofW (cc := cX8_either2) (maxL := 3) (ret := (some .int)) (by decide) rfl ?_
  intro p e s m args below meth c s₁ B hml hv
  obtain ⟨rfl, hP, hK0, hD⟩ := hv
  have K : Kx p s m _ meth c cX8_either2 3 RX8 D cy := ⟨B.exec, B.bytes, hml, findClass_of_methodNamed B.named, fun w h => atoms_spec (ws := Cond.code yX8_either2 cX8_either2 3 (some .int) :: TT) B.pre w (List.mem_cons_of_mem _ h), hK0, B.notSynchronized⟩
  have hw : Wd D A s.heap (wsM cy ad g0) s.heap [] := ⟨hP, hD, va_S.rf⟩
  have hr := B.returns
  have hl := lv_entry ([.ref (ad 0)]) (n := 3) (Nat.le_of_ble_eq_true rfl)
  rw [lg_entry_eq]
  generalize (lg_sl ([.ref (ad 0)]) ++ List.replicate (3 - (lg_sl ([.ref (ad 0)])).length) Slot.unset).toArray = ls at hl ⊢
  have hl : lv_has ls 3 [(0, .ref (ad 0))] := hl
  refine lv_aload_n K.1 K.2.1 dX8_either2_0 rfl (lv_at hl 0 rfl) ?_
  refine rk_vi (As := []) (rest := []) K hw (cc_X8_both2 l D cy ad A g0 _  hd) lk_X8_287 (ci := 8) rfl (q0 := 0) (wsM_at cy ad _ (by decide)) ⟨Nat.le_of_ble_eq_true rfl, Nat.le_of_ble_eq_true rfl⟩ ⟨Nat.zero_le _, Nat.zero_le _⟩ rfl hl.1 (Nat.le_of_ble_eq_true rfl) rfl dX8_either2_1 (fun r_2 g_1 H locs hd hw => ?_)
  refine lv_topi (fun x1_3 ex1_3 => ?_)
  have hd := hd x1_3 ex1_3
  refine lv_istore_n (lv' := [(1, .int x1_3), (0, .ref (ad 0))]) K.1 K.2.1 dX8_either2_4 rfl hl (by decide) rfl (fun ls hl => ?_)
  obtain ⟨n9, hd⟩ := hd
  exact bb_X8_either2_5 K hr  n9 x1_3 g_1 _ _ _ hd hw (lv_sub hl [1, 0] rfl)
theorem dX8_atom1_0 : decode cX8_atom1 0 = .ok (.iconst 0, 1) := by decide +kernel
theorem dX8_atom1_1 : decode cX8_atom1 1 = .ok (.istore_n 1, 1) := by decide +kernel
theorem dX8_atom1_2 : decode cX8_atom1 2 = .ok (.aload_n 0, 1) := by decide +kernel
theorem dX8_atom1_3 : decode cX8_atom1 3 = .ok (.bipush 45, 2) := by decide +kernel
theorem dX8_atom1_5 : decode cX8_atom1 5 = .ok (.invokevirtual 206, 3) := by decide +kernel
theorem dX8_atom1_8 : decode cX8_atom1 8 = .ok (.ifCond .eq 29, 3) := by decide +kernel
theorem dX8_atom1_11 : decode cX8_atom1 11 = .ok (.aload_n 0, 1) := by decide +kernel
theorem dX8_atom1_12 : decode cX8_atom1 12 = .ok (.invokevirtual 209, 3) := by decide +kernel
theorem dX8_atom1_15 : decode cX8_atom1 15 = .ok (.ifCond .eq 146, 3) := by decide +kernel
theorem dX8_atom1_18 : decode cX8_atom1 18 = .ok (.aload_n 0, 1) := by decide +kernel
theorem dX8_atom1_19 : decode cX8_atom1 19 = .ok (.invokevirtual 275, 3) := by decide +kernel
theorem dX8_atom1_22 : decode cX8_atom1 22 = .ok (.ineg, 1) := by decide +kernel
theorem dX8_atom1_23 : decode cX8_atom1 23 = .ok (.istore_n 1, 1) := by decide +kernel
theorem dX8_atom1_24 : decode cX8_atom1 24 = .ok (.aload_n 0, 1) := by decide +kernel
theorem dX8_atom1_25 : decode cX8_atom1 25 = .ok (.dup, 1) := by decide +kernel
theorem dX8_atom1_26 : decode cX8_atom1 26 = .ok (.getfield 175, 3) := by decide +kernel
theorem dX8_atom1_29 : decode cX8_atom1 29 = .ok (.iconst 1, 1) := by decide +kernel
theorem dX8_atom1_30 : decode cX8_atom1 30 = .ok (.isub, 1) := by decide +kernel
theorem dX8_atom1_31 : decode cX8_atom1 31 = .ok (.putfield 175, 3) := by decide +kernel
theorem dX8_atom1_34 : decode cX8_atom1 34 = .ok (.goto 127, 3) := by decide +kernel
theorem dX8_atom1_37 : decode cX8_atom1 37 = .ok (.aload_n 0, 1) := by decide +kernel
theorem dX8_atom1_38 : decode cX8_atom1 38 = .ok (.bipush 40, 2) := by decide +kernel
theorem dX8_atom1_40 : decode cX8_atom1 40 = .ok (.invokevirtual 206, 3) := by decide +kernel
theorem dX8_atom1_43 : decode cX8_atom1 43 = .ok (.ifCond .eq 52, 3) := by decide +kernel
theorem dX8_atom1_46 : decode cX8_atom1 46 = .ok (.aload_n 0, 1) := by decide +kernel
theorem dX8_atom1_47 : decode cX8_atom1 47 = .ok (.invokevirtual 209, 3) := by decide +kernel
theorem dX8_atom1_50 : decode cX8_atom1 50 = .ok (.ifCond .eq 111, 3) := by decide +kernel
theorem dX8_atom1_53 : decode cX8_atom1 53 = .ok (.aload_n 0, 1) := by decide +kernel
theorem dX8_atom1_54 : decode cX8_atom1 54 = .ok (.invokevirtual 290, 3) := by decide +kernel
theorem dX8_atom1_57 : decode cX8_atom1 57 = .ok (.istore_n 1, 1) := by decide +kernel
theorem dX8_atom1_58 : decode cX8_atom1 58 = .ok (.aload_n 0, 1) := by decide +kernel
theorem dX8_atom1_59 : decode cX8_atom1 59 = .ok (.bipush 41, 2) := by decide +kernel
theorem dX8_atom1_61 : decode cX8_atom1 61 = .ok (.invokevirtual 206, 3) := by decide +kernel
theorem dX8_atom1_64 : decode cX8_atom1 64 = .ok (.ifCond .ne 7, 3) := by decide +kernel
theorem dX8_atom1_67 : decode cX8_atom1 67 = .ok (.aload_n 0, 1) := by decide +kernel
theorem dX8_atom1_68 : decode cX8_atom1 68 = .ok (.invokevirtual 178, 3) := by decide +kernel
theorem dX8_atom1_71 : decode cX8_atom1 71 = .ok (.aload_n 0, 1) := by decide +kernel
theorem dX8_atom1_72 : decode cX8_atom1 72 = .ok (.dup, 1) := by decide +kernel
theorem dX8_atom1_73 : decode cX8_atom1 73 = .ok (.getfield 175, 3) := by decide +kernel
theorem dX8_atom1_76 : decode cX8_atom1 76 = .ok (.iconst 1, 1) := by decide +kernel
theorem dX8_atom1_77 : decode cX8_atom1 77 = .ok (.isub, 1) := by decide +kernel
theorem dX8_atom1_78 : decode cX8_atom1 78 = .ok (.putfield 175, 3) := by decide +kernel
theorem dX8_atom1_81 : decode cX8_atom1 81 = .ok (.aload_n 0, 1) := by decide +kernel
theorem dX8_atom1_82 : decode cX8_atom1 82 = .ok (.getfield 164, 3) := by decide +kernel
theorem dX8_atom1_85 : decode cX8_atom1 85 = .ok (.ifCond .ne 76, 3) := by decide +kernel
theorem dX8_atom1_88 : decode cX8_atom1 88 = .ok (.aload_n 0, 1) := by decide +kernel
theorem dX8_atom1_89 : decode cX8_atom1 89 = .ok (.invokevirtual 181, 3) := by decide +kernel
theorem dX8_atom1_92 : decode cX8_atom1 92 = .ok (.goto 69, 3) := by decide +kernel
theorem dX8_atom1_95 : decode cX8_atom1 95 = .ok (.aload_n 0, 1) := by decide +kernel
theorem dX8_atom1_96 : decode cX8_atom1 96 = .ok (.getfield 164, 3) := by decide +kernel
theorem dX8_atom1_99 : decode cX8_atom1 99 = .ok (.ifCond .ne 24, 3) := by decide +kernel
theorem dX8_atom1_102 : decode cX8_atom1 102 = .ok (.aload_n 0, 1) := by decide +kernel
theorem dX8_atom1_103 : decode cX8_atom1 103 = .ok (.getfield 149, 3) := by decide +kernel
theorem dX8_atom1_106 : decode cX8_atom1 106 = .ok (.iconst 2, 1) := by decide +kernel
theorem dX8_atom1_107 : decode cX8_atom1 107 = .ok (.if_icmp .ne 16, 3) := by decide +kernel
theorem dX8_atom1_110 : decode cX8_atom1 110 = .ok (.aload_n 0, 1) := by decide +kernel
theorem dX8_atom1_111 : decode cX8_atom1 111 = .ok (.getfield 160, 3) := by decide +kernel
theorem dX8_atom1_114 : decode cX8_atom1 114 = .ok (.l2i, 1) := by decide +kernel
theorem dX8_atom1_115 : decode cX8_atom1 115 = .ok (.istore_n 1, 1) := by decide +kernel
theorem dX8_atom1_116 : decode cX8_atom1 116 = .ok (.aload_n 0, 1) := by decide +kernel
theorem dX8_atom1_117 : decode cX8_atom1 117 = .ok (.invokevirtual 181, 3) := by decide +kernel
theorem dX8_atom1_120 : decode cX8_atom1 120 = .ok (.goto 41, 3) := by decide +kernel
theorem dX8_atom1_123 : decode cX8_atom1 123 = .ok (.aload_n 0, 1) := by decide +kernel
theorem dX8_atom1_124 : decode cX8_atom1 124 = .ok (.getfield 164, 3) := by decide +kernel
theorem dX8_atom1_127 : decode cX8_atom1 127 = .ok (.ifCond .ne 30, 3) := by decide +kernel
theorem dX8_atom1_130 : decode cX8_atom1 130 = .ok (.aload_n 0, 1) := by decide +kernel
theorem dX8_atom1_131 : decode cX8_atom1 131 = .ok (.getfield 149, 3) := by decide +kernel
theorem dX8_atom1_134 : decode cX8_atom1 134 = .ok (.iconst 1, 1) := by decide +kernel
theorem dX8_atom1_135 : decode cX8_atom1 135 = .ok (.if_icmp .ne 22, 3) := by decide +kernel
theorem dX8_atom1_138 : decode cX8_atom1 138 = .ok (.aload_n 0, 1) := by decide +kernel
theorem dX8_atom1_139 : decode cX8_atom1 139 = .ok (.invokevirtual 213, 3) := by decide +kernel
theorem dX8_atom1_142 : decode cX8_atom1 142 = .ok (.istore_n 1, 1) := by decide +kernel
theorem dX8_atom1_143 : decode cX8_atom1 143 = .ok (.aload_n 0, 1) := by decide +kernel
theorem dX8_atom1_144 : decode cX8_atom1 144 = .ok (.getfield 164, 3) := by decide +kernel
theorem dX8_atom1_147 : decode cX8_atom1 147 = .ok (.ifCond .ne 14, 3) := by decide +kernel
theorem dX8_atom1_150 : decode cX8_atom1 150 = .ok (.aload_n 0, 1) := by decide +kernel
theorem dX8_atom1_151 : decode cX8_atom1 151 = .ok (.invokevirtual 181, 3) := by decide +kernel
theorem dX8_atom1_154 : decode cX8_atom1 154 = .ok (.goto 7, 3) := by decide +kernel
theorem dX8_atom1_157 : decode cX8_atom1 157 = .ok (.aload_n 0, 1) := by decide +kernel
theorem dX8_atom1_158 : decode cX8_atom1 158 = .ok (.invokevirtual 178, 3) := by decide +kernel
theorem dX8_atom1_161 : decode cX8_atom1 161 = .ok (.iload_n 1, 1) := by decide +kernel
theorem dX8_atom1_162 : decode cX8_atom1 162 = .ok (.ireturn, 1) := by decide +kernel
set_option maxHeartbeats 4000000 in
set_option maxRecDepth 100000 in
theorem bb_X8_atom1_157 {p : Program} {l : Launch} {e : Env} {s : State} {m : MethodId} {args : Array Value} {below : List Frame} {meth : Method} {c : Code} {D : va_G} {cy : Nat → ClassId} {ad : Nat → Nat} {A : Nat → Prop} {Q : Int32 → Sg → Prop} (K : Kx p s m args meth c cX8_atom1 2 RX8 D cy) (hr : meth.sig.returnType = (some .int)) (x1 : Int32)  (g0 : Sg) (H : Heap) (locs : List Loc) (ls : Array Slot) (hd : vv_X8_atom1_J157 x1 g0 Q) (hw : Wd D A s.heap (wsM cy ad g0) H locs) (hl : lv_has ls 2 [(0, .ref (ad 0)), (1, .int x1)]) : W p l e (rmD 28) s m args below meth c H locs 0 0 (MQ below (va_Qi Q (PostG (wsM cy ad) D A) A) args s 0 0 A) (F0 m 157 ls []) := by
  unfold vv_X8_atom1_J157 at hd
  refine lv_aload_n K.1 K.2.1 dX8_atom1_157 rfl (lv_at hl 0 rfl) ?_
  refine rk_vv (As := []) (rest := []) K hw (cc_X8_fail l D cy ad A g0 _  hd) lk_X8_178 (ci := 8) rfl (q0 := 0) (wsM_at cy ad _ (by decide)) ⟨Nat.le_of_ble_eq_true rfl, Nat.le_of_ble_eq_true rfl⟩ ⟨Nat.zero_le _, Nat.zero_le _⟩ rfl hl.1 (Nat.le_of_ble_eq_true rfl) rfl dX8_atom1_158 (fun g_10 H locs hd hw => ?_)
  refine lv_iload_n K.1 K.2.1 dX8_atom1_161 rfl (lv_at hl 1 rfl) ?_
  exact rk_iret K hw hr hd dX8_atom1_162
set_option maxHeartbeats 4000000 in
set_option maxRecDepth 100000 in
theorem bb_X8_atom1_123 {p : Program} {l : Launch} {e : Env} {s : State} {m : MethodId} {args : Array Value} {below : List Frame} {meth : Method} {c : Code} {D : va_G} {cy : Nat → ClassId} {ad : Nat → Nat} {A : Nat → Prop} {Q : Int32 → Sg → Prop} (K : Kx p s m args meth c cX8_atom1 2 RX8 D cy) (hr : meth.sig.returnType = (some .int)) (x1 : Int32)  (g0 : Sg) (H : Heap) (locs : List Loc) (ls : Array Slot) (hd : vv_X8_atom1_J123 x1 g0 Q) (hw : Wd D A s.heap (wsM cy ad g0) H locs) (hl : lv_has ls 2 [(0, .ref (ad 0)), (1, .int x1)]) : W p l e (rmD 28) s m args below meth c H locs 0 0 (MQ below (va_Qi Q (PostG (wsM cy ad) D A) A) args s 0 0 A) (F0 m 123 ls []) := by
  unfold vv_X8_atom1_J123 at hd
  refine lv_aload_n K.1 K.2.1 dX8_atom1_123 rfl (lv_at hl 0 rfl) ?_
  refine rm_get 25 K hw (by decide) kf_X8_164 rfl dX8_atom1_124 ?_
  refine lv_if_ne (tgt := 157) K.1 K.2.1 dX8_atom1_127 (by decide) (fun h_9 => ?_) (fun h_9 => ?_)
  · have hd := hd.1 h_9
    exact bb_X8_atom1_157 K hr  x1 g0 _ _ _ hd hw (lv_sub hl [0, 1] rfl)
  · have hd := hd.2 h_9
    refine lv_aload_n K.1 K.2.1 dX8_atom1_130 rfl (lv_at hl 0 rfl) ?_
    refine rm_get 21 K hw (by decide) kf_X8_149 rfl dX8_atom1_131 ?_
    refine lv_iconst (v := (1 : Int32)) K.1 K.2.1 dX8_atom1_134 (by decide) ?_
    refine lv_icmp_ne (tgt := 157) K.1 K.2.1 dX8_atom1_135 (by decide) (fun h_12 => ?_) (fun h_12 => ?_)
    · have hd := hd.1 h_12
      exact bb_X8_atom1_157 K hr  x1 g0 _ _ _ hd hw (lv_sub hl [0, 1] rfl)
    · have hd := hd.2 h_12
      refine lv_aload_n K.1 K.2.1 dX8_atom1_138 rfl (lv_at hl 0 rfl) ?_
      refine rk_vi (As := []) (rest := []) K hw (cc_X8_name l D cy ad A g0 _  hd) lk_X8_213 (ci := 8) rfl (q0 := 0) (wsM_at cy ad _ (by decide)) ⟨Nat.le_of_ble_eq_true rfl, Nat.le_of_ble_eq_true rfl⟩ ⟨Nat.zero_le _, Nat.zero_le _⟩ rfl hl.1 (Nat.le_of_ble_eq_true rfl) rfl dX8_atom1_139 (fun r_14 g_13 H locs hd hw => ?_)
      refine lv_topi (fun x1_15 ex1_15 => ?_)
      have hd := hd x1_15 ex1_15
      refine lv_istore_n (lv' := [(1, .int x1_15), (0, .ref (ad 0))]) K.1 K.2.1 dX8_atom1_142 rfl hl (by decide) rfl (fun ls hl => ?_)
      refine lv_aload_n K.1 K.2.1 dX8_atom1_143 rfl (lv_at hl 1 rfl) ?_
      refine rm_get 25 K hw (by decide) kf_X8_164 rfl dX8_atom1_144 ?_
      refine lv_if_ne (tgt := 161) K.1 K.2.1 dX8_atom1_147 (by decide) (fun h_16 => ?_) (fun h_16 => ?_)
      · have hd := hd.1 h_16
        refine lv_iload_n K.1 K.2.1 dX8_atom1_161 rfl (lv_at hl 0 rfl) ?_
        exact rk_iret K hw hr hd dX8_atom1_162
      · have hd := hd.2 h_16
        refine lv_aload_n K.1 K.2.1 dX8_atom1_150 rfl (lv_at hl 1 rfl) ?_
        refine rk_vv (As := []) (rest := []) K hw (cc_X8_next l D cy ad A g_13 _  hd) lk_X8_181 (ci := 8) rfl (q0 := 0) (wsM_at cy ad _ (by decide)) ⟨Nat.le_of_ble_eq_true rfl, Nat.le_of_ble_eq_true rfl⟩ ⟨Nat.zero_le _, Nat.zero_le _⟩ rfl hl.1 (Nat.le_of_ble_eq_true rfl) rfl dX8_atom1_151 (fun g_17 H locs hd hw => ?_)
        refine lv_goto (tgt := 161) K.1 K.2.1 dX8_atom1_154 (by decide) ?_
        refine lv_iload_n K.1 K.2.1 dX8_atom1_161 rfl (lv_at hl 0 rfl) ?_
        exact rk_iret K hw hr hd dX8_atom1_162
set_option maxHeartbeats 4000000 in
set_option maxRecDepth 100000 in
theorem bb_X8_atom1_71 {p : Program} {l : Launch} {e : Env} {s : State} {m : MethodId} {args : Array Value} {below : List Frame} {meth : Method} {c : Code} {D : va_G} {cy : Nat → ClassId} {ad : Nat → Nat} {A : Nat → Prop} {Q : Int32 → Sg → Prop} (K : Kx p s m args meth c cX8_atom1 2 RX8 D cy) (hr : meth.sig.returnType = (some .int)) (x1 : Int32)  (g0 : Sg) (H : Heap) (locs : List Loc) (ls : Array Slot) (hd : vv_X8_atom1_J71 x1 g0 Q) (hw : Wd D A s.heap (wsM cy ad g0) H locs) (hl : lv_has ls 2 [(0, .ref (ad 0)), (1, .int x1)]) : W p l e (rmD 28) s m args below meth c H locs 0 0 (MQ below (va_Qi Q (PostG (wsM cy ad) D A) A) args s 0 0 A) (F0 m 71 ls []) := by
  unfold vv_X8_atom1_J71 at hd
  refine lv_aload_n K.1 K.2.1 dX8_atom1_71 rfl (lv_at hl 0 rfl) ?_
  refine lv_dup K.1 K.2.1 dX8_atom1_72 rfl ?_
  refine rm_get 24 K hw (by decide) kf_X8_175 rfl dX8_atom1_73 ?_
  refine lv_iconst (v := (1 : Int32)) K.1 K.2.1 dX8_atom1_76 (by decide) ?_
  refine lv_isub K.1 K.2.1 dX8_atom1_77 ?_
  refine rm_put 24 K hw (by decide) kf_X8_175 rfl rfl rfl rfl (fsM_24 ad g0 _) dX8_atom1_78 (fun g_32 eg_32 H locs hw => ?_)
  have hd := hd g_32 eg_32
  refine lv_aload_n K.1 K.2.1 dX8_atom1_81 rfl (lv_at hl 0 rfl) ?_
  refine rm_get 25 K hw (by decide) kf_X8_164 rfl dX8_atom1_82 ?_
  refine lv_if_ne (tgt := 161) K.1 K.2.1 dX8_atom1_85 (by decide) (fun h_33 => ?_) (fun h_33 => ?_)
  · have hd := hd.1 h_33
    refine lv_iload_n K.1 K.2.1 dX8_atom1_161 rfl (lv_at hl 1 rfl) ?_
    exact rk_iret K hw hr hd dX8_atom1_162
  · have hd := hd.2 h_33
    refine lv_aload_n K.1 K.2.1 dX8_atom1_88 rfl (lv_at hl 0 rfl) ?_
    refine rk_vv (As := []) (rest := []) K hw (cc_X8_next l D cy ad A g_32 _  hd) lk_X8_181 (ci := 8) rfl (q0 := 0) (wsM_at cy ad _ (by decide)) ⟨Nat.le_of_ble_eq_true rfl, Nat.le_of_ble_eq_true rfl⟩ ⟨Nat.zero_le _, Nat.zero_le _⟩ rfl hl.1 (Nat.le_of_ble_eq_true rfl) rfl dX8_atom1_89 (fun g_34 H locs hd hw => ?_)
    refine lv_goto (tgt := 161) K.1 K.2.1 dX8_atom1_92 (by decide) ?_
    refine lv_iload_n K.1 K.2.1 dX8_atom1_161 rfl (lv_at hl 1 rfl) ?_
    exact rk_iret K hw hr hd dX8_atom1_162
set_option maxHeartbeats 4000000 in
set_option maxRecDepth 100000 in
theorem cc_X8_atom1 (l : Launch) (D : va_G) (cy : Nat → ClassId) (ad : Nat → Nat) (A : Nat → Prop) (g0 : Sg) (Q : Int32 → Sg → Prop)  (hd : vv_X8_atom1  g0 Q) : Met l yX8_atom1 (Cond.code yX8_atom1 cX8_atom1 2 (some .int) :: TT) (rmD 28) (va_Pc [.ref (ad 0)] (PreG (wsM cy ad) D cy A g0)) (va_Qi Q (PostG (wsM cy ad) D A) A) 0 0 A := by
  unfold vv_X8_atom1 at hd
  refine Met.ofW (cc := cX8_atom1) (maxL := 2) (ret := (some .int)) (by decide) rfl ?_
  intro p e s m args below meth c s₁ B hml hv
  obtain ⟨rfl, hP, hK0, hD⟩ := hv
  have K : Kx p s m _ meth c cX8_atom1 2 RX8 D cy := ⟨B.exec, B.bytes, hml, findClass_of_methodNamed B.named, fun w h => atoms_spec (ws := Cond.code yX8_atom1 cX8_atom1 2 (some .int) :: TT) B.pre w (List.mem_cons_of_mem _ h), hK0, B.notSynchronized⟩
  have hw : Wd D A s.heap (wsM cy ad g0) s.heap [] := ⟨hP, hD, va_S.rf⟩
  have hr := B.returns
  have hl := lv_entry ([.ref (ad 0)]) (n := 2) (Nat.le_of_ble_eq_true rfl)
  rw [lg_entry_eq]
  generalize (lg_sl ([.ref (ad 0)]) ++ List.replicate (2 - (lg_sl ([.ref (ad 0)])).length) Slot.unset).toArray = ls at hl ⊢
  have hl : lv_has ls 2 [(0, .ref (ad 0))] := hl
  refine lv_iconst (v := (0 : Int32)) K.1 K.2.1 dX8_atom1_0 (by decide) ?_
  refine lv_topi (fun x1_1 ex1_1 => ?_)
  have hd := hd x1_1 ex1_1
  refine lv_istore_n (lv' := [(1, .int x1_1), (0, .ref (ad 0))]) K.1 K.2.1 dX8_atom1_1 rfl hl (by decide) rfl (fun ls hl => ?_)
  refine lv_aload_n K.1 K.2.1 dX8_atom1_2 rfl (lv_at hl 1 rfl) ?_
  refine lv_bipush (v := (45 : Int32)) K.1 K.2.1 dX8_atom1_3 (by decide) ?_
  refine rk_vi (As := [.int (45 : Int32)]) (rest := []) K hw (cc_X8_isSign l D cy ad A g0 _ (45 : Int32) hd) lk_X8_206 (ci := 8) rfl (q0 := 0) (wsM_at cy ad _ (by decide)) ⟨Nat.le_of_ble_eq_true rfl, Nat.le_of_ble_eq_true rfl⟩ ⟨Nat.zero_le _, Nat.zero_le _⟩ rfl hl.1 (Nat.le_of_ble_eq_true rfl) rfl dX8_atom1_5 (fun r_3 g_2 H locs hd hw => ?_)
  refine lv_if_eq (tgt := 37) K.1 K.2.1 dX8_atom1_8 (by decide) (fun h_4 => ?_) (fun h_4 => ?_)
  · have hd := hd.1 h_4
    refine lv_aload_n K.1 K.2.1 dX8_atom1_37 rfl (lv_at hl 1 rfl) ?_
    refine lv_bipush (v := (40 : Int32)) K.1 K.2.1 dX8_atom1_38 (by decide) ?_
    refine rk_vi (As := [.int (40 : Int32)]) (rest := []) K hw (cc_X8_isSign l D cy ad A g_2 _ (40 : Int32) hd) lk_X8_206 (ci := 8) rfl (q0 := 0) (wsM_at cy ad _ (by decide)) ⟨Nat.le_of_ble_eq_true rfl, Nat.le_of_ble_eq_true rfl⟩ ⟨Nat.zero_le _, Nat.zero_le _⟩ rfl hl.1 (Nat.le_of_ble_eq_true rfl) rfl dX8_atom1_40 (fun r_6 g_5 H locs hd hw => ?_)
    refine lv_if_eq (tgt := 95) K.1 K.2.1 dX8_atom1_43 (by decide) (fun h_7 => ?_) (fun h_7 => ?_)
    · have hd := hd.1 h_7
      refine lv_aload_n K.1 K.2.1 dX8_atom1_95 rfl (lv_at hl 1 rfl) ?_
      refine rm_get 25 K hw (by decide) kf_X8_164 rfl dX8_atom1_96 ?_
      refine lv_if_ne (tgt := 123) K.1 K.2.1 dX8_atom1_99 (by decide) (fun h_8 => ?_) (fun h_8 => ?_)
      · have hd := hd.1 h_8
        exact bb_X8_atom1_123 K hr  x1_1 g_5 _ _ _ hd hw (lv_sub hl [1, 0] rfl)
      · have hd := hd.2 h_8
        refine lv_aload_n K.1 K.2.1 dX8_atom1_102 rfl (lv_at hl 1 rfl) ?_
        refine rm_get 21 K hw (by decide) kf_X8_149 rfl dX8_atom1_103 ?_
        refine lv_iconst (v := (2 : Int32)) K.1 K.2.1 dX8_atom1_106 (by decide) ?_
        refine lv_icmp_ne (tgt := 123) K.1 K.2.1 dX8_atom1_107 (by decide) (fun h_19 => ?_) (fun h_19 => ?_)
        · have hd := hd.1 h_19
          exact bb_X8_atom1_123 K hr  x1_1 g_5 _ _ _ hd hw (lv_sub hl [1, 0] rfl)
        · have hd := hd.2 h_19
          refine lv_aload_n K.1 K.2.1 dX8_atom1_110 rfl (lv_at hl 1 rfl) ?_
          refine rm_get 23 K hw (by decide) kf_X8_160 rfl dX8_atom1_111 ?_
          refine lv_l2i (v := (g_5 0 23).toInt64.toInt32) K.1 K.2.1 dX8_atom1_114 rfl ?_
          refine lv_topi (fun x1_20 ex1_20 => ?_)
          have hd := hd x1_20 ex1_20
          refine lv_istore_n (lv' := [(1, .int x1_20), (0, .ref (ad 0))]) K.1 K.2.1 dX8_atom1_115 rfl hl (by decide) rfl (fun ls hl => ?_)
          refine lv_aload_n K.1 K.2.1 dX8_atom1_116 rfl (lv_at hl 1 rfl) ?_
          refine rk_vv (As := []) (rest := []) K hw (cc_X8_next l D cy ad A g_5 _  hd) lk_X8_181 (ci := 8) rfl (q0 := 0) (wsM_at cy ad _ (by decide)) ⟨Nat.le_of_ble_eq_true rfl, Nat.le_of_ble_eq_true rfl⟩ ⟨Nat.zero_le _, Nat.zero_le _⟩ rfl hl.1 (Nat.le_of_ble_eq_true rfl) rfl dX8_atom1_117 (fun g_21 H locs hd hw => ?_)
          refine lv_goto (tgt := 161) K.1 K.2.1 dX8_atom1_120 (by decide) ?_
          refine lv_iload_n K.1 K.2.1 dX8_atom1_161 rfl (lv_at hl 0 rfl) ?_
          exact rk_iret K hw hr hd dX8_atom1_162
    · have hd := hd.2 h_7
      refine lv_aload_n K.1 K.2.1 dX8_atom1_46 rfl (lv_at hl 1 rfl) ?_
      refine rk_vi (As := []) (rest := []) K hw (cc_X8_opens l D cy ad A g_5 _  hd) lk_X8_209 (ci := 8) rfl (q0 := 0) (wsM_at cy ad _ (by decide)) ⟨Nat.le_of_ble_eq_true rfl, Nat.le_of_ble_eq_true rfl⟩ ⟨Nat.zero_le _, Nat.zero_le _⟩ rfl hl.1 (Nat.le_of_ble_eq_true rfl) rfl dX8_atom1_47 (fun r_24 g_23 H locs hd hw => ?_)
      refine lv_if_eq (tgt := 161) K.1 K.2.1 dX8_atom1_50 (by decide) (fun h_25 => ?_) (fun h_25 => ?_)
      · have hd := hd.1 h_25
        refine lv_iload_n K.1 K.2.1 dX8_atom1_161 rfl (lv_at hl 0 rfl) ?_
        exact rk_iret K hw hr hd dX8_atom1_162
      · have hd := hd.2 h_25
        refine lv_aload_n K.1 K.2.1 dX8_atom1_53 rfl (lv_at hl 1 rfl) ?_
        refine rk_vi (As := []) (rest := []) K hw (cc_X8_either2 l D cy ad A g_23 _  hd) lk_X8_290 (ci := 8) rfl (q0 := 0) (wsM_at cy ad _ (by decide)) ⟨Nat.le_of_ble_eq_true rfl, Nat.le_of_ble_eq_true rfl⟩ ⟨Nat.zero_le _, Nat.zero_le _⟩ rfl hl.1 (Nat.le_of_ble_eq_true rfl) rfl dX8_atom1_54 (fun r_27 g_26 H locs hd hw => ?_)
        refine lv_topi (fun x1_28 ex1_28 => ?_)
        have hd := hd x1_28 ex1_28
        refine lv_istore_n (lv' := [(1, .int x1_28), (0, .ref (ad 0))]) K.1 K.2.1 dX8_atom1_57 rfl hl (by decide) rfl (fun ls hl => ?_)
        refine lv_aload_n K.1 K.2.1 dX8_atom1_58 rfl (lv_at hl 1 rfl) ?_
        refine lv_bipush (v := (41 : Int32)) K.1 K.2.1 dX8_atom1_59 (by decide) ?_
        refine rk_vi (As := [.int (41 : Int32)]) (rest := []) K hw (cc_X8_isSign l D cy ad A g_26 _ (41 : Int32) hd) lk_X8_206 (ci := 8) rfl (q0 := 0) (wsM_at cy ad _ (by decide)) ⟨Nat.le_of_ble_eq_true rfl, Nat.le_of_ble_eq_true rfl⟩ ⟨Nat.zero_le _, Nat.zero_le _⟩ rfl hl.1 (Nat.le_of_ble_eq_true rfl) rfl dX8_atom1_61 (fun r_30 g_29 H locs hd hw => ?_)
        refine lv_if_ne (tgt := 71) K.1 K.2.1 dX8_atom1_64 (by decide) (fun h_31 => ?_) (fun h_31 => ?_)
        · have hd := hd.1 h_31
          exact bb_X8_atom1_71 K hr  x1_28 g_29 _ _ _ hd hw (lv_sub hl [1, 0] rfl)
        · have hd := hd.2 h_31
          refine lv_aload_n K.1 K.2.1 dX8_atom1_67 rfl (lv_at hl 1 rfl) ?_
          refine rk_vv (As := []) (rest := []) K hw (cc_X8_fail l D cy ad A g_29 _  hd) lk_X8_178 (ci := 8) rfl (q0 := 0) (wsM_at cy ad _ (by decide)) ⟨Nat.le_of_ble_eq_true rfl, Nat.le_of_ble_eq_true rfl⟩ ⟨Nat.zero_le _, Nat.zero_le _⟩ rfl hl.1 (Nat.le_of_ble_eq_true rfl) rfl dX8_atom1_68 (fun g_36 H locs hd hw => ?_)
          exact bb_X8_atom1_71 K hr  x1_28 g_36 _ _ _ hd hw (lv_sub hl [1, 0] rfl)
  · have hd := hd.2 h_4
    refine lv_aload_n K.1 K.2.1 dX8_atom1_11 rfl (lv_at hl 1 rfl) ?_
    refine rk_vi (As := []) (rest := []) K hw (cc_X8_opens l D cy ad A g_2 _  hd) lk_X8_209 (ci := 8) rfl (q0 := 0) (wsM_at cy ad _ (by decide)) ⟨Nat.le_of_ble_eq_true rfl, Nat.le_of_ble_eq_true rfl⟩ ⟨Nat.zero_le _, Nat.zero_le _⟩ rfl hl.1 (Nat.le_of_ble_eq_true rfl) rfl dX8_atom1_12 (fun r_39 g_38 H locs hd hw => ?_)
    refine lv_if_eq (tgt := 161) K.1 K.2.1 dX8_atom1_15 (by decide) (fun h_40 => ?_) (fun h_40 => ?_)
    · have hd := hd.1 h_40
      refine lv_iload_n K.1 K.2.1 dX8_atom1_161 rfl (lv_at hl 0 rfl) ?_
      exact rk_iret K hw hr hd dX8_atom1_162
    · have hd := hd.2 h_40
      refine lv_aload_n K.1 K.2.1 dX8_atom1_18 rfl (lv_at hl 1 rfl) ?_
      refine rk_vi (As := []) (rest := []) K hw (cc_X8_atom2 l D cy ad A g_38 _  hd) lk_X8_275 (ci := 8) rfl (q0 := 0) (wsM_at cy ad _ (by decide)) ⟨Nat.le_of_ble_eq_true rfl, Nat.le_of_ble_eq_true rfl⟩ ⟨Nat.zero_le _, Nat.zero_le _⟩ rfl hl.1 (Nat.le_of_ble_eq_true rfl) rfl dX8_atom1_19 (fun r_42 g_41 H locs hd hw => ?_)
      refine lv_ineg K.1 K.2.1 dX8_atom1_22 ?_
      refine lv_topi (fun x1_43 ex1_43 => ?_)
      have hd := hd x1_43 ex1_43
      refine lv_istore_n (lv' := [(1, .int x1_43), (0, .ref (ad 0))]) K.1 K.2.1 dX8_atom1_23 rfl hl (by decide) rfl (fun ls hl => ?_)
      refine lv_aload_n K.1 K.2.1 dX8_atom1_24 rfl (lv_at hl 1 rfl) ?_
      refine lv_dup K.1 K.2.1 dX8_atom1_25 rfl ?_
      refine rm_get 24 K hw (by decide) kf_X8_175 rfl dX8_atom1_26 ?_
      refine lv_iconst (v := (1 : Int32)) K.1 K.2.1 dX8_atom1_29 (by decide) ?_
      refine lv_isub K.1 K.2.1 dX8_atom1_30 ?_
      refine rm_put 24 K hw (by decide) kf_X8_175 rfl rfl rfl rfl (fsM_24 ad g_41 _) dX8_atom1_31 (fun g_44 eg_44 H locs hw => ?_)
      have hd := hd g_44 eg_44
      refine lv_goto (tgt := 161) K.1 K.2.1 dX8_atom1_34 (by decide) ?_
      refine lv_iload_n K.1 K.2.1 dX8_atom1_161 rfl (lv_at hl 0 rfl) ?_
      exact rk_iret K hw hr hd dX8_atom1_162
theorem dX8_term1_0 : decode cX8_term1 0 = .ok (.aload_n 0, 1) := by decide +kernel
theorem dX8_term1_1 : decode cX8_term1 1 = .ok (.invokevirtual 293, 3) := by decide +kernel
theorem dX8_term1_4 : decode cX8_term1 4 = .ok (.istore_n 1, 1) := by decide +kernel
theorem dX8_term1_5 : decode cX8_term1 5 = .ok (.aload_n 0, 1) := by decide +kernel
theorem dX8_term1_6 : decode cX8_term1 6 = .ok (.bipush 42, 2) := by decide +kernel
theorem dX8_term1_8 : decode cX8_term1 8 = .ok (.invokevirtual 206, 3) := by decide +kernel
theorem dX8_term1_11 : decode cX8_term1 11 = .ok (.ifCond .eq 17, 3) := by decide +kernel
theorem dX8_term1_14 : decode cX8_term1 14 = .ok (.aload_n 0, 1) := by decide +kernel
theorem dX8_term1_15 : decode cX8_term1 15 = .ok (.invokevirtual 181, 3) := by decide +kernel
theorem dX8_term1_18 : decode cX8_term1 18 = .ok (.iload_n 1, 1) := by decide +kernel
theorem dX8_term1_19 : decode cX8_term1 19 = .ok (.aload_n 0, 1) := by decide +kernel
theorem dX8_term1_20 : decode cX8_term1 20 = .ok (.invokevirtual 293, 3) := by decide +kernel
theorem dX8_term1_23 : decode cX8_term1 23 = .ok (.imul, 1) := by decide +kernel
theorem dX8_term1_24 : decode cX8_term1 24 = .ok (.istore_n 1, 1) := by decide +kernel
theorem dX8_term1_25 : decode cX8_term1 25 = .ok (.goto (-20), 3) := by decide +kernel
theorem dX8_term1_28 : decode cX8_term1 28 = .ok (.iload_n 1, 1) := by decide +kernel
theorem dX8_term1_29 : decode cX8_term1 29 = .ok (.ireturn, 1) := by decide +kernel
set_option maxHeartbeats 4000000 in
set_option maxRecDepth 100000 in
theorem bb_X8_term1_5 {p : Program} {l : Launch} {e : Env} {s : State} {m : MethodId} {args : Array Value} {below : List Frame} {meth : Method} {c : Code} {D : va_G} {cy : Nat → ClassId} {ad : Nat → Nat} {A : Nat → Prop} {Q : Int32 → Sg → Prop} (K : Kx p s m args meth c cX8_term1 2 RX8 D cy) (hr : meth.sig.returnType = (some .int)) : ∀ (n : Nat) (x1 : Int32)  (g0 : Sg) (H : Heap) (locs : List Loc) (ls : Array Slot), vv_X8_term1_L5 Q n x1 g0 → Wd D A s.heap (wsM cy ad g0) H locs → lv_has ls 2 [(0, .ref (ad 0)), (1, .int x1)] → W p l e (rmD 29) s m args below meth c H locs 0 0 (MQ below (va_Qi Q (PostG (wsM cy ad) D A) A) args s 0 0 A) (F0 m 5 ls []) := by
  intro n
  induction n with
  | zero => intro _ _ _ _ _ hd; exact hd.elim
  | succ n ih =>
    intro x1 g0 H locs ls hd hw hl
    unfold vv_X8_term1_L5 at hd
    refine lv_aload_n K.1 K.2.1 dX8_term1_5 rfl (lv_at hl 0 rfl) ?_
    refine lv_bipush (v := (42 : Int32)) K.1 K.2.1 dX8_term1_6 (by decide) ?_
    refine rk_vi (As := [.int (42 : Int32)]) (rest := []) K hw (cc_X8_isSign l D cy ad A g0 _ (42 : Int32) hd) lk_X8_206 (ci := 8) rfl (q0 := 0) (wsM_at cy ad _ (by decide)) ⟨Nat.le_of_ble_eq_true rfl, Nat.le_of_ble_eq_true rfl⟩ ⟨Nat.zero_le _, Nat.zero_le _⟩ rfl hl.1 (Nat.le_of_ble_eq_true rfl) rfl dX8_term1_8 (fun r_5 g_4 H locs hd hw => ?_)
    refine lv_if_eq (tgt := 28) K.1 K.2.1 dX8_term1_11 (by decide) (fun h_6 => ?_) (fun h_6 => ?_)
    · have hd := hd.1 h_6
      refine lv_iload_n K.1 K.2.1 dX8_term1_28 rfl (lv_at hl 1 rfl) ?_
      exact rk_iret K hw hr hd dX8_term1_29
    · have hd := hd.2 h_6
      refine lv_aload_n K.1 K.2.1 dX8_term1_14 rfl (lv_at hl 0 rfl) ?_
      refine rk_vv (As := []) (rest := []) K hw (cc_X8_next l D cy ad A g_4 _  hd) lk_X8_181 (ci := 8) rfl (q0 := 0) (wsM_at cy ad _ (by decide)) ⟨Nat.le_of_ble_eq_true rfl, Nat.le_of_ble_eq_true rfl⟩ ⟨Nat.zero_le _, Nat.zero_le _⟩ rfl hl.1 (Nat.le_of_ble_eq_true rfl) rfl dX8_term1_15 (fun g_7 H locs hd hw => ?_)
      refine lv_iload_n K.1 K.2.1 dX8_term1_18 rfl (lv_at hl 1 rfl) ?_
      refine lv_aload_n K.1 K.2.1 dX8_term1_19 rfl (lv_at hl 0 rfl) ?_
      refine rk_vi (As := []) (rest := [.int x1]) K hw (cc_X8_atom1 l D cy ad A g_7 _  hd) lk_X8_293 (ci := 8) rfl (q0 := 0) (wsM_at cy ad _ (by decide)) ⟨Nat.le_of_ble_eq_true rfl, Nat.le_of_ble_eq_true rfl⟩ ⟨Nat.zero_le _, Nat.zero_le _⟩ rfl hl.1 (Nat.le_of_ble_eq_true rfl) rfl dX8_term1_20 (fun r_10 g_9 H locs hd hw => ?_)
      refine lv_imul K.1 K.2.1 dX8_term1_23 ?_
      refine lv_topi (fun x1_11 ex1_11 => ?_)
      have hd := hd x1_11 ex1_11
      refine lv_istore_n (lv' := [(1, .int x1_11), (0, .ref (ad 0))]) K.1 K.2.1 dX8_term1_24 rfl hl (by decide) rfl (fun ls hl => ?_)
      refine lv_goto (tgt := 5) K.1 K.2.1 dX8_term1_25 (by decide) ?_
      exact ih x1_11 g_9 _ _ _ hd hw (lv_sub hl [1, 0] rfl)
set_option maxHeartbeats 4000000 in
set_option maxRecDepth 100000 in
theorem cc_X8_term1 (l : Launch) (D : va_G) (cy : Nat → ClassId) (ad : Nat → Nat) (A : Nat → Prop) (g0 : Sg) (Q : Int32 → Sg → Prop)  (hd : vv_X8_term1  g0 Q) : Met l yX8_term1 (Cond.code yX8_term1 cX8_term1 2 (some .int) :: TT) (rmD 29) (va_Pc [.ref (ad 0)] (PreG (wsM cy ad) D cy A g0)) (va_Qi Q (PostG (wsM cy ad) D A) A) 0 0 A := by
  unfold vv_X8_term1 at hd
  refine Met.ofW (cc := cX8_term1) (maxL := 2) (ret := (some .int)) (by decide) rfl ?_
  intro p e s m args below meth c s₁ B hml hv
  obtain ⟨rfl, hP, hK0, hD⟩ := hv
  have K : Kx p s m _ meth c cX8_term1 2 RX8 D cy := ⟨B.exec, B.bytes, hml, findClass_of_methodNamed B.named, fun w h => atoms_spec (ws := Cond.code yX8_term1 cX8_term1 2 (some .int) :: TT) B.pre w (List.mem_cons_of_mem _ h), hK0, B.notSynchronized⟩
  have hw : Wd D A s.heap (wsM cy ad g0) s.heap [] := ⟨hP, hD, va_S.rf⟩
  have hr := B.returns
  have hl := lv_entry ([.ref (ad 0)]) (n := 2) (Nat.le_of_ble_eq_true rfl)
  rw [lg_entry_eq]
  generalize (lg_sl ([.ref (ad 0)]) ++ List.replicate (2 - (lg_sl ([.ref (ad 0)])).length) Slot.unset).toArray = ls at hl ⊢
  have hl : lv_has ls 2 [(0, .ref (ad 0))] := hl
  refine lv_aload_n K.1 K.2.1 dX8_term1_0 rfl (lv_at hl 0 rfl) ?_
  refine rk_vi (As := []) (rest := []) K hw (cc_X8_atom1 l D cy ad A g0 _  hd) lk_X8_293 (ci := 8) rfl (q0 := 0) (wsM_at cy ad _ (by decide)) ⟨Nat.le_of_ble_eq_true rfl, Nat.le_of_ble_eq_true rfl⟩ ⟨Nat.zero_le _, Nat.zero_le _⟩ rfl hl.1 (Nat.le_of_ble_eq_true rfl) rfl dX8_term1_1 (fun r_2 g_1 H locs hd hw => ?_)
  refine lv_topi (fun x1_3 ex1_3 => ?_)
  have hd := hd x1_3 ex1_3
  refine lv_istore_n (lv' := [(1, .int x1_3), (0, .ref (ad 0))]) K.1 K.2.1 dX8_term1_4 rfl hl (by decide) rfl (fun ls hl => ?_)
  obtain ⟨n9, hd⟩ := hd
  exact bb_X8_term1_5 K hr  n9 x1_3 g_1 _ _ _ hd hw (lv_sub hl [1, 0] rfl)
theorem dX8_added1_0 : decode cX8_added1 0 = .ok (.aload_n 0, 1) := by decide +kernel
theorem dX8_added1_1 : decode cX8_added1 1 = .ok (.invokevirtual 296, 3) := by decide +kernel
theorem dX8_added1_4 : decode cX8_added1 4 = .ok (.istore_n 1, 1) := by decide +kernel
theorem dX8_added1_5 : decode cX8_added1 5 = .ok (.aload_n 0, 1) := by decide +kernel
theorem dX8_added1_6 : decode cX8_added1 6 = .ok (.bipush 43, 2) := by decide +kernel
theorem dX8_added1_8 : decode cX8_added1 8 = .ok (.invokevirtual 206, 3) := by decide +kernel
theorem dX8_added1_11 : decode cX8_added1 11 = .ok (.ifCond .ne 12, 3) := by decide +kernel
theorem dX8_added1_14 : decode cX8_added1 14 = .ok (.aload_n 0, 1) := by decide +kernel
theorem dX8_added1_15 : decode cX8_added1 15 = .ok (.bipush 45, 2) := by decide +kernel
theorem dX8_added1_17 : decode cX8_added1 17 = .ok (.invokevirtual 206, 3) := by decide +kernel
theorem dX8_added1_20 : decode cX8_added1 20 = .ok (.ifCond .eq 46, 3) := by decide +kernel
theorem dX8_added1_23 : decode cX8_added1 23 = .ok (.aload_n 0, 1) := by decide +kernel
theorem dX8_added1_24 : decode cX8_added1 24 = .ok (.getfield 160, 3) := by decide +kernel
theorem dX8_added1_27 : decode cX8_added1 27 = .ok (.ldc2_w 223, 3) := by decide +kernel
theorem dX8_added1_30 : decode cX8_added1 30 = .ok (.lcmp, 1) := by decide +kernel
theorem dX8_added1_31 : decode cX8_added1 31 = .ok (.ifCond .ne 7, 3) := by decide +kernel
theorem dX8_added1_34 : decode cX8_added1 34 = .ok (.iconst 1, 1) := by decide +kernel
theorem dX8_added1_35 : decode cX8_added1 35 = .ok (.goto 4, 3) := by decide +kernel
theorem dX8_added1_38 : decode cX8_added1 38 = .ok (.iconst 0, 1) := by decide +kernel
theorem dX8_added1_39 : decode cX8_added1 39 = .ok (.istore_n 2, 1) := by decide +kernel
theorem dX8_added1_40 : decode cX8_added1 40 = .ok (.aload_n 0, 1) := by decide +kernel
theorem dX8_added1_41 : decode cX8_added1 41 = .ok (.invokevirtual 181, 3) := by decide +kernel
theorem dX8_added1_44 : decode cX8_added1 44 = .ok (.aload_n 0, 1) := by decide +kernel
theorem dX8_added1_45 : decode cX8_added1 45 = .ok (.invokevirtual 296, 3) := by decide +kernel
theorem dX8_added1_48 : decode cX8_added1 48 = .ok (.istore_n 3, 1) := by decide +kernel
theorem dX8_added1_49 : decode cX8_added1 49 = .ok (.iload_n 2, 1) := by decide +kernel
theorem dX8_added1_50 : decode cX8_added1 50 = .ok (.ifCond .eq 9, 3) := by decide +kernel
theorem dX8_added1_53 : decode cX8_added1 53 = .ok (.iload_n 1, 1) := by decide +kernel
theorem dX8_added1_54 : decode cX8_added1 54 = .ok (.iload_n 3, 1) := by decide +kernel
theorem dX8_added1_55 : decode cX8_added1 55 = .ok (.iadd, 1) := by decide +kernel
theorem dX8_added1_56 : decode cX8_added1 56 = .ok (.goto 6, 3) := by decide +kernel
theorem dX8_added1_59 : decode cX8_added1 59 = .ok (.iload_n 1, 1) := by decide +kernel
theorem dX8_added1_60 : decode cX8_added1 60 = .ok (.iload_n 3, 1) := by decide +kernel
theorem dX8_added1_61 : decode cX8_added1 61 = .ok (.isub, 1) := by decide +kernel
theorem dX8_added1_62 : decode cX8_added1 62 = .ok (.istore_n 1, 1) := by decide +kernel
theorem dX8_added1_63 : decode cX8_added1 63 = .ok (.goto (-58), 3) := by decide +kernel
theorem dX8_added1_66 : decode cX8_added1 66 = .ok (.iload_n 1, 1) := by decide +kernel
theorem dX8_added1_67 : decode cX8_added1 67 = .ok (.ireturn, 1) := by decide +kernel
set_option maxHeartbeats 4000000 in
set_option maxRecDepth 100000 in
theorem bb_X8_added1_62 {p : Program} {l : Launch} {e : Env} {s : State} {m : MethodId} {args : Array Value} {below : List Frame} {meth : Method} {c : Code} {D : va_G} {cy : Nat → ClassId} {ad : Nat → Nat} {A : Nat → Prop} {Q : Int32 → Sg → Prop} (K : Kx p s m args meth c cX8_added1 4 RX8 D cy) (hr : meth.sig.returnType = (some .int)) {rc5 : Int32 → Sg → Prop} (hrc5 : ∀ (x1 : Int32) (u : Sg) (H : Heap) (locs : List Loc) (ls : Array Slot), rc5 x1 u → Wd D A s.heap (wsM cy ad u) H locs → lv_has ls 4 [(0, .ref (ad 0)), (1, .int x1)] → W p l e (rmD 30) s m args below meth c H locs 0 0 (MQ below (va_Qi Q (PostG (wsM cy ad) D A) A) args s 0 0 A) (F0 m 5 ls []))  (t0 : Int32) (g0 : Sg) (H : Heap) (locs : List Loc) (ls : Array Slot) (hd : vv_X8_added1_J62 rc5 t0 g0 Q) (hw : Wd D A s.heap (wsM cy ad g0) H locs) (hl : lv_has ls 4 [(0, .ref (ad 0))]) : W p l e (rmD 30) s m args below meth c H locs 0 0 (MQ below (va_Qi Q (PostG (wsM cy ad) D A) A) args s 0 0 A) (F0 m 62 ls [.int t0]) := by
  unfold vv_X8_added1_J62 at hd
  refine lv_topi (fun x1_15 ex1_15 => ?_)
  have hd := hd x1_15 ex1_15
  refine lv_istore_n (lv' := [(1, .int x1_15), (0, .ref (ad 0))]) K.1 K.2.1 dX8_added1_62 rfl hl (by decide) rfl (fun ls hl => ?_)
  refine lv_goto (tgt := 5) K.1 K.2.1 dX8_added1_63 (by decide) ?_
  exact hrc5 x1_15 g0 _ _ _ hd hw (lv_sub hl [1, 0] rfl)
set_option maxHeartbeats 4000000 in
set_option maxRecDepth 100000 in
theorem bb_X8_added1_39 {p : Program} {l : Launch} {e : Env} {s : State} {m : MethodId} {args : Array Value} {below : List Frame} {meth : Method} {c : Code} {D : va_G} {cy : Nat → ClassId} {ad : Nat → Nat} {A : Nat → Prop} {Q : Int32 → Sg → Prop} (K : Kx p s m args meth c cX8_added1 4 RX8 D cy) (hr : meth.sig.returnType = (some .int)) {rc5 : Int32 → Sg → Prop} (hrc5 : ∀ (x1 : Int32) (u : Sg) (H : Heap) (locs : List Loc) (ls : Array Slot), rc5 x1 u → Wd D A s.heap (wsM cy ad u) H locs → lv_has ls 4 [(0, .ref (ad 0)), (1, .int x1)] → W p l e (rmD 30) s m args below meth c H locs 0 0 (MQ below (va_Qi Q (PostG (wsM cy ad) D A) A) args s 0 0 A) (F0 m 5 ls [])) (x1 : Int32) (t0 : Int32) (g0 : Sg) (H : Heap) (locs : List Loc) (ls : Array Slot) (hd : vv_X8_added1_J39 rc5 x1 t0 g0 Q) (hw : Wd D A s.heap (wsM cy ad g0) H locs) (hl : lv_has ls 4 [(0, .ref (ad 0)), (1, .int x1)]) : W p l e (rmD 30) s m args below meth c H locs 0 0 (MQ below (va_Qi Q (PostG (wsM cy ad) D A) A) args s 0 0 A) (F0 m 39 ls [.int t0]) := by
  unfold vv_X8_added1_J39 at hd
  refine lv_topi (fun x2_8 ex2_8 => ?_)
  have hd := hd x2_8 ex2_8
  refine lv_istore_n (lv' := [(2, .int x2_8), (0, .ref (ad 0)), (1, .int x1)]) K.1 K.2.1 dX8_added1_39 rfl hl (by decide) rfl (fun ls hl => ?_)
  refine lv_aload_n K.1 K.2.1 dX8_added1_40 rfl (lv_at hl 1 rfl) ?_
  refine rk_vv (As := []) (rest := []) K hw (cc_X8_next l D cy ad A g0 _  hd) lk_X8_181 (ci := 8) rfl (q0 := 0) (wsM_at cy ad _ (by decide)) ⟨Nat.le_of_ble_eq_true rfl, Nat.le_of_ble_eq_true rfl⟩ ⟨Nat.zero_le _, Nat.zero_le _⟩ rfl hl.1 (Nat.le_of_ble_eq_true rfl) rfl dX8_added1_41 (fun g_9 H locs hd hw => ?_)
  refine lv_aload_n K.1 K.2.1 dX8_added1_44 rfl (lv_at hl 1 rfl) ?_
  refine rk_vi (As := []) (rest := []) K hw (cc_X8_term1 l D cy ad A g_9 _  hd) lk_X8_296 (ci := 8) rfl (q0 := 0) (wsM_at cy ad _ (by decide)) ⟨Nat.le_of_ble_eq_true rfl, Nat.le_of_ble_eq_true rfl⟩ ⟨Nat.zero_le _, Nat.zero_le _⟩ rfl hl.1 (Nat.le_of_ble_eq_true rfl) rfl dX8_added1_45 (fun r_12 g_11 H locs hd hw => ?_)
  refine lv_topi (fun x3_13 ex3_13 => ?_)
  have hd := hd x3_13 ex3_13
  refine lv_istore_n (lv' := [(3, .int x3_13), (2, .int x2_8), (0, .ref (ad 0)), (1, .int x1)]) K.1 K.2.1 dX8_added1_48 rfl hl (by decide) rfl (fun ls hl => ?_)
  refine lv_iload_n K.1 K.2.1 dX8_added1_49 rfl (lv_at hl 1 rfl) ?_
  refine lv_if_eq (tgt := 59) K.1 K.2.1 dX8_added1_50 (by decide) (fun h_14 => ?_) (fun h_14 => ?_)
  · have hd := hd.1 h_14
    refine lv_iload_n K.1 K.2.1 dX8_added1_59 rfl (lv_at hl 3 rfl) ?_
    refine lv_iload_n K.1 K.2.1 dX8_added1_60 rfl (lv_at hl 0 rfl) ?_
    refine lv_isub K.1 K.2.1 dX8_added1_61 ?_
    exact bb_X8_added1_62 K hr hrc5 (x1 - x3_13) g_11 _ _ _ hd hw (lv_sub hl [2] rfl)
  · have hd := hd.2 h_14
    refine lv_iload_n K.1 K.2.1 dX8_added1_53 rfl (lv_at hl 3 rfl) ?_
    refine lv_iload_n K.1 K.2.1 dX8_added1_54 rfl (lv_at hl 0 rfl) ?_
    refine lv_iadd K.1 K.2.1 dX8_added1_55 ?_
    refine lv_goto (tgt := 62) K.1 K.2.1 dX8_added1_56 (by decide) ?_
    exact bb_X8_added1_62 K hr hrc5 (x1 + x3_13) g_11 _ _ _ hd hw (lv_sub hl [2] rfl)
set_option maxHeartbeats 4000000 in
set_option maxRecDepth 100000 in
theorem bb_X8_added1_23 {p : Program} {l : Launch} {e : Env} {s : State} {m : MethodId} {args : Array Value} {below : List Frame} {meth : Method} {c : Code} {D : va_G} {cy : Nat → ClassId} {ad : Nat → Nat} {A : Nat → Prop} {Q : Int32 → Sg → Prop} (K : Kx p s m args meth c cX8_added1 4 RX8 D cy) (hr : meth.sig.returnType = (some .int)) {rc5 : Int32 → Sg → Prop} (hrc5 : ∀ (x1 : Int32) (u : Sg) (H : Heap) (locs : List Loc) (ls : Array Slot), rc5 x1 u → Wd D A s.heap (wsM cy ad u) H locs → lv_has ls 4 [(0, .ref (ad 0)), (1, .int x1)] → W p l e (rmD 30) s m args below meth c H locs 0 0 (MQ below (va_Qi Q (PostG (wsM cy ad) D A) A) args s 0 0 A) (F0 m 5 ls [])) (x1 : Int32)  (g0 : Sg) (H : Heap) (locs : List Loc) (ls : Array Slot) (hd : vv_X8_added1_J23 rc5 x1 g0 Q) (hw : Wd D A s.heap (wsM cy ad g0) H locs) (hl : lv_has ls 4 [(0, .ref (ad 0)), (1, .int x1)]) : W p l e (rmD 30) s m args below meth c H locs 0 0 (MQ below (va_Qi Q (PostG (wsM cy ad) D A) A) args s 0 0 A) (F0 m 23 ls []) := by
  unfold vv_X8_added1_J23 at hd
  refine lv_aload_n K.1 K.2.1 dX8_added1_23 rfl (lv_at hl 0 rfl) ?_
  refine rm_get 23 K hw (by decide) kf_X8_160 rfl dX8_added1_24 ?_
  refine lv_ldc2 K.1 K.2.1 K.2.2.2.1 (K.2.2.2.2.1 _ kl_X8_223) dX8_added1_27 ?_
  refine W.lcmp K.1 K.2.1 dX8_added1_30 ?_
  refine lv_if_ne (tgt := 38) K.1 K.2.1 dX8_added1_31 (by decide) (fun h_7 => ?_) (fun h_7 => ?_)
  · have hd := hd.1 h_7
    refine lv_iconst (v := (0 : Int32)) K.1 K.2.1 dX8_added1_38 (by decide) ?_
    exact bb_X8_added1_39 K hr hrc5 x1 (0 : Int32) g0 _ _ _ hd hw (lv_sub hl [0, 1] rfl)
  · have hd := hd.2 h_7
    refine lv_iconst (v := (1 : Int32)) K.1 K.2.1 dX8_added1_34 (by decide) ?_
    refine lv_goto (tgt := 39) K.1 K.2.1 dX8_added1_35 (by decide) ?_
    exact bb_X8_added1_39 K hr hrc5 x1 (1 : Int32) g0 _ _ _ hd hw (lv_sub hl [0, 1] rfl)
set_option maxHeartbeats 4000000 in
set_option maxRecDepth 100000 in
theorem bb_X8_added1_5 {p : Program} {l : Launch} {e : Env} {s : State} {m : MethodId} {args : Array Value} {below : List Frame} {meth : Method} {c : Code} {D : va_G} {cy : Nat → ClassId} {ad : Nat → Nat} {A : Nat → Prop} {Q : Int32 → Sg → Prop} (K : Kx p s m args meth c cX8_added1 4 RX8 D cy) (hr : meth.sig.returnType = (some .int)) : ∀ (n : Nat) (x1 : Int32)  (g0 : Sg) (H : Heap) (locs : List Loc) (ls : Array Slot), vv_X8_added1_L5 Q n x1 g0 → Wd D A s.heap (wsM cy ad g0) H locs → lv_has ls 4 [(0, .ref (ad 0)), (1, .int x1)] → W p l e (rmD 30) s m args below meth c H locs 0 0 (MQ below (va_Qi Q (PostG (wsM cy ad) D A) A) args s 0 0 A) (F0 m 5 ls []) := by
  intro n
  induction n with
  | zero => intro _ _ _ _ _ hd; exact hd.elim
  | succ n ih =>
    intro x1 g0 H locs ls hd hw hl
    unfold vv_X8_added1_L5 at hd
    refine lv_aload_n K.1 K.2.1 dX8_added1_5 rfl (lv_at hl 0 rfl) ?_
    refine lv_bipush (v := (43 : Int32)) K.1 K.2.1 dX8_added1_6 (by decide) ?_
    refine rk_vi (As := [.int (43 : Int32)]) (rest := []) K hw (cc_X8_isSign l D cy ad A g0 _ (43 : Int32) hd) lk_X8_206 (ci := 8) rfl (q0 := 0) (wsM_at cy ad _ (by decide)) ⟨Nat.le_of_ble_eq_true rfl, Nat.le_of_ble_eq_true rfl⟩ ⟨Nat.zero_le _, Nat.zero_le _⟩ rfl hl.1 (Nat.le_of_ble_eq_true rfl) rfl dX8_added1_8 (fun r_5 g_4 H locs hd hw => ?_)
    refine lv_if_ne (tgt := 23) K.1 K.2.1 dX8_added1_11 (by decide) (fun h_6 => ?_) (fun h_6 => ?_)
    · have hd := hd.1 h_6
      exact bb_X8_added1_23 K hr ih x1 g_4 _ _ _ hd hw (lv_sub hl [0, 1] rfl)
    · have hd := hd.2 h_6
      refine lv_aload_n K.1 K.2.1 dX8_added1_14 rfl (lv_at hl 0 rfl) ?_
      refine lv_bipush (v := (45 : Int32)) K.1 K.2.1 dX8_added1_15 (by decide) ?_
      refine rk_vi (As := [.int (45 : Int32)]) (rest := []) K hw (cc_X8_isSign l D cy ad A g_4 _ (45 : Int32) hd) lk_X8_206 (ci := 8) rfl (q0 := 0) (wsM_at cy ad _ (by decide)) ⟨Nat.le_of_ble_eq_true rfl, Nat.le_of_ble_eq_true rfl⟩ ⟨Nat.zero_le _, Nat.zero_le _⟩ rfl hl.1 (Nat.le_of_ble_eq_true rfl) rfl dX8_added1_17 (fun r_17 g_16 H locs hd hw => ?_)
      refine lv_if_eq (tgt := 66) K.1 K.2.1 dX8_added1_20 (by decide) (fun h_18 => ?_) (fun h_18 => ?_)
      · have hd := hd.1 h_18
        refine lv_iload_n K.1 K.2.1 dX8_added1_66 rfl (lv_at hl 1 rfl) ?_
        exact rk_iret K hw hr hd dX8_added1_67
      · have hd := hd.2 h_18
        exact bb_X8_added1_23 K hr ih x1 g_16 _ _ _ hd hw (lv_sub hl [0, 1] rfl)
set_option maxHeartbeats 4000000 in
set_option maxRecDepth 100000 in
theorem cc_X8_added1 (l : Launch) (D : va_G) (cy : Nat → ClassId) (ad : Nat → Nat) (A : Nat → Prop) (g0 : Sg) (Q : Int32 → Sg → Prop)  (hd : vv_X8_added1  g0 Q) : Met l yX8_added1 (Cond.code yX8_added1 cX8_added1 4 (some .int) :: TT) (rmD 30) (va_Pc [.ref (ad 0)] (PreG (wsM cy ad) D cy A g0)) (va_Qi Q (PostG (wsM cy ad) D A) A) 0 0 A := by
  unfold vv_X8_added1 at hd
  refine Met.ofW (cc := cX8_added1) (maxL := 4) (ret := (some .int)) (by decide) rfl ?_
  intro p e s m args below meth c s₁ B hml hv
  obtain ⟨rfl, hP, hK0, hD⟩ := hv
  have K : Kx p s m _ meth c cX8_added1 4 RX8 D cy := ⟨B.exec, B.bytes, hml, findClass_of_methodNamed B.named, fun w h => atoms_spec (ws := Cond.code yX8_added1 cX8_added1 4 (some .int) :: TT) B.pre w (List.mem_cons_of_mem _ h), hK0, B.notSynchronized⟩
  have hw : Wd D A s.heap (wsM cy ad g0) s.heap [] := ⟨hP, hD, va_S.rf⟩
  have hr := B.returns
  have hl := lv_entry ([.ref (ad 0)]) (n := 4) (Nat.le_of_ble_eq_true rfl)
  rw [lg_entry_eq]
  generalize (lg_sl ([.ref (ad 0)]) ++ List.replicate (4 - (lg_sl ([.ref (ad 0)])).length) Slot.unset).toArray = ls at hl ⊢
  have hl : lv_has ls 4 [(0, .ref (ad 0))] := hl
  refine lv_aload_n K.1 K.2.1 dX8_added1_0 rfl (lv_at hl 0 rfl) ?_
  refine rk_vi (As := []) (rest := []) K hw (cc_X8_term1 l D cy ad A g0 _  hd) lk_X8_296 (ci := 8) rfl (q0 := 0) (wsM_at cy ad _ (by decide)) ⟨Nat.le_of_ble_eq_true rfl, Nat.le_of_ble_eq_true rfl⟩ ⟨Nat.zero_le _, Nat.zero_le _⟩ rfl hl.1 (Nat.le_of_ble_eq_true rfl) rfl dX8_added1_1 (fun r_2 g_1 H locs hd hw => ?_)
  refine lv_topi (fun x1_3 ex1_3 => ?_)
  have hd := hd x1_3 ex1_3
  refine lv_istore_n (lv' := [(1, .int x1_3), (0, .ref (ad 0))]) K.1 K.2.1 dX8_added1_4 rfl hl (by decide) rfl (fun ls hl => ?_)
  obtain ⟨n9, hd⟩ := hd
  exact bb_X8_added1_5 K hr  n9 x1_3 g_1 _ _ _ hd hw (lv_sub hl [1, 0] rfl)
