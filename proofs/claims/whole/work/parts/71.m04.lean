theorem dX8_lays_0 : decode cX8_lays 0 = .ok (.iload_n 1, 1) := by decide +kernel
theorem dX8_lays_1 : decode cX8_lays 1 = .ok (.ifCond .ne 11, 3) := by decide +kernel
theorem dX8_lays_4 : decode cX8_lays 4 = .ok (.aload_n 0, 1) := by decide +kernel
theorem dX8_lays_5 : decode cX8_lays 5 = .ok (.iload_n 3, 1) := by decide +kernel
theorem dX8_lays_6 : decode cX8_lays 6 = .ok (.putfield 92, 3) := by decide +kernel
theorem dX8_lays_9 : decode cX8_lays 9 = .ok (.goto 59, 3) := by decide +kernel
theorem dX8_lays_12 : decode cX8_lays 12 = .ok (.iload_n 1, 1) := by decide +kernel
theorem dX8_lays_13 : decode cX8_lays 13 = .ok (.iconst 1, 1) := by decide +kernel
theorem dX8_lays_14 : decode cX8_lays 14 = .ok (.if_icmp .ne 11, 3) := by decide +kernel
theorem dX8_lays_17 : decode cX8_lays 17 = .ok (.aload_n 0, 1) := by decide +kernel
theorem dX8_lays_18 : decode cX8_lays 18 = .ok (.iload_n 3, 1) := by decide +kernel
theorem dX8_lays_19 : decode cX8_lays 19 = .ok (.putfield 23, 3) := by decide +kernel
theorem dX8_lays_22 : decode cX8_lays 22 = .ok (.goto 46, 3) := by decide +kernel
theorem dX8_lays_25 : decode cX8_lays 25 = .ok (.iload_n 1, 1) := by decide +kernel
theorem dX8_lays_26 : decode cX8_lays 26 = .ok (.bipush 7, 2) := by decide +kernel
theorem dX8_lays_28 : decode cX8_lays 28 = .ok (.if_icmp .ge 19, 3) := by decide +kernel
theorem dX8_lays_31 : decode cX8_lays 31 = .ok (.aload_n 0, 1) := by decide +kernel
theorem dX8_lays_32 : decode cX8_lays 32 = .ok (.getfield 29, 3) := by decide +kernel
theorem dX8_lays_35 : decode cX8_lays 35 = .ok (.iconst 5, 1) := by decide +kernel
theorem dX8_lays_36 : decode cX8_lays 36 = .ok (.iload_n 2, 1) := by decide +kernel
theorem dX8_lays_37 : decode cX8_lays 37 = .ok (.imul, 1) := by decide +kernel
theorem dX8_lays_38 : decode cX8_lays 38 = .ok (.iload_n 1, 1) := by decide +kernel
theorem dX8_lays_39 : decode cX8_lays 39 = .ok (.iadd, 1) := by decide +kernel
theorem dX8_lays_40 : decode cX8_lays 40 = .ok (.iconst 2, 1) := by decide +kernel
theorem dX8_lays_41 : decode cX8_lays 41 = .ok (.isub, 1) := by decide +kernel
theorem dX8_lays_42 : decode cX8_lays 42 = .ok (.iload_n 3, 1) := by decide +kernel
theorem dX8_lays_43 : decode cX8_lays 43 = .ok (.iastore, 1) := by decide +kernel
theorem dX8_lays_44 : decode cX8_lays 44 = .ok (.goto 24, 3) := by decide +kernel
theorem dX8_lays_47 : decode cX8_lays 47 = .ok (.iload_n 1, 1) := by decide +kernel
theorem dX8_lays_48 : decode cX8_lays 48 = .ok (.bipush 7, 2) := by decide +kernel
theorem dX8_lays_50 : decode cX8_lays 50 = .ok (.if_icmp .ne 13, 3) := by decide +kernel
theorem dX8_lays_53 : decode cX8_lays 53 = .ok (.aload_n 0, 1) := by decide +kernel
theorem dX8_lays_54 : decode cX8_lays 54 = .ok (.getfield 26, 3) := by decide +kernel
theorem dX8_lays_57 : decode cX8_lays 57 = .ok (.iload_n 2, 1) := by decide +kernel
theorem dX8_lays_58 : decode cX8_lays 58 = .ok (.iload_n 3, 1) := by decide +kernel
theorem dX8_lays_59 : decode cX8_lays 59 = .ok (.iastore, 1) := by decide +kernel
theorem dX8_lays_60 : decode cX8_lays 60 = .ok (.goto 8, 3) := by decide +kernel
theorem dX8_lays_63 : decode cX8_lays 63 = .ok (.aload_n 0, 1) := by decide +kernel
theorem dX8_lays_64 : decode cX8_lays 64 = .ok (.iload_n 3, 1) := by decide +kernel
theorem dX8_lays_65 : decode cX8_lays 65 = .ok (.putfield 95, 3) := by decide +kernel
theorem dX8_lays_68 : decode cX8_lays 68 = .ok (.return_, 1) := by decide +kernel
set_option maxHeartbeats 4000000 in
set_option maxRecDepth 100000 in
theorem cc_X8_lays (l : Launch) (D : va_G) (cy : Nat → ClassId) (ad : Nat → Nat) (A : Nat → Prop) (g0 : Sg) (Q : Sg → Prop) (x1 : Int32) (x2 : Int32) (x3 : Int32) (hd : vv_X8_lays x1 x2 x3 g0 Q) : Met l yX8_lays (Cond.code yX8_lays cX8_lays 4 none :: TT) (rmD 0) (va_Pc [.ref (ad 0), .int x1, .int x2, .int x3] (PreG (wsM cy ad) D cy A g0)) (va_Qv Q (PostG (wsM cy ad) D A) A) 0 0 A := by
  unfold vv_X8_lays at hd
  refine Met.ofW (cc := cX8_lays) (maxL := 4) (ret := none) (by decide) rfl ?_
  intro p e s m args below meth c s₁ B hml hv
  obtain ⟨rfl, hP, hK0, hD⟩ := hv
  have K : Kx p s m _ meth c cX8_lays 4 RX8 D cy := ⟨B.exec, B.bytes, hml, findClass_of_methodNamed B.named, fun w h => atoms_spec (ws := Cond.code yX8_lays cX8_lays 4 none :: TT) B.pre w (List.mem_cons_of_mem _ h), hK0, B.notSynchronized⟩
  have hw : Wd D A s.heap (wsM cy ad g0) s.heap [] := ⟨hP, hD, va_S.rf⟩
  have hr := B.returns
  have hl := lv_entry ([.ref (ad 0), .int x1, .int x2, .int x3]) (n := 4) (Nat.le_of_ble_eq_true rfl)
  rw [lg_entry_eq]
  generalize (lg_sl ([.ref (ad 0), .int x1, .int x2, .int x3]) ++ List.replicate (4 - (lg_sl ([.ref (ad 0), .int x1, .int x2, .int x3])).length) Slot.unset).toArray = ls at hl ⊢
  have hl : lv_has ls 4 [(0, .ref (ad 0)), (1, .int x1), (2, .int x2), (3, .int x3)] := hl
  refine lv_iload_n K.1 K.2.1 dX8_lays_0 rfl (lv_at hl 1 rfl) ?_
  refine lv_if_ne (tgt := 12) K.1 K.2.1 dX8_lays_1 (by decide) (fun h_1 => ?_) (fun h_1 => ?_)
  · have hd := hd.1 h_1
    refine lv_iload_n K.1 K.2.1 dX8_lays_12 rfl (lv_at hl 1 rfl) ?_
    refine lv_iconst (v := (1 : Int32)) K.1 K.2.1 dX8_lays_13 (by decide) ?_
    refine lv_icmp_ne (tgt := 25) K.1 K.2.1 dX8_lays_14 (by decide) (fun h_2 => ?_) (fun h_2 => ?_)
    · have hd := hd.1 h_2
      refine lv_iload_n K.1 K.2.1 dX8_lays_25 rfl (lv_at hl 1 rfl) ?_
      refine lv_bipush (v := (7 : Int32)) K.1 K.2.1 dX8_lays_26 (by decide) ?_
      refine lv_icmp_ge (tgt := 47) K.1 K.2.1 dX8_lays_28 (by decide) (fun h_3 => ?_) (fun h_3 => ?_)
      · have hd := hd.1 h_3
        refine lv_iload_n K.1 K.2.1 dX8_lays_47 rfl (lv_at hl 1 rfl) ?_
        refine lv_bipush (v := (7 : Int32)) K.1 K.2.1 dX8_lays_48 (by decide) ?_
        refine lv_icmp_ne (tgt := 63) K.1 K.2.1 dX8_lays_50 (by decide) (fun h_4 => ?_) (fun h_4 => ?_)
        · have hd := hd.1 h_4
          refine lv_aload_n K.1 K.2.1 dX8_lays_63 rfl (lv_at hl 0 rfl) ?_
          refine lv_iload_n K.1 K.2.1 dX8_lays_64 rfl (lv_at hl 3 rfl) ?_
          refine rm_put 4 K hw (by decide) kf_X8_95 rfl rfl rfl rfl (fsM_4 ad g0 _) dX8_lays_65 (fun g_5 eg_5 H locs hw => ?_)
          have hd := hd g_5 eg_5
          exact rk_vret K hw hr hd dX8_lays_68
        · have hd := hd.2 h_4
          refine lv_aload_n K.1 K.2.1 dX8_lays_53 rfl (lv_at hl 0 rfl) ?_
          refine rm_get 9 K hw (by decide) kf_X8_26 rfl dX8_lays_54 ?_
          refine lv_iload_n K.1 K.2.1 dX8_lays_57 rfl (lv_at hl 2 rfl) ?_
          refine lv_iload_n K.1 K.2.1 dX8_lays_58 rfl (lv_at hl 3 rfl) ?_
          have hb := hd.1
          have hd := hd.2
          refine rm_iast 4 K hw (by decide) hb dX8_lays_59 (fun g_6 eg_6 H locs hw => ?_)
          have hd := hd g_6 eg_6
          refine lv_goto (tgt := 68) K.1 K.2.1 dX8_lays_60 (by decide) ?_
          exact rk_vret K hw hr hd dX8_lays_68
      · have hd := hd.2 h_3
        refine lv_aload_n K.1 K.2.1 dX8_lays_31 rfl (lv_at hl 0 rfl) ?_
        refine rm_get 10 K hw (by decide) kf_X8_29 rfl dX8_lays_32 ?_
        refine lv_iconst (v := (5 : Int32)) K.1 K.2.1 dX8_lays_35 (by decide) ?_
        refine lv_iload_n K.1 K.2.1 dX8_lays_36 rfl (lv_at hl 2 rfl) ?_
        refine lv_imul K.1 K.2.1 dX8_lays_37 ?_
        refine lv_iload_n K.1 K.2.1 dX8_lays_38 rfl (lv_at hl 1 rfl) ?_
        refine lv_iadd K.1 K.2.1 dX8_lays_39 ?_
        refine lv_iconst (v := (2 : Int32)) K.1 K.2.1 dX8_lays_40 (by decide) ?_
        refine lv_isub K.1 K.2.1 dX8_lays_41 ?_
        refine lv_iload_n K.1 K.2.1 dX8_lays_42 rfl (lv_at hl 3 rfl) ?_
        have hb := hd.1
        have hd := hd.2
        refine rm_iast 5 K hw (by decide) hb dX8_lays_43 (fun g_7 eg_7 H locs hw => ?_)
        have hd := hd g_7 eg_7
        refine lv_goto (tgt := 68) K.1 K.2.1 dX8_lays_44 (by decide) ?_
        exact rk_vret K hw hr hd dX8_lays_68
    · have hd := hd.2 h_2
      refine lv_aload_n K.1 K.2.1 dX8_lays_17 rfl (lv_at hl 0 rfl) ?_
      refine lv_iload_n K.1 K.2.1 dX8_lays_18 rfl (lv_at hl 3 rfl) ?_
      refine rm_put 8 K hw (by decide) kf_X8_23 rfl rfl rfl rfl (fsM_8 ad g0 _) dX8_lays_19 (fun g_8 eg_8 H locs hw => ?_)
      have hd := hd g_8 eg_8
      refine lv_goto (tgt := 68) K.1 K.2.1 dX8_lays_22 (by decide) ?_
      exact rk_vret K hw hr hd dX8_lays_68
  · have hd := hd.2 h_1
    refine lv_aload_n K.1 K.2.1 dX8_lays_4 rfl (lv_at hl 0 rfl) ?_
    refine lv_iload_n K.1 K.2.1 dX8_lays_5 rfl (lv_at hl 3 rfl) ?_
    refine rm_put 7 K hw (by decide) kf_X8_92 rfl rfl rfl rfl (fsM_7 ad g0 _) dX8_lays_6 (fun g_9 eg_9 H locs hw => ?_)
    have hd := hd g_9 eg_9
    refine lv_goto (tgt := 68) K.1 K.2.1 dX8_lays_9 (by decide) ?_
    exact rk_vret K hw hr hd dX8_lays_68
theorem dX8_set_0 : decode cX8_set 0 = .ok (.iload_n 1, 1) := by decide +kernel
theorem dX8_set_1 : decode cX8_set 1 = .ok (.i2l, 1) := by decide +kernel
theorem dX8_set_2 : decode cX8_set 2 = .ok (.lconst 0, 1) := by decide +kernel
theorem dX8_set_3 : decode cX8_set 3 = .ok (.ldc2_w 71, 3) := by decide +kernel
theorem dX8_set_6 : decode cX8_set 6 = .ok (.invokestatic 67, 3) := by decide +kernel
theorem dX8_set_9 : decode cX8_set 9 = .ok (.ifCond .eq 34, 3) := by decide +kernel
theorem dX8_set_12 : decode cX8_set 12 = .ok (.iload_n 1, 1) := by decide +kernel
theorem dX8_set_13 : decode cX8_set 13 = .ok (.iconst 1, 1) := by decide +kernel
theorem dX8_set_14 : decode cX8_set 14 = .ok (.if_icmp .le 11, 3) := by decide +kernel
theorem dX8_set_17 : decode cX8_set 17 = .ok (.aload_n 0, 1) := by decide +kernel
theorem dX8_set_18 : decode cX8_set 18 = .ok (.iload_n 2, 1) := by decide +kernel
theorem dX8_set_19 : decode cX8_set 19 = .ok (.invokevirtual 73, 3) := by decide +kernel
theorem dX8_set_22 : decode cX8_set 22 = .ok (.ifCond .eq 21, 3) := by decide +kernel
theorem dX8_set_25 : decode cX8_set 25 = .ok (.iload_n 3, 1) := by decide +kernel
theorem dX8_set_26 : decode cX8_set 26 = .ok (.i2l, 1) := by decide +kernel
theorem dX8_set_27 : decode cX8_set 27 = .ok (.iload_n 1, 1) := by decide +kernel
theorem dX8_set_28 : decode cX8_set 28 = .ok (.invokestatic 77, 3) := by decide +kernel
theorem dX8_set_31 : decode cX8_set 31 = .ok (.i2l, 1) := by decide +kernel
theorem dX8_set_32 : decode cX8_set 32 = .ok (.iload_n 1, 1) := by decide +kernel
theorem dX8_set_33 : decode cX8_set 33 = .ok (.invokestatic 81, 3) := by decide +kernel
theorem dX8_set_36 : decode cX8_set 36 = .ok (.i2l, 1) := by decide +kernel
theorem dX8_set_37 : decode cX8_set 37 = .ok (.invokestatic 67, 3) := by decide +kernel
theorem dX8_set_40 : decode cX8_set 40 = .ok (.ifCond .ne 7, 3) := by decide +kernel
theorem dX8_set_43 : decode cX8_set 43 = .ok (.sipush (-1000), 3) := by decide +kernel
theorem dX8_set_46 : decode cX8_set 46 = .ok (.ireturn, 1) := by decide +kernel
theorem dX8_set_47 : decode cX8_set 47 = .ok (.aload_n 0, 1) := by decide +kernel
theorem dX8_set_48 : decode cX8_set 48 = .ok (.iload_n 2, 1) := by decide +kernel
theorem dX8_set_49 : decode cX8_set 49 = .ok (.iload_n 1, 1) := by decide +kernel
theorem dX8_set_50 : decode cX8_set 50 = .ok (.invokevirtual 84, 3) := by decide +kernel
theorem dX8_set_53 : decode cX8_set 53 = .ok (.istore 4, 2) := by decide +kernel
theorem dX8_set_55 : decode cX8_set 55 = .ok (.aload_n 0, 1) := by decide +kernel
theorem dX8_set_56 : decode cX8_set 56 = .ok (.iload_n 1, 1) := by decide +kernel
theorem dX8_set_57 : decode cX8_set 57 = .ok (.iload_n 2, 1) := by decide +kernel
theorem dX8_set_58 : decode cX8_set 58 = .ok (.iload_n 3, 1) := by decide +kernel
theorem dX8_set_59 : decode cX8_set 59 = .ok (.invokevirtual 88, 3) := by decide +kernel
theorem dX8_set_62 : decode cX8_set 62 = .ok (.iload 4, 2) := by decide +kernel
theorem dX8_set_64 : decode cX8_set 64 = .ok (.ireturn, 1) := by decide +kernel
set_option maxHeartbeats 4000000 in
set_option maxRecDepth 100000 in
theorem bb_X8_set_25 {p : Program} {l : Launch} {e : Env} {s : State} {m : MethodId} {args : Array Value} {below : List Frame} {meth : Method} {c : Code} {D : va_G} {cy : Nat → ClassId} {ad : Nat → Nat} {A : Nat → Prop} {Q : Int32 → Sg → Prop} (K : Kx p s m args meth c cX8_set 5 RX8 D cy) (hr : meth.sig.returnType = (some .int)) (x1 : Int32) (x2 : Int32) (x3 : Int32)  (g0 : Sg) (H : Heap) (locs : List Loc) (ls : Array Slot) (hd : vv_X8_set_J25 x1 x2 x3 g0 Q) (hw : Wd D A s.heap (wsM cy ad g0) H locs) (hl : lv_has ls 5 [(0, .ref (ad 0)), (1, .int x1), (2, .int x2), (3, .int x3)]) : W p l e (rmD 46) s m args below meth c H locs 0 0 (MQ below (va_Qi Q (PostG (wsM cy ad) D A) A) args s 0 0 A) (F0 m 25 ls []) := by
  unfold vv_X8_set_J25 at hd
  refine lv_iload_n K.1 K.2.1 dX8_set_25 rfl (lv_at hl 3 rfl) ?_
  refine lv_i2l (v := x3.toInt64) K.1 K.2.1 dX8_set_26 rfl ?_
  refine lv_iload_n K.1 K.2.1 dX8_set_27 rfl (lv_at hl 1 rfl) ?_
  refine rk_si (As := [.int x1]) (rest := [.long x3.toInt64]) K hw (cc_X8_leastOf l D cy ad A g0 _ x1 hd) lk_X8_77 ⟨Nat.le_of_ble_eq_true rfl, Nat.le_of_ble_eq_true rfl⟩ ⟨Nat.zero_le _, Nat.zero_le _⟩ rfl hl.1 (Nat.le_of_ble_eq_true rfl) rfl dX8_set_28 (fun r_6 g_5 H locs hd hw => ?_)
  refine lv_i2l (v := r_6.toInt64) K.1 K.2.1 dX8_set_31 rfl ?_
  refine lv_iload_n K.1 K.2.1 dX8_set_32 rfl (lv_at hl 1 rfl) ?_
  refine rk_si (As := [.int x1]) (rest := [.long r_6.toInt64, .long x3.toInt64]) K hw (cc_X8_mostOf l D cy ad A g_5 _ x1 hd) lk_X8_81 ⟨Nat.le_of_ble_eq_true rfl, Nat.le_of_ble_eq_true rfl⟩ ⟨Nat.zero_le _, Nat.zero_le _⟩ rfl hl.1 (Nat.le_of_ble_eq_true rfl) rfl dX8_set_33 (fun r_8 g_7 H locs hd hw => ?_)
  refine lv_i2l (v := r_8.toInt64) K.1 K.2.1 dX8_set_36 rfl ?_
  refine rk_si (As := [.long x3.toInt64, .long r_6.toInt64, .long r_8.toInt64]) (rest := []) K hw (cc_X8_in l D cy ad A g_7 _ (x3.toInt64) (r_6.toInt64) (r_8.toInt64) hd) lk_X8_67 ⟨Nat.le_of_ble_eq_true rfl, Nat.le_of_ble_eq_true rfl⟩ ⟨Nat.zero_le _, Nat.zero_le _⟩ rfl hl.1 (Nat.le_of_ble_eq_true rfl) rfl dX8_set_37 (fun r_10 g_9 H locs hd hw => ?_)
  refine lv_if_ne (tgt := 47) K.1 K.2.1 dX8_set_40 (by decide) (fun h_11 => ?_) (fun h_11 => ?_)
  · have hd := hd.1 h_11
    refine lv_aload_n K.1 K.2.1 dX8_set_47 rfl (lv_at hl 0 rfl) ?_
    refine lv_iload_n K.1 K.2.1 dX8_set_48 rfl (lv_at hl 2 rfl) ?_
    refine lv_iload_n K.1 K.2.1 dX8_set_49 rfl (lv_at hl 1 rfl) ?_
    refine rk_vi (As := [.int x2, .int x1]) (rest := []) K hw (cc_X8_told l D cy ad A g_9 _ x2 x1 hd) lk_X8_84 (ci := 8) rfl (q0 := 0) (wsM_at cy ad _ (by decide)) ⟨Nat.le_of_ble_eq_true rfl, Nat.le_of_ble_eq_true rfl⟩ ⟨Nat.zero_le _, Nat.zero_le _⟩ rfl hl.1 (Nat.le_of_ble_eq_true rfl) rfl dX8_set_50 (fun r_13 g_12 H locs hd hw => ?_)
    refine lv_topi (fun x4_14 ex4_14 => ?_)
    have hd := hd x4_14 ex4_14
    refine lv_istore (lv' := [(4, .int x4_14), (0, .ref (ad 0)), (1, .int x1), (2, .int x2), (3, .int x3)]) K.1 K.2.1 dX8_set_53 hl (by decide) rfl (fun ls hl => ?_)
    refine lv_aload_n K.1 K.2.1 dX8_set_55 rfl (lv_at hl 1 rfl) ?_
    refine lv_iload_n K.1 K.2.1 dX8_set_56 rfl (lv_at hl 2 rfl) ?_
    refine lv_iload_n K.1 K.2.1 dX8_set_57 rfl (lv_at hl 3 rfl) ?_
    refine lv_iload_n K.1 K.2.1 dX8_set_58 rfl (lv_at hl 4 rfl) ?_
    refine rk_vv (As := [.int x1, .int x2, .int x3]) (rest := []) K hw (cc_X8_lays l D cy ad A g_12 _ x1 x2 x3 hd) lk_X8_88 (ci := 8) rfl (q0 := 0) (wsM_at cy ad _ (by decide)) ⟨Nat.le_of_ble_eq_true rfl, Nat.le_of_ble_eq_true rfl⟩ ⟨Nat.zero_le _, Nat.zero_le _⟩ rfl hl.1 (Nat.le_of_ble_eq_true rfl) rfl dX8_set_59 (fun g_15 H locs hd hw => ?_)
    refine lv_iload K.1 K.2.1 dX8_set_62 (lv_at hl 0 rfl) ?_
    exact rk_iret K hw hr hd dX8_set_64
  · have hd := hd.2 h_11
    refine lv_sipush (v := (-1000 : Int32)) K.1 K.2.1 dX8_set_43 (by decide) ?_
    exact rk_iret K hw hr hd dX8_set_46
set_option maxHeartbeats 4000000 in
set_option maxRecDepth 100000 in
theorem cc_X8_set (l : Launch) (D : va_G) (cy : Nat → ClassId) (ad : Nat → Nat) (A : Nat → Prop) (g0 : Sg) (Q : Int32 → Sg → Prop) (x1 : Int32) (x2 : Int32) (x3 : Int32) (hd : vv_X8_set x1 x2 x3 g0 Q) : Met l yX8_set (Cond.code yX8_set cX8_set 5 (some .int) :: TT) (rmD 46) (va_Pc [.ref (ad 0), .int x1, .int x2, .int x3] (PreG (wsM cy ad) D cy A g0)) (va_Qi Q (PostG (wsM cy ad) D A) A) 0 0 A := by
  unfold vv_X8_set at hd
  refine Met.ofW (cc := cX8_set) (maxL := 5) (ret := (some .int)) (by decide) rfl ?_
  intro p e s m args below meth c s₁ B hml hv
  obtain ⟨rfl, hP, hK0, hD⟩ := hv
  have K : Kx p s m _ meth c cX8_set 5 RX8 D cy := ⟨B.exec, B.bytes, hml, findClass_of_methodNamed B.named, fun w h => atoms_spec (ws := Cond.code yX8_set cX8_set 5 (some .int) :: TT) B.pre w (List.mem_cons_of_mem _ h), hK0, B.notSynchronized⟩
  have hw : Wd D A s.heap (wsM cy ad g0) s.heap [] := ⟨hP, hD, va_S.rf⟩
  have hr := B.returns
  have hl := lv_entry ([.ref (ad 0), .int x1, .int x2, .int x3]) (n := 5) (Nat.le_of_ble_eq_true rfl)
  rw [lg_entry_eq]
  generalize (lg_sl ([.ref (ad 0), .int x1, .int x2, .int x3]) ++ List.replicate (5 - (lg_sl ([.ref (ad 0), .int x1, .int x2, .int x3])).length) Slot.unset).toArray = ls at hl ⊢
  have hl : lv_has ls 5 [(0, .ref (ad 0)), (1, .int x1), (2, .int x2), (3, .int x3)] := hl
  refine lv_iload_n K.1 K.2.1 dX8_set_0 rfl (lv_at hl 1 rfl) ?_
  refine lv_i2l (v := x1.toInt64) K.1 K.2.1 dX8_set_1 rfl ?_
  refine lv_lconst (v := (0 : Int64)) K.1 K.2.1 dX8_set_2 rfl ?_
  refine lv_ldc2 K.1 K.2.1 K.2.2.2.1 (K.2.2.2.2.1 _ kl_X8_71) dX8_set_3 ?_
  refine rk_si (As := [.long x1.toInt64, .long (0 : Int64), .long (6 : Int64)]) (rest := []) K hw (cc_X8_in l D cy ad A g0 _ (x1.toInt64) (0 : Int64) (6 : Int64) hd) lk_X8_67 ⟨Nat.le_of_ble_eq_true rfl, Nat.le_of_ble_eq_true rfl⟩ ⟨Nat.zero_le _, Nat.zero_le _⟩ rfl hl.1 (Nat.le_of_ble_eq_true rfl) rfl dX8_set_6 (fun r_2 g_1 H locs hd hw => ?_)
  refine lv_if_eq (tgt := 43) K.1 K.2.1 dX8_set_9 (by decide) (fun h_3 => ?_) (fun h_3 => ?_)
  · have hd := hd.1 h_3
    refine lv_sipush (v := (-1000 : Int32)) K.1 K.2.1 dX8_set_43 (by decide) ?_
    exact rk_iret K hw hr hd dX8_set_46
  · have hd := hd.2 h_3
    refine lv_iload_n K.1 K.2.1 dX8_set_12 rfl (lv_at hl 1 rfl) ?_
    refine lv_iconst (v := (1 : Int32)) K.1 K.2.1 dX8_set_13 (by decide) ?_
    refine lv_icmp_le (tgt := 25) K.1 K.2.1 dX8_set_14 (by decide) (fun h_4 => ?_) (fun h_4 => ?_)
    · have hd := hd.1 h_4
      exact bb_X8_set_25 K hr  x1 x2 x3 g_1 _ _ _ hd hw (lv_sub hl [0, 1, 2, 3] rfl)
    · have hd := hd.2 h_4
      refine lv_aload_n K.1 K.2.1 dX8_set_17 rfl (lv_at hl 0 rfl) ?_
      refine lv_iload_n K.1 K.2.1 dX8_set_18 rfl (lv_at hl 2 rfl) ?_
      refine rk_vi (As := [.int x2]) (rest := []) K hw (cc_X8_isOne l D cy ad A g_1 _ x2 hd) lk_X8_73 (ci := 8) rfl (q0 := 0) (wsM_at cy ad _ (by decide)) ⟨Nat.le_of_ble_eq_true rfl, Nat.le_of_ble_eq_true rfl⟩ ⟨Nat.zero_le _, Nat.zero_le _⟩ rfl hl.1 (Nat.le_of_ble_eq_true rfl) rfl dX8_set_19 (fun r_18 g_17 H locs hd hw => ?_)
      refine lv_if_eq (tgt := 43) K.1 K.2.1 dX8_set_22 (by decide) (fun h_19 => ?_) (fun h_19 => ?_)
      · have hd := hd.1 h_19
        refine lv_sipush (v := (-1000 : Int32)) K.1 K.2.1 dX8_set_43 (by decide) ?_
        exact rk_iret K hw hr hd dX8_set_46
      · have hd := hd.2 h_19
        exact bb_X8_set_25 K hr  x1 x2 x3 g_17 _ _ _ hd hw (lv_sub hl [0, 1, 2, 3] rfl)
theorem dX8_paper_0 : decode cX8_paper 0 = .ok (.iload_n 1, 1) := by decide +kernel
theorem dX8_paper_1 : decode cX8_paper 1 = .ok (.i2l, 1) := by decide +kernel
theorem dX8_paper_2 : decode cX8_paper 2 = .ok (.lconst 0, 1) := by decide +kernel
theorem dX8_paper_3 : decode cX8_paper 3 = .ok (.ldc2_w 98, 3) := by decide +kernel
theorem dX8_paper_6 : decode cX8_paper 6 = .ok (.invokestatic 67, 3) := by decide +kernel
theorem dX8_paper_9 : decode cX8_paper 9 = .ok (.ifCond .eq 29, 3) := by decide +kernel
theorem dX8_paper_12 : decode cX8_paper 12 = .ok (.iload_n 2, 1) := by decide +kernel
theorem dX8_paper_13 : decode cX8_paper 13 = .ok (.i2l, 1) := by decide +kernel
theorem dX8_paper_14 : decode cX8_paper 14 = .ok (.lconst 0, 1) := by decide +kernel
theorem dX8_paper_15 : decode cX8_paper 15 = .ok (.ldc2_w 100, 3) := by decide +kernel
theorem dX8_paper_18 : decode cX8_paper 18 = .ok (.invokestatic 67, 3) := by decide +kernel
theorem dX8_paper_21 : decode cX8_paper 21 = .ok (.ifCond .eq 17, 3) := by decide +kernel
theorem dX8_paper_24 : decode cX8_paper 24 = .ok (.iload_n 3, 1) := by decide +kernel
theorem dX8_paper_25 : decode cX8_paper 25 = .ok (.i2l, 1) := by decide +kernel
theorem dX8_paper_26 : decode cX8_paper 26 = .ok (.ldc2_w 102, 3) := by decide +kernel
theorem dX8_paper_29 : decode cX8_paper 29 = .ok (.ldc2_w 100, 3) := by decide +kernel
theorem dX8_paper_32 : decode cX8_paper 32 = .ok (.invokestatic 67, 3) := by decide +kernel
theorem dX8_paper_35 : decode cX8_paper 35 = .ok (.ifCond .ne 6, 3) := by decide +kernel
theorem dX8_paper_38 : decode cX8_paper 38 = .ok (.bipush (-2), 2) := by decide +kernel
theorem dX8_paper_40 : decode cX8_paper 40 = .ok (.ireturn, 1) := by decide +kernel
theorem dX8_paper_41 : decode cX8_paper 41 = .ok (.aload_n 0, 1) := by decide +kernel
theorem dX8_paper_42 : decode cX8_paper 42 = .ok (.getfield 64, 3) := by decide +kernel
theorem dX8_paper_45 : decode cX8_paper 45 = .ok (.bipush 8, 2) := by decide +kernel
theorem dX8_paper_47 : decode cX8_paper 47 = .ok (.if_icmp .ne 6, 3) := by decide +kernel
theorem dX8_paper_50 : decode cX8_paper 50 = .ok (.bipush (-4), 2) := by decide +kernel
theorem dX8_paper_52 : decode cX8_paper 52 = .ok (.ireturn, 1) := by decide +kernel
theorem dX8_paper_53 : decode cX8_paper 53 = .ok (.aload_n 0, 1) := by decide +kernel
theorem dX8_paper_54 : decode cX8_paper 54 = .ok (.getfield 26, 3) := by decide +kernel
theorem dX8_paper_57 : decode cX8_paper 57 = .ok (.aload_n 0, 1) := by decide +kernel
theorem dX8_paper_58 : decode cX8_paper 58 = .ok (.getfield 64, 3) := by decide +kernel
theorem dX8_paper_61 : decode cX8_paper 61 = .ok (.iload_n 1, 1) := by decide +kernel
theorem dX8_paper_62 : decode cX8_paper 62 = .ok (.iastore, 1) := by decide +kernel
theorem dX8_paper_63 : decode cX8_paper 63 = .ok (.aload_n 0, 1) := by decide +kernel
theorem dX8_paper_64 : decode cX8_paper 64 = .ok (.getfield 29, 3) := by decide +kernel
theorem dX8_paper_67 : decode cX8_paper 67 = .ok (.iconst 5, 1) := by decide +kernel
theorem dX8_paper_68 : decode cX8_paper 68 = .ok (.aload_n 0, 1) := by decide +kernel
theorem dX8_paper_69 : decode cX8_paper 69 = .ok (.getfield 64, 3) := by decide +kernel
theorem dX8_paper_72 : decode cX8_paper 72 = .ok (.imul, 1) := by decide +kernel
theorem dX8_paper_73 : decode cX8_paper 73 = .ok (.iload_n 2, 1) := by decide +kernel
theorem dX8_paper_74 : decode cX8_paper 74 = .ok (.iastore, 1) := by decide +kernel
theorem dX8_paper_75 : decode cX8_paper 75 = .ok (.aload_n 0, 1) := by decide +kernel
theorem dX8_paper_76 : decode cX8_paper 76 = .ok (.getfield 29, 3) := by decide +kernel
theorem dX8_paper_79 : decode cX8_paper 79 = .ok (.iconst 5, 1) := by decide +kernel
theorem dX8_paper_80 : decode cX8_paper 80 = .ok (.aload_n 0, 1) := by decide +kernel
theorem dX8_paper_81 : decode cX8_paper 81 = .ok (.getfield 64, 3) := by decide +kernel
theorem dX8_paper_84 : decode cX8_paper 84 = .ok (.imul, 1) := by decide +kernel
theorem dX8_paper_85 : decode cX8_paper 85 = .ok (.iconst 1, 1) := by decide +kernel
theorem dX8_paper_86 : decode cX8_paper 86 = .ok (.iadd, 1) := by decide +kernel
theorem dX8_paper_87 : decode cX8_paper 87 = .ok (.iload_n 3, 1) := by decide +kernel
theorem dX8_paper_88 : decode cX8_paper 88 = .ok (.iastore, 1) := by decide +kernel
theorem dX8_paper_89 : decode cX8_paper 89 = .ok (.aload_n 0, 1) := by decide +kernel
theorem dX8_paper_90 : decode cX8_paper 90 = .ok (.getfield 29, 3) := by decide +kernel
theorem dX8_paper_93 : decode cX8_paper 93 = .ok (.iconst 5, 1) := by decide +kernel
theorem dX8_paper_94 : decode cX8_paper 94 = .ok (.aload_n 0, 1) := by decide +kernel
theorem dX8_paper_95 : decode cX8_paper 95 = .ok (.getfield 64, 3) := by decide +kernel
theorem dX8_paper_98 : decode cX8_paper 98 = .ok (.imul, 1) := by decide +kernel
theorem dX8_paper_99 : decode cX8_paper 99 = .ok (.iconst 2, 1) := by decide +kernel
theorem dX8_paper_100 : decode cX8_paper 100 = .ok (.iadd, 1) := by decide +kernel
theorem dX8_paper_101 : decode cX8_paper 101 = .ok (.iconst 0, 1) := by decide +kernel
theorem dX8_paper_102 : decode cX8_paper 102 = .ok (.iastore, 1) := by decide +kernel
theorem dX8_paper_103 : decode cX8_paper 103 = .ok (.aload_n 0, 1) := by decide +kernel
theorem dX8_paper_104 : decode cX8_paper 104 = .ok (.getfield 29, 3) := by decide +kernel
theorem dX8_paper_107 : decode cX8_paper 107 = .ok (.iconst 5, 1) := by decide +kernel
theorem dX8_paper_108 : decode cX8_paper 108 = .ok (.aload_n 0, 1) := by decide +kernel
theorem dX8_paper_109 : decode cX8_paper 109 = .ok (.getfield 64, 3) := by decide +kernel
theorem dX8_paper_112 : decode cX8_paper 112 = .ok (.imul, 1) := by decide +kernel
theorem dX8_paper_113 : decode cX8_paper 113 = .ok (.iconst 3, 1) := by decide +kernel
theorem dX8_paper_114 : decode cX8_paper 114 = .ok (.iadd, 1) := by decide +kernel
theorem dX8_paper_115 : decode cX8_paper 115 = .ok (.bipush 50, 2) := by decide +kernel
theorem dX8_paper_117 : decode cX8_paper 117 = .ok (.iastore, 1) := by decide +kernel
theorem dX8_paper_118 : decode cX8_paper 118 = .ok (.aload_n 0, 1) := by decide +kernel
theorem dX8_paper_119 : decode cX8_paper 119 = .ok (.getfield 29, 3) := by decide +kernel
theorem dX8_paper_122 : decode cX8_paper 122 = .ok (.iconst 5, 1) := by decide +kernel
theorem dX8_paper_123 : decode cX8_paper 123 = .ok (.aload_n 0, 1) := by decide +kernel
theorem dX8_paper_124 : decode cX8_paper 124 = .ok (.getfield 64, 3) := by decide +kernel
theorem dX8_paper_127 : decode cX8_paper 127 = .ok (.imul, 1) := by decide +kernel
theorem dX8_paper_128 : decode cX8_paper 128 = .ok (.iconst 4, 1) := by decide +kernel
theorem dX8_paper_129 : decode cX8_paper 129 = .ok (.iadd, 1) := by decide +kernel
theorem dX8_paper_130 : decode cX8_paper 130 = .ok (.iconst 0, 1) := by decide +kernel
theorem dX8_paper_131 : decode cX8_paper 131 = .ok (.iastore, 1) := by decide +kernel
theorem dX8_paper_132 : decode cX8_paper 132 = .ok (.aload_n 0, 1) := by decide +kernel
theorem dX8_paper_133 : decode cX8_paper 133 = .ok (.dup, 1) := by decide +kernel
theorem dX8_paper_134 : decode cX8_paper 134 = .ok (.getfield 64, 3) := by decide +kernel
theorem dX8_paper_137 : decode cX8_paper 137 = .ok (.iconst 1, 1) := by decide +kernel
theorem dX8_paper_138 : decode cX8_paper 138 = .ok (.iadd, 1) := by decide +kernel
theorem dX8_paper_139 : decode cX8_paper 139 = .ok (.putfield 64, 3) := by decide +kernel
theorem dX8_paper_142 : decode cX8_paper 142 = .ok (.aload_n 0, 1) := by decide +kernel
theorem dX8_paper_143 : decode cX8_paper 143 = .ok (.getfield 64, 3) := by decide +kernel
theorem dX8_paper_146 : decode cX8_paper 146 = .ok (.iconst 1, 1) := by decide +kernel
theorem dX8_paper_147 : decode cX8_paper 147 = .ok (.isub, 1) := by decide +kernel
theorem dX8_paper_148 : decode cX8_paper 148 = .ok (.ireturn, 1) := by decide +kernel
set_option maxHeartbeats 4000000 in
set_option maxRecDepth 100000 in
theorem cc_X8_paper (l : Launch) (D : va_G) (cy : Nat → ClassId) (ad : Nat → Nat) (A : Nat → Prop) (g0 : Sg) (Q : Int32 → Sg → Prop) (x1 : Int32) (x2 : Int32) (x3 : Int32) (hd : vv_X8_paper x1 x2 x3 g0 Q) : Met l yX8_paper (Cond.code yX8_paper cX8_paper 4 (some .int) :: TT) (rmD 1) (va_Pc [.ref (ad 0), .int x1, .int x2, .int x3] (PreG (wsM cy ad) D cy A g0)) (va_Qi Q (PostG (wsM cy ad) D A) A) 0 0 A := by
  unfold vv_X8_paper at hd
  refine Met.ofW (cc := cX8_paper) (maxL := 4) (ret := (some .int)) (by decide) rfl ?_
  intro p e s m args below meth c s₁ B hml hv
  obtain ⟨rfl, hP, hK0, hD⟩ := hv
  have K : Kx p s m _ meth c cX8_paper 4 RX8 D cy := ⟨B.exec, B.bytes, hml, findClass_of_methodNamed B.named, fun w h => atoms_spec (ws := Cond.code yX8_paper cX8_paper 4 (some .int) :: TT) B.pre w (List.mem_cons_of_mem _ h), hK0, B.notSynchronized⟩
  have hw : Wd D A s.heap (wsM cy ad g0) s.heap [] := ⟨hP, hD, va_S.rf⟩
  have hr := B.returns
  have hl := lv_entry ([.ref (ad 0), .int x1, .int x2, .int x3]) (n := 4) (Nat.le_of_ble_eq_true rfl)
  rw [lg_entry_eq]
  generalize (lg_sl ([.ref (ad 0), .int x1, .int x2, .int x3]) ++ List.replicate (4 - (lg_sl ([.ref (ad 0), .int x1, .int x2, .int x3])).length) Slot.unset).toArray = ls at hl ⊢
  have hl : lv_has ls 4 [(0, .ref (ad 0)), (1, .int x1), (2, .int x2), (3, .int x3)] := hl
  refine lv_iload_n K.1 K.2.1 dX8_paper_0 rfl (lv_at hl 1 rfl) ?_
  refine lv_i2l (v := x1.toInt64) K.1 K.2.1 dX8_paper_1 rfl ?_
  refine lv_lconst (v := (0 : Int64)) K.1 K.2.1 dX8_paper_2 rfl ?_
  refine lv_ldc2 K.1 K.2.1 K.2.2.2.1 (K.2.2.2.2.1 _ kl_X8_98) dX8_paper_3 ?_
  refine rk_si (As := [.long x1.toInt64, .long (0 : Int64), .long (5 : Int64)]) (rest := []) K hw (cc_X8_in l D cy ad A g0 _ (x1.toInt64) (0 : Int64) (5 : Int64) hd) lk_X8_67 ⟨Nat.le_of_ble_eq_true rfl, Nat.le_of_ble_eq_true rfl⟩ ⟨Nat.zero_le _, Nat.zero_le _⟩ rfl hl.1 (Nat.le_of_ble_eq_true rfl) rfl dX8_paper_6 (fun r_2 g_1 H locs hd hw => ?_)
  refine lv_if_eq (tgt := 38) K.1 K.2.1 dX8_paper_9 (by decide) (fun h_3 => ?_) (fun h_3 => ?_)
  · have hd := hd.1 h_3
    refine lv_bipush (v := (-2 : Int32)) K.1 K.2.1 dX8_paper_38 (by decide) ?_
    exact rk_iret K hw hr hd dX8_paper_40
  · have hd := hd.2 h_3
    refine lv_iload_n K.1 K.2.1 dX8_paper_12 rfl (lv_at hl 2 rfl) ?_
    refine lv_i2l (v := x2.toInt64) K.1 K.2.1 dX8_paper_13 rfl ?_
    refine lv_lconst (v := (0 : Int64)) K.1 K.2.1 dX8_paper_14 rfl ?_
    refine lv_ldc2 K.1 K.2.1 K.2.2.2.1 (K.2.2.2.2.1 _ kl_X8_100) dX8_paper_15 ?_
    refine rk_si (As := [.long x2.toInt64, .long (0 : Int64), .long (9 : Int64)]) (rest := []) K hw (cc_X8_in l D cy ad A g_1 _ (x2.toInt64) (0 : Int64) (9 : Int64) hd) lk_X8_67 ⟨Nat.le_of_ble_eq_true rfl, Nat.le_of_ble_eq_true rfl⟩ ⟨Nat.zero_le _, Nat.zero_le _⟩ rfl hl.1 (Nat.le_of_ble_eq_true rfl) rfl dX8_paper_18 (fun r_5 g_4 H locs hd hw => ?_)
    refine lv_if_eq (tgt := 38) K.1 K.2.1 dX8_paper_21 (by decide) (fun h_6 => ?_) (fun h_6 => ?_)
    · have hd := hd.1 h_6
      refine lv_bipush (v := (-2 : Int32)) K.1 K.2.1 dX8_paper_38 (by decide) ?_
      exact rk_iret K hw hr hd dX8_paper_40
    · have hd := hd.2 h_6
      refine lv_iload_n K.1 K.2.1 dX8_paper_24 rfl (lv_at hl 3 rfl) ?_
      refine lv_i2l (v := x3.toInt64) K.1 K.2.1 dX8_paper_25 rfl ?_
      refine lv_ldc2 K.1 K.2.1 K.2.2.2.1 (K.2.2.2.2.1 _ kl_X8_102) dX8_paper_26 ?_
      refine lv_ldc2 K.1 K.2.1 K.2.2.2.1 (K.2.2.2.2.1 _ kl_X8_100) dX8_paper_29 ?_
      refine rk_si (As := [.long x3.toInt64, .long (-9 : Int64), .long (9 : Int64)]) (rest := []) K hw (cc_X8_in l D cy ad A g_4 _ (x3.toInt64) (-9 : Int64) (9 : Int64) hd) lk_X8_67 ⟨Nat.le_of_ble_eq_true rfl, Nat.le_of_ble_eq_true rfl⟩ ⟨Nat.zero_le _, Nat.zero_le _⟩ rfl hl.1 (Nat.le_of_ble_eq_true rfl) rfl dX8_paper_32 (fun r_8 g_7 H locs hd hw => ?_)
      refine lv_if_ne (tgt := 41) K.1 K.2.1 dX8_paper_35 (by decide) (fun h_9 => ?_) (fun h_9 => ?_)
      · have hd := hd.1 h_9
        refine lv_aload_n K.1 K.2.1 dX8_paper_41 rfl (lv_at hl 0 rfl) ?_
        refine rm_get 11 K hw (by decide) kf_X8_64 rfl dX8_paper_42 ?_
        refine lv_bipush (v := (8 : Int32)) K.1 K.2.1 dX8_paper_45 (by decide) ?_
        refine lv_icmp_ne (tgt := 53) K.1 K.2.1 dX8_paper_47 (by decide) (fun h_10 => ?_) (fun h_10 => ?_)
        · have hd := hd.1 h_10
          refine lv_aload_n K.1 K.2.1 dX8_paper_53 rfl (lv_at hl 0 rfl) ?_
          refine rm_get 9 K hw (by decide) kf_X8_26 rfl dX8_paper_54 ?_
          refine lv_aload_n K.1 K.2.1 dX8_paper_57 rfl (lv_at hl 0 rfl) ?_
          refine rm_get 11 K hw (by decide) kf_X8_64 rfl dX8_paper_58 ?_
          refine lv_iload_n K.1 K.2.1 dX8_paper_61 rfl (lv_at hl 1 rfl) ?_
          have hb := hd.1
          have hd := hd.2
          refine rm_iast 4 K hw (by decide) hb dX8_paper_62 (fun g_11 eg_11 H locs hw => ?_)
          have hd := hd g_11 eg_11
          refine lv_aload_n K.1 K.2.1 dX8_paper_63 rfl (lv_at hl 0 rfl) ?_
          refine rm_get 10 K hw (by decide) kf_X8_29 rfl dX8_paper_64 ?_
          refine lv_iconst (v := (5 : Int32)) K.1 K.2.1 dX8_paper_67 (by decide) ?_
          refine lv_aload_n K.1 K.2.1 dX8_paper_68 rfl (lv_at hl 0 rfl) ?_
          refine rm_get 11 K hw (by decide) kf_X8_64 rfl dX8_paper_69 ?_
          refine lv_imul K.1 K.2.1 dX8_paper_72 ?_
          refine lv_iload_n K.1 K.2.1 dX8_paper_73 rfl (lv_at hl 2 rfl) ?_
          have hb := hd.1
          have hd := hd.2
          refine rm_iast 5 K hw (by decide) hb dX8_paper_74 (fun g_12 eg_12 H locs hw => ?_)
          have hd := hd g_12 eg_12
          refine lv_aload_n K.1 K.2.1 dX8_paper_75 rfl (lv_at hl 0 rfl) ?_
          refine rm_get 10 K hw (by decide) kf_X8_29 rfl dX8_paper_76 ?_
          refine lv_iconst (v := (5 : Int32)) K.1 K.2.1 dX8_paper_79 (by decide) ?_
          refine lv_aload_n K.1 K.2.1 dX8_paper_80 rfl (lv_at hl 0 rfl) ?_
          refine rm_get 11 K hw (by decide) kf_X8_64 rfl dX8_paper_81 ?_
          refine lv_imul K.1 K.2.1 dX8_paper_84 ?_
          refine lv_iconst (v := (1 : Int32)) K.1 K.2.1 dX8_paper_85 (by decide) ?_
          refine lv_iadd K.1 K.2.1 dX8_paper_86 ?_
          refine lv_iload_n K.1 K.2.1 dX8_paper_87 rfl (lv_at hl 3 rfl) ?_
          have hb := hd.1
          have hd := hd.2
          refine rm_iast 5 K hw (by decide) hb dX8_paper_88 (fun g_13 eg_13 H locs hw => ?_)
          have hd := hd g_13 eg_13
          refine lv_aload_n K.1 K.2.1 dX8_paper_89 rfl (lv_at hl 0 rfl) ?_
          refine rm_get 10 K hw (by decide) kf_X8_29 rfl dX8_paper_90 ?_
          refine lv_iconst (v := (5 : Int32)) K.1 K.2.1 dX8_paper_93 (by decide) ?_
          refine lv_aload_n K.1 K.2.1 dX8_paper_94 rfl (lv_at hl 0 rfl) ?_
          refine rm_get 11 K hw (by decide) kf_X8_64 rfl dX8_paper_95 ?_
          refine lv_imul K.1 K.2.1 dX8_paper_98 ?_
          refine lv_iconst (v := (2 : Int32)) K.1 K.2.1 dX8_paper_99 (by decide) ?_
          refine lv_iadd K.1 K.2.1 dX8_paper_100 ?_
          refine lv_iconst (v := (0 : Int32)) K.1 K.2.1 dX8_paper_101 (by decide) ?_
          have hb := hd.1
          have hd := hd.2
          refine rm_iast 5 K hw (by decide) hb dX8_paper_102 (fun g_14 eg_14 H locs hw => ?_)
          have hd := hd g_14 eg_14
          refine lv_aload_n K.1 K.2.1 dX8_paper_103 rfl (lv_at hl 0 rfl) ?_
          refine rm_get 10 K hw (by decide) kf_X8_29 rfl dX8_paper_104 ?_
          refine lv_iconst (v := (5 : Int32)) K.1 K.2.1 dX8_paper_107 (by decide) ?_
          refine lv_aload_n K.1 K.2.1 dX8_paper_108 rfl (lv_at hl 0 rfl) ?_
          refine rm_get 11 K hw (by decide) kf_X8_64 rfl dX8_paper_109 ?_
          refine lv_imul K.1 K.2.1 dX8_paper_112 ?_
          refine lv_iconst (v := (3 : Int32)) K.1 K.2.1 dX8_paper_113 (by decide) ?_
          refine lv_iadd K.1 K.2.1 dX8_paper_114 ?_
          refine lv_bipush (v := (50 : Int32)) K.1 K.2.1 dX8_paper_115 (by decide) ?_
          have hb := hd.1
          have hd := hd.2
          refine rm_iast 5 K hw (by decide) hb dX8_paper_117 (fun g_15 eg_15 H locs hw => ?_)
          have hd := hd g_15 eg_15
          refine lv_aload_n K.1 K.2.1 dX8_paper_118 rfl (lv_at hl 0 rfl) ?_
          refine rm_get 10 K hw (by decide) kf_X8_29 rfl dX8_paper_119 ?_
          refine lv_iconst (v := (5 : Int32)) K.1 K.2.1 dX8_paper_122 (by decide) ?_
          refine lv_aload_n K.1 K.2.1 dX8_paper_123 rfl (lv_at hl 0 rfl) ?_
          refine rm_get 11 K hw (by decide) kf_X8_64 rfl dX8_paper_124 ?_
          refine lv_imul K.1 K.2.1 dX8_paper_127 ?_
          refine lv_iconst (v := (4 : Int32)) K.1 K.2.1 dX8_paper_128 (by decide) ?_
          refine lv_iadd K.1 K.2.1 dX8_paper_129 ?_
          refine lv_iconst (v := (0 : Int32)) K.1 K.2.1 dX8_paper_130 (by decide) ?_
          have hb := hd.1
          have hd := hd.2
          refine rm_iast 5 K hw (by decide) hb dX8_paper_131 (fun g_16 eg_16 H locs hw => ?_)
          have hd := hd g_16 eg_16
          refine lv_aload_n K.1 K.2.1 dX8_paper_132 rfl (lv_at hl 0 rfl) ?_
          refine lv_dup K.1 K.2.1 dX8_paper_133 rfl ?_
          refine rm_get 11 K hw (by decide) kf_X8_64 rfl dX8_paper_134 ?_
          refine lv_iconst (v := (1 : Int32)) K.1 K.2.1 dX8_paper_137 (by decide) ?_
          refine lv_iadd K.1 K.2.1 dX8_paper_138 ?_
          refine rm_put 11 K hw (by decide) kf_X8_64 rfl rfl rfl rfl (fsM_11 ad g_16 _) dX8_paper_139 (fun g_17 eg_17 H locs hw => ?_)
          have hd := hd g_17 eg_17
          refine lv_aload_n K.1 K.2.1 dX8_paper_142 rfl (lv_at hl 0 rfl) ?_
          refine rm_get 11 K hw (by decide) kf_X8_64 rfl dX8_paper_143 ?_
          refine lv_iconst (v := (1 : Int32)) K.1 K.2.1 dX8_paper_146 (by decide) ?_
          refine lv_isub K.1 K.2.1 dX8_paper_147 ?_
          exact rk_iret K hw hr hd dX8_paper_148
        · have hd := hd.2 h_10
          refine lv_bipush (v := (-4 : Int32)) K.1 K.2.1 dX8_paper_50 (by decide) ?_
          exact rk_iret K hw hr hd dX8_paper_52
      · have hd := hd.2 h_9
        refine lv_bipush (v := (-2 : Int32)) K.1 K.2.1 dX8_paper_38 (by decide) ?_
        exact rk_iret K hw hr hd dX8_paper_40
theorem dX8_burn_0 : decode cX8_burn 0 = .ok (.iload_n 1, 1) := by decide +kernel
theorem dX8_burn_1 : decode cX8_burn 1 = .ok (.i2l, 1) := by decide +kernel
theorem dX8_burn_2 : decode cX8_burn 2 = .ok (.lconst 0, 1) := by decide +kernel
theorem dX8_burn_3 : decode cX8_burn 3 = .ok (.ldc2_w 127, 3) := by decide +kernel
theorem dX8_burn_6 : decode cX8_burn 6 = .ok (.invokestatic 67, 3) := by decide +kernel
theorem dX8_burn_9 : decode cX8_burn 9 = .ok (.ifCond .ne 6, 3) := by decide +kernel
theorem dX8_burn_12 : decode cX8_burn 12 = .ok (.bipush (-2), 2) := by decide +kernel
theorem dX8_burn_14 : decode cX8_burn 14 = .ok (.ireturn, 1) := by decide +kernel
theorem dX8_burn_15 : decode cX8_burn 15 = .ok (.iconst 0, 1) := by decide +kernel
theorem dX8_burn_16 : decode cX8_burn 16 = .ok (.istore_n 2, 1) := by decide +kernel
theorem dX8_burn_17 : decode cX8_burn 17 = .ok (.iconst 0, 1) := by decide +kernel
theorem dX8_burn_18 : decode cX8_burn 18 = .ok (.istore_n 3, 1) := by decide +kernel
theorem dX8_burn_19 : decode cX8_burn 19 = .ok (.iload_n 3, 1) := by decide +kernel
theorem dX8_burn_20 : decode cX8_burn 20 = .ok (.aload_n 0, 1) := by decide +kernel
theorem dX8_burn_21 : decode cX8_burn 21 = .ok (.getfield 64, 3) := by decide +kernel
theorem dX8_burn_24 : decode cX8_burn 24 = .ok (.if_icmp .ge 50, 3) := by decide +kernel
theorem dX8_burn_27 : decode cX8_burn 27 = .ok (.aload_n 0, 1) := by decide +kernel
theorem dX8_burn_28 : decode cX8_burn 28 = .ok (.getfield 29, 3) := by decide +kernel
theorem dX8_burn_31 : decode cX8_burn 31 = .ok (.iconst 5, 1) := by decide +kernel
theorem dX8_burn_32 : decode cX8_burn 32 = .ok (.iload_n 3, 1) := by decide +kernel
theorem dX8_burn_33 : decode cX8_burn 33 = .ok (.imul, 1) := by decide +kernel
theorem dX8_burn_34 : decode cX8_burn 34 = .ok (.iconst 2, 1) := by decide +kernel
theorem dX8_burn_35 : decode cX8_burn 35 = .ok (.iadd, 1) := by decide +kernel
theorem dX8_burn_36 : decode cX8_burn 36 = .ok (.iaload, 1) := by decide +kernel
theorem dX8_burn_37 : decode cX8_burn 37 = .ok (.iload_n 1, 1) := by decide +kernel
theorem dX8_burn_38 : decode cX8_burn 38 = .ok (.if_icmp .ne 30, 3) := by decide +kernel
theorem dX8_burn_41 : decode cX8_burn 41 = .ok (.iload_n 2, 1) := by decide +kernel
theorem dX8_burn_42 : decode cX8_burn 42 = .ok (.aload_n 0, 1) := by decide +kernel
theorem dX8_burn_43 : decode cX8_burn 43 = .ok (.iload_n 3, 1) := by decide +kernel
theorem dX8_burn_44 : decode cX8_burn 44 = .ok (.invokevirtual 115, 3) := by decide +kernel
theorem dX8_burn_47 : decode cX8_burn 47 = .ok (.ifCond .eq 7, 3) := by decide +kernel
theorem dX8_burn_50 : decode cX8_burn 50 = .ok (.iconst 1, 1) := by decide +kernel
theorem dX8_burn_51 : decode cX8_burn 51 = .ok (.goto 4, 3) := by decide +kernel
theorem dX8_burn_54 : decode cX8_burn 54 = .ok (.iconst 0, 1) := by decide +kernel
theorem dX8_burn_55 : decode cX8_burn 55 = .ok (.iadd, 1) := by decide +kernel
theorem dX8_burn_56 : decode cX8_burn 56 = .ok (.istore_n 2, 1) := by decide +kernel
theorem dX8_burn_57 : decode cX8_burn 57 = .ok (.aload_n 0, 1) := by decide +kernel
theorem dX8_burn_58 : decode cX8_burn 58 = .ok (.getfield 29, 3) := by decide +kernel
theorem dX8_burn_61 : decode cX8_burn 61 = .ok (.iconst 5, 1) := by decide +kernel
theorem dX8_burn_62 : decode cX8_burn 62 = .ok (.iload_n 3, 1) := by decide +kernel
theorem dX8_burn_63 : decode cX8_burn 63 = .ok (.imul, 1) := by decide +kernel
theorem dX8_burn_64 : decode cX8_burn 64 = .ok (.iconst 4, 1) := by decide +kernel
theorem dX8_burn_65 : decode cX8_burn 65 = .ok (.iadd, 1) := by decide +kernel
theorem dX8_burn_66 : decode cX8_burn 66 = .ok (.iconst 1, 1) := by decide +kernel
theorem dX8_burn_67 : decode cX8_burn 67 = .ok (.iastore, 1) := by decide +kernel
theorem dX8_burn_68 : decode cX8_burn 68 = .ok (.iinc 3 1, 3) := by decide +kernel
theorem dX8_burn_71 : decode cX8_burn 71 = .ok (.goto (-52), 3) := by decide +kernel
theorem dX8_burn_74 : decode cX8_burn 74 = .ok (.iload_n 2, 1) := by decide +kernel
theorem dX8_burn_75 : decode cX8_burn 75 = .ok (.ireturn, 1) := by decide +kernel
set_option maxHeartbeats 4000000 in
set_option maxRecDepth 100000 in
theorem bb_X8_burn_68 {p : Program} {l : Launch} {e : Env} {s : State} {m : MethodId} {args : Array Value} {below : List Frame} {meth : Method} {c : Code} {D : va_G} {cy : Nat → ClassId} {ad : Nat → Nat} {A : Nat → Prop} {Q : Int32 → Sg → Prop} (K : Kx p s m args meth c cX8_burn 4 RX8 D cy) (hr : meth.sig.returnType = (some .int)) {rc19 : Int32 → Int32 → Int32 → Sg → Prop} (hrc19 : ∀ (x1 : Int32) (x2 : Int32) (x3 : Int32) (u : Sg) (H : Heap) (locs : List Loc) (ls : Array Slot), rc19 x1 x2 x3 u → Wd D A s.heap (wsM cy ad u) H locs → lv_has ls 4 [(0, .ref (ad 0)), (1, .int x1), (2, .int x2), (3, .int x3)] → W p l e (rmD 1) s m args below meth c H locs 0 0 (MQ below (va_Qi Q (PostG (wsM cy ad) D A) A) args s 0 0 A) (F0 m 19 ls [])) (x1 : Int32) (x2 : Int32) (x3 : Int32)  (g0 : Sg) (H : Heap) (locs : List Loc) (ls : Array Slot) (hd : vv_X8_burn_J68 rc19 x1 x2 x3 g0 Q) (hw : Wd D A s.heap (wsM cy ad g0) H locs) (hl : lv_has ls 4 [(0, .ref (ad 0)), (1, .int x1), (2, .int x2), (3, .int x3)]) : W p l e (rmD 1) s m args below meth c H locs 0 0 (MQ below (va_Qi Q (PostG (wsM cy ad) D A) A) args s 0 0 A) (F0 m 68 ls []) := by
  unfold vv_X8_burn_J68 at hd
  obtain ⟨x3_8, ex3_8⟩ : ∃ y : Int32, y = x3 + (1 : Int32) := ⟨_, rfl⟩
  have hd := hd x3_8 ex3_8
  refine lv_iinc (v := x3_8) (lv' := [(3, .int x3_8), (0, .ref (ad 0)), (1, .int x1), (2, .int x2)]) K.1 K.2.1 dX8_burn_68 hl (k := 3) rfl (by rw [ex3_8]; rfl) (by decide) rfl (fun ls hl => ?_)
  refine lv_goto (tgt := 19) K.1 K.2.1 dX8_burn_71 (by decide) ?_
  exact hrc19 x1 x2 x3_8 g0 _ _ _ hd hw (lv_sub hl [1, 2, 3, 0] rfl)
set_option maxHeartbeats 4000000 in
set_option maxRecDepth 100000 in
theorem bb_X8_burn_55 {p : Program} {l : Launch} {e : Env} {s : State} {m : MethodId} {args : Array Value} {below : List Frame} {meth : Method} {c : Code} {D : va_G} {cy : Nat → ClassId} {ad : Nat → Nat} {A : Nat → Prop} {Q : Int32 → Sg → Prop} (K : Kx p s m args meth c cX8_burn 4 RX8 D cy) (hr : meth.sig.returnType = (some .int)) {rc19 : Int32 → Int32 → Int32 → Sg → Prop} (hrc19 : ∀ (x1 : Int32) (x2 : Int32) (x3 : Int32) (u : Sg) (H : Heap) (locs : List Loc) (ls : Array Slot), rc19 x1 x2 x3 u → Wd D A s.heap (wsM cy ad u) H locs → lv_has ls 4 [(0, .ref (ad 0)), (1, .int x1), (2, .int x2), (3, .int x3)] → W p l e (rmD 1) s m args below meth c H locs 0 0 (MQ below (va_Qi Q (PostG (wsM cy ad) D A) A) args s 0 0 A) (F0 m 19 ls [])) (x1 : Int32) (x3 : Int32) (t0 : Int32) (t1 : Int32) (g0 : Sg) (H : Heap) (locs : List Loc) (ls : Array Slot) (hd : vv_X8_burn_J55 rc19 x1 x3 t0 t1 g0 Q) (hw : Wd D A s.heap (wsM cy ad g0) H locs) (hl : lv_has ls 4 [(0, .ref (ad 0)), (1, .int x1), (3, .int x3)]) : W p l e (rmD 1) s m args below meth c H locs 0 0 (MQ below (va_Qi Q (PostG (wsM cy ad) D A) A) args s 0 0 A) (F0 m 55 ls [.int t1, .int t0]) := by
  unfold vv_X8_burn_J55 at hd
  refine lv_iadd K.1 K.2.1 dX8_burn_55 ?_
  refine lv_topi (fun x2_12 ex2_12 => ?_)
  have hd := hd x2_12 ex2_12
  refine lv_istore_n (lv' := [(2, .int x2_12), (0, .ref (ad 0)), (1, .int x1), (3, .int x3)]) K.1 K.2.1 dX8_burn_56 rfl hl (by decide) rfl (fun ls hl => ?_)
  refine lv_aload_n K.1 K.2.1 dX8_burn_57 rfl (lv_at hl 1 rfl) ?_
  refine rm_get 10 K hw (by decide) kf_X8_29 rfl dX8_burn_58 ?_
  refine lv_iconst (v := (5 : Int32)) K.1 K.2.1 dX8_burn_61 (by decide) ?_
  refine lv_iload_n K.1 K.2.1 dX8_burn_62 rfl (lv_at hl 3 rfl) ?_
  refine lv_imul K.1 K.2.1 dX8_burn_63 ?_
  refine lv_iconst (v := (4 : Int32)) K.1 K.2.1 dX8_burn_64 (by decide) ?_
  refine lv_iadd K.1 K.2.1 dX8_burn_65 ?_
  refine lv_iconst (v := (1 : Int32)) K.1 K.2.1 dX8_burn_66 (by decide) ?_
  have hb := hd.1
  have hd := hd.2
  refine rm_iast 5 K hw (by decide) hb dX8_burn_67 (fun g_13 eg_13 H locs hw => ?_)
  have hd := hd g_13 eg_13
  exact bb_X8_burn_68 K hr hrc19 x1 x2_12 x3 g_13 _ _ _ hd hw (lv_sub hl [1, 2, 0, 3] rfl)
set_option maxHeartbeats 4000000 in
set_option maxRecDepth 100000 in
theorem bb_X8_burn_19 {p : Program} {l : Launch} {e : Env} {s : State} {m : MethodId} {args : Array Value} {below : List Frame} {meth : Method} {c : Code} {D : va_G} {cy : Nat → ClassId} {ad : Nat → Nat} {A : Nat → Prop} {Q : Int32 → Sg → Prop} (K : Kx p s m args meth c cX8_burn 4 RX8 D cy) (hr : meth.sig.returnType = (some .int)) : ∀ (n : Nat) (x1 : Int32) (x2 : Int32) (x3 : Int32)  (g0 : Sg) (H : Heap) (locs : List Loc) (ls : Array Slot), vv_X8_burn_L19 Q n x1 x2 x3 g0 → Wd D A s.heap (wsM cy ad g0) H locs → lv_has ls 4 [(0, .ref (ad 0)), (1, .int x1), (2, .int x2), (3, .int x3)] → W p l e (rmD 1) s m args below meth c H locs 0 0 (MQ below (va_Qi Q (PostG (wsM cy ad) D A) A) args s 0 0 A) (F0 m 19 ls []) := by
  intro n
  induction n with
  | zero => intro _ _ _ _ _ _ _ hd; exact hd.elim
  | succ n ih =>
    intro x1 x2 x3 g0 H locs ls hd hw hl
    unfold vv_X8_burn_L19 at hd
    refine lv_iload_n K.1 K.2.1 dX8_burn_19 rfl (lv_at hl 3 rfl) ?_
    refine lv_aload_n K.1 K.2.1 dX8_burn_20 rfl (lv_at hl 0 rfl) ?_
    refine rm_get 11 K hw (by decide) kf_X8_64 rfl dX8_burn_21 ?_
    refine lv_icmp_ge (tgt := 74) K.1 K.2.1 dX8_burn_24 (by decide) (fun h_6 => ?_) (fun h_6 => ?_)
    · have hd := hd.1 h_6
      refine lv_iload_n K.1 K.2.1 dX8_burn_74 rfl (lv_at hl 2 rfl) ?_
      exact rk_iret K hw hr hd dX8_burn_75
    · have hd := hd.2 h_6
      refine lv_aload_n K.1 K.2.1 dX8_burn_27 rfl (lv_at hl 0 rfl) ?_
      refine rm_get 10 K hw (by decide) kf_X8_29 rfl dX8_burn_28 ?_
      refine lv_iconst (v := (5 : Int32)) K.1 K.2.1 dX8_burn_31 (by decide) ?_
      refine lv_iload_n K.1 K.2.1 dX8_burn_32 rfl (lv_at hl 3 rfl) ?_
      refine lv_imul K.1 K.2.1 dX8_burn_33 ?_
      refine lv_iconst (v := (2 : Int32)) K.1 K.2.1 dX8_burn_34 (by decide) ?_
      refine lv_iadd K.1 K.2.1 dX8_burn_35 ?_
      have hb := hd.1
      have hd := hd.2
      refine rm_iald 5 K hw (by decide) hb dX8_burn_36 ?_
      refine lv_iload_n K.1 K.2.1 dX8_burn_37 rfl (lv_at hl 1 rfl) ?_
      refine lv_icmp_ne (tgt := 68) K.1 K.2.1 dX8_burn_38 (by decide) (fun h_7 => ?_) (fun h_7 => ?_)
      · have hd := hd.1 h_7
        exact bb_X8_burn_68 K hr ih x1 x2 x3 g0 _ _ _ hd hw (lv_sub hl [0, 1, 2, 3] rfl)
      · have hd := hd.2 h_7
        refine lv_iload_n K.1 K.2.1 dX8_burn_41 rfl (lv_at hl 2 rfl) ?_
        refine lv_aload_n K.1 K.2.1 dX8_burn_42 rfl (lv_at hl 0 rfl) ?_
        refine lv_iload_n K.1 K.2.1 dX8_burn_43 rfl (lv_at hl 3 rfl) ?_
        refine rk_vi (As := [.int x3]) (rest := [.int x2]) K hw (cc_X8_isWhole l D cy ad A g0 _ x3 hd) lk_X8_115 (ci := 8) rfl (q0 := 0) (wsM_at cy ad _ (by decide)) ⟨Nat.le_of_ble_eq_true rfl, Nat.le_of_ble_eq_true rfl⟩ ⟨Nat.zero_le _, Nat.zero_le _⟩ rfl hl.1 (Nat.le_of_ble_eq_true rfl) rfl dX8_burn_44 (fun r_10 g_9 H locs hd hw => ?_)
        refine lv_if_eq (tgt := 54) K.1 K.2.1 dX8_burn_47 (by decide) (fun h_11 => ?_) (fun h_11 => ?_)
        · have hd := hd.1 h_11
          refine lv_iconst (v := (0 : Int32)) K.1 K.2.1 dX8_burn_54 (by decide) ?_
          exact bb_X8_burn_55 K hr ih x1 x3 x2 (0 : Int32) g_9 _ _ _ hd hw (lv_sub hl [0, 1, 3] rfl)
        · have hd := hd.2 h_11
          refine lv_iconst (v := (1 : Int32)) K.1 K.2.1 dX8_burn_50 (by decide) ?_
          refine lv_goto (tgt := 55) K.1 K.2.1 dX8_burn_51 (by decide) ?_
          exact bb_X8_burn_55 K hr ih x1 x3 x2 (1 : Int32) g_9 _ _ _ hd hw (lv_sub hl [0, 1, 3] rfl)
set_option maxHeartbeats 4000000 in
set_option maxRecDepth 100000 in
theorem cc_X8_burn (l : Launch) (D : va_G) (cy : Nat → ClassId) (ad : Nat → Nat) (A : Nat → Prop) (g0 : Sg) (Q : Int32 → Sg → Prop) (x1 : Int32) (hd : vv_X8_burn x1 g0 Q) : Met l yX8_burn (Cond.code yX8_burn cX8_burn 4 (some .int) :: TT) (rmD 1) (va_Pc [.ref (ad 0), .int x1] (PreG (wsM cy ad) D cy A g0)) (va_Qi Q (PostG (wsM cy ad) D A) A) 0 0 A := by
  unfold vv_X8_burn at hd
  refine Met.ofW (cc := cX8_burn) (maxL := 4) (ret := (some .int)) (by decide) rfl ?_
  intro p e s m args below meth c s₁ B hml hv
  obtain ⟨rfl, hP, hK0, hD⟩ := hv
  have K : Kx p s m _ meth c cX8_burn 4 RX8 D cy := ⟨B.exec, B.bytes, hml, findClass_of_methodNamed B.named, fun w h => atoms_spec (ws := Cond.code yX8_burn cX8_burn 4 (some .int) :: TT) B.pre w (List.mem_cons_of_mem _ h), hK0, B.notSynchronized⟩
  have hw : Wd D A s.heap (wsM cy ad g0) s.heap [] := ⟨hP, hD, va_S.rf⟩
  have hr := B.returns
  have hl := lv_entry ([.ref (ad 0), .int x1]) (n := 4) (Nat.le_of_ble_eq_true rfl)
  rw [lg_entry_eq]
  generalize (lg_sl ([.ref (ad 0), .int x1]) ++ List.replicate (4 - (lg_sl ([.ref (ad 0), .int x1])).length) Slot.unset).toArray = ls at hl ⊢
  have hl : lv_has ls 4 [(0, .ref (ad 0)), (1, .int x1)] := hl
  refine lv_iload_n K.1 K.2.1 dX8_burn_0 rfl (lv_at hl 1 rfl) ?_
  refine lv_i2l (v := x1.toInt64) K.1 K.2.1 dX8_burn_1 rfl ?_
  refine lv_lconst (v := (0 : Int64)) K.1 K.2.1 dX8_burn_2 rfl ?_
  refine lv_ldc2 K.1 K.2.1 K.2.2.2.1 (K.2.2.2.2.1 _ kl_X8_127) dX8_burn_3 ?_
  refine rk_si (As := [.long x1.toInt64, .long (0 : Int64), .long (3 : Int64)]) (rest := []) K hw (cc_X8_in l D cy ad A g0 _ (x1.toInt64) (0 : Int64) (3 : Int64) hd) lk_X8_67 ⟨Nat.le_of_ble_eq_true rfl, Nat.le_of_ble_eq_true rfl⟩ ⟨Nat.zero_le _, Nat.zero_le _⟩ rfl hl.1 (Nat.le_of_ble_eq_true rfl) rfl dX8_burn_6 (fun r_2 g_1 H locs hd hw => ?_)
  refine lv_if_ne (tgt := 15) K.1 K.2.1 dX8_burn_9 (by decide) (fun h_3 => ?_) (fun h_3 => ?_)
  · have hd := hd.1 h_3
    refine lv_iconst (v := (0 : Int32)) K.1 K.2.1 dX8_burn_15 (by decide) ?_
    refine lv_topi (fun x2_4 ex2_4 => ?_)
    have hd := hd x2_4 ex2_4
    refine lv_istore_n (lv' := [(2, .int x2_4), (0, .ref (ad 0)), (1, .int x1)]) K.1 K.2.1 dX8_burn_16 rfl hl (by decide) rfl (fun ls hl => ?_)
    refine lv_iconst (v := (0 : Int32)) K.1 K.2.1 dX8_burn_17 (by decide) ?_
    refine lv_topi (fun x3_5 ex3_5 => ?_)
    have hd := hd x3_5 ex3_5
    refine lv_istore_n (lv' := [(3, .int x3_5), (2, .int x2_4), (0, .ref (ad 0)), (1, .int x1)]) K.1 K.2.1 dX8_burn_18 rfl hl (by decide) rfl (fun ls hl => ?_)
    obtain ⟨n9, hd⟩ := hd
    exact bb_X8_burn_19 K hr  n9 x1 x2_4 x3_5 g_1 _ _ _ hd hw (lv_sub hl [2, 3, 1, 0] rfl)
  · have hd := hd.2 h_3
    refine lv_bipush (v := (-2 : Int32)) K.1 K.2.1 dX8_burn_12 (by decide) ?_
    exact rk_iret K hw hr hd dX8_burn_14
theorem dX8_feed_0 : decode cX8_feed 0 = .ok (.iload_n 1, 1) := by decide +kernel
theorem dX8_feed_1 : decode cX8_feed 1 = .ok (.i2l, 1) := by decide +kernel
theorem dX8_feed_2 : decode cX8_feed 2 = .ok (.lconst 0, 1) := by decide +kernel
theorem dX8_feed_3 : decode cX8_feed 3 = .ok (.ldc2_w 129, 3) := by decide +kernel
theorem dX8_feed_6 : decode cX8_feed 6 = .ok (.invokestatic 67, 3) := by decide +kernel
theorem dX8_feed_9 : decode cX8_feed 9 = .ok (.ifCond .ne 6, 3) := by decide +kernel
theorem dX8_feed_12 : decode cX8_feed 12 = .ok (.bipush (-2), 2) := by decide +kernel
theorem dX8_feed_14 : decode cX8_feed 14 = .ok (.ireturn, 1) := by decide +kernel
theorem dX8_feed_15 : decode cX8_feed 15 = .ok (.aload_n 0, 1) := by decide +kernel
theorem dX8_feed_16 : decode cX8_feed 16 = .ok (.getfield 131, 3) := by decide +kernel
theorem dX8_feed_19 : decode cX8_feed 19 = .ok (.sipush 160, 3) := by decide +kernel
theorem dX8_feed_22 : decode cX8_feed 22 = .ok (.if_icmp .ne 6, 3) := by decide +kernel
theorem dX8_feed_25 : decode cX8_feed 25 = .ok (.bipush (-4), 2) := by decide +kernel
theorem dX8_feed_27 : decode cX8_feed 27 = .ok (.ireturn, 1) := by decide +kernel
theorem dX8_feed_28 : decode cX8_feed 28 = .ok (.aload_n 0, 1) := by decide +kernel
theorem dX8_feed_29 : decode cX8_feed 29 = .ok (.getfield 20, 3) := by decide +kernel
theorem dX8_feed_32 : decode cX8_feed 32 = .ok (.aload_n 0, 1) := by decide +kernel
theorem dX8_feed_33 : decode cX8_feed 33 = .ok (.getfield 131, 3) := by decide +kernel
theorem dX8_feed_36 : decode cX8_feed 36 = .ok (.iload_n 1, 1) := by decide +kernel
theorem dX8_feed_37 : decode cX8_feed 37 = .ok (.iastore, 1) := by decide +kernel
theorem dX8_feed_38 : decode cX8_feed 38 = .ok (.aload_n 0, 1) := by decide +kernel
theorem dX8_feed_39 : decode cX8_feed 39 = .ok (.dup, 1) := by decide +kernel
theorem dX8_feed_40 : decode cX8_feed 40 = .ok (.getfield 131, 3) := by decide +kernel
theorem dX8_feed_43 : decode cX8_feed 43 = .ok (.iconst 1, 1) := by decide +kernel
theorem dX8_feed_44 : decode cX8_feed 44 = .ok (.iadd, 1) := by decide +kernel
theorem dX8_feed_45 : decode cX8_feed 45 = .ok (.putfield 131, 3) := by decide +kernel
theorem dX8_feed_48 : decode cX8_feed 48 = .ok (.aload_n 0, 1) := by decide +kernel
theorem dX8_feed_49 : decode cX8_feed 49 = .ok (.getfield 131, 3) := by decide +kernel
theorem dX8_feed_52 : decode cX8_feed 52 = .ok (.ireturn, 1) := by decide +kernel
set_option maxHeartbeats 4000000 in
set_option maxRecDepth 100000 in
theorem cc_X8_feed (l : Launch) (D : va_G) (cy : Nat → ClassId) (ad : Nat → Nat) (A : Nat → Prop) (g0 : Sg) (Q : Int32 → Sg → Prop) (x1 : Int32) (hd : vv_X8_feed x1 g0 Q) : Met l yX8_feed (Cond.code yX8_feed cX8_feed 2 (some .int) :: TT) (rmD 1) (va_Pc [.ref (ad 0), .int x1] (PreG (wsM cy ad) D cy A g0)) (va_Qi Q (PostG (wsM cy ad) D A) A) 0 0 A := by
  unfold vv_X8_feed at hd
  refine Met.ofW (cc := cX8_feed) (maxL := 2) (ret := (some .int)) (by decide) rfl ?_
  intro p e s m args below meth c s₁ B hml hv
  obtain ⟨rfl, hP, hK0, hD⟩ := hv
  have K : Kx p s m _ meth c cX8_feed 2 RX8 D cy := ⟨B.exec, B.bytes, hml, findClass_of_methodNamed B.named, fun w h => atoms_spec (ws := Cond.code yX8_feed cX8_feed 2 (some .int) :: TT) B.pre w (List.mem_cons_of_mem _ h), hK0, B.notSynchronized⟩
  have hw : Wd D A s.heap (wsM cy ad g0) s.heap [] := ⟨hP, hD, va_S.rf⟩
  have hr := B.returns
  have hl := lv_entry ([.ref (ad 0), .int x1]) (n := 2) (Nat.le_of_ble_eq_true rfl)
  rw [lg_entry_eq]
  generalize (lg_sl ([.ref (ad 0), .int x1]) ++ List.replicate (2 - (lg_sl ([.ref (ad 0), .int x1])).length) Slot.unset).toArray = ls at hl ⊢
  have hl : lv_has ls 2 [(0, .ref (ad 0)), (1, .int x1)] := hl
  refine lv_iload_n K.1 K.2.1 dX8_feed_0 rfl (lv_at hl 1 rfl) ?_
  refine lv_i2l (v := x1.toInt64) K.1 K.2.1 dX8_feed_1 rfl ?_
  refine lv_lconst (v := (0 : Int64)) K.1 K.2.1 dX8_feed_2 rfl ?_
  refine lv_ldc2 K.1 K.2.1 K.2.2.2.1 (K.2.2.2.2.1 _ kl_X8_129) dX8_feed_3 ?_
  refine rk_si (As := [.long x1.toInt64, .long (0 : Int64), .long (255 : Int64)]) (rest := []) K hw (cc_X8_in l D cy ad A g0 _ (x1.toInt64) (0 : Int64) (255 : Int64) hd) lk_X8_67 ⟨Nat.le_of_ble_eq_true rfl, Nat.le_of_ble_eq_true rfl⟩ ⟨Nat.zero_le _, Nat.zero_le _⟩ rfl hl.1 (Nat.le_of_ble_eq_true rfl) rfl dX8_feed_6 (fun r_2 g_1 H locs hd hw => ?_)
  refine lv_if_ne (tgt := 15) K.1 K.2.1 dX8_feed_9 (by decide) (fun h_3 => ?_) (fun h_3 => ?_)
  · have hd := hd.1 h_3
    refine lv_aload_n K.1 K.2.1 dX8_feed_15 rfl (lv_at hl 0 rfl) ?_
    refine rm_get 6 K hw (by decide) kf_X8_131 rfl dX8_feed_16 ?_
    refine lv_sipush (v := (160 : Int32)) K.1 K.2.1 dX8_feed_19 (by decide) ?_
    refine lv_icmp_ne (tgt := 28) K.1 K.2.1 dX8_feed_22 (by decide) (fun h_4 => ?_) (fun h_4 => ?_)
    · have hd := hd.1 h_4
      refine lv_aload_n K.1 K.2.1 dX8_feed_28 rfl (lv_at hl 0 rfl) ?_
      refine rm_get 5 K hw (by decide) kf_X8_20 rfl dX8_feed_29 ?_
      refine lv_aload_n K.1 K.2.1 dX8_feed_32 rfl (lv_at hl 0 rfl) ?_
      refine rm_get 6 K hw (by decide) kf_X8_131 rfl dX8_feed_33 ?_
      refine lv_iload_n K.1 K.2.1 dX8_feed_36 rfl (lv_at hl 1 rfl) ?_
      have hb := hd.1
      have hd := hd.2
      refine rm_iast 3 K hw (by decide) hb dX8_feed_37 (fun g_5 eg_5 H locs hw => ?_)
      have hd := hd g_5 eg_5
      refine lv_aload_n K.1 K.2.1 dX8_feed_38 rfl (lv_at hl 0 rfl) ?_
      refine lv_dup K.1 K.2.1 dX8_feed_39 rfl ?_
      refine rm_get 6 K hw (by decide) kf_X8_131 rfl dX8_feed_40 ?_
      refine lv_iconst (v := (1 : Int32)) K.1 K.2.1 dX8_feed_43 (by decide) ?_
      refine lv_iadd K.1 K.2.1 dX8_feed_44 ?_
      refine rm_put 6 K hw (by decide) kf_X8_131 rfl rfl rfl rfl (fsM_6 ad g_5 _) dX8_feed_45 (fun g_6 eg_6 H locs hw => ?_)
      have hd := hd g_6 eg_6
      refine lv_aload_n K.1 K.2.1 dX8_feed_48 rfl (lv_at hl 0 rfl) ?_
      refine rm_get 6 K hw (by decide) kf_X8_131 rfl dX8_feed_49 ?_
      exact rk_iret K hw hr hd dX8_feed_52
    · have hd := hd.2 h_4
      refine lv_bipush (v := (-4 : Int32)) K.1 K.2.1 dX8_feed_25 (by decide) ?_
      exact rk_iret K hw hr hd dX8_feed_27
  · have hd := hd.2 h_3
    refine lv_bipush (v := (-2 : Int32)) K.1 K.2.1 dX8_feed_12 (by decide) ?_
    exact rk_iret K hw hr hd dX8_feed_14
theorem dX8_text_0 : decode cX8_text 0 = .ok (.aload_n 0, 1) := by decide +kernel
theorem dX8_text_1 : decode cX8_text 1 = .ok (.getfield 61, 3) := by decide +kernel
theorem dX8_text_4 : decode cX8_text 4 = .ok (.bipush 6, 2) := by decide +kernel
theorem dX8_text_6 : decode cX8_text 6 = .ok (.if_icmp .ne 6, 3) := by decide +kernel
theorem dX8_text_9 : decode cX8_text 9 = .ok (.bipush (-4), 2) := by decide +kernel
theorem dX8_text_11 : decode cX8_text 11 = .ok (.ireturn, 1) := by decide +kernel
theorem dX8_text_12 : decode cX8_text 12 = .ok (.iconst 0, 1) := by decide +kernel
theorem dX8_text_13 : decode cX8_text 13 = .ok (.istore_n 1, 1) := by decide +kernel
theorem dX8_text_14 : decode cX8_text 14 = .ok (.iload_n 1, 1) := by decide +kernel
theorem dX8_text_15 : decode cX8_text 15 = .ok (.aload_n 0, 1) := by decide +kernel
theorem dX8_text_16 : decode cX8_text 16 = .ok (.getfield 131, 3) := by decide +kernel
theorem dX8_text_19 : decode cX8_text 19 = .ok (.if_icmp .ge 30, 3) := by decide +kernel
theorem dX8_text_22 : decode cX8_text 22 = .ok (.aload_n 0, 1) := by decide +kernel
theorem dX8_text_23 : decode cX8_text 23 = .ok (.getfield 13, 3) := by decide +kernel
theorem dX8_text_26 : decode cX8_text 26 = .ok (.sipush 160, 3) := by decide +kernel
theorem dX8_text_29 : decode cX8_text 29 = .ok (.aload_n 0, 1) := by decide +kernel
theorem dX8_text_30 : decode cX8_text 30 = .ok (.getfield 61, 3) := by decide +kernel
theorem dX8_text_33 : decode cX8_text 33 = .ok (.imul, 1) := by decide +kernel
theorem dX8_text_34 : decode cX8_text 34 = .ok (.iload_n 1, 1) := by decide +kernel
theorem dX8_text_35 : decode cX8_text 35 = .ok (.iadd, 1) := by decide +kernel
theorem dX8_text_36 : decode cX8_text 36 = .ok (.aload_n 0, 1) := by decide +kernel
theorem dX8_text_37 : decode cX8_text 37 = .ok (.getfield 20, 3) := by decide +kernel
theorem dX8_text_40 : decode cX8_text 40 = .ok (.iload_n 1, 1) := by decide +kernel
theorem dX8_text_41 : decode cX8_text 41 = .ok (.iaload, 1) := by decide +kernel
theorem dX8_text_42 : decode cX8_text 42 = .ok (.iastore, 1) := by decide +kernel
theorem dX8_text_43 : decode cX8_text 43 = .ok (.iinc 1 1, 3) := by decide +kernel
theorem dX8_text_46 : decode cX8_text 46 = .ok (.goto (-32), 3) := by decide +kernel
theorem dX8_text_49 : decode cX8_text 49 = .ok (.aload_n 0, 1) := by decide +kernel
theorem dX8_text_50 : decode cX8_text 50 = .ok (.getfield 17, 3) := by decide +kernel
theorem dX8_text_53 : decode cX8_text 53 = .ok (.aload_n 0, 1) := by decide +kernel
theorem dX8_text_54 : decode cX8_text 54 = .ok (.getfield 61, 3) := by decide +kernel
theorem dX8_text_57 : decode cX8_text 57 = .ok (.aload_n 0, 1) := by decide +kernel
theorem dX8_text_58 : decode cX8_text 58 = .ok (.getfield 131, 3) := by decide +kernel
theorem dX8_text_61 : decode cX8_text 61 = .ok (.iastore, 1) := by decide +kernel
theorem dX8_text_62 : decode cX8_text 62 = .ok (.aload_n 0, 1) := by decide +kernel
theorem dX8_text_63 : decode cX8_text 63 = .ok (.iconst 0, 1) := by decide +kernel
theorem dX8_text_64 : decode cX8_text 64 = .ok (.putfield 131, 3) := by decide +kernel
theorem dX8_text_67 : decode cX8_text 67 = .ok (.aload_n 0, 1) := by decide +kernel
theorem dX8_text_68 : decode cX8_text 68 = .ok (.aload_n 0, 1) := by decide +kernel
theorem dX8_text_69 : decode cX8_text 69 = .ok (.getfield 61, 3) := by decide +kernel
theorem dX8_text_72 : decode cX8_text 72 = .ok (.iconst 0, 1) := by decide +kernel
theorem dX8_text_73 : decode cX8_text 73 = .ok (.invokevirtual 333, 3) := by decide +kernel
theorem dX8_text_76 : decode cX8_text 76 = .ok (.istore_n 1, 1) := by decide +kernel
theorem dX8_text_77 : decode cX8_text 77 = .ok (.aload_n 0, 1) := by decide +kernel
theorem dX8_text_78 : decode cX8_text 78 = .ok (.getfield 164, 3) := by decide +kernel
theorem dX8_text_81 : decode cX8_text 81 = .ok (.ifCond .eq 11, 3) := by decide +kernel
theorem dX8_text_84 : decode cX8_text 84 = .ok (.bipush (-100), 2) := by decide +kernel
theorem dX8_text_86 : decode cX8_text 86 = .ok (.aload_n 0, 1) := by decide +kernel
theorem dX8_text_87 : decode cX8_text 87 = .ok (.getfield 168, 3) := by decide +kernel
theorem dX8_text_90 : decode cX8_text 90 = .ok (.isub, 1) := by decide +kernel
theorem dX8_text_91 : decode cX8_text 91 = .ok (.ireturn, 1) := by decide +kernel
theorem dX8_text_92 : decode cX8_text 92 = .ok (.aload_n 0, 1) := by decide +kernel
theorem dX8_text_93 : decode cX8_text 93 = .ok (.dup, 1) := by decide +kernel
theorem dX8_text_94 : decode cX8_text 94 = .ok (.getfield 61, 3) := by decide +kernel
theorem dX8_text_97 : decode cX8_text 97 = .ok (.iconst 1, 1) := by decide +kernel
theorem dX8_text_98 : decode cX8_text 98 = .ok (.iadd, 1) := by decide +kernel
theorem dX8_text_99 : decode cX8_text 99 = .ok (.putfield 61, 3) := by decide +kernel
theorem dX8_text_102 : decode cX8_text 102 = .ok (.aload_n 0, 1) := by decide +kernel
theorem dX8_text_103 : decode cX8_text 103 = .ok (.getfield 61, 3) := by decide +kernel
theorem dX8_text_106 : decode cX8_text 106 = .ok (.iconst 1, 1) := by decide +kernel
theorem dX8_text_107 : decode cX8_text 107 = .ok (.isub, 1) := by decide +kernel
theorem dX8_text_108 : decode cX8_text 108 = .ok (.ireturn, 1) := by decide +kernel
set_option maxHeartbeats 4000000 in
set_option maxRecDepth 100000 in
theorem bb_X8_text_14 {p : Program} {l : Launch} {e : Env} {s : State} {m : MethodId} {args : Array Value} {below : List Frame} {meth : Method} {c : Code} {D : va_G} {cy : Nat → ClassId} {ad : Nat → Nat} {A : Nat → Prop} {Q : Int32 → Sg → Prop} (K : Kx p s m args meth c cX8_text 2 RX8 D cy) (hr : meth.sig.returnType = (some .int)) : ∀ (n : Nat) (x1 : Int32)  (g0 : Sg) (H : Heap) (locs : List Loc) (ls : Array Slot), vv_X8_text_L14 Q n x1 g0 → Wd D A s.heap (wsM cy ad g0) H locs → lv_has ls 2 [(0, .ref (ad 0)), (1, .int x1)] → W p l e (rmD 42) s m args below meth c H locs 0 0 (MQ below (va_Qi Q (PostG (wsM cy ad) D A) A) args s 0 0 A) (F0 m 14 ls []) := by
  intro n
  induction n with
  | zero => intro _ _ _ _ _ hd; exact hd.elim
  | succ n ih =>
    intro x1 g0 H locs ls hd hw hl
    unfold vv_X8_text_L14 at hd
    refine lv_iload_n K.1 K.2.1 dX8_text_14 rfl (lv_at hl 1 rfl) ?_
    refine lv_aload_n K.1 K.2.1 dX8_text_15 rfl (lv_at hl 0 rfl) ?_
    refine rm_get 6 K hw (by decide) kf_X8_131 rfl dX8_text_16 ?_
    refine lv_icmp_ge (tgt := 49) K.1 K.2.1 dX8_text_19 (by decide) (fun h_3 => ?_) (fun h_3 => ?_)
    · have hd := hd.1 h_3
      refine lv_aload_n K.1 K.2.1 dX8_text_49 rfl (lv_at hl 0 rfl) ?_
      refine rm_get 2 K hw (by decide) kf_X8_17 rfl dX8_text_50 ?_
      refine lv_aload_n K.1 K.2.1 dX8_text_53 rfl (lv_at hl 0 rfl) ?_
      refine rm_get 3 K hw (by decide) kf_X8_61 rfl dX8_text_54 ?_
      refine lv_aload_n K.1 K.2.1 dX8_text_57 rfl (lv_at hl 0 rfl) ?_
      refine rm_get 6 K hw (by decide) kf_X8_131 rfl dX8_text_58 ?_
      have hb := hd.1
      have hd := hd.2
      refine rm_iast 2 K hw (by decide) hb dX8_text_61 (fun g_4 eg_4 H locs hw => ?_)
      have hd := hd g_4 eg_4
      refine lv_aload_n K.1 K.2.1 dX8_text_62 rfl (lv_at hl 0 rfl) ?_
      refine lv_iconst (v := (0 : Int32)) K.1 K.2.1 dX8_text_63 (by decide) ?_
      refine rm_put 6 K hw (by decide) kf_X8_131 rfl rfl rfl rfl (fsM_6 ad g_4 _) dX8_text_64 (fun g_5 eg_5 H locs hw => ?_)
      have hd := hd g_5 eg_5
      refine lv_aload_n K.1 K.2.1 dX8_text_67 rfl (lv_at hl 0 rfl) ?_
      refine lv_aload_n K.1 K.2.1 dX8_text_68 rfl (lv_at hl 0 rfl) ?_
      refine rm_get 3 K hw (by decide) kf_X8_61 rfl dX8_text_69 ?_
      refine lv_iconst (v := (0 : Int32)) K.1 K.2.1 dX8_text_72 (by decide) ?_
      refine rk_vi (As := [.int (g_5 0 3), .int (0 : Int32)]) (rest := []) K hw (cc_X8_read l D cy ad A g_5 _ (g_5 0 3) (0 : Int32) hd) lk_X8_333 (ci := 8) rfl (q0 := 0) (wsM_at cy ad _ (by decide)) ⟨Nat.le_of_ble_eq_true rfl, Nat.le_of_ble_eq_true rfl⟩ ⟨Nat.zero_le _, Nat.zero_le _⟩ rfl hl.1 (Nat.le_of_ble_eq_true rfl) rfl dX8_text_73 (fun r_7 g_6 H locs hd hw => ?_)
      refine lv_topi (fun x1_8 ex1_8 => ?_)
      have hd := hd x1_8 ex1_8
      refine lv_istore_n (lv' := [(1, .int x1_8), (0, .ref (ad 0))]) K.1 K.2.1 dX8_text_76 rfl hl (by decide) rfl (fun ls hl => ?_)
      refine lv_aload_n K.1 K.2.1 dX8_text_77 rfl (lv_at hl 1 rfl) ?_
      refine rm_get 25 K hw (by decide) kf_X8_164 rfl dX8_text_78 ?_
      refine lv_if_eq (tgt := 92) K.1 K.2.1 dX8_text_81 (by decide) (fun h_9 => ?_) (fun h_9 => ?_)
      · have hd := hd.1 h_9
        refine lv_aload_n K.1 K.2.1 dX8_text_92 rfl (lv_at hl 1 rfl) ?_
        refine lv_dup K.1 K.2.1 dX8_text_93 rfl ?_
        refine rm_get 3 K hw (by decide) kf_X8_61 rfl dX8_text_94 ?_
        refine lv_iconst (v := (1 : Int32)) K.1 K.2.1 dX8_text_97 (by decide) ?_
        refine lv_iadd K.1 K.2.1 dX8_text_98 ?_
        refine rm_put 3 K hw (by decide) kf_X8_61 rfl rfl rfl rfl (fsM_3 ad g_6 _) dX8_text_99 (fun g_10 eg_10 H locs hw => ?_)
        have hd := hd g_10 eg_10
        refine lv_aload_n K.1 K.2.1 dX8_text_102 rfl (lv_at hl 1 rfl) ?_
        refine rm_get 3 K hw (by decide) kf_X8_61 rfl dX8_text_103 ?_
        refine lv_iconst (v := (1 : Int32)) K.1 K.2.1 dX8_text_106 (by decide) ?_
        refine lv_isub K.1 K.2.1 dX8_text_107 ?_
        exact rk_iret K hw hr hd dX8_text_108
      · have hd := hd.2 h_9
        refine lv_bipush (v := (-100 : Int32)) K.1 K.2.1 dX8_text_84 (by decide) ?_
        refine lv_aload_n K.1 K.2.1 dX8_text_86 rfl (lv_at hl 1 rfl) ?_
        refine rm_get 26 K hw (by decide) kf_X8_168 rfl dX8_text_87 ?_
        refine lv_isub K.1 K.2.1 dX8_text_90 ?_
        exact rk_iret K hw hr hd dX8_text_91
    · have hd := hd.2 h_3
      refine lv_aload_n K.1 K.2.1 dX8_text_22 rfl (lv_at hl 0 rfl) ?_
      refine rm_get 1 K hw (by decide) kf_X8_13 rfl dX8_text_23 ?_
      refine lv_sipush (v := (160 : Int32)) K.1 K.2.1 dX8_text_26 (by decide) ?_
      refine lv_aload_n K.1 K.2.1 dX8_text_29 rfl (lv_at hl 0 rfl) ?_
      refine rm_get 3 K hw (by decide) kf_X8_61 rfl dX8_text_30 ?_
      refine lv_imul K.1 K.2.1 dX8_text_33 ?_
      refine lv_iload_n K.1 K.2.1 dX8_text_34 rfl (lv_at hl 1 rfl) ?_
      refine lv_iadd K.1 K.2.1 dX8_text_35 ?_
      refine lv_aload_n K.1 K.2.1 dX8_text_36 rfl (lv_at hl 0 rfl) ?_
      refine rm_get 5 K hw (by decide) kf_X8_20 rfl dX8_text_37 ?_
      refine lv_iload_n K.1 K.2.1 dX8_text_40 rfl (lv_at hl 1 rfl) ?_
      have hb := hd.1
      have hd := hd.2
      refine rm_iald 3 K hw (by decide) hb dX8_text_41 ?_
      have hb := hd.1
      have hd := hd.2
      refine rm_iast 1 K hw (by decide) hb dX8_text_42 (fun g_11 eg_11 H locs hw => ?_)
      have hd := hd g_11 eg_11
      obtain ⟨x1_12, ex1_12⟩ : ∃ y : Int32, y = x1 + (1 : Int32) := ⟨_, rfl⟩
      have hd := hd x1_12 ex1_12
      refine lv_iinc (v := x1_12) (lv' := [(1, .int x1_12), (0, .ref (ad 0))]) K.1 K.2.1 dX8_text_43 hl (k := 1) rfl (by rw [ex1_12]; rfl) (by decide) rfl (fun ls hl => ?_)
      refine lv_goto (tgt := 14) K.1 K.2.1 dX8_text_46 (by decide) ?_
      exact ih x1_12 g_11 _ _ _ hd hw (lv_sub hl [1, 0] rfl)
set_option maxHeartbeats 4000000 in
set_option maxRecDepth 100000 in
theorem cc_X8_text (l : Launch) (D : va_G) (cy : Nat → ClassId) (ad : Nat → Nat) (A : Nat → Prop) (g0 : Sg) (Q : Int32 → Sg → Prop)  (hd : vv_X8_text  g0 Q) : Met l yX8_text (Cond.code yX8_text cX8_text 2 (some .int) :: TT) (rmD 42) (va_Pc [.ref (ad 0)] (PreG (wsM cy ad) D cy A g0)) (va_Qi Q (PostG (wsM cy ad) D A) A) 0 0 A := by
  unfold vv_X8_text at hd
  refine Met.ofW (cc := cX8_text) (maxL := 2) (ret := (some .int)) (by decide) rfl ?_
  intro p e s m args below meth c s₁ B hml hv
  obtain ⟨rfl, hP, hK0, hD⟩ := hv
  have K : Kx p s m _ meth c cX8_text 2 RX8 D cy := ⟨B.exec, B.bytes, hml, findClass_of_methodNamed B.named, fun w h => atoms_spec (ws := Cond.code yX8_text cX8_text 2 (some .int) :: TT) B.pre w (List.mem_cons_of_mem _ h), hK0, B.notSynchronized⟩
  have hw : Wd D A s.heap (wsM cy ad g0) s.heap [] := ⟨hP, hD, va_S.rf⟩
  have hr := B.returns
  have hl := lv_entry ([.ref (ad 0)]) (n := 2) (Nat.le_of_ble_eq_true rfl)
  rw [lg_entry_eq]
  generalize (lg_sl ([.ref (ad 0)]) ++ List.replicate (2 - (lg_sl ([.ref (ad 0)])).length) Slot.unset).toArray = ls at hl ⊢
  have hl : lv_has ls 2 [(0, .ref (ad 0))] := hl
  refine lv_aload_n K.1 K.2.1 dX8_text_0 rfl (lv_at hl 0 rfl) ?_
  refine rm_get 3 K hw (by decide) kf_X8_61 rfl dX8_text_1 ?_
  refine lv_bipush (v := (6 : Int32)) K.1 K.2.1 dX8_text_4 (by decide) ?_
  refine lv_icmp_ne (tgt := 12) K.1 K.2.1 dX8_text_6 (by decide) (fun h_1 => ?_) (fun h_1 => ?_)
  · have hd := hd.1 h_1
    refine lv_iconst (v := (0 : Int32)) K.1 K.2.1 dX8_text_12 (by decide) ?_
    refine lv_topi (fun x1_2 ex1_2 => ?_)
    have hd := hd x1_2 ex1_2
    refine lv_istore_n (lv' := [(1, .int x1_2), (0, .ref (ad 0))]) K.1 K.2.1 dX8_text_13 rfl hl (by decide) rfl (fun ls hl => ?_)
    obtain ⟨n9, hd⟩ := hd
    exact bb_X8_text_14 K hr  n9 x1_2 g0 _ _ _ hd hw (lv_sub hl [1, 0] rfl)
  · have hd := hd.2 h_1
    refine lv_bipush (v := (-4 : Int32)) K.1 K.2.1 dX8_text_9 (by decide) ?_
    exact rk_iret K hw hr hd dX8_text_11
theorem dX8_force_0 : decode cX8_force 0 = .ok (.iload_n 1, 1) := by decide +kernel
theorem dX8_force_1 : decode cX8_force 1 = .ok (.i2l, 1) := by decide +kernel
theorem dX8_force_2 : decode cX8_force 2 = .ok (.lconst 0, 1) := by decide +kernel
theorem dX8_force_3 : decode cX8_force 3 = .ok (.aload_n 0, 1) := by decide +kernel
theorem dX8_force_4 : decode cX8_force 4 = .ok (.getfield 61, 3) := by decide +kernel
theorem dX8_force_7 : decode cX8_force 7 = .ok (.iconst 1, 1) := by decide +kernel
theorem dX8_force_8 : decode cX8_force 8 = .ok (.isub, 1) := by decide +kernel
theorem dX8_force_9 : decode cX8_force 9 = .ok (.i2l, 1) := by decide +kernel
theorem dX8_force_10 : decode cX8_force 10 = .ok (.invokestatic 67, 3) := by decide +kernel
theorem dX8_force_13 : decode cX8_force 13 = .ok (.ifCond .ne 6, 3) := by decide +kernel
theorem dX8_force_16 : decode cX8_force 16 = .ok (.bipush (-2), 2) := by decide +kernel
theorem dX8_force_18 : decode cX8_force 18 = .ok (.ireturn, 1) := by decide +kernel
theorem dX8_force_19 : decode cX8_force 19 = .ok (.aload_n 0, 1) := by decide +kernel
theorem dX8_force_20 : decode cX8_force 20 = .ok (.getfield 95, 3) := by decide +kernel
theorem dX8_force_23 : decode cX8_force 23 = .ok (.istore_n 2, 1) := by decide +kernel
theorem dX8_force_24 : decode cX8_force 24 = .ok (.aload_n 0, 1) := by decide +kernel
theorem dX8_force_25 : decode cX8_force 25 = .ok (.iload_n 1, 1) := by decide +kernel
theorem dX8_force_26 : decode cX8_force 26 = .ok (.putfield 95, 3) := by decide +kernel
theorem dX8_force_29 : decode cX8_force 29 = .ok (.iload_n 2, 1) := by decide +kernel
theorem dX8_force_30 : decode cX8_force 30 = .ok (.ireturn, 1) := by decide +kernel
set_option maxHeartbeats 4000000 in
set_option maxRecDepth 100000 in
theorem cc_X8_force (l : Launch) (D : va_G) (cy : Nat → ClassId) (ad : Nat → Nat) (A : Nat → Prop) (g0 : Sg) (Q : Int32 → Sg → Prop) (x1 : Int32) (hd : vv_X8_force x1 g0 Q) : Met l yX8_force (Cond.code yX8_force cX8_force 3 (some .int) :: TT) (rmD 1) (va_Pc [.ref (ad 0), .int x1] (PreG (wsM cy ad) D cy A g0)) (va_Qi Q (PostG (wsM cy ad) D A) A) 0 0 A := by
  unfold vv_X8_force at hd
  refine Met.ofW (cc := cX8_force) (maxL := 3) (ret := (some .int)) (by decide) rfl ?_
  intro p e s m args below meth c s₁ B hml hv
  obtain ⟨rfl, hP, hK0, hD⟩ := hv
  have K : Kx p s m _ meth c cX8_force 3 RX8 D cy := ⟨B.exec, B.bytes, hml, findClass_of_methodNamed B.named, fun w h => atoms_spec (ws := Cond.code yX8_force cX8_force 3 (some .int) :: TT) B.pre w (List.mem_cons_of_mem _ h), hK0, B.notSynchronized⟩
  have hw : Wd D A s.heap (wsM cy ad g0) s.heap [] := ⟨hP, hD, va_S.rf⟩
  have hr := B.returns
  have hl := lv_entry ([.ref (ad 0), .int x1]) (n := 3) (Nat.le_of_ble_eq_true rfl)
  rw [lg_entry_eq]
  generalize (lg_sl ([.ref (ad 0), .int x1]) ++ List.replicate (3 - (lg_sl ([.ref (ad 0), .int x1])).length) Slot.unset).toArray = ls at hl ⊢
  have hl : lv_has ls 3 [(0, .ref (ad 0)), (1, .int x1)] := hl
  refine lv_iload_n K.1 K.2.1 dX8_force_0 rfl (lv_at hl 1 rfl) ?_
  refine lv_i2l (v := x1.toInt64) K.1 K.2.1 dX8_force_1 rfl ?_
  refine lv_lconst (v := (0 : Int64)) K.1 K.2.1 dX8_force_2 rfl ?_
  refine lv_aload_n K.1 K.2.1 dX8_force_3 rfl (lv_at hl 0 rfl) ?_
  refine rm_get 3 K hw (by decide) kf_X8_61 rfl dX8_force_4 ?_
  refine lv_iconst (v := (1 : Int32)) K.1 K.2.1 dX8_force_7 (by decide) ?_
  refine lv_isub K.1 K.2.1 dX8_force_8 ?_
  refine lv_i2l (v := ((g0 0 3) - (1 : Int32)).toInt64) K.1 K.2.1 dX8_force_9 rfl ?_
  refine rk_si (As := [.long x1.toInt64, .long (0 : Int64), .long ((g0 0 3) - (1 : Int32)).toInt64]) (rest := []) K hw (cc_X8_in l D cy ad A g0 _ (x1.toInt64) (0 : Int64) (((g0 0 3) - (1 : Int32)).toInt64) hd) lk_X8_67 ⟨Nat.le_of_ble_eq_true rfl, Nat.le_of_ble_eq_true rfl⟩ ⟨Nat.zero_le _, Nat.zero_le _⟩ rfl hl.1 (Nat.le_of_ble_eq_true rfl) rfl dX8_force_10 (fun r_2 g_1 H locs hd hw => ?_)
  refine lv_if_ne (tgt := 19) K.1 K.2.1 dX8_force_13 (by decide) (fun h_3 => ?_) (fun h_3 => ?_)
  · have hd := hd.1 h_3
    refine lv_aload_n K.1 K.2.1 dX8_force_19 rfl (lv_at hl 0 rfl) ?_
    refine rm_get 4 K hw (by decide) kf_X8_95 rfl dX8_force_20 ?_
    refine lv_topi (fun x2_4 ex2_4 => ?_)
    have hd := hd x2_4 ex2_4
    refine lv_istore_n (lv' := [(2, .int x2_4), (0, .ref (ad 0)), (1, .int x1)]) K.1 K.2.1 dX8_force_23 rfl hl (by decide) rfl (fun ls hl => ?_)
    refine lv_aload_n K.1 K.2.1 dX8_force_24 rfl (lv_at hl 1 rfl) ?_
    refine lv_iload_n K.1 K.2.1 dX8_force_25 rfl (lv_at hl 2 rfl) ?_
    refine rm_put 4 K hw (by decide) kf_X8_95 rfl rfl rfl rfl (fsM_4 ad g_1 _) dX8_force_26 (fun g_5 eg_5 H locs hw => ?_)
    have hd := hd g_5 eg_5
    refine lv_iload_n K.1 K.2.1 dX8_force_29 rfl (lv_at hl 0 rfl) ?_
    exact rk_iret K hw hr hd dX8_force_30
  · have hd := hd.2 h_3
    refine lv_bipush (v := (-2 : Int32)) K.1 K.2.1 dX8_force_16 (by decide) ?_
    exact rk_iret K hw hr hd dX8_force_18
theorem dX8_sideOf_0 : decode cX8_sideOf 0 = .ok (.iconst 0, 1) := by decide +kernel
theorem dX8_sideOf_1 : decode cX8_sideOf 1 = .ok (.istore 4, 2) := by decide +kernel
theorem dX8_sideOf_3 : decode cX8_sideOf 3 = .ok (.iconst 0, 1) := by decide +kernel
theorem dX8_sideOf_4 : decode cX8_sideOf 4 = .ok (.istore 5, 2) := by decide +kernel
theorem dX8_sideOf_6 : decode cX8_sideOf 6 = .ok (.iload 5, 2) := by decide +kernel
theorem dX8_sideOf_8 : decode cX8_sideOf 8 = .ok (.aload_n 0, 1) := by decide +kernel
theorem dX8_sideOf_9 : decode cX8_sideOf 9 = .ok (.getfield 64, 3) := by decide +kernel
theorem dX8_sideOf_12 : decode cX8_sideOf 12 = .ok (.if_icmp .ge 49, 3) := by decide +kernel
theorem dX8_sideOf_15 : decode cX8_sideOf 15 = .ok (.iload_n 3, 1) := by decide +kernel
theorem dX8_sideOf_16 : decode cX8_sideOf 16 = .ok (.iload 5, 2) := by decide +kernel
theorem dX8_sideOf_18 : decode cX8_sideOf 18 = .ok (.ishr, 1) := by decide +kernel
theorem dX8_sideOf_19 : decode cX8_sideOf 19 = .ok (.iconst 1, 1) := by decide +kernel
theorem dX8_sideOf_20 : decode cX8_sideOf 20 = .ok (.iand, 1) := by decide +kernel
theorem dX8_sideOf_21 : decode cX8_sideOf 21 = .ok (.ifCond .ne 34, 3) := by decide +kernel
theorem dX8_sideOf_24 : decode cX8_sideOf 24 = .ok (.aload_n 0, 1) := by decide +kernel
theorem dX8_sideOf_25 : decode cX8_sideOf 25 = .ok (.iload 5, 2) := by decide +kernel
theorem dX8_sideOf_27 : decode cX8_sideOf 27 = .ok (.invokevirtual 115, 3) := by decide +kernel
theorem dX8_sideOf_30 : decode cX8_sideOf 30 = .ok (.ifCond .eq 25, 3) := by decide +kernel
theorem dX8_sideOf_33 : decode cX8_sideOf 33 = .ok (.aload_n 0, 1) := by decide +kernel
theorem dX8_sideOf_34 : decode cX8_sideOf 34 = .ok (.iload 5, 2) := by decide +kernel
theorem dX8_sideOf_36 : decode cX8_sideOf 36 = .ok (.iload_n 1, 1) := by decide +kernel
theorem dX8_sideOf_37 : decode cX8_sideOf 37 = .ok (.invokevirtual 118, 3) := by decide +kernel
theorem dX8_sideOf_40 : decode cX8_sideOf 40 = .ok (.iload_n 2, 1) := by decide +kernel
theorem dX8_sideOf_41 : decode cX8_sideOf 41 = .ok (.if_icmp .ne 14, 3) := by decide +kernel
theorem dX8_sideOf_44 : decode cX8_sideOf 44 = .ok (.iload 4, 2) := by decide +kernel
theorem dX8_sideOf_46 : decode cX8_sideOf 46 = .ok (.aload_n 0, 1) := by decide +kernel
theorem dX8_sideOf_47 : decode cX8_sideOf 47 = .ok (.iload 5, 2) := by decide +kernel
theorem dX8_sideOf_49 : decode cX8_sideOf 49 = .ok (.invokevirtual 121, 3) := by decide +kernel
theorem dX8_sideOf_52 : decode cX8_sideOf 52 = .ok (.iadd, 1) := by decide +kernel
theorem dX8_sideOf_53 : decode cX8_sideOf 53 = .ok (.istore 4, 2) := by decide +kernel
theorem dX8_sideOf_55 : decode cX8_sideOf 55 = .ok (.iinc 5 1, 3) := by decide +kernel
theorem dX8_sideOf_58 : decode cX8_sideOf 58 = .ok (.goto (-52), 3) := by decide +kernel
theorem dX8_sideOf_61 : decode cX8_sideOf 61 = .ok (.iload 4, 2) := by decide +kernel
theorem dX8_sideOf_63 : decode cX8_sideOf 63 = .ok (.ireturn, 1) := by decide +kernel
set_option maxHeartbeats 4000000 in
set_option maxRecDepth 100000 in
theorem bb_X8_sideOf_55 {p : Program} {l : Launch} {e : Env} {s : State} {m : MethodId} {args : Array Value} {below : List Frame} {meth : Method} {c : Code} {D : va_G} {cy : Nat → ClassId} {ad : Nat → Nat} {A : Nat → Prop} {Q : Int32 → Sg → Prop} (K : Kx p s m args meth c cX8_sideOf 6 RX8 D cy) (hr : meth.sig.returnType = (some .int)) {rc6 : Int32 → Int32 → Int32 → Int32 → Int32 → Sg → Prop} (hrc6 : ∀ (x1 : Int32) (x2 : Int32) (x3 : Int32) (x4 : Int32) (x5 : Int32) (u : Sg) (H : Heap) (locs : List Loc) (ls : Array Slot), rc6 x1 x2 x3 x4 x5 u → Wd D A s.heap (wsM cy ad u) H locs → lv_has ls 6 [(0, .ref (ad 0)), (1, .int x1), (2, .int x2), (3, .int x3), (4, .int x4), (5, .int x5)] → W p l e (rmD 45) s m args below meth c H locs 0 0 (MQ below (va_Qi Q (PostG (wsM cy ad) D A) A) args s 0 0 A) (F0 m 6 ls [])) (x1 : Int32) (x2 : Int32) (x3 : Int32) (x4 : Int32) (x5 : Int32)  (g0 : Sg) (H : Heap) (locs : List Loc) (ls : Array Slot) (hd : vv_X8_sideOf_J55 rc6 x1 x2 x3 x4 x5 g0 Q) (hw : Wd D A s.heap (wsM cy ad g0) H locs) (hl : lv_has ls 6 [(0, .ref (ad 0)), (1, .int x1), (2, .int x2), (3, .int x3), (4, .int x4), (5, .int x5)]) : W p l e (rmD 45) s m args below meth c H locs 0 0 (MQ below (va_Qi Q (PostG (wsM cy ad) D A) A) args s 0 0 A) (F0 m 55 ls []) := by
  unfold vv_X8_sideOf_J55 at hd
  obtain ⟨x5_5, ex5_5⟩ : ∃ y : Int32, y = x5 + (1 : Int32) := ⟨_, rfl⟩
  have hd := hd x5_5 ex5_5
  refine lv_iinc (v := x5_5) (lv' := [(5, .int x5_5), (0, .ref (ad 0)), (1, .int x1), (2, .int x2), (3, .int x3), (4, .int x4)]) K.1 K.2.1 dX8_sideOf_55 hl (k := 5) rfl (by rw [ex5_5]; rfl) (by decide) rfl (fun ls hl => ?_)
  refine lv_goto (tgt := 6) K.1 K.2.1 dX8_sideOf_58 (by decide) ?_
  exact hrc6 x1 x2 x3 x4 x5_5 g0 _ _ _ hd hw (lv_sub hl [1, 2, 3, 4, 5, 0] rfl)
set_option maxHeartbeats 4000000 in
set_option maxRecDepth 100000 in
theorem bb_X8_sideOf_6 {p : Program} {l : Launch} {e : Env} {s : State} {m : MethodId} {args : Array Value} {below : List Frame} {meth : Method} {c : Code} {D : va_G} {cy : Nat → ClassId} {ad : Nat → Nat} {A : Nat → Prop} {Q : Int32 → Sg → Prop} (K : Kx p s m args meth c cX8_sideOf 6 RX8 D cy) (hr : meth.sig.returnType = (some .int)) : ∀ (n : Nat) (x1 : Int32) (x2 : Int32) (x3 : Int32) (x4 : Int32) (x5 : Int32)  (g0 : Sg) (H : Heap) (locs : List Loc) (ls : Array Slot), vv_X8_sideOf_L6 Q n x1 x2 x3 x4 x5 g0 → Wd D A s.heap (wsM cy ad g0) H locs → lv_has ls 6 [(0, .ref (ad 0)), (1, .int x1), (2, .int x2), (3, .int x3), (4, .int x4), (5, .int x5)] → W p l e (rmD 45) s m args below meth c H locs 0 0 (MQ below (va_Qi Q (PostG (wsM cy ad) D A) A) args s 0 0 A) (F0 m 6 ls []) := by
  intro n
  induction n with
  | zero => intro _ _ _ _ _ _ _ _ _ hd; exact hd.elim
  | succ n ih =>
    intro x1 x2 x3 x4 x5 g0 H locs ls hd hw hl
    unfold vv_X8_sideOf_L6 at hd
    refine lv_iload K.1 K.2.1 dX8_sideOf_6 (lv_at hl 5 rfl) ?_
    refine lv_aload_n K.1 K.2.1 dX8_sideOf_8 rfl (lv_at hl 0 rfl) ?_
    refine rm_get 11 K hw (by decide) kf_X8_64 rfl dX8_sideOf_9 ?_
    refine lv_icmp_ge (tgt := 61) K.1 K.2.1 dX8_sideOf_12 (by decide) (fun h_3 => ?_) (fun h_3 => ?_)
    · have hd := hd.1 h_3
      refine lv_iload K.1 K.2.1 dX8_sideOf_61 (lv_at hl 4 rfl) ?_
      exact rk_iret K hw hr hd dX8_sideOf_63
    · have hd := hd.2 h_3
      refine lv_iload_n K.1 K.2.1 dX8_sideOf_15 rfl (lv_at hl 3 rfl) ?_
      refine lv_iload K.1 K.2.1 dX8_sideOf_16 (lv_at hl 5 rfl) ?_
      refine lv_ishr K.1 K.2.1 dX8_sideOf_18 ?_
      refine lv_iconst (v := (1 : Int32)) K.1 K.2.1 dX8_sideOf_19 (by decide) ?_
      refine lv_iand K.1 K.2.1 dX8_sideOf_20 ?_
      refine lv_if_ne (tgt := 55) K.1 K.2.1 dX8_sideOf_21 (by decide) (fun h_4 => ?_) (fun h_4 => ?_)
      · have hd := hd.1 h_4
        exact bb_X8_sideOf_55 K hr ih x1 x2 x3 x4 x5 g0 _ _ _ hd hw (lv_sub hl [0, 1, 2, 3, 4, 5] rfl)
      · have hd := hd.2 h_4
        refine lv_aload_n K.1 K.2.1 dX8_sideOf_24 rfl (lv_at hl 0 rfl) ?_
        refine lv_iload K.1 K.2.1 dX8_sideOf_25 (lv_at hl 5 rfl) ?_
        refine rk_vi (As := [.int x5]) (rest := []) K hw (cc_X8_isWhole l D cy ad A g0 _ x5 hd) lk_X8_115 (ci := 8) rfl (q0 := 0) (wsM_at cy ad _ (by decide)) ⟨Nat.le_of_ble_eq_true rfl, Nat.le_of_ble_eq_true rfl⟩ ⟨Nat.zero_le _, Nat.zero_le _⟩ rfl hl.1 (Nat.le_of_ble_eq_true rfl) rfl dX8_sideOf_27 (fun r_7 g_6 H locs hd hw => ?_)
        refine lv_if_eq (tgt := 55) K.1 K.2.1 dX8_sideOf_30 (by decide) (fun h_8 => ?_) (fun h_8 => ?_)
        · have hd := hd.1 h_8
          exact bb_X8_sideOf_55 K hr ih x1 x2 x3 x4 x5 g_6 _ _ _ hd hw (lv_sub hl [0, 1, 2, 3, 4, 5] rfl)
        · have hd := hd.2 h_8
          refine lv_aload_n K.1 K.2.1 dX8_sideOf_33 rfl (lv_at hl 0 rfl) ?_
          refine lv_iload K.1 K.2.1 dX8_sideOf_34 (lv_at hl 5 rfl) ?_
          refine lv_iload_n K.1 K.2.1 dX8_sideOf_36 rfl (lv_at hl 1 rfl) ?_
          refine rk_vi (As := [.int x5, .int x1]) (rest := []) K hw (cc_X8_voteOf l D cy ad A g_6 _ x5 x1 hd) lk_X8_118 (ci := 8) rfl (q0 := 0) (wsM_at cy ad _ (by decide)) ⟨Nat.le_of_ble_eq_true rfl, Nat.le_of_ble_eq_true rfl⟩ ⟨Nat.zero_le _, Nat.zero_le _⟩ rfl hl.1 (Nat.le_of_ble_eq_true rfl) rfl dX8_sideOf_37 (fun r_10 g_9 H locs hd hw => ?_)
          refine lv_iload_n K.1 K.2.1 dX8_sideOf_40 rfl (lv_at hl 2 rfl) ?_
          refine lv_icmp_ne (tgt := 55) K.1 K.2.1 dX8_sideOf_41 (by decide) (fun h_11 => ?_) (fun h_11 => ?_)
          · have hd := hd.1 h_11
            exact bb_X8_sideOf_55 K hr ih x1 x2 x3 x4 x5 g_9 _ _ _ hd hw (lv_sub hl [0, 1, 2, 3, 4, 5] rfl)
          · have hd := hd.2 h_11
            refine lv_iload K.1 K.2.1 dX8_sideOf_44 (lv_at hl 4 rfl) ?_
            refine lv_aload_n K.1 K.2.1 dX8_sideOf_46 rfl (lv_at hl 0 rfl) ?_
            refine lv_iload K.1 K.2.1 dX8_sideOf_47 (lv_at hl 5 rfl) ?_
            refine rk_vi (As := [.int x5]) (rest := [.int x4]) K hw (cc_X8_weighsOf l D cy ad A g_9 _ x5 hd) lk_X8_121 (ci := 8) rfl (q0 := 0) (wsM_at cy ad _ (by decide)) ⟨Nat.le_of_ble_eq_true rfl, Nat.le_of_ble_eq_true rfl⟩ ⟨Nat.zero_le _, Nat.zero_le _⟩ rfl hl.1 (Nat.le_of_ble_eq_true rfl) rfl dX8_sideOf_49 (fun r_13 g_12 H locs hd hw => ?_)
            refine lv_iadd K.1 K.2.1 dX8_sideOf_52 ?_
            refine lv_topi (fun x4_14 ex4_14 => ?_)
            have hd := hd x4_14 ex4_14
            refine lv_istore (lv' := [(4, .int x4_14), (0, .ref (ad 0)), (1, .int x1), (2, .int x2), (3, .int x3), (5, .int x5)]) K.1 K.2.1 dX8_sideOf_53 hl (by decide) rfl (fun ls hl => ?_)
            exact bb_X8_sideOf_55 K hr ih x1 x2 x3 x4_14 x5 g_12 _ _ _ hd hw (lv_sub hl [1, 2, 3, 4, 0, 5] rfl)
set_option maxHeartbeats 4000000 in
set_option maxRecDepth 100000 in
theorem cc_X8_sideOf (l : Launch) (D : va_G) (cy : Nat → ClassId) (ad : Nat → Nat) (A : Nat → Prop) (g0 : Sg) (Q : Int32 → Sg → Prop) (x1 : Int32) (x2 : Int32) (x3 : Int32) (hd : vv_X8_sideOf x1 x2 x3 g0 Q) : Met l yX8_sideOf (Cond.code yX8_sideOf cX8_sideOf 6 (some .int) :: TT) (rmD 45) (va_Pc [.ref (ad 0), .int x1, .int x2, .int x3] (PreG (wsM cy ad) D cy A g0)) (va_Qi Q (PostG (wsM cy ad) D A) A) 0 0 A := by
  unfold vv_X8_sideOf at hd
  refine Met.ofW (cc := cX8_sideOf) (maxL := 6) (ret := (some .int)) (by decide) rfl ?_
  intro p e s m args below meth c s₁ B hml hv
  obtain ⟨rfl, hP, hK0, hD⟩ := hv
  have K : Kx p s m _ meth c cX8_sideOf 6 RX8 D cy := ⟨B.exec, B.bytes, hml, findClass_of_methodNamed B.named, fun w h => atoms_spec (ws := Cond.code yX8_sideOf cX8_sideOf 6 (some .int) :: TT) B.pre w (List.mem_cons_of_mem _ h), hK0, B.notSynchronized⟩
  have hw : Wd D A s.heap (wsM cy ad g0) s.heap [] := ⟨hP, hD, va_S.rf⟩
  have hr := B.returns
  have hl := lv_entry ([.ref (ad 0), .int x1, .int x2, .int x3]) (n := 6) (Nat.le_of_ble_eq_true rfl)
  rw [lg_entry_eq]
  generalize (lg_sl ([.ref (ad 0), .int x1, .int x2, .int x3]) ++ List.replicate (6 - (lg_sl ([.ref (ad 0), .int x1, .int x2, .int x3])).length) Slot.unset).toArray = ls at hl ⊢
  have hl : lv_has ls 6 [(0, .ref (ad 0)), (1, .int x1), (2, .int x2), (3, .int x3)] := hl
  refine lv_iconst (v := (0 : Int32)) K.1 K.2.1 dX8_sideOf_0 (by decide) ?_
  refine lv_topi (fun x4_1 ex4_1 => ?_)
  have hd := hd x4_1 ex4_1
  refine lv_istore (lv' := [(4, .int x4_1), (0, .ref (ad 0)), (1, .int x1), (2, .int x2), (3, .int x3)]) K.1 K.2.1 dX8_sideOf_1 hl (by decide) rfl (fun ls hl => ?_)
  refine lv_iconst (v := (0 : Int32)) K.1 K.2.1 dX8_sideOf_3 (by decide) ?_
  refine lv_topi (fun x5_2 ex5_2 => ?_)
  have hd := hd x5_2 ex5_2
  refine lv_istore (lv' := [(5, .int x5_2), (4, .int x4_1), (0, .ref (ad 0)), (1, .int x1), (2, .int x2), (3, .int x3)]) K.1 K.2.1 dX8_sideOf_4 hl (by decide) rfl (fun ls hl => ?_)
  obtain ⟨n9, hd⟩ := hd
  exact bb_X8_sideOf_6 K hr  n9 x1 x2 x3 x4_1 x5_2 g0 _ _ _ hd hw (lv_sub hl [2, 3, 4, 5, 1, 0] rfl)
theorem dX8_isCarried_0 : decode cX8_isCarried 0 = .ok (.iload_n 1, 1) := by decide +kernel
theorem dX8_isCarried_1 : decode cX8_isCarried 1 = .ok (.aload_n 0, 1) := by decide +kernel
theorem dX8_isCarried_2 : decode cX8_isCarried 2 = .ok (.getfield 23, 3) := by decide +kernel
theorem dX8_isCarried_5 : decode cX8_isCarried 5 = .ok (.if_icmp .lt 12, 3) := by decide +kernel
theorem dX8_isCarried_8 : decode cX8_isCarried 8 = .ok (.iload_n 1, 1) := by decide +kernel
theorem dX8_isCarried_9 : decode cX8_isCarried 9 = .ok (.iload_n 2, 1) := by decide +kernel
theorem dX8_isCarried_10 : decode cX8_isCarried 10 = .ok (.if_icmp .le 7, 3) := by decide +kernel
theorem dX8_isCarried_13 : decode cX8_isCarried 13 = .ok (.iconst 1, 1) := by decide +kernel
theorem dX8_isCarried_14 : decode cX8_isCarried 14 = .ok (.goto 4, 3) := by decide +kernel
theorem dX8_isCarried_17 : decode cX8_isCarried 17 = .ok (.iconst 0, 1) := by decide +kernel
theorem dX8_isCarried_18 : decode cX8_isCarried 18 = .ok (.ireturn, 1) := by decide +kernel
set_option maxHeartbeats 4000000 in
set_option maxRecDepth 100000 in
theorem cc_X8_isCarried (l : Launch) (D : va_G) (cy : Nat → ClassId) (ad : Nat → Nat) (A : Nat → Prop) (g0 : Sg) (Q : Int32 → Sg → Prop) (x1 : Int32) (x2 : Int32) (hd : vv_X8_isCarried x1 x2 g0 Q) : Met l yX8_isCarried (Cond.code yX8_isCarried cX8_isCarried 3 (some .boolean) :: TT) (rmD 0) (va_Pc [.ref (ad 0), .int x1, .int x2] (PreG (wsM cy ad) D cy A g0)) (va_Qi Q (PostG (wsM cy ad) D A) A) 0 0 A := by
  unfold vv_X8_isCarried at hd
  refine Met.ofW (cc := cX8_isCarried) (maxL := 3) (ret := (some .boolean)) (by decide) rfl ?_
  intro p e s m args below meth c s₁ B hml hv
  obtain ⟨rfl, hP, hK0, hD⟩ := hv
  have K : Kx p s m _ meth c cX8_isCarried 3 RX8 D cy := ⟨B.exec, B.bytes, hml, findClass_of_methodNamed B.named, fun w h => atoms_spec (ws := Cond.code yX8_isCarried cX8_isCarried 3 (some .boolean) :: TT) B.pre w (List.mem_cons_of_mem _ h), hK0, B.notSynchronized⟩
  have hw : Wd D A s.heap (wsM cy ad g0) s.heap [] := ⟨hP, hD, va_S.rf⟩
  have hr := B.returns
  have hl := lv_entry ([.ref (ad 0), .int x1, .int x2]) (n := 3) (Nat.le_of_ble_eq_true rfl)
  rw [lg_entry_eq]
  generalize (lg_sl ([.ref (ad 0), .int x1, .int x2]) ++ List.replicate (3 - (lg_sl ([.ref (ad 0), .int x1, .int x2])).length) Slot.unset).toArray = ls at hl ⊢
  have hl : lv_has ls 3 [(0, .ref (ad 0)), (1, .int x1), (2, .int x2)] := hl
  refine lv_iload_n K.1 K.2.1 dX8_isCarried_0 rfl (lv_at hl 1 rfl) ?_
  refine lv_aload_n K.1 K.2.1 dX8_isCarried_1 rfl (lv_at hl 0 rfl) ?_
  refine rm_get 8 K hw (by decide) kf_X8_23 rfl dX8_isCarried_2 ?_
  refine lv_icmp_lt (tgt := 17) K.1 K.2.1 dX8_isCarried_5 (by decide) (fun h_1 => ?_) (fun h_1 => ?_)
  · have hd := hd.1 h_1
    refine lv_iconst (v := (0 : Int32)) K.1 K.2.1 dX8_isCarried_17 (by decide) ?_
    exact rk_zret K hw hr (by decide) hd dX8_isCarried_18
  · have hd := hd.2 h_1
    refine lv_iload_n K.1 K.2.1 dX8_isCarried_8 rfl (lv_at hl 1 rfl) ?_
    refine lv_iload_n K.1 K.2.1 dX8_isCarried_9 rfl (lv_at hl 2 rfl) ?_
    refine lv_icmp_le (tgt := 17) K.1 K.2.1 dX8_isCarried_10 (by decide) (fun h_2 => ?_) (fun h_2 => ?_)
    · have hd := hd.1 h_2
      refine lv_iconst (v := (0 : Int32)) K.1 K.2.1 dX8_isCarried_17 (by decide) ?_
      exact rk_zret K hw hr (by decide) hd dX8_isCarried_18
    · have hd := hd.2 h_2
      refine lv_iconst (v := (1 : Int32)) K.1 K.2.1 dX8_isCarried_13 (by decide) ?_
      refine lv_goto (tgt := 18) K.1 K.2.1 dX8_isCarried_14 (by decide) ?_
      exact rk_zret K hw hr (by decide) hd dX8_isCarried_18
theorem dX8_carries_0 : decode cX8_carries 0 = .ok (.aload_n 0, 1) := by decide +kernel
theorem dX8_carries_1 : decode cX8_carries 1 = .ok (.aload_n 0, 1) := by decide +kernel
theorem dX8_carries_2 : decode cX8_carries 2 = .ok (.iload_n 1, 1) := by decide +kernel
theorem dX8_carries_3 : decode cX8_carries 3 = .ok (.iconst 1, 1) := by decide +kernel
theorem dX8_carries_4 : decode cX8_carries 4 = .ok (.iconst 0, 1) := by decide +kernel
theorem dX8_carries_5 : decode cX8_carries 5 = .ok (.invokevirtual 343, 3) := by decide +kernel
theorem dX8_carries_8 : decode cX8_carries 8 = .ok (.aload_n 0, 1) := by decide +kernel
theorem dX8_carries_9 : decode cX8_carries 9 = .ok (.iload_n 1, 1) := by decide +kernel
theorem dX8_carries_10 : decode cX8_carries 10 = .ok (.iconst (-1), 1) := by decide +kernel
theorem dX8_carries_11 : decode cX8_carries 11 = .ok (.iconst 0, 1) := by decide +kernel
theorem dX8_carries_12 : decode cX8_carries 12 = .ok (.invokevirtual 343, 3) := by decide +kernel
theorem dX8_carries_15 : decode cX8_carries 15 = .ok (.invokevirtual 346, 3) := by decide +kernel
theorem dX8_carries_18 : decode cX8_carries 18 = .ok (.ireturn, 1) := by decide +kernel
set_option maxHeartbeats 4000000 in
set_option maxRecDepth 100000 in
theorem cc_X8_carries (l : Launch) (D : va_G) (cy : Nat → ClassId) (ad : Nat → Nat) (A : Nat → Prop) (g0 : Sg) (Q : Int32 → Sg → Prop) (x1 : Int32) (hd : vv_X8_carries x1 g0 Q) : Met l yX8_carries (Cond.code yX8_carries cX8_carries 2 (some .boolean) :: TT) (rmD 46) (va_Pc [.ref (ad 0), .int x1] (PreG (wsM cy ad) D cy A g0)) (va_Qi Q (PostG (wsM cy ad) D A) A) 0 0 A := by
  unfold vv_X8_carries at hd
  refine Met.ofW (cc := cX8_carries) (maxL := 2) (ret := (some .boolean)) (by decide) rfl ?_
  intro p e s m args below meth c s₁ B hml hv
  obtain ⟨rfl, hP, hK0, hD⟩ := hv
  have K : Kx p s m _ meth c cX8_carries 2 RX8 D cy := ⟨B.exec, B.bytes, hml, findClass_of_methodNamed B.named, fun w h => atoms_spec (ws := Cond.code yX8_carries cX8_carries 2 (some .boolean) :: TT) B.pre w (List.mem_cons_of_mem _ h), hK0, B.notSynchronized⟩
  have hw : Wd D A s.heap (wsM cy ad g0) s.heap [] := ⟨hP, hD, va_S.rf⟩
  have hr := B.returns
  have hl := lv_entry ([.ref (ad 0), .int x1]) (n := 2) (Nat.le_of_ble_eq_true rfl)
  rw [lg_entry_eq]
  generalize (lg_sl ([.ref (ad 0), .int x1]) ++ List.replicate (2 - (lg_sl ([.ref (ad 0), .int x1])).length) Slot.unset).toArray = ls at hl ⊢
  have hl : lv_has ls 2 [(0, .ref (ad 0)), (1, .int x1)] := hl
  refine lv_aload_n K.1 K.2.1 dX8_carries_0 rfl (lv_at hl 0 rfl) ?_
  refine lv_aload_n K.1 K.2.1 dX8_carries_1 rfl (lv_at hl 0 rfl) ?_
  refine lv_iload_n K.1 K.2.1 dX8_carries_2 rfl (lv_at hl 1 rfl) ?_
  refine lv_iconst (v := (1 : Int32)) K.1 K.2.1 dX8_carries_3 (by decide) ?_
  refine lv_iconst (v := (0 : Int32)) K.1 K.2.1 dX8_carries_4 (by decide) ?_
  refine rk_vi (As := [.int x1, .int (1 : Int32), .int (0 : Int32)]) (rest := [.ref (ad 0)]) K hw (cc_X8_sideOf l D cy ad A g0 _ x1 (1 : Int32) (0 : Int32) hd) lk_X8_343 (ci := 8) rfl (q0 := 0) (wsM_at cy ad _ (by decide)) ⟨Nat.le_of_ble_eq_true rfl, Nat.le_of_ble_eq_true rfl⟩ ⟨Nat.zero_le _, Nat.zero_le _⟩ rfl hl.1 (Nat.le_of_ble_eq_true rfl) rfl dX8_carries_5 (fun r_2 g_1 H locs hd hw => ?_)
  refine lv_aload_n K.1 K.2.1 dX8_carries_8 rfl (lv_at hl 0 rfl) ?_
  refine lv_iload_n K.1 K.2.1 dX8_carries_9 rfl (lv_at hl 1 rfl) ?_
  refine lv_iconst (v := (-1 : Int32)) K.1 K.2.1 dX8_carries_10 (by decide) ?_
  refine lv_iconst (v := (0 : Int32)) K.1 K.2.1 dX8_carries_11 (by decide) ?_
  refine rk_vi (As := [.int x1, .int (-1 : Int32), .int (0 : Int32)]) (rest := [.int r_2, .ref (ad 0)]) K hw (cc_X8_sideOf l D cy ad A g_1 _ x1 (-1 : Int32) (0 : Int32) hd) lk_X8_343 (ci := 8) rfl (q0 := 0) (wsM_at cy ad _ (by decide)) ⟨Nat.le_of_ble_eq_true rfl, Nat.le_of_ble_eq_true rfl⟩ ⟨Nat.zero_le _, Nat.zero_le _⟩ rfl hl.1 (Nat.le_of_ble_eq_true rfl) rfl dX8_carries_12 (fun r_4 g_3 H locs hd hw => ?_)
  refine rk_vi (As := [.int r_2, .int r_4]) (rest := []) K hw (cc_X8_isCarried l D cy ad A g_3 _ r_2 r_4 hd) lk_X8_346 (ci := 8) rfl (q0 := 0) (wsM_at cy ad _ (by decide)) ⟨Nat.le_of_ble_eq_true rfl, Nat.le_of_ble_eq_true rfl⟩ ⟨Nat.zero_le _, Nat.zero_le _⟩ rfl hl.1 (Nat.le_of_ble_eq_true rfl) rfl dX8_carries_15 (fun r_6 g_5 H locs hd hw => ?_)
  exact rk_zret K hw hr hd.1 hd.2 dX8_carries_18
theorem dX8_votersOf_0 : decode cX8_votersOf 0 = .ok (.iconst 0, 1) := by decide +kernel
theorem dX8_votersOf_1 : decode cX8_votersOf 1 = .ok (.istore_n 3, 1) := by decide +kernel
theorem dX8_votersOf_2 : decode cX8_votersOf 2 = .ok (.iconst 0, 1) := by decide +kernel
theorem dX8_votersOf_3 : decode cX8_votersOf 3 = .ok (.istore 4, 2) := by decide +kernel
theorem dX8_votersOf_5 : decode cX8_votersOf 5 = .ok (.iload 4, 2) := by decide +kernel
theorem dX8_votersOf_7 : decode cX8_votersOf 7 = .ok (.aload_n 0, 1) := by decide +kernel
theorem dX8_votersOf_8 : decode cX8_votersOf 8 = .ok (.getfield 64, 3) := by decide +kernel
theorem dX8_votersOf_11 : decode cX8_votersOf 11 = .ok (.if_icmp .ge 40, 3) := by decide +kernel
theorem dX8_votersOf_14 : decode cX8_votersOf 14 = .ok (.iload_n 3, 1) := by decide +kernel
theorem dX8_votersOf_15 : decode cX8_votersOf 15 = .ok (.aload_n 0, 1) := by decide +kernel
theorem dX8_votersOf_16 : decode cX8_votersOf 16 = .ok (.iload 4, 2) := by decide +kernel
theorem dX8_votersOf_18 : decode cX8_votersOf 18 = .ok (.invokevirtual 115, 3) := by decide +kernel
theorem dX8_votersOf_21 : decode cX8_votersOf 21 = .ok (.ifCond .eq 18, 3) := by decide +kernel
theorem dX8_votersOf_24 : decode cX8_votersOf 24 = .ok (.aload_n 0, 1) := by decide +kernel
theorem dX8_votersOf_25 : decode cX8_votersOf 25 = .ok (.iload 4, 2) := by decide +kernel
theorem dX8_votersOf_27 : decode cX8_votersOf 27 = .ok (.iload_n 1, 1) := by decide +kernel
theorem dX8_votersOf_28 : decode cX8_votersOf 28 = .ok (.invokevirtual 118, 3) := by decide +kernel
theorem dX8_votersOf_31 : decode cX8_votersOf 31 = .ok (.iload_n 2, 1) := by decide +kernel
theorem dX8_votersOf_32 : decode cX8_votersOf 32 = .ok (.if_icmp .ne 7, 3) := by decide +kernel
theorem dX8_votersOf_35 : decode cX8_votersOf 35 = .ok (.iconst 1, 1) := by decide +kernel
theorem dX8_votersOf_36 : decode cX8_votersOf 36 = .ok (.goto 4, 3) := by decide +kernel
theorem dX8_votersOf_39 : decode cX8_votersOf 39 = .ok (.iconst 0, 1) := by decide +kernel
theorem dX8_votersOf_40 : decode cX8_votersOf 40 = .ok (.iload 4, 2) := by decide +kernel
theorem dX8_votersOf_42 : decode cX8_votersOf 42 = .ok (.ishl, 1) := by decide +kernel
theorem dX8_votersOf_43 : decode cX8_votersOf 43 = .ok (.ior, 1) := by decide +kernel
theorem dX8_votersOf_44 : decode cX8_votersOf 44 = .ok (.istore_n 3, 1) := by decide +kernel
theorem dX8_votersOf_45 : decode cX8_votersOf 45 = .ok (.iinc 4 1, 3) := by decide +kernel
theorem dX8_votersOf_48 : decode cX8_votersOf 48 = .ok (.goto (-43), 3) := by decide +kernel
theorem dX8_votersOf_51 : decode cX8_votersOf 51 = .ok (.iload_n 3, 1) := by decide +kernel
theorem dX8_votersOf_52 : decode cX8_votersOf 52 = .ok (.ireturn, 1) := by decide +kernel
set_option maxHeartbeats 4000000 in
set_option maxRecDepth 100000 in
theorem bb_X8_votersOf_40 {p : Program} {l : Launch} {e : Env} {s : State} {m : MethodId} {args : Array Value} {below : List Frame} {meth : Method} {c : Code} {D : va_G} {cy : Nat → ClassId} {ad : Nat → Nat} {A : Nat → Prop} {Q : Int32 → Sg → Prop} (K : Kx p s m args meth c cX8_votersOf 5 RX8 D cy) (hr : meth.sig.returnType = (some .int)) {rc5 : Int32 → Int32 → Int32 → Int32 → Sg → Prop} (hrc5 : ∀ (x1 : Int32) (x2 : Int32) (x3 : Int32) (x4 : Int32) (u : Sg) (H : Heap) (locs : List Loc) (ls : Array Slot), rc5 x1 x2 x3 x4 u → Wd D A s.heap (wsM cy ad u) H locs → lv_has ls 5 [(0, .ref (ad 0)), (1, .int x1), (2, .int x2), (3, .int x3), (4, .int x4)] → W p l e (rmD 45) s m args below meth c H locs 0 0 (MQ below (va_Qi Q (PostG (wsM cy ad) D A) A) args s 0 0 A) (F0 m 5 ls [])) (x1 : Int32) (x2 : Int32) (x4 : Int32) (t0 : Int32) (t1 : Int32) (g0 : Sg) (H : Heap) (locs : List Loc) (ls : Array Slot) (hd : vv_X8_votersOf_J40 rc5 x1 x2 x4 t0 t1 g0 Q) (hw : Wd D A s.heap (wsM cy ad g0) H locs) (hl : lv_has ls 5 [(0, .ref (ad 0)), (1, .int x1), (2, .int x2), (4, .int x4)]) : W p l e (rmD 45) s m args below meth c H locs 0 0 (MQ below (va_Qi Q (PostG (wsM cy ad) D A) A) args s 0 0 A) (F0 m 40 ls [.int t1, .int t0]) := by
  unfold vv_X8_votersOf_J40 at hd
  refine lv_iload K.1 K.2.1 dX8_votersOf_40 (lv_at hl 3 rfl) ?_
  refine lv_ishl K.1 K.2.1 dX8_votersOf_42 ?_
  refine lv_ior K.1 K.2.1 dX8_votersOf_43 ?_
  refine lv_topi (fun x3_7 ex3_7 => ?_)
  have hd := hd x3_7 ex3_7
  refine lv_istore_n (lv' := [(3, .int x3_7), (0, .ref (ad 0)), (1, .int x1), (2, .int x2), (4, .int x4)]) K.1 K.2.1 dX8_votersOf_44 rfl hl (by decide) rfl (fun ls hl => ?_)
  obtain ⟨x4_8, ex4_8⟩ : ∃ y : Int32, y = x4 + (1 : Int32) := ⟨_, rfl⟩
  have hd := hd x4_8 ex4_8
  refine lv_iinc (v := x4_8) (lv' := [(4, .int x4_8), (3, .int x3_7), (0, .ref (ad 0)), (1, .int x1), (2, .int x2)]) K.1 K.2.1 dX8_votersOf_45 hl (k := 4) rfl (by rw [ex4_8]; rfl) (by decide) rfl (fun ls hl => ?_)
  refine lv_goto (tgt := 5) K.1 K.2.1 dX8_votersOf_48 (by decide) ?_
  exact hrc5 x1 x2 x3_7 x4_8 g0 _ _ _ hd hw (lv_sub hl [2, 3, 4, 1, 0] rfl)
set_option maxHeartbeats 4000000 in
set_option maxRecDepth 100000 in
theorem bb_X8_votersOf_39 {p : Program} {l : Launch} {e : Env} {s : State} {m : MethodId} {args : Array Value} {below : List Frame} {meth : Method} {c : Code} {D : va_G} {cy : Nat → ClassId} {ad : Nat → Nat} {A : Nat → Prop} {Q : Int32 → Sg → Prop} (K : Kx p s m args meth c cX8_votersOf 5 RX8 D cy) (hr : meth.sig.returnType = (some .int)) {rc5 : Int32 → Int32 → Int32 → Int32 → Sg → Prop} (hrc5 : ∀ (x1 : Int32) (x2 : Int32) (x3 : Int32) (x4 : Int32) (u : Sg) (H : Heap) (locs : List Loc) (ls : Array Slot), rc5 x1 x2 x3 x4 u → Wd D A s.heap (wsM cy ad u) H locs → lv_has ls 5 [(0, .ref (ad 0)), (1, .int x1), (2, .int x2), (3, .int x3), (4, .int x4)] → W p l e (rmD 45) s m args below meth c H locs 0 0 (MQ below (va_Qi Q (PostG (wsM cy ad) D A) A) args s 0 0 A) (F0 m 5 ls [])) (x1 : Int32) (x2 : Int32) (x4 : Int32) (t0 : Int32) (g0 : Sg) (H : Heap) (locs : List Loc) (ls : Array Slot) (hd : vv_X8_votersOf_J39 rc5 x1 x2 x4 t0 g0 Q) (hw : Wd D A s.heap (wsM cy ad g0) H locs) (hl : lv_has ls 5 [(0, .ref (ad 0)), (1, .int x1), (2, .int x2), (4, .int x4)]) : W p l e (rmD 45) s m args below meth c H locs 0 0 (MQ below (va_Qi Q (PostG (wsM cy ad) D A) A) args s 0 0 A) (F0 m 39 ls [.int t0]) := by
  unfold vv_X8_votersOf_J39 at hd
  refine lv_iconst (v := (0 : Int32)) K.1 K.2.1 dX8_votersOf_39 (by decide) ?_
  exact bb_X8_votersOf_40 K hr hrc5 x1 x2 x4 t0 (0 : Int32) g0 _ _ _ hd hw (lv_sub hl [0, 1, 2, 3] rfl)
set_option maxHeartbeats 4000000 in
set_option maxRecDepth 100000 in
theorem bb_X8_votersOf_5 {p : Program} {l : Launch} {e : Env} {s : State} {m : MethodId} {args : Array Value} {below : List Frame} {meth : Method} {c : Code} {D : va_G} {cy : Nat → ClassId} {ad : Nat → Nat} {A : Nat → Prop} {Q : Int32 → Sg → Prop} (K : Kx p s m args meth c cX8_votersOf 5 RX8 D cy) (hr : meth.sig.returnType = (some .int)) : ∀ (n : Nat) (x1 : Int32) (x2 : Int32) (x3 : Int32) (x4 : Int32)  (g0 : Sg) (H : Heap) (locs : List Loc) (ls : Array Slot), vv_X8_votersOf_L5 Q n x1 x2 x3 x4 g0 → Wd D A s.heap (wsM cy ad g0) H locs → lv_has ls 5 [(0, .ref (ad 0)), (1, .int x1), (2, .int x2), (3, .int x3), (4, .int x4)] → W p l e (rmD 45) s m args below meth c H locs 0 0 (MQ below (va_Qi Q (PostG (wsM cy ad) D A) A) args s 0 0 A) (F0 m 5 ls []) := by
  intro n
  induction n with
  | zero => intro _ _ _ _ _ _ _ _ hd; exact hd.elim
  | succ n ih =>
    intro x1 x2 x3 x4 g0 H locs ls hd hw hl
    unfold vv_X8_votersOf_L5 at hd
    refine lv_iload K.1 K.2.1 dX8_votersOf_5 (lv_at hl 4 rfl) ?_
    refine lv_aload_n K.1 K.2.1 dX8_votersOf_7 rfl (lv_at hl 0 rfl) ?_
    refine rm_get 11 K hw (by decide) kf_X8_64 rfl dX8_votersOf_8 ?_
    refine lv_icmp_ge (tgt := 51) K.1 K.2.1 dX8_votersOf_11 (by decide) (fun h_3 => ?_) (fun h_3 => ?_)
    · have hd := hd.1 h_3
      refine lv_iload_n K.1 K.2.1 dX8_votersOf_51 rfl (lv_at hl 3 rfl) ?_
      exact rk_iret K hw hr hd dX8_votersOf_52
    · have hd := hd.2 h_3
      refine lv_iload_n K.1 K.2.1 dX8_votersOf_14 rfl (lv_at hl 3 rfl) ?_
      refine lv_aload_n K.1 K.2.1 dX8_votersOf_15 rfl (lv_at hl 0 rfl) ?_
      refine lv_iload K.1 K.2.1 dX8_votersOf_16 (lv_at hl 4 rfl) ?_
      refine rk_vi (As := [.int x4]) (rest := [.int x3]) K hw (cc_X8_isWhole l D cy ad A g0 _ x4 hd) lk_X8_115 (ci := 8) rfl (q0 := 0) (wsM_at cy ad _ (by decide)) ⟨Nat.le_of_ble_eq_true rfl, Nat.le_of_ble_eq_true rfl⟩ ⟨Nat.zero_le _, Nat.zero_le _⟩ rfl hl.1 (Nat.le_of_ble_eq_true rfl) rfl dX8_votersOf_18 (fun r_5 g_4 H locs hd hw => ?_)
      refine lv_if_eq (tgt := 39) K.1 K.2.1 dX8_votersOf_21 (by decide) (fun h_6 => ?_) (fun h_6 => ?_)
      · have hd := hd.1 h_6
        exact bb_X8_votersOf_39 K hr ih x1 x2 x4 x3 g_4 _ _ _ hd hw (lv_sub hl [0, 1, 2, 4] rfl)
      · have hd := hd.2 h_6
        refine lv_aload_n K.1 K.2.1 dX8_votersOf_24 rfl (lv_at hl 0 rfl) ?_
        refine lv_iload K.1 K.2.1 dX8_votersOf_25 (lv_at hl 4 rfl) ?_
        refine lv_iload_n K.1 K.2.1 dX8_votersOf_27 rfl (lv_at hl 1 rfl) ?_
        refine rk_vi (As := [.int x4, .int x1]) (rest := [.int x3]) K hw (cc_X8_voteOf l D cy ad A g_4 _ x4 x1 hd) lk_X8_118 (ci := 8) rfl (q0 := 0) (wsM_at cy ad _ (by decide)) ⟨Nat.le_of_ble_eq_true rfl, Nat.le_of_ble_eq_true rfl⟩ ⟨Nat.zero_le _, Nat.zero_le _⟩ rfl hl.1 (Nat.le_of_ble_eq_true rfl) rfl dX8_votersOf_28 (fun r_10 g_9 H locs hd hw => ?_)
        refine lv_iload_n K.1 K.2.1 dX8_votersOf_31 rfl (lv_at hl 2 rfl) ?_
        refine lv_icmp_ne (tgt := 39) K.1 K.2.1 dX8_votersOf_32 (by decide) (fun h_11 => ?_) (fun h_11 => ?_)
        · have hd := hd.1 h_11
          exact bb_X8_votersOf_39 K hr ih x1 x2 x4 x3 g_9 _ _ _ hd hw (lv_sub hl [0, 1, 2, 4] rfl)
        · have hd := hd.2 h_11
          refine lv_iconst (v := (1 : Int32)) K.1 K.2.1 dX8_votersOf_35 (by decide) ?_
          refine lv_goto (tgt := 40) K.1 K.2.1 dX8_votersOf_36 (by decide) ?_
          exact bb_X8_votersOf_40 K hr ih x1 x2 x4 x3 (1 : Int32) g_9 _ _ _ hd hw (lv_sub hl [0, 1, 2, 4] rfl)
set_option maxHeartbeats 4000000 in
set_option maxRecDepth 100000 in
theorem cc_X8_votersOf (l : Launch) (D : va_G) (cy : Nat → ClassId) (ad : Nat → Nat) (A : Nat → Prop) (g0 : Sg) (Q : Int32 → Sg → Prop) (x1 : Int32) (x2 : Int32) (hd : vv_X8_votersOf x1 x2 g0 Q) : Met l yX8_votersOf (Cond.code yX8_votersOf cX8_votersOf 5 (some .int) :: TT) (rmD 45) (va_Pc [.ref (ad 0), .int x1, .int x2] (PreG (wsM cy ad) D cy A g0)) (va_Qi Q (PostG (wsM cy ad) D A) A) 0 0 A := by
  unfold vv_X8_votersOf at hd
  refine Met.ofW (cc := cX8_votersOf) (maxL := 5) (ret := (some .int)) (by decide) rfl ?_
  intro p e s m args below meth c s₁ B hml hv
  obtain ⟨rfl, hP, hK0, hD⟩ := hv
  have K : Kx p s m _ meth c cX8_votersOf 5 RX8 D cy := ⟨B.exec, B.bytes, hml, findClass_of_methodNamed B.named, fun w h => atoms_spec (ws := Cond.code yX8_votersOf cX8_votersOf 5 (some .int) :: TT) B.pre w (List.mem_cons_of_mem _ h), hK0, B.notSynchronized⟩
  have hw : Wd D A s.heap (wsM cy ad g0) s.heap [] := ⟨hP, hD, va_S.rf⟩
  have hr := B.returns
  have hl := lv_entry ([.ref (ad 0), .int x1, .int x2]) (n := 5) (Nat.le_of_ble_eq_true rfl)
  rw [lg_entry_eq]
  generalize (lg_sl ([.ref (ad 0), .int x1, .int x2]) ++ List.replicate (5 - (lg_sl ([.ref (ad 0), .int x1, .int x2])).length) Slot.unset).toArray = ls at hl ⊢
  have hl : lv_has ls 5 [(0, .ref (ad 0)), (1, .int x1), (2, .int x2)] := hl
  refine lv_iconst (v := (0 : Int32)) K.1 K.2.1 dX8_votersOf_0 (by decide) ?_
  refine lv_topi (fun x3_1 ex3_1 => ?_)
  have hd := hd x3_1 ex3_1
  refine lv_istore_n (lv' := [(3, .int x3_1), (0, .ref (ad 0)), (1, .int x1), (2, .int x2)]) K.1 K.2.1 dX8_votersOf_1 rfl hl (by decide) rfl (fun ls hl => ?_)
  refine lv_iconst (v := (0 : Int32)) K.1 K.2.1 dX8_votersOf_2 (by decide) ?_
  refine lv_topi (fun x4_2 ex4_2 => ?_)
  have hd := hd x4_2 ex4_2
  refine lv_istore (lv' := [(4, .int x4_2), (3, .int x3_1), (0, .ref (ad 0)), (1, .int x1), (2, .int x2)]) K.1 K.2.1 dX8_votersOf_3 hl (by decide) rfl (fun ls hl => ?_)
  obtain ⟨n9, hd⟩ := hd
  exact bb_X8_votersOf_5 K hr  n9 x1 x2 x3_1 x4_2 g0 _ _ _ hd hw (lv_sub hl [2, 3, 4, 1, 0] rfl)
theorem dX8_balanceOf_0 : decode cX8_balanceOf 0 = .ok (.aload_n 0, 1) := by decide +kernel
theorem dX8_balanceOf_1 : decode cX8_balanceOf 1 = .ok (.iload_n 1, 1) := by decide +kernel
theorem dX8_balanceOf_2 : decode cX8_balanceOf 2 = .ok (.iconst 1, 1) := by decide +kernel
theorem dX8_balanceOf_3 : decode cX8_balanceOf 3 = .ok (.iconst 0, 1) := by decide +kernel
theorem dX8_balanceOf_4 : decode cX8_balanceOf 4 = .ok (.invokevirtual 343, 3) := by decide +kernel
theorem dX8_balanceOf_7 : decode cX8_balanceOf 7 = .ok (.istore_n 2, 1) := by decide +kernel
theorem dX8_balanceOf_8 : decode cX8_balanceOf 8 = .ok (.aload_n 0, 1) := by decide +kernel
theorem dX8_balanceOf_9 : decode cX8_balanceOf 9 = .ok (.iload_n 1, 1) := by decide +kernel
theorem dX8_balanceOf_10 : decode cX8_balanceOf 10 = .ok (.iconst (-1), 1) := by decide +kernel
theorem dX8_balanceOf_11 : decode cX8_balanceOf 11 = .ok (.iconst 0, 1) := by decide +kernel
theorem dX8_balanceOf_12 : decode cX8_balanceOf 12 = .ok (.invokevirtual 343, 3) := by decide +kernel
theorem dX8_balanceOf_15 : decode cX8_balanceOf 15 = .ok (.istore_n 3, 1) := by decide +kernel
theorem dX8_balanceOf_16 : decode cX8_balanceOf 16 = .ok (.iconst 0, 1) := by decide +kernel
theorem dX8_balanceOf_17 : decode cX8_balanceOf 17 = .ok (.istore 4, 2) := by decide +kernel
theorem dX8_balanceOf_19 : decode cX8_balanceOf 19 = .ok (.iconst 0, 1) := by decide +kernel
theorem dX8_balanceOf_20 : decode cX8_balanceOf 20 = .ok (.istore 5, 2) := by decide +kernel
theorem dX8_balanceOf_22 : decode cX8_balanceOf 22 = .ok (.iload 5, 2) := by decide +kernel
theorem dX8_balanceOf_24 : decode cX8_balanceOf 24 = .ok (.aload_n 0, 1) := by decide +kernel
theorem dX8_balanceOf_25 : decode cX8_balanceOf 25 = .ok (.getfield 64, 3) := by decide +kernel
theorem dX8_balanceOf_28 : decode cX8_balanceOf 28 = .ok (.if_icmp .ge 81, 3) := by decide +kernel
theorem dX8_balanceOf_31 : decode cX8_balanceOf 31 = .ok (.aload_n 0, 1) := by decide +kernel
theorem dX8_balanceOf_32 : decode cX8_balanceOf 32 = .ok (.iload 5, 2) := by decide +kernel
theorem dX8_balanceOf_34 : decode cX8_balanceOf 34 = .ok (.invokevirtual 115, 3) := by decide +kernel
theorem dX8_balanceOf_37 : decode cX8_balanceOf 37 = .ok (.ifCond .eq 13, 3) := by decide +kernel
theorem dX8_balanceOf_40 : decode cX8_balanceOf 40 = .ok (.aload_n 0, 1) := by decide +kernel
theorem dX8_balanceOf_41 : decode cX8_balanceOf 41 = .ok (.iload 5, 2) := by decide +kernel
theorem dX8_balanceOf_43 : decode cX8_balanceOf 43 = .ok (.iload_n 1, 1) := by decide +kernel
theorem dX8_balanceOf_44 : decode cX8_balanceOf 44 = .ok (.invokevirtual 118, 3) := by decide +kernel
theorem dX8_balanceOf_47 : decode cX8_balanceOf 47 = .ok (.goto 4, 3) := by decide +kernel
theorem dX8_balanceOf_50 : decode cX8_balanceOf 50 = .ok (.iconst 0, 1) := by decide +kernel
theorem dX8_balanceOf_51 : decode cX8_balanceOf 51 = .ok (.istore 6, 2) := by decide +kernel
theorem dX8_balanceOf_53 : decode cX8_balanceOf 53 = .ok (.iload 6, 2) := by decide +kernel
theorem dX8_balanceOf_55 : decode cX8_balanceOf 55 = .ok (.aload_n 0, 1) := by decide +kernel
theorem dX8_balanceOf_56 : decode cX8_balanceOf 56 = .ok (.iload 5, 2) := by decide +kernel
theorem dX8_balanceOf_58 : decode cX8_balanceOf 58 = .ok (.invokevirtual 121, 3) := by decide +kernel
theorem dX8_balanceOf_61 : decode cX8_balanceOf 61 = .ok (.imul, 1) := by decide +kernel
theorem dX8_balanceOf_62 : decode cX8_balanceOf 62 = .ok (.istore 7, 2) := by decide +kernel
theorem dX8_balanceOf_64 : decode cX8_balanceOf 64 = .ok (.iload 4, 2) := by decide +kernel
theorem dX8_balanceOf_66 : decode cX8_balanceOf 66 = .ok (.iload 6, 2) := by decide +kernel
theorem dX8_balanceOf_68 : decode cX8_balanceOf 68 = .ok (.ifCond .eq 28, 3) := by decide +kernel
theorem dX8_balanceOf_71 : decode cX8_balanceOf 71 = .ok (.aload_n 0, 1) := by decide +kernel
theorem dX8_balanceOf_72 : decode cX8_balanceOf 72 = .ok (.iload_n 2, 1) := by decide +kernel
theorem dX8_balanceOf_73 : decode cX8_balanceOf 73 = .ok (.iload 7, 2) := by decide +kernel
theorem dX8_balanceOf_75 : decode cX8_balanceOf 75 = .ok (.isub, 1) := by decide +kernel
theorem dX8_balanceOf_76 : decode cX8_balanceOf 76 = .ok (.iload_n 3, 1) := by decide +kernel
theorem dX8_balanceOf_77 : decode cX8_balanceOf 77 = .ok (.iload 7, 2) := by decide +kernel
theorem dX8_balanceOf_79 : decode cX8_balanceOf 79 = .ok (.iadd, 1) := by decide +kernel
theorem dX8_balanceOf_80 : decode cX8_balanceOf 80 = .ok (.invokevirtual 346, 3) := by decide +kernel
theorem dX8_balanceOf_83 : decode cX8_balanceOf 83 = .ok (.aload_n 0, 1) := by decide +kernel
theorem dX8_balanceOf_84 : decode cX8_balanceOf 84 = .ok (.iload_n 2, 1) := by decide +kernel
theorem dX8_balanceOf_85 : decode cX8_balanceOf 85 = .ok (.iload_n 3, 1) := by decide +kernel
theorem dX8_balanceOf_86 : decode cX8_balanceOf 86 = .ok (.invokevirtual 346, 3) := by decide +kernel
theorem dX8_balanceOf_89 : decode cX8_balanceOf 89 = .ok (.if_icmp .eq 7, 3) := by decide +kernel
theorem dX8_balanceOf_92 : decode cX8_balanceOf 92 = .ok (.iconst 1, 1) := by decide +kernel
theorem dX8_balanceOf_93 : decode cX8_balanceOf 93 = .ok (.goto 4, 3) := by decide +kernel
theorem dX8_balanceOf_96 : decode cX8_balanceOf 96 = .ok (.iconst 0, 1) := by decide +kernel
theorem dX8_balanceOf_97 : decode cX8_balanceOf 97 = .ok (.iload 5, 2) := by decide +kernel
theorem dX8_balanceOf_99 : decode cX8_balanceOf 99 = .ok (.ishl, 1) := by decide +kernel
theorem dX8_balanceOf_100 : decode cX8_balanceOf 100 = .ok (.ior, 1) := by decide +kernel
theorem dX8_balanceOf_101 : decode cX8_balanceOf 101 = .ok (.istore 4, 2) := by decide +kernel
theorem dX8_balanceOf_103 : decode cX8_balanceOf 103 = .ok (.iinc 5 1, 3) := by decide +kernel
theorem dX8_balanceOf_106 : decode cX8_balanceOf 106 = .ok (.goto (-84), 3) := by decide +kernel
theorem dX8_balanceOf_109 : decode cX8_balanceOf 109 = .ok (.iload 4, 2) := by decide +kernel
theorem dX8_balanceOf_111 : decode cX8_balanceOf 111 = .ok (.ireturn, 1) := by decide +kernel
set_option maxHeartbeats 4000000 in
set_option maxRecDepth 100000 in
theorem bb_X8_balanceOf_97 {p : Program} {l : Launch} {e : Env} {s : State} {m : MethodId} {args : Array Value} {below : List Frame} {meth : Method} {c : Code} {D : va_G} {cy : Nat → ClassId} {ad : Nat → Nat} {A : Nat → Prop} {Q : Int32 → Sg → Prop} (K : Kx p s m args meth c cX8_balanceOf 8 RX8 D cy) (hr : meth.sig.returnType = (some .int)) {rc22 : Int32 → Int32 → Int32 → Int32 → Int32 → Sg → Prop} (hrc22 : ∀ (x1 : Int32) (x2 : Int32) (x3 : Int32) (x4 : Int32) (x5 : Int32) (u : Sg) (H : Heap) (locs : List Loc) (ls : Array Slot), rc22 x1 x2 x3 x4 x5 u → Wd D A s.heap (wsM cy ad u) H locs → lv_has ls 8 [(0, .ref (ad 0)), (1, .int x1), (2, .int x2), (3, .int x3), (4, .int x4), (5, .int x5)] → W p l e (rmD 46) s m args below meth c H locs 0 0 (MQ below (va_Qi Q (PostG (wsM cy ad) D A) A) args s 0 0 A) (F0 m 22 ls [])) (x1 : Int32) (x2 : Int32) (x3 : Int32) (x5 : Int32) (t0 : Int32) (t1 : Int32) (g0 : Sg) (H : Heap) (locs : List Loc) (ls : Array Slot) (hd : vv_X8_balanceOf_J97 rc22 x1 x2 x3 x5 t0 t1 g0 Q) (hw : Wd D A s.heap (wsM cy ad g0) H locs) (hl : lv_has ls 8 [(0, .ref (ad 0)), (1, .int x1), (2, .int x2), (3, .int x3), (5, .int x5)]) : W p l e (rmD 46) s m args below meth c H locs 0 0 (MQ below (va_Qi Q (PostG (wsM cy ad) D A) A) args s 0 0 A) (F0 m 97 ls [.int t1, .int t0]) := by
  unfold vv_X8_balanceOf_J97 at hd
  refine lv_iload K.1 K.2.1 dX8_balanceOf_97 (lv_at hl 4 rfl) ?_
  refine lv_ishl K.1 K.2.1 dX8_balanceOf_99 ?_
  refine lv_ior K.1 K.2.1 dX8_balanceOf_100 ?_
  refine lv_topi (fun x4_18 ex4_18 => ?_)
  have hd := hd x4_18 ex4_18
  refine lv_istore (lv' := [(4, .int x4_18), (0, .ref (ad 0)), (1, .int x1), (2, .int x2), (3, .int x3), (5, .int x5)]) K.1 K.2.1 dX8_balanceOf_101 hl (by decide) rfl (fun ls hl => ?_)
  obtain ⟨x5_19, ex5_19⟩ : ∃ y : Int32, y = x5 + (1 : Int32) := ⟨_, rfl⟩
  have hd := hd x5_19 ex5_19
  refine lv_iinc (v := x5_19) (lv' := [(5, .int x5_19), (4, .int x4_18), (0, .ref (ad 0)), (1, .int x1), (2, .int x2), (3, .int x3)]) K.1 K.2.1 dX8_balanceOf_103 hl (k := 5) rfl (by rw [ex5_19]; rfl) (by decide) rfl (fun ls hl => ?_)
  refine lv_goto (tgt := 22) K.1 K.2.1 dX8_balanceOf_106 (by decide) ?_
  exact hrc22 x1 x2 x3 x4_18 x5_19 g0 _ _ _ hd hw (lv_sub hl [2, 3, 4, 5, 1, 0] rfl)
set_option maxHeartbeats 4000000 in
set_option maxRecDepth 100000 in
theorem bb_X8_balanceOf_96 {p : Program} {l : Launch} {e : Env} {s : State} {m : MethodId} {args : Array Value} {below : List Frame} {meth : Method} {c : Code} {D : va_G} {cy : Nat → ClassId} {ad : Nat → Nat} {A : Nat → Prop} {Q : Int32 → Sg → Prop} (K : Kx p s m args meth c cX8_balanceOf 8 RX8 D cy) (hr : meth.sig.returnType = (some .int)) {rc22 : Int32 → Int32 → Int32 → Int32 → Int32 → Sg → Prop} (hrc22 : ∀ (x1 : Int32) (x2 : Int32) (x3 : Int32) (x4 : Int32) (x5 : Int32) (u : Sg) (H : Heap) (locs : List Loc) (ls : Array Slot), rc22 x1 x2 x3 x4 x5 u → Wd D A s.heap (wsM cy ad u) H locs → lv_has ls 8 [(0, .ref (ad 0)), (1, .int x1), (2, .int x2), (3, .int x3), (4, .int x4), (5, .int x5)] → W p l e (rmD 46) s m args below meth c H locs 0 0 (MQ below (va_Qi Q (PostG (wsM cy ad) D A) A) args s 0 0 A) (F0 m 22 ls [])) (x1 : Int32) (x2 : Int32) (x3 : Int32) (x5 : Int32) (t0 : Int32) (g0 : Sg) (H : Heap) (locs : List Loc) (ls : Array Slot) (hd : vv_X8_balanceOf_J96 rc22 x1 x2 x3 x5 t0 g0 Q) (hw : Wd D A s.heap (wsM cy ad g0) H locs) (hl : lv_has ls 8 [(0, .ref (ad 0)), (1, .int x1), (2, .int x2), (3, .int x3), (5, .int x5)]) : W p l e (rmD 46) s m args below meth c H locs 0 0 (MQ below (va_Qi Q (PostG (wsM cy ad) D A) A) args s 0 0 A) (F0 m 96 ls [.int t0]) := by
  unfold vv_X8_balanceOf_J96 at hd
  refine lv_iconst (v := (0 : Int32)) K.1 K.2.1 dX8_balanceOf_96 (by decide) ?_
  exact bb_X8_balanceOf_97 K hr hrc22 x1 x2 x3 x5 t0 (0 : Int32) g0 _ _ _ hd hw (lv_sub hl [0, 1, 2, 3, 4] rfl)
set_option maxHeartbeats 4000000 in
set_option maxRecDepth 100000 in
theorem bb_X8_balanceOf_51 {p : Program} {l : Launch} {e : Env} {s : State} {m : MethodId} {args : Array Value} {below : List Frame} {meth : Method} {c : Code} {D : va_G} {cy : Nat → ClassId} {ad : Nat → Nat} {A : Nat → Prop} {Q : Int32 → Sg → Prop} (K : Kx p s m args meth c cX8_balanceOf 8 RX8 D cy) (hr : meth.sig.returnType = (some .int)) {rc22 : Int32 → Int32 → Int32 → Int32 → Int32 → Sg → Prop} (hrc22 : ∀ (x1 : Int32) (x2 : Int32) (x3 : Int32) (x4 : Int32) (x5 : Int32) (u : Sg) (H : Heap) (locs : List Loc) (ls : Array Slot), rc22 x1 x2 x3 x4 x5 u → Wd D A s.heap (wsM cy ad u) H locs → lv_has ls 8 [(0, .ref (ad 0)), (1, .int x1), (2, .int x2), (3, .int x3), (4, .int x4), (5, .int x5)] → W p l e (rmD 46) s m args below meth c H locs 0 0 (MQ below (va_Qi Q (PostG (wsM cy ad) D A) A) args s 0 0 A) (F0 m 22 ls [])) (x1 : Int32) (x2 : Int32) (x3 : Int32) (x4 : Int32) (x5 : Int32) (t0 : Int32) (g0 : Sg) (H : Heap) (locs : List Loc) (ls : Array Slot) (hd : vv_X8_balanceOf_J51 rc22 x1 x2 x3 x4 x5 t0 g0 Q) (hw : Wd D A s.heap (wsM cy ad g0) H locs) (hl : lv_has ls 8 [(0, .ref (ad 0)), (1, .int x1), (2, .int x2), (3, .int x3), (4, .int x4), (5, .int x5)]) : W p l e (rmD 46) s m args below meth c H locs 0 0 (MQ below (va_Qi Q (PostG (wsM cy ad) D A) A) args s 0 0 A) (F0 m 51 ls [.int t0]) := by
  unfold vv_X8_balanceOf_J51 at hd
  refine lv_topi (fun x6_13 ex6_13 => ?_)
  have hd := hd x6_13 ex6_13
  refine lv_istore (lv' := [(6, .int x6_13), (0, .ref (ad 0)), (1, .int x1), (2, .int x2), (3, .int x3), (4, .int x4), (5, .int x5)]) K.1 K.2.1 dX8_balanceOf_51 hl (by decide) rfl (fun ls hl => ?_)
  refine lv_iload K.1 K.2.1 dX8_balanceOf_53 (lv_at hl 0 rfl) ?_
  refine lv_aload_n K.1 K.2.1 dX8_balanceOf_55 rfl (lv_at hl 1 rfl) ?_
  refine lv_iload K.1 K.2.1 dX8_balanceOf_56 (lv_at hl 6 rfl) ?_
  refine rk_vi (As := [.int x5]) (rest := [.int x6_13]) K hw (cc_X8_weighsOf l D cy ad A g0 _ x5 hd) lk_X8_121 (ci := 8) rfl (q0 := 0) (wsM_at cy ad _ (by decide)) ⟨Nat.le_of_ble_eq_true rfl, Nat.le_of_ble_eq_true rfl⟩ ⟨Nat.zero_le _, Nat.zero_le _⟩ rfl hl.1 (Nat.le_of_ble_eq_true rfl) rfl dX8_balanceOf_58 (fun r_15 g_14 H locs hd hw => ?_)
  refine lv_imul K.1 K.2.1 dX8_balanceOf_61 ?_
  refine lv_topi (fun x7_16 ex7_16 => ?_)
  have hd := hd x7_16 ex7_16
  refine lv_istore (lv' := [(7, .int x7_16), (6, .int x6_13), (0, .ref (ad 0)), (1, .int x1), (2, .int x2), (3, .int x3), (4, .int x4), (5, .int x5)]) K.1 K.2.1 dX8_balanceOf_62 hl (by decide) rfl (fun ls hl => ?_)
  refine lv_iload K.1 K.2.1 dX8_balanceOf_64 (lv_at hl 6 rfl) ?_
  refine lv_iload K.1 K.2.1 dX8_balanceOf_66 (lv_at hl 1 rfl) ?_
  refine lv_if_eq (tgt := 96) K.1 K.2.1 dX8_balanceOf_68 (by decide) (fun h_17 => ?_) (fun h_17 => ?_)
  · have hd := hd.1 h_17
    exact bb_X8_balanceOf_96 K hr hrc22 x1 x2 x3 x5 x4 g_14 _ _ _ hd hw (lv_sub hl [2, 3, 4, 5, 7] rfl)
  · have hd := hd.2 h_17
    refine lv_aload_n K.1 K.2.1 dX8_balanceOf_71 rfl (lv_at hl 2 rfl) ?_
    refine lv_iload_n K.1 K.2.1 dX8_balanceOf_72 rfl (lv_at hl 4 rfl) ?_
    refine lv_iload K.1 K.2.1 dX8_balanceOf_73 (lv_at hl 0 rfl) ?_
    refine lv_isub K.1 K.2.1 dX8_balanceOf_75 ?_
    refine lv_iload_n K.1 K.2.1 dX8_balanceOf_76 rfl (lv_at hl 5 rfl) ?_
    refine lv_iload K.1 K.2.1 dX8_balanceOf_77 (lv_at hl 0 rfl) ?_
    refine lv_iadd K.1 K.2.1 dX8_balanceOf_79 ?_
    refine rk_vi (As := [.int (x2 - x7_16), .int (x3 + x7_16)]) (rest := [.int x4]) K hw (cc_X8_isCarried l D cy ad A g_14 _ (x2 - x7_16) (x3 + x7_16) hd) lk_X8_346 (ci := 8) rfl (q0 := 0) (wsM_at cy ad _ (by decide)) ⟨Nat.le_of_ble_eq_true rfl, Nat.le_of_ble_eq_true rfl⟩ ⟨Nat.zero_le _, Nat.zero_le _⟩ rfl hl.1 (Nat.le_of_ble_eq_true rfl) rfl dX8_balanceOf_80 (fun r_21 g_20 H locs hd hw => ?_)
    refine lv_aload_n K.1 K.2.1 dX8_balanceOf_83 rfl (lv_at hl 2 rfl) ?_
    refine lv_iload_n K.1 K.2.1 dX8_balanceOf_84 rfl (lv_at hl 4 rfl) ?_
    refine lv_iload_n K.1 K.2.1 dX8_balanceOf_85 rfl (lv_at hl 5 rfl) ?_
    refine rk_vi (As := [.int x2, .int x3]) (rest := [.int r_21, .int x4]) K hw (cc_X8_isCarried l D cy ad A g_20 _ x2 x3 hd) lk_X8_346 (ci := 8) rfl (q0 := 0) (wsM_at cy ad _ (by decide)) ⟨Nat.le_of_ble_eq_true rfl, Nat.le_of_ble_eq_true rfl⟩ ⟨Nat.zero_le _, Nat.zero_le _⟩ rfl hl.1 (Nat.le_of_ble_eq_true rfl) rfl dX8_balanceOf_86 (fun r_23 g_22 H locs hd hw => ?_)
    refine lv_icmp_eq (tgt := 96) K.1 K.2.1 dX8_balanceOf_89 (by decide) (fun h_24 => ?_) (fun h_24 => ?_)
    · have hd := hd.1 h_24
      exact bb_X8_balanceOf_96 K hr hrc22 x1 x2 x3 x5 x4 g_22 _ _ _ hd hw (lv_sub hl [2, 3, 4, 5, 7] rfl)
    · have hd := hd.2 h_24
      refine lv_iconst (v := (1 : Int32)) K.1 K.2.1 dX8_balanceOf_92 (by decide) ?_
      refine lv_goto (tgt := 97) K.1 K.2.1 dX8_balanceOf_93 (by decide) ?_
      exact bb_X8_balanceOf_97 K hr hrc22 x1 x2 x3 x5 x4 (1 : Int32) g_22 _ _ _ hd hw (lv_sub hl [2, 3, 4, 5, 7] rfl)
set_option maxHeartbeats 4000000 in
set_option maxRecDepth 100000 in
theorem bb_X8_balanceOf_22 {p : Program} {l : Launch} {e : Env} {s : State} {m : MethodId} {args : Array Value} {below : List Frame} {meth : Method} {c : Code} {D : va_G} {cy : Nat → ClassId} {ad : Nat → Nat} {A : Nat → Prop} {Q : Int32 → Sg → Prop} (K : Kx p s m args meth c cX8_balanceOf 8 RX8 D cy) (hr : meth.sig.returnType = (some .int)) : ∀ (n : Nat) (x1 : Int32) (x2 : Int32) (x3 : Int32) (x4 : Int32) (x5 : Int32)  (g0 : Sg) (H : Heap) (locs : List Loc) (ls : Array Slot), vv_X8_balanceOf_L22 Q n x1 x2 x3 x4 x5 g0 → Wd D A s.heap (wsM cy ad g0) H locs → lv_has ls 8 [(0, .ref (ad 0)), (1, .int x1), (2, .int x2), (3, .int x3), (4, .int x4), (5, .int x5)] → W p l e (rmD 46) s m args below meth c H locs 0 0 (MQ below (va_Qi Q (PostG (wsM cy ad) D A) A) args s 0 0 A) (F0 m 22 ls []) := by
  intro n
  induction n with
  | zero => intro _ _ _ _ _ _ _ _ _ hd; exact hd.elim
  | succ n ih =>
    intro x1 x2 x3 x4 x5 g0 H locs ls hd hw hl
    unfold vv_X8_balanceOf_L22 at hd
    refine lv_iload K.1 K.2.1 dX8_balanceOf_22 (lv_at hl 5 rfl) ?_
    refine lv_aload_n K.1 K.2.1 dX8_balanceOf_24 rfl (lv_at hl 0 rfl) ?_
    refine rm_get 11 K hw (by decide) kf_X8_64 rfl dX8_balanceOf_25 ?_
    refine lv_icmp_ge (tgt := 109) K.1 K.2.1 dX8_balanceOf_28 (by decide) (fun h_9 => ?_) (fun h_9 => ?_)
    · have hd := hd.1 h_9
      refine lv_iload K.1 K.2.1 dX8_balanceOf_109 (lv_at hl 4 rfl) ?_
      exact rk_iret K hw hr hd dX8_balanceOf_111
    · have hd := hd.2 h_9
      refine lv_aload_n K.1 K.2.1 dX8_balanceOf_31 rfl (lv_at hl 0 rfl) ?_
      refine lv_iload K.1 K.2.1 dX8_balanceOf_32 (lv_at hl 5 rfl) ?_
      refine rk_vi (As := [.int x5]) (rest := []) K hw (cc_X8_isWhole l D cy ad A g0 _ x5 hd) lk_X8_115 (ci := 8) rfl (q0 := 0) (wsM_at cy ad _ (by decide)) ⟨Nat.le_of_ble_eq_true rfl, Nat.le_of_ble_eq_true rfl⟩ ⟨Nat.zero_le _, Nat.zero_le _⟩ rfl hl.1 (Nat.le_of_ble_eq_true rfl) rfl dX8_balanceOf_34 (fun r_11 g_10 H locs hd hw => ?_)
      refine lv_if_eq (tgt := 50) K.1 K.2.1 dX8_balanceOf_37 (by decide) (fun h_12 => ?_) (fun h_12 => ?_)
      · have hd := hd.1 h_12
        refine lv_iconst (v := (0 : Int32)) K.1 K.2.1 dX8_balanceOf_50 (by decide) ?_
        exact bb_X8_balanceOf_51 K hr ih x1 x2 x3 x4 x5 (0 : Int32) g_10 _ _ _ hd hw (lv_sub hl [0, 1, 2, 3, 4, 5] rfl)
      · have hd := hd.2 h_12
        refine lv_aload_n K.1 K.2.1 dX8_balanceOf_40 rfl (lv_at hl 0 rfl) ?_
        refine lv_iload K.1 K.2.1 dX8_balanceOf_41 (lv_at hl 5 rfl) ?_
        refine lv_iload_n K.1 K.2.1 dX8_balanceOf_43 rfl (lv_at hl 1 rfl) ?_
        refine rk_vi (As := [.int x5, .int x1]) (rest := []) K hw (cc_X8_voteOf l D cy ad A g_10 _ x5 x1 hd) lk_X8_118 (ci := 8) rfl (q0 := 0) (wsM_at cy ad _ (by decide)) ⟨Nat.le_of_ble_eq_true rfl, Nat.le_of_ble_eq_true rfl⟩ ⟨Nat.zero_le _, Nat.zero_le _⟩ rfl hl.1 (Nat.le_of_ble_eq_true rfl) rfl dX8_balanceOf_44 (fun r_26 g_25 H locs hd hw => ?_)
        refine lv_goto (tgt := 51) K.1 K.2.1 dX8_balanceOf_47 (by decide) ?_
        exact bb_X8_balanceOf_51 K hr ih x1 x2 x3 x4 x5 r_26 g_25 _ _ _ hd hw (lv_sub hl [0, 1, 2, 3, 4, 5] rfl)
set_option maxHeartbeats 4000000 in
set_option maxRecDepth 100000 in
theorem cc_X8_balanceOf (l : Launch) (D : va_G) (cy : Nat → ClassId) (ad : Nat → Nat) (A : Nat → Prop) (g0 : Sg) (Q : Int32 → Sg → Prop) (x1 : Int32) (hd : vv_X8_balanceOf x1 g0 Q) : Met l yX8_balanceOf (Cond.code yX8_balanceOf cX8_balanceOf 8 (some .int) :: TT) (rmD 46) (va_Pc [.ref (ad 0), .int x1] (PreG (wsM cy ad) D cy A g0)) (va_Qi Q (PostG (wsM cy ad) D A) A) 0 0 A := by
  unfold vv_X8_balanceOf at hd
  refine Met.ofW (cc := cX8_balanceOf) (maxL := 8) (ret := (some .int)) (by decide) rfl ?_
  intro p e s m args below meth c s₁ B hml hv
  obtain ⟨rfl, hP, hK0, hD⟩ := hv
  have K : Kx p s m _ meth c cX8_balanceOf 8 RX8 D cy := ⟨B.exec, B.bytes, hml, findClass_of_methodNamed B.named, fun w h => atoms_spec (ws := Cond.code yX8_balanceOf cX8_balanceOf 8 (some .int) :: TT) B.pre w (List.mem_cons_of_mem _ h), hK0, B.notSynchronized⟩
  have hw : Wd D A s.heap (wsM cy ad g0) s.heap [] := ⟨hP, hD, va_S.rf⟩
  have hr := B.returns
  have hl := lv_entry ([.ref (ad 0), .int x1]) (n := 8) (Nat.le_of_ble_eq_true rfl)
  rw [lg_entry_eq]
  generalize (lg_sl ([.ref (ad 0), .int x1]) ++ List.replicate (8 - (lg_sl ([.ref (ad 0), .int x1])).length) Slot.unset).toArray = ls at hl ⊢
  have hl : lv_has ls 8 [(0, .ref (ad 0)), (1, .int x1)] := hl
  refine lv_aload_n K.1 K.2.1 dX8_balanceOf_0 rfl (lv_at hl 0 rfl) ?_
  refine lv_iload_n K.1 K.2.1 dX8_balanceOf_1 rfl (lv_at hl 1 rfl) ?_
  refine lv_iconst (v := (1 : Int32)) K.1 K.2.1 dX8_balanceOf_2 (by decide) ?_
  refine lv_iconst (v := (0 : Int32)) K.1 K.2.1 dX8_balanceOf_3 (by decide) ?_
  refine rk_vi (As := [.int x1, .int (1 : Int32), .int (0 : Int32)]) (rest := []) K hw (cc_X8_sideOf l D cy ad A g0 _ x1 (1 : Int32) (0 : Int32) hd) lk_X8_343 (ci := 8) rfl (q0 := 0) (wsM_at cy ad _ (by decide)) ⟨Nat.le_of_ble_eq_true rfl, Nat.le_of_ble_eq_true rfl⟩ ⟨Nat.zero_le _, Nat.zero_le _⟩ rfl hl.1 (Nat.le_of_ble_eq_true rfl) rfl dX8_balanceOf_4 (fun r_2 g_1 H locs hd hw => ?_)
  refine lv_topi (fun x2_3 ex2_3 => ?_)
  have hd := hd x2_3 ex2_3
  refine lv_istore_n (lv' := [(2, .int x2_3), (0, .ref (ad 0)), (1, .int x1)]) K.1 K.2.1 dX8_balanceOf_7 rfl hl (by decide) rfl (fun ls hl => ?_)
  refine lv_aload_n K.1 K.2.1 dX8_balanceOf_8 rfl (lv_at hl 1 rfl) ?_
  refine lv_iload_n K.1 K.2.1 dX8_balanceOf_9 rfl (lv_at hl 2 rfl) ?_
  refine lv_iconst (v := (-1 : Int32)) K.1 K.2.1 dX8_balanceOf_10 (by decide) ?_
  refine lv_iconst (v := (0 : Int32)) K.1 K.2.1 dX8_balanceOf_11 (by decide) ?_
  refine rk_vi (As := [.int x1, .int (-1 : Int32), .int (0 : Int32)]) (rest := []) K hw (cc_X8_sideOf l D cy ad A g_1 _ x1 (-1 : Int32) (0 : Int32) hd) lk_X8_343 (ci := 8) rfl (q0 := 0) (wsM_at cy ad _ (by decide)) ⟨Nat.le_of_ble_eq_true rfl, Nat.le_of_ble_eq_true rfl⟩ ⟨Nat.zero_le _, Nat.zero_le _⟩ rfl hl.1 (Nat.le_of_ble_eq_true rfl) rfl dX8_balanceOf_12 (fun r_5 g_4 H locs hd hw => ?_)
  refine lv_topi (fun x3_6 ex3_6 => ?_)
  have hd := hd x3_6 ex3_6
  refine lv_istore_n (lv' := [(3, .int x3_6), (2, .int x2_3), (0, .ref (ad 0)), (1, .int x1)]) K.1 K.2.1 dX8_balanceOf_15 rfl hl (by decide) rfl (fun ls hl => ?_)
  refine lv_iconst (v := (0 : Int32)) K.1 K.2.1 dX8_balanceOf_16 (by decide) ?_
  refine lv_topi (fun x4_7 ex4_7 => ?_)
  have hd := hd x4_7 ex4_7
  refine lv_istore (lv' := [(4, .int x4_7), (3, .int x3_6), (2, .int x2_3), (0, .ref (ad 0)), (1, .int x1)]) K.1 K.2.1 dX8_balanceOf_17 hl (by decide) rfl (fun ls hl => ?_)
  refine lv_iconst (v := (0 : Int32)) K.1 K.2.1 dX8_balanceOf_19 (by decide) ?_
  refine lv_topi (fun x5_8 ex5_8 => ?_)
  have hd := hd x5_8 ex5_8
  refine lv_istore (lv' := [(5, .int x5_8), (4, .int x4_7), (3, .int x3_6), (2, .int x2_3), (0, .ref (ad 0)), (1, .int x1)]) K.1 K.2.1 dX8_balanceOf_20 hl (by decide) rfl (fun ls hl => ?_)
  obtain ⟨n9, hd⟩ := hd
  exact bb_X8_balanceOf_22 K hr  n9 x1 x2_3 x3_6 x4_7 x5_8 g_4 _ _ _ hd hw (lv_sub hl [4, 5, 3, 2, 1, 0] rfl)
theorem dX8_division_0 : decode cX8_division 0 = .ok (.iload_n 1, 1) := by decide +kernel
theorem dX8_division_1 : decode cX8_division 1 = .ok (.i2l, 1) := by decide +kernel
theorem dX8_division_2 : decode cX8_division 2 = .ok (.lconst 0, 1) := by decide +kernel
theorem dX8_division_3 : decode cX8_division 3 = .ok (.ldc2_w 349, 3) := by decide +kernel
theorem dX8_division_6 : decode cX8_division 6 = .ok (.invokestatic 67, 3) := by decide +kernel
theorem dX8_division_9 : decode cX8_division 9 = .ok (.ifCond .eq 15, 3) := by decide +kernel
theorem dX8_division_12 : decode cX8_division 12 = .ok (.iload_n 2, 1) := by decide +kernel
theorem dX8_division_13 : decode cX8_division 13 = .ok (.i2l, 1) := by decide +kernel
theorem dX8_division_14 : decode cX8_division 14 = .ok (.lconst 0, 1) := by decide +kernel
theorem dX8_division_15 : decode cX8_division 15 = .ok (.ldc2_w 98, 3) := by decide +kernel
theorem dX8_division_18 : decode cX8_division 18 = .ok (.invokestatic 67, 3) := by decide +kernel
theorem dX8_division_21 : decode cX8_division 21 = .ok (.ifCond .ne 6, 3) := by decide +kernel
theorem dX8_division_24 : decode cX8_division 24 = .ok (.bipush (-2), 2) := by decide +kernel
theorem dX8_division_26 : decode cX8_division 26 = .ok (.ireturn, 1) := by decide +kernel
theorem dX8_division_27 : decode cX8_division 27 = .ok (.iload_n 2, 1) := by decide +kernel
theorem dX8_division_28 : decode cX8_division 28 = .ok (.iconst 2, 1) := by decide +kernel
theorem dX8_division_29 : decode cX8_division 29 = .ok (.if_icmp .ge 19, 3) := by decide +kernel
theorem dX8_division_32 : decode cX8_division 32 = .ok (.aload_n 0, 1) := by decide +kernel
theorem dX8_division_33 : decode cX8_division 33 = .ok (.iload_n 1, 1) := by decide +kernel
theorem dX8_division_34 : decode cX8_division 34 = .ok (.iload_n 2, 1) := by decide +kernel
theorem dX8_division_35 : decode cX8_division 35 = .ok (.ifCond .ne 7, 3) := by decide +kernel
theorem dX8_division_38 : decode cX8_division 38 = .ok (.iconst 1, 1) := by decide +kernel
theorem dX8_division_39 : decode cX8_division 39 = .ok (.goto 4, 3) := by decide +kernel
theorem dX8_division_42 : decode cX8_division 42 = .ok (.iconst (-1), 1) := by decide +kernel
theorem dX8_division_43 : decode cX8_division 43 = .ok (.iconst 0, 1) := by decide +kernel
theorem dX8_division_44 : decode cX8_division 44 = .ok (.invokevirtual 343, 3) := by decide +kernel
theorem dX8_division_47 : decode cX8_division 47 = .ok (.ireturn, 1) := by decide +kernel
theorem dX8_division_48 : decode cX8_division 48 = .ok (.iload_n 2, 1) := by decide +kernel
theorem dX8_division_49 : decode cX8_division 49 = .ok (.iconst 2, 1) := by decide +kernel
theorem dX8_division_50 : decode cX8_division 50 = .ok (.if_icmp .ne 19, 3) := by decide +kernel
theorem dX8_division_53 : decode cX8_division 53 = .ok (.aload_n 0, 1) := by decide +kernel
theorem dX8_division_54 : decode cX8_division 54 = .ok (.iload_n 1, 1) := by decide +kernel
theorem dX8_division_55 : decode cX8_division 55 = .ok (.invokevirtual 351, 3) := by decide +kernel
theorem dX8_division_58 : decode cX8_division 58 = .ok (.ifCond .eq 7, 3) := by decide +kernel
theorem dX8_division_61 : decode cX8_division 61 = .ok (.iconst 1, 1) := by decide +kernel
theorem dX8_division_62 : decode cX8_division 62 = .ok (.goto 35, 3) := by decide +kernel
theorem dX8_division_65 : decode cX8_division 65 = .ok (.iconst 0, 1) := by decide +kernel
theorem dX8_division_66 : decode cX8_division 66 = .ok (.goto 31, 3) := by decide +kernel
theorem dX8_division_69 : decode cX8_division 69 = .ok (.iload_n 2, 1) := by decide +kernel
theorem dX8_division_70 : decode cX8_division 70 = .ok (.iconst 5, 1) := by decide +kernel
theorem dX8_division_71 : decode cX8_division 71 = .ok (.if_icmp .ne 11, 3) := by decide +kernel
theorem dX8_division_74 : decode cX8_division 74 = .ok (.aload_n 0, 1) := by decide +kernel
theorem dX8_division_75 : decode cX8_division 75 = .ok (.iload_n 1, 1) := by decide +kernel
theorem dX8_division_76 : decode cX8_division 76 = .ok (.invokevirtual 354, 3) := by decide +kernel
theorem dX8_division_79 : decode cX8_division 79 = .ok (.goto 18, 3) := by decide +kernel
theorem dX8_division_82 : decode cX8_division 82 = .ok (.aload_n 0, 1) := by decide +kernel
theorem dX8_division_83 : decode cX8_division 83 = .ok (.iload_n 1, 1) := by decide +kernel
theorem dX8_division_84 : decode cX8_division 84 = .ok (.iload_n 2, 1) := by decide +kernel
theorem dX8_division_85 : decode cX8_division 85 = .ok (.iconst 3, 1) := by decide +kernel
theorem dX8_division_86 : decode cX8_division 86 = .ok (.if_icmp .ne 7, 3) := by decide +kernel
theorem dX8_division_89 : decode cX8_division 89 = .ok (.iconst 1, 1) := by decide +kernel
theorem dX8_division_90 : decode cX8_division 90 = .ok (.goto 4, 3) := by decide +kernel
theorem dX8_division_93 : decode cX8_division 93 = .ok (.iconst (-1), 1) := by decide +kernel
theorem dX8_division_94 : decode cX8_division 94 = .ok (.invokevirtual 357, 3) := by decide +kernel
theorem dX8_division_97 : decode cX8_division 97 = .ok (.ireturn, 1) := by decide +kernel
set_option maxHeartbeats 4000000 in
set_option maxRecDepth 100000 in
theorem bb_X8_division_94 {p : Program} {l : Launch} {e : Env} {s : State} {m : MethodId} {args : Array Value} {below : List Frame} {meth : Method} {c : Code} {D : va_G} {cy : Nat → ClassId} {ad : Nat → Nat} {A : Nat → Prop} {Q : Int32 → Sg → Prop} (K : Kx p s m args meth c cX8_division 3 RX8 D cy) (hr : meth.sig.returnType = (some .int))  (t1 : Int32) (t2 : Int32) (g0 : Sg) (H : Heap) (locs : List Loc) (ls : Array Slot) (hd : vv_X8_division_J94 t1 t2 g0 Q) (hw : Wd D A s.heap (wsM cy ad g0) H locs) (hl : lv_has ls 3 []) : W p l e (rmD 47) s m args below meth c H locs 0 0 (MQ below (va_Qi Q (PostG (wsM cy ad) D A) A) args s 0 0 A) (F0 m 94 ls [.int t2, .int t1, .ref (ad 0)]) := by
  unfold vv_X8_division_J94 at hd
  refine rk_vi (As := [.int t1, .int t2]) (rest := []) K hw (cc_X8_votersOf l D cy ad A g0 _ t1 t2 hd) lk_X8_357 (ci := 8) rfl (q0 := 0) (wsM_at cy ad _ (by decide)) ⟨Nat.le_of_ble_eq_true rfl, Nat.le_of_ble_eq_true rfl⟩ ⟨Nat.zero_le _, Nat.zero_le _⟩ rfl hl.1 (Nat.le_of_ble_eq_true rfl) rfl dX8_division_94 (fun r_12 g_11 H locs hd hw => ?_)
  exact rk_iret K hw hr hd dX8_division_97
set_option maxHeartbeats 4000000 in
set_option maxRecDepth 100000 in
theorem bb_X8_division_43 {p : Program} {l : Launch} {e : Env} {s : State} {m : MethodId} {args : Array Value} {below : List Frame} {meth : Method} {c : Code} {D : va_G} {cy : Nat → ClassId} {ad : Nat → Nat} {A : Nat → Prop} {Q : Int32 → Sg → Prop} (K : Kx p s m args meth c cX8_division 3 RX8 D cy) (hr : meth.sig.returnType = (some .int))  (t1 : Int32) (t2 : Int32) (g0 : Sg) (H : Heap) (locs : List Loc) (ls : Array Slot) (hd : vv_X8_division_J43 t1 t2 g0 Q) (hw : Wd D A s.heap (wsM cy ad g0) H locs) (hl : lv_has ls 3 []) : W p l e (rmD 47) s m args below meth c H locs 0 0 (MQ below (va_Qi Q (PostG (wsM cy ad) D A) A) args s 0 0 A) (F0 m 43 ls [.int t2, .int t1, .ref (ad 0)]) := by
  unfold vv_X8_division_J43 at hd
  refine lv_iconst (v := (0 : Int32)) K.1 K.2.1 dX8_division_43 (by decide) ?_
  refine rk_vi (As := [.int t1, .int t2, .int (0 : Int32)]) (rest := []) K hw (cc_X8_sideOf l D cy ad A g0 _ t1 t2 (0 : Int32) hd) lk_X8_343 (ci := 8) rfl (q0 := 0) (wsM_at cy ad _ (by decide)) ⟨Nat.le_of_ble_eq_true rfl, Nat.le_of_ble_eq_true rfl⟩ ⟨Nat.zero_le _, Nat.zero_le _⟩ rfl hl.1 (Nat.le_of_ble_eq_true rfl) rfl dX8_division_44 (fun r_20 g_19 H locs hd hw => ?_)
  exact rk_iret K hw hr hd dX8_division_47
set_option maxHeartbeats 4000000 in
set_option maxRecDepth 100000 in
theorem cc_X8_division (l : Launch) (D : va_G) (cy : Nat → ClassId) (ad : Nat → Nat) (A : Nat → Prop) (g0 : Sg) (Q : Int32 → Sg → Prop) (x1 : Int32) (x2 : Int32) (hd : vv_X8_division x1 x2 g0 Q) : Met l yX8_division (Cond.code yX8_division cX8_division 3 (some .int) :: TT) (rmD 47) (va_Pc [.ref (ad 0), .int x1, .int x2] (PreG (wsM cy ad) D cy A g0)) (va_Qi Q (PostG (wsM cy ad) D A) A) 0 0 A := by
  unfold vv_X8_division at hd
  refine Met.ofW (cc := cX8_division) (maxL := 3) (ret := (some .int)) (by decide) rfl ?_
  intro p e s m args below meth c s₁ B hml hv
  obtain ⟨rfl, hP, hK0, hD⟩ := hv
  have K : Kx p s m _ meth c cX8_division 3 RX8 D cy := ⟨B.exec, B.bytes, hml, findClass_of_methodNamed B.named, fun w h => atoms_spec (ws := Cond.code yX8_division cX8_division 3 (some .int) :: TT) B.pre w (List.mem_cons_of_mem _ h), hK0, B.notSynchronized⟩
  have hw : Wd D A s.heap (wsM cy ad g0) s.heap [] := ⟨hP, hD, va_S.rf⟩
  have hr := B.returns
  have hl := lv_entry ([.ref (ad 0), .int x1, .int x2]) (n := 3) (Nat.le_of_ble_eq_true rfl)
  rw [lg_entry_eq]
  generalize (lg_sl ([.ref (ad 0), .int x1, .int x2]) ++ List.replicate (3 - (lg_sl ([.ref (ad 0), .int x1, .int x2])).length) Slot.unset).toArray = ls at hl ⊢
  have hl : lv_has ls 3 [(0, .ref (ad 0)), (1, .int x1), (2, .int x2)] := hl
  refine lv_iload_n K.1 K.2.1 dX8_division_0 rfl (lv_at hl 1 rfl) ?_
  refine lv_i2l (v := x1.toInt64) K.1 K.2.1 dX8_division_1 rfl ?_
  refine lv_lconst (v := (0 : Int64)) K.1 K.2.1 dX8_division_2 rfl ?_
  refine lv_ldc2 K.1 K.2.1 K.2.2.2.1 (K.2.2.2.2.1 _ kl_X8_349) dX8_division_3 ?_
  refine rk_si (As := [.long x1.toInt64, .long (0 : Int64), .long (7 : Int64)]) (rest := []) K hw (cc_X8_in l D cy ad A g0 _ (x1.toInt64) (0 : Int64) (7 : Int64) hd) lk_X8_67 ⟨Nat.le_of_ble_eq_true rfl, Nat.le_of_ble_eq_true rfl⟩ ⟨Nat.zero_le _, Nat.zero_le _⟩ rfl hl.1 (Nat.le_of_ble_eq_true rfl) rfl dX8_division_6 (fun r_2 g_1 H locs hd hw => ?_)
  refine lv_if_eq (tgt := 24) K.1 K.2.1 dX8_division_9 (by decide) (fun h_3 => ?_) (fun h_3 => ?_)
  · have hd := hd.1 h_3
    refine lv_bipush (v := (-2 : Int32)) K.1 K.2.1 dX8_division_24 (by decide) ?_
    exact rk_iret K hw hr hd dX8_division_26
  · have hd := hd.2 h_3
    refine lv_iload_n K.1 K.2.1 dX8_division_12 rfl (lv_at hl 2 rfl) ?_
    refine lv_i2l (v := x2.toInt64) K.1 K.2.1 dX8_division_13 rfl ?_
    refine lv_lconst (v := (0 : Int64)) K.1 K.2.1 dX8_division_14 rfl ?_
    refine lv_ldc2 K.1 K.2.1 K.2.2.2.1 (K.2.2.2.2.1 _ kl_X8_98) dX8_division_15 ?_
    refine rk_si (As := [.long x2.toInt64, .long (0 : Int64), .long (5 : Int64)]) (rest := []) K hw (cc_X8_in l D cy ad A g_1 _ (x2.toInt64) (0 : Int64) (5 : Int64) hd) lk_X8_67 ⟨Nat.le_of_ble_eq_true rfl, Nat.le_of_ble_eq_true rfl⟩ ⟨Nat.zero_le _, Nat.zero_le _⟩ rfl hl.1 (Nat.le_of_ble_eq_true rfl) rfl dX8_division_18 (fun r_5 g_4 H locs hd hw => ?_)
    refine lv_if_ne (tgt := 27) K.1 K.2.1 dX8_division_21 (by decide) (fun h_6 => ?_) (fun h_6 => ?_)
    · have hd := hd.1 h_6
      refine lv_iload_n K.1 K.2.1 dX8_division_27 rfl (lv_at hl 2 rfl) ?_
      refine lv_iconst (v := (2 : Int32)) K.1 K.2.1 dX8_division_28 (by decide) ?_
      refine lv_icmp_ge (tgt := 48) K.1 K.2.1 dX8_division_29 (by decide) (fun h_7 => ?_) (fun h_7 => ?_)
      · have hd := hd.1 h_7
        refine lv_iload_n K.1 K.2.1 dX8_division_48 rfl (lv_at hl 2 rfl) ?_
        refine lv_iconst (v := (2 : Int32)) K.1 K.2.1 dX8_division_49 (by decide) ?_
        refine lv_icmp_ne (tgt := 69) K.1 K.2.1 dX8_division_50 (by decide) (fun h_8 => ?_) (fun h_8 => ?_)
        · have hd := hd.1 h_8
          refine lv_iload_n K.1 K.2.1 dX8_division_69 rfl (lv_at hl 2 rfl) ?_
          refine lv_iconst (v := (5 : Int32)) K.1 K.2.1 dX8_division_70 (by decide) ?_
          refine lv_icmp_ne (tgt := 82) K.1 K.2.1 dX8_division_71 (by decide) (fun h_9 => ?_) (fun h_9 => ?_)
          · have hd := hd.1 h_9
            refine lv_aload_n K.1 K.2.1 dX8_division_82 rfl (lv_at hl 0 rfl) ?_
            refine lv_iload_n K.1 K.2.1 dX8_division_83 rfl (lv_at hl 1 rfl) ?_
            refine lv_iload_n K.1 K.2.1 dX8_division_84 rfl (lv_at hl 2 rfl) ?_
            refine lv_iconst (v := (3 : Int32)) K.1 K.2.1 dX8_division_85 (by decide) ?_
            refine lv_icmp_ne (tgt := 93) K.1 K.2.1 dX8_division_86 (by decide) (fun h_10 => ?_) (fun h_10 => ?_)
            · have hd := hd.1 h_10
              refine lv_iconst (v := (-1 : Int32)) K.1 K.2.1 dX8_division_93 (by decide) ?_
              exact bb_X8_division_94 K hr  x1 (-1 : Int32) g_4 _ _ _ hd hw (lv_sub hl [] rfl)
            · have hd := hd.2 h_10
              refine lv_iconst (v := (1 : Int32)) K.1 K.2.1 dX8_division_89 (by decide) ?_
              refine lv_goto (tgt := 94) K.1 K.2.1 dX8_division_90 (by decide) ?_
              exact bb_X8_division_94 K hr  x1 (1 : Int32) g_4 _ _ _ hd hw (lv_sub hl [] rfl)
          · have hd := hd.2 h_9
            refine lv_aload_n K.1 K.2.1 dX8_division_74 rfl (lv_at hl 0 rfl) ?_
            refine lv_iload_n K.1 K.2.1 dX8_division_75 rfl (lv_at hl 1 rfl) ?_
            refine rk_vi (As := [.int x1]) (rest := []) K hw (cc_X8_balanceOf l D cy ad A g_4 _ x1 hd) lk_X8_354 (ci := 8) rfl (q0 := 0) (wsM_at cy ad _ (by decide)) ⟨Nat.le_of_ble_eq_true rfl, Nat.le_of_ble_eq_true rfl⟩ ⟨Nat.zero_le _, Nat.zero_le _⟩ rfl hl.1 (Nat.le_of_ble_eq_true rfl) rfl dX8_division_76 (fun r_14 g_13 H locs hd hw => ?_)
            refine lv_goto (tgt := 97) K.1 K.2.1 dX8_division_79 (by decide) ?_
            exact rk_iret K hw hr hd dX8_division_97
        · have hd := hd.2 h_8
          refine lv_aload_n K.1 K.2.1 dX8_division_53 rfl (lv_at hl 0 rfl) ?_
          refine lv_iload_n K.1 K.2.1 dX8_division_54 rfl (lv_at hl 1 rfl) ?_
          refine rk_vi (As := [.int x1]) (rest := []) K hw (cc_X8_carries l D cy ad A g_4 _ x1 hd) lk_X8_351 (ci := 8) rfl (q0 := 0) (wsM_at cy ad _ (by decide)) ⟨Nat.le_of_ble_eq_true rfl, Nat.le_of_ble_eq_true rfl⟩ ⟨Nat.zero_le _, Nat.zero_le _⟩ rfl hl.1 (Nat.le_of_ble_eq_true rfl) rfl dX8_division_55 (fun r_16 g_15 H locs hd hw => ?_)
          refine lv_if_eq (tgt := 65) K.1 K.2.1 dX8_division_58 (by decide) (fun h_17 => ?_) (fun h_17 => ?_)
          · have hd := hd.1 h_17
            refine lv_iconst (v := (0 : Int32)) K.1 K.2.1 dX8_division_65 (by decide) ?_
            refine lv_goto (tgt := 97) K.1 K.2.1 dX8_division_66 (by decide) ?_
            exact rk_iret K hw hr hd dX8_division_97
          · have hd := hd.2 h_17
            refine lv_iconst (v := (1 : Int32)) K.1 K.2.1 dX8_division_61 (by decide) ?_
            refine lv_goto (tgt := 97) K.1 K.2.1 dX8_division_62 (by decide) ?_
            exact rk_iret K hw hr hd dX8_division_97
      · have hd := hd.2 h_7
        refine lv_aload_n K.1 K.2.1 dX8_division_32 rfl (lv_at hl 0 rfl) ?_
        refine lv_iload_n K.1 K.2.1 dX8_division_33 rfl (lv_at hl 1 rfl) ?_
        refine lv_iload_n K.1 K.2.1 dX8_division_34 rfl (lv_at hl 2 rfl) ?_
        refine lv_if_ne (tgt := 42) K.1 K.2.1 dX8_division_35 (by decide) (fun h_18 => ?_) (fun h_18 => ?_)
        · have hd := hd.1 h_18
          refine lv_iconst (v := (-1 : Int32)) K.1 K.2.1 dX8_division_42 (by decide) ?_
          exact bb_X8_division_43 K hr  x1 (-1 : Int32) g_4 _ _ _ hd hw (lv_sub hl [] rfl)
        · have hd := hd.2 h_18
          refine lv_iconst (v := (1 : Int32)) K.1 K.2.1 dX8_division_38 (by decide) ?_
          refine lv_goto (tgt := 43) K.1 K.2.1 dX8_division_39 (by decide) ?_
          exact bb_X8_division_43 K hr  x1 (1 : Int32) g_4 _ _ _ hd hw (lv_sub hl [] rfl)
    · have hd := hd.2 h_6
      refine lv_bipush (v := (-2 : Int32)) K.1 K.2.1 dX8_division_24 (by decide) ?_
      exact rk_iret K hw hr hd dX8_division_26
theorem dX8_overOf_0 : decode cX8_overOf 0 = .ok (.aload_n 0, 1) := by decide +kernel
theorem dX8_overOf_1 : decode cX8_overOf 1 = .ok (.iload_n 1, 1) := by decide +kernel
theorem dX8_overOf_2 : decode cX8_overOf 2 = .ok (.iconst 1, 1) := by decide +kernel
theorem dX8_overOf_3 : decode cX8_overOf 3 = .ok (.iconst 0, 1) := by decide +kernel
theorem dX8_overOf_4 : decode cX8_overOf 4 = .ok (.invokevirtual 343, 3) := by decide +kernel
theorem dX8_overOf_7 : decode cX8_overOf 7 = .ok (.aload_n 0, 1) := by decide +kernel
theorem dX8_overOf_8 : decode cX8_overOf 8 = .ok (.iload_n 1, 1) := by decide +kernel
theorem dX8_overOf_9 : decode cX8_overOf 9 = .ok (.iconst (-1), 1) := by decide +kernel
theorem dX8_overOf_10 : decode cX8_overOf 10 = .ok (.iconst 0, 1) := by decide +kernel
theorem dX8_overOf_11 : decode cX8_overOf 11 = .ok (.invokevirtual 343, 3) := by decide +kernel
theorem dX8_overOf_14 : decode cX8_overOf 14 = .ok (.isub, 1) := by decide +kernel
theorem dX8_overOf_15 : decode cX8_overOf 15 = .ok (.istore_n 2, 1) := by decide +kernel
theorem dX8_overOf_16 : decode cX8_overOf 16 = .ok (.iload_n 2, 1) := by decide +kernel
theorem dX8_overOf_17 : decode cX8_overOf 17 = .ok (.ifCond .ge 8, 3) := by decide +kernel
theorem dX8_overOf_20 : decode cX8_overOf 20 = .ok (.iload_n 2, 1) := by decide +kernel
theorem dX8_overOf_21 : decode cX8_overOf 21 = .ok (.ineg, 1) := by decide +kernel
theorem dX8_overOf_22 : decode cX8_overOf 22 = .ok (.goto 4, 3) := by decide +kernel
theorem dX8_overOf_25 : decode cX8_overOf 25 = .ok (.iload_n 2, 1) := by decide +kernel
theorem dX8_overOf_26 : decode cX8_overOf 26 = .ok (.ireturn, 1) := by decide +kernel
set_option maxHeartbeats 4000000 in
set_option maxRecDepth 100000 in
theorem cc_X8_overOf (l : Launch) (D : va_G) (cy : Nat → ClassId) (ad : Nat → Nat) (A : Nat → Prop) (g0 : Sg) (Q : Int32 → Sg → Prop) (x1 : Int32) (hd : vv_X8_overOf x1 g0 Q) : Met l yX8_overOf (Cond.code yX8_overOf cX8_overOf 3 (some .int) :: TT) (rmD 46) (va_Pc [.ref (ad 0), .int x1] (PreG (wsM cy ad) D cy A g0)) (va_Qi Q (PostG (wsM cy ad) D A) A) 0 0 A := by
  unfold vv_X8_overOf at hd
  refine Met.ofW (cc := cX8_overOf) (maxL := 3) (ret := (some .int)) (by decide) rfl ?_
  intro p e s m args below meth c s₁ B hml hv
  obtain ⟨rfl, hP, hK0, hD⟩ := hv
  have K : Kx p s m _ meth c cX8_overOf 3 RX8 D cy := ⟨B.exec, B.bytes, hml, findClass_of_methodNamed B.named, fun w h => atoms_spec (ws := Cond.code yX8_overOf cX8_overOf 3 (some .int) :: TT) B.pre w (List.mem_cons_of_mem _ h), hK0, B.notSynchronized⟩
  have hw : Wd D A s.heap (wsM cy ad g0) s.heap [] := ⟨hP, hD, va_S.rf⟩
  have hr := B.returns
  have hl := lv_entry ([.ref (ad 0), .int x1]) (n := 3) (Nat.le_of_ble_eq_true rfl)
  rw [lg_entry_eq]
  generalize (lg_sl ([.ref (ad 0), .int x1]) ++ List.replicate (3 - (lg_sl ([.ref (ad 0), .int x1])).length) Slot.unset).toArray = ls at hl ⊢
  have hl : lv_has ls 3 [(0, .ref (ad 0)), (1, .int x1)] := hl
  refine lv_aload_n K.1 K.2.1 dX8_overOf_0 rfl (lv_at hl 0 rfl) ?_
  refine lv_iload_n K.1 K.2.1 dX8_overOf_1 rfl (lv_at hl 1 rfl) ?_
  refine lv_iconst (v := (1 : Int32)) K.1 K.2.1 dX8_overOf_2 (by decide) ?_
  refine lv_iconst (v := (0 : Int32)) K.1 K.2.1 dX8_overOf_3 (by decide) ?_
  refine rk_vi (As := [.int x1, .int (1 : Int32), .int (0 : Int32)]) (rest := []) K hw (cc_X8_sideOf l D cy ad A g0 _ x1 (1 : Int32) (0 : Int32) hd) lk_X8_343 (ci := 8) rfl (q0 := 0) (wsM_at cy ad _ (by decide)) ⟨Nat.le_of_ble_eq_true rfl, Nat.le_of_ble_eq_true rfl⟩ ⟨Nat.zero_le _, Nat.zero_le _⟩ rfl hl.1 (Nat.le_of_ble_eq_true rfl) rfl dX8_overOf_4 (fun r_2 g_1 H locs hd hw => ?_)
  refine lv_aload_n K.1 K.2.1 dX8_overOf_7 rfl (lv_at hl 0 rfl) ?_
  refine lv_iload_n K.1 K.2.1 dX8_overOf_8 rfl (lv_at hl 1 rfl) ?_
  refine lv_iconst (v := (-1 : Int32)) K.1 K.2.1 dX8_overOf_9 (by decide) ?_
  refine lv_iconst (v := (0 : Int32)) K.1 K.2.1 dX8_overOf_10 (by decide) ?_
  refine rk_vi (As := [.int x1, .int (-1 : Int32), .int (0 : Int32)]) (rest := [.int r_2]) K hw (cc_X8_sideOf l D cy ad A g_1 _ x1 (-1 : Int32) (0 : Int32) hd) lk_X8_343 (ci := 8) rfl (q0 := 0) (wsM_at cy ad _ (by decide)) ⟨Nat.le_of_ble_eq_true rfl, Nat.le_of_ble_eq_true rfl⟩ ⟨Nat.zero_le _, Nat.zero_le _⟩ rfl hl.1 (Nat.le_of_ble_eq_true rfl) rfl dX8_overOf_11 (fun r_4 g_3 H locs hd hw => ?_)
  refine lv_isub K.1 K.2.1 dX8_overOf_14 ?_
  refine lv_topi (fun x2_5 ex2_5 => ?_)
  have hd := hd x2_5 ex2_5
  refine lv_istore_n (lv' := [(2, .int x2_5), (0, .ref (ad 0)), (1, .int x1)]) K.1 K.2.1 dX8_overOf_15 rfl hl (by decide) rfl (fun ls hl => ?_)
  refine lv_iload_n K.1 K.2.1 dX8_overOf_16 rfl (lv_at hl 0 rfl) ?_
  refine lv_if_ge (tgt := 25) K.1 K.2.1 dX8_overOf_17 (by decide) (fun h_6 => ?_) (fun h_6 => ?_)
  · have hd := hd.1 h_6
    refine lv_iload_n K.1 K.2.1 dX8_overOf_25 rfl (lv_at hl 0 rfl) ?_
    exact rk_iret K hw hr hd dX8_overOf_26
  · have hd := hd.2 h_6
    refine lv_iload_n K.1 K.2.1 dX8_overOf_20 rfl (lv_at hl 0 rfl) ?_
    refine lv_ineg K.1 K.2.1 dX8_overOf_21 ?_
    refine lv_goto (tgt := 26) K.1 K.2.1 dX8_overOf_22 (by decide) ?_
    exact rk_iret K hw hr hd dX8_overOf_26
theorem dX8_bitsOf_0 : decode cX8_bitsOf 0 = .ok (.iconst 0, 1) := by decide +kernel
theorem dX8_bitsOf_1 : decode cX8_bitsOf 1 = .ok (.istore_n 1, 1) := by decide +kernel
theorem dX8_bitsOf_2 : decode cX8_bitsOf 2 = .ok (.iload_n 0, 1) := by decide +kernel
theorem dX8_bitsOf_3 : decode cX8_bitsOf 3 = .ok (.istore_n 2, 1) := by decide +kernel
theorem dX8_bitsOf_4 : decode cX8_bitsOf 4 = .ok (.iload_n 2, 1) := by decide +kernel
theorem dX8_bitsOf_5 : decode cX8_bitsOf 5 = .ok (.ifCond .eq 15, 3) := by decide +kernel
theorem dX8_bitsOf_8 : decode cX8_bitsOf 8 = .ok (.iinc 1 1, 3) := by decide +kernel
theorem dX8_bitsOf_11 : decode cX8_bitsOf 11 = .ok (.iload_n 2, 1) := by decide +kernel
theorem dX8_bitsOf_12 : decode cX8_bitsOf 12 = .ok (.iload_n 2, 1) := by decide +kernel
theorem dX8_bitsOf_13 : decode cX8_bitsOf 13 = .ok (.iconst 1, 1) := by decide +kernel
theorem dX8_bitsOf_14 : decode cX8_bitsOf 14 = .ok (.isub, 1) := by decide +kernel
theorem dX8_bitsOf_15 : decode cX8_bitsOf 15 = .ok (.iand, 1) := by decide +kernel
theorem dX8_bitsOf_16 : decode cX8_bitsOf 16 = .ok (.istore_n 2, 1) := by decide +kernel
theorem dX8_bitsOf_17 : decode cX8_bitsOf 17 = .ok (.goto (-13), 3) := by decide +kernel
theorem dX8_bitsOf_20 : decode cX8_bitsOf 20 = .ok (.iload_n 1, 1) := by decide +kernel
theorem dX8_bitsOf_21 : decode cX8_bitsOf 21 = .ok (.ireturn, 1) := by decide +kernel
set_option maxHeartbeats 4000000 in
set_option maxRecDepth 100000 in
theorem bb_X8_bitsOf_4 {p : Program} {l : Launch} {e : Env} {s : State} {m : MethodId} {args : Array Value} {below : List Frame} {meth : Method} {c : Code} {D : va_G} {cy : Nat → ClassId} {ad : Nat → Nat} {A : Nat → Prop} {Q : Int32 → Sg → Prop} (K : Kx p s m args meth c cX8_bitsOf 3 RX8 D cy) (hr : meth.sig.returnType = (some .int)) : ∀ (n : Nat) (x1 : Int32) (x2 : Int32)  (g0 : Sg) (H : Heap) (locs : List Loc) (ls : Array Slot), vv_X8_bitsOf_L4 Q n x1 x2 g0 → Wd D A s.heap (wsM cy ad g0) H locs → lv_has ls 3 [(1, .int x1), (2, .int x2)] → W p l e (rmD 0) s m args below meth c H locs 0 0 (MQ below (va_Qi Q (PostG (wsM cy ad) D A) A) args s 0 0 A) (F0 m 4 ls []) := by
  intro n
  induction n with
  | zero => intro _ _ _ _ _ _ hd; exact hd.elim
  | succ n ih =>
    intro x1 x2 g0 H locs ls hd hw hl
    unfold vv_X8_bitsOf_L4 at hd
    refine lv_iload_n K.1 K.2.1 dX8_bitsOf_4 rfl (lv_at hl 1 rfl) ?_
    refine lv_if_eq (tgt := 20) K.1 K.2.1 dX8_bitsOf_5 (by decide) (fun h_3 => ?_) (fun h_3 => ?_)
    · have hd := hd.1 h_3
      refine lv_iload_n K.1 K.2.1 dX8_bitsOf_20 rfl (lv_at hl 0 rfl) ?_
      exact rk_iret K hw hr hd dX8_bitsOf_21
    · have hd := hd.2 h_3
      obtain ⟨x1_4, ex1_4⟩ : ∃ y : Int32, y = x1 + (1 : Int32) := ⟨_, rfl⟩
      have hd := hd x1_4 ex1_4
      refine lv_iinc (v := x1_4) (lv' := [(1, .int x1_4), (2, .int x2)]) K.1 K.2.1 dX8_bitsOf_8 hl (k := 0) rfl (by rw [ex1_4]; rfl) (by decide) rfl (fun ls hl => ?_)
      refine lv_iload_n K.1 K.2.1 dX8_bitsOf_11 rfl (lv_at hl 1 rfl) ?_
      refine lv_iload_n K.1 K.2.1 dX8_bitsOf_12 rfl (lv_at hl 1 rfl) ?_
      refine lv_iconst (v := (1 : Int32)) K.1 K.2.1 dX8_bitsOf_13 (by decide) ?_
      refine lv_isub K.1 K.2.1 dX8_bitsOf_14 ?_
      refine lv_iand K.1 K.2.1 dX8_bitsOf_15 ?_
      refine lv_topi (fun x2_5 ex2_5 => ?_)
      have hd := hd x2_5 ex2_5
      refine lv_istore_n (lv' := [(2, .int x2_5), (1, .int x1_4)]) K.1 K.2.1 dX8_bitsOf_16 rfl hl (by decide) rfl (fun ls hl => ?_)
      refine lv_goto (tgt := 4) K.1 K.2.1 dX8_bitsOf_17 (by decide) ?_
      exact ih x1_4 x2_5 g0 _ _ _ hd hw (lv_sub hl [1, 0] rfl)
set_option maxHeartbeats 4000000 in
set_option maxRecDepth 100000 in
theorem cc_X8_bitsOf (l : Launch) (D : va_G) (cy : Nat → ClassId) (ad : Nat → Nat) (A : Nat → Prop) (g0 : Sg) (Q : Int32 → Sg → Prop) (x0 : Int32) (hd : vv_X8_bitsOf x0 g0 Q) : Met l yX8_bitsOf (Cond.code yX8_bitsOf cX8_bitsOf 3 (some .int) :: TT) (rmD 0) (va_Pc [.int x0] (PreG (wsM cy ad) D cy A g0)) (va_Qi Q (PostG (wsM cy ad) D A) A) 0 0 A := by
  unfold vv_X8_bitsOf at hd
  refine Met.ofW (cc := cX8_bitsOf) (maxL := 3) (ret := (some .int)) (by decide) rfl ?_
  intro p e s m args below meth c s₁ B hml hv
  obtain ⟨rfl, hP, hK0, hD⟩ := hv
  have K : Kx p s m _ meth c cX8_bitsOf 3 RX8 D cy := ⟨B.exec, B.bytes, hml, findClass_of_methodNamed B.named, fun w h => atoms_spec (ws := Cond.code yX8_bitsOf cX8_bitsOf 3 (some .int) :: TT) B.pre w (List.mem_cons_of_mem _ h), hK0, B.notSynchronized⟩
  have hw : Wd D A s.heap (wsM cy ad g0) s.heap [] := ⟨hP, hD, va_S.rf⟩
  have hr := B.returns
  have hl := lv_entry ([.int x0]) (n := 3) (Nat.le_of_ble_eq_true rfl)
  rw [lg_entry_eq]
  generalize (lg_sl ([.int x0]) ++ List.replicate (3 - (lg_sl ([.int x0])).length) Slot.unset).toArray = ls at hl ⊢
  have hl : lv_has ls 3 [(0, .int x0)] := hl
  refine lv_iconst (v := (0 : Int32)) K.1 K.2.1 dX8_bitsOf_0 (by decide) ?_
  refine lv_topi (fun x1_1 ex1_1 => ?_)
  have hd := hd x1_1 ex1_1
  refine lv_istore_n (lv' := [(1, .int x1_1), (0, .int x0)]) K.1 K.2.1 dX8_bitsOf_1 rfl hl (by decide) rfl (fun ls hl => ?_)
  refine lv_iload_n K.1 K.2.1 dX8_bitsOf_2 rfl (lv_at hl 1 rfl) ?_
  refine lv_topi (fun x2_2 ex2_2 => ?_)
  have hd := hd x2_2 ex2_2
  refine lv_istore_n (lv' := [(2, .int x2_2), (1, .int x1_1), (0, .int x0)]) K.1 K.2.1 dX8_bitsOf_3 rfl hl (by decide) rfl (fun ls hl => ?_)
  obtain ⟨n9, hd⟩ := hd
  exact bb_X8_bitsOf_4 K hr  n9 x1_1 x2_2 g0 _ _ _ hd hw (lv_sub hl [1, 0] rfl)
theorem dX8_carriedSet_0 : decode cX8_carriedSet 0 = .ok (.iconst 0, 1) := by decide +kernel
theorem dX8_carriedSet_1 : decode cX8_carriedSet 1 = .ok (.istore_n 1, 1) := by decide +kernel
theorem dX8_carriedSet_2 : decode cX8_carriedSet 2 = .ok (.iconst 0, 1) := by decide +kernel
theorem dX8_carriedSet_3 : decode cX8_carriedSet 3 = .ok (.istore_n 2, 1) := by decide +kernel
theorem dX8_carriedSet_4 : decode cX8_carriedSet 4 = .ok (.iload_n 2, 1) := by decide +kernel
theorem dX8_carriedSet_5 : decode cX8_carriedSet 5 = .ok (.bipush 8, 2) := by decide +kernel
theorem dX8_carriedSet_7 : decode cX8_carriedSet 7 = .ok (.if_icmp .ge 27, 3) := by decide +kernel
theorem dX8_carriedSet_10 : decode cX8_carriedSet 10 = .ok (.iload_n 1, 1) := by decide +kernel
theorem dX8_carriedSet_11 : decode cX8_carriedSet 11 = .ok (.aload_n 0, 1) := by decide +kernel
theorem dX8_carriedSet_12 : decode cX8_carriedSet 12 = .ok (.iload_n 2, 1) := by decide +kernel
theorem dX8_carriedSet_13 : decode cX8_carriedSet 13 = .ok (.invokevirtual 351, 3) := by decide +kernel
theorem dX8_carriedSet_16 : decode cX8_carriedSet 16 = .ok (.ifCond .eq 7, 3) := by decide +kernel
theorem dX8_carriedSet_19 : decode cX8_carriedSet 19 = .ok (.iconst 1, 1) := by decide +kernel
theorem dX8_carriedSet_20 : decode cX8_carriedSet 20 = .ok (.goto 4, 3) := by decide +kernel
theorem dX8_carriedSet_23 : decode cX8_carriedSet 23 = .ok (.iconst 0, 1) := by decide +kernel
theorem dX8_carriedSet_24 : decode cX8_carriedSet 24 = .ok (.iload_n 2, 1) := by decide +kernel
theorem dX8_carriedSet_25 : decode cX8_carriedSet 25 = .ok (.ishl, 1) := by decide +kernel
theorem dX8_carriedSet_26 : decode cX8_carriedSet 26 = .ok (.ior, 1) := by decide +kernel
theorem dX8_carriedSet_27 : decode cX8_carriedSet 27 = .ok (.istore_n 1, 1) := by decide +kernel
theorem dX8_carriedSet_28 : decode cX8_carriedSet 28 = .ok (.iinc 2 1, 3) := by decide +kernel
theorem dX8_carriedSet_31 : decode cX8_carriedSet 31 = .ok (.goto (-27), 3) := by decide +kernel
theorem dX8_carriedSet_34 : decode cX8_carriedSet 34 = .ok (.iload_n 1, 1) := by decide +kernel
theorem dX8_carriedSet_35 : decode cX8_carriedSet 35 = .ok (.ireturn, 1) := by decide +kernel
set_option maxHeartbeats 4000000 in
set_option maxRecDepth 100000 in
theorem bb_X8_carriedSet_24 {p : Program} {l : Launch} {e : Env} {s : State} {m : MethodId} {args : Array Value} {below : List Frame} {meth : Method} {c : Code} {D : va_G} {cy : Nat → ClassId} {ad : Nat → Nat} {A : Nat → Prop} {Q : Int32 → Sg → Prop} (K : Kx p s m args meth c cX8_carriedSet 3 RX8 D cy) (hr : meth.sig.returnType = (some .int)) {rc4 : Int32 → Int32 → Sg → Prop} (hrc4 : ∀ (x1 : Int32) (x2 : Int32) (u : Sg) (H : Heap) (locs : List Loc) (ls : Array Slot), rc4 x1 x2 u → Wd D A s.heap (wsM cy ad u) H locs → lv_has ls 3 [(0, .ref (ad 0)), (1, .int x1), (2, .int x2)] → W p l e (rmD 47) s m args below meth c H locs 0 0 (MQ below (va_Qi Q (PostG (wsM cy ad) D A) A) args s 0 0 A) (F0 m 4 ls [])) (x2 : Int32) (t0 : Int32) (t1 : Int32) (g0 : Sg) (H : Heap) (locs : List Loc) (ls : Array Slot) (hd : vv_X8_carriedSet_J24 rc4 x2 t0 t1 g0 Q) (hw : Wd D A s.heap (wsM cy ad g0) H locs) (hl : lv_has ls 3 [(0, .ref (ad 0)), (2, .int x2)]) : W p l e (rmD 47) s m args below meth c H locs 0 0 (MQ below (va_Qi Q (PostG (wsM cy ad) D A) A) args s 0 0 A) (F0 m 24 ls [.int t1, .int t0]) := by
  unfold vv_X8_carriedSet_J24 at hd
  refine lv_iload_n K.1 K.2.1 dX8_carriedSet_24 rfl (lv_at hl 1 rfl) ?_
  refine lv_ishl K.1 K.2.1 dX8_carriedSet_25 ?_
  refine lv_ior K.1 K.2.1 dX8_carriedSet_26 ?_
  refine lv_topi (fun x1_7 ex1_7 => ?_)
  have hd := hd x1_7 ex1_7
  refine lv_istore_n (lv' := [(1, .int x1_7), (0, .ref (ad 0)), (2, .int x2)]) K.1 K.2.1 dX8_carriedSet_27 rfl hl (by decide) rfl (fun ls hl => ?_)
  obtain ⟨x2_8, ex2_8⟩ : ∃ y : Int32, y = x2 + (1 : Int32) := ⟨_, rfl⟩
  have hd := hd x2_8 ex2_8
  refine lv_iinc (v := x2_8) (lv' := [(2, .int x2_8), (1, .int x1_7), (0, .ref (ad 0))]) K.1 K.2.1 dX8_carriedSet_28 hl (k := 2) rfl (by rw [ex2_8]; rfl) (by decide) rfl (fun ls hl => ?_)
  refine lv_goto (tgt := 4) K.1 K.2.1 dX8_carriedSet_31 (by decide) ?_
  exact hrc4 x1_7 x2_8 g0 _ _ _ hd hw (lv_sub hl [2, 1, 0] rfl)
set_option maxHeartbeats 4000000 in
set_option maxRecDepth 100000 in
theorem bb_X8_carriedSet_4 {p : Program} {l : Launch} {e : Env} {s : State} {m : MethodId} {args : Array Value} {below : List Frame} {meth : Method} {c : Code} {D : va_G} {cy : Nat → ClassId} {ad : Nat → Nat} {A : Nat → Prop} {Q : Int32 → Sg → Prop} (K : Kx p s m args meth c cX8_carriedSet 3 RX8 D cy) (hr : meth.sig.returnType = (some .int)) : ∀ (n : Nat) (x1 : Int32) (x2 : Int32)  (g0 : Sg) (H : Heap) (locs : List Loc) (ls : Array Slot), vv_X8_carriedSet_L4 Q n x1 x2 g0 → Wd D A s.heap (wsM cy ad g0) H locs → lv_has ls 3 [(0, .ref (ad 0)), (1, .int x1), (2, .int x2)] → W p l e (rmD 47) s m args below meth c H locs 0 0 (MQ below (va_Qi Q (PostG (wsM cy ad) D A) A) args s 0 0 A) (F0 m 4 ls []) := by
  intro n
  induction n with
  | zero => intro _ _ _ _ _ _ hd; exact hd.elim
  | succ n ih =>
    intro x1 x2 g0 H locs ls hd hw hl
    unfold vv_X8_carriedSet_L4 at hd
    refine lv_iload_n K.1 K.2.1 dX8_carriedSet_4 rfl (lv_at hl 2 rfl) ?_
    refine lv_bipush (v := (8 : Int32)) K.1 K.2.1 dX8_carriedSet_5 (by decide) ?_
    refine lv_icmp_ge (tgt := 34) K.1 K.2.1 dX8_carriedSet_7 (by decide) (fun h_3 => ?_) (fun h_3 => ?_)
    · have hd := hd.1 h_3
      refine lv_iload_n K.1 K.2.1 dX8_carriedSet_34 rfl (lv_at hl 1 rfl) ?_
      exact rk_iret K hw hr hd dX8_carriedSet_35
    · have hd := hd.2 h_3
      refine lv_iload_n K.1 K.2.1 dX8_carriedSet_10 rfl (lv_at hl 1 rfl) ?_
      refine lv_aload_n K.1 K.2.1 dX8_carriedSet_11 rfl (lv_at hl 0 rfl) ?_
      refine lv_iload_n K.1 K.2.1 dX8_carriedSet_12 rfl (lv_at hl 2 rfl) ?_
      refine rk_vi (As := [.int x2]) (rest := [.int x1]) K hw (cc_X8_carries l D cy ad A g0 _ x2 hd) lk_X8_351 (ci := 8) rfl (q0 := 0) (wsM_at cy ad _ (by decide)) ⟨Nat.le_of_ble_eq_true rfl, Nat.le_of_ble_eq_true rfl⟩ ⟨Nat.zero_le _, Nat.zero_le _⟩ rfl hl.1 (Nat.le_of_ble_eq_true rfl) rfl dX8_carriedSet_13 (fun r_5 g_4 H locs hd hw => ?_)
      refine lv_if_eq (tgt := 23) K.1 K.2.1 dX8_carriedSet_16 (by decide) (fun h_6 => ?_) (fun h_6 => ?_)
      · have hd := hd.1 h_6
        refine lv_iconst (v := (0 : Int32)) K.1 K.2.1 dX8_carriedSet_23 (by decide) ?_
        exact bb_X8_carriedSet_24 K hr ih x2 x1 (0 : Int32) g_4 _ _ _ hd hw (lv_sub hl [0, 2] rfl)
      · have hd := hd.2 h_6
        refine lv_iconst (v := (1 : Int32)) K.1 K.2.1 dX8_carriedSet_19 (by decide) ?_
        refine lv_goto (tgt := 24) K.1 K.2.1 dX8_carriedSet_20 (by decide) ?_
        exact bb_X8_carriedSet_24 K hr ih x2 x1 (1 : Int32) g_4 _ _ _ hd hw (lv_sub hl [0, 2] rfl)
set_option maxHeartbeats 4000000 in
set_option maxRecDepth 100000 in
theorem cc_X8_carriedSet (l : Launch) (D : va_G) (cy : Nat → ClassId) (ad : Nat → Nat) (A : Nat → Prop) (g0 : Sg) (Q : Int32 → Sg → Prop)  (hd : vv_X8_carriedSet  g0 Q) : Met l yX8_carriedSet (Cond.code yX8_carriedSet cX8_carriedSet 3 (some .int) :: TT) (rmD 47) (va_Pc [.ref (ad 0)] (PreG (wsM cy ad) D cy A g0)) (va_Qi Q (PostG (wsM cy ad) D A) A) 0 0 A := by
  unfold vv_X8_carriedSet at hd
  refine Met.ofW (cc := cX8_carriedSet) (maxL := 3) (ret := (some .int)) (by decide) rfl ?_
  intro p e s m args below meth c s₁ B hml hv
  obtain ⟨rfl, hP, hK0, hD⟩ := hv
  have K : Kx p s m _ meth c cX8_carriedSet 3 RX8 D cy := ⟨B.exec, B.bytes, hml, findClass_of_methodNamed B.named, fun w h => atoms_spec (ws := Cond.code yX8_carriedSet cX8_carriedSet 3 (some .int) :: TT) B.pre w (List.mem_cons_of_mem _ h), hK0, B.notSynchronized⟩
  have hw : Wd D A s.heap (wsM cy ad g0) s.heap [] := ⟨hP, hD, va_S.rf⟩
  have hr := B.returns
  have hl := lv_entry ([.ref (ad 0)]) (n := 3) (Nat.le_of_ble_eq_true rfl)
  rw [lg_entry_eq]
  generalize (lg_sl ([.ref (ad 0)]) ++ List.replicate (3 - (lg_sl ([.ref (ad 0)])).length) Slot.unset).toArray = ls at hl ⊢
  have hl : lv_has ls 3 [(0, .ref (ad 0))] := hl
  refine lv_iconst (v := (0 : Int32)) K.1 K.2.1 dX8_carriedSet_0 (by decide) ?_
  refine lv_topi (fun x1_1 ex1_1 => ?_)
  have hd := hd x1_1 ex1_1
  refine lv_istore_n (lv' := [(1, .int x1_1), (0, .ref (ad 0))]) K.1 K.2.1 dX8_carriedSet_1 rfl hl (by decide) rfl (fun ls hl => ?_)
  refine lv_iconst (v := (0 : Int32)) K.1 K.2.1 dX8_carriedSet_2 (by decide) ?_
  refine lv_topi (fun x2_2 ex2_2 => ?_)
  have hd := hd x2_2 ex2_2
  refine lv_istore_n (lv' := [(2, .int x2_2), (1, .int x1_1), (0, .ref (ad 0))]) K.1 K.2.1 dX8_carriedSet_3 rfl hl (by decide) rfl (fun ls hl => ?_)
  obtain ⟨n9, hd⟩ := hd
  exact bb_X8_carriedSet_4 K hr  n9 x1_1 x2_2 g0 _ _ _ hd hw (lv_sub hl [2, 1, 0] rfl)
theorem dX8_topics_0 : decode cX8_topics 0 = .ok (.iload_n 1, 1) := by decide +kernel
theorem dX8_topics_1 : decode cX8_topics 1 = .ok (.i2l, 1) := by decide +kernel
theorem dX8_topics_2 : decode cX8_topics 2 = .ok (.lconst 0, 1) := by decide +kernel
theorem dX8_topics_3 : decode cX8_topics 3 = .ok (.ldc2_w 360, 3) := by decide +kernel
theorem dX8_topics_6 : decode cX8_topics 6 = .ok (.invokestatic 67, 3) := by decide +kernel
theorem dX8_topics_9 : decode cX8_topics 9 = .ok (.ifCond .ne 6, 3) := by decide +kernel
theorem dX8_topics_12 : decode cX8_topics 12 = .ok (.bipush (-2), 2) := by decide +kernel
theorem dX8_topics_14 : decode cX8_topics 14 = .ok (.ireturn, 1) := by decide +kernel
theorem dX8_topics_15 : decode cX8_topics 15 = .ok (.iload_n 1, 1) := by decide +kernel
theorem dX8_topics_16 : decode cX8_topics 16 = .ok (.ifCond .ne 8, 3) := by decide +kernel
theorem dX8_topics_19 : decode cX8_topics 19 = .ok (.aload_n 0, 1) := by decide +kernel
theorem dX8_topics_20 : decode cX8_topics 20 = .ok (.invokevirtual 362, 3) := by decide +kernel
theorem dX8_topics_23 : decode cX8_topics 23 = .ok (.ireturn, 1) := by decide +kernel
theorem dX8_topics_24 : decode cX8_topics 24 = .ok (.iconst 0, 1) := by decide +kernel
theorem dX8_topics_25 : decode cX8_topics 25 = .ok (.istore_n 2, 1) := by decide +kernel
theorem dX8_topics_26 : decode cX8_topics 26 = .ok (.iconst 1, 1) := by decide +kernel
theorem dX8_topics_27 : decode cX8_topics 27 = .ok (.istore_n 3, 1) := by decide +kernel
theorem dX8_topics_28 : decode cX8_topics 28 = .ok (.iload_n 3, 1) := by decide +kernel
theorem dX8_topics_29 : decode cX8_topics 29 = .ok (.bipush 8, 2) := by decide +kernel
theorem dX8_topics_31 : decode cX8_topics 31 = .ok (.if_icmp .ge 28, 3) := by decide +kernel
theorem dX8_topics_34 : decode cX8_topics 34 = .ok (.aload_n 0, 1) := by decide +kernel
theorem dX8_topics_35 : decode cX8_topics 35 = .ok (.iload_n 3, 1) := by decide +kernel
theorem dX8_topics_36 : decode cX8_topics 36 = .ok (.invokevirtual 365, 3) := by decide +kernel
theorem dX8_topics_39 : decode cX8_topics 39 = .ok (.aload_n 0, 1) := by decide +kernel
theorem dX8_topics_40 : decode cX8_topics 40 = .ok (.iload_n 2, 1) := by decide +kernel
theorem dX8_topics_41 : decode cX8_topics 41 = .ok (.invokevirtual 365, 3) := by decide +kernel
theorem dX8_topics_44 : decode cX8_topics 44 = .ok (.if_icmp .le 7, 3) := by decide +kernel
theorem dX8_topics_47 : decode cX8_topics 47 = .ok (.iload_n 3, 1) := by decide +kernel
theorem dX8_topics_48 : decode cX8_topics 48 = .ok (.goto 4, 3) := by decide +kernel
theorem dX8_topics_51 : decode cX8_topics 51 = .ok (.iload_n 2, 1) := by decide +kernel
theorem dX8_topics_52 : decode cX8_topics 52 = .ok (.istore_n 2, 1) := by decide +kernel
theorem dX8_topics_53 : decode cX8_topics 53 = .ok (.iinc 3 1, 3) := by decide +kernel
theorem dX8_topics_56 : decode cX8_topics 56 = .ok (.goto (-28), 3) := by decide +kernel
theorem dX8_topics_59 : decode cX8_topics 59 = .ok (.iload_n 1, 1) := by decide +kernel
theorem dX8_topics_60 : decode cX8_topics 60 = .ok (.iconst 1, 1) := by decide +kernel
theorem dX8_topics_61 : decode cX8_topics 61 = .ok (.if_icmp .ne 7, 3) := by decide +kernel
theorem dX8_topics_64 : decode cX8_topics 64 = .ok (.iload_n 2, 1) := by decide +kernel
theorem dX8_topics_65 : decode cX8_topics 65 = .ok (.goto 8, 3) := by decide +kernel
theorem dX8_topics_68 : decode cX8_topics 68 = .ok (.aload_n 0, 1) := by decide +kernel
theorem dX8_topics_69 : decode cX8_topics 69 = .ok (.iload_n 2, 1) := by decide +kernel
theorem dX8_topics_70 : decode cX8_topics 70 = .ok (.invokevirtual 365, 3) := by decide +kernel
theorem dX8_topics_73 : decode cX8_topics 73 = .ok (.ireturn, 1) := by decide +kernel
set_option maxHeartbeats 4000000 in
set_option maxRecDepth 100000 in
theorem bb_X8_topics_52 {p : Program} {l : Launch} {e : Env} {s : State} {m : MethodId} {args : Array Value} {below : List Frame} {meth : Method} {c : Code} {D : va_G} {cy : Nat → ClassId} {ad : Nat → Nat} {A : Nat → Prop} {Q : Int32 → Sg → Prop} (K : Kx p s m args meth c cX8_topics 4 RX8 D cy) (hr : meth.sig.returnType = (some .int)) {rc28 : Int32 → Int32 → Int32 → Sg → Prop} (hrc28 : ∀ (x1 : Int32) (x2 : Int32) (x3 : Int32) (u : Sg) (H : Heap) (locs : List Loc) (ls : Array Slot), rc28 x1 x2 x3 u → Wd D A s.heap (wsM cy ad u) H locs → lv_has ls 4 [(0, .ref (ad 0)), (1, .int x1), (2, .int x2), (3, .int x3)] → W p l e (rmD 48) s m args below meth c H locs 0 0 (MQ below (va_Qi Q (PostG (wsM cy ad) D A) A) args s 0 0 A) (F0 m 28 ls [])) (x1 : Int32) (x3 : Int32) (t0 : Int32) (g0 : Sg) (H : Heap) (locs : List Loc) (ls : Array Slot) (hd : vv_X8_topics_J52 rc28 x1 x3 t0 g0 Q) (hw : Wd D A s.heap (wsM cy ad g0) H locs) (hl : lv_has ls 4 [(0, .ref (ad 0)), (1, .int x1), (3, .int x3)]) : W p l e (rmD 48) s m args below meth c H locs 0 0 (MQ below (va_Qi Q (PostG (wsM cy ad) D A) A) args s 0 0 A) (F0 m 52 ls [.int t0]) := by
  unfold vv_X8_topics_J52 at hd
  refine lv_topi (fun x2_16 ex2_16 => ?_)
  have hd := hd x2_16 ex2_16
  refine lv_istore_n (lv' := [(2, .int x2_16), (0, .ref (ad 0)), (1, .int x1), (3, .int x3)]) K.1 K.2.1 dX8_topics_52 rfl hl (by decide) rfl (fun ls hl => ?_)
  obtain ⟨x3_17, ex3_17⟩ : ∃ y : Int32, y = x3 + (1 : Int32) := ⟨_, rfl⟩
  have hd := hd x3_17 ex3_17
  refine lv_iinc (v := x3_17) (lv' := [(3, .int x3_17), (2, .int x2_16), (0, .ref (ad 0)), (1, .int x1)]) K.1 K.2.1 dX8_topics_53 hl (k := 3) rfl (by rw [ex3_17]; rfl) (by decide) rfl (fun ls hl => ?_)
  refine lv_goto (tgt := 28) K.1 K.2.1 dX8_topics_56 (by decide) ?_
  exact hrc28 x1 x2_16 x3_17 g0 _ _ _ hd hw (lv_sub hl [2, 3, 1, 0] rfl)
set_option maxHeartbeats 4000000 in
set_option maxRecDepth 100000 in
theorem bb_X8_topics_28 {p : Program} {l : Launch} {e : Env} {s : State} {m : MethodId} {args : Array Value} {below : List Frame} {meth : Method} {c : Code} {D : va_G} {cy : Nat → ClassId} {ad : Nat → Nat} {A : Nat → Prop} {Q : Int32 → Sg → Prop} (K : Kx p s m args meth c cX8_topics 4 RX8 D cy) (hr : meth.sig.returnType = (some .int)) : ∀ (n : Nat) (x1 : Int32) (x2 : Int32) (x3 : Int32)  (g0 : Sg) (H : Heap) (locs : List Loc) (ls : Array Slot), vv_X8_topics_L28 Q n x1 x2 x3 g0 → Wd D A s.heap (wsM cy ad g0) H locs → lv_has ls 4 [(0, .ref (ad 0)), (1, .int x1), (2, .int x2), (3, .int x3)] → W p l e (rmD 48) s m args below meth c H locs 0 0 (MQ below (va_Qi Q (PostG (wsM cy ad) D A) A) args s 0 0 A) (F0 m 28 ls []) := by
  intro n
  induction n with
  | zero => intro _ _ _ _ _ _ _ hd; exact hd.elim
  | succ n ih =>
    intro x1 x2 x3 g0 H locs ls hd hw hl
    unfold vv_X8_topics_L28 at hd
    refine lv_iload_n K.1 K.2.1 dX8_topics_28 rfl (lv_at hl 3 rfl) ?_
    refine lv_bipush (v := (8 : Int32)) K.1 K.2.1 dX8_topics_29 (by decide) ?_
    refine lv_icmp_ge (tgt := 59) K.1 K.2.1 dX8_topics_31 (by decide) (fun h_7 => ?_) (fun h_7 => ?_)
    · have hd := hd.1 h_7
      refine lv_iload_n K.1 K.2.1 dX8_topics_59 rfl (lv_at hl 1 rfl) ?_
      refine lv_iconst (v := (1 : Int32)) K.1 K.2.1 dX8_topics_60 (by decide) ?_
      refine lv_icmp_ne (tgt := 68) K.1 K.2.1 dX8_topics_61 (by decide) (fun h_8 => ?_) (fun h_8 => ?_)
      · have hd := hd.1 h_8
        refine lv_aload_n K.1 K.2.1 dX8_topics_68 rfl (lv_at hl 0 rfl) ?_
        refine lv_iload_n K.1 K.2.1 dX8_topics_69 rfl (lv_at hl 2 rfl) ?_
        refine rk_vi (As := [.int x2]) (rest := []) K hw (cc_X8_overOf l D cy ad A g0 _ x2 hd) lk_X8_365 (ci := 8) rfl (q0 := 0) (wsM_at cy ad _ (by decide)) ⟨Nat.le_of_ble_eq_true rfl, Nat.le_of_ble_eq_true rfl⟩ ⟨Nat.zero_le _, Nat.zero_le _⟩ rfl hl.1 (Nat.le_of_ble_eq_true rfl) rfl dX8_topics_70 (fun r_10 g_9 H locs hd hw => ?_)
        exact rk_iret K hw hr hd dX8_topics_73
      · have hd := hd.2 h_8
        refine lv_iload_n K.1 K.2.1 dX8_topics_64 rfl (lv_at hl 2 rfl) ?_
        refine lv_goto (tgt := 73) K.1 K.2.1 dX8_topics_65 (by decide) ?_
        exact rk_iret K hw hr hd dX8_topics_73
    · have hd := hd.2 h_7
      refine lv_aload_n K.1 K.2.1 dX8_topics_34 rfl (lv_at hl 0 rfl) ?_
      refine lv_iload_n K.1 K.2.1 dX8_topics_35 rfl (lv_at hl 3 rfl) ?_
      refine rk_vi (As := [.int x3]) (rest := []) K hw (cc_X8_overOf l D cy ad A g0 _ x3 hd) lk_X8_365 (ci := 8) rfl (q0 := 0) (wsM_at cy ad _ (by decide)) ⟨Nat.le_of_ble_eq_true rfl, Nat.le_of_ble_eq_true rfl⟩ ⟨Nat.zero_le _, Nat.zero_le _⟩ rfl hl.1 (Nat.le_of_ble_eq_true rfl) rfl dX8_topics_36 (fun r_12 g_11 H locs hd hw => ?_)
      refine lv_aload_n K.1 K.2.1 dX8_topics_39 rfl (lv_at hl 0 rfl) ?_
      refine lv_iload_n K.1 K.2.1 dX8_topics_40 rfl (lv_at hl 2 rfl) ?_
      refine rk_vi (As := [.int x2]) (rest := [.int r_12]) K hw (cc_X8_overOf l D cy ad A g_11 _ x2 hd) lk_X8_365 (ci := 8) rfl (q0 := 0) (wsM_at cy ad _ (by decide)) ⟨Nat.le_of_ble_eq_true rfl, Nat.le_of_ble_eq_true rfl⟩ ⟨Nat.zero_le _, Nat.zero_le _⟩ rfl hl.1 (Nat.le_of_ble_eq_true rfl) rfl dX8_topics_41 (fun r_14 g_13 H locs hd hw => ?_)
      refine lv_icmp_le (tgt := 51) K.1 K.2.1 dX8_topics_44 (by decide) (fun h_15 => ?_) (fun h_15 => ?_)
      · have hd := hd.1 h_15
        refine lv_iload_n K.1 K.2.1 dX8_topics_51 rfl (lv_at hl 2 rfl) ?_
        exact bb_X8_topics_52 K hr ih x1 x3 x2 g_13 _ _ _ hd hw (lv_sub hl [0, 1, 3] rfl)
      · have hd := hd.2 h_15
        refine lv_iload_n K.1 K.2.1 dX8_topics_47 rfl (lv_at hl 3 rfl) ?_
        refine lv_goto (tgt := 52) K.1 K.2.1 dX8_topics_48 (by decide) ?_
        exact bb_X8_topics_52 K hr ih x1 x3 x3 g_13 _ _ _ hd hw (lv_sub hl [0, 1, 3] rfl)
set_option maxHeartbeats 4000000 in
set_option maxRecDepth 100000 in
theorem cc_X8_topics (l : Launch) (D : va_G) (cy : Nat → ClassId) (ad : Nat → Nat) (A : Nat → Prop) (g0 : Sg) (Q : Int32 → Sg → Prop) (x1 : Int32) (hd : vv_X8_topics x1 g0 Q) : Met l yX8_topics (Cond.code yX8_topics cX8_topics 4 (some .int) :: TT) (rmD 48) (va_Pc [.ref (ad 0), .int x1] (PreG (wsM cy ad) D cy A g0)) (va_Qi Q (PostG (wsM cy ad) D A) A) 0 0 A := by
  unfold vv_X8_topics at hd
  refine Met.ofW (cc := cX8_topics) (maxL := 4) (ret := (some .int)) (by decide) rfl ?_
  intro p e s m args below meth c s₁ B hml hv
  obtain ⟨rfl, hP, hK0, hD⟩ := hv
  have K : Kx p s m _ meth c cX8_topics 4 RX8 D cy := ⟨B.exec, B.bytes, hml, findClass_of_methodNamed B.named, fun w h => atoms_spec (ws := Cond.code yX8_topics cX8_topics 4 (some .int) :: TT) B.pre w (List.mem_cons_of_mem _ h), hK0, B.notSynchronized⟩
  have hw : Wd D A s.heap (wsM cy ad g0) s.heap [] := ⟨hP, hD, va_S.rf⟩
  have hr := B.returns
  have hl := lv_entry ([.ref (ad 0), .int x1]) (n := 4) (Nat.le_of_ble_eq_true rfl)
  rw [lg_entry_eq]
  generalize (lg_sl ([.ref (ad 0), .int x1]) ++ List.replicate (4 - (lg_sl ([.ref (ad 0), .int x1])).length) Slot.unset).toArray = ls at hl ⊢
  have hl : lv_has ls 4 [(0, .ref (ad 0)), (1, .int x1)] := hl
  refine lv_iload_n K.1 K.2.1 dX8_topics_0 rfl (lv_at hl 1 rfl) ?_
  refine lv_i2l (v := x1.toInt64) K.1 K.2.1 dX8_topics_1 rfl ?_
  refine lv_lconst (v := (0 : Int64)) K.1 K.2.1 dX8_topics_2 rfl ?_
  refine lv_ldc2 K.1 K.2.1 K.2.2.2.1 (K.2.2.2.2.1 _ kl_X8_360) dX8_topics_3 ?_
  refine rk_si (As := [.long x1.toInt64, .long (0 : Int64), .long (2 : Int64)]) (rest := []) K hw (cc_X8_in l D cy ad A g0 _ (x1.toInt64) (0 : Int64) (2 : Int64) hd) lk_X8_67 ⟨Nat.le_of_ble_eq_true rfl, Nat.le_of_ble_eq_true rfl⟩ ⟨Nat.zero_le _, Nat.zero_le _⟩ rfl hl.1 (Nat.le_of_ble_eq_true rfl) rfl dX8_topics_6 (fun r_2 g_1 H locs hd hw => ?_)
  refine lv_if_ne (tgt := 15) K.1 K.2.1 dX8_topics_9 (by decide) (fun h_3 => ?_) (fun h_3 => ?_)
  · have hd := hd.1 h_3
    refine lv_iload_n K.1 K.2.1 dX8_topics_15 rfl (lv_at hl 1 rfl) ?_
    refine lv_if_ne (tgt := 24) K.1 K.2.1 dX8_topics_16 (by decide) (fun h_4 => ?_) (fun h_4 => ?_)
    · have hd := hd.1 h_4
      refine lv_iconst (v := (0 : Int32)) K.1 K.2.1 dX8_topics_24 (by decide) ?_
      refine lv_topi (fun x2_5 ex2_5 => ?_)
      have hd := hd x2_5 ex2_5
      refine lv_istore_n (lv' := [(2, .int x2_5), (0, .ref (ad 0)), (1, .int x1)]) K.1 K.2.1 dX8_topics_25 rfl hl (by decide) rfl (fun ls hl => ?_)
      refine lv_iconst (v := (1 : Int32)) K.1 K.2.1 dX8_topics_26 (by decide) ?_
      refine lv_topi (fun x3_6 ex3_6 => ?_)
      have hd := hd x3_6 ex3_6
      refine lv_istore_n (lv' := [(3, .int x3_6), (2, .int x2_5), (0, .ref (ad 0)), (1, .int x1)]) K.1 K.2.1 dX8_topics_27 rfl hl (by decide) rfl (fun ls hl => ?_)
      obtain ⟨n9, hd⟩ := hd
      exact bb_X8_topics_28 K hr  n9 x1 x2_5 x3_6 g_1 _ _ _ hd hw (lv_sub hl [2, 3, 1, 0] rfl)
    · have hd := hd.2 h_4
      refine lv_aload_n K.1 K.2.1 dX8_topics_19 rfl (lv_at hl 0 rfl) ?_
      refine rk_vi (As := []) (rest := []) K hw (cc_X8_carriedSet l D cy ad A g_1 _  hd) lk_X8_362 (ci := 8) rfl (q0 := 0) (wsM_at cy ad _ (by decide)) ⟨Nat.le_of_ble_eq_true rfl, Nat.le_of_ble_eq_true rfl⟩ ⟨Nat.zero_le _, Nat.zero_le _⟩ rfl hl.1 (Nat.le_of_ble_eq_true rfl) rfl dX8_topics_20 (fun r_19 g_18 H locs hd hw => ?_)
      exact rk_iret K hw hr hd dX8_topics_23
  · have hd := hd.2 h_3
    refine lv_bipush (v := (-2 : Int32)) K.1 K.2.1 dX8_topics_12 (by decide) ?_
    exact rk_iret K hw hr hd dX8_topics_14
theorem dX8_passes_0 : decode cX8_passes 0 = .ok (.iconst 0, 1) := by decide +kernel
theorem dX8_passes_1 : decode cX8_passes 1 = .ok (.istore_n 1, 1) := by decide +kernel
theorem dX8_passes_2 : decode cX8_passes 2 = .ok (.iload_n 1, 1) := by decide +kernel
theorem dX8_passes_3 : decode cX8_passes 3 = .ok (.aload_n 0, 1) := by decide +kernel
theorem dX8_passes_4 : decode cX8_passes 4 = .ok (.getfield 64, 3) := by decide +kernel
theorem dX8_passes_7 : decode cX8_passes 7 = .ok (.if_icmp .ge 53, 3) := by decide +kernel
theorem dX8_passes_10 : decode cX8_passes 10 = .ok (.aload_n 0, 1) := by decide +kernel
theorem dX8_passes_11 : decode cX8_passes 11 = .ok (.getfield 29, 3) := by decide +kernel
theorem dX8_passes_14 : decode cX8_passes 14 = .ok (.iconst 5, 1) := by decide +kernel
theorem dX8_passes_15 : decode cX8_passes 15 = .ok (.iload_n 1, 1) := by decide +kernel
theorem dX8_passes_16 : decode cX8_passes 16 = .ok (.imul, 1) := by decide +kernel
theorem dX8_passes_17 : decode cX8_passes 17 = .ok (.iconst 3, 1) := by decide +kernel
theorem dX8_passes_18 : decode cX8_passes 18 = .ok (.iadd, 1) := by decide +kernel
theorem dX8_passes_19 : decode cX8_passes 19 = .ok (.aload_n 0, 1) := by decide +kernel
theorem dX8_passes_20 : decode cX8_passes 20 = .ok (.getfield 29, 3) := by decide +kernel
theorem dX8_passes_23 : decode cX8_passes 23 = .ok (.iconst 5, 1) := by decide +kernel
theorem dX8_passes_24 : decode cX8_passes 24 = .ok (.iload_n 1, 1) := by decide +kernel
theorem dX8_passes_25 : decode cX8_passes 25 = .ok (.imul, 1) := by decide +kernel
theorem dX8_passes_26 : decode cX8_passes 26 = .ok (.iconst 3, 1) := by decide +kernel
theorem dX8_passes_27 : decode cX8_passes 27 = .ok (.iadd, 1) := by decide +kernel
theorem dX8_passes_28 : decode cX8_passes 28 = .ok (.iaload, 1) := by decide +kernel
theorem dX8_passes_29 : decode cX8_passes 29 = .ok (.aload_n 0, 1) := by decide +kernel
theorem dX8_passes_30 : decode cX8_passes 30 = .ok (.iload_n 1, 1) := by decide +kernel
theorem dX8_passes_31 : decode cX8_passes 31 = .ok (.invokevirtual 115, 3) := by decide +kernel
theorem dX8_passes_34 : decode cX8_passes 34 = .ok (.ifCond .eq 11, 3) := by decide +kernel
theorem dX8_passes_37 : decode cX8_passes 37 = .ok (.aload_n 0, 1) := by decide +kernel
theorem dX8_passes_38 : decode cX8_passes 38 = .ok (.iload_n 1, 1) := by decide +kernel
theorem dX8_passes_39 : decode cX8_passes 39 = .ok (.invokevirtual 124, 3) := by decide +kernel
theorem dX8_passes_42 : decode cX8_passes 42 = .ok (.goto 4, 3) := by decide +kernel
theorem dX8_passes_45 : decode cX8_passes 45 = .ok (.iconst 0, 1) := by decide +kernel
theorem dX8_passes_46 : decode cX8_passes 46 = .ok (.isub, 1) := by decide +kernel
theorem dX8_passes_47 : decode cX8_passes 47 = .ok (.iconst 0, 1) := by decide +kernel
theorem dX8_passes_48 : decode cX8_passes 48 = .ok (.bipush 99, 2) := by decide +kernel
theorem dX8_passes_50 : decode cX8_passes 50 = .ok (.invokestatic 336, 3) := by decide +kernel
theorem dX8_passes_53 : decode cX8_passes 53 = .ok (.iastore, 1) := by decide +kernel
theorem dX8_passes_54 : decode cX8_passes 54 = .ok (.iinc 1 1, 3) := by decide +kernel
theorem dX8_passes_57 : decode cX8_passes 57 = .ok (.goto (-55), 3) := by decide +kernel
theorem dX8_passes_60 : decode cX8_passes 60 = .ok (.aload_n 0, 1) := by decide +kernel
theorem dX8_passes_61 : decode cX8_passes 61 = .ok (.dup, 1) := by decide +kernel
theorem dX8_passes_62 : decode cX8_passes 62 = .ok (.getfield 92, 3) := by decide +kernel
theorem dX8_passes_65 : decode cX8_passes 65 = .ok (.iconst 1, 1) := by decide +kernel
theorem dX8_passes_66 : decode cX8_passes 66 = .ok (.iadd, 1) := by decide +kernel
theorem dX8_passes_67 : decode cX8_passes 67 = .ok (.putfield 92, 3) := by decide +kernel
theorem dX8_passes_70 : decode cX8_passes 70 = .ok (.return_, 1) := by decide +kernel
set_option maxHeartbeats 4000000 in
set_option maxRecDepth 100000 in
theorem bb_X8_passes_46 {p : Program} {l : Launch} {e : Env} {s : State} {m : MethodId} {args : Array Value} {below : List Frame} {meth : Method} {c : Code} {D : va_G} {cy : Nat → ClassId} {ad : Nat → Nat} {A : Nat → Prop} {Q : Sg → Prop} (K : Kx p s m args meth c cX8_passes 2 RX8 D cy) (hr : meth.sig.returnType = none) {rc2 : Int32 → Sg → Prop} (hrc2 : ∀ (x1 : Int32) (u : Sg) (H : Heap) (locs : List Loc) (ls : Array Slot), rc2 x1 u → Wd D A s.heap (wsM cy ad u) H locs → lv_has ls 2 [(0, .ref (ad 0)), (1, .int x1)] → W p l e (rmD 44) s m args below meth c H locs 0 0 (MQ below (va_Qv Q (PostG (wsM cy ad) D A) A) args s 0 0 A) (F0 m 2 ls [])) (x1 : Int32) (t1 : Int32) (t2 : Int32) (t3 : Int32) (g0 : Sg) (H : Heap) (locs : List Loc) (ls : Array Slot) (hd : vv_X8_passes_J46 rc2 x1 t1 t2 t3 g0 Q) (hw : Wd D A s.heap (wsM cy ad g0) H locs) (hl : lv_has ls 2 [(0, .ref (ad 0)), (1, .int x1)]) : W p l e (rmD 44) s m args below meth c H locs 0 0 (MQ below (va_Qv Q (PostG (wsM cy ad) D A) A) args s 0 0 A) (F0 m 46 ls [.int t3, .int t2, .int t1, .ref (ad 5)]) := by
  unfold vv_X8_passes_J46 at hd
  refine lv_isub K.1 K.2.1 dX8_passes_46 ?_
  refine lv_iconst (v := (0 : Int32)) K.1 K.2.1 dX8_passes_47 (by decide) ?_
  refine lv_bipush (v := (99 : Int32)) K.1 K.2.1 dX8_passes_48 (by decide) ?_
  refine rk_si (As := [.int (t2 - t3), .int (0 : Int32), .int (99 : Int32)]) (rest := [.int t1, .ref (ad 5)]) K hw (cc_X8_within l D cy ad A g0 _ (t2 - t3) (0 : Int32) (99 : Int32) hd) lk_X8_336 ⟨Nat.le_of_ble_eq_true rfl, Nat.le_of_ble_eq_true rfl⟩ ⟨Nat.zero_le _, Nat.zero_le _⟩ rfl hl.1 (Nat.le_of_ble_eq_true rfl) rfl dX8_passes_50 (fun r_8 g_7 H locs hd hw => ?_)
  have hb := hd.1
  have hd := hd.2
  refine rm_iast 5 K hw (by decide) hb dX8_passes_53 (fun g_9 eg_9 H locs hw => ?_)
  have hd := hd g_9 eg_9
  obtain ⟨x1_10, ex1_10⟩ : ∃ y : Int32, y = x1 + (1 : Int32) := ⟨_, rfl⟩
  have hd := hd x1_10 ex1_10
  refine lv_iinc (v := x1_10) (lv' := [(1, .int x1_10), (0, .ref (ad 0))]) K.1 K.2.1 dX8_passes_54 hl (k := 1) rfl (by rw [ex1_10]; rfl) (by decide) rfl (fun ls hl => ?_)
  refine lv_goto (tgt := 2) K.1 K.2.1 dX8_passes_57 (by decide) ?_
  exact hrc2 x1_10 g_9 _ _ _ hd hw (lv_sub hl [1, 0] rfl)
set_option maxHeartbeats 4000000 in
set_option maxRecDepth 100000 in
theorem bb_X8_passes_2 {p : Program} {l : Launch} {e : Env} {s : State} {m : MethodId} {args : Array Value} {below : List Frame} {meth : Method} {c : Code} {D : va_G} {cy : Nat → ClassId} {ad : Nat → Nat} {A : Nat → Prop} {Q : Sg → Prop} (K : Kx p s m args meth c cX8_passes 2 RX8 D cy) (hr : meth.sig.returnType = none) : ∀ (n : Nat) (x1 : Int32)  (g0 : Sg) (H : Heap) (locs : List Loc) (ls : Array Slot), vv_X8_passes_L2 Q n x1 g0 → Wd D A s.heap (wsM cy ad g0) H locs → lv_has ls 2 [(0, .ref (ad 0)), (1, .int x1)] → W p l e (rmD 44) s m args below meth c H locs 0 0 (MQ below (va_Qv Q (PostG (wsM cy ad) D A) A) args s 0 0 A) (F0 m 2 ls []) := by
  intro n
  induction n with
  | zero => intro _ _ _ _ _ hd; exact hd.elim
  | succ n ih =>
    intro x1 g0 H locs ls hd hw hl
    unfold vv_X8_passes_L2 at hd
    refine lv_iload_n K.1 K.2.1 dX8_passes_2 rfl (lv_at hl 1 rfl) ?_
    refine lv_aload_n K.1 K.2.1 dX8_passes_3 rfl (lv_at hl 0 rfl) ?_
    refine rm_get 11 K hw (by decide) kf_X8_64 rfl dX8_passes_4 ?_
    refine lv_icmp_ge (tgt := 60) K.1 K.2.1 dX8_passes_7 (by decide) (fun h_2 => ?_) (fun h_2 => ?_)
    · have hd := hd.1 h_2
      refine lv_aload_n K.1 K.2.1 dX8_passes_60 rfl (lv_at hl 0 rfl) ?_
      refine lv_dup K.1 K.2.1 dX8_passes_61 rfl ?_
      refine rm_get 7 K hw (by decide) kf_X8_92 rfl dX8_passes_62 ?_
      refine lv_iconst (v := (1 : Int32)) K.1 K.2.1 dX8_passes_65 (by decide) ?_
      refine lv_iadd K.1 K.2.1 dX8_passes_66 ?_
      refine rm_put 7 K hw (by decide) kf_X8_92 rfl rfl rfl rfl (fsM_7 ad g0 _) dX8_passes_67 (fun g_3 eg_3 H locs hw => ?_)
      have hd := hd g_3 eg_3
      exact rk_vret K hw hr hd dX8_passes_70
    · have hd := hd.2 h_2
      refine lv_aload_n K.1 K.2.1 dX8_passes_10 rfl (lv_at hl 0 rfl) ?_
      refine rm_get 10 K hw (by decide) kf_X8_29 rfl dX8_passes_11 ?_
      refine lv_iconst (v := (5 : Int32)) K.1 K.2.1 dX8_passes_14 (by decide) ?_
      refine lv_iload_n K.1 K.2.1 dX8_passes_15 rfl (lv_at hl 1 rfl) ?_
      refine lv_imul K.1 K.2.1 dX8_passes_16 ?_
      refine lv_iconst (v := (3 : Int32)) K.1 K.2.1 dX8_passes_17 (by decide) ?_
      refine lv_iadd K.1 K.2.1 dX8_passes_18 ?_
      refine lv_aload_n K.1 K.2.1 dX8_passes_19 rfl (lv_at hl 0 rfl) ?_
      refine rm_get 10 K hw (by decide) kf_X8_29 rfl dX8_passes_20 ?_
      refine lv_iconst (v := (5 : Int32)) K.1 K.2.1 dX8_passes_23 (by decide) ?_
      refine lv_iload_n K.1 K.2.1 dX8_passes_24 rfl (lv_at hl 1 rfl) ?_
      refine lv_imul K.1 K.2.1 dX8_passes_25 ?_
      refine lv_iconst (v := (3 : Int32)) K.1 K.2.1 dX8_passes_26 (by decide) ?_
      refine lv_iadd K.1 K.2.1 dX8_passes_27 ?_
      have hb := hd.1
      have hd := hd.2
      refine rm_iald 5 K hw (by decide) hb dX8_passes_28 ?_
      refine lv_aload_n K.1 K.2.1 dX8_passes_29 rfl (lv_at hl 0 rfl) ?_
      refine lv_iload_n K.1 K.2.1 dX8_passes_30 rfl (lv_at hl 1 rfl) ?_
      refine rk_vi (As := [.int x1]) (rest := [.int (g0 5 (((5 : Int32) * x1) + (3 : Int32)).toNatClampNeg), .int (((5 : Int32) * x1) + (3 : Int32)), .ref (ad 5)]) K hw (cc_X8_isWhole l D cy ad A g0 _ x1 hd) lk_X8_115 (ci := 8) rfl (q0 := 0) (wsM_at cy ad _ (by decide)) ⟨Nat.le_of_ble_eq_true rfl, Nat.le_of_ble_eq_true rfl⟩ ⟨Nat.zero_le _, Nat.zero_le _⟩ rfl hl.1 (Nat.le_of_ble_eq_true rfl) rfl dX8_passes_31 (fun r_5 g_4 H locs hd hw => ?_)
      refine lv_if_eq (tgt := 45) K.1 K.2.1 dX8_passes_34 (by decide) (fun h_6 => ?_) (fun h_6 => ?_)
      · have hd := hd.1 h_6
        refine lv_iconst (v := (0 : Int32)) K.1 K.2.1 dX8_passes_45 (by decide) ?_
        exact bb_X8_passes_46 K hr ih x1 (((5 : Int32) * x1) + (3 : Int32)) (g0 5 (((5 : Int32) * x1) + (3 : Int32)).toNatClampNeg) (0 : Int32) g_4 _ _ _ hd hw (lv_sub hl [0, 1] rfl)
      · have hd := hd.2 h_6
        refine lv_aload_n K.1 K.2.1 dX8_passes_37 rfl (lv_at hl 0 rfl) ?_
        refine lv_iload_n K.1 K.2.1 dX8_passes_38 rfl (lv_at hl 1 rfl) ?_
        refine rk_vi (As := [.int x1]) (rest := [.int (g0 5 (((5 : Int32) * x1) + (3 : Int32)).toNatClampNeg), .int (((5 : Int32) * x1) + (3 : Int32)), .ref (ad 5)]) K hw (cc_X8_smoothsOf l D cy ad A g_4 _ x1 hd) lk_X8_124 (ci := 8) rfl (q0 := 0) (wsM_at cy ad _ (by decide)) ⟨Nat.le_of_ble_eq_true rfl, Nat.le_of_ble_eq_true rfl⟩ ⟨Nat.zero_le _, Nat.zero_le _⟩ rfl hl.1 (Nat.le_of_ble_eq_true rfl) rfl dX8_passes_39 (fun r_12 g_11 H locs hd hw => ?_)
        refine lv_goto (tgt := 46) K.1 K.2.1 dX8_passes_42 (by decide) ?_
        exact bb_X8_passes_46 K hr ih x1 (((5 : Int32) * x1) + (3 : Int32)) (g0 5 (((5 : Int32) * x1) + (3 : Int32)).toNatClampNeg) r_12 g_11 _ _ _ hd hw (lv_sub hl [0, 1] rfl)
set_option maxHeartbeats 4000000 in
set_option maxRecDepth 100000 in
theorem cc_X8_passes (l : Launch) (D : va_G) (cy : Nat → ClassId) (ad : Nat → Nat) (A : Nat → Prop) (g0 : Sg) (Q : Sg → Prop)  (hd : vv_X8_passes  g0 Q) : Met l yX8_passes (Cond.code yX8_passes cX8_passes 2 none :: TT) (rmD 44) (va_Pc [.ref (ad 0)] (PreG (wsM cy ad) D cy A g0)) (va_Qv Q (PostG (wsM cy ad) D A) A) 0 0 A := by
  unfold vv_X8_passes at hd
  refine Met.ofW (cc := cX8_passes) (maxL := 2) (ret := none) (by decide) rfl ?_
  intro p e s m args below meth c s₁ B hml hv
  obtain ⟨rfl, hP, hK0, hD⟩ := hv
  have K : Kx p s m _ meth c cX8_passes 2 RX8 D cy := ⟨B.exec, B.bytes, hml, findClass_of_methodNamed B.named, fun w h => atoms_spec (ws := Cond.code yX8_passes cX8_passes 2 none :: TT) B.pre w (List.mem_cons_of_mem _ h), hK0, B.notSynchronized⟩
  have hw : Wd D A s.heap (wsM cy ad g0) s.heap [] := ⟨hP, hD, va_S.rf⟩
  have hr := B.returns
  have hl := lv_entry ([.ref (ad 0)]) (n := 2) (Nat.le_of_ble_eq_true rfl)
  rw [lg_entry_eq]
  generalize (lg_sl ([.ref (ad 0)]) ++ List.replicate (2 - (lg_sl ([.ref (ad 0)])).length) Slot.unset).toArray = ls at hl ⊢
  have hl : lv_has ls 2 [(0, .ref (ad 0))] := hl
  refine lv_iconst (v := (0 : Int32)) K.1 K.2.1 dX8_passes_0 (by decide) ?_
  refine lv_topi (fun x1_1 ex1_1 => ?_)
  have hd := hd x1_1 ex1_1
  refine lv_istore_n (lv' := [(1, .int x1_1), (0, .ref (ad 0))]) K.1 K.2.1 dX8_passes_1 rfl hl (by decide) rfl (fun ls hl => ?_)
  obtain ⟨n9, hd⟩ := hd
  exact bb_X8_passes_2 K hr  n9 x1_1 g0 _ _ _ hd hw (lv_sub hl [1, 0] rfl)
theorem dX8_day_0 : decode cX8_day 0 = .ok (.aload_n 0, 1) := by decide +kernel
theorem dX8_day_1 : decode cX8_day 1 = .ok (.getfield 92, 3) := by decide +kernel
theorem dX8_day_4 : decode cX8_day 4 = .ok (.sipush 999, 3) := by decide +kernel
theorem dX8_day_7 : decode cX8_day 7 = .ok (.if_icmp .ne 6, 3) := by decide +kernel
theorem dX8_day_10 : decode cX8_day 10 = .ok (.bipush (-3), 2) := by decide +kernel
theorem dX8_day_12 : decode cX8_day 12 = .ok (.ireturn, 1) := by decide +kernel
theorem dX8_day_13 : decode cX8_day 13 = .ok (.aload_n 0, 1) := by decide +kernel
theorem dX8_day_14 : decode cX8_day 14 = .ok (.invokevirtual 368, 3) := by decide +kernel
theorem dX8_day_17 : decode cX8_day 17 = .ok (.iconst 0, 1) := by decide +kernel
theorem dX8_day_18 : decode cX8_day 18 = .ok (.istore_n 1, 1) := by decide +kernel
theorem dX8_day_19 : decode cX8_day 19 = .ok (.iconst 0, 1) := by decide +kernel
theorem dX8_day_20 : decode cX8_day 20 = .ok (.istore_n 2, 1) := by decide +kernel
theorem dX8_day_21 : decode cX8_day 21 = .ok (.iload_n 2, 1) := by decide +kernel
theorem dX8_day_22 : decode cX8_day 22 = .ok (.aload_n 0, 1) := by decide +kernel
theorem dX8_day_23 : decode cX8_day 23 = .ok (.getfield 64, 3) := by decide +kernel
theorem dX8_day_26 : decode cX8_day 26 = .ok (.if_icmp .ge 38, 3) := by decide +kernel
theorem dX8_day_29 : decode cX8_day 29 = .ok (.iload_n 1, 1) := by decide +kernel
theorem dX8_day_30 : decode cX8_day 30 = .ok (.aload_n 0, 1) := by decide +kernel
theorem dX8_day_31 : decode cX8_day 31 = .ok (.iload_n 2, 1) := by decide +kernel
theorem dX8_day_32 : decode cX8_day 32 = .ok (.invokevirtual 115, 3) := by decide +kernel
theorem dX8_day_35 : decode cX8_day 35 = .ok (.ifCond .eq 20, 3) := by decide +kernel
theorem dX8_day_38 : decode cX8_day 38 = .ok (.aload_n 0, 1) := by decide +kernel
theorem dX8_day_39 : decode cX8_day 39 = .ok (.getfield 29, 3) := by decide +kernel
theorem dX8_day_42 : decode cX8_day 42 = .ok (.iconst 5, 1) := by decide +kernel
theorem dX8_day_43 : decode cX8_day 43 = .ok (.iload_n 2, 1) := by decide +kernel
theorem dX8_day_44 : decode cX8_day 44 = .ok (.imul, 1) := by decide +kernel
theorem dX8_day_45 : decode cX8_day 45 = .ok (.iconst 3, 1) := by decide +kernel
theorem dX8_day_46 : decode cX8_day 46 = .ok (.iadd, 1) := by decide +kernel
theorem dX8_day_47 : decode cX8_day 47 = .ok (.iaload, 1) := by decide +kernel
theorem dX8_day_48 : decode cX8_day 48 = .ok (.ifCond .ne 7, 3) := by decide +kernel
theorem dX8_day_51 : decode cX8_day 51 = .ok (.iconst 1, 1) := by decide +kernel
theorem dX8_day_52 : decode cX8_day 52 = .ok (.goto 4, 3) := by decide +kernel
theorem dX8_day_55 : decode cX8_day 55 = .ok (.iconst 0, 1) := by decide +kernel
theorem dX8_day_56 : decode cX8_day 56 = .ok (.iadd, 1) := by decide +kernel
theorem dX8_day_57 : decode cX8_day 57 = .ok (.istore_n 1, 1) := by decide +kernel
theorem dX8_day_58 : decode cX8_day 58 = .ok (.iinc 2 1, 3) := by decide +kernel
theorem dX8_day_61 : decode cX8_day 61 = .ok (.goto (-40), 3) := by decide +kernel
theorem dX8_day_64 : decode cX8_day 64 = .ok (.iload_n 1, 1) := by decide +kernel
theorem dX8_day_65 : decode cX8_day 65 = .ok (.ireturn, 1) := by decide +kernel
set_option maxHeartbeats 4000000 in
set_option maxRecDepth 100000 in
theorem bb_X8_day_56 {p : Program} {l : Launch} {e : Env} {s : State} {m : MethodId} {args : Array Value} {below : List Frame} {meth : Method} {c : Code} {D : va_G} {cy : Nat → ClassId} {ad : Nat → Nat} {A : Nat → Prop} {Q : Int32 → Sg → Prop} (K : Kx p s m args meth c cX8_day 3 RX8 D cy) (hr : meth.sig.returnType = (some .int)) {rc21 : Int32 → Int32 → Sg → Prop} (hrc21 : ∀ (x1 : Int32) (x2 : Int32) (u : Sg) (H : Heap) (locs : List Loc) (ls : Array Slot), rc21 x1 x2 u → Wd D A s.heap (wsM cy ad u) H locs → lv_has ls 3 [(0, .ref (ad 0)), (1, .int x1), (2, .int x2)] → W p l e (rmD 45) s m args below meth c H locs 0 0 (MQ below (va_Qi Q (PostG (wsM cy ad) D A) A) args s 0 0 A) (F0 m 21 ls [])) (x2 : Int32) (t0 : Int32) (t1 : Int32) (g0 : Sg) (H : Heap) (locs : List Loc) (ls : Array Slot) (hd : vv_X8_day_J56 rc21 x2 t0 t1 g0 Q) (hw : Wd D A s.heap (wsM cy ad g0) H locs) (hl : lv_has ls 3 [(0, .ref (ad 0)), (2, .int x2)]) : W p l e (rmD 45) s m args below meth c H locs 0 0 (MQ below (va_Qi Q (PostG (wsM cy ad) D A) A) args s 0 0 A) (F0 m 56 ls [.int t1, .int t0]) := by
  unfold vv_X8_day_J56 at hd
  refine lv_iadd K.1 K.2.1 dX8_day_56 ?_
  refine lv_topi (fun x1_10 ex1_10 => ?_)
  have hd := hd x1_10 ex1_10
  refine lv_istore_n (lv' := [(1, .int x1_10), (0, .ref (ad 0)), (2, .int x2)]) K.1 K.2.1 dX8_day_57 rfl hl (by decide) rfl (fun ls hl => ?_)
  obtain ⟨x2_11, ex2_11⟩ : ∃ y : Int32, y = x2 + (1 : Int32) := ⟨_, rfl⟩
  have hd := hd x2_11 ex2_11
  refine lv_iinc (v := x2_11) (lv' := [(2, .int x2_11), (1, .int x1_10), (0, .ref (ad 0))]) K.1 K.2.1 dX8_day_58 hl (k := 2) rfl (by rw [ex2_11]; rfl) (by decide) rfl (fun ls hl => ?_)
  refine lv_goto (tgt := 21) K.1 K.2.1 dX8_day_61 (by decide) ?_
  exact hrc21 x1_10 x2_11 g0 _ _ _ hd hw (lv_sub hl [2, 1, 0] rfl)
set_option maxHeartbeats 4000000 in
set_option maxRecDepth 100000 in
theorem bb_X8_day_55 {p : Program} {l : Launch} {e : Env} {s : State} {m : MethodId} {args : Array Value} {below : List Frame} {meth : Method} {c : Code} {D : va_G} {cy : Nat → ClassId} {ad : Nat → Nat} {A : Nat → Prop} {Q : Int32 → Sg → Prop} (K : Kx p s m args meth c cX8_day 3 RX8 D cy) (hr : meth.sig.returnType = (some .int)) {rc21 : Int32 → Int32 → Sg → Prop} (hrc21 : ∀ (x1 : Int32) (x2 : Int32) (u : Sg) (H : Heap) (locs : List Loc) (ls : Array Slot), rc21 x1 x2 u → Wd D A s.heap (wsM cy ad u) H locs → lv_has ls 3 [(0, .ref (ad 0)), (1, .int x1), (2, .int x2)] → W p l e (rmD 45) s m args below meth c H locs 0 0 (MQ below (va_Qi Q (PostG (wsM cy ad) D A) A) args s 0 0 A) (F0 m 21 ls [])) (x2 : Int32) (t0 : Int32) (g0 : Sg) (H : Heap) (locs : List Loc) (ls : Array Slot) (hd : vv_X8_day_J55 rc21 x2 t0 g0 Q) (hw : Wd D A s.heap (wsM cy ad g0) H locs) (hl : lv_has ls 3 [(0, .ref (ad 0)), (2, .int x2)]) : W p l e (rmD 45) s m args below meth c H locs 0 0 (MQ below (va_Qi Q (PostG (wsM cy ad) D A) A) args s 0 0 A) (F0 m 55 ls [.int t0]) := by
  unfold vv_X8_day_J55 at hd
  refine lv_iconst (v := (0 : Int32)) K.1 K.2.1 dX8_day_55 (by decide) ?_
  exact bb_X8_day_56 K hr hrc21 x2 t0 (0 : Int32) g0 _ _ _ hd hw (lv_sub hl [0, 1] rfl)
set_option maxHeartbeats 4000000 in
set_option maxRecDepth 100000 in
theorem bb_X8_day_21 {p : Program} {l : Launch} {e : Env} {s : State} {m : MethodId} {args : Array Value} {below : List Frame} {meth : Method} {c : Code} {D : va_G} {cy : Nat → ClassId} {ad : Nat → Nat} {A : Nat → Prop} {Q : Int32 → Sg → Prop} (K : Kx p s m args meth c cX8_day 3 RX8 D cy) (hr : meth.sig.returnType = (some .int)) : ∀ (n : Nat) (x1 : Int32) (x2 : Int32)  (g0 : Sg) (H : Heap) (locs : List Loc) (ls : Array Slot), vv_X8_day_L21 Q n x1 x2 g0 → Wd D A s.heap (wsM cy ad g0) H locs → lv_has ls 3 [(0, .ref (ad 0)), (1, .int x1), (2, .int x2)] → W p l e (rmD 45) s m args below meth c H locs 0 0 (MQ below (va_Qi Q (PostG (wsM cy ad) D A) A) args s 0 0 A) (F0 m 21 ls []) := by
  intro n
  induction n with
  | zero => intro _ _ _ _ _ _ hd; exact hd.elim
  | succ n ih =>
    intro x1 x2 g0 H locs ls hd hw hl
    unfold vv_X8_day_L21 at hd
    refine lv_iload_n K.1 K.2.1 dX8_day_21 rfl (lv_at hl 2 rfl) ?_
    refine lv_aload_n K.1 K.2.1 dX8_day_22 rfl (lv_at hl 0 rfl) ?_
    refine rm_get 11 K hw (by decide) kf_X8_64 rfl dX8_day_23 ?_
    refine lv_icmp_ge (tgt := 64) K.1 K.2.1 dX8_day_26 (by decide) (fun h_6 => ?_) (fun h_6 => ?_)
    · have hd := hd.1 h_6
      refine lv_iload_n K.1 K.2.1 dX8_day_64 rfl (lv_at hl 1 rfl) ?_
      exact rk_iret K hw hr hd dX8_day_65
    · have hd := hd.2 h_6
      refine lv_iload_n K.1 K.2.1 dX8_day_29 rfl (lv_at hl 1 rfl) ?_
      refine lv_aload_n K.1 K.2.1 dX8_day_30 rfl (lv_at hl 0 rfl) ?_
      refine lv_iload_n K.1 K.2.1 dX8_day_31 rfl (lv_at hl 2 rfl) ?_
      refine rk_vi (As := [.int x2]) (rest := [.int x1]) K hw (cc_X8_isWhole l D cy ad A g0 _ x2 hd) lk_X8_115 (ci := 8) rfl (q0 := 0) (wsM_at cy ad _ (by decide)) ⟨Nat.le_of_ble_eq_true rfl, Nat.le_of_ble_eq_true rfl⟩ ⟨Nat.zero_le _, Nat.zero_le _⟩ rfl hl.1 (Nat.le_of_ble_eq_true rfl) rfl dX8_day_32 (fun r_8 g_7 H locs hd hw => ?_)
      refine lv_if_eq (tgt := 55) K.1 K.2.1 dX8_day_35 (by decide) (fun h_9 => ?_) (fun h_9 => ?_)
      · have hd := hd.1 h_9
        exact bb_X8_day_55 K hr ih x2 x1 g_7 _ _ _ hd hw (lv_sub hl [0, 2] rfl)
      · have hd := hd.2 h_9
        refine lv_aload_n K.1 K.2.1 dX8_day_38 rfl (lv_at hl 0 rfl) ?_
        refine rm_get 10 K hw (by decide) kf_X8_29 rfl dX8_day_39 ?_
        refine lv_iconst (v := (5 : Int32)) K.1 K.2.1 dX8_day_42 (by decide) ?_
        refine lv_iload_n K.1 K.2.1 dX8_day_43 rfl (lv_at hl 2 rfl) ?_
        refine lv_imul K.1 K.2.1 dX8_day_44 ?_
        refine lv_iconst (v := (3 : Int32)) K.1 K.2.1 dX8_day_45 (by decide) ?_
        refine lv_iadd K.1 K.2.1 dX8_day_46 ?_
        have hb := hd.1
        have hd := hd.2
        refine rm_iald 5 K hw (by decide) hb dX8_day_47 ?_
        refine lv_if_ne (tgt := 55) K.1 K.2.1 dX8_day_48 (by decide) (fun h_12 => ?_) (fun h_12 => ?_)
        · have hd := hd.1 h_12
          exact bb_X8_day_55 K hr ih x2 x1 g_7 _ _ _ hd hw (lv_sub hl [0, 2] rfl)
        · have hd := hd.2 h_12
          refine lv_iconst (v := (1 : Int32)) K.1 K.2.1 dX8_day_51 (by decide) ?_
          refine lv_goto (tgt := 56) K.1 K.2.1 dX8_day_52 (by decide) ?_
          exact bb_X8_day_56 K hr ih x2 x1 (1 : Int32) g_7 _ _ _ hd hw (lv_sub hl [0, 2] rfl)
set_option maxHeartbeats 4000000 in
set_option maxRecDepth 100000 in
theorem cc_X8_day (l : Launch) (D : va_G) (cy : Nat → ClassId) (ad : Nat → Nat) (A : Nat → Prop) (g0 : Sg) (Q : Int32 → Sg → Prop)  (hd : vv_X8_day  g0 Q) : Met l yX8_day (Cond.code yX8_day cX8_day 3 (some .int) :: TT) (rmD 45) (va_Pc [.ref (ad 0)] (PreG (wsM cy ad) D cy A g0)) (va_Qi Q (PostG (wsM cy ad) D A) A) 0 0 A := by
  unfold vv_X8_day at hd
  refine Met.ofW (cc := cX8_day) (maxL := 3) (ret := (some .int)) (by decide) rfl ?_
  intro p e s m args below meth c s₁ B hml hv
  obtain ⟨rfl, hP, hK0, hD⟩ := hv
  have K : Kx p s m _ meth c cX8_day 3 RX8 D cy := ⟨B.exec, B.bytes, hml, findClass_of_methodNamed B.named, fun w h => atoms_spec (ws := Cond.code yX8_day cX8_day 3 (some .int) :: TT) B.pre w (List.mem_cons_of_mem _ h), hK0, B.notSynchronized⟩
  have hw : Wd D A s.heap (wsM cy ad g0) s.heap [] := ⟨hP, hD, va_S.rf⟩
  have hr := B.returns
  have hl := lv_entry ([.ref (ad 0)]) (n := 3) (Nat.le_of_ble_eq_true rfl)
  rw [lg_entry_eq]
  generalize (lg_sl ([.ref (ad 0)]) ++ List.replicate (3 - (lg_sl ([.ref (ad 0)])).length) Slot.unset).toArray = ls at hl ⊢
  have hl : lv_has ls 3 [(0, .ref (ad 0))] := hl
  refine lv_aload_n K.1 K.2.1 dX8_day_0 rfl (lv_at hl 0 rfl) ?_
  refine rm_get 7 K hw (by decide) kf_X8_92 rfl dX8_day_1 ?_
  refine lv_sipush (v := (999 : Int32)) K.1 K.2.1 dX8_day_4 (by decide) ?_
  refine lv_icmp_ne (tgt := 13) K.1 K.2.1 dX8_day_7 (by decide) (fun h_1 => ?_) (fun h_1 => ?_)
  · have hd := hd.1 h_1
    refine lv_aload_n K.1 K.2.1 dX8_day_13 rfl (lv_at hl 0 rfl) ?_
    refine rk_vv (As := []) (rest := []) K hw (cc_X8_passes l D cy ad A g0 _  hd) lk_X8_368 (ci := 8) rfl (q0 := 0) (wsM_at cy ad _ (by decide)) ⟨Nat.le_of_ble_eq_true rfl, Nat.le_of_ble_eq_true rfl⟩ ⟨Nat.zero_le _, Nat.zero_le _⟩ rfl hl.1 (Nat.le_of_ble_eq_true rfl) rfl dX8_day_14 (fun g_2 H locs hd hw => ?_)
    refine lv_iconst (v := (0 : Int32)) K.1 K.2.1 dX8_day_17 (by decide) ?_
    refine lv_topi (fun x1_4 ex1_4 => ?_)
    have hd := hd x1_4 ex1_4
    refine lv_istore_n (lv' := [(1, .int x1_4), (0, .ref (ad 0))]) K.1 K.2.1 dX8_day_18 rfl hl (by decide) rfl (fun ls hl => ?_)
    refine lv_iconst (v := (0 : Int32)) K.1 K.2.1 dX8_day_19 (by decide) ?_
    refine lv_topi (fun x2_5 ex2_5 => ?_)
    have hd := hd x2_5 ex2_5
    refine lv_istore_n (lv' := [(2, .int x2_5), (1, .int x1_4), (0, .ref (ad 0))]) K.1 K.2.1 dX8_day_20 rfl hl (by decide) rfl (fun ls hl => ?_)
    obtain ⟨n9, hd⟩ := hd
    exact bb_X8_day_21 K hr  n9 x1_4 x2_5 g_2 _ _ _ hd hw (lv_sub hl [2, 1, 0] rfl)
  · have hd := hd.2 h_1
    refine lv_bipush (v := (-3 : Int32)) K.1 K.2.1 dX8_day_10 (by decide) ?_
    exact rk_iret K hw hr hd dX8_day_12
theorem dX8_run_0 : decode cX8_run 0 = .ok (.iload_n 1, 1) := by decide +kernel
theorem dX8_run_1 : decode cX8_run 1 = .ok (.i2l, 1) := by decide +kernel
theorem dX8_run_2 : decode cX8_run 2 = .ok (.lconst 0, 1) := by decide +kernel
theorem dX8_run_3 : decode cX8_run 3 = .ok (.ldc2_w 371, 3) := by decide +kernel
theorem dX8_run_6 : decode cX8_run 6 = .ok (.invokestatic 67, 3) := by decide +kernel
theorem dX8_run_9 : decode cX8_run 9 = .ok (.ifCond .eq 15, 3) := by decide +kernel
theorem dX8_run_12 : decode cX8_run 12 = .ok (.iload_n 2, 1) := by decide +kernel
theorem dX8_run_13 : decode cX8_run 13 = .ok (.i2l, 1) := by decide +kernel
theorem dX8_run_14 : decode cX8_run 14 = .ok (.lconst 0, 1) := by decide +kernel
theorem dX8_run_15 : decode cX8_run 15 = .ok (.ldc2_w 373, 3) := by decide +kernel
theorem dX8_run_18 : decode cX8_run 18 = .ok (.invokestatic 67, 3) := by decide +kernel
theorem dX8_run_21 : decode cX8_run 21 = .ok (.ifCond .ne 6, 3) := by decide +kernel
theorem dX8_run_24 : decode cX8_run 24 = .ok (.bipush (-2), 2) := by decide +kernel
theorem dX8_run_26 : decode cX8_run 26 = .ok (.ireturn, 1) := by decide +kernel
theorem dX8_run_27 : decode cX8_run 27 = .ok (.aload_n 0, 1) := by decide +kernel
theorem dX8_run_28 : decode cX8_run 28 = .ok (.getfield 92, 3) := by decide +kernel
theorem dX8_run_31 : decode cX8_run 31 = .ok (.istore_n 3, 1) := by decide +kernel
theorem dX8_run_32 : decode cX8_run 32 = .ok (.iconst 0, 1) := by decide +kernel
theorem dX8_run_33 : decode cX8_run 33 = .ok (.istore 4, 2) := by decide +kernel
theorem dX8_run_35 : decode cX8_run 35 = .ok (.iload 4, 2) := by decide +kernel
theorem dX8_run_37 : decode cX8_run 37 = .ok (.aload_n 0, 1) := by decide +kernel
theorem dX8_run_38 : decode cX8_run 38 = .ok (.getfield 64, 3) := by decide +kernel
theorem dX8_run_41 : decode cX8_run 41 = .ok (.if_icmp .ge 27, 3) := by decide +kernel
theorem dX8_run_44 : decode cX8_run 44 = .ok (.aload_n 0, 1) := by decide +kernel
theorem dX8_run_45 : decode cX8_run 45 = .ok (.getfield 32, 3) := by decide +kernel
theorem dX8_run_48 : decode cX8_run 48 = .ok (.iload 4, 2) := by decide +kernel
theorem dX8_run_50 : decode cX8_run 50 = .ok (.aload_n 0, 1) := by decide +kernel
theorem dX8_run_51 : decode cX8_run 51 = .ok (.getfield 29, 3) := by decide +kernel
theorem dX8_run_54 : decode cX8_run 54 = .ok (.iconst 5, 1) := by decide +kernel
theorem dX8_run_55 : decode cX8_run 55 = .ok (.iload 4, 2) := by decide +kernel
theorem dX8_run_57 : decode cX8_run 57 = .ok (.imul, 1) := by decide +kernel
theorem dX8_run_58 : decode cX8_run 58 = .ok (.iconst 3, 1) := by decide +kernel
theorem dX8_run_59 : decode cX8_run 59 = .ok (.iadd, 1) := by decide +kernel
theorem dX8_run_60 : decode cX8_run 60 = .ok (.iaload, 1) := by decide +kernel
theorem dX8_run_61 : decode cX8_run 61 = .ok (.iastore, 1) := by decide +kernel
theorem dX8_run_62 : decode cX8_run 62 = .ok (.iinc 4 1, 3) := by decide +kernel
theorem dX8_run_65 : decode cX8_run 65 = .ok (.goto (-30), 3) := by decide +kernel
theorem dX8_run_68 : decode cX8_run 68 = .ok (.iconst 0, 1) := by decide +kernel
theorem dX8_run_69 : decode cX8_run 69 = .ok (.istore 4, 2) := by decide +kernel
theorem dX8_run_71 : decode cX8_run 71 = .ok (.iload 4, 2) := by decide +kernel
theorem dX8_run_73 : decode cX8_run 73 = .ok (.iload_n 1, 1) := by decide +kernel
theorem dX8_run_74 : decode cX8_run 74 = .ok (.if_icmp .ge 13, 3) := by decide +kernel
theorem dX8_run_77 : decode cX8_run 77 = .ok (.aload_n 0, 1) := by decide +kernel
theorem dX8_run_78 : decode cX8_run 78 = .ok (.invokevirtual 368, 3) := by decide +kernel
theorem dX8_run_81 : decode cX8_run 81 = .ok (.iinc 4 1, 3) := by decide +kernel
theorem dX8_run_84 : decode cX8_run 84 = .ok (.goto (-13), 3) := by decide +kernel
theorem dX8_run_87 : decode cX8_run 87 = .ok (.iload_n 2, 1) := by decide +kernel
theorem dX8_run_88 : decode cX8_run 88 = .ok (.bipush 8, 2) := by decide +kernel
theorem dX8_run_90 : decode cX8_run 90 = .ok (.if_icmp .ne 13, 3) := by decide +kernel
theorem dX8_run_93 : decode cX8_run 93 = .ok (.aload_n 0, 1) := by decide +kernel
theorem dX8_run_94 : decode cX8_run 94 = .ok (.invokevirtual 362, 3) := by decide +kernel
theorem dX8_run_97 : decode cX8_run 97 = .ok (.invokestatic 375, 3) := by decide +kernel
theorem dX8_run_100 : decode cX8_run 100 = .ok (.goto 10, 3) := by decide +kernel
theorem dX8_run_103 : decode cX8_run 103 = .ok (.aload_n 0, 1) := by decide +kernel
theorem dX8_run_104 : decode cX8_run 104 = .ok (.iload_n 2, 1) := by decide +kernel
theorem dX8_run_105 : decode cX8_run 105 = .ok (.iconst 1, 1) := by decide +kernel
theorem dX8_run_106 : decode cX8_run 106 = .ok (.iconst 0, 1) := by decide +kernel
theorem dX8_run_107 : decode cX8_run 107 = .ok (.invokevirtual 343, 3) := by decide +kernel
theorem dX8_run_110 : decode cX8_run 110 = .ok (.istore 4, 2) := by decide +kernel
theorem dX8_run_112 : decode cX8_run 112 = .ok (.iconst 0, 1) := by decide +kernel
theorem dX8_run_113 : decode cX8_run 113 = .ok (.istore 5, 2) := by decide +kernel
theorem dX8_run_115 : decode cX8_run 115 = .ok (.iload 5, 2) := by decide +kernel
theorem dX8_run_117 : decode cX8_run 117 = .ok (.aload_n 0, 1) := by decide +kernel
theorem dX8_run_118 : decode cX8_run 118 = .ok (.getfield 64, 3) := by decide +kernel
theorem dX8_run_121 : decode cX8_run 121 = .ok (.if_icmp .ge 27, 3) := by decide +kernel
theorem dX8_run_124 : decode cX8_run 124 = .ok (.aload_n 0, 1) := by decide +kernel
theorem dX8_run_125 : decode cX8_run 125 = .ok (.getfield 29, 3) := by decide +kernel
theorem dX8_run_128 : decode cX8_run 128 = .ok (.iconst 5, 1) := by decide +kernel
theorem dX8_run_129 : decode cX8_run 129 = .ok (.iload 5, 2) := by decide +kernel
theorem dX8_run_131 : decode cX8_run 131 = .ok (.imul, 1) := by decide +kernel
theorem dX8_run_132 : decode cX8_run 132 = .ok (.iconst 3, 1) := by decide +kernel
theorem dX8_run_133 : decode cX8_run 133 = .ok (.iadd, 1) := by decide +kernel
theorem dX8_run_134 : decode cX8_run 134 = .ok (.aload_n 0, 1) := by decide +kernel
theorem dX8_run_135 : decode cX8_run 135 = .ok (.getfield 32, 3) := by decide +kernel
theorem dX8_run_138 : decode cX8_run 138 = .ok (.iload 5, 2) := by decide +kernel
theorem dX8_run_140 : decode cX8_run 140 = .ok (.iaload, 1) := by decide +kernel
theorem dX8_run_141 : decode cX8_run 141 = .ok (.iastore, 1) := by decide +kernel
theorem dX8_run_142 : decode cX8_run 142 = .ok (.iinc 5 1, 3) := by decide +kernel
theorem dX8_run_145 : decode cX8_run 145 = .ok (.goto (-30), 3) := by decide +kernel
theorem dX8_run_148 : decode cX8_run 148 = .ok (.aload_n 0, 1) := by decide +kernel
theorem dX8_run_149 : decode cX8_run 149 = .ok (.iload_n 3, 1) := by decide +kernel
theorem dX8_run_150 : decode cX8_run 150 = .ok (.putfield 92, 3) := by decide +kernel
theorem dX8_run_153 : decode cX8_run 153 = .ok (.iload 4, 2) := by decide +kernel
theorem dX8_run_155 : decode cX8_run 155 = .ok (.ireturn, 1) := by decide +kernel
set_option maxHeartbeats 4000000 in
set_option maxRecDepth 100000 in
theorem bb_X8_run_115 {p : Program} {l : Launch} {e : Env} {s : State} {m : MethodId} {args : Array Value} {below : List Frame} {meth : Method} {c : Code} {D : va_G} {cy : Nat → ClassId} {ad : Nat → Nat} {A : Nat → Prop} {Q : Int32 → Sg → Prop} (K : Kx p s m args meth c cX8_run 6 RX8 D cy) (hr : meth.sig.returnType = (some .int)) : ∀ (n : Nat) (x3 : Int32) (x4 : Int32) (x5 : Int32)  (g0 : Sg) (H : Heap) (locs : List Loc) (ls : Array Slot), vv_X8_run_L115 Q n x3 x4 x5 g0 → Wd D A s.heap (wsM cy ad g0) H locs → lv_has ls 6 [(0, .ref (ad 0)), (3, .int x3), (4, .int x4), (5, .int x5)] → W p l e (rmD 48) s m args below meth c H locs 0 0 (MQ below (va_Qi Q (PostG (wsM cy ad) D A) A) args s 0 0 A) (F0 m 115 ls []) := by
  intro n
  induction n with
  | zero => intro _ _ _ _ _ _ _ hd; exact hd.elim
  | succ n ih =>
    intro x3 x4 x5 g0 H locs ls hd hw hl
    unfold vv_X8_run_L115 at hd
    refine lv_iload K.1 K.2.1 dX8_run_115 (lv_at hl 3 rfl) ?_
    refine lv_aload_n K.1 K.2.1 dX8_run_117 rfl (lv_at hl 0 rfl) ?_
    refine rm_get 11 K hw (by decide) kf_X8_64 rfl dX8_run_118 ?_
    refine lv_icmp_ge (tgt := 148) K.1 K.2.1 dX8_run_121 (by decide) (fun h_17 => ?_) (fun h_17 => ?_)
    · have hd := hd.1 h_17
      refine lv_aload_n K.1 K.2.1 dX8_run_148 rfl (lv_at hl 0 rfl) ?_
      refine lv_iload_n K.1 K.2.1 dX8_run_149 rfl (lv_at hl 1 rfl) ?_
      refine rm_put 7 K hw (by decide) kf_X8_92 rfl rfl rfl rfl (fsM_7 ad g0 _) dX8_run_150 (fun g_18 eg_18 H locs hw => ?_)
      have hd := hd g_18 eg_18
      refine lv_iload K.1 K.2.1 dX8_run_153 (lv_at hl 2 rfl) ?_
      exact rk_iret K hw hr hd dX8_run_155
    · have hd := hd.2 h_17
      refine lv_aload_n K.1 K.2.1 dX8_run_124 rfl (lv_at hl 0 rfl) ?_
      refine rm_get 10 K hw (by decide) kf_X8_29 rfl dX8_run_125 ?_
      refine lv_iconst (v := (5 : Int32)) K.1 K.2.1 dX8_run_128 (by decide) ?_
      refine lv_iload K.1 K.2.1 dX8_run_129 (lv_at hl 3 rfl) ?_
      refine lv_imul K.1 K.2.1 dX8_run_131 ?_
      refine lv_iconst (v := (3 : Int32)) K.1 K.2.1 dX8_run_132 (by decide) ?_
      refine lv_iadd K.1 K.2.1 dX8_run_133 ?_
      refine lv_aload_n K.1 K.2.1 dX8_run_134 rfl (lv_at hl 0 rfl) ?_
      refine rm_get 27 K hw (by decide) kf_X8_32 rfl dX8_run_135 ?_
      refine lv_iload K.1 K.2.1 dX8_run_138 (lv_at hl 3 rfl) ?_
      have hb := hd.1
      have hd := hd.2
      refine rm_iald 6 K hw (by decide) hb dX8_run_140 ?_
      have hb := hd.1
      have hd := hd.2
      refine rm_iast 5 K hw (by decide) hb dX8_run_141 (fun g_19 eg_19 H locs hw => ?_)
      have hd := hd g_19 eg_19
      obtain ⟨x5_20, ex5_20⟩ : ∃ y : Int32, y = x5 + (1 : Int32) := ⟨_, rfl⟩
      have hd := hd x5_20 ex5_20
      refine lv_iinc (v := x5_20) (lv' := [(5, .int x5_20), (0, .ref (ad 0)), (3, .int x3), (4, .int x4)]) K.1 K.2.1 dX8_run_142 hl (k := 3) rfl (by rw [ex5_20]; rfl) (by decide) rfl (fun ls hl => ?_)
      refine lv_goto (tgt := 115) K.1 K.2.1 dX8_run_145 (by decide) ?_
      exact ih x3 x4 x5_20 g_19 _ _ _ hd hw (lv_sub hl [1, 2, 3, 0] rfl)
set_option maxHeartbeats 4000000 in
set_option maxRecDepth 100000 in
theorem bb_X8_run_110 {p : Program} {l : Launch} {e : Env} {s : State} {m : MethodId} {args : Array Value} {below : List Frame} {meth : Method} {c : Code} {D : va_G} {cy : Nat → ClassId} {ad : Nat → Nat} {A : Nat → Prop} {Q : Int32 → Sg → Prop} (K : Kx p s m args meth c cX8_run 6 RX8 D cy) (hr : meth.sig.returnType = (some .int)) (x3 : Int32) (t0 : Int32) (g0 : Sg) (H : Heap) (locs : List Loc) (ls : Array Slot) (hd : vv_X8_run_J110 x3 t0 g0 Q) (hw : Wd D A s.heap (wsM cy ad g0) H locs) (hl : lv_has ls 6 [(0, .ref (ad 0)), (3, .int x3)]) : W p l e (rmD 48) s m args below meth c H locs 0 0 (MQ below (va_Qi Q (PostG (wsM cy ad) D A) A) args s 0 0 A) (F0 m 110 ls [.int t0]) := by
  unfold vv_X8_run_J110 at hd
  refine lv_topi (fun x4_15 ex4_15 => ?_)
  have hd := hd x4_15 ex4_15
  refine lv_istore (lv' := [(4, .int x4_15), (0, .ref (ad 0)), (3, .int x3)]) K.1 K.2.1 dX8_run_110 hl (by decide) rfl (fun ls hl => ?_)
  refine lv_iconst (v := (0 : Int32)) K.1 K.2.1 dX8_run_112 (by decide) ?_
  refine lv_topi (fun x5_16 ex5_16 => ?_)
  have hd := hd x5_16 ex5_16
  refine lv_istore (lv' := [(5, .int x5_16), (4, .int x4_15), (0, .ref (ad 0)), (3, .int x3)]) K.1 K.2.1 dX8_run_113 hl (by decide) rfl (fun ls hl => ?_)
  obtain ⟨n9, hd⟩ := hd
  exact bb_X8_run_115 K hr  n9 x3 x4_15 x5_16 g0 _ _ _ hd hw (lv_sub hl [2, 3, 1, 0] rfl)
set_option maxHeartbeats 4000000 in
set_option maxRecDepth 100000 in
theorem bb_X8_run_71 {p : Program} {l : Launch} {e : Env} {s : State} {m : MethodId} {args : Array Value} {below : List Frame} {meth : Method} {c : Code} {D : va_G} {cy : Nat → ClassId} {ad : Nat → Nat} {A : Nat → Prop} {Q : Int32 → Sg → Prop} (K : Kx p s m args meth c cX8_run 6 RX8 D cy) (hr : meth.sig.returnType = (some .int)) : ∀ (n : Nat) (x1 : Int32) (x2 : Int32) (x3 : Int32) (x4 : Int32)  (g0 : Sg) (H : Heap) (locs : List Loc) (ls : Array Slot), vv_X8_run_L71 Q n x1 x2 x3 x4 g0 → Wd D A s.heap (wsM cy ad g0) H locs → lv_has ls 6 [(0, .ref (ad 0)), (1, .int x1), (2, .int x2), (3, .int x3), (4, .int x4)] → W p l e (rmD 48) s m args below meth c H locs 0 0 (MQ below (va_Qi Q (PostG (wsM cy ad) D A) A) args s 0 0 A) (F0 m 71 ls []) := by
  intro n
  induction n with
  | zero => intro _ _ _ _ _ _ _ _ hd; exact hd.elim
  | succ n ih =>
    intro x1 x2 x3 x4 g0 H locs ls hd hw hl
    unfold vv_X8_run_L71 at hd
    refine lv_iload K.1 K.2.1 dX8_run_71 (lv_at hl 4 rfl) ?_
    refine lv_iload_n K.1 K.2.1 dX8_run_73 rfl (lv_at hl 1 rfl) ?_
    refine lv_icmp_ge (tgt := 87) K.1 K.2.1 dX8_run_74 (by decide) (fun h_11 => ?_) (fun h_11 => ?_)
    · have hd := hd.1 h_11
      refine lv_iload_n K.1 K.2.1 dX8_run_87 rfl (lv_at hl 2 rfl) ?_
      refine lv_bipush (v := (8 : Int32)) K.1 K.2.1 dX8_run_88 (by decide) ?_
      refine lv_icmp_ne (tgt := 103) K.1 K.2.1 dX8_run_90 (by decide) (fun h_12 => ?_) (fun h_12 => ?_)
      · have hd := hd.1 h_12
        refine lv_aload_n K.1 K.2.1 dX8_run_103 rfl (lv_at hl 0 rfl) ?_
        refine lv_iload_n K.1 K.2.1 dX8_run_104 rfl (lv_at hl 2 rfl) ?_
        refine lv_iconst (v := (1 : Int32)) K.1 K.2.1 dX8_run_105 (by decide) ?_
        refine lv_iconst (v := (0 : Int32)) K.1 K.2.1 dX8_run_106 (by decide) ?_
        refine rk_vi (As := [.int x2, .int (1 : Int32), .int (0 : Int32)]) (rest := []) K hw (cc_X8_sideOf l D cy ad A g0 _ x2 (1 : Int32) (0 : Int32) hd) lk_X8_343 (ci := 8) rfl (q0 := 0) (wsM_at cy ad _ (by decide)) ⟨Nat.le_of_ble_eq_true rfl, Nat.le_of_ble_eq_true rfl⟩ ⟨Nat.zero_le _, Nat.zero_le _⟩ rfl hl.1 (Nat.le_of_ble_eq_true rfl) rfl dX8_run_107 (fun r_14 g_13 H locs hd hw => ?_)
        exact bb_X8_run_110 K hr  x3 r_14 g_13 _ _ _ hd hw (lv_sub hl [0, 3] rfl)
      · have hd := hd.2 h_12
        refine lv_aload_n K.1 K.2.1 dX8_run_93 rfl (lv_at hl 0 rfl) ?_
        refine rk_vi (As := []) (rest := []) K hw (cc_X8_carriedSet l D cy ad A g0 _  hd) lk_X8_362 (ci := 8) rfl (q0 := 0) (wsM_at cy ad _ (by decide)) ⟨Nat.le_of_ble_eq_true rfl, Nat.le_of_ble_eq_true rfl⟩ ⟨Nat.zero_le _, Nat.zero_le _⟩ rfl hl.1 (Nat.le_of_ble_eq_true rfl) rfl dX8_run_94 (fun r_22 g_21 H locs hd hw => ?_)
        refine rk_si (As := [.int r_22]) (rest := []) K hw (cc_X8_bitsOf l D cy ad A g_21 _ r_22 hd) lk_X8_375 ⟨Nat.le_of_ble_eq_true rfl, Nat.le_of_ble_eq_true rfl⟩ ⟨Nat.zero_le _, Nat.zero_le _⟩ rfl hl.1 (Nat.le_of_ble_eq_true rfl) rfl dX8_run_97 (fun r_24 g_23 H locs hd hw => ?_)
        refine lv_goto (tgt := 110) K.1 K.2.1 dX8_run_100 (by decide) ?_
        exact bb_X8_run_110 K hr  x3 r_24 g_23 _ _ _ hd hw (lv_sub hl [0, 3] rfl)
    · have hd := hd.2 h_11
      refine lv_aload_n K.1 K.2.1 dX8_run_77 rfl (lv_at hl 0 rfl) ?_
      refine rk_vv (As := []) (rest := []) K hw (cc_X8_passes l D cy ad A g0 _  hd) lk_X8_368 (ci := 8) rfl (q0 := 0) (wsM_at cy ad _ (by decide)) ⟨Nat.le_of_ble_eq_true rfl, Nat.le_of_ble_eq_true rfl⟩ ⟨Nat.zero_le _, Nat.zero_le _⟩ rfl hl.1 (Nat.le_of_ble_eq_true rfl) rfl dX8_run_78 (fun g_25 H locs hd hw => ?_)
      obtain ⟨x4_27, ex4_27⟩ : ∃ y : Int32, y = x4 + (1 : Int32) := ⟨_, rfl⟩
      have hd := hd x4_27 ex4_27
      refine lv_iinc (v := x4_27) (lv' := [(4, .int x4_27), (0, .ref (ad 0)), (1, .int x1), (2, .int x2), (3, .int x3)]) K.1 K.2.1 dX8_run_81 hl (k := 4) rfl (by rw [ex4_27]; rfl) (by decide) rfl (fun ls hl => ?_)
      refine lv_goto (tgt := 71) K.1 K.2.1 dX8_run_84 (by decide) ?_
      exact ih x1 x2 x3 x4_27 g_25 _ _ _ hd hw (lv_sub hl [1, 2, 3, 4, 0] rfl)
set_option maxHeartbeats 4000000 in
set_option maxRecDepth 100000 in
theorem bb_X8_run_35 {p : Program} {l : Launch} {e : Env} {s : State} {m : MethodId} {args : Array Value} {below : List Frame} {meth : Method} {c : Code} {D : va_G} {cy : Nat → ClassId} {ad : Nat → Nat} {A : Nat → Prop} {Q : Int32 → Sg → Prop} (K : Kx p s m args meth c cX8_run 6 RX8 D cy) (hr : meth.sig.returnType = (some .int)) : ∀ (n : Nat) (x1 : Int32) (x2 : Int32) (x3 : Int32) (x4 : Int32)  (g0 : Sg) (H : Heap) (locs : List Loc) (ls : Array Slot), vv_X8_run_L35 Q n x1 x2 x3 x4 g0 → Wd D A s.heap (wsM cy ad g0) H locs → lv_has ls 6 [(0, .ref (ad 0)), (1, .int x1), (2, .int x2), (3, .int x3), (4, .int x4)] → W p l e (rmD 48) s m args below meth c H locs 0 0 (MQ below (va_Qi Q (PostG (wsM cy ad) D A) A) args s 0 0 A) (F0 m 35 ls []) := by
  intro n
  induction n with
  | zero => intro _ _ _ _ _ _ _ _ hd; exact hd.elim
  | succ n ih =>
    intro x1 x2 x3 x4 g0 H locs ls hd hw hl
    unfold vv_X8_run_L35 at hd
    refine lv_iload K.1 K.2.1 dX8_run_35 (lv_at hl 4 rfl) ?_
    refine lv_aload_n K.1 K.2.1 dX8_run_37 rfl (lv_at hl 0 rfl) ?_
    refine rm_get 11 K hw (by decide) kf_X8_64 rfl dX8_run_38 ?_
    refine lv_icmp_ge (tgt := 68) K.1 K.2.1 dX8_run_41 (by decide) (fun h_9 => ?_) (fun h_9 => ?_)
    · have hd := hd.1 h_9
      refine lv_iconst (v := (0 : Int32)) K.1 K.2.1 dX8_run_68 (by decide) ?_
      refine lv_topi (fun x4_10 ex4_10 => ?_)
      have hd := hd x4_10 ex4_10
      refine lv_istore (lv' := [(4, .int x4_10), (0, .ref (ad 0)), (1, .int x1), (2, .int x2), (3, .int x3)]) K.1 K.2.1 dX8_run_69 hl (by decide) rfl (fun ls hl => ?_)
      obtain ⟨n9, hd⟩ := hd
      exact bb_X8_run_71 K hr  n9 x1 x2 x3 x4_10 g0 _ _ _ hd hw (lv_sub hl [1, 2, 3, 4, 0] rfl)
    · have hd := hd.2 h_9
      refine lv_aload_n K.1 K.2.1 dX8_run_44 rfl (lv_at hl 0 rfl) ?_
      refine rm_get 27 K hw (by decide) kf_X8_32 rfl dX8_run_45 ?_
      refine lv_iload K.1 K.2.1 dX8_run_48 (lv_at hl 4 rfl) ?_
      refine lv_aload_n K.1 K.2.1 dX8_run_50 rfl (lv_at hl 0 rfl) ?_
      refine rm_get 10 K hw (by decide) kf_X8_29 rfl dX8_run_51 ?_
      refine lv_iconst (v := (5 : Int32)) K.1 K.2.1 dX8_run_54 (by decide) ?_
      refine lv_iload K.1 K.2.1 dX8_run_55 (lv_at hl 4 rfl) ?_
      refine lv_imul K.1 K.2.1 dX8_run_57 ?_
      refine lv_iconst (v := (3 : Int32)) K.1 K.2.1 dX8_run_58 (by decide) ?_
      refine lv_iadd K.1 K.2.1 dX8_run_59 ?_
      have hb := hd.1
      have hd := hd.2
      refine rm_iald 5 K hw (by decide) hb dX8_run_60 ?_
      have hb := hd.1
      have hd := hd.2
      refine rm_iast 6 K hw (by decide) hb dX8_run_61 (fun g_28 eg_28 H locs hw => ?_)
      have hd := hd g_28 eg_28
      obtain ⟨x4_29, ex4_29⟩ : ∃ y : Int32, y = x4 + (1 : Int32) := ⟨_, rfl⟩
      have hd := hd x4_29 ex4_29
      refine lv_iinc (v := x4_29) (lv' := [(4, .int x4_29), (0, .ref (ad 0)), (1, .int x1), (2, .int x2), (3, .int x3)]) K.1 K.2.1 dX8_run_62 hl (k := 4) rfl (by rw [ex4_29]; rfl) (by decide) rfl (fun ls hl => ?_)
      refine lv_goto (tgt := 35) K.1 K.2.1 dX8_run_65 (by decide) ?_
      exact ih x1 x2 x3 x4_29 g_28 _ _ _ hd hw (lv_sub hl [1, 2, 3, 4, 0] rfl)
set_option maxHeartbeats 4000000 in
set_option maxRecDepth 100000 in
theorem cc_X8_run (l : Launch) (D : va_G) (cy : Nat → ClassId) (ad : Nat → Nat) (A : Nat → Prop) (g0 : Sg) (Q : Int32 → Sg → Prop) (x1 : Int32) (x2 : Int32) (hd : vv_X8_run x1 x2 g0 Q) : Met l yX8_run (Cond.code yX8_run cX8_run 6 (some .int) :: TT) (rmD 48) (va_Pc [.ref (ad 0), .int x1, .int x2] (PreG (wsM cy ad) D cy A g0)) (va_Qi Q (PostG (wsM cy ad) D A) A) 0 0 A := by
  unfold vv_X8_run at hd
  refine Met.ofW (cc := cX8_run) (maxL := 6) (ret := (some .int)) (by decide) rfl ?_
  intro p e s m args below meth c s₁ B hml hv
  obtain ⟨rfl, hP, hK0, hD⟩ := hv
  have K : Kx p s m _ meth c cX8_run 6 RX8 D cy := ⟨B.exec, B.bytes, hml, findClass_of_methodNamed B.named, fun w h => atoms_spec (ws := Cond.code yX8_run cX8_run 6 (some .int) :: TT) B.pre w (List.mem_cons_of_mem _ h), hK0, B.notSynchronized⟩
  have hw : Wd D A s.heap (wsM cy ad g0) s.heap [] := ⟨hP, hD, va_S.rf⟩
  have hr := B.returns
  have hl := lv_entry ([.ref (ad 0), .int x1, .int x2]) (n := 6) (Nat.le_of_ble_eq_true rfl)
  rw [lg_entry_eq]
  generalize (lg_sl ([.ref (ad 0), .int x1, .int x2]) ++ List.replicate (6 - (lg_sl ([.ref (ad 0), .int x1, .int x2])).length) Slot.unset).toArray = ls at hl ⊢
  have hl : lv_has ls 6 [(0, .ref (ad 0)), (1, .int x1), (2, .int x2)] := hl
  refine lv_iload_n K.1 K.2.1 dX8_run_0 rfl (lv_at hl 1 rfl) ?_
  refine lv_i2l (v := x1.toInt64) K.1 K.2.1 dX8_run_1 rfl ?_
  refine lv_lconst (v := (0 : Int64)) K.1 K.2.1 dX8_run_2 rfl ?_
  refine lv_ldc2 K.1 K.2.1 K.2.2.2.1 (K.2.2.2.2.1 _ kl_X8_371) dX8_run_3 ?_
  refine rk_si (As := [.long x1.toInt64, .long (0 : Int64), .long (40 : Int64)]) (rest := []) K hw (cc_X8_in l D cy ad A g0 _ (x1.toInt64) (0 : Int64) (40 : Int64) hd) lk_X8_67 ⟨Nat.le_of_ble_eq_true rfl, Nat.le_of_ble_eq_true rfl⟩ ⟨Nat.zero_le _, Nat.zero_le _⟩ rfl hl.1 (Nat.le_of_ble_eq_true rfl) rfl dX8_run_6 (fun r_2 g_1 H locs hd hw => ?_)
  refine lv_if_eq (tgt := 24) K.1 K.2.1 dX8_run_9 (by decide) (fun h_3 => ?_) (fun h_3 => ?_)
  · have hd := hd.1 h_3
    refine lv_bipush (v := (-2 : Int32)) K.1 K.2.1 dX8_run_24 (by decide) ?_
    exact rk_iret K hw hr hd dX8_run_26
  · have hd := hd.2 h_3
    refine lv_iload_n K.1 K.2.1 dX8_run_12 rfl (lv_at hl 2 rfl) ?_
    refine lv_i2l (v := x2.toInt64) K.1 K.2.1 dX8_run_13 rfl ?_
    refine lv_lconst (v := (0 : Int64)) K.1 K.2.1 dX8_run_14 rfl ?_
    refine lv_ldc2 K.1 K.2.1 K.2.2.2.1 (K.2.2.2.2.1 _ kl_X8_373) dX8_run_15 ?_
    refine rk_si (As := [.long x2.toInt64, .long (0 : Int64), .long (8 : Int64)]) (rest := []) K hw (cc_X8_in l D cy ad A g_1 _ (x2.toInt64) (0 : Int64) (8 : Int64) hd) lk_X8_67 ⟨Nat.le_of_ble_eq_true rfl, Nat.le_of_ble_eq_true rfl⟩ ⟨Nat.zero_le _, Nat.zero_le _⟩ rfl hl.1 (Nat.le_of_ble_eq_true rfl) rfl dX8_run_18 (fun r_5 g_4 H locs hd hw => ?_)
    refine lv_if_ne (tgt := 27) K.1 K.2.1 dX8_run_21 (by decide) (fun h_6 => ?_) (fun h_6 => ?_)
    · have hd := hd.1 h_6
      refine lv_aload_n K.1 K.2.1 dX8_run_27 rfl (lv_at hl 0 rfl) ?_
      refine rm_get 7 K hw (by decide) kf_X8_92 rfl dX8_run_28 ?_
      refine lv_topi (fun x3_7 ex3_7 => ?_)
      have hd := hd x3_7 ex3_7
      refine lv_istore_n (lv' := [(3, .int x3_7), (0, .ref (ad 0)), (1, .int x1), (2, .int x2)]) K.1 K.2.1 dX8_run_31 rfl hl (by decide) rfl (fun ls hl => ?_)
      refine lv_iconst (v := (0 : Int32)) K.1 K.2.1 dX8_run_32 (by decide) ?_
      refine lv_topi (fun x4_8 ex4_8 => ?_)
      have hd := hd x4_8 ex4_8
      refine lv_istore (lv' := [(4, .int x4_8), (3, .int x3_7), (0, .ref (ad 0)), (1, .int x1), (2, .int x2)]) K.1 K.2.1 dX8_run_33 hl (by decide) rfl (fun ls hl => ?_)
      obtain ⟨n9, hd⟩ := hd
      exact bb_X8_run_35 K hr  n9 x1 x2 x3_7 x4_8 g_4 _ _ _ hd hw (lv_sub hl [2, 3, 4, 1, 0] rfl)
    · have hd := hd.2 h_6
      refine lv_bipush (v := (-2 : Int32)) K.1 K.2.1 dX8_run_24 (by decide) ?_
      exact rk_iret K hw hr hd dX8_run_26
theorem dX8_lines_0 : decode cX8_lines 0 = .ok (.aload_n 0, 1) := by decide +kernel
theorem dX8_lines_1 : decode cX8_lines 1 = .ok (.iconst 0, 1) := by decide +kernel
theorem dX8_lines_2 : decode cX8_lines 2 = .ok (.putfield 378, 3) := by decide +kernel
theorem dX8_lines_5 : decode cX8_lines 5 = .ok (.aload_n 0, 1) := by decide +kernel
theorem dX8_lines_6 : decode cX8_lines 6 = .ok (.iconst (-1), 1) := by decide +kernel
theorem dX8_lines_7 : decode cX8_lines 7 = .ok (.putfield 381, 3) := by decide +kernel
theorem dX8_lines_10 : decode cX8_lines 10 = .ok (.iconst 0, 1) := by decide +kernel
theorem dX8_lines_11 : decode cX8_lines 11 = .ok (.istore_n 2, 1) := by decide +kernel
theorem dX8_lines_12 : decode cX8_lines 12 = .ok (.iload_n 2, 1) := by decide +kernel
theorem dX8_lines_13 : decode cX8_lines 13 = .ok (.aload_n 0, 1) := by decide +kernel
theorem dX8_lines_14 : decode cX8_lines 14 = .ok (.getfield 64, 3) := by decide +kernel
theorem dX8_lines_17 : decode cX8_lines 17 = .ok (.if_icmp .ge 61, 3) := by decide +kernel
theorem dX8_lines_20 : decode cX8_lines 20 = .ok (.aload_n 0, 1) := by decide +kernel
theorem dX8_lines_21 : decode cX8_lines 21 = .ok (.iload_n 2, 1) := by decide +kernel
theorem dX8_lines_22 : decode cX8_lines 22 = .ok (.invokevirtual 115, 3) := by decide +kernel
theorem dX8_lines_25 : decode cX8_lines 25 = .ok (.ifCond .eq 47, 3) := by decide +kernel
theorem dX8_lines_28 : decode cX8_lines 28 = .ok (.aload_n 0, 1) := by decide +kernel
theorem dX8_lines_29 : decode cX8_lines 29 = .ok (.iload_n 2, 1) := by decide +kernel
theorem dX8_lines_30 : decode cX8_lines 30 = .ok (.iload_n 1, 1) := by decide +kernel
theorem dX8_lines_31 : decode cX8_lines 31 = .ok (.if_icmp .ne 10, 3) := by decide +kernel
theorem dX8_lines_34 : decode cX8_lines 34 = .ok (.aload_n 0, 1) := by decide +kernel
theorem dX8_lines_35 : decode cX8_lines 35 = .ok (.getfield 378, 3) := by decide +kernel
theorem dX8_lines_38 : decode cX8_lines 38 = .ok (.goto 7, 3) := by decide +kernel
theorem dX8_lines_41 : decode cX8_lines 41 = .ok (.aload_n 0, 1) := by decide +kernel
theorem dX8_lines_42 : decode cX8_lines 42 = .ok (.getfield 381, 3) := by decide +kernel
theorem dX8_lines_45 : decode cX8_lines 45 = .ok (.putfield 381, 3) := by decide +kernel
theorem dX8_lines_48 : decode cX8_lines 48 = .ok (.aload_n 0, 1) := by decide +kernel
theorem dX8_lines_49 : decode cX8_lines 49 = .ok (.getfield 35, 3) := by decide +kernel
theorem dX8_lines_52 : decode cX8_lines 52 = .ok (.aload_n 0, 1) := by decide +kernel
theorem dX8_lines_53 : decode cX8_lines 53 = .ok (.getfield 378, 3) := by decide +kernel
theorem dX8_lines_56 : decode cX8_lines 56 = .ok (.aload_n 0, 1) := by decide +kernel
theorem dX8_lines_57 : decode cX8_lines 57 = .ok (.iload_n 2, 1) := by decide +kernel
theorem dX8_lines_58 : decode cX8_lines 58 = .ok (.invokevirtual 121, 3) := by decide +kernel
theorem dX8_lines_61 : decode cX8_lines 61 = .ok (.iastore, 1) := by decide +kernel
theorem dX8_lines_62 : decode cX8_lines 62 = .ok (.aload_n 0, 1) := by decide +kernel
theorem dX8_lines_63 : decode cX8_lines 63 = .ok (.dup, 1) := by decide +kernel
theorem dX8_lines_64 : decode cX8_lines 64 = .ok (.getfield 378, 3) := by decide +kernel
theorem dX8_lines_67 : decode cX8_lines 67 = .ok (.iconst 1, 1) := by decide +kernel
theorem dX8_lines_68 : decode cX8_lines 68 = .ok (.iadd, 1) := by decide +kernel
theorem dX8_lines_69 : decode cX8_lines 69 = .ok (.putfield 378, 3) := by decide +kernel
theorem dX8_lines_72 : decode cX8_lines 72 = .ok (.iinc 2 1, 3) := by decide +kernel
theorem dX8_lines_75 : decode cX8_lines 75 = .ok (.goto (-63), 3) := by decide +kernel
theorem dX8_lines_78 : decode cX8_lines 78 = .ok (.return_, 1) := by decide +kernel
set_option maxHeartbeats 4000000 in
set_option maxRecDepth 100000 in
theorem bb_X8_lines_72 {p : Program} {l : Launch} {e : Env} {s : State} {m : MethodId} {args : Array Value} {below : List Frame} {meth : Method} {c : Code} {D : va_G} {cy : Nat → ClassId} {ad : Nat → Nat} {A : Nat → Prop} {Q : Sg → Prop} (K : Kx p s m args meth c cX8_lines 3 RX8 D cy) (hr : meth.sig.returnType = none) {rc12 : Int32 → Int32 → Sg → Prop} (hrc12 : ∀ (x1 : Int32) (x2 : Int32) (u : Sg) (H : Heap) (locs : List Loc) (ls : Array Slot), rc12 x1 x2 u → Wd D A s.heap (wsM cy ad u) H locs → lv_has ls 3 [(0, .ref (ad 0)), (1, .int x1), (2, .int x2)] → W p l e (rmD 44) s m args below meth c H locs 0 0 (MQ below (va_Qv Q (PostG (wsM cy ad) D A) A) args s 0 0 A) (F0 m 12 ls [])) (x1 : Int32) (x2 : Int32)  (g0 : Sg) (H : Heap) (locs : List Loc) (ls : Array Slot) (hd : vv_X8_lines_J72 rc12 x1 x2 g0 Q) (hw : Wd D A s.heap (wsM cy ad g0) H locs) (hl : lv_has ls 3 [(0, .ref (ad 0)), (1, .int x1), (2, .int x2)]) : W p l e (rmD 44) s m args below meth c H locs 0 0 (MQ below (va_Qv Q (PostG (wsM cy ad) D A) A) args s 0 0 A) (F0 m 72 ls []) := by
  unfold vv_X8_lines_J72 at hd
  obtain ⟨x2_8, ex2_8⟩ : ∃ y : Int32, y = x2 + (1 : Int32) := ⟨_, rfl⟩
  have hd := hd x2_8 ex2_8
  refine lv_iinc (v := x2_8) (lv' := [(2, .int x2_8), (0, .ref (ad 0)), (1, .int x1)]) K.1 K.2.1 dX8_lines_72 hl (k := 2) rfl (by rw [ex2_8]; rfl) (by decide) rfl (fun ls hl => ?_)
  refine lv_goto (tgt := 12) K.1 K.2.1 dX8_lines_75 (by decide) ?_
  exact hrc12 x1 x2_8 g0 _ _ _ hd hw (lv_sub hl [1, 2, 0] rfl)
set_option maxHeartbeats 4000000 in
set_option maxRecDepth 100000 in
theorem bb_X8_lines_45 {p : Program} {l : Launch} {e : Env} {s : State} {m : MethodId} {args : Array Value} {below : List Frame} {meth : Method} {c : Code} {D : va_G} {cy : Nat → ClassId} {ad : Nat → Nat} {A : Nat → Prop} {Q : Sg → Prop} (K : Kx p s m args meth c cX8_lines 3 RX8 D cy) (hr : meth.sig.returnType = none) {rc12 : Int32 → Int32 → Sg → Prop} (hrc12 : ∀ (x1 : Int32) (x2 : Int32) (u : Sg) (H : Heap) (locs : List Loc) (ls : Array Slot), rc12 x1 x2 u → Wd D A s.heap (wsM cy ad u) H locs → lv_has ls 3 [(0, .ref (ad 0)), (1, .int x1), (2, .int x2)] → W p l e (rmD 44) s m args below meth c H locs 0 0 (MQ below (va_Qv Q (PostG (wsM cy ad) D A) A) args s 0 0 A) (F0 m 12 ls [])) (x1 : Int32) (x2 : Int32) (t1 : Int32) (g0 : Sg) (H : Heap) (locs : List Loc) (ls : Array Slot) (hd : vv_X8_lines_J45 rc12 x1 x2 t1 g0 Q) (hw : Wd D A s.heap (wsM cy ad g0) H locs) (hl : lv_has ls 3 [(0, .ref (ad 0)), (1, .int x1), (2, .int x2)]) : W p l e (rmD 44) s m args below meth c H locs 0 0 (MQ below (va_Qv Q (PostG (wsM cy ad) D A) A) args s 0 0 A) (F0 m 45 ls [.int t1, .ref (ad 0)]) := by
  unfold vv_X8_lines_J45 at hd
  refine rm_put 30 K hw (by decide) kf_X8_381 rfl rfl rfl rfl (fsM_30 ad g0 _) dX8_lines_45 (fun g_10 eg_10 H locs hw => ?_)
  have hd := hd g_10 eg_10
  refine lv_aload_n K.1 K.2.1 dX8_lines_48 rfl (lv_at hl 0 rfl) ?_
  refine rm_get 28 K hw (by decide) kf_X8_35 rfl dX8_lines_49 ?_
  refine lv_aload_n K.1 K.2.1 dX8_lines_52 rfl (lv_at hl 0 rfl) ?_
  refine rm_get 29 K hw (by decide) kf_X8_378 rfl dX8_lines_53 ?_
  refine lv_aload_n K.1 K.2.1 dX8_lines_56 rfl (lv_at hl 0 rfl) ?_
  refine lv_iload_n K.1 K.2.1 dX8_lines_57 rfl (lv_at hl 2 rfl) ?_
  refine rk_vi (As := [.int x2]) (rest := [.int (g_10 0 29), .ref (ad 7)]) K hw (cc_X8_weighsOf l D cy ad A g_10 _ x2 hd) lk_X8_121 (ci := 8) rfl (q0 := 0) (wsM_at cy ad _ (by decide)) ⟨Nat.le_of_ble_eq_true rfl, Nat.le_of_ble_eq_true rfl⟩ ⟨Nat.zero_le _, Nat.zero_le _⟩ rfl hl.1 (Nat.le_of_ble_eq_true rfl) rfl dX8_lines_58 (fun r_12 g_11 H locs hd hw => ?_)
  have hb := hd.1
  have hd := hd.2
  refine rm_iast 7 K hw (by decide) hb dX8_lines_61 (fun g_13 eg_13 H locs hw => ?_)
  have hd := hd g_13 eg_13
  refine lv_aload_n K.1 K.2.1 dX8_lines_62 rfl (lv_at hl 0 rfl) ?_
  refine lv_dup K.1 K.2.1 dX8_lines_63 rfl ?_
  refine rm_get 29 K hw (by decide) kf_X8_378 rfl dX8_lines_64 ?_
  refine lv_iconst (v := (1 : Int32)) K.1 K.2.1 dX8_lines_67 (by decide) ?_
  refine lv_iadd K.1 K.2.1 dX8_lines_68 ?_
  refine rm_put 29 K hw (by decide) kf_X8_378 rfl rfl rfl rfl (fsM_29 ad g_13 _) dX8_lines_69 (fun g_14 eg_14 H locs hw => ?_)
  have hd := hd g_14 eg_14
  exact bb_X8_lines_72 K hr hrc12 x1 x2 g_14 _ _ _ hd hw (lv_sub hl [0, 1, 2] rfl)
set_option maxHeartbeats 4000000 in
set_option maxRecDepth 100000 in
theorem bb_X8_lines_12 {p : Program} {l : Launch} {e : Env} {s : State} {m : MethodId} {args : Array Value} {below : List Frame} {meth : Method} {c : Code} {D : va_G} {cy : Nat → ClassId} {ad : Nat → Nat} {A : Nat → Prop} {Q : Sg → Prop} (K : Kx p s m args meth c cX8_lines 3 RX8 D cy) (hr : meth.sig.returnType = none) : ∀ (n : Nat) (x1 : Int32) (x2 : Int32)  (g0 : Sg) (H : Heap) (locs : List Loc) (ls : Array Slot), vv_X8_lines_L12 Q n x1 x2 g0 → Wd D A s.heap (wsM cy ad g0) H locs → lv_has ls 3 [(0, .ref (ad 0)), (1, .int x1), (2, .int x2)] → W p l e (rmD 44) s m args below meth c H locs 0 0 (MQ below (va_Qv Q (PostG (wsM cy ad) D A) A) args s 0 0 A) (F0 m 12 ls []) := by
  intro n
  induction n with
  | zero => intro _ _ _ _ _ _ hd; exact hd.elim
  | succ n ih =>
    intro x1 x2 g0 H locs ls hd hw hl
    unfold vv_X8_lines_L12 at hd
    refine lv_iload_n K.1 K.2.1 dX8_lines_12 rfl (lv_at hl 2 rfl) ?_
    refine lv_aload_n K.1 K.2.1 dX8_lines_13 rfl (lv_at hl 0 rfl) ?_
    refine rm_get 11 K hw (by decide) kf_X8_64 rfl dX8_lines_14 ?_
    refine lv_icmp_ge (tgt := 78) K.1 K.2.1 dX8_lines_17 (by decide) (fun h_4 => ?_) (fun h_4 => ?_)
    · have hd := hd.1 h_4
      exact rk_vret K hw hr hd dX8_lines_78
    · have hd := hd.2 h_4
      refine lv_aload_n K.1 K.2.1 dX8_lines_20 rfl (lv_at hl 0 rfl) ?_
      refine lv_iload_n K.1 K.2.1 dX8_lines_21 rfl (lv_at hl 2 rfl) ?_
      refine rk_vi (As := [.int x2]) (rest := []) K hw (cc_X8_isWhole l D cy ad A g0 _ x2 hd) lk_X8_115 (ci := 8) rfl (q0 := 0) (wsM_at cy ad _ (by decide)) ⟨Nat.le_of_ble_eq_true rfl, Nat.le_of_ble_eq_true rfl⟩ ⟨Nat.zero_le _, Nat.zero_le _⟩ rfl hl.1 (Nat.le_of_ble_eq_true rfl) rfl dX8_lines_22 (fun r_6 g_5 H locs hd hw => ?_)
      refine lv_if_eq (tgt := 72) K.1 K.2.1 dX8_lines_25 (by decide) (fun h_7 => ?_) (fun h_7 => ?_)
      · have hd := hd.1 h_7
        exact bb_X8_lines_72 K hr ih x1 x2 g_5 _ _ _ hd hw (lv_sub hl [0, 1, 2] rfl)
      · have hd := hd.2 h_7
        refine lv_aload_n K.1 K.2.1 dX8_lines_28 rfl (lv_at hl 0 rfl) ?_
        refine lv_iload_n K.1 K.2.1 dX8_lines_29 rfl (lv_at hl 2 rfl) ?_
        refine lv_iload_n K.1 K.2.1 dX8_lines_30 rfl (lv_at hl 1 rfl) ?_
        refine lv_icmp_ne (tgt := 41) K.1 K.2.1 dX8_lines_31 (by decide) (fun h_9 => ?_) (fun h_9 => ?_)
        · have hd := hd.1 h_9
          refine lv_aload_n K.1 K.2.1 dX8_lines_41 rfl (lv_at hl 0 rfl) ?_
          refine rm_get 30 K hw (by decide) kf_X8_381 rfl dX8_lines_42 ?_
          exact bb_X8_lines_45 K hr ih x1 x2 (g_5 0 30) g_5 _ _ _ hd hw (lv_sub hl [0, 1, 2] rfl)
        · have hd := hd.2 h_9
          refine lv_aload_n K.1 K.2.1 dX8_lines_34 rfl (lv_at hl 0 rfl) ?_
          refine rm_get 29 K hw (by decide) kf_X8_378 rfl dX8_lines_35 ?_
          refine lv_goto (tgt := 45) K.1 K.2.1 dX8_lines_38 (by decide) ?_
          exact bb_X8_lines_45 K hr ih x1 x2 (g_5 0 29) g_5 _ _ _ hd hw (lv_sub hl [0, 1, 2] rfl)
set_option maxHeartbeats 4000000 in
set_option maxRecDepth 100000 in
theorem cc_X8_lines (l : Launch) (D : va_G) (cy : Nat → ClassId) (ad : Nat → Nat) (A : Nat → Prop) (g0 : Sg) (Q : Sg → Prop) (x1 : Int32) (hd : vv_X8_lines x1 g0 Q) : Met l yX8_lines (Cond.code yX8_lines cX8_lines 3 none :: TT) (rmD 44) (va_Pc [.ref (ad 0), .int x1] (PreG (wsM cy ad) D cy A g0)) (va_Qv Q (PostG (wsM cy ad) D A) A) 0 0 A := by
  unfold vv_X8_lines at hd
  refine Met.ofW (cc := cX8_lines) (maxL := 3) (ret := none) (by decide) rfl ?_
  intro p e s m args below meth c s₁ B hml hv
  obtain ⟨rfl, hP, hK0, hD⟩ := hv
  have K : Kx p s m _ meth c cX8_lines 3 RX8 D cy := ⟨B.exec, B.bytes, hml, findClass_of_methodNamed B.named, fun w h => atoms_spec (ws := Cond.code yX8_lines cX8_lines 3 none :: TT) B.pre w (List.mem_cons_of_mem _ h), hK0, B.notSynchronized⟩
  have hw : Wd D A s.heap (wsM cy ad g0) s.heap [] := ⟨hP, hD, va_S.rf⟩
  have hr := B.returns
  have hl := lv_entry ([.ref (ad 0), .int x1]) (n := 3) (Nat.le_of_ble_eq_true rfl)
  rw [lg_entry_eq]
  generalize (lg_sl ([.ref (ad 0), .int x1]) ++ List.replicate (3 - (lg_sl ([.ref (ad 0), .int x1])).length) Slot.unset).toArray = ls at hl ⊢
  have hl : lv_has ls 3 [(0, .ref (ad 0)), (1, .int x1)] := hl
  refine lv_aload_n K.1 K.2.1 dX8_lines_0 rfl (lv_at hl 0 rfl) ?_
  refine lv_iconst (v := (0 : Int32)) K.1 K.2.1 dX8_lines_1 (by decide) ?_
  refine rm_put 29 K hw (by decide) kf_X8_378 rfl rfl rfl rfl (fsM_29 ad g0 _) dX8_lines_2 (fun g_1 eg_1 H locs hw => ?_)
  have hd := hd g_1 eg_1
  refine lv_aload_n K.1 K.2.1 dX8_lines_5 rfl (lv_at hl 0 rfl) ?_
  refine lv_iconst (v := (-1 : Int32)) K.1 K.2.1 dX8_lines_6 (by decide) ?_
  refine rm_put 30 K hw (by decide) kf_X8_381 rfl rfl rfl rfl (fsM_30 ad g_1 _) dX8_lines_7 (fun g_2 eg_2 H locs hw => ?_)
  have hd := hd g_2 eg_2
  refine lv_iconst (v := (0 : Int32)) K.1 K.2.1 dX8_lines_10 (by decide) ?_
  refine lv_topi (fun x2_3 ex2_3 => ?_)
  have hd := hd x2_3 ex2_3
  refine lv_istore_n (lv' := [(2, .int x2_3), (0, .ref (ad 0)), (1, .int x1)]) K.1 K.2.1 dX8_lines_11 rfl hl (by decide) rfl (fun ls hl => ?_)
  obtain ⟨n9, hd⟩ := hd
  exact bb_X8_lines_12 K hr  n9 x1 x2_3 g_2 _ _ _ hd hw (lv_sub hl [1, 2, 0] rfl)
