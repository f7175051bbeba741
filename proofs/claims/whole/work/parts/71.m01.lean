theorem dX8_in_0 : decode cX8_in 0 = .ok (.lload_n 0, 1) := by decide +kernel
theorem dX8_in_1 : decode cX8_in 1 = .ok (.lload_n 2, 1) := by decide +kernel
theorem dX8_in_2 : decode cX8_in 2 = .ok (.lcmp, 1) := by decide +kernel
theorem dX8_in_3 : decode cX8_in 3 = .ok (.ifCond .lt 14, 3) := by decide +kernel
theorem dX8_in_6 : decode cX8_in 6 = .ok (.lload_n 0, 1) := by decide +kernel
theorem dX8_in_7 : decode cX8_in 7 = .ok (.lload 4, 2) := by decide +kernel
theorem dX8_in_9 : decode cX8_in 9 = .ok (.lcmp, 1) := by decide +kernel
theorem dX8_in_10 : decode cX8_in 10 = .ok (.ifCond .gt 7, 3) := by decide +kernel
theorem dX8_in_13 : decode cX8_in 13 = .ok (.iconst 1, 1) := by decide +kernel
theorem dX8_in_14 : decode cX8_in 14 = .ok (.goto 4, 3) := by decide +kernel
theorem dX8_in_17 : decode cX8_in 17 = .ok (.iconst 0, 1) := by decide +kernel
theorem dX8_in_18 : decode cX8_in 18 = .ok (.ireturn, 1) := by decide +kernel
set_option maxHeartbeats 4000000 in
set_option maxRecDepth 100000 in
theorem cc_X8_in (l : Launch) (D : va_G) (cy : Nat → ClassId) (ad : Nat → Nat) (A : Nat → Prop) (g0 : Sg) (Q : Int32 → Sg → Prop) (x0 : Int64) (x2 : Int64) (x4 : Int64) (hd : vv_X8_in x0 x2 x4 g0 Q) : Met l yX8_in (Cond.code yX8_in cX8_in 6 (some .boolean) :: TT) (rmD 0) (va_Pc [.long x0, .long x2, .long x4] (PreG (wsM cy ad) D cy A g0)) (va_Qi Q (PostG (wsM cy ad) D A) A) 0 0 A := by
  unfold vv_X8_in at hd
  refine Met.ofW (cc := cX8_in) (maxL := 6) (ret := (some .boolean)) (by decide) rfl ?_
  intro p e s m args below meth c s₁ B hml hv
  obtain ⟨rfl, hP, hK0, hD⟩ := hv
  have K : Kx p s m _ meth c cX8_in 6 RX8 D cy := ⟨B.exec, B.bytes, hml, findClass_of_methodNamed B.named, fun w h => atoms_spec (ws := Cond.code yX8_in cX8_in 6 (some .boolean) :: TT) B.pre w (List.mem_cons_of_mem _ h), hK0, B.notSynchronized⟩
  have hw : Wd D A s.heap (wsM cy ad g0) s.heap [] := ⟨hP, hD, va_S.rf⟩
  have hr := B.returns
  have hl := lv_entry ([.long x0, .long x2, .long x4]) (n := 6) (Nat.le_of_ble_eq_true rfl)
  rw [lg_entry_eq]
  generalize (lg_sl ([.long x0, .long x2, .long x4]) ++ List.replicate (6 - (lg_sl ([.long x0, .long x2, .long x4])).length) Slot.unset).toArray = ls at hl ⊢
  have hl : lv_has ls 6 [(0, .long x0), (2, .long x2), (4, .long x4)] := hl
  refine lv_lload_n K.1 K.2.1 dX8_in_0 rfl (lv_at hl 0 rfl) ?_
  refine lv_lload_n K.1 K.2.1 dX8_in_1 rfl (lv_at hl 1 rfl) ?_
  refine W.lcmp K.1 K.2.1 dX8_in_2 ?_
  refine lv_if_lt (tgt := 17) K.1 K.2.1 dX8_in_3 (by decide) (fun h_1 => ?_) (fun h_1 => ?_)
  · have hd := hd.1 h_1
    refine lv_iconst (v := (0 : Int32)) K.1 K.2.1 dX8_in_17 (by decide) ?_
    exact rk_zret K hw hr (by decide) hd dX8_in_18
  · have hd := hd.2 h_1
    refine lv_lload_n K.1 K.2.1 dX8_in_6 rfl (lv_at hl 0 rfl) ?_
    refine lv_lload K.1 K.2.1 dX8_in_7 (lv_at hl 2 rfl) ?_
    refine W.lcmp K.1 K.2.1 dX8_in_9 ?_
    refine lv_if_gt (tgt := 17) K.1 K.2.1 dX8_in_10 (by decide) (fun h_2 => ?_) (fun h_2 => ?_)
    · have hd := hd.1 h_2
      refine lv_iconst (v := (0 : Int32)) K.1 K.2.1 dX8_in_17 (by decide) ?_
      exact rk_zret K hw hr (by decide) hd dX8_in_18
    · have hd := hd.2 h_2
      refine lv_iconst (v := (1 : Int32)) K.1 K.2.1 dX8_in_13 (by decide) ?_
      refine lv_goto (tgt := 18) K.1 K.2.1 dX8_in_14 (by decide) ?_
      exact rk_zret K hw hr (by decide) hd dX8_in_18
theorem dX8_within_0 : decode cX8_within 0 = .ok (.iload_n 0, 1) := by decide +kernel
theorem dX8_within_1 : decode cX8_within 1 = .ok (.iload_n 1, 1) := by decide +kernel
theorem dX8_within_2 : decode cX8_within 2 = .ok (.if_icmp .ge 7, 3) := by decide +kernel
theorem dX8_within_5 : decode cX8_within 5 = .ok (.iload_n 1, 1) := by decide +kernel
theorem dX8_within_6 : decode cX8_within 6 = .ok (.goto 13, 3) := by decide +kernel
theorem dX8_within_9 : decode cX8_within 9 = .ok (.iload_n 0, 1) := by decide +kernel
theorem dX8_within_10 : decode cX8_within 10 = .ok (.iload_n 2, 1) := by decide +kernel
theorem dX8_within_11 : decode cX8_within 11 = .ok (.if_icmp .le 7, 3) := by decide +kernel
theorem dX8_within_14 : decode cX8_within 14 = .ok (.iload_n 2, 1) := by decide +kernel
theorem dX8_within_15 : decode cX8_within 15 = .ok (.goto 4, 3) := by decide +kernel
theorem dX8_within_18 : decode cX8_within 18 = .ok (.iload_n 0, 1) := by decide +kernel
theorem dX8_within_19 : decode cX8_within 19 = .ok (.ireturn, 1) := by decide +kernel
set_option maxHeartbeats 4000000 in
set_option maxRecDepth 100000 in
theorem cc_X8_within (l : Launch) (D : va_G) (cy : Nat → ClassId) (ad : Nat → Nat) (A : Nat → Prop) (g0 : Sg) (Q : Int32 → Sg → Prop) (x0 : Int32) (x1 : Int32) (x2 : Int32) (hd : vv_X8_within x0 x1 x2 g0 Q) : Met l yX8_within (Cond.code yX8_within cX8_within 3 (some .int) :: TT) (rmD 0) (va_Pc [.int x0, .int x1, .int x2] (PreG (wsM cy ad) D cy A g0)) (va_Qi Q (PostG (wsM cy ad) D A) A) 0 0 A := by
  unfold vv_X8_within at hd
  refine Met.ofW (cc := cX8_within) (maxL := 3) (ret := (some .int)) (by decide) rfl ?_
  intro p e s m args below meth c s₁ B hml hv
  obtain ⟨rfl, hP, hK0, hD⟩ := hv
  have K : Kx p s m _ meth c cX8_within 3 RX8 D cy := ⟨B.exec, B.bytes, hml, findClass_of_methodNamed B.named, fun w h => atoms_spec (ws := Cond.code yX8_within cX8_within 3 (some .int) :: TT) B.pre w (List.mem_cons_of_mem _ h), hK0, B.notSynchronized⟩
  have hw : Wd D A s.heap (wsM cy ad g0) s.heap [] := ⟨hP, hD, va_S.rf⟩
  have hr := B.returns
  have hl := lv_entry ([.int x0, .int x1, .int x2]) (n := 3) (Nat.le_of_ble_eq_true rfl)
  rw [lg_entry_eq]
  generalize (lg_sl ([.int x0, .int x1, .int x2]) ++ List.replicate (3 - (lg_sl ([.int x0, .int x1, .int x2])).length) Slot.unset).toArray = ls at hl ⊢
  have hl : lv_has ls 3 [(0, .int x0), (1, .int x1), (2, .int x2)] := hl
  refine lv_iload_n K.1 K.2.1 dX8_within_0 rfl (lv_at hl 0 rfl) ?_
  refine lv_iload_n K.1 K.2.1 dX8_within_1 rfl (lv_at hl 1 rfl) ?_
  refine lv_icmp_ge (tgt := 9) K.1 K.2.1 dX8_within_2 (by decide) (fun h_1 => ?_) (fun h_1 => ?_)
  · have hd := hd.1 h_1
    refine lv_iload_n K.1 K.2.1 dX8_within_9 rfl (lv_at hl 0 rfl) ?_
    refine lv_iload_n K.1 K.2.1 dX8_within_10 rfl (lv_at hl 2 rfl) ?_
    refine lv_icmp_le (tgt := 18) K.1 K.2.1 dX8_within_11 (by decide) (fun h_2 => ?_) (fun h_2 => ?_)
    · have hd := hd.1 h_2
      refine lv_iload_n K.1 K.2.1 dX8_within_18 rfl (lv_at hl 0 rfl) ?_
      exact rk_iret K hw hr hd dX8_within_19
    · have hd := hd.2 h_2
      refine lv_iload_n K.1 K.2.1 dX8_within_14 rfl (lv_at hl 2 rfl) ?_
      refine lv_goto (tgt := 19) K.1 K.2.1 dX8_within_15 (by decide) ?_
      exact rk_iret K hw hr hd dX8_within_19
  · have hd := hd.2 h_1
    refine lv_iload_n K.1 K.2.1 dX8_within_5 rfl (lv_at hl 1 rfl) ?_
    refine lv_goto (tgt := 19) K.1 K.2.1 dX8_within_6 (by decide) ?_
    exact rk_iret K hw hr hd dX8_within_19
theorem dX8_isOne_0 : decode cX8_isOne 0 = .ok (.iload_n 1, 1) := by decide +kernel
theorem dX8_isOne_1 : decode cX8_isOne 1 = .ok (.i2l, 1) := by decide +kernel
theorem dX8_isOne_2 : decode cX8_isOne 2 = .ok (.lconst 0, 1) := by decide +kernel
theorem dX8_isOne_3 : decode cX8_isOne 3 = .ok (.aload_n 0, 1) := by decide +kernel
theorem dX8_isOne_4 : decode cX8_isOne 4 = .ok (.getfield 64, 3) := by decide +kernel
theorem dX8_isOne_7 : decode cX8_isOne 7 = .ok (.iconst 1, 1) := by decide +kernel
theorem dX8_isOne_8 : decode cX8_isOne 8 = .ok (.isub, 1) := by decide +kernel
theorem dX8_isOne_9 : decode cX8_isOne 9 = .ok (.i2l, 1) := by decide +kernel
theorem dX8_isOne_10 : decode cX8_isOne 10 = .ok (.invokestatic 67, 3) := by decide +kernel
theorem dX8_isOne_13 : decode cX8_isOne 13 = .ok (.ireturn, 1) := by decide +kernel
set_option maxHeartbeats 4000000 in
set_option maxRecDepth 100000 in
theorem cc_X8_isOne (l : Launch) (D : va_G) (cy : Nat → ClassId) (ad : Nat → Nat) (A : Nat → Prop) (g0 : Sg) (Q : Int32 → Sg → Prop) (x1 : Int32) (hd : vv_X8_isOne x1 g0 Q) : Met l yX8_isOne (Cond.code yX8_isOne cX8_isOne 2 (some .boolean) :: TT) (rmD 1) (va_Pc [.ref (ad 0), .int x1] (PreG (wsM cy ad) D cy A g0)) (va_Qi Q (PostG (wsM cy ad) D A) A) 0 0 A := by
  unfold vv_X8_isOne at hd
  refine Met.ofW (cc := cX8_isOne) (maxL := 2) (ret := (some .boolean)) (by decide) rfl ?_
  intro p e s m args below meth c s₁ B hml hv
  obtain ⟨rfl, hP, hK0, hD⟩ := hv
  have K : Kx p s m _ meth c cX8_isOne 2 RX8 D cy := ⟨B.exec, B.bytes, hml, findClass_of_methodNamed B.named, fun w h => atoms_spec (ws := Cond.code yX8_isOne cX8_isOne 2 (some .boolean) :: TT) B.pre w (List.mem_cons_of_mem _ h), hK0, B.notSynchronized⟩
  have hw : Wd D A s.heap (wsM cy ad g0) s.heap [] := ⟨hP, hD, va_S.rf⟩
  have hr := B.returns
  have hl := lv_entry ([.ref (ad 0), .int x1]) (n := 2) (Nat.le_of_ble_eq_true rfl)
  rw [lg_entry_eq]
  generalize (lg_sl ([.ref (ad 0), .int x1]) ++ List.replicate (2 - (lg_sl ([.ref (ad 0), .int x1])).length) Slot.unset).toArray = ls at hl ⊢
  have hl : lv_has ls 2 [(0, .ref (ad 0)), (1, .int x1)] := hl
  refine lv_iload_n K.1 K.2.1 dX8_isOne_0 rfl (lv_at hl 1 rfl) ?_
  refine lv_i2l (v := x1.toInt64) K.1 K.2.1 dX8_isOne_1 rfl ?_
  refine lv_lconst (v := (0 : Int64)) K.1 K.2.1 dX8_isOne_2 rfl ?_
  refine lv_aload_n K.1 K.2.1 dX8_isOne_3 rfl (lv_at hl 0 rfl) ?_
  refine rm_get 11 K hw (by decide) kf_X8_64 rfl dX8_isOne_4 ?_
  refine lv_iconst (v := (1 : Int32)) K.1 K.2.1 dX8_isOne_7 (by decide) ?_
  refine lv_isub K.1 K.2.1 dX8_isOne_8 ?_
  refine lv_i2l (v := ((g0 0 11) - (1 : Int32)).toInt64) K.1 K.2.1 dX8_isOne_9 rfl ?_
  refine rk_si (As := [.long x1.toInt64, .long (0 : Int64), .long ((g0 0 11) - (1 : Int32)).toInt64]) (rest := []) K hw (cc_X8_in l D cy ad A g0 _ (x1.toInt64) (0 : Int64) (((g0 0 11) - (1 : Int32)).toInt64) hd) lk_X8_67 ⟨Nat.le_of_ble_eq_true rfl, Nat.le_of_ble_eq_true rfl⟩ ⟨Nat.zero_le _, Nat.zero_le _⟩ rfl hl.1 (Nat.le_of_ble_eq_true rfl) rfl dX8_isOne_10 (fun r_2 g_1 H locs hd hw => ?_)
  exact rk_zret K hw hr hd.1 hd.2 dX8_isOne_13
theorem dX8_leastOf_0 : decode cX8_leastOf 0 = .ok (.iload_n 0, 1) := by decide +kernel
theorem dX8_leastOf_1 : decode cX8_leastOf 1 = .ok (.iconst 1, 1) := by decide +kernel
theorem dX8_leastOf_2 : decode cX8_leastOf 2 = .ok (.if_icmp .ne 7, 3) := by decide +kernel
theorem dX8_leastOf_5 : decode cX8_leastOf 5 = .ok (.iconst 1, 1) := by decide +kernel
theorem dX8_leastOf_6 : decode cX8_leastOf 6 = .ok (.goto 14, 3) := by decide +kernel
theorem dX8_leastOf_9 : decode cX8_leastOf 9 = .ok (.iload_n 0, 1) := by decide +kernel
theorem dX8_leastOf_10 : decode cX8_leastOf 10 = .ok (.iconst 3, 1) := by decide +kernel
theorem dX8_leastOf_11 : decode cX8_leastOf 11 = .ok (.if_icmp .ne 8, 3) := by decide +kernel
theorem dX8_leastOf_14 : decode cX8_leastOf 14 = .ok (.bipush (-9), 2) := by decide +kernel
theorem dX8_leastOf_16 : decode cX8_leastOf 16 = .ok (.goto 4, 3) := by decide +kernel
theorem dX8_leastOf_19 : decode cX8_leastOf 19 = .ok (.iconst 0, 1) := by decide +kernel
theorem dX8_leastOf_20 : decode cX8_leastOf 20 = .ok (.ireturn, 1) := by decide +kernel
set_option maxHeartbeats 4000000 in
set_option maxRecDepth 100000 in
theorem cc_X8_leastOf (l : Launch) (D : va_G) (cy : Nat → ClassId) (ad : Nat → Nat) (A : Nat → Prop) (g0 : Sg) (Q : Int32 → Sg → Prop) (x0 : Int32) (hd : vv_X8_leastOf x0 g0 Q) : Met l yX8_leastOf (Cond.code yX8_leastOf cX8_leastOf 1 (some .int) :: TT) (rmD 0) (va_Pc [.int x0] (PreG (wsM cy ad) D cy A g0)) (va_Qi Q (PostG (wsM cy ad) D A) A) 0 0 A := by
  unfold vv_X8_leastOf at hd
  refine Met.ofW (cc := cX8_leastOf) (maxL := 1) (ret := (some .int)) (by decide) rfl ?_
  intro p e s m args below meth c s₁ B hml hv
  obtain ⟨rfl, hP, hK0, hD⟩ := hv
  have K : Kx p s m _ meth c cX8_leastOf 1 RX8 D cy := ⟨B.exec, B.bytes, hml, findClass_of_methodNamed B.named, fun w h => atoms_spec (ws := Cond.code yX8_leastOf cX8_leastOf 1 (some .int) :: TT) B.pre w (List.mem_cons_of_mem _ h), hK0, B.notSynchronized⟩
  have hw : Wd D A s.heap (wsM cy ad g0) s.heap [] := ⟨hP, hD, va_S.rf⟩
  have hr := B.returns
  have hl := lv_entry ([.int x0]) (n := 1) (Nat.le_of_ble_eq_true rfl)
  rw [lg_entry_eq]
  generalize (lg_sl ([.int x0]) ++ List.replicate (1 - (lg_sl ([.int x0])).length) Slot.unset).toArray = ls at hl ⊢
  have hl : lv_has ls 1 [(0, .int x0)] := hl
  refine lv_iload_n K.1 K.2.1 dX8_leastOf_0 rfl (lv_at hl 0 rfl) ?_
  refine lv_iconst (v := (1 : Int32)) K.1 K.2.1 dX8_leastOf_1 (by decide) ?_
  refine lv_icmp_ne (tgt := 9) K.1 K.2.1 dX8_leastOf_2 (by decide) (fun h_1 => ?_) (fun h_1 => ?_)
  · have hd := hd.1 h_1
    refine lv_iload_n K.1 K.2.1 dX8_leastOf_9 rfl (lv_at hl 0 rfl) ?_
    refine lv_iconst (v := (3 : Int32)) K.1 K.2.1 dX8_leastOf_10 (by decide) ?_
    refine lv_icmp_ne (tgt := 19) K.1 K.2.1 dX8_leastOf_11 (by decide) (fun h_2 => ?_) (fun h_2 => ?_)
    · have hd := hd.1 h_2
      refine lv_iconst (v := (0 : Int32)) K.1 K.2.1 dX8_leastOf_19 (by decide) ?_
      exact rk_iret K hw hr hd dX8_leastOf_20
    · have hd := hd.2 h_2
      refine lv_bipush (v := (-9 : Int32)) K.1 K.2.1 dX8_leastOf_14 (by decide) ?_
      refine lv_goto (tgt := 20) K.1 K.2.1 dX8_leastOf_16 (by decide) ?_
      exact rk_iret K hw hr hd dX8_leastOf_20
  · have hd := hd.2 h_1
    refine lv_iconst (v := (1 : Int32)) K.1 K.2.1 dX8_leastOf_5 (by decide) ?_
    refine lv_goto (tgt := 20) K.1 K.2.1 dX8_leastOf_6 (by decide) ?_
    exact rk_iret K hw hr hd dX8_leastOf_20
theorem dX8_mostOf_0 : decode cX8_mostOf 0 = .ok (.iload_n 0, 1) := by decide +kernel
theorem dX8_mostOf_1 : decode cX8_mostOf 1 = .ok (.iconst 2, 1) := by decide +kernel
theorem dX8_mostOf_2 : decode cX8_mostOf 2 = .ok (.if_icmp .ge 9, 3) := by decide +kernel
theorem dX8_mostOf_5 : decode cX8_mostOf 5 = .ok (.sipush 999, 3) := by decide +kernel
theorem dX8_mostOf_8 : decode cX8_mostOf 8 = .ok (.goto 33, 3) := by decide +kernel
theorem dX8_mostOf_11 : decode cX8_mostOf 11 = .ok (.iload_n 0, 1) := by decide +kernel
theorem dX8_mostOf_12 : decode cX8_mostOf 12 = .ok (.iconst 4, 1) := by decide +kernel
theorem dX8_mostOf_13 : decode cX8_mostOf 13 = .ok (.if_icmp .ge 8, 3) := by decide +kernel
theorem dX8_mostOf_16 : decode cX8_mostOf 16 = .ok (.bipush 9, 2) := by decide +kernel
theorem dX8_mostOf_18 : decode cX8_mostOf 18 = .ok (.goto 23, 3) := by decide +kernel
theorem dX8_mostOf_21 : decode cX8_mostOf 21 = .ok (.iload_n 0, 1) := by decide +kernel
theorem dX8_mostOf_22 : decode cX8_mostOf 22 = .ok (.iconst 4, 1) := by decide +kernel
theorem dX8_mostOf_23 : decode cX8_mostOf 23 = .ok (.if_icmp .ne 7, 3) := by decide +kernel
theorem dX8_mostOf_26 : decode cX8_mostOf 26 = .ok (.iconst 3, 1) := by decide +kernel
theorem dX8_mostOf_27 : decode cX8_mostOf 27 = .ok (.goto 14, 3) := by decide +kernel
theorem dX8_mostOf_30 : decode cX8_mostOf 30 = .ok (.iload_n 0, 1) := by decide +kernel
theorem dX8_mostOf_31 : decode cX8_mostOf 31 = .ok (.iconst 5, 1) := by decide +kernel
theorem dX8_mostOf_32 : decode cX8_mostOf 32 = .ok (.if_icmp .ne 8, 3) := by decide +kernel
theorem dX8_mostOf_35 : decode cX8_mostOf 35 = .ok (.bipush 99, 2) := by decide +kernel
theorem dX8_mostOf_37 : decode cX8_mostOf 37 = .ok (.goto 4, 3) := by decide +kernel
theorem dX8_mostOf_40 : decode cX8_mostOf 40 = .ok (.iconst 1, 1) := by decide +kernel
theorem dX8_mostOf_41 : decode cX8_mostOf 41 = .ok (.ireturn, 1) := by decide +kernel
set_option maxHeartbeats 4000000 in
set_option maxRecDepth 100000 in
theorem cc_X8_mostOf (l : Launch) (D : va_G) (cy : Nat → ClassId) (ad : Nat → Nat) (A : Nat → Prop) (g0 : Sg) (Q : Int32 → Sg → Prop) (x0 : Int32) (hd : vv_X8_mostOf x0 g0 Q) : Met l yX8_mostOf (Cond.code yX8_mostOf cX8_mostOf 1 (some .int) :: TT) (rmD 0) (va_Pc [.int x0] (PreG (wsM cy ad) D cy A g0)) (va_Qi Q (PostG (wsM cy ad) D A) A) 0 0 A := by
  unfold vv_X8_mostOf at hd
  refine Met.ofW (cc := cX8_mostOf) (maxL := 1) (ret := (some .int)) (by decide) rfl ?_
  intro p e s m args below meth c s₁ B hml hv
  obtain ⟨rfl, hP, hK0, hD⟩ := hv
  have K : Kx p s m _ meth c cX8_mostOf 1 RX8 D cy := ⟨B.exec, B.bytes, hml, findClass_of_methodNamed B.named, fun w h => atoms_spec (ws := Cond.code yX8_mostOf cX8_mostOf 1 (some .int) :: TT) B.pre w (List.mem_cons_of_mem _ h), hK0, B.notSynchronized⟩
  have hw : Wd D A s.heap (wsM cy ad g0) s.heap [] := ⟨hP, hD, va_S.rf⟩
  have hr := B.returns
  have hl := lv_entry ([.int x0]) (n := 1) (Nat.le_of_ble_eq_true rfl)
  rw [lg_entry_eq]
  generalize (lg_sl ([.int x0]) ++ List.replicate (1 - (lg_sl ([.int x0])).length) Slot.unset).toArray = ls at hl ⊢
  have hl : lv_has ls 1 [(0, .int x0)] := hl
  refine lv_iload_n K.1 K.2.1 dX8_mostOf_0 rfl (lv_at hl 0 rfl) ?_
  refine lv_iconst (v := (2 : Int32)) K.1 K.2.1 dX8_mostOf_1 (by decide) ?_
  refine lv_icmp_ge (tgt := 11) K.1 K.2.1 dX8_mostOf_2 (by decide) (fun h_1 => ?_) (fun h_1 => ?_)
  · have hd := hd.1 h_1
    refine lv_iload_n K.1 K.2.1 dX8_mostOf_11 rfl (lv_at hl 0 rfl) ?_
    refine lv_iconst (v := (4 : Int32)) K.1 K.2.1 dX8_mostOf_12 (by decide) ?_
    refine lv_icmp_ge (tgt := 21) K.1 K.2.1 dX8_mostOf_13 (by decide) (fun h_2 => ?_) (fun h_2 => ?_)
    · have hd := hd.1 h_2
      refine lv_iload_n K.1 K.2.1 dX8_mostOf_21 rfl (lv_at hl 0 rfl) ?_
      refine lv_iconst (v := (4 : Int32)) K.1 K.2.1 dX8_mostOf_22 (by decide) ?_
      refine lv_icmp_ne (tgt := 30) K.1 K.2.1 dX8_mostOf_23 (by decide) (fun h_3 => ?_) (fun h_3 => ?_)
      · have hd := hd.1 h_3
        refine lv_iload_n K.1 K.2.1 dX8_mostOf_30 rfl (lv_at hl 0 rfl) ?_
        refine lv_iconst (v := (5 : Int32)) K.1 K.2.1 dX8_mostOf_31 (by decide) ?_
        refine lv_icmp_ne (tgt := 40) K.1 K.2.1 dX8_mostOf_32 (by decide) (fun h_4 => ?_) (fun h_4 => ?_)
        · have hd := hd.1 h_4
          refine lv_iconst (v := (1 : Int32)) K.1 K.2.1 dX8_mostOf_40 (by decide) ?_
          exact rk_iret K hw hr hd dX8_mostOf_41
        · have hd := hd.2 h_4
          refine lv_bipush (v := (99 : Int32)) K.1 K.2.1 dX8_mostOf_35 (by decide) ?_
          refine lv_goto (tgt := 41) K.1 K.2.1 dX8_mostOf_37 (by decide) ?_
          exact rk_iret K hw hr hd dX8_mostOf_41
      · have hd := hd.2 h_3
        refine lv_iconst (v := (3 : Int32)) K.1 K.2.1 dX8_mostOf_26 (by decide) ?_
        refine lv_goto (tgt := 41) K.1 K.2.1 dX8_mostOf_27 (by decide) ?_
        exact rk_iret K hw hr hd dX8_mostOf_41
    · have hd := hd.2 h_2
      refine lv_bipush (v := (9 : Int32)) K.1 K.2.1 dX8_mostOf_16 (by decide) ?_
      refine lv_goto (tgt := 41) K.1 K.2.1 dX8_mostOf_18 (by decide) ?_
      exact rk_iret K hw hr hd dX8_mostOf_41
  · have hd := hd.2 h_1
    refine lv_sipush (v := (999 : Int32)) K.1 K.2.1 dX8_mostOf_5 (by decide) ?_
    refine lv_goto (tgt := 41) K.1 K.2.1 dX8_mostOf_8 (by decide) ?_
    exact rk_iret K hw hr hd dX8_mostOf_41
theorem dX8_byteAt_0 : decode cX8_byteAt 0 = .ok (.iload_n 1, 1) := by decide +kernel
theorem dX8_byteAt_1 : decode cX8_byteAt 1 = .ok (.aload_n 0, 1) := by decide +kernel
theorem dX8_byteAt_2 : decode cX8_byteAt 2 = .ok (.getfield 134, 3) := by decide +kernel
theorem dX8_byteAt_5 : decode cX8_byteAt 5 = .ok (.if_icmp .ge 17, 3) := by decide +kernel
theorem dX8_byteAt_8 : decode cX8_byteAt 8 = .ok (.aload_n 0, 1) := by decide +kernel
theorem dX8_byteAt_9 : decode cX8_byteAt 9 = .ok (.getfield 13, 3) := by decide +kernel
theorem dX8_byteAt_12 : decode cX8_byteAt 12 = .ok (.aload_n 0, 1) := by decide +kernel
theorem dX8_byteAt_13 : decode cX8_byteAt 13 = .ok (.getfield 137, 3) := by decide +kernel
theorem dX8_byteAt_16 : decode cX8_byteAt 16 = .ok (.iload_n 1, 1) := by decide +kernel
theorem dX8_byteAt_17 : decode cX8_byteAt 17 = .ok (.iadd, 1) := by decide +kernel
theorem dX8_byteAt_18 : decode cX8_byteAt 18 = .ok (.iaload, 1) := by decide +kernel
theorem dX8_byteAt_19 : decode cX8_byteAt 19 = .ok (.goto 4, 3) := by decide +kernel
theorem dX8_byteAt_22 : decode cX8_byteAt 22 = .ok (.iconst (-1), 1) := by decide +kernel
theorem dX8_byteAt_23 : decode cX8_byteAt 23 = .ok (.ireturn, 1) := by decide +kernel
set_option maxHeartbeats 4000000 in
set_option maxRecDepth 100000 in
theorem cc_X8_byteAt (l : Launch) (D : va_G) (cy : Nat → ClassId) (ad : Nat → Nat) (A : Nat → Prop) (g0 : Sg) (Q : Int32 → Sg → Prop) (x1 : Int32) (hd : vv_X8_byteAt x1 g0 Q) : Met l yX8_byteAt (Cond.code yX8_byteAt cX8_byteAt 2 (some .int) :: TT) (rmD 0) (va_Pc [.ref (ad 0), .int x1] (PreG (wsM cy ad) D cy A g0)) (va_Qi Q (PostG (wsM cy ad) D A) A) 0 0 A := by
  unfold vv_X8_byteAt at hd
  refine Met.ofW (cc := cX8_byteAt) (maxL := 2) (ret := (some .int)) (by decide) rfl ?_
  intro p e s m args below meth c s₁ B hml hv
  obtain ⟨rfl, hP, hK0, hD⟩ := hv
  have K : Kx p s m _ meth c cX8_byteAt 2 RX8 D cy := ⟨B.exec, B.bytes, hml, findClass_of_methodNamed B.named, fun w h => atoms_spec (ws := Cond.code yX8_byteAt cX8_byteAt 2 (some .int) :: TT) B.pre w (List.mem_cons_of_mem _ h), hK0, B.notSynchronized⟩
  have hw : Wd D A s.heap (wsM cy ad g0) s.heap [] := ⟨hP, hD, va_S.rf⟩
  have hr := B.returns
  have hl := lv_entry ([.ref (ad 0), .int x1]) (n := 2) (Nat.le_of_ble_eq_true rfl)
  rw [lg_entry_eq]
  generalize (lg_sl ([.ref (ad 0), .int x1]) ++ List.replicate (2 - (lg_sl ([.ref (ad 0), .int x1])).length) Slot.unset).toArray = ls at hl ⊢
  have hl : lv_has ls 2 [(0, .ref (ad 0)), (1, .int x1)] := hl
  refine lv_iload_n K.1 K.2.1 dX8_byteAt_0 rfl (lv_at hl 1 rfl) ?_
  refine lv_aload_n K.1 K.2.1 dX8_byteAt_1 rfl (lv_at hl 0 rfl) ?_
  refine rm_get 19 K hw (by decide) kf_X8_134 rfl dX8_byteAt_2 ?_
  refine lv_icmp_ge (tgt := 22) K.1 K.2.1 dX8_byteAt_5 (by decide) (fun h_1 => ?_) (fun h_1 => ?_)
  · have hd := hd.1 h_1
    refine lv_iconst (v := (-1 : Int32)) K.1 K.2.1 dX8_byteAt_22 (by decide) ?_
    exact rk_iret K hw hr hd dX8_byteAt_23
  · have hd := hd.2 h_1
    refine lv_aload_n K.1 K.2.1 dX8_byteAt_8 rfl (lv_at hl 0 rfl) ?_
    refine rm_get 1 K hw (by decide) kf_X8_13 rfl dX8_byteAt_9 ?_
    refine lv_aload_n K.1 K.2.1 dX8_byteAt_12 rfl (lv_at hl 0 rfl) ?_
    refine rm_get 18 K hw (by decide) kf_X8_137 rfl dX8_byteAt_13 ?_
    refine lv_iload_n K.1 K.2.1 dX8_byteAt_16 rfl (lv_at hl 1 rfl) ?_
    refine lv_iadd K.1 K.2.1 dX8_byteAt_17 ?_
    have hb := hd.1
    have hd := hd.2
    refine rm_iald 1 K hw (by decide) hb dX8_byteAt_18 ?_
    refine lv_goto (tgt := 23) K.1 K.2.1 dX8_byteAt_19 (by decide) ?_
    exact rk_iret K hw hr hd dX8_byteAt_23
theorem dX8_next_0 : decode cX8_next 0 = .ok (.aload_n 0, 1) := by decide +kernel
theorem dX8_next_1 : decode cX8_next 1 = .ok (.aload_n 0, 1) := by decide +kernel
theorem dX8_next_2 : decode cX8_next 2 = .ok (.getfield 140, 3) := by decide +kernel
theorem dX8_next_5 : decode cX8_next 5 = .ok (.invokevirtual 143, 3) := by decide +kernel
theorem dX8_next_8 : decode cX8_next 8 = .ok (.bipush 32, 2) := by decide +kernel
theorem dX8_next_10 : decode cX8_next 10 = .ok (.if_icmp .eq 16, 3) := by decide +kernel
theorem dX8_next_13 : decode cX8_next 13 = .ok (.aload_n 0, 1) := by decide +kernel
theorem dX8_next_14 : decode cX8_next 14 = .ok (.aload_n 0, 1) := by decide +kernel
theorem dX8_next_15 : decode cX8_next 15 = .ok (.getfield 140, 3) := by decide +kernel
theorem dX8_next_18 : decode cX8_next 18 = .ok (.invokevirtual 143, 3) := by decide +kernel
theorem dX8_next_21 : decode cX8_next 21 = .ok (.bipush 10, 2) := by decide +kernel
theorem dX8_next_23 : decode cX8_next 23 = .ok (.if_icmp .ne 16, 3) := by decide +kernel
theorem dX8_next_26 : decode cX8_next 26 = .ok (.aload_n 0, 1) := by decide +kernel
theorem dX8_next_27 : decode cX8_next 27 = .ok (.dup, 1) := by decide +kernel
theorem dX8_next_28 : decode cX8_next 28 = .ok (.getfield 140, 3) := by decide +kernel
theorem dX8_next_31 : decode cX8_next 31 = .ok (.iconst 1, 1) := by decide +kernel
theorem dX8_next_32 : decode cX8_next 32 = .ok (.iadd, 1) := by decide +kernel
theorem dX8_next_33 : decode cX8_next 33 = .ok (.putfield 140, 3) := by decide +kernel
theorem dX8_next_36 : decode cX8_next 36 = .ok (.goto (-36), 3) := by decide +kernel
theorem dX8_next_39 : decode cX8_next 39 = .ok (.aload_n 0, 1) := by decide +kernel
theorem dX8_next_40 : decode cX8_next 40 = .ok (.aload_n 0, 1) := by decide +kernel
theorem dX8_next_41 : decode cX8_next 41 = .ok (.getfield 140, 3) := by decide +kernel
theorem dX8_next_44 : decode cX8_next 44 = .ok (.putfield 146, 3) := by decide +kernel
theorem dX8_next_47 : decode cX8_next 47 = .ok (.aload_n 0, 1) := by decide +kernel
theorem dX8_next_48 : decode cX8_next 48 = .ok (.aload_n 0, 1) := by decide +kernel
theorem dX8_next_49 : decode cX8_next 49 = .ok (.getfield 140, 3) := by decide +kernel
theorem dX8_next_52 : decode cX8_next 52 = .ok (.invokevirtual 143, 3) := by decide +kernel
theorem dX8_next_55 : decode cX8_next 55 = .ok (.istore_n 1, 1) := by decide +kernel
theorem dX8_next_56 : decode cX8_next 56 = .ok (.aload_n 0, 1) := by decide +kernel
theorem dX8_next_57 : decode cX8_next 57 = .ok (.iconst 4, 1) := by decide +kernel
theorem dX8_next_58 : decode cX8_next 58 = .ok (.putfield 149, 3) := by decide +kernel
theorem dX8_next_61 : decode cX8_next 61 = .ok (.iload_n 1, 1) := by decide +kernel
theorem dX8_next_62 : decode cX8_next 62 = .ok (.ifCond .ge 19, 3) := by decide +kernel
theorem dX8_next_65 : decode cX8_next 65 = .ok (.aload_n 0, 1) := by decide +kernel
theorem dX8_next_66 : decode cX8_next 66 = .ok (.iconst 0, 1) := by decide +kernel
theorem dX8_next_67 : decode cX8_next 67 = .ok (.putfield 149, 3) := by decide +kernel
theorem dX8_next_70 : decode cX8_next 70 = .ok (.aload_n 0, 1) := by decide +kernel
theorem dX8_next_71 : decode cX8_next 71 = .ok (.aload_n 0, 1) := by decide +kernel
theorem dX8_next_72 : decode cX8_next 72 = .ok (.getfield 134, 3) := by decide +kernel
theorem dX8_next_75 : decode cX8_next 75 = .ok (.putfield 146, 3) := by decide +kernel
theorem dX8_next_78 : decode cX8_next 78 = .ok (.goto 243, 3) := by decide +kernel
theorem dX8_next_81 : decode cX8_next 81 = .ok (.iload_n 1, 1) := by decide +kernel
theorem dX8_next_82 : decode cX8_next 82 = .ok (.i2l, 1) := by decide +kernel
theorem dX8_next_83 : decode cX8_next 83 = .ok (.ldc2_w 152, 3) := by decide +kernel
theorem dX8_next_86 : decode cX8_next 86 = .ok (.ldc2_w 154, 3) := by decide +kernel
theorem dX8_next_89 : decode cX8_next 89 = .ok (.invokestatic 67, 3) := by decide +kernel
theorem dX8_next_92 : decode cX8_next 92 = .ok (.ifCond .eq 42, 3) := by decide +kernel
theorem dX8_next_95 : decode cX8_next 95 = .ok (.aload_n 0, 1) := by decide +kernel
theorem dX8_next_96 : decode cX8_next 96 = .ok (.iconst 1, 1) := by decide +kernel
theorem dX8_next_97 : decode cX8_next 97 = .ok (.putfield 149, 3) := by decide +kernel
theorem dX8_next_100 : decode cX8_next 100 = .ok (.aload_n 0, 1) := by decide +kernel
theorem dX8_next_101 : decode cX8_next 101 = .ok (.aload_n 0, 1) := by decide +kernel
theorem dX8_next_102 : decode cX8_next 102 = .ok (.getfield 140, 3) := by decide +kernel
theorem dX8_next_105 : decode cX8_next 105 = .ok (.invokevirtual 143, 3) := by decide +kernel
theorem dX8_next_108 : decode cX8_next 108 = .ok (.i2l, 1) := by decide +kernel
theorem dX8_next_109 : decode cX8_next 109 = .ok (.ldc2_w 152, 3) := by decide +kernel
theorem dX8_next_112 : decode cX8_next 112 = .ok (.ldc2_w 154, 3) := by decide +kernel
theorem dX8_next_115 : decode cX8_next 115 = .ok (.invokestatic 67, 3) := by decide +kernel
theorem dX8_next_118 : decode cX8_next 118 = .ok (.ifCond .eq 203, 3) := by decide +kernel
theorem dX8_next_121 : decode cX8_next 121 = .ok (.aload_n 0, 1) := by decide +kernel
theorem dX8_next_122 : decode cX8_next 122 = .ok (.dup, 1) := by decide +kernel
theorem dX8_next_123 : decode cX8_next 123 = .ok (.getfield 140, 3) := by decide +kernel
theorem dX8_next_126 : decode cX8_next 126 = .ok (.iconst 1, 1) := by decide +kernel
theorem dX8_next_127 : decode cX8_next 127 = .ok (.iadd, 1) := by decide +kernel
theorem dX8_next_128 : decode cX8_next 128 = .ok (.putfield 140, 3) := by decide +kernel
theorem dX8_next_131 : decode cX8_next 131 = .ok (.goto (-31), 3) := by decide +kernel
theorem dX8_next_134 : decode cX8_next 134 = .ok (.iload_n 1, 1) := by decide +kernel
theorem dX8_next_135 : decode cX8_next 135 = .ok (.i2l, 1) := by decide +kernel
theorem dX8_next_136 : decode cX8_next 136 = .ok (.ldc2_w 156, 3) := by decide +kernel
theorem dX8_next_139 : decode cX8_next 139 = .ok (.ldc2_w 158, 3) := by decide +kernel
theorem dX8_next_142 : decode cX8_next 142 = .ok (.invokestatic 67, 3) := by decide +kernel
theorem dX8_next_145 : decode cX8_next 145 = .ok (.ifCond .eq 107, 3) := by decide +kernel
theorem dX8_next_148 : decode cX8_next 148 = .ok (.aload_n 0, 1) := by decide +kernel
theorem dX8_next_149 : decode cX8_next 149 = .ok (.iconst 2, 1) := by decide +kernel
theorem dX8_next_150 : decode cX8_next 150 = .ok (.putfield 149, 3) := by decide +kernel
theorem dX8_next_153 : decode cX8_next 153 = .ok (.aload_n 0, 1) := by decide +kernel
theorem dX8_next_154 : decode cX8_next 154 = .ok (.lconst 0, 1) := by decide +kernel
theorem dX8_next_155 : decode cX8_next 155 = .ok (.putfield 160, 3) := by decide +kernel
theorem dX8_next_158 : decode cX8_next 158 = .ok (.iconst 0, 1) := by decide +kernel
theorem dX8_next_159 : decode cX8_next 159 = .ok (.istore_n 2, 1) := by decide +kernel
theorem dX8_next_160 : decode cX8_next 160 = .ok (.aload_n 0, 1) := by decide +kernel
theorem dX8_next_161 : decode cX8_next 161 = .ok (.aload_n 0, 1) := by decide +kernel
theorem dX8_next_162 : decode cX8_next 162 = .ok (.getfield 140, 3) := by decide +kernel
theorem dX8_next_165 : decode cX8_next 165 = .ok (.invokevirtual 143, 3) := by decide +kernel
theorem dX8_next_168 : decode cX8_next 168 = .ok (.i2l, 1) := by decide +kernel
theorem dX8_next_169 : decode cX8_next 169 = .ok (.ldc2_w 156, 3) := by decide +kernel
theorem dX8_next_172 : decode cX8_next 172 = .ok (.ldc2_w 158, 3) := by decide +kernel
theorem dX8_next_175 : decode cX8_next 175 = .ok (.invokestatic 67, 3) := by decide +kernel
theorem dX8_next_178 : decode cX8_next 178 = .ok (.ifCond .eq 57, 3) := by decide +kernel
theorem dX8_next_181 : decode cX8_next 181 = .ok (.aload_n 0, 1) := by decide +kernel
theorem dX8_next_182 : decode cX8_next 182 = .ok (.iload_n 2, 1) := by decide +kernel
theorem dX8_next_183 : decode cX8_next 183 = .ok (.iconst 4, 1) := by decide +kernel
theorem dX8_next_184 : decode cX8_next 184 = .ok (.if_icmp .ge 28, 3) := by decide +kernel
theorem dX8_next_187 : decode cX8_next 187 = .ok (.ldc2_w 104, 3) := by decide +kernel
theorem dX8_next_190 : decode cX8_next 190 = .ok (.aload_n 0, 1) := by decide +kernel
theorem dX8_next_191 : decode cX8_next 191 = .ok (.getfield 160, 3) := by decide +kernel
theorem dX8_next_194 : decode cX8_next 194 = .ok (.lmul, 1) := by decide +kernel
theorem dX8_next_195 : decode cX8_next 195 = .ok (.aload_n 0, 1) := by decide +kernel
theorem dX8_next_196 : decode cX8_next 196 = .ok (.aload_n 0, 1) := by decide +kernel
theorem dX8_next_197 : decode cX8_next 197 = .ok (.getfield 140, 3) := by decide +kernel
theorem dX8_next_200 : decode cX8_next 200 = .ok (.invokevirtual 143, 3) := by decide +kernel
theorem dX8_next_203 : decode cX8_next 203 = .ok (.i2l, 1) := by decide +kernel
theorem dX8_next_204 : decode cX8_next 204 = .ok (.ladd, 1) := by decide +kernel
theorem dX8_next_205 : decode cX8_next 205 = .ok (.ldc2_w 156, 3) := by decide +kernel
theorem dX8_next_208 : decode cX8_next 208 = .ok (.lsub, 1) := by decide +kernel
theorem dX8_next_209 : decode cX8_next 209 = .ok (.goto 7, 3) := by decide +kernel
theorem dX8_next_212 : decode cX8_next 212 = .ok (.aload_n 0, 1) := by decide +kernel
theorem dX8_next_213 : decode cX8_next 213 = .ok (.getfield 160, 3) := by decide +kernel
theorem dX8_next_216 : decode cX8_next 216 = .ok (.putfield 160, 3) := by decide +kernel
theorem dX8_next_219 : decode cX8_next 219 = .ok (.iinc 2 1, 3) := by decide +kernel
theorem dX8_next_222 : decode cX8_next 222 = .ok (.aload_n 0, 1) := by decide +kernel
theorem dX8_next_223 : decode cX8_next 223 = .ok (.dup, 1) := by decide +kernel
theorem dX8_next_224 : decode cX8_next 224 = .ok (.getfield 140, 3) := by decide +kernel
theorem dX8_next_227 : decode cX8_next 227 = .ok (.iconst 1, 1) := by decide +kernel
theorem dX8_next_228 : decode cX8_next 228 = .ok (.iadd, 1) := by decide +kernel
theorem dX8_next_229 : decode cX8_next 229 = .ok (.putfield 140, 3) := by decide +kernel
theorem dX8_next_232 : decode cX8_next 232 = .ok (.goto (-72), 3) := by decide +kernel
theorem dX8_next_235 : decode cX8_next 235 = .ok (.aload_n 0, 1) := by decide +kernel
theorem dX8_next_236 : decode cX8_next 236 = .ok (.iload_n 2, 1) := by decide +kernel
theorem dX8_next_237 : decode cX8_next 237 = .ok (.iconst 4, 1) := by decide +kernel
theorem dX8_next_238 : decode cX8_next 238 = .ok (.if_icmp .le 7, 3) := by decide +kernel
theorem dX8_next_241 : decode cX8_next 241 = .ok (.iconst 4, 1) := by decide +kernel
theorem dX8_next_242 : decode cX8_next 242 = .ok (.goto 4, 3) := by decide +kernel
theorem dX8_next_245 : decode cX8_next 245 = .ok (.iconst 2, 1) := by decide +kernel
theorem dX8_next_246 : decode cX8_next 246 = .ok (.putfield 149, 3) := by decide +kernel
theorem dX8_next_249 : decode cX8_next 249 = .ok (.goto 72, 3) := by decide +kernel
theorem dX8_next_252 : decode cX8_next 252 = .ok (.iload_n 1, 1) := by decide +kernel
theorem dX8_next_253 : decode cX8_next 253 = .ok (.bipush 40, 2) := by decide +kernel
theorem dX8_next_255 : decode cX8_next 255 = .ok (.if_icmp .eq 45, 3) := by decide +kernel
theorem dX8_next_258 : decode cX8_next 258 = .ok (.iload_n 1, 1) := by decide +kernel
theorem dX8_next_259 : decode cX8_next 259 = .ok (.bipush 41, 2) := by decide +kernel
theorem dX8_next_261 : decode cX8_next 261 = .ok (.if_icmp .eq 39, 3) := by decide +kernel
theorem dX8_next_264 : decode cX8_next 264 = .ok (.iload_n 1, 1) := by decide +kernel
theorem dX8_next_265 : decode cX8_next 265 = .ok (.bipush 59, 2) := by decide +kernel
theorem dX8_next_267 : decode cX8_next 267 = .ok (.if_icmp .eq 33, 3) := by decide +kernel
theorem dX8_next_270 : decode cX8_next 270 = .ok (.iload_n 1, 1) := by decide +kernel
theorem dX8_next_271 : decode cX8_next 271 = .ok (.bipush 43, 2) := by decide +kernel
theorem dX8_next_273 : decode cX8_next 273 = .ok (.if_icmp .eq 27, 3) := by decide +kernel
theorem dX8_next_276 : decode cX8_next 276 = .ok (.iload_n 1, 1) := by decide +kernel
theorem dX8_next_277 : decode cX8_next 277 = .ok (.bipush 45, 2) := by decide +kernel
theorem dX8_next_279 : decode cX8_next 279 = .ok (.if_icmp .eq 21, 3) := by decide +kernel
theorem dX8_next_282 : decode cX8_next 282 = .ok (.iload_n 1, 1) := by decide +kernel
theorem dX8_next_283 : decode cX8_next 283 = .ok (.bipush 42, 2) := by decide +kernel
theorem dX8_next_285 : decode cX8_next 285 = .ok (.if_icmp .eq 15, 3) := by decide +kernel
theorem dX8_next_288 : decode cX8_next 288 = .ok (.iload_n 1, 1) := by decide +kernel
theorem dX8_next_289 : decode cX8_next 289 = .ok (.bipush 60, 2) := by decide +kernel
theorem dX8_next_291 : decode cX8_next 291 = .ok (.if_icmp .eq 9, 3) := by decide +kernel
theorem dX8_next_294 : decode cX8_next 294 = .ok (.iload_n 1, 1) := by decide +kernel
theorem dX8_next_295 : decode cX8_next 295 = .ok (.bipush 61, 2) := by decide +kernel
theorem dX8_next_297 : decode cX8_next 297 = .ok (.if_icmp .ne 24, 3) := by decide +kernel
theorem dX8_next_300 : decode cX8_next 300 = .ok (.aload_n 0, 1) := by decide +kernel
theorem dX8_next_301 : decode cX8_next 301 = .ok (.iconst 3, 1) := by decide +kernel
theorem dX8_next_302 : decode cX8_next 302 = .ok (.putfield 149, 3) := by decide +kernel
theorem dX8_next_305 : decode cX8_next 305 = .ok (.aload_n 0, 1) := by decide +kernel
theorem dX8_next_306 : decode cX8_next 306 = .ok (.iload_n 1, 1) := by decide +kernel
theorem dX8_next_307 : decode cX8_next 307 = .ok (.i2l, 1) := by decide +kernel
theorem dX8_next_308 : decode cX8_next 308 = .ok (.putfield 160, 3) := by decide +kernel
theorem dX8_next_311 : decode cX8_next 311 = .ok (.aload_n 0, 1) := by decide +kernel
theorem dX8_next_312 : decode cX8_next 312 = .ok (.dup, 1) := by decide +kernel
theorem dX8_next_313 : decode cX8_next 313 = .ok (.getfield 140, 3) := by decide +kernel
theorem dX8_next_316 : decode cX8_next 316 = .ok (.iconst 1, 1) := by decide +kernel
theorem dX8_next_317 : decode cX8_next 317 = .ok (.iadd, 1) := by decide +kernel
theorem dX8_next_318 : decode cX8_next 318 = .ok (.putfield 140, 3) := by decide +kernel
theorem dX8_next_321 : decode cX8_next 321 = .ok (.return_, 1) := by decide +kernel
set_option maxHeartbeats 4000000 in
set_option maxRecDepth 100000 in
theorem bb_X8_next_26 {p : Program} {l : Launch} {e : Env} {s : State} {m : MethodId} {args : Array Value} {below : List Frame} {meth : Method} {c : Code} {D : va_G} {cy : Nat → ClassId} {ad : Nat → Nat} {A : Nat → Prop} {Q : Sg → Prop} (K : Kx p s m args meth c cX8_next 3 RX8 D cy) (hr : meth.sig.returnType = none) {rc0 : Sg → Prop} (hrc0 : ∀  (u : Sg) (H : Heap) (locs : List Loc) (ls : Array Slot), rc0  u → Wd D A s.heap (wsM cy ad u) H locs → lv_has ls 3 [(0, .ref (ad 0))] → W p l e (rmD 1) s m args below meth c H locs 0 0 (MQ below (va_Qv Q (PostG (wsM cy ad) D A) A) args s 0 0 A) (F0 m 0 ls []))   (g0 : Sg) (H : Heap) (locs : List Loc) (ls : Array Slot) (hd : vv_X8_next_J26 rc0 g0 Q) (hw : Wd D A s.heap (wsM cy ad g0) H locs) (hl : lv_has ls 3 [(0, .ref (ad 0))]) : W p l e (rmD 1) s m args below meth c H locs 0 0 (MQ below (va_Qv Q (PostG (wsM cy ad) D A) A) args s 0 0 A) (F0 m 26 ls []) := by
  unfold vv_X8_next_J26 at hd
  refine lv_aload_n K.1 K.2.1 dX8_next_26 rfl (lv_at hl 0 rfl) ?_
  refine lv_dup K.1 K.2.1 dX8_next_27 rfl ?_
  refine rm_get 20 K hw (by decide) kf_X8_140 rfl dX8_next_28 ?_
  refine lv_iconst (v := (1 : Int32)) K.1 K.2.1 dX8_next_31 (by decide) ?_
  refine lv_iadd K.1 K.2.1 dX8_next_32 ?_
  refine rm_put 20 K hw (by decide) kf_X8_140 rfl rfl rfl rfl (fsM_20 ad g0 _) dX8_next_33 (fun g_4 eg_4 H locs hw => ?_)
  have hd := hd g_4 eg_4
  refine lv_goto (tgt := 0) K.1 K.2.1 dX8_next_36 (by decide) ?_
  exact hrc0  g_4 _ _ _ hd hw (lv_sub hl [0] rfl)
set_option maxHeartbeats 4000000 in
set_option maxRecDepth 100000 in
theorem bb_X8_next_300 {p : Program} {l : Launch} {e : Env} {s : State} {m : MethodId} {args : Array Value} {below : List Frame} {meth : Method} {c : Code} {D : va_G} {cy : Nat → ClassId} {ad : Nat → Nat} {A : Nat → Prop} {Q : Sg → Prop} (K : Kx p s m args meth c cX8_next 3 RX8 D cy) (hr : meth.sig.returnType = none) (x1 : Int32)  (g0 : Sg) (H : Heap) (locs : List Loc) (ls : Array Slot) (hd : vv_X8_next_J300 x1 g0 Q) (hw : Wd D A s.heap (wsM cy ad g0) H locs) (hl : lv_has ls 3 [(0, .ref (ad 0)), (1, .int x1)]) : W p l e (rmD 1) s m args below meth c H locs 0 0 (MQ below (va_Qv Q (PostG (wsM cy ad) D A) A) args s 0 0 A) (F0 m 300 ls []) := by
  unfold vv_X8_next_J300 at hd
  refine lv_aload_n K.1 K.2.1 dX8_next_300 rfl (lv_at hl 0 rfl) ?_
  refine lv_iconst (v := (3 : Int32)) K.1 K.2.1 dX8_next_301 (by decide) ?_
  refine rm_put 21 K hw (by decide) kf_X8_149 rfl rfl rfl rfl (fsM_21 ad g0 _) dX8_next_302 (fun g_21 eg_21 H locs hw => ?_)
  have hd := hd g_21 eg_21
  refine lv_aload_n K.1 K.2.1 dX8_next_305 rfl (lv_at hl 0 rfl) ?_
  refine lv_iload_n K.1 K.2.1 dX8_next_306 rfl (lv_at hl 1 rfl) ?_
  refine lv_i2l (v := x1.toInt64) K.1 K.2.1 dX8_next_307 rfl ?_
  have hb := hd.1
  have hd := hd.2
  refine rm_put 23 (x := x1.toInt64.toInt32) K hw (by decide) kf_X8_160 rfl rfl rfl rfl (by have h9 := fsM_23 ad g_21 x1.toInt64.toInt32; rw [← hb] at h9; exact h9) dX8_next_308 (fun g_22 eg_22 H locs hw => ?_)
  have hd := hd g_22 eg_22
  refine lv_aload_n K.1 K.2.1 dX8_next_311 rfl (lv_at hl 0 rfl) ?_
  refine lv_dup K.1 K.2.1 dX8_next_312 rfl ?_
  refine rm_get 20 K hw (by decide) kf_X8_140 rfl dX8_next_313 ?_
  refine lv_iconst (v := (1 : Int32)) K.1 K.2.1 dX8_next_316 (by decide) ?_
  refine lv_iadd K.1 K.2.1 dX8_next_317 ?_
  refine rm_put 20 K hw (by decide) kf_X8_140 rfl rfl rfl rfl (fsM_20 ad g_22 _) dX8_next_318 (fun g_23 eg_23 H locs hw => ?_)
  have hd := hd g_23 eg_23
  exact rk_vret K hw hr hd dX8_next_321
set_option maxHeartbeats 4000000 in
set_option maxRecDepth 100000 in
theorem bb_X8_next_246 {p : Program} {l : Launch} {e : Env} {s : State} {m : MethodId} {args : Array Value} {below : List Frame} {meth : Method} {c : Code} {D : va_G} {cy : Nat → ClassId} {ad : Nat → Nat} {A : Nat → Prop} {Q : Sg → Prop} (K : Kx p s m args meth c cX8_next 3 RX8 D cy) (hr : meth.sig.returnType = none)  (t1 : Int32) (g0 : Sg) (H : Heap) (locs : List Loc) (ls : Array Slot) (hd : vv_X8_next_J246 t1 g0 Q) (hw : Wd D A s.heap (wsM cy ad g0) H locs) (hl : lv_has ls 3 []) : W p l e (rmD 1) s m args below meth c H locs 0 0 (MQ below (va_Qv Q (PostG (wsM cy ad) D A) A) args s 0 0 A) (F0 m 246 ls [.int t1, .ref (ad 0)]) := by
  unfold vv_X8_next_J246 at hd
  refine rm_put 21 K hw (by decide) kf_X8_149 rfl rfl rfl rfl (fsM_21 ad g0 _) dX8_next_246 (fun g_40 eg_40 H locs hw => ?_)
  have hd := hd g_40 eg_40
  refine lv_goto (tgt := 321) K.1 K.2.1 dX8_next_249 (by decide) ?_
  exact rk_vret K hw hr hd dX8_next_321
set_option maxHeartbeats 4000000 in
set_option maxRecDepth 100000 in
theorem bb_X8_next_216 {p : Program} {l : Launch} {e : Env} {s : State} {m : MethodId} {args : Array Value} {below : List Frame} {meth : Method} {c : Code} {D : va_G} {cy : Nat → ClassId} {ad : Nat → Nat} {A : Nat → Prop} {Q : Sg → Prop} (K : Kx p s m args meth c cX8_next 3 RX8 D cy) (hr : meth.sig.returnType = none) {rc160 : Int32 → Sg → Prop} (hrc160 : ∀ (x2 : Int32) (u : Sg) (H : Heap) (locs : List Loc) (ls : Array Slot), rc160 x2 u → Wd D A s.heap (wsM cy ad u) H locs → lv_has ls 3 [(0, .ref (ad 0)), (2, .int x2)] → W p l e (rmD 1) s m args below meth c H locs 0 0 (MQ below (va_Qv Q (PostG (wsM cy ad) D A) A) args s 0 0 A) (F0 m 160 ls [])) (x2 : Int32) (t1 : Int64) (g0 : Sg) (H : Heap) (locs : List Loc) (ls : Array Slot) (hd : vv_X8_next_J216 rc160 x2 t1 g0 Q) (hw : Wd D A s.heap (wsM cy ad g0) H locs) (hl : lv_has ls 3 [(0, .ref (ad 0)), (2, .int x2)]) : W p l e (rmD 1) s m args below meth c H locs 0 0 (MQ below (va_Qv Q (PostG (wsM cy ad) D A) A) args s 0 0 A) (F0 m 216 ls [.long t1, .ref (ad 0)]) := by
  unfold vv_X8_next_J216 at hd
  have hb := hd.1
  have hd := hd.2
  refine rm_put 23 (x := t1.toInt32) K hw (by decide) kf_X8_160 rfl rfl rfl rfl (by have h9 := fsM_23 ad g0 t1.toInt32; rw [← hb] at h9; exact h9) dX8_next_216 (fun g_42 eg_42 H locs hw => ?_)
  have hd := hd g_42 eg_42
  obtain ⟨x2_43, ex2_43⟩ : ∃ y : Int32, y = x2 + (1 : Int32) := ⟨_, rfl⟩
  have hd := hd x2_43 ex2_43
  refine lv_iinc (v := x2_43) (lv' := [(2, .int x2_43), (0, .ref (ad 0))]) K.1 K.2.1 dX8_next_219 hl (k := 1) rfl (by rw [ex2_43]; rfl) (by decide) rfl (fun ls hl => ?_)
  refine lv_aload_n K.1 K.2.1 dX8_next_222 rfl (lv_at hl 1 rfl) ?_
  refine lv_dup K.1 K.2.1 dX8_next_223 rfl ?_
  refine rm_get 20 K hw (by decide) kf_X8_140 rfl dX8_next_224 ?_
  refine lv_iconst (v := (1 : Int32)) K.1 K.2.1 dX8_next_227 (by decide) ?_
  refine lv_iadd K.1 K.2.1 dX8_next_228 ?_
  refine rm_put 20 K hw (by decide) kf_X8_140 rfl rfl rfl rfl (fsM_20 ad g_42 _) dX8_next_229 (fun g_44 eg_44 H locs hw => ?_)
  have hd := hd g_44 eg_44
  refine lv_goto (tgt := 160) K.1 K.2.1 dX8_next_232 (by decide) ?_
  exact hrc160 x2_43 g_44 _ _ _ hd hw (lv_sub hl [1, 0] rfl)
set_option maxHeartbeats 4000000 in
set_option maxRecDepth 100000 in
theorem bb_X8_next_160 {p : Program} {l : Launch} {e : Env} {s : State} {m : MethodId} {args : Array Value} {below : List Frame} {meth : Method} {c : Code} {D : va_G} {cy : Nat → ClassId} {ad : Nat → Nat} {A : Nat → Prop} {Q : Sg → Prop} (K : Kx p s m args meth c cX8_next 3 RX8 D cy) (hr : meth.sig.returnType = none) : ∀ (n : Nat) (x2 : Int32)  (g0 : Sg) (H : Heap) (locs : List Loc) (ls : Array Slot), vv_X8_next_L160 Q n x2 g0 → Wd D A s.heap (wsM cy ad g0) H locs → lv_has ls 3 [(0, .ref (ad 0)), (2, .int x2)] → W p l e (rmD 1) s m args below meth c H locs 0 0 (MQ below (va_Qv Q (PostG (wsM cy ad) D A) A) args s 0 0 A) (F0 m 160 ls []) := by
  intro n
  induction n with
  | zero => intro _ _ _ _ _ hd; exact hd.elim
  | succ n ih =>
    intro x2 g0 H locs ls hd hw hl
    unfold vv_X8_next_L160 at hd
    refine lv_aload_n K.1 K.2.1 dX8_next_160 rfl (lv_at hl 0 rfl) ?_
    refine lv_aload_n K.1 K.2.1 dX8_next_161 rfl (lv_at hl 0 rfl) ?_
    refine rm_get 20 K hw (by decide) kf_X8_140 rfl dX8_next_162 ?_
    refine rk_vi (As := [.int (g0 0 20)]) (rest := []) K hw (cc_X8_byteAt l D cy ad A g0 _ (g0 0 20) hd) lk_X8_143 (ci := 8) rfl (q0 := 0) (wsM_at cy ad _ (by decide)) ⟨Nat.le_of_ble_eq_true rfl, Nat.le_of_ble_eq_true rfl⟩ ⟨Nat.zero_le _, Nat.zero_le _⟩ rfl hl.1 (Nat.le_of_ble_eq_true rfl) rfl dX8_next_165 (fun r_35 g_34 H locs hd hw => ?_)
    refine lv_i2l (v := r_35.toInt64) K.1 K.2.1 dX8_next_168 rfl ?_
    refine lv_ldc2 K.1 K.2.1 K.2.2.2.1 (K.2.2.2.2.1 _ kl_X8_156) dX8_next_169 ?_
    refine lv_ldc2 K.1 K.2.1 K.2.2.2.1 (K.2.2.2.2.1 _ kl_X8_158) dX8_next_172 ?_
    refine rk_si (As := [.long r_35.toInt64, .long (48 : Int64), .long (57 : Int64)]) (rest := []) K hw (cc_X8_in l D cy ad A g_34 _ (r_35.toInt64) (48 : Int64) (57 : Int64) hd) lk_X8_67 ⟨Nat.le_of_ble_eq_true rfl, Nat.le_of_ble_eq_true rfl⟩ ⟨Nat.zero_le _, Nat.zero_le _⟩ rfl hl.1 (Nat.le_of_ble_eq_true rfl) rfl dX8_next_175 (fun r_37 g_36 H locs hd hw => ?_)
    refine lv_if_eq (tgt := 235) K.1 K.2.1 dX8_next_178 (by decide) (fun h_38 => ?_) (fun h_38 => ?_)
    · have hd := hd.1 h_38
      refine lv_aload_n K.1 K.2.1 dX8_next_235 rfl (lv_at hl 0 rfl) ?_
      refine lv_iload_n K.1 K.2.1 dX8_next_236 rfl (lv_at hl 1 rfl) ?_
      refine lv_iconst (v := (4 : Int32)) K.1 K.2.1 dX8_next_237 (by decide) ?_
      refine lv_icmp_le (tgt := 245) K.1 K.2.1 dX8_next_238 (by decide) (fun h_39 => ?_) (fun h_39 => ?_)
      · have hd := hd.1 h_39
        refine lv_iconst (v := (2 : Int32)) K.1 K.2.1 dX8_next_245 (by decide) ?_
        exact bb_X8_next_246 K hr  (2 : Int32) g_36 _ _ _ hd hw (lv_sub hl [] rfl)
      · have hd := hd.2 h_39
        refine lv_iconst (v := (4 : Int32)) K.1 K.2.1 dX8_next_241 (by decide) ?_
        refine lv_goto (tgt := 246) K.1 K.2.1 dX8_next_242 (by decide) ?_
        exact bb_X8_next_246 K hr  (4 : Int32) g_36 _ _ _ hd hw (lv_sub hl [] rfl)
    · have hd := hd.2 h_38
      refine lv_aload_n K.1 K.2.1 dX8_next_181 rfl (lv_at hl 0 rfl) ?_
      refine lv_iload_n K.1 K.2.1 dX8_next_182 rfl (lv_at hl 1 rfl) ?_
      refine lv_iconst (v := (4 : Int32)) K.1 K.2.1 dX8_next_183 (by decide) ?_
      refine lv_icmp_ge (tgt := 212) K.1 K.2.1 dX8_next_184 (by decide) (fun h_41 => ?_) (fun h_41 => ?_)
      · have hd := hd.1 h_41
        refine lv_aload_n K.1 K.2.1 dX8_next_212 rfl (lv_at hl 0 rfl) ?_
        refine rm_get 23 K hw (by decide) kf_X8_160 rfl dX8_next_213 ?_
        exact bb_X8_next_216 K hr ih x2 ((g_36 0 23).toInt64) g_36 _ _ _ hd hw (lv_sub hl [0, 1] rfl)
      · have hd := hd.2 h_41
        refine lv_ldc2 K.1 K.2.1 K.2.2.2.1 (K.2.2.2.2.1 _ kl_X8_104) dX8_next_187 ?_
        refine lv_aload_n K.1 K.2.1 dX8_next_190 rfl (lv_at hl 0 rfl) ?_
        refine rm_get 23 K hw (by decide) kf_X8_160 rfl dX8_next_191 ?_
        refine lv_lmul K.1 K.2.1 dX8_next_194 ?_
        refine lv_aload_n K.1 K.2.1 dX8_next_195 rfl (lv_at hl 0 rfl) ?_
        refine lv_aload_n K.1 K.2.1 dX8_next_196 rfl (lv_at hl 0 rfl) ?_
        refine rm_get 20 K hw (by decide) kf_X8_140 rfl dX8_next_197 ?_
        refine rk_vi (As := [.int (g_36 0 20)]) (rest := [.long ((10 : Int64) * (g_36 0 23).toInt64), .ref (ad 0)]) K hw (cc_X8_byteAt l D cy ad A g_36 _ (g_36 0 20) hd) lk_X8_143 (ci := 8) rfl (q0 := 0) (wsM_at cy ad _ (by decide)) ⟨Nat.le_of_ble_eq_true rfl, Nat.le_of_ble_eq_true rfl⟩ ⟨Nat.zero_le _, Nat.zero_le _⟩ rfl hl.1 (Nat.le_of_ble_eq_true rfl) rfl dX8_next_200 (fun r_46 g_45 H locs hd hw => ?_)
        refine lv_i2l (v := r_46.toInt64) K.1 K.2.1 dX8_next_203 rfl ?_
        refine lv_ladd K.1 K.2.1 dX8_next_204 ?_
        refine lv_ldc2 K.1 K.2.1 K.2.2.2.1 (K.2.2.2.2.1 _ kl_X8_156) dX8_next_205 ?_
        refine lv_lsub K.1 K.2.1 dX8_next_208 ?_
        refine lv_goto (tgt := 216) K.1 K.2.1 dX8_next_209 (by decide) ?_
        exact bb_X8_next_216 K hr ih x2 ((((10 : Int64) * (g_36 0 23).toInt64) + r_46.toInt64) - (48 : Int64)) g_45 _ _ _ hd hw (lv_sub hl [0, 1] rfl)
set_option maxHeartbeats 4000000 in
set_option maxRecDepth 100000 in
theorem bb_X8_next_100 {p : Program} {l : Launch} {e : Env} {s : State} {m : MethodId} {args : Array Value} {below : List Frame} {meth : Method} {c : Code} {D : va_G} {cy : Nat → ClassId} {ad : Nat → Nat} {A : Nat → Prop} {Q : Sg → Prop} (K : Kx p s m args meth c cX8_next 3 RX8 D cy) (hr : meth.sig.returnType = none) : ∀ (n : Nat)   (g0 : Sg) (H : Heap) (locs : List Loc) (ls : Array Slot), vv_X8_next_L100 Q n  g0 → Wd D A s.heap (wsM cy ad g0) H locs → lv_has ls 3 [(0, .ref (ad 0))] → W p l e (rmD 1) s m args below meth c H locs 0 0 (MQ below (va_Qv Q (PostG (wsM cy ad) D A) A) args s 0 0 A) (F0 m 100 ls []) := by
  intro n
  induction n with
  | zero => intro _ _ _ _ hd; exact hd.elim
  | succ n ih =>
    intro  g0 H locs ls hd hw hl
    unfold vv_X8_next_L100 at hd
    refine lv_aload_n K.1 K.2.1 dX8_next_100 rfl (lv_at hl 0 rfl) ?_
    refine lv_aload_n K.1 K.2.1 dX8_next_101 rfl (lv_at hl 0 rfl) ?_
    refine rm_get 20 K hw (by decide) kf_X8_140 rfl dX8_next_102 ?_
    refine rk_vi (As := [.int (g0 0 20)]) (rest := []) K hw (cc_X8_byteAt l D cy ad A g0 _ (g0 0 20) hd) lk_X8_143 (ci := 8) rfl (q0 := 0) (wsM_at cy ad _ (by decide)) ⟨Nat.le_of_ble_eq_true rfl, Nat.le_of_ble_eq_true rfl⟩ ⟨Nat.zero_le _, Nat.zero_le _⟩ rfl hl.1 (Nat.le_of_ble_eq_true rfl) rfl dX8_next_105 (fun r_49 g_48 H locs hd hw => ?_)
    refine lv_i2l (v := r_49.toInt64) K.1 K.2.1 dX8_next_108 rfl ?_
    refine lv_ldc2 K.1 K.2.1 K.2.2.2.1 (K.2.2.2.2.1 _ kl_X8_152) dX8_next_109 ?_
    refine lv_ldc2 K.1 K.2.1 K.2.2.2.1 (K.2.2.2.2.1 _ kl_X8_154) dX8_next_112 ?_
    refine rk_si (As := [.long r_49.toInt64, .long (97 : Int64), .long (122 : Int64)]) (rest := []) K hw (cc_X8_in l D cy ad A g_48 _ (r_49.toInt64) (97 : Int64) (122 : Int64) hd) lk_X8_67 ⟨Nat.le_of_ble_eq_true rfl, Nat.le_of_ble_eq_true rfl⟩ ⟨Nat.zero_le _, Nat.zero_le _⟩ rfl hl.1 (Nat.le_of_ble_eq_true rfl) rfl dX8_next_115 (fun r_51 g_50 H locs hd hw => ?_)
    refine lv_if_eq (tgt := 321) K.1 K.2.1 dX8_next_118 (by decide) (fun h_52 => ?_) (fun h_52 => ?_)
    · have hd := hd.1 h_52
      exact rk_vret K hw hr hd dX8_next_321
    · have hd := hd.2 h_52
      refine lv_aload_n K.1 K.2.1 dX8_next_121 rfl (lv_at hl 0 rfl) ?_
      refine lv_dup K.1 K.2.1 dX8_next_122 rfl ?_
      refine rm_get 20 K hw (by decide) kf_X8_140 rfl dX8_next_123 ?_
      refine lv_iconst (v := (1 : Int32)) K.1 K.2.1 dX8_next_126 (by decide) ?_
      refine lv_iadd K.1 K.2.1 dX8_next_127 ?_
      refine rm_put 20 K hw (by decide) kf_X8_140 rfl rfl rfl rfl (fsM_20 ad g_50 _) dX8_next_128 (fun g_53 eg_53 H locs hw => ?_)
      have hd := hd g_53 eg_53
      refine lv_goto (tgt := 100) K.1 K.2.1 dX8_next_131 (by decide) ?_
      exact ih  g_53 _ _ _ hd hw (lv_sub hl [0] rfl)
set_option maxHeartbeats 4000000 in
set_option maxRecDepth 100000 in
theorem bb_X8_next_0 {p : Program} {l : Launch} {e : Env} {s : State} {m : MethodId} {args : Array Value} {below : List Frame} {meth : Method} {c : Code} {D : va_G} {cy : Nat → ClassId} {ad : Nat → Nat} {A : Nat → Prop} {Q : Sg → Prop} (K : Kx p s m args meth c cX8_next 3 RX8 D cy) (hr : meth.sig.returnType = none) : ∀ (n : Nat)   (g0 : Sg) (H : Heap) (locs : List Loc) (ls : Array Slot), vv_X8_next_L0 Q n  g0 → Wd D A s.heap (wsM cy ad g0) H locs → lv_has ls 3 [(0, .ref (ad 0))] → W p l e (rmD 1) s m args below meth c H locs 0 0 (MQ below (va_Qv Q (PostG (wsM cy ad) D A) A) args s 0 0 A) (F0 m 0 ls []) := by
  intro n
  induction n with
  | zero => intro _ _ _ _ hd; exact hd.elim
  | succ n ih =>
    intro  g0 H locs ls hd hw hl
    unfold vv_X8_next_L0 at hd
    refine lv_aload_n K.1 K.2.1 dX8_next_0 rfl (lv_at hl 0 rfl) ?_
    refine lv_aload_n K.1 K.2.1 dX8_next_1 rfl (lv_at hl 0 rfl) ?_
    refine rm_get 20 K hw (by decide) kf_X8_140 rfl dX8_next_2 ?_
    refine rk_vi (As := [.int (g0 0 20)]) (rest := []) K hw (cc_X8_byteAt l D cy ad A g0 _ (g0 0 20) hd) lk_X8_143 (ci := 8) rfl (q0 := 0) (wsM_at cy ad _ (by decide)) ⟨Nat.le_of_ble_eq_true rfl, Nat.le_of_ble_eq_true rfl⟩ ⟨Nat.zero_le _, Nat.zero_le _⟩ rfl hl.1 (Nat.le_of_ble_eq_true rfl) rfl dX8_next_5 (fun r_2 g_1 H locs hd hw => ?_)
    refine lv_bipush (v := (32 : Int32)) K.1 K.2.1 dX8_next_8 (by decide) ?_
    refine lv_icmp_eq (tgt := 26) K.1 K.2.1 dX8_next_10 (by decide) (fun h_3 => ?_) (fun h_3 => ?_)
    · have hd := hd.1 h_3
      exact bb_X8_next_26 K hr ih  g_1 _ _ _ hd hw (lv_sub hl [0] rfl)
    · have hd := hd.2 h_3
      refine lv_aload_n K.1 K.2.1 dX8_next_13 rfl (lv_at hl 0 rfl) ?_
      refine lv_aload_n K.1 K.2.1 dX8_next_14 rfl (lv_at hl 0 rfl) ?_
      refine rm_get 20 K hw (by decide) kf_X8_140 rfl dX8_next_15 ?_
      refine rk_vi (As := [.int (g_1 0 20)]) (rest := []) K hw (cc_X8_byteAt l D cy ad A g_1 _ (g_1 0 20) hd) lk_X8_143 (ci := 8) rfl (q0 := 0) (wsM_at cy ad _ (by decide)) ⟨Nat.le_of_ble_eq_true rfl, Nat.le_of_ble_eq_true rfl⟩ ⟨Nat.zero_le _, Nat.zero_le _⟩ rfl hl.1 (Nat.le_of_ble_eq_true rfl) rfl dX8_next_18 (fun r_6 g_5 H locs hd hw => ?_)
      refine lv_bipush (v := (10 : Int32)) K.1 K.2.1 dX8_next_21 (by decide) ?_
      refine lv_icmp_ne (tgt := 39) K.1 K.2.1 dX8_next_23 (by decide) (fun h_7 => ?_) (fun h_7 => ?_)
      · have hd := hd.1 h_7
        refine lv_aload_n K.1 K.2.1 dX8_next_39 rfl (lv_at hl 0 rfl) ?_
        refine lv_aload_n K.1 K.2.1 dX8_next_40 rfl (lv_at hl 0 rfl) ?_
        refine rm_get 20 K hw (by decide) kf_X8_140 rfl dX8_next_41 ?_
        refine rm_put 22 K hw (by decide) kf_X8_146 rfl rfl rfl rfl (fsM_22 ad g_5 _) dX8_next_44 (fun g_8 eg_8 H locs hw => ?_)
        have hd := hd g_8 eg_8
        refine lv_aload_n K.1 K.2.1 dX8_next_47 rfl (lv_at hl 0 rfl) ?_
        refine lv_aload_n K.1 K.2.1 dX8_next_48 rfl (lv_at hl 0 rfl) ?_
        refine rm_get 20 K hw (by decide) kf_X8_140 rfl dX8_next_49 ?_
        refine rk_vi (As := [.int (g_8 0 20)]) (rest := []) K hw (cc_X8_byteAt l D cy ad A g_8 _ (g_8 0 20) hd) lk_X8_143 (ci := 8) rfl (q0 := 0) (wsM_at cy ad _ (by decide)) ⟨Nat.le_of_ble_eq_true rfl, Nat.le_of_ble_eq_true rfl⟩ ⟨Nat.zero_le _, Nat.zero_le _⟩ rfl hl.1 (Nat.le_of_ble_eq_true rfl) rfl dX8_next_52 (fun r_10 g_9 H locs hd hw => ?_)
        refine lv_topi (fun x1_11 ex1_11 => ?_)
        have hd := hd x1_11 ex1_11
        refine lv_istore_n (lv' := [(1, .int x1_11), (0, .ref (ad 0))]) K.1 K.2.1 dX8_next_55 rfl hl (by decide) rfl (fun ls hl => ?_)
        refine lv_aload_n K.1 K.2.1 dX8_next_56 rfl (lv_at hl 1 rfl) ?_
        refine lv_iconst (v := (4 : Int32)) K.1 K.2.1 dX8_next_57 (by decide) ?_
        refine rm_put 21 K hw (by decide) kf_X8_149 rfl rfl rfl rfl (fsM_21 ad g_9 _) dX8_next_58 (fun g_12 eg_12 H locs hw => ?_)
        have hd := hd g_12 eg_12
        refine lv_iload_n K.1 K.2.1 dX8_next_61 rfl (lv_at hl 0 rfl) ?_
        refine lv_if_ge (tgt := 81) K.1 K.2.1 dX8_next_62 (by decide) (fun h_13 => ?_) (fun h_13 => ?_)
        · have hd := hd.1 h_13
          refine lv_iload_n K.1 K.2.1 dX8_next_81 rfl (lv_at hl 0 rfl) ?_
          refine lv_i2l (v := x1_11.toInt64) K.1 K.2.1 dX8_next_82 rfl ?_
          refine lv_ldc2 K.1 K.2.1 K.2.2.2.1 (K.2.2.2.2.1 _ kl_X8_152) dX8_next_83 ?_
          refine lv_ldc2 K.1 K.2.1 K.2.2.2.1 (K.2.2.2.2.1 _ kl_X8_154) dX8_next_86 ?_
          refine rk_si (As := [.long x1_11.toInt64, .long (97 : Int64), .long (122 : Int64)]) (rest := []) K hw (cc_X8_in l D cy ad A g_12 _ (x1_11.toInt64) (97 : Int64) (122 : Int64) hd) lk_X8_67 ⟨Nat.le_of_ble_eq_true rfl, Nat.le_of_ble_eq_true rfl⟩ ⟨Nat.zero_le _, Nat.zero_le _⟩ rfl hl.1 (Nat.le_of_ble_eq_true rfl) rfl dX8_next_89 (fun r_15 g_14 H locs hd hw => ?_)
          refine lv_if_eq (tgt := 134) K.1 K.2.1 dX8_next_92 (by decide) (fun h_16 => ?_) (fun h_16 => ?_)
          · have hd := hd.1 h_16
            refine lv_iload_n K.1 K.2.1 dX8_next_134 rfl (lv_at hl 0 rfl) ?_
            refine lv_i2l (v := x1_11.toInt64) K.1 K.2.1 dX8_next_135 rfl ?_
            refine lv_ldc2 K.1 K.2.1 K.2.2.2.1 (K.2.2.2.2.1 _ kl_X8_156) dX8_next_136 ?_
            refine lv_ldc2 K.1 K.2.1 K.2.2.2.1 (K.2.2.2.2.1 _ kl_X8_158) dX8_next_139 ?_
            refine rk_si (As := [.long x1_11.toInt64, .long (48 : Int64), .long (57 : Int64)]) (rest := []) K hw (cc_X8_in l D cy ad A g_14 _ (x1_11.toInt64) (48 : Int64) (57 : Int64) hd) lk_X8_67 ⟨Nat.le_of_ble_eq_true rfl, Nat.le_of_ble_eq_true rfl⟩ ⟨Nat.zero_le _, Nat.zero_le _⟩ rfl hl.1 (Nat.le_of_ble_eq_true rfl) rfl dX8_next_142 (fun r_18 g_17 H locs hd hw => ?_)
            refine lv_if_eq (tgt := 252) K.1 K.2.1 dX8_next_145 (by decide) (fun h_19 => ?_) (fun h_19 => ?_)
            · have hd := hd.1 h_19
              refine lv_iload_n K.1 K.2.1 dX8_next_252 rfl (lv_at hl 0 rfl) ?_
              refine lv_bipush (v := (40 : Int32)) K.1 K.2.1 dX8_next_253 (by decide) ?_
              refine lv_icmp_eq (tgt := 300) K.1 K.2.1 dX8_next_255 (by decide) (fun h_20 => ?_) (fun h_20 => ?_)
              · have hd := hd.1 h_20
                exact bb_X8_next_300 K hr  x1_11 g_17 _ _ _ hd hw (lv_sub hl [1, 0] rfl)
              · have hd := hd.2 h_20
                refine lv_iload_n K.1 K.2.1 dX8_next_258 rfl (lv_at hl 0 rfl) ?_
                refine lv_bipush (v := (41 : Int32)) K.1 K.2.1 dX8_next_259 (by decide) ?_
                refine lv_icmp_eq (tgt := 300) K.1 K.2.1 dX8_next_261 (by decide) (fun h_24 => ?_) (fun h_24 => ?_)
                · have hd := hd.1 h_24
                  exact bb_X8_next_300 K hr  x1_11 g_17 _ _ _ hd hw (lv_sub hl [1, 0] rfl)
                · have hd := hd.2 h_24
                  refine lv_iload_n K.1 K.2.1 dX8_next_264 rfl (lv_at hl 0 rfl) ?_
                  refine lv_bipush (v := (59 : Int32)) K.1 K.2.1 dX8_next_265 (by decide) ?_
                  refine lv_icmp_eq (tgt := 300) K.1 K.2.1 dX8_next_267 (by decide) (fun h_25 => ?_) (fun h_25 => ?_)
                  · have hd := hd.1 h_25
                    exact bb_X8_next_300 K hr  x1_11 g_17 _ _ _ hd hw (lv_sub hl [1, 0] rfl)
                  · have hd := hd.2 h_25
                    refine lv_iload_n K.1 K.2.1 dX8_next_270 rfl (lv_at hl 0 rfl) ?_
                    refine lv_bipush (v := (43 : Int32)) K.1 K.2.1 dX8_next_271 (by decide) ?_
                    refine lv_icmp_eq (tgt := 300) K.1 K.2.1 dX8_next_273 (by decide) (fun h_26 => ?_) (fun h_26 => ?_)
                    · have hd := hd.1 h_26
                      exact bb_X8_next_300 K hr  x1_11 g_17 _ _ _ hd hw (lv_sub hl [1, 0] rfl)
                    · have hd := hd.2 h_26
                      refine lv_iload_n K.1 K.2.1 dX8_next_276 rfl (lv_at hl 0 rfl) ?_
                      refine lv_bipush (v := (45 : Int32)) K.1 K.2.1 dX8_next_277 (by decide) ?_
                      refine lv_icmp_eq (tgt := 300) K.1 K.2.1 dX8_next_279 (by decide) (fun h_27 => ?_) (fun h_27 => ?_)
                      · have hd := hd.1 h_27
                        exact bb_X8_next_300 K hr  x1_11 g_17 _ _ _ hd hw (lv_sub hl [1, 0] rfl)
                      · have hd := hd.2 h_27
                        refine lv_iload_n K.1 K.2.1 dX8_next_282 rfl (lv_at hl 0 rfl) ?_
                        refine lv_bipush (v := (42 : Int32)) K.1 K.2.1 dX8_next_283 (by decide) ?_
                        refine lv_icmp_eq (tgt := 300) K.1 K.2.1 dX8_next_285 (by decide) (fun h_28 => ?_) (fun h_28 => ?_)
                        · have hd := hd.1 h_28
                          exact bb_X8_next_300 K hr  x1_11 g_17 _ _ _ hd hw (lv_sub hl [1, 0] rfl)
                        · have hd := hd.2 h_28
                          refine lv_iload_n K.1 K.2.1 dX8_next_288 rfl (lv_at hl 0 rfl) ?_
                          refine lv_bipush (v := (60 : Int32)) K.1 K.2.1 dX8_next_289 (by decide) ?_
                          refine lv_icmp_eq (tgt := 300) K.1 K.2.1 dX8_next_291 (by decide) (fun h_29 => ?_) (fun h_29 => ?_)
                          · have hd := hd.1 h_29
                            exact bb_X8_next_300 K hr  x1_11 g_17 _ _ _ hd hw (lv_sub hl [1, 0] rfl)
                          · have hd := hd.2 h_29
                            refine lv_iload_n K.1 K.2.1 dX8_next_294 rfl (lv_at hl 0 rfl) ?_
                            refine lv_bipush (v := (61 : Int32)) K.1 K.2.1 dX8_next_295 (by decide) ?_
                            refine lv_icmp_ne (tgt := 321) K.1 K.2.1 dX8_next_297 (by decide) (fun h_30 => ?_) (fun h_30 => ?_)
                            · have hd := hd.1 h_30
                              exact rk_vret K hw hr hd dX8_next_321
                            · have hd := hd.2 h_30
                              exact bb_X8_next_300 K hr  x1_11 g_17 _ _ _ hd hw (lv_sub hl [1, 0] rfl)
            · have hd := hd.2 h_19
              refine lv_aload_n K.1 K.2.1 dX8_next_148 rfl (lv_at hl 1 rfl) ?_
              refine lv_iconst (v := (2 : Int32)) K.1 K.2.1 dX8_next_149 (by decide) ?_
              refine rm_put 21 K hw (by decide) kf_X8_149 rfl rfl rfl rfl (fsM_21 ad g_17 _) dX8_next_150 (fun g_31 eg_31 H locs hw => ?_)
              have hd := hd g_31 eg_31
              refine lv_aload_n K.1 K.2.1 dX8_next_153 rfl (lv_at hl 1 rfl) ?_
              refine lv_lconst (v := (0 : Int64)) K.1 K.2.1 dX8_next_154 rfl ?_
              have hb := hd.1
              have hd := hd.2
              refine rm_put 23 (x := (0 : Int64).toInt32) K hw (by decide) kf_X8_160 rfl rfl rfl rfl (by have h9 := fsM_23 ad g_31 (0 : Int64).toInt32; rw [← hb] at h9; exact h9) dX8_next_155 (fun g_32 eg_32 H locs hw => ?_)
              have hd := hd g_32 eg_32
              refine lv_iconst (v := (0 : Int32)) K.1 K.2.1 dX8_next_158 (by decide) ?_
              refine lv_topi (fun x2_33 ex2_33 => ?_)
              have hd := hd x2_33 ex2_33
              refine lv_istore_n (lv' := [(2, .int x2_33), (1, .int x1_11), (0, .ref (ad 0))]) K.1 K.2.1 dX8_next_159 rfl hl (by decide) rfl (fun ls hl => ?_)
              obtain ⟨n9, hd⟩ := hd
              exact bb_X8_next_160 K hr  n9 x2_33 g_32 _ _ _ hd hw (lv_sub hl [2, 0] rfl)
          · have hd := hd.2 h_16
            refine lv_aload_n K.1 K.2.1 dX8_next_95 rfl (lv_at hl 1 rfl) ?_
            refine lv_iconst (v := (1 : Int32)) K.1 K.2.1 dX8_next_96 (by decide) ?_
            refine rm_put 21 K hw (by decide) kf_X8_149 rfl rfl rfl rfl (fsM_21 ad g_14 _) dX8_next_97 (fun g_47 eg_47 H locs hw => ?_)
            have hd := hd g_47 eg_47
            obtain ⟨n9, hd⟩ := hd
            exact bb_X8_next_100 K hr  n9  g_47 _ _ _ hd hw (lv_sub hl [1] rfl)
        · have hd := hd.2 h_13
          refine lv_aload_n K.1 K.2.1 dX8_next_65 rfl (lv_at hl 1 rfl) ?_
          refine lv_iconst (v := (0 : Int32)) K.1 K.2.1 dX8_next_66 (by decide) ?_
          refine rm_put 21 K hw (by decide) kf_X8_149 rfl rfl rfl rfl (fsM_21 ad g_12 _) dX8_next_67 (fun g_54 eg_54 H locs hw => ?_)
          have hd := hd g_54 eg_54
          refine lv_aload_n K.1 K.2.1 dX8_next_70 rfl (lv_at hl 1 rfl) ?_
          refine lv_aload_n K.1 K.2.1 dX8_next_71 rfl (lv_at hl 1 rfl) ?_
          refine rm_get 19 K hw (by decide) kf_X8_134 rfl dX8_next_72 ?_
          refine rm_put 22 K hw (by decide) kf_X8_146 rfl rfl rfl rfl (fsM_22 ad g_54 _) dX8_next_75 (fun g_55 eg_55 H locs hw => ?_)
          have hd := hd g_55 eg_55
          refine lv_goto (tgt := 321) K.1 K.2.1 dX8_next_78 (by decide) ?_
          exact rk_vret K hw hr hd dX8_next_321
      · have hd := hd.2 h_7
        exact bb_X8_next_26 K hr ih  g_5 _ _ _ hd hw (lv_sub hl [0] rfl)
set_option maxHeartbeats 4000000 in
set_option maxRecDepth 100000 in
theorem cc_X8_next (l : Launch) (D : va_G) (cy : Nat → ClassId) (ad : Nat → Nat) (A : Nat → Prop) (g0 : Sg) (Q : Sg → Prop)  (hd : vv_X8_next  g0 Q) : Met l yX8_next (Cond.code yX8_next cX8_next 3 none :: TT) (rmD 1) (va_Pc [.ref (ad 0)] (PreG (wsM cy ad) D cy A g0)) (va_Qv Q (PostG (wsM cy ad) D A) A) 0 0 A := by
  unfold vv_X8_next at hd
  refine Met.ofW (cc := cX8_next) (maxL := 3) (ret := none) (by decide) rfl ?_
  intro p e s m args below meth c s₁ B hml hv
  obtain ⟨rfl, hP, hK0, hD⟩ := hv
  have K : Kx p s m _ meth c cX8_next 3 RX8 D cy := ⟨B.exec, B.bytes, hml, findClass_of_methodNamed B.named, fun w h => atoms_spec (ws := Cond.code yX8_next cX8_next 3 none :: TT) B.pre w (List.mem_cons_of_mem _ h), hK0, B.notSynchronized⟩
  have hw : Wd D A s.heap (wsM cy ad g0) s.heap [] := ⟨hP, hD, va_S.rf⟩
  have hr := B.returns
  have hl := lv_entry ([.ref (ad 0)]) (n := 3) (Nat.le_of_ble_eq_true rfl)
  rw [lg_entry_eq]
  generalize (lg_sl ([.ref (ad 0)]) ++ List.replicate (3 - (lg_sl ([.ref (ad 0)])).length) Slot.unset).toArray = ls at hl ⊢
  have hl : lv_has ls 3 [(0, .ref (ad 0))] := hl
  obtain ⟨n9, hd⟩ := hd
  exact bb_X8_next_0 K hr  n9  g0 _ _ _ hd hw (lv_sub hl [0] rfl)
theorem dX8_isLetter_0 : decode cX8_isLetter 0 = .ok (.aload_n 0, 1) := by decide +kernel
theorem dX8_isLetter_1 : decode cX8_isLetter 1 = .ok (.getfield 146, 3) := by decide +kernel
theorem dX8_isLetter_4 : decode cX8_isLetter 4 = .ok (.iload_n 1, 1) := by decide +kernel
theorem dX8_isLetter_5 : decode cX8_isLetter 5 = .ok (.iadd, 1) := by decide +kernel
theorem dX8_isLetter_6 : decode cX8_isLetter 6 = .ok (.aload_n 0, 1) := by decide +kernel
theorem dX8_isLetter_7 : decode cX8_isLetter 7 = .ok (.getfield 140, 3) := by decide +kernel
theorem dX8_isLetter_10 : decode cX8_isLetter 10 = .ok (.if_icmp .ge 25, 3) := by decide +kernel
theorem dX8_isLetter_13 : decode cX8_isLetter 13 = .ok (.aload_n 0, 1) := by decide +kernel
theorem dX8_isLetter_14 : decode cX8_isLetter 14 = .ok (.aload_n 0, 1) := by decide +kernel
theorem dX8_isLetter_15 : decode cX8_isLetter 15 = .ok (.getfield 146, 3) := by decide +kernel
theorem dX8_isLetter_18 : decode cX8_isLetter 18 = .ok (.iload_n 1, 1) := by decide +kernel
theorem dX8_isLetter_19 : decode cX8_isLetter 19 = .ok (.iadd, 1) := by decide +kernel
theorem dX8_isLetter_20 : decode cX8_isLetter 20 = .ok (.invokevirtual 143, 3) := by decide +kernel
theorem dX8_isLetter_23 : decode cX8_isLetter 23 = .ok (.iload_n 2, 1) := by decide +kernel
theorem dX8_isLetter_24 : decode cX8_isLetter 24 = .ok (.if_icmp .ne 7, 3) := by decide +kernel
theorem dX8_isLetter_27 : decode cX8_isLetter 27 = .ok (.iconst 1, 1) := by decide +kernel
theorem dX8_isLetter_28 : decode cX8_isLetter 28 = .ok (.goto 16, 3) := by decide +kernel
theorem dX8_isLetter_31 : decode cX8_isLetter 31 = .ok (.iconst 0, 1) := by decide +kernel
theorem dX8_isLetter_32 : decode cX8_isLetter 32 = .ok (.goto 12, 3) := by decide +kernel
theorem dX8_isLetter_35 : decode cX8_isLetter 35 = .ok (.iload_n 2, 1) := by decide +kernel
theorem dX8_isLetter_36 : decode cX8_isLetter 36 = .ok (.ifCond .ne 7, 3) := by decide +kernel
theorem dX8_isLetter_39 : decode cX8_isLetter 39 = .ok (.iconst 1, 1) := by decide +kernel
theorem dX8_isLetter_40 : decode cX8_isLetter 40 = .ok (.goto 4, 3) := by decide +kernel
theorem dX8_isLetter_43 : decode cX8_isLetter 43 = .ok (.iconst 0, 1) := by decide +kernel
theorem dX8_isLetter_44 : decode cX8_isLetter 44 = .ok (.ireturn, 1) := by decide +kernel
set_option maxHeartbeats 4000000 in
set_option maxRecDepth 100000 in
theorem cc_X8_isLetter (l : Launch) (D : va_G) (cy : Nat → ClassId) (ad : Nat → Nat) (A : Nat → Prop) (g0 : Sg) (Q : Int32 → Sg → Prop) (x1 : Int32) (x2 : Int32) (hd : vv_X8_isLetter x1 x2 g0 Q) : Met l yX8_isLetter (Cond.code yX8_isLetter cX8_isLetter 3 (some .boolean) :: TT) (rmD 1) (va_Pc [.ref (ad 0), .int x1, .int x2] (PreG (wsM cy ad) D cy A g0)) (va_Qi Q (PostG (wsM cy ad) D A) A) 0 0 A := by
  unfold vv_X8_isLetter at hd
  refine Met.ofW (cc := cX8_isLetter) (maxL := 3) (ret := (some .boolean)) (by decide) rfl ?_
  intro p e s m args below meth c s₁ B hml hv
  obtain ⟨rfl, hP, hK0, hD⟩ := hv
  have K : Kx p s m _ meth c cX8_isLetter 3 RX8 D cy := ⟨B.exec, B.bytes, hml, findClass_of_methodNamed B.named, fun w h => atoms_spec (ws := Cond.code yX8_isLetter cX8_isLetter 3 (some .boolean) :: TT) B.pre w (List.mem_cons_of_mem _ h), hK0, B.notSynchronized⟩
  have hw : Wd D A s.heap (wsM cy ad g0) s.heap [] := ⟨hP, hD, va_S.rf⟩
  have hr := B.returns
  have hl := lv_entry ([.ref (ad 0), .int x1, .int x2]) (n := 3) (Nat.le_of_ble_eq_true rfl)
  rw [lg_entry_eq]
  generalize (lg_sl ([.ref (ad 0), .int x1, .int x2]) ++ List.replicate (3 - (lg_sl ([.ref (ad 0), .int x1, .int x2])).length) Slot.unset).toArray = ls at hl ⊢
  have hl : lv_has ls 3 [(0, .ref (ad 0)), (1, .int x1), (2, .int x2)] := hl
  refine lv_aload_n K.1 K.2.1 dX8_isLetter_0 rfl (lv_at hl 0 rfl) ?_
  refine rm_get 22 K hw (by decide) kf_X8_146 rfl dX8_isLetter_1 ?_
  refine lv_iload_n K.1 K.2.1 dX8_isLetter_4 rfl (lv_at hl 1 rfl) ?_
  refine lv_iadd K.1 K.2.1 dX8_isLetter_5 ?_
  refine lv_aload_n K.1 K.2.1 dX8_isLetter_6 rfl (lv_at hl 0 rfl) ?_
  refine rm_get 20 K hw (by decide) kf_X8_140 rfl dX8_isLetter_7 ?_
  refine lv_icmp_ge (tgt := 35) K.1 K.2.1 dX8_isLetter_10 (by decide) (fun h_1 => ?_) (fun h_1 => ?_)
  · have hd := hd.1 h_1
    refine lv_iload_n K.1 K.2.1 dX8_isLetter_35 rfl (lv_at hl 2 rfl) ?_
    refine lv_if_ne (tgt := 43) K.1 K.2.1 dX8_isLetter_36 (by decide) (fun h_2 => ?_) (fun h_2 => ?_)
    · have hd := hd.1 h_2
      refine lv_iconst (v := (0 : Int32)) K.1 K.2.1 dX8_isLetter_43 (by decide) ?_
      exact rk_zret K hw hr (by decide) hd dX8_isLetter_44
    · have hd := hd.2 h_2
      refine lv_iconst (v := (1 : Int32)) K.1 K.2.1 dX8_isLetter_39 (by decide) ?_
      refine lv_goto (tgt := 44) K.1 K.2.1 dX8_isLetter_40 (by decide) ?_
      exact rk_zret K hw hr (by decide) hd dX8_isLetter_44
  · have hd := hd.2 h_1
    refine lv_aload_n K.1 K.2.1 dX8_isLetter_13 rfl (lv_at hl 0 rfl) ?_
    refine lv_aload_n K.1 K.2.1 dX8_isLetter_14 rfl (lv_at hl 0 rfl) ?_
    refine rm_get 22 K hw (by decide) kf_X8_146 rfl dX8_isLetter_15 ?_
    refine lv_iload_n K.1 K.2.1 dX8_isLetter_18 rfl (lv_at hl 1 rfl) ?_
    refine lv_iadd K.1 K.2.1 dX8_isLetter_19 ?_
    refine rk_vi (As := [.int ((g0 0 22) + x1)]) (rest := []) K hw (cc_X8_byteAt l D cy ad A g0 _ ((g0 0 22) + x1) hd) lk_X8_143 (ci := 8) rfl (q0 := 0) (wsM_at cy ad _ (by decide)) ⟨Nat.le_of_ble_eq_true rfl, Nat.le_of_ble_eq_true rfl⟩ ⟨Nat.zero_le _, Nat.zero_le _⟩ rfl hl.1 (Nat.le_of_ble_eq_true rfl) rfl dX8_isLetter_20 (fun r_4 g_3 H locs hd hw => ?_)
    refine lv_iload_n K.1 K.2.1 dX8_isLetter_23 rfl (lv_at hl 2 rfl) ?_
    refine lv_icmp_ne (tgt := 31) K.1 K.2.1 dX8_isLetter_24 (by decide) (fun h_5 => ?_) (fun h_5 => ?_)
    · have hd := hd.1 h_5
      refine lv_iconst (v := (0 : Int32)) K.1 K.2.1 dX8_isLetter_31 (by decide) ?_
      refine lv_goto (tgt := 44) K.1 K.2.1 dX8_isLetter_32 (by decide) ?_
      exact rk_zret K hw hr (by decide) hd dX8_isLetter_44
    · have hd := hd.2 h_5
      refine lv_iconst (v := (1 : Int32)) K.1 K.2.1 dX8_isLetter_27 (by decide) ?_
      refine lv_goto (tgt := 44) K.1 K.2.1 dX8_isLetter_28 (by decide) ?_
      exact rk_zret K hw hr (by decide) hd dX8_isLetter_44
theorem dX8_isWord_0 : decode cX8_isWord 0 = .ok (.aload_n 0, 1) := by decide +kernel
theorem dX8_isWord_1 : decode cX8_isWord 1 = .ok (.getfield 164, 3) := by decide +kernel
theorem dX8_isWord_4 : decode cX8_isWord 4 = .ok (.ifCond .ne 108, 3) := by decide +kernel
theorem dX8_isWord_7 : decode cX8_isWord 7 = .ok (.aload_n 0, 1) := by decide +kernel
theorem dX8_isWord_8 : decode cX8_isWord 8 = .ok (.getfield 149, 3) := by decide +kernel
theorem dX8_isWord_11 : decode cX8_isWord 11 = .ok (.iconst 1, 1) := by decide +kernel
theorem dX8_isWord_12 : decode cX8_isWord 12 = .ok (.if_icmp .ne 100, 3) := by decide +kernel
theorem dX8_isWord_15 : decode cX8_isWord 15 = .ok (.aload_n 0, 1) := by decide +kernel
theorem dX8_isWord_16 : decode cX8_isWord 16 = .ok (.getfield 140, 3) := by decide +kernel
theorem dX8_isWord_19 : decode cX8_isWord 19 = .ok (.aload_n 0, 1) := by decide +kernel
theorem dX8_isWord_20 : decode cX8_isWord 20 = .ok (.getfield 146, 3) := by decide +kernel
theorem dX8_isWord_23 : decode cX8_isWord 23 = .ok (.bipush 8, 2) := by decide +kernel
theorem dX8_isWord_25 : decode cX8_isWord 25 = .ok (.iadd, 1) := by decide +kernel
theorem dX8_isWord_26 : decode cX8_isWord 26 = .ok (.if_icmp .gt 86, 3) := by decide +kernel
theorem dX8_isWord_29 : decode cX8_isWord 29 = .ok (.aload_n 0, 1) := by decide +kernel
theorem dX8_isWord_30 : decode cX8_isWord 30 = .ok (.iconst 0, 1) := by decide +kernel
theorem dX8_isWord_31 : decode cX8_isWord 31 = .ok (.iload_n 1, 1) := by decide +kernel
theorem dX8_isWord_32 : decode cX8_isWord 32 = .ok (.invokevirtual 171, 3) := by decide +kernel
theorem dX8_isWord_35 : decode cX8_isWord 35 = .ok (.ifCond .eq 77, 3) := by decide +kernel
theorem dX8_isWord_38 : decode cX8_isWord 38 = .ok (.aload_n 0, 1) := by decide +kernel
theorem dX8_isWord_39 : decode cX8_isWord 39 = .ok (.iconst 1, 1) := by decide +kernel
theorem dX8_isWord_40 : decode cX8_isWord 40 = .ok (.iload_n 2, 1) := by decide +kernel
theorem dX8_isWord_41 : decode cX8_isWord 41 = .ok (.invokevirtual 171, 3) := by decide +kernel
theorem dX8_isWord_44 : decode cX8_isWord 44 = .ok (.ifCond .eq 68, 3) := by decide +kernel
theorem dX8_isWord_47 : decode cX8_isWord 47 = .ok (.aload_n 0, 1) := by decide +kernel
theorem dX8_isWord_48 : decode cX8_isWord 48 = .ok (.iconst 2, 1) := by decide +kernel
theorem dX8_isWord_49 : decode cX8_isWord 49 = .ok (.iload_n 3, 1) := by decide +kernel
theorem dX8_isWord_50 : decode cX8_isWord 50 = .ok (.invokevirtual 171, 3) := by decide +kernel
theorem dX8_isWord_53 : decode cX8_isWord 53 = .ok (.ifCond .eq 59, 3) := by decide +kernel
theorem dX8_isWord_56 : decode cX8_isWord 56 = .ok (.aload_n 0, 1) := by decide +kernel
theorem dX8_isWord_57 : decode cX8_isWord 57 = .ok (.iconst 3, 1) := by decide +kernel
theorem dX8_isWord_58 : decode cX8_isWord 58 = .ok (.iload 4, 2) := by decide +kernel
theorem dX8_isWord_60 : decode cX8_isWord 60 = .ok (.invokevirtual 171, 3) := by decide +kernel
theorem dX8_isWord_63 : decode cX8_isWord 63 = .ok (.ifCond .eq 49, 3) := by decide +kernel
theorem dX8_isWord_66 : decode cX8_isWord 66 = .ok (.aload_n 0, 1) := by decide +kernel
theorem dX8_isWord_67 : decode cX8_isWord 67 = .ok (.iconst 4, 1) := by decide +kernel
theorem dX8_isWord_68 : decode cX8_isWord 68 = .ok (.iload 5, 2) := by decide +kernel
theorem dX8_isWord_70 : decode cX8_isWord 70 = .ok (.invokevirtual 171, 3) := by decide +kernel
theorem dX8_isWord_73 : decode cX8_isWord 73 = .ok (.ifCond .eq 39, 3) := by decide +kernel
theorem dX8_isWord_76 : decode cX8_isWord 76 = .ok (.aload_n 0, 1) := by decide +kernel
theorem dX8_isWord_77 : decode cX8_isWord 77 = .ok (.iconst 5, 1) := by decide +kernel
theorem dX8_isWord_78 : decode cX8_isWord 78 = .ok (.iload 6, 2) := by decide +kernel
theorem dX8_isWord_80 : decode cX8_isWord 80 = .ok (.invokevirtual 171, 3) := by decide +kernel
theorem dX8_isWord_83 : decode cX8_isWord 83 = .ok (.ifCond .eq 29, 3) := by decide +kernel
theorem dX8_isWord_86 : decode cX8_isWord 86 = .ok (.aload_n 0, 1) := by decide +kernel
theorem dX8_isWord_87 : decode cX8_isWord 87 = .ok (.bipush 6, 2) := by decide +kernel
theorem dX8_isWord_89 : decode cX8_isWord 89 = .ok (.iload 7, 2) := by decide +kernel
theorem dX8_isWord_91 : decode cX8_isWord 91 = .ok (.invokevirtual 171, 3) := by decide +kernel
theorem dX8_isWord_94 : decode cX8_isWord 94 = .ok (.ifCond .eq 18, 3) := by decide +kernel
theorem dX8_isWord_97 : decode cX8_isWord 97 = .ok (.aload_n 0, 1) := by decide +kernel
theorem dX8_isWord_98 : decode cX8_isWord 98 = .ok (.bipush 7, 2) := by decide +kernel
theorem dX8_isWord_100 : decode cX8_isWord 100 = .ok (.iload 8, 2) := by decide +kernel
theorem dX8_isWord_102 : decode cX8_isWord 102 = .ok (.invokevirtual 171, 3) := by decide +kernel
theorem dX8_isWord_105 : decode cX8_isWord 105 = .ok (.ifCond .eq 7, 3) := by decide +kernel
theorem dX8_isWord_108 : decode cX8_isWord 108 = .ok (.iconst 1, 1) := by decide +kernel
theorem dX8_isWord_109 : decode cX8_isWord 109 = .ok (.goto 4, 3) := by decide +kernel
theorem dX8_isWord_112 : decode cX8_isWord 112 = .ok (.iconst 0, 1) := by decide +kernel
theorem dX8_isWord_113 : decode cX8_isWord 113 = .ok (.ireturn, 1) := by decide +kernel
set_option maxHeartbeats 4000000 in
set_option maxRecDepth 100000 in
theorem cc_X8_isWord (l : Launch) (D : va_G) (cy : Nat → ClassId) (ad : Nat → Nat) (A : Nat → Prop) (g0 : Sg) (Q : Int32 → Sg → Prop) (x1 : Int32) (x2 : Int32) (x3 : Int32) (x4 : Int32) (x5 : Int32) (x6 : Int32) (x7 : Int32) (x8 : Int32) (hd : vv_X8_isWord x1 x2 x3 x4 x5 x6 x7 x8 g0 Q) : Met l yX8_isWord (Cond.code yX8_isWord cX8_isWord 9 (some .boolean) :: TT) (rmD 2) (va_Pc [.ref (ad 0), .int x1, .int x2, .int x3, .int x4, .int x5, .int x6, .int x7, .int x8] (PreG (wsM cy ad) D cy A g0)) (va_Qi Q (PostG (wsM cy ad) D A) A) 0 0 A := by
  unfold vv_X8_isWord at hd
  refine Met.ofW (cc := cX8_isWord) (maxL := 9) (ret := (some .boolean)) (by decide) rfl ?_
  intro p e s m args below meth c s₁ B hml hv
  obtain ⟨rfl, hP, hK0, hD⟩ := hv
  have K : Kx p s m _ meth c cX8_isWord 9 RX8 D cy := ⟨B.exec, B.bytes, hml, findClass_of_methodNamed B.named, fun w h => atoms_spec (ws := Cond.code yX8_isWord cX8_isWord 9 (some .boolean) :: TT) B.pre w (List.mem_cons_of_mem _ h), hK0, B.notSynchronized⟩
  have hw : Wd D A s.heap (wsM cy ad g0) s.heap [] := ⟨hP, hD, va_S.rf⟩
  have hr := B.returns
  have hl := lv_entry ([.ref (ad 0), .int x1, .int x2, .int x3, .int x4, .int x5, .int x6, .int x7, .int x8]) (n := 9) (Nat.le_of_ble_eq_true rfl)
  rw [lg_entry_eq]
  generalize (lg_sl ([.ref (ad 0), .int x1, .int x2, .int x3, .int x4, .int x5, .int x6, .int x7, .int x8]) ++ List.replicate (9 - (lg_sl ([.ref (ad 0), .int x1, .int x2, .int x3, .int x4, .int x5, .int x6, .int x7, .int x8])).length) Slot.unset).toArray = ls at hl ⊢
  have hl : lv_has ls 9 [(0, .ref (ad 0)), (1, .int x1), (2, .int x2), (3, .int x3), (4, .int x4), (5, .int x5), (6, .int x6), (7, .int x7), (8, .int x8)] := hl
  refine lv_aload_n K.1 K.2.1 dX8_isWord_0 rfl (lv_at hl 0 rfl) ?_
  refine rm_get 25 K hw (by decide) kf_X8_164 rfl dX8_isWord_1 ?_
  refine lv_if_ne (tgt := 112) K.1 K.2.1 dX8_isWord_4 (by decide) (fun h_1 => ?_) (fun h_1 => ?_)
  · have hd := hd.1 h_1
    refine lv_iconst (v := (0 : Int32)) K.1 K.2.1 dX8_isWord_112 (by decide) ?_
    exact rk_zret K hw hr (by decide) hd dX8_isWord_113
  · have hd := hd.2 h_1
    refine lv_aload_n K.1 K.2.1 dX8_isWord_7 rfl (lv_at hl 0 rfl) ?_
    refine rm_get 21 K hw (by decide) kf_X8_149 rfl dX8_isWord_8 ?_
    refine lv_iconst (v := (1 : Int32)) K.1 K.2.1 dX8_isWord_11 (by decide) ?_
    refine lv_icmp_ne (tgt := 112) K.1 K.2.1 dX8_isWord_12 (by decide) (fun h_2 => ?_) (fun h_2 => ?_)
    · have hd := hd.1 h_2
      refine lv_iconst (v := (0 : Int32)) K.1 K.2.1 dX8_isWord_112 (by decide) ?_
      exact rk_zret K hw hr (by decide) hd dX8_isWord_113
    · have hd := hd.2 h_2
      refine lv_aload_n K.1 K.2.1 dX8_isWord_15 rfl (lv_at hl 0 rfl) ?_
      refine rm_get 20 K hw (by decide) kf_X8_140 rfl dX8_isWord_16 ?_
      refine lv_aload_n K.1 K.2.1 dX8_isWord_19 rfl (lv_at hl 0 rfl) ?_
      refine rm_get 22 K hw (by decide) kf_X8_146 rfl dX8_isWord_20 ?_
      refine lv_bipush (v := (8 : Int32)) K.1 K.2.1 dX8_isWord_23 (by decide) ?_
      refine lv_iadd K.1 K.2.1 dX8_isWord_25 ?_
      refine lv_icmp_gt (tgt := 112) K.1 K.2.1 dX8_isWord_26 (by decide) (fun h_3 => ?_) (fun h_3 => ?_)
      · have hd := hd.1 h_3
        refine lv_iconst (v := (0 : Int32)) K.1 K.2.1 dX8_isWord_112 (by decide) ?_
        exact rk_zret K hw hr (by decide) hd dX8_isWord_113
      · have hd := hd.2 h_3
        refine lv_aload_n K.1 K.2.1 dX8_isWord_29 rfl (lv_at hl 0 rfl) ?_
        refine lv_iconst (v := (0 : Int32)) K.1 K.2.1 dX8_isWord_30 (by decide) ?_
        refine lv_iload_n K.1 K.2.1 dX8_isWord_31 rfl (lv_at hl 1 rfl) ?_
        refine rk_vi (As := [.int (0 : Int32), .int x1]) (rest := []) K hw (cc_X8_isLetter l D cy ad A g0 _ (0 : Int32) x1 hd) lk_X8_171 (ci := 8) rfl (q0 := 0) (wsM_at cy ad _ (by decide)) ⟨Nat.le_of_ble_eq_true rfl, Nat.le_of_ble_eq_true rfl⟩ ⟨Nat.zero_le _, Nat.zero_le _⟩ rfl hl.1 (Nat.le_of_ble_eq_true rfl) rfl dX8_isWord_32 (fun r_5 g_4 H locs hd hw => ?_)
        refine lv_if_eq (tgt := 112) K.1 K.2.1 dX8_isWord_35 (by decide) (fun h_6 => ?_) (fun h_6 => ?_)
        · have hd := hd.1 h_6
          refine lv_iconst (v := (0 : Int32)) K.1 K.2.1 dX8_isWord_112 (by decide) ?_
          exact rk_zret K hw hr (by decide) hd dX8_isWord_113
        · have hd := hd.2 h_6
          refine lv_aload_n K.1 K.2.1 dX8_isWord_38 rfl (lv_at hl 0 rfl) ?_
          refine lv_iconst (v := (1 : Int32)) K.1 K.2.1 dX8_isWord_39 (by decide) ?_
          refine lv_iload_n K.1 K.2.1 dX8_isWord_40 rfl (lv_at hl 2 rfl) ?_
          refine rk_vi (As := [.int (1 : Int32), .int x2]) (rest := []) K hw (cc_X8_isLetter l D cy ad A g_4 _ (1 : Int32) x2 hd) lk_X8_171 (ci := 8) rfl (q0 := 0) (wsM_at cy ad _ (by decide)) ⟨Nat.le_of_ble_eq_true rfl, Nat.le_of_ble_eq_true rfl⟩ ⟨Nat.zero_le _, Nat.zero_le _⟩ rfl hl.1 (Nat.le_of_ble_eq_true rfl) rfl dX8_isWord_41 (fun r_8 g_7 H locs hd hw => ?_)
          refine lv_if_eq (tgt := 112) K.1 K.2.1 dX8_isWord_44 (by decide) (fun h_9 => ?_) (fun h_9 => ?_)
          · have hd := hd.1 h_9
            refine lv_iconst (v := (0 : Int32)) K.1 K.2.1 dX8_isWord_112 (by decide) ?_
            exact rk_zret K hw hr (by decide) hd dX8_isWord_113
          · have hd := hd.2 h_9
            refine lv_aload_n K.1 K.2.1 dX8_isWord_47 rfl (lv_at hl 0 rfl) ?_
            refine lv_iconst (v := (2 : Int32)) K.1 K.2.1 dX8_isWord_48 (by decide) ?_
            refine lv_iload_n K.1 K.2.1 dX8_isWord_49 rfl (lv_at hl 3 rfl) ?_
            refine rk_vi (As := [.int (2 : Int32), .int x3]) (rest := []) K hw (cc_X8_isLetter l D cy ad A g_7 _ (2 : Int32) x3 hd) lk_X8_171 (ci := 8) rfl (q0 := 0) (wsM_at cy ad _ (by decide)) ⟨Nat.le_of_ble_eq_true rfl, Nat.le_of_ble_eq_true rfl⟩ ⟨Nat.zero_le _, Nat.zero_le _⟩ rfl hl.1 (Nat.le_of_ble_eq_true rfl) rfl dX8_isWord_50 (fun r_11 g_10 H locs hd hw => ?_)
            refine lv_if_eq (tgt := 112) K.1 K.2.1 dX8_isWord_53 (by decide) (fun h_12 => ?_) (fun h_12 => ?_)
            · have hd := hd.1 h_12
              refine lv_iconst (v := (0 : Int32)) K.1 K.2.1 dX8_isWord_112 (by decide) ?_
              exact rk_zret K hw hr (by decide) hd dX8_isWord_113
            · have hd := hd.2 h_12
              refine lv_aload_n K.1 K.2.1 dX8_isWord_56 rfl (lv_at hl 0 rfl) ?_
              refine lv_iconst (v := (3 : Int32)) K.1 K.2.1 dX8_isWord_57 (by decide) ?_
              refine lv_iload K.1 K.2.1 dX8_isWord_58 (lv_at hl 4 rfl) ?_
              refine rk_vi (As := [.int (3 : Int32), .int x4]) (rest := []) K hw (cc_X8_isLetter l D cy ad A g_10 _ (3 : Int32) x4 hd) lk_X8_171 (ci := 8) rfl (q0 := 0) (wsM_at cy ad _ (by decide)) ⟨Nat.le_of_ble_eq_true rfl, Nat.le_of_ble_eq_true rfl⟩ ⟨Nat.zero_le _, Nat.zero_le _⟩ rfl hl.1 (Nat.le_of_ble_eq_true rfl) rfl dX8_isWord_60 (fun r_14 g_13 H locs hd hw => ?_)
              refine lv_if_eq (tgt := 112) K.1 K.2.1 dX8_isWord_63 (by decide) (fun h_15 => ?_) (fun h_15 => ?_)
              · have hd := hd.1 h_15
                refine lv_iconst (v := (0 : Int32)) K.1 K.2.1 dX8_isWord_112 (by decide) ?_
                exact rk_zret K hw hr (by decide) hd dX8_isWord_113
              · have hd := hd.2 h_15
                refine lv_aload_n K.1 K.2.1 dX8_isWord_66 rfl (lv_at hl 0 rfl) ?_
                refine lv_iconst (v := (4 : Int32)) K.1 K.2.1 dX8_isWord_67 (by decide) ?_
                refine lv_iload K.1 K.2.1 dX8_isWord_68 (lv_at hl 5 rfl) ?_
                refine rk_vi (As := [.int (4 : Int32), .int x5]) (rest := []) K hw (cc_X8_isLetter l D cy ad A g_13 _ (4 : Int32) x5 hd) lk_X8_171 (ci := 8) rfl (q0 := 0) (wsM_at cy ad _ (by decide)) ⟨Nat.le_of_ble_eq_true rfl, Nat.le_of_ble_eq_true rfl⟩ ⟨Nat.zero_le _, Nat.zero_le _⟩ rfl hl.1 (Nat.le_of_ble_eq_true rfl) rfl dX8_isWord_70 (fun r_17 g_16 H locs hd hw => ?_)
                refine lv_if_eq (tgt := 112) K.1 K.2.1 dX8_isWord_73 (by decide) (fun h_18 => ?_) (fun h_18 => ?_)
                · have hd := hd.1 h_18
                  refine lv_iconst (v := (0 : Int32)) K.1 K.2.1 dX8_isWord_112 (by decide) ?_
                  exact rk_zret K hw hr (by decide) hd dX8_isWord_113
                · have hd := hd.2 h_18
                  refine lv_aload_n K.1 K.2.1 dX8_isWord_76 rfl (lv_at hl 0 rfl) ?_
                  refine lv_iconst (v := (5 : Int32)) K.1 K.2.1 dX8_isWord_77 (by decide) ?_
                  refine lv_iload K.1 K.2.1 dX8_isWord_78 (lv_at hl 6 rfl) ?_
                  refine rk_vi (As := [.int (5 : Int32), .int x6]) (rest := []) K hw (cc_X8_isLetter l D cy ad A g_16 _ (5 : Int32) x6 hd) lk_X8_171 (ci := 8) rfl (q0 := 0) (wsM_at cy ad _ (by decide)) ⟨Nat.le_of_ble_eq_true rfl, Nat.le_of_ble_eq_true rfl⟩ ⟨Nat.zero_le _, Nat.zero_le _⟩ rfl hl.1 (Nat.le_of_ble_eq_true rfl) rfl dX8_isWord_80 (fun r_20 g_19 H locs hd hw => ?_)
                  refine lv_if_eq (tgt := 112) K.1 K.2.1 dX8_isWord_83 (by decide) (fun h_21 => ?_) (fun h_21 => ?_)
                  · have hd := hd.1 h_21
                    refine lv_iconst (v := (0 : Int32)) K.1 K.2.1 dX8_isWord_112 (by decide) ?_
                    exact rk_zret K hw hr (by decide) hd dX8_isWord_113
                  · have hd := hd.2 h_21
                    refine lv_aload_n K.1 K.2.1 dX8_isWord_86 rfl (lv_at hl 0 rfl) ?_
                    refine lv_bipush (v := (6 : Int32)) K.1 K.2.1 dX8_isWord_87 (by decide) ?_
                    refine lv_iload K.1 K.2.1 dX8_isWord_89 (lv_at hl 7 rfl) ?_
                    refine rk_vi (As := [.int (6 : Int32), .int x7]) (rest := []) K hw (cc_X8_isLetter l D cy ad A g_19 _ (6 : Int32) x7 hd) lk_X8_171 (ci := 8) rfl (q0 := 0) (wsM_at cy ad _ (by decide)) ⟨Nat.le_of_ble_eq_true rfl, Nat.le_of_ble_eq_true rfl⟩ ⟨Nat.zero_le _, Nat.zero_le _⟩ rfl hl.1 (Nat.le_of_ble_eq_true rfl) rfl dX8_isWord_91 (fun r_23 g_22 H locs hd hw => ?_)
                    refine lv_if_eq (tgt := 112) K.1 K.2.1 dX8_isWord_94 (by decide) (fun h_24 => ?_) (fun h_24 => ?_)
                    · have hd := hd.1 h_24
                      refine lv_iconst (v := (0 : Int32)) K.1 K.2.1 dX8_isWord_112 (by decide) ?_
                      exact rk_zret K hw hr (by decide) hd dX8_isWord_113
                    · have hd := hd.2 h_24
                      refine lv_aload_n K.1 K.2.1 dX8_isWord_97 rfl (lv_at hl 0 rfl) ?_
                      refine lv_bipush (v := (7 : Int32)) K.1 K.2.1 dX8_isWord_98 (by decide) ?_
                      refine lv_iload K.1 K.2.1 dX8_isWord_100 (lv_at hl 8 rfl) ?_
                      refine rk_vi (As := [.int (7 : Int32), .int x8]) (rest := []) K hw (cc_X8_isLetter l D cy ad A g_22 _ (7 : Int32) x8 hd) lk_X8_171 (ci := 8) rfl (q0 := 0) (wsM_at cy ad _ (by decide)) ⟨Nat.le_of_ble_eq_true rfl, Nat.le_of_ble_eq_true rfl⟩ ⟨Nat.zero_le _, Nat.zero_le _⟩ rfl hl.1 (Nat.le_of_ble_eq_true rfl) rfl dX8_isWord_102 (fun r_26 g_25 H locs hd hw => ?_)
                      refine lv_if_eq (tgt := 112) K.1 K.2.1 dX8_isWord_105 (by decide) (fun h_27 => ?_) (fun h_27 => ?_)
                      · have hd := hd.1 h_27
                        refine lv_iconst (v := (0 : Int32)) K.1 K.2.1 dX8_isWord_112 (by decide) ?_
                        exact rk_zret K hw hr (by decide) hd dX8_isWord_113
                      · have hd := hd.2 h_27
                        refine lv_iconst (v := (1 : Int32)) K.1 K.2.1 dX8_isWord_108 (by decide) ?_
                        refine lv_goto (tgt := 113) K.1 K.2.1 dX8_isWord_109 (by decide) ?_
                        exact rk_zret K hw hr (by decide) hd dX8_isWord_113
theorem dX8_fail_0 : decode cX8_fail 0 = .ok (.aload_n 0, 1) := by decide +kernel
theorem dX8_fail_1 : decode cX8_fail 1 = .ok (.getfield 164, 3) := by decide +kernel
theorem dX8_fail_4 : decode cX8_fail 4 = .ok (.ifCond .ne 16, 3) := by decide +kernel
theorem dX8_fail_7 : decode cX8_fail 7 = .ok (.aload_n 0, 1) := by decide +kernel
theorem dX8_fail_8 : decode cX8_fail 8 = .ok (.iconst 1, 1) := by decide +kernel
theorem dX8_fail_9 : decode cX8_fail 9 = .ok (.putfield 164, 3) := by decide +kernel
theorem dX8_fail_12 : decode cX8_fail 12 = .ok (.aload_n 0, 1) := by decide +kernel
theorem dX8_fail_13 : decode cX8_fail 13 = .ok (.aload_n 0, 1) := by decide +kernel
theorem dX8_fail_14 : decode cX8_fail 14 = .ok (.getfield 146, 3) := by decide +kernel
theorem dX8_fail_17 : decode cX8_fail 17 = .ok (.putfield 168, 3) := by decide +kernel
theorem dX8_fail_20 : decode cX8_fail 20 = .ok (.return_, 1) := by decide +kernel
set_option maxHeartbeats 4000000 in
set_option maxRecDepth 100000 in
theorem cc_X8_fail (l : Launch) (D : va_G) (cy : Nat → ClassId) (ad : Nat → Nat) (A : Nat → Prop) (g0 : Sg) (Q : Sg → Prop)  (hd : vv_X8_fail  g0 Q) : Met l yX8_fail (Cond.code yX8_fail cX8_fail 1 none :: TT) (rmD 0) (va_Pc [.ref (ad 0)] (PreG (wsM cy ad) D cy A g0)) (va_Qv Q (PostG (wsM cy ad) D A) A) 0 0 A := by
  unfold vv_X8_fail at hd
  refine Met.ofW (cc := cX8_fail) (maxL := 1) (ret := none) (by decide) rfl ?_
  intro p e s m args below meth c s₁ B hml hv
  obtain ⟨rfl, hP, hK0, hD⟩ := hv
  have K : Kx p s m _ meth c cX8_fail 1 RX8 D cy := ⟨B.exec, B.bytes, hml, findClass_of_methodNamed B.named, fun w h => atoms_spec (ws := Cond.code yX8_fail cX8_fail 1 none :: TT) B.pre w (List.mem_cons_of_mem _ h), hK0, B.notSynchronized⟩
  have hw : Wd D A s.heap (wsM cy ad g0) s.heap [] := ⟨hP, hD, va_S.rf⟩
  have hr := B.returns
  have hl := lv_entry ([.ref (ad 0)]) (n := 1) (Nat.le_of_ble_eq_true rfl)
  rw [lg_entry_eq]
  generalize (lg_sl ([.ref (ad 0)]) ++ List.replicate (1 - (lg_sl ([.ref (ad 0)])).length) Slot.unset).toArray = ls at hl ⊢
  have hl : lv_has ls 1 [(0, .ref (ad 0))] := hl
  refine lv_aload_n K.1 K.2.1 dX8_fail_0 rfl (lv_at hl 0 rfl) ?_
  refine rm_get 25 K hw (by decide) kf_X8_164 rfl dX8_fail_1 ?_
  refine lv_if_ne (tgt := 20) K.1 K.2.1 dX8_fail_4 (by decide) (fun h_1 => ?_) (fun h_1 => ?_)
  · have hd := hd.1 h_1
    exact rk_vret K hw hr hd dX8_fail_20
  · have hd := hd.2 h_1
    refine lv_aload_n K.1 K.2.1 dX8_fail_7 rfl (lv_at hl 0 rfl) ?_
    refine lv_iconst (v := (1 : Int32)) K.1 K.2.1 dX8_fail_8 (by decide) ?_
    refine rm_put 25 K hw (by decide) kf_X8_164 rfl rfl rfl rfl (fsM_25 ad g0 _) dX8_fail_9 (fun g_2 eg_2 H locs hw => ?_)
    have hd := hd g_2 eg_2
    refine lv_aload_n K.1 K.2.1 dX8_fail_12 rfl (lv_at hl 0 rfl) ?_
    refine lv_aload_n K.1 K.2.1 dX8_fail_13 rfl (lv_at hl 0 rfl) ?_
    refine rm_get 22 K hw (by decide) kf_X8_146 rfl dX8_fail_14 ?_
    refine rm_put 26 K hw (by decide) kf_X8_168 rfl rfl rfl rfl (fsM_26 ad g_2 _) dX8_fail_17 (fun g_3 eg_3 H locs hw => ?_)
    have hd := hd g_3 eg_3
    exact rk_vret K hw hr hd dX8_fail_20
theorem dX8_opens_0 : decode cX8_opens 0 = .ok (.aload_n 0, 1) := by decide +kernel
theorem dX8_opens_1 : decode cX8_opens 1 = .ok (.getfield 175, 3) := by decide +kernel
theorem dX8_opens_4 : decode cX8_opens 4 = .ok (.iconst 5, 1) := by decide +kernel
theorem dX8_opens_5 : decode cX8_opens 5 = .ok (.if_icmp .ne 9, 3) := by decide +kernel
theorem dX8_opens_8 : decode cX8_opens 8 = .ok (.aload_n 0, 1) := by decide +kernel
theorem dX8_opens_9 : decode cX8_opens 9 = .ok (.invokevirtual 178, 3) := by decide +kernel
theorem dX8_opens_12 : decode cX8_opens 12 = .ok (.iconst 0, 1) := by decide +kernel
theorem dX8_opens_13 : decode cX8_opens 13 = .ok (.ireturn, 1) := by decide +kernel
theorem dX8_opens_14 : decode cX8_opens 14 = .ok (.aload_n 0, 1) := by decide +kernel
theorem dX8_opens_15 : decode cX8_opens 15 = .ok (.dup, 1) := by decide +kernel
theorem dX8_opens_16 : decode cX8_opens 16 = .ok (.getfield 175, 3) := by decide +kernel
theorem dX8_opens_19 : decode cX8_opens 19 = .ok (.iconst 1, 1) := by decide +kernel
theorem dX8_opens_20 : decode cX8_opens 20 = .ok (.iadd, 1) := by decide +kernel
theorem dX8_opens_21 : decode cX8_opens 21 = .ok (.putfield 175, 3) := by decide +kernel
theorem dX8_opens_24 : decode cX8_opens 24 = .ok (.aload_n 0, 1) := by decide +kernel
theorem dX8_opens_25 : decode cX8_opens 25 = .ok (.invokevirtual 181, 3) := by decide +kernel
theorem dX8_opens_28 : decode cX8_opens 28 = .ok (.iconst 1, 1) := by decide +kernel
theorem dX8_opens_29 : decode cX8_opens 29 = .ok (.ireturn, 1) := by decide +kernel
set_option maxHeartbeats 4000000 in
set_option maxRecDepth 100000 in
theorem cc_X8_opens (l : Launch) (D : va_G) (cy : Nat → ClassId) (ad : Nat → Nat) (A : Nat → Prop) (g0 : Sg) (Q : Int32 → Sg → Prop)  (hd : vv_X8_opens  g0 Q) : Met l yX8_opens (Cond.code yX8_opens cX8_opens 1 (some .boolean) :: TT) (rmD 2) (va_Pc [.ref (ad 0)] (PreG (wsM cy ad) D cy A g0)) (va_Qi Q (PostG (wsM cy ad) D A) A) 0 0 A := by
  unfold vv_X8_opens at hd
  refine Met.ofW (cc := cX8_opens) (maxL := 1) (ret := (some .boolean)) (by decide) rfl ?_
  intro p e s m args below meth c s₁ B hml hv
  obtain ⟨rfl, hP, hK0, hD⟩ := hv
  have K : Kx p s m _ meth c cX8_opens 1 RX8 D cy := ⟨B.exec, B.bytes, hml, findClass_of_methodNamed B.named, fun w h => atoms_spec (ws := Cond.code yX8_opens cX8_opens 1 (some .boolean) :: TT) B.pre w (List.mem_cons_of_mem _ h), hK0, B.notSynchronized⟩
  have hw : Wd D A s.heap (wsM cy ad g0) s.heap [] := ⟨hP, hD, va_S.rf⟩
  have hr := B.returns
  have hl := lv_entry ([.ref (ad 0)]) (n := 1) (Nat.le_of_ble_eq_true rfl)
  rw [lg_entry_eq]
  generalize (lg_sl ([.ref (ad 0)]) ++ List.replicate (1 - (lg_sl ([.ref (ad 0)])).length) Slot.unset).toArray = ls at hl ⊢
  have hl : lv_has ls 1 [(0, .ref (ad 0))] := hl
  refine lv_aload_n K.1 K.2.1 dX8_opens_0 rfl (lv_at hl 0 rfl) ?_
  refine rm_get 24 K hw (by decide) kf_X8_175 rfl dX8_opens_1 ?_
  refine lv_iconst (v := (5 : Int32)) K.1 K.2.1 dX8_opens_4 (by decide) ?_
  refine lv_icmp_ne (tgt := 14) K.1 K.2.1 dX8_opens_5 (by decide) (fun h_1 => ?_) (fun h_1 => ?_)
  · have hd := hd.1 h_1
    refine lv_aload_n K.1 K.2.1 dX8_opens_14 rfl (lv_at hl 0 rfl) ?_
    refine lv_dup K.1 K.2.1 dX8_opens_15 rfl ?_
    refine rm_get 24 K hw (by decide) kf_X8_175 rfl dX8_opens_16 ?_
    refine lv_iconst (v := (1 : Int32)) K.1 K.2.1 dX8_opens_19 (by decide) ?_
    refine lv_iadd K.1 K.2.1 dX8_opens_20 ?_
    refine rm_put 24 K hw (by decide) kf_X8_175 rfl rfl rfl rfl (fsM_24 ad g0 _) dX8_opens_21 (fun g_2 eg_2 H locs hw => ?_)
    have hd := hd g_2 eg_2
    refine lv_aload_n K.1 K.2.1 dX8_opens_24 rfl (lv_at hl 0 rfl) ?_
    refine rk_vv (As := []) (rest := []) K hw (cc_X8_next l D cy ad A g_2 _  hd) lk_X8_181 (ci := 8) rfl (q0 := 0) (wsM_at cy ad _ (by decide)) ⟨Nat.le_of_ble_eq_true rfl, Nat.le_of_ble_eq_true rfl⟩ ⟨Nat.zero_le _, Nat.zero_le _⟩ rfl hl.1 (Nat.le_of_ble_eq_true rfl) rfl dX8_opens_25 (fun g_3 H locs hd hw => ?_)
    refine lv_iconst (v := (1 : Int32)) K.1 K.2.1 dX8_opens_28 (by decide) ?_
    exact rk_zret K hw hr (by decide) hd dX8_opens_29
  · have hd := hd.2 h_1
    refine lv_aload_n K.1 K.2.1 dX8_opens_8 rfl (lv_at hl 0 rfl) ?_
    refine rk_vv (As := []) (rest := []) K hw (cc_X8_fail l D cy ad A g0 _  hd) lk_X8_178 (ci := 8) rfl (q0 := 0) (wsM_at cy ad _ (by decide)) ⟨Nat.le_of_ble_eq_true rfl, Nat.le_of_ble_eq_true rfl⟩ ⟨Nat.zero_le _, Nat.zero_le _⟩ rfl hl.1 (Nat.le_of_ble_eq_true rfl) rfl dX8_opens_9 (fun g_5 H locs hd hw => ?_)
    refine lv_iconst (v := (0 : Int32)) K.1 K.2.1 dX8_opens_12 (by decide) ?_
    exact rk_zret K hw hr (by decide) hd dX8_opens_13
theorem dX8_isSign_0 : decode cX8_isSign 0 = .ok (.aload_n 0, 1) := by decide +kernel
theorem dX8_isSign_1 : decode cX8_isSign 1 = .ok (.getfield 164, 3) := by decide +kernel
theorem dX8_isSign_4 : decode cX8_isSign 4 = .ok (.ifCond .ne 25, 3) := by decide +kernel
theorem dX8_isSign_7 : decode cX8_isSign 7 = .ok (.aload_n 0, 1) := by decide +kernel
theorem dX8_isSign_8 : decode cX8_isSign 8 = .ok (.getfield 149, 3) := by decide +kernel
theorem dX8_isSign_11 : decode cX8_isSign 11 = .ok (.iconst 3, 1) := by decide +kernel
theorem dX8_isSign_12 : decode cX8_isSign 12 = .ok (.if_icmp .ne 17, 3) := by decide +kernel
theorem dX8_isSign_15 : decode cX8_isSign 15 = .ok (.aload_n 0, 1) := by decide +kernel
theorem dX8_isSign_16 : decode cX8_isSign 16 = .ok (.getfield 160, 3) := by decide +kernel
theorem dX8_isSign_19 : decode cX8_isSign 19 = .ok (.iload_n 1, 1) := by decide +kernel
theorem dX8_isSign_20 : decode cX8_isSign 20 = .ok (.i2l, 1) := by decide +kernel
theorem dX8_isSign_21 : decode cX8_isSign 21 = .ok (.lcmp, 1) := by decide +kernel
theorem dX8_isSign_22 : decode cX8_isSign 22 = .ok (.ifCond .ne 7, 3) := by decide +kernel
theorem dX8_isSign_25 : decode cX8_isSign 25 = .ok (.iconst 1, 1) := by decide +kernel
theorem dX8_isSign_26 : decode cX8_isSign 26 = .ok (.goto 4, 3) := by decide +kernel
theorem dX8_isSign_29 : decode cX8_isSign 29 = .ok (.iconst 0, 1) := by decide +kernel
theorem dX8_isSign_30 : decode cX8_isSign 30 = .ok (.ireturn, 1) := by decide +kernel
set_option maxHeartbeats 4000000 in
set_option maxRecDepth 100000 in
theorem cc_X8_isSign (l : Launch) (D : va_G) (cy : Nat → ClassId) (ad : Nat → Nat) (A : Nat → Prop) (g0 : Sg) (Q : Int32 → Sg → Prop) (x1 : Int32) (hd : vv_X8_isSign x1 g0 Q) : Met l yX8_isSign (Cond.code yX8_isSign cX8_isSign 2 (some .boolean) :: TT) (rmD 0) (va_Pc [.ref (ad 0), .int x1] (PreG (wsM cy ad) D cy A g0)) (va_Qi Q (PostG (wsM cy ad) D A) A) 0 0 A := by
  unfold vv_X8_isSign at hd
  refine Met.ofW (cc := cX8_isSign) (maxL := 2) (ret := (some .boolean)) (by decide) rfl ?_
  intro p e s m args below meth c s₁ B hml hv
  obtain ⟨rfl, hP, hK0, hD⟩ := hv
  have K : Kx p s m _ meth c cX8_isSign 2 RX8 D cy := ⟨B.exec, B.bytes, hml, findClass_of_methodNamed B.named, fun w h => atoms_spec (ws := Cond.code yX8_isSign cX8_isSign 2 (some .boolean) :: TT) B.pre w (List.mem_cons_of_mem _ h), hK0, B.notSynchronized⟩
  have hw : Wd D A s.heap (wsM cy ad g0) s.heap [] := ⟨hP, hD, va_S.rf⟩
  have hr := B.returns
  have hl := lv_entry ([.ref (ad 0), .int x1]) (n := 2) (Nat.le_of_ble_eq_true rfl)
  rw [lg_entry_eq]
  generalize (lg_sl ([.ref (ad 0), .int x1]) ++ List.replicate (2 - (lg_sl ([.ref (ad 0), .int x1])).length) Slot.unset).toArray = ls at hl ⊢
  have hl : lv_has ls 2 [(0, .ref (ad 0)), (1, .int x1)] := hl
  refine lv_aload_n K.1 K.2.1 dX8_isSign_0 rfl (lv_at hl 0 rfl) ?_
  refine rm_get 25 K hw (by decide) kf_X8_164 rfl dX8_isSign_1 ?_
  refine lv_if_ne (tgt := 29) K.1 K.2.1 dX8_isSign_4 (by decide) (fun h_1 => ?_) (fun h_1 => ?_)
  · have hd := hd.1 h_1
    refine lv_iconst (v := (0 : Int32)) K.1 K.2.1 dX8_isSign_29 (by decide) ?_
    exact rk_zret K hw hr (by decide) hd dX8_isSign_30
  · have hd := hd.2 h_1
    refine lv_aload_n K.1 K.2.1 dX8_isSign_7 rfl (lv_at hl 0 rfl) ?_
    refine rm_get 21 K hw (by decide) kf_X8_149 rfl dX8_isSign_8 ?_
    refine lv_iconst (v := (3 : Int32)) K.1 K.2.1 dX8_isSign_11 (by decide) ?_
    refine lv_icmp_ne (tgt := 29) K.1 K.2.1 dX8_isSign_12 (by decide) (fun h_2 => ?_) (fun h_2 => ?_)
    · have hd := hd.1 h_2
      refine lv_iconst (v := (0 : Int32)) K.1 K.2.1 dX8_isSign_29 (by decide) ?_
      exact rk_zret K hw hr (by decide) hd dX8_isSign_30
    · have hd := hd.2 h_2
      refine lv_aload_n K.1 K.2.1 dX8_isSign_15 rfl (lv_at hl 0 rfl) ?_
      refine rm_get 23 K hw (by decide) kf_X8_160 rfl dX8_isSign_16 ?_
      refine lv_iload_n K.1 K.2.1 dX8_isSign_19 rfl (lv_at hl 1 rfl) ?_
      refine lv_i2l (v := x1.toInt64) K.1 K.2.1 dX8_isSign_20 rfl ?_
      refine W.lcmp K.1 K.2.1 dX8_isSign_21 ?_
      refine lv_if_ne (tgt := 29) K.1 K.2.1 dX8_isSign_22 (by decide) (fun h_3 => ?_) (fun h_3 => ?_)
      · have hd := hd.1 h_3
        refine lv_iconst (v := (0 : Int32)) K.1 K.2.1 dX8_isSign_29 (by decide) ?_
        exact rk_zret K hw hr (by decide) hd dX8_isSign_30
      · have hd := hd.2 h_3
        refine lv_iconst (v := (1 : Int32)) K.1 K.2.1 dX8_isSign_25 (by decide) ?_
        refine lv_goto (tgt := 30) K.1 K.2.1 dX8_isSign_26 (by decide) ?_
        exact rk_zret K hw hr (by decide) hd dX8_isSign_30
theorem dX8_name_0 : decode cX8_name 0 = .ok (.aload_n 0, 1) := by decide +kernel
theorem dX8_name_1 : decode cX8_name 1 = .ok (.bipush 99, 2) := by decide +kernel
theorem dX8_name_3 : decode cX8_name 3 = .ok (.bipush 114, 2) := by decide +kernel
theorem dX8_name_5 : decode cX8_name 5 = .ok (.bipush 117, 2) := by decide +kernel
theorem dX8_name_7 : decode cX8_name 7 = .ok (.bipush 109, 2) := by decide +kernel
theorem dX8_name_9 : decode cX8_name 9 = .ok (.bipush 112, 2) := by decide +kernel
theorem dX8_name_11 : decode cX8_name 11 = .ok (.bipush 108, 2) := by decide +kernel
theorem dX8_name_13 : decode cX8_name 13 = .ok (.bipush 101, 2) := by decide +kernel
theorem dX8_name_15 : decode cX8_name 15 = .ok (.bipush 100, 2) := by decide +kernel
theorem dX8_name_17 : decode cX8_name 17 = .ok (.invokevirtual 184, 3) := by decide +kernel
theorem dX8_name_20 : decode cX8_name 20 = .ok (.ifCond .eq 8, 3) := by decide +kernel
theorem dX8_name_23 : decode cX8_name 23 = .ok (.aload_n 0, 1) := by decide +kernel
theorem dX8_name_24 : decode cX8_name 24 = .ok (.getfield 188, 3) := by decide +kernel
theorem dX8_name_27 : decode cX8_name 27 = .ok (.ireturn, 1) := by decide +kernel
theorem dX8_name_28 : decode cX8_name 28 = .ok (.aload_n 0, 1) := by decide +kernel
theorem dX8_name_29 : decode cX8_name 29 = .ok (.bipush 110, 2) := by decide +kernel
theorem dX8_name_31 : decode cX8_name 31 = .ok (.bipush 117, 2) := by decide +kernel
theorem dX8_name_33 : decode cX8_name 33 = .ok (.bipush 109, 2) := by decide +kernel
theorem dX8_name_35 : decode cX8_name 35 = .ok (.bipush 98, 2) := by decide +kernel
theorem dX8_name_37 : decode cX8_name 37 = .ok (.bipush 101, 2) := by decide +kernel
theorem dX8_name_39 : decode cX8_name 39 = .ok (.bipush 114, 2) := by decide +kernel
theorem dX8_name_41 : decode cX8_name 41 = .ok (.iconst 0, 1) := by decide +kernel
theorem dX8_name_42 : decode cX8_name 42 = .ok (.iconst 0, 1) := by decide +kernel
theorem dX8_name_43 : decode cX8_name 43 = .ok (.invokevirtual 184, 3) := by decide +kernel
theorem dX8_name_46 : decode cX8_name 46 = .ok (.ifCond .eq 8, 3) := by decide +kernel
theorem dX8_name_49 : decode cX8_name 49 = .ok (.aload_n 0, 1) := by decide +kernel
theorem dX8_name_50 : decode cX8_name 50 = .ok (.getfield 191, 3) := by decide +kernel
theorem dX8_name_53 : decode cX8_name 53 = .ok (.ireturn, 1) := by decide +kernel
theorem dX8_name_54 : decode cX8_name 54 = .ok (.aload_n 0, 1) := by decide +kernel
theorem dX8_name_55 : decode cX8_name 55 = .ok (.bipush 116, 2) := by decide +kernel
theorem dX8_name_57 : decode cX8_name 57 = .ok (.bipush 111, 2) := by decide +kernel
theorem dX8_name_59 : decode cX8_name 59 = .ok (.bipush 112, 2) := by decide +kernel
theorem dX8_name_61 : decode cX8_name 61 = .ok (.bipush 105, 2) := by decide +kernel
theorem dX8_name_63 : decode cX8_name 63 = .ok (.bipush 99, 2) := by decide +kernel
theorem dX8_name_65 : decode cX8_name 65 = .ok (.iconst 0, 1) := by decide +kernel
theorem dX8_name_66 : decode cX8_name 66 = .ok (.iconst 0, 1) := by decide +kernel
theorem dX8_name_67 : decode cX8_name 67 = .ok (.iconst 0, 1) := by decide +kernel
theorem dX8_name_68 : decode cX8_name 68 = .ok (.invokevirtual 184, 3) := by decide +kernel
theorem dX8_name_71 : decode cX8_name 71 = .ok (.ifCond .eq 8, 3) := by decide +kernel
theorem dX8_name_74 : decode cX8_name 74 = .ok (.aload_n 0, 1) := by decide +kernel
theorem dX8_name_75 : decode cX8_name 75 = .ok (.getfield 194, 3) := by decide +kernel
theorem dX8_name_78 : decode cX8_name 78 = .ok (.ireturn, 1) := by decide +kernel
theorem dX8_name_79 : decode cX8_name 79 = .ok (.aload_n 0, 1) := by decide +kernel
theorem dX8_name_80 : decode cX8_name 80 = .ok (.bipush 109, 2) := by decide +kernel
theorem dX8_name_82 : decode cX8_name 82 = .ok (.bipush 111, 2) := by decide +kernel
theorem dX8_name_84 : decode cX8_name 84 = .ok (.bipush 111, 2) := by decide +kernel
theorem dX8_name_86 : decode cX8_name 86 = .ok (.bipush 100, 2) := by decide +kernel
theorem dX8_name_88 : decode cX8_name 88 = .ok (.iconst 0, 1) := by decide +kernel
theorem dX8_name_89 : decode cX8_name 89 = .ok (.iconst 0, 1) := by decide +kernel
theorem dX8_name_90 : decode cX8_name 90 = .ok (.iconst 0, 1) := by decide +kernel
theorem dX8_name_91 : decode cX8_name 91 = .ok (.iconst 0, 1) := by decide +kernel
theorem dX8_name_92 : decode cX8_name 92 = .ok (.invokevirtual 184, 3) := by decide +kernel
theorem dX8_name_95 : decode cX8_name 95 = .ok (.ifCond .eq 8, 3) := by decide +kernel
theorem dX8_name_98 : decode cX8_name 98 = .ok (.aload_n 0, 1) := by decide +kernel
theorem dX8_name_99 : decode cX8_name 99 = .ok (.getfield 197, 3) := by decide +kernel
theorem dX8_name_102 : decode cX8_name 102 = .ok (.ireturn, 1) := by decide +kernel
theorem dX8_name_103 : decode cX8_name 103 = .ok (.aload_n 0, 1) := by decide +kernel
theorem dX8_name_104 : decode cX8_name 104 = .ok (.bipush 100, 2) := by decide +kernel
theorem dX8_name_106 : decode cX8_name 106 = .ok (.bipush 97, 2) := by decide +kernel
theorem dX8_name_108 : decode cX8_name 108 = .ok (.bipush 121, 2) := by decide +kernel
theorem dX8_name_110 : decode cX8_name 110 = .ok (.iconst 0, 1) := by decide +kernel
theorem dX8_name_111 : decode cX8_name 111 = .ok (.iconst 0, 1) := by decide +kernel
theorem dX8_name_112 : decode cX8_name 112 = .ok (.iconst 0, 1) := by decide +kernel
theorem dX8_name_113 : decode cX8_name 113 = .ok (.iconst 0, 1) := by decide +kernel
theorem dX8_name_114 : decode cX8_name 114 = .ok (.iconst 0, 1) := by decide +kernel
theorem dX8_name_115 : decode cX8_name 115 = .ok (.invokevirtual 184, 3) := by decide +kernel
theorem dX8_name_118 : decode cX8_name 118 = .ok (.ifCond .eq 8, 3) := by decide +kernel
theorem dX8_name_121 : decode cX8_name 121 = .ok (.aload_n 0, 1) := by decide +kernel
theorem dX8_name_122 : decode cX8_name 122 = .ok (.getfield 200, 3) := by decide +kernel
theorem dX8_name_125 : decode cX8_name 125 = .ok (.ireturn, 1) := by decide +kernel
theorem dX8_name_126 : decode cX8_name 126 = .ok (.aload_n 0, 1) := by decide +kernel
theorem dX8_name_127 : decode cX8_name 127 = .ok (.bipush 100, 2) := by decide +kernel
theorem dX8_name_129 : decode cX8_name 129 = .ok (.bipush 101, 2) := by decide +kernel
theorem dX8_name_131 : decode cX8_name 131 = .ok (.bipush 115, 2) := by decide +kernel
theorem dX8_name_133 : decode cX8_name 133 = .ok (.bipush 107, 2) := by decide +kernel
theorem dX8_name_135 : decode cX8_name 135 = .ok (.iconst 0, 1) := by decide +kernel
theorem dX8_name_136 : decode cX8_name 136 = .ok (.iconst 0, 1) := by decide +kernel
theorem dX8_name_137 : decode cX8_name 137 = .ok (.iconst 0, 1) := by decide +kernel
theorem dX8_name_138 : decode cX8_name 138 = .ok (.iconst 0, 1) := by decide +kernel
theorem dX8_name_139 : decode cX8_name 139 = .ok (.invokevirtual 184, 3) := by decide +kernel
theorem dX8_name_142 : decode cX8_name 142 = .ok (.ifCond .eq 8, 3) := by decide +kernel
theorem dX8_name_145 : decode cX8_name 145 = .ok (.aload_n 0, 1) := by decide +kernel
theorem dX8_name_146 : decode cX8_name 146 = .ok (.getfield 203, 3) := by decide +kernel
theorem dX8_name_149 : decode cX8_name 149 = .ok (.ireturn, 1) := by decide +kernel
theorem dX8_name_150 : decode cX8_name 150 = .ok (.aload_n 0, 1) := by decide +kernel
theorem dX8_name_151 : decode cX8_name 151 = .ok (.invokevirtual 178, 3) := by decide +kernel
theorem dX8_name_154 : decode cX8_name 154 = .ok (.iconst 0, 1) := by decide +kernel
theorem dX8_name_155 : decode cX8_name 155 = .ok (.ireturn, 1) := by decide +kernel
set_option maxHeartbeats 4000000 in
set_option maxRecDepth 100000 in
theorem cc_X8_name (l : Launch) (D : va_G) (cy : Nat → ClassId) (ad : Nat → Nat) (A : Nat → Prop) (g0 : Sg) (Q : Int32 → Sg → Prop)  (hd : vv_X8_name  g0 Q) : Met l yX8_name (Cond.code yX8_name cX8_name 1 (some .int) :: TT) (rmD 3) (va_Pc [.ref (ad 0)] (PreG (wsM cy ad) D cy A g0)) (va_Qi Q (PostG (wsM cy ad) D A) A) 0 0 A := by
  unfold vv_X8_name at hd
  refine Met.ofW (cc := cX8_name) (maxL := 1) (ret := (some .int)) (by decide) rfl ?_
  intro p e s m args below meth c s₁ B hml hv
  obtain ⟨rfl, hP, hK0, hD⟩ := hv
  have K : Kx p s m _ meth c cX8_name 1 RX8 D cy := ⟨B.exec, B.bytes, hml, findClass_of_methodNamed B.named, fun w h => atoms_spec (ws := Cond.code yX8_name cX8_name 1 (some .int) :: TT) B.pre w (List.mem_cons_of_mem _ h), hK0, B.notSynchronized⟩
  have hw : Wd D A s.heap (wsM cy ad g0) s.heap [] := ⟨hP, hD, va_S.rf⟩
  have hr := B.returns
  have hl := lv_entry ([.ref (ad 0)]) (n := 1) (Nat.le_of_ble_eq_true rfl)
  rw [lg_entry_eq]
  generalize (lg_sl ([.ref (ad 0)]) ++ List.replicate (1 - (lg_sl ([.ref (ad 0)])).length) Slot.unset).toArray = ls at hl ⊢
  have hl : lv_has ls 1 [(0, .ref (ad 0))] := hl
  refine lv_aload_n K.1 K.2.1 dX8_name_0 rfl (lv_at hl 0 rfl) ?_
  refine lv_bipush (v := (99 : Int32)) K.1 K.2.1 dX8_name_1 (by decide) ?_
  refine lv_bipush (v := (114 : Int32)) K.1 K.2.1 dX8_name_3 (by decide) ?_
  refine lv_bipush (v := (117 : Int32)) K.1 K.2.1 dX8_name_5 (by decide) ?_
  refine lv_bipush (v := (109 : Int32)) K.1 K.2.1 dX8_name_7 (by decide) ?_
  refine lv_bipush (v := (112 : Int32)) K.1 K.2.1 dX8_name_9 (by decide) ?_
  refine lv_bipush (v := (108 : Int32)) K.1 K.2.1 dX8_name_11 (by decide) ?_
  refine lv_bipush (v := (101 : Int32)) K.1 K.2.1 dX8_name_13 (by decide) ?_
  refine lv_bipush (v := (100 : Int32)) K.1 K.2.1 dX8_name_15 (by decide) ?_
  refine rk_vi (As := [.int (99 : Int32), .int (114 : Int32), .int (117 : Int32), .int (109 : Int32), .int (112 : Int32), .int (108 : Int32), .int (101 : Int32), .int (100 : Int32)]) (rest := []) K hw (cc_X8_isWord l D cy ad A g0 _ (99 : Int32) (114 : Int32) (117 : Int32) (109 : Int32) (112 : Int32) (108 : Int32) (101 : Int32) (100 : Int32) hd) lk_X8_184 (ci := 8) rfl (q0 := 0) (wsM_at cy ad _ (by decide)) ⟨Nat.le_of_ble_eq_true rfl, Nat.le_of_ble_eq_true rfl⟩ ⟨Nat.zero_le _, Nat.zero_le _⟩ rfl hl.1 (Nat.le_of_ble_eq_true rfl) rfl dX8_name_17 (fun r_2 g_1 H locs hd hw => ?_)
  refine lv_if_eq (tgt := 28) K.1 K.2.1 dX8_name_20 (by decide) (fun h_3 => ?_) (fun h_3 => ?_)
  · have hd := hd.1 h_3
    refine lv_aload_n K.1 K.2.1 dX8_name_28 rfl (lv_at hl 0 rfl) ?_
    refine lv_bipush (v := (110 : Int32)) K.1 K.2.1 dX8_name_29 (by decide) ?_
    refine lv_bipush (v := (117 : Int32)) K.1 K.2.1 dX8_name_31 (by decide) ?_
    refine lv_bipush (v := (109 : Int32)) K.1 K.2.1 dX8_name_33 (by decide) ?_
    refine lv_bipush (v := (98 : Int32)) K.1 K.2.1 dX8_name_35 (by decide) ?_
    refine lv_bipush (v := (101 : Int32)) K.1 K.2.1 dX8_name_37 (by decide) ?_
    refine lv_bipush (v := (114 : Int32)) K.1 K.2.1 dX8_name_39 (by decide) ?_
    refine lv_iconst (v := (0 : Int32)) K.1 K.2.1 dX8_name_41 (by decide) ?_
    refine lv_iconst (v := (0 : Int32)) K.1 K.2.1 dX8_name_42 (by decide) ?_
    refine rk_vi (As := [.int (110 : Int32), .int (117 : Int32), .int (109 : Int32), .int (98 : Int32), .int (101 : Int32), .int (114 : Int32), .int (0 : Int32), .int (0 : Int32)]) (rest := []) K hw (cc_X8_isWord l D cy ad A g_1 _ (110 : Int32) (117 : Int32) (109 : Int32) (98 : Int32) (101 : Int32) (114 : Int32) (0 : Int32) (0 : Int32) hd) lk_X8_184 (ci := 8) rfl (q0 := 0) (wsM_at cy ad _ (by decide)) ⟨Nat.le_of_ble_eq_true rfl, Nat.le_of_ble_eq_true rfl⟩ ⟨Nat.zero_le _, Nat.zero_le _⟩ rfl hl.1 (Nat.le_of_ble_eq_true rfl) rfl dX8_name_43 (fun r_5 g_4 H locs hd hw => ?_)
    refine lv_if_eq (tgt := 54) K.1 K.2.1 dX8_name_46 (by decide) (fun h_6 => ?_) (fun h_6 => ?_)
    · have hd := hd.1 h_6
      refine lv_aload_n K.1 K.2.1 dX8_name_54 rfl (lv_at hl 0 rfl) ?_
      refine lv_bipush (v := (116 : Int32)) K.1 K.2.1 dX8_name_55 (by decide) ?_
      refine lv_bipush (v := (111 : Int32)) K.1 K.2.1 dX8_name_57 (by decide) ?_
      refine lv_bipush (v := (112 : Int32)) K.1 K.2.1 dX8_name_59 (by decide) ?_
      refine lv_bipush (v := (105 : Int32)) K.1 K.2.1 dX8_name_61 (by decide) ?_
      refine lv_bipush (v := (99 : Int32)) K.1 K.2.1 dX8_name_63 (by decide) ?_
      refine lv_iconst (v := (0 : Int32)) K.1 K.2.1 dX8_name_65 (by decide) ?_
      refine lv_iconst (v := (0 : Int32)) K.1 K.2.1 dX8_name_66 (by decide) ?_
      refine lv_iconst (v := (0 : Int32)) K.1 K.2.1 dX8_name_67 (by decide) ?_
      refine rk_vi (As := [.int (116 : Int32), .int (111 : Int32), .int (112 : Int32), .int (105 : Int32), .int (99 : Int32), .int (0 : Int32), .int (0 : Int32), .int (0 : Int32)]) (rest := []) K hw (cc_X8_isWord l D cy ad A g_4 _ (116 : Int32) (111 : Int32) (112 : Int32) (105 : Int32) (99 : Int32) (0 : Int32) (0 : Int32) (0 : Int32) hd) lk_X8_184 (ci := 8) rfl (q0 := 0) (wsM_at cy ad _ (by decide)) ⟨Nat.le_of_ble_eq_true rfl, Nat.le_of_ble_eq_true rfl⟩ ⟨Nat.zero_le _, Nat.zero_le _⟩ rfl hl.1 (Nat.le_of_ble_eq_true rfl) rfl dX8_name_68 (fun r_8 g_7 H locs hd hw => ?_)
      refine lv_if_eq (tgt := 79) K.1 K.2.1 dX8_name_71 (by decide) (fun h_9 => ?_) (fun h_9 => ?_)
      · have hd := hd.1 h_9
        refine lv_aload_n K.1 K.2.1 dX8_name_79 rfl (lv_at hl 0 rfl) ?_
        refine lv_bipush (v := (109 : Int32)) K.1 K.2.1 dX8_name_80 (by decide) ?_
        refine lv_bipush (v := (111 : Int32)) K.1 K.2.1 dX8_name_82 (by decide) ?_
        refine lv_bipush (v := (111 : Int32)) K.1 K.2.1 dX8_name_84 (by decide) ?_
        refine lv_bipush (v := (100 : Int32)) K.1 K.2.1 dX8_name_86 (by decide) ?_
        refine lv_iconst (v := (0 : Int32)) K.1 K.2.1 dX8_name_88 (by decide) ?_
        refine lv_iconst (v := (0 : Int32)) K.1 K.2.1 dX8_name_89 (by decide) ?_
        refine lv_iconst (v := (0 : Int32)) K.1 K.2.1 dX8_name_90 (by decide) ?_
        refine lv_iconst (v := (0 : Int32)) K.1 K.2.1 dX8_name_91 (by decide) ?_
        refine rk_vi (As := [.int (109 : Int32), .int (111 : Int32), .int (111 : Int32), .int (100 : Int32), .int (0 : Int32), .int (0 : Int32), .int (0 : Int32), .int (0 : Int32)]) (rest := []) K hw (cc_X8_isWord l D cy ad A g_7 _ (109 : Int32) (111 : Int32) (111 : Int32) (100 : Int32) (0 : Int32) (0 : Int32) (0 : Int32) (0 : Int32) hd) lk_X8_184 (ci := 8) rfl (q0 := 0) (wsM_at cy ad _ (by decide)) ⟨Nat.le_of_ble_eq_true rfl, Nat.le_of_ble_eq_true rfl⟩ ⟨Nat.zero_le _, Nat.zero_le _⟩ rfl hl.1 (Nat.le_of_ble_eq_true rfl) rfl dX8_name_92 (fun r_11 g_10 H locs hd hw => ?_)
        refine lv_if_eq (tgt := 103) K.1 K.2.1 dX8_name_95 (by decide) (fun h_12 => ?_) (fun h_12 => ?_)
        · have hd := hd.1 h_12
          refine lv_aload_n K.1 K.2.1 dX8_name_103 rfl (lv_at hl 0 rfl) ?_
          refine lv_bipush (v := (100 : Int32)) K.1 K.2.1 dX8_name_104 (by decide) ?_
          refine lv_bipush (v := (97 : Int32)) K.1 K.2.1 dX8_name_106 (by decide) ?_
          refine lv_bipush (v := (121 : Int32)) K.1 K.2.1 dX8_name_108 (by decide) ?_
          refine lv_iconst (v := (0 : Int32)) K.1 K.2.1 dX8_name_110 (by decide) ?_
          refine lv_iconst (v := (0 : Int32)) K.1 K.2.1 dX8_name_111 (by decide) ?_
          refine lv_iconst (v := (0 : Int32)) K.1 K.2.1 dX8_name_112 (by decide) ?_
          refine lv_iconst (v := (0 : Int32)) K.1 K.2.1 dX8_name_113 (by decide) ?_
          refine lv_iconst (v := (0 : Int32)) K.1 K.2.1 dX8_name_114 (by decide) ?_
          refine rk_vi (As := [.int (100 : Int32), .int (97 : Int32), .int (121 : Int32), .int (0 : Int32), .int (0 : Int32), .int (0 : Int32), .int (0 : Int32), .int (0 : Int32)]) (rest := []) K hw (cc_X8_isWord l D cy ad A g_10 _ (100 : Int32) (97 : Int32) (121 : Int32) (0 : Int32) (0 : Int32) (0 : Int32) (0 : Int32) (0 : Int32) hd) lk_X8_184 (ci := 8) rfl (q0 := 0) (wsM_at cy ad _ (by decide)) ⟨Nat.le_of_ble_eq_true rfl, Nat.le_of_ble_eq_true rfl⟩ ⟨Nat.zero_le _, Nat.zero_le _⟩ rfl hl.1 (Nat.le_of_ble_eq_true rfl) rfl dX8_name_115 (fun r_14 g_13 H locs hd hw => ?_)
          refine lv_if_eq (tgt := 126) K.1 K.2.1 dX8_name_118 (by decide) (fun h_15 => ?_) (fun h_15 => ?_)
          · have hd := hd.1 h_15
            refine lv_aload_n K.1 K.2.1 dX8_name_126 rfl (lv_at hl 0 rfl) ?_
            refine lv_bipush (v := (100 : Int32)) K.1 K.2.1 dX8_name_127 (by decide) ?_
            refine lv_bipush (v := (101 : Int32)) K.1 K.2.1 dX8_name_129 (by decide) ?_
            refine lv_bipush (v := (115 : Int32)) K.1 K.2.1 dX8_name_131 (by decide) ?_
            refine lv_bipush (v := (107 : Int32)) K.1 K.2.1 dX8_name_133 (by decide) ?_
            refine lv_iconst (v := (0 : Int32)) K.1 K.2.1 dX8_name_135 (by decide) ?_
            refine lv_iconst (v := (0 : Int32)) K.1 K.2.1 dX8_name_136 (by decide) ?_
            refine lv_iconst (v := (0 : Int32)) K.1 K.2.1 dX8_name_137 (by decide) ?_
            refine lv_iconst (v := (0 : Int32)) K.1 K.2.1 dX8_name_138 (by decide) ?_
            refine rk_vi (As := [.int (100 : Int32), .int (101 : Int32), .int (115 : Int32), .int (107 : Int32), .int (0 : Int32), .int (0 : Int32), .int (0 : Int32), .int (0 : Int32)]) (rest := []) K hw (cc_X8_isWord l D cy ad A g_13 _ (100 : Int32) (101 : Int32) (115 : Int32) (107 : Int32) (0 : Int32) (0 : Int32) (0 : Int32) (0 : Int32) hd) lk_X8_184 (ci := 8) rfl (q0 := 0) (wsM_at cy ad _ (by decide)) ⟨Nat.le_of_ble_eq_true rfl, Nat.le_of_ble_eq_true rfl⟩ ⟨Nat.zero_le _, Nat.zero_le _⟩ rfl hl.1 (Nat.le_of_ble_eq_true rfl) rfl dX8_name_139 (fun r_17 g_16 H locs hd hw => ?_)
            refine lv_if_eq (tgt := 150) K.1 K.2.1 dX8_name_142 (by decide) (fun h_18 => ?_) (fun h_18 => ?_)
            · have hd := hd.1 h_18
              refine lv_aload_n K.1 K.2.1 dX8_name_150 rfl (lv_at hl 0 rfl) ?_
              refine rk_vv (As := []) (rest := []) K hw (cc_X8_fail l D cy ad A g_16 _  hd) lk_X8_178 (ci := 8) rfl (q0 := 0) (wsM_at cy ad _ (by decide)) ⟨Nat.le_of_ble_eq_true rfl, Nat.le_of_ble_eq_true rfl⟩ ⟨Nat.zero_le _, Nat.zero_le _⟩ rfl hl.1 (Nat.le_of_ble_eq_true rfl) rfl dX8_name_151 (fun g_19 H locs hd hw => ?_)
              refine lv_iconst (v := (0 : Int32)) K.1 K.2.1 dX8_name_154 (by decide) ?_
              exact rk_iret K hw hr hd dX8_name_155
            · have hd := hd.2 h_18
              refine lv_aload_n K.1 K.2.1 dX8_name_145 rfl (lv_at hl 0 rfl) ?_
              refine rm_get 17 K hw (by decide) kf_X8_203 rfl dX8_name_146 ?_
              exact rk_iret K hw hr hd dX8_name_149
          · have hd := hd.2 h_15
            refine lv_aload_n K.1 K.2.1 dX8_name_121 rfl (lv_at hl 0 rfl) ?_
            refine rm_get 16 K hw (by decide) kf_X8_200 rfl dX8_name_122 ?_
            exact rk_iret K hw hr hd dX8_name_125
        · have hd := hd.2 h_12
          refine lv_aload_n K.1 K.2.1 dX8_name_98 rfl (lv_at hl 0 rfl) ?_
          refine rm_get 15 K hw (by decide) kf_X8_197 rfl dX8_name_99 ?_
          exact rk_iret K hw hr hd dX8_name_102
      · have hd := hd.2 h_9
        refine lv_aload_n K.1 K.2.1 dX8_name_74 rfl (lv_at hl 0 rfl) ?_
        refine rm_get 14 K hw (by decide) kf_X8_194 rfl dX8_name_75 ?_
        exact rk_iret K hw hr hd dX8_name_78
    · have hd := hd.2 h_6
      refine lv_aload_n K.1 K.2.1 dX8_name_49 rfl (lv_at hl 0 rfl) ?_
      refine rm_get 13 K hw (by decide) kf_X8_191 rfl dX8_name_50 ?_
      exact rk_iret K hw hr hd dX8_name_53
  · have hd := hd.2 h_3
    refine lv_aload_n K.1 K.2.1 dX8_name_23 rfl (lv_at hl 0 rfl) ?_
    refine rm_get 12 K hw (by decide) kf_X8_188 rfl dX8_name_24 ?_
    exact rk_iret K hw hr hd dX8_name_27
theorem dX8_atom5_0 : decode cX8_atom5 0 = .ok (.iconst 0, 1) := by decide +kernel
theorem dX8_atom5_1 : decode cX8_atom5 1 = .ok (.istore_n 1, 1) := by decide +kernel
theorem dX8_atom5_2 : decode cX8_atom5 2 = .ok (.aload_n 0, 1) := by decide +kernel
theorem dX8_atom5_3 : decode cX8_atom5 3 = .ok (.bipush 45, 2) := by decide +kernel
theorem dX8_atom5_5 : decode cX8_atom5 5 = .ok (.invokevirtual 206, 3) := by decide +kernel
theorem dX8_atom5_8 : decode cX8_atom5 8 = .ok (.ifCond .eq 11, 3) := by decide +kernel
theorem dX8_atom5_11 : decode cX8_atom5 11 = .ok (.aload_n 0, 1) := by decide +kernel
theorem dX8_atom5_12 : decode cX8_atom5 12 = .ok (.invokevirtual 209, 3) := by decide +kernel
theorem dX8_atom5_15 : decode cX8_atom5 15 = .ok (.pop, 1) := by decide +kernel
theorem dX8_atom5_16 : decode cX8_atom5 16 = .ok (.goto 86, 3) := by decide +kernel
theorem dX8_atom5_19 : decode cX8_atom5 19 = .ok (.aload_n 0, 1) := by decide +kernel
theorem dX8_atom5_20 : decode cX8_atom5 20 = .ok (.bipush 40, 2) := by decide +kernel
theorem dX8_atom5_22 : decode cX8_atom5 22 = .ok (.invokevirtual 206, 3) := by decide +kernel
theorem dX8_atom5_25 : decode cX8_atom5 25 = .ok (.ifCond .eq 11, 3) := by decide +kernel
theorem dX8_atom5_28 : decode cX8_atom5 28 = .ok (.aload_n 0, 1) := by decide +kernel
theorem dX8_atom5_29 : decode cX8_atom5 29 = .ok (.invokevirtual 209, 3) := by decide +kernel
theorem dX8_atom5_32 : decode cX8_atom5 32 = .ok (.pop, 1) := by decide +kernel
theorem dX8_atom5_33 : decode cX8_atom5 33 = .ok (.goto 69, 3) := by decide +kernel
theorem dX8_atom5_36 : decode cX8_atom5 36 = .ok (.aload_n 0, 1) := by decide +kernel
theorem dX8_atom5_37 : decode cX8_atom5 37 = .ok (.getfield 164, 3) := by decide +kernel
theorem dX8_atom5_40 : decode cX8_atom5 40 = .ok (.ifCond .ne 24, 3) := by decide +kernel
theorem dX8_atom5_43 : decode cX8_atom5 43 = .ok (.aload_n 0, 1) := by decide +kernel
theorem dX8_atom5_44 : decode cX8_atom5 44 = .ok (.getfield 149, 3) := by decide +kernel
theorem dX8_atom5_47 : decode cX8_atom5 47 = .ok (.iconst 2, 1) := by decide +kernel
theorem dX8_atom5_48 : decode cX8_atom5 48 = .ok (.if_icmp .ne 16, 3) := by decide +kernel
theorem dX8_atom5_51 : decode cX8_atom5 51 = .ok (.aload_n 0, 1) := by decide +kernel
theorem dX8_atom5_52 : decode cX8_atom5 52 = .ok (.getfield 160, 3) := by decide +kernel
theorem dX8_atom5_55 : decode cX8_atom5 55 = .ok (.l2i, 1) := by decide +kernel
theorem dX8_atom5_56 : decode cX8_atom5 56 = .ok (.istore_n 1, 1) := by decide +kernel
theorem dX8_atom5_57 : decode cX8_atom5 57 = .ok (.aload_n 0, 1) := by decide +kernel
theorem dX8_atom5_58 : decode cX8_atom5 58 = .ok (.invokevirtual 181, 3) := by decide +kernel
theorem dX8_atom5_61 : decode cX8_atom5 61 = .ok (.goto 41, 3) := by decide +kernel
theorem dX8_atom5_64 : decode cX8_atom5 64 = .ok (.aload_n 0, 1) := by decide +kernel
theorem dX8_atom5_65 : decode cX8_atom5 65 = .ok (.getfield 164, 3) := by decide +kernel
theorem dX8_atom5_68 : decode cX8_atom5 68 = .ok (.ifCond .ne 30, 3) := by decide +kernel
theorem dX8_atom5_71 : decode cX8_atom5 71 = .ok (.aload_n 0, 1) := by decide +kernel
theorem dX8_atom5_72 : decode cX8_atom5 72 = .ok (.getfield 149, 3) := by decide +kernel
theorem dX8_atom5_75 : decode cX8_atom5 75 = .ok (.iconst 1, 1) := by decide +kernel
theorem dX8_atom5_76 : decode cX8_atom5 76 = .ok (.if_icmp .ne 22, 3) := by decide +kernel
theorem dX8_atom5_79 : decode cX8_atom5 79 = .ok (.aload_n 0, 1) := by decide +kernel
theorem dX8_atom5_80 : decode cX8_atom5 80 = .ok (.invokevirtual 213, 3) := by decide +kernel
theorem dX8_atom5_83 : decode cX8_atom5 83 = .ok (.istore_n 1, 1) := by decide +kernel
theorem dX8_atom5_84 : decode cX8_atom5 84 = .ok (.aload_n 0, 1) := by decide +kernel
theorem dX8_atom5_85 : decode cX8_atom5 85 = .ok (.getfield 164, 3) := by decide +kernel
theorem dX8_atom5_88 : decode cX8_atom5 88 = .ok (.ifCond .ne 14, 3) := by decide +kernel
theorem dX8_atom5_91 : decode cX8_atom5 91 = .ok (.aload_n 0, 1) := by decide +kernel
theorem dX8_atom5_92 : decode cX8_atom5 92 = .ok (.invokevirtual 181, 3) := by decide +kernel
theorem dX8_atom5_95 : decode cX8_atom5 95 = .ok (.goto 7, 3) := by decide +kernel
theorem dX8_atom5_98 : decode cX8_atom5 98 = .ok (.aload_n 0, 1) := by decide +kernel
theorem dX8_atom5_99 : decode cX8_atom5 99 = .ok (.invokevirtual 178, 3) := by decide +kernel
theorem dX8_atom5_102 : decode cX8_atom5 102 = .ok (.iload_n 1, 1) := by decide +kernel
theorem dX8_atom5_103 : decode cX8_atom5 103 = .ok (.ireturn, 1) := by decide +kernel
set_option maxHeartbeats 4000000 in
set_option maxRecDepth 100000 in
theorem bb_X8_atom5_98 {p : Program} {l : Launch} {e : Env} {s : State} {m : MethodId} {args : Array Value} {below : List Frame} {meth : Method} {c : Code} {D : va_G} {cy : Nat → ClassId} {ad : Nat → Nat} {A : Nat → Prop} {Q : Int32 → Sg → Prop} (K : Kx p s m args meth c cX8_atom5 2 RX8 D cy) (hr : meth.sig.returnType = (some .int)) (x1 : Int32)  (g0 : Sg) (H : Heap) (locs : List Loc) (ls : Array Slot) (hd : vv_X8_atom5_J98 x1 g0 Q) (hw : Wd D A s.heap (wsM cy ad g0) H locs) (hl : lv_has ls 2 [(0, .ref (ad 0)), (1, .int x1)]) : W p l e (rmD 4) s m args below meth c H locs 0 0 (MQ below (va_Qi Q (PostG (wsM cy ad) D A) A) args s 0 0 A) (F0 m 98 ls []) := by
  unfold vv_X8_atom5_J98 at hd
  refine lv_aload_n K.1 K.2.1 dX8_atom5_98 rfl (lv_at hl 0 rfl) ?_
  refine rk_vv (As := []) (rest := []) K hw (cc_X8_fail l D cy ad A g0 _  hd) lk_X8_178 (ci := 8) rfl (q0 := 0) (wsM_at cy ad _ (by decide)) ⟨Nat.le_of_ble_eq_true rfl, Nat.le_of_ble_eq_true rfl⟩ ⟨Nat.zero_le _, Nat.zero_le _⟩ rfl hl.1 (Nat.le_of_ble_eq_true rfl) rfl dX8_atom5_99 (fun g_10 H locs hd hw => ?_)
  refine lv_iload_n K.1 K.2.1 dX8_atom5_102 rfl (lv_at hl 1 rfl) ?_
  exact rk_iret K hw hr hd dX8_atom5_103
set_option maxHeartbeats 4000000 in
set_option maxRecDepth 100000 in
theorem bb_X8_atom5_64 {p : Program} {l : Launch} {e : Env} {s : State} {m : MethodId} {args : Array Value} {below : List Frame} {meth : Method} {c : Code} {D : va_G} {cy : Nat → ClassId} {ad : Nat → Nat} {A : Nat → Prop} {Q : Int32 → Sg → Prop} (K : Kx p s m args meth c cX8_atom5 2 RX8 D cy) (hr : meth.sig.returnType = (some .int)) (x1 : Int32)  (g0 : Sg) (H : Heap) (locs : List Loc) (ls : Array Slot) (hd : vv_X8_atom5_J64 x1 g0 Q) (hw : Wd D A s.heap (wsM cy ad g0) H locs) (hl : lv_has ls 2 [(0, .ref (ad 0)), (1, .int x1)]) : W p l e (rmD 4) s m args below meth c H locs 0 0 (MQ below (va_Qi Q (PostG (wsM cy ad) D A) A) args s 0 0 A) (F0 m 64 ls []) := by
  unfold vv_X8_atom5_J64 at hd
  refine lv_aload_n K.1 K.2.1 dX8_atom5_64 rfl (lv_at hl 0 rfl) ?_
  refine rm_get 25 K hw (by decide) kf_X8_164 rfl dX8_atom5_65 ?_
  refine lv_if_ne (tgt := 98) K.1 K.2.1 dX8_atom5_68 (by decide) (fun h_9 => ?_) (fun h_9 => ?_)
  · have hd := hd.1 h_9
    exact bb_X8_atom5_98 K hr  x1 g0 _ _ _ hd hw (lv_sub hl [0, 1] rfl)
  · have hd := hd.2 h_9
    refine lv_aload_n K.1 K.2.1 dX8_atom5_71 rfl (lv_at hl 0 rfl) ?_
    refine rm_get 21 K hw (by decide) kf_X8_149 rfl dX8_atom5_72 ?_
    refine lv_iconst (v := (1 : Int32)) K.1 K.2.1 dX8_atom5_75 (by decide) ?_
    refine lv_icmp_ne (tgt := 98) K.1 K.2.1 dX8_atom5_76 (by decide) (fun h_12 => ?_) (fun h_12 => ?_)
    · have hd := hd.1 h_12
      exact bb_X8_atom5_98 K hr  x1 g0 _ _ _ hd hw (lv_sub hl [0, 1] rfl)
    · have hd := hd.2 h_12
      refine lv_aload_n K.1 K.2.1 dX8_atom5_79 rfl (lv_at hl 0 rfl) ?_
      refine rk_vi (As := []) (rest := []) K hw (cc_X8_name l D cy ad A g0 _  hd) lk_X8_213 (ci := 8) rfl (q0 := 0) (wsM_at cy ad _ (by decide)) ⟨Nat.le_of_ble_eq_true rfl, Nat.le_of_ble_eq_true rfl⟩ ⟨Nat.zero_le _, Nat.zero_le _⟩ rfl hl.1 (Nat.le_of_ble_eq_true rfl) rfl dX8_atom5_80 (fun r_14 g_13 H locs hd hw => ?_)
      refine lv_topi (fun x1_15 ex1_15 => ?_)
      have hd := hd x1_15 ex1_15
      refine lv_istore_n (lv' := [(1, .int x1_15), (0, .ref (ad 0))]) K.1 K.2.1 dX8_atom5_83 rfl hl (by decide) rfl (fun ls hl => ?_)
      refine lv_aload_n K.1 K.2.1 dX8_atom5_84 rfl (lv_at hl 1 rfl) ?_
      refine rm_get 25 K hw (by decide) kf_X8_164 rfl dX8_atom5_85 ?_
      refine lv_if_ne (tgt := 102) K.1 K.2.1 dX8_atom5_88 (by decide) (fun h_16 => ?_) (fun h_16 => ?_)
      · have hd := hd.1 h_16
        refine lv_iload_n K.1 K.2.1 dX8_atom5_102 rfl (lv_at hl 0 rfl) ?_
        exact rk_iret K hw hr hd dX8_atom5_103
      · have hd := hd.2 h_16
        refine lv_aload_n K.1 K.2.1 dX8_atom5_91 rfl (lv_at hl 1 rfl) ?_
        refine rk_vv (As := []) (rest := []) K hw (cc_X8_next l D cy ad A g_13 _  hd) lk_X8_181 (ci := 8) rfl (q0 := 0) (wsM_at cy ad _ (by decide)) ⟨Nat.le_of_ble_eq_true rfl, Nat.le_of_ble_eq_true rfl⟩ ⟨Nat.zero_le _, Nat.zero_le _⟩ rfl hl.1 (Nat.le_of_ble_eq_true rfl) rfl dX8_atom5_92 (fun g_17 H locs hd hw => ?_)
        refine lv_goto (tgt := 102) K.1 K.2.1 dX8_atom5_95 (by decide) ?_
        refine lv_iload_n K.1 K.2.1 dX8_atom5_102 rfl (lv_at hl 0 rfl) ?_
        exact rk_iret K hw hr hd dX8_atom5_103
set_option maxHeartbeats 4000000 in
set_option maxRecDepth 100000 in
theorem cc_X8_atom5 (l : Launch) (D : va_G) (cy : Nat → ClassId) (ad : Nat → Nat) (A : Nat → Prop) (g0 : Sg) (Q : Int32 → Sg → Prop)  (hd : vv_X8_atom5  g0 Q) : Met l yX8_atom5 (Cond.code yX8_atom5 cX8_atom5 2 (some .int) :: TT) (rmD 4) (va_Pc [.ref (ad 0)] (PreG (wsM cy ad) D cy A g0)) (va_Qi Q (PostG (wsM cy ad) D A) A) 0 0 A := by
  unfold vv_X8_atom5 at hd
  refine Met.ofW (cc := cX8_atom5) (maxL := 2) (ret := (some .int)) (by decide) rfl ?_
  intro p e s m args below meth c s₁ B hml hv
  obtain ⟨rfl, hP, hK0, hD⟩ := hv
  have K : Kx p s m _ meth c cX8_atom5 2 RX8 D cy := ⟨B.exec, B.bytes, hml, findClass_of_methodNamed B.named, fun w h => atoms_spec (ws := Cond.code yX8_atom5 cX8_atom5 2 (some .int) :: TT) B.pre w (List.mem_cons_of_mem _ h), hK0, B.notSynchronized⟩
  have hw : Wd D A s.heap (wsM cy ad g0) s.heap [] := ⟨hP, hD, va_S.rf⟩
  have hr := B.returns
  have hl := lv_entry ([.ref (ad 0)]) (n := 2) (Nat.le_of_ble_eq_true rfl)
  rw [lg_entry_eq]
  generalize (lg_sl ([.ref (ad 0)]) ++ List.replicate (2 - (lg_sl ([.ref (ad 0)])).length) Slot.unset).toArray = ls at hl ⊢
  have hl : lv_has ls 2 [(0, .ref (ad 0))] := hl
  refine lv_iconst (v := (0 : Int32)) K.1 K.2.1 dX8_atom5_0 (by decide) ?_
  refine lv_topi (fun x1_1 ex1_1 => ?_)
  have hd := hd x1_1 ex1_1
  refine lv_istore_n (lv' := [(1, .int x1_1), (0, .ref (ad 0))]) K.1 K.2.1 dX8_atom5_1 rfl hl (by decide) rfl (fun ls hl => ?_)
  refine lv_aload_n K.1 K.2.1 dX8_atom5_2 rfl (lv_at hl 1 rfl) ?_
  refine lv_bipush (v := (45 : Int32)) K.1 K.2.1 dX8_atom5_3 (by decide) ?_
  refine rk_vi (As := [.int (45 : Int32)]) (rest := []) K hw (cc_X8_isSign l D cy ad A g0 _ (45 : Int32) hd) lk_X8_206 (ci := 8) rfl (q0 := 0) (wsM_at cy ad _ (by decide)) ⟨Nat.le_of_ble_eq_true rfl, Nat.le_of_ble_eq_true rfl⟩ ⟨Nat.zero_le _, Nat.zero_le _⟩ rfl hl.1 (Nat.le_of_ble_eq_true rfl) rfl dX8_atom5_5 (fun r_3 g_2 H locs hd hw => ?_)
  refine lv_if_eq (tgt := 19) K.1 K.2.1 dX8_atom5_8 (by decide) (fun h_4 => ?_) (fun h_4 => ?_)
  · have hd := hd.1 h_4
    refine lv_aload_n K.1 K.2.1 dX8_atom5_19 rfl (lv_at hl 1 rfl) ?_
    refine lv_bipush (v := (40 : Int32)) K.1 K.2.1 dX8_atom5_20 (by decide) ?_
    refine rk_vi (As := [.int (40 : Int32)]) (rest := []) K hw (cc_X8_isSign l D cy ad A g_2 _ (40 : Int32) hd) lk_X8_206 (ci := 8) rfl (q0 := 0) (wsM_at cy ad _ (by decide)) ⟨Nat.le_of_ble_eq_true rfl, Nat.le_of_ble_eq_true rfl⟩ ⟨Nat.zero_le _, Nat.zero_le _⟩ rfl hl.1 (Nat.le_of_ble_eq_true rfl) rfl dX8_atom5_22 (fun r_6 g_5 H locs hd hw => ?_)
    refine lv_if_eq (tgt := 36) K.1 K.2.1 dX8_atom5_25 (by decide) (fun h_7 => ?_) (fun h_7 => ?_)
    · have hd := hd.1 h_7
      refine lv_aload_n K.1 K.2.1 dX8_atom5_36 rfl (lv_at hl 1 rfl) ?_
      refine rm_get 25 K hw (by decide) kf_X8_164 rfl dX8_atom5_37 ?_
      refine lv_if_ne (tgt := 64) K.1 K.2.1 dX8_atom5_40 (by decide) (fun h_8 => ?_) (fun h_8 => ?_)
      · have hd := hd.1 h_8
        exact bb_X8_atom5_64 K hr  x1_1 g_5 _ _ _ hd hw (lv_sub hl [1, 0] rfl)
      · have hd := hd.2 h_8
        refine lv_aload_n K.1 K.2.1 dX8_atom5_43 rfl (lv_at hl 1 rfl) ?_
        refine rm_get 21 K hw (by decide) kf_X8_149 rfl dX8_atom5_44 ?_
        refine lv_iconst (v := (2 : Int32)) K.1 K.2.1 dX8_atom5_47 (by decide) ?_
        refine lv_icmp_ne (tgt := 64) K.1 K.2.1 dX8_atom5_48 (by decide) (fun h_19 => ?_) (fun h_19 => ?_)
        · have hd := hd.1 h_19
          exact bb_X8_atom5_64 K hr  x1_1 g_5 _ _ _ hd hw (lv_sub hl [1, 0] rfl)
        · have hd := hd.2 h_19
          refine lv_aload_n K.1 K.2.1 dX8_atom5_51 rfl (lv_at hl 1 rfl) ?_
          refine rm_get 23 K hw (by decide) kf_X8_160 rfl dX8_atom5_52 ?_
          refine lv_l2i (v := (g_5 0 23).toInt64.toInt32) K.1 K.2.1 dX8_atom5_55 rfl ?_
          refine lv_topi (fun x1_20 ex1_20 => ?_)
          have hd := hd x1_20 ex1_20
          refine lv_istore_n (lv' := [(1, .int x1_20), (0, .ref (ad 0))]) K.1 K.2.1 dX8_atom5_56 rfl hl (by decide) rfl (fun ls hl => ?_)
          refine lv_aload_n K.1 K.2.1 dX8_atom5_57 rfl (lv_at hl 1 rfl) ?_
          refine rk_vv (As := []) (rest := []) K hw (cc_X8_next l D cy ad A g_5 _  hd) lk_X8_181 (ci := 8) rfl (q0 := 0) (wsM_at cy ad _ (by decide)) ⟨Nat.le_of_ble_eq_true rfl, Nat.le_of_ble_eq_true rfl⟩ ⟨Nat.zero_le _, Nat.zero_le _⟩ rfl hl.1 (Nat.le_of_ble_eq_true rfl) rfl dX8_atom5_58 (fun g_21 H locs hd hw => ?_)
          refine lv_goto (tgt := 102) K.1 K.2.1 dX8_atom5_61 (by decide) ?_
          refine lv_iload_n K.1 K.2.1 dX8_atom5_102 rfl (lv_at hl 0 rfl) ?_
          exact rk_iret K hw hr hd dX8_atom5_103
    · have hd := hd.2 h_7
      refine lv_aload_n K.1 K.2.1 dX8_atom5_28 rfl (lv_at hl 1 rfl) ?_
      refine rk_vi (As := []) (rest := []) K hw (cc_X8_opens l D cy ad A g_5 _  hd) lk_X8_209 (ci := 8) rfl (q0 := 0) (wsM_at cy ad _ (by decide)) ⟨Nat.le_of_ble_eq_true rfl, Nat.le_of_ble_eq_true rfl⟩ ⟨Nat.zero_le _, Nat.zero_le _⟩ rfl hl.1 (Nat.le_of_ble_eq_true rfl) rfl dX8_atom5_29 (fun r_24 g_23 H locs hd hw => ?_)
      refine lv_pop K.1 K.2.1 dX8_atom5_32 rfl ?_
      refine lv_goto (tgt := 102) K.1 K.2.1 dX8_atom5_33 (by decide) ?_
      refine lv_iload_n K.1 K.2.1 dX8_atom5_102 rfl (lv_at hl 0 rfl) ?_
      exact rk_iret K hw hr hd dX8_atom5_103
  · have hd := hd.2 h_4
    refine lv_aload_n K.1 K.2.1 dX8_atom5_11 rfl (lv_at hl 1 rfl) ?_
    refine rk_vi (As := []) (rest := []) K hw (cc_X8_opens l D cy ad A g_2 _  hd) lk_X8_209 (ci := 8) rfl (q0 := 0) (wsM_at cy ad _ (by decide)) ⟨Nat.le_of_ble_eq_true rfl, Nat.le_of_ble_eq_true rfl⟩ ⟨Nat.zero_le _, Nat.zero_le _⟩ rfl hl.1 (Nat.le_of_ble_eq_true rfl) rfl dX8_atom5_12 (fun r_26 g_25 H locs hd hw => ?_)
    refine lv_pop K.1 K.2.1 dX8_atom5_15 rfl ?_
    refine lv_goto (tgt := 102) K.1 K.2.1 dX8_atom5_16 (by decide) ?_
    refine lv_iload_n K.1 K.2.1 dX8_atom5_102 rfl (lv_at hl 0 rfl) ?_
    exact rk_iret K hw hr hd dX8_atom5_103
theorem dX8_term5_0 : decode cX8_term5 0 = .ok (.aload_n 0, 1) := by decide +kernel
theorem dX8_term5_1 : decode cX8_term5 1 = .ok (.invokevirtual 217, 3) := by decide +kernel
theorem dX8_term5_4 : decode cX8_term5 4 = .ok (.istore_n 1, 1) := by decide +kernel
theorem dX8_term5_5 : decode cX8_term5 5 = .ok (.aload_n 0, 1) := by decide +kernel
theorem dX8_term5_6 : decode cX8_term5 6 = .ok (.bipush 42, 2) := by decide +kernel
theorem dX8_term5_8 : decode cX8_term5 8 = .ok (.invokevirtual 206, 3) := by decide +kernel
theorem dX8_term5_11 : decode cX8_term5 11 = .ok (.ifCond .eq 17, 3) := by decide +kernel
theorem dX8_term5_14 : decode cX8_term5 14 = .ok (.aload_n 0, 1) := by decide +kernel
theorem dX8_term5_15 : decode cX8_term5 15 = .ok (.invokevirtual 181, 3) := by decide +kernel
theorem dX8_term5_18 : decode cX8_term5 18 = .ok (.iload_n 1, 1) := by decide +kernel
theorem dX8_term5_19 : decode cX8_term5 19 = .ok (.aload_n 0, 1) := by decide +kernel
theorem dX8_term5_20 : decode cX8_term5 20 = .ok (.invokevirtual 217, 3) := by decide +kernel
theorem dX8_term5_23 : decode cX8_term5 23 = .ok (.imul, 1) := by decide +kernel
theorem dX8_term5_24 : decode cX8_term5 24 = .ok (.istore_n 1, 1) := by decide +kernel
theorem dX8_term5_25 : decode cX8_term5 25 = .ok (.goto (-20), 3) := by decide +kernel
theorem dX8_term5_28 : decode cX8_term5 28 = .ok (.iload_n 1, 1) := by decide +kernel
theorem dX8_term5_29 : decode cX8_term5 29 = .ok (.ireturn, 1) := by decide +kernel
set_option maxHeartbeats 4000000 in
set_option maxRecDepth 100000 in
theorem bb_X8_term5_5 {p : Program} {l : Launch} {e : Env} {s : State} {m : MethodId} {args : Array Value} {below : List Frame} {meth : Method} {c : Code} {D : va_G} {cy : Nat → ClassId} {ad : Nat → Nat} {A : Nat → Prop} {Q : Int32 → Sg → Prop} (K : Kx p s m args meth c cX8_term5 2 RX8 D cy) (hr : meth.sig.returnType = (some .int)) : ∀ (n : Nat) (x1 : Int32)  (g0 : Sg) (H : Heap) (locs : List Loc) (ls : Array Slot), vv_X8_term5_L5 Q n x1 g0 → Wd D A s.heap (wsM cy ad g0) H locs → lv_has ls 2 [(0, .ref (ad 0)), (1, .int x1)] → W p l e (rmD 5) s m args below meth c H locs 0 0 (MQ below (va_Qi Q (PostG (wsM cy ad) D A) A) args s 0 0 A) (F0 m 5 ls []) := by
  intro n
  induction n with
  | zero => intro _ _ _ _ _ hd; exact hd.elim
  | succ n ih =>
    intro x1 g0 H locs ls hd hw hl
    unfold vv_X8_term5_L5 at hd
    refine lv_aload_n K.1 K.2.1 dX8_term5_5 rfl (lv_at hl 0 rfl) ?_
    refine lv_bipush (v := (42 : Int32)) K.1 K.2.1 dX8_term5_6 (by decide) ?_
    refine rk_vi (As := [.int (42 : Int32)]) (rest := []) K hw (cc_X8_isSign l D cy ad A g0 _ (42 : Int32) hd) lk_X8_206 (ci := 8) rfl (q0 := 0) (wsM_at cy ad _ (by decide)) ⟨Nat.le_of_ble_eq_true rfl, Nat.le_of_ble_eq_true rfl⟩ ⟨Nat.zero_le _, Nat.zero_le _⟩ rfl hl.1 (Nat.le_of_ble_eq_true rfl) rfl dX8_term5_8 (fun r_5 g_4 H locs hd hw => ?_)
    refine lv_if_eq (tgt := 28) K.1 K.2.1 dX8_term5_11 (by decide) (fun h_6 => ?_) (fun h_6 => ?_)
    · have hd := hd.1 h_6
      refine lv_iload_n K.1 K.2.1 dX8_term5_28 rfl (lv_at hl 1 rfl) ?_
      exact rk_iret K hw hr hd dX8_term5_29
    · have hd := hd.2 h_6
      refine lv_aload_n K.1 K.2.1 dX8_term5_14 rfl (lv_at hl 0 rfl) ?_
      refine rk_vv (As := []) (rest := []) K hw (cc_X8_next l D cy ad A g_4 _  hd) lk_X8_181 (ci := 8) rfl (q0 := 0) (wsM_at cy ad _ (by decide)) ⟨Nat.le_of_ble_eq_true rfl, Nat.le_of_ble_eq_true rfl⟩ ⟨Nat.zero_le _, Nat.zero_le _⟩ rfl hl.1 (Nat.le_of_ble_eq_true rfl) rfl dX8_term5_15 (fun g_7 H locs hd hw => ?_)
      refine lv_iload_n K.1 K.2.1 dX8_term5_18 rfl (lv_at hl 1 rfl) ?_
      refine lv_aload_n K.1 K.2.1 dX8_term5_19 rfl (lv_at hl 0 rfl) ?_
      refine rk_vi (As := []) (rest := [.int x1]) K hw (cc_X8_atom5 l D cy ad A g_7 _  hd) lk_X8_217 (ci := 8) rfl (q0 := 0) (wsM_at cy ad _ (by decide)) ⟨Nat.le_of_ble_eq_true rfl, Nat.le_of_ble_eq_true rfl⟩ ⟨Nat.zero_le _, Nat.zero_le _⟩ rfl hl.1 (Nat.le_of_ble_eq_true rfl) rfl dX8_term5_20 (fun r_10 g_9 H locs hd hw => ?_)
      refine lv_imul K.1 K.2.1 dX8_term5_23 ?_
      refine lv_topi (fun x1_11 ex1_11 => ?_)
      have hd := hd x1_11 ex1_11
      refine lv_istore_n (lv' := [(1, .int x1_11), (0, .ref (ad 0))]) K.1 K.2.1 dX8_term5_24 rfl hl (by decide) rfl (fun ls hl => ?_)
      refine lv_goto (tgt := 5) K.1 K.2.1 dX8_term5_25 (by decide) ?_
      exact ih x1_11 g_9 _ _ _ hd hw (lv_sub hl [1, 0] rfl)
set_option maxHeartbeats 4000000 in
set_option maxRecDepth 100000 in
theorem cc_X8_term5 (l : Launch) (D : va_G) (cy : Nat → ClassId) (ad : Nat → Nat) (A : Nat → Prop) (g0 : Sg) (Q : Int32 → Sg → Prop)  (hd : vv_X8_term5  g0 Q) : Met l yX8_term5 (Cond.code yX8_term5 cX8_term5 2 (some .int) :: TT) (rmD 5) (va_Pc [.ref (ad 0)] (PreG (wsM cy ad) D cy A g0)) (va_Qi Q (PostG (wsM cy ad) D A) A) 0 0 A := by
  unfold vv_X8_term5 at hd
  refine Met.ofW (cc := cX8_term5) (maxL := 2) (ret := (some .int)) (by decide) rfl ?_
  intro p e s m args below meth c s₁ B hml hv
  obtain ⟨rfl, hP, hK0, hD⟩ := hv
  have K : Kx p s m _ meth c cX8_term5 2 RX8 D cy := ⟨B.exec, B.bytes, hml, findClass_of_methodNamed B.named, fun w h => atoms_spec (ws := Cond.code yX8_term5 cX8_term5 2 (some .int) :: TT) B.pre w (List.mem_cons_of_mem _ h), hK0, B.notSynchronized⟩
  have hw : Wd D A s.heap (wsM cy ad g0) s.heap [] := ⟨hP, hD, va_S.rf⟩
  have hr := B.returns
  have hl := lv_entry ([.ref (ad 0)]) (n := 2) (Nat.le_of_ble_eq_true rfl)
  rw [lg_entry_eq]
  generalize (lg_sl ([.ref (ad 0)]) ++ List.replicate (2 - (lg_sl ([.ref (ad 0)])).length) Slot.unset).toArray = ls at hl ⊢
  have hl : lv_has ls 2 [(0, .ref (ad 0))] := hl
  refine lv_aload_n K.1 K.2.1 dX8_term5_0 rfl (lv_at hl 0 rfl) ?_
  refine rk_vi (As := []) (rest := []) K hw (cc_X8_atom5 l D cy ad A g0 _  hd) lk_X8_217 (ci := 8) rfl (q0 := 0) (wsM_at cy ad _ (by decide)) ⟨Nat.le_of_ble_eq_true rfl, Nat.le_of_ble_eq_true rfl⟩ ⟨Nat.zero_le _, Nat.zero_le _⟩ rfl hl.1 (Nat.le_of_ble_eq_true rfl) rfl dX8_term5_1 (fun r_2 g_1 H locs hd hw => ?_)
  refine lv_topi (fun x1_3 ex1_3 => ?_)
  have hd := hd x1_3 ex1_3
  refine lv_istore_n (lv' := [(1, .int x1_3), (0, .ref (ad 0))]) K.1 K.2.1 dX8_term5_4 rfl hl (by decide) rfl (fun ls hl => ?_)
  obtain ⟨n9, hd⟩ := hd
  exact bb_X8_term5_5 K hr  n9 x1_3 g_1 _ _ _ hd hw (lv_sub hl [1, 0] rfl)
theorem dX8_added5_0 : decode cX8_added5 0 = .ok (.aload_n 0, 1) := by decide +kernel
theorem dX8_added5_1 : decode cX8_added5 1 = .ok (.invokevirtual 220, 3) := by decide +kernel
theorem dX8_added5_4 : decode cX8_added5 4 = .ok (.istore_n 1, 1) := by decide +kernel
theorem dX8_added5_5 : decode cX8_added5 5 = .ok (.aload_n 0, 1) := by decide +kernel
theorem dX8_added5_6 : decode cX8_added5 6 = .ok (.bipush 43, 2) := by decide +kernel
theorem dX8_added5_8 : decode cX8_added5 8 = .ok (.invokevirtual 206, 3) := by decide +kernel
theorem dX8_added5_11 : decode cX8_added5 11 = .ok (.ifCond .ne 12, 3) := by decide +kernel
theorem dX8_added5_14 : decode cX8_added5 14 = .ok (.aload_n 0, 1) := by decide +kernel
theorem dX8_added5_15 : decode cX8_added5 15 = .ok (.bipush 45, 2) := by decide +kernel
theorem dX8_added5_17 : decode cX8_added5 17 = .ok (.invokevirtual 206, 3) := by decide +kernel
theorem dX8_added5_20 : decode cX8_added5 20 = .ok (.ifCond .eq 46, 3) := by decide +kernel
theorem dX8_added5_23 : decode cX8_added5 23 = .ok (.aload_n 0, 1) := by decide +kernel
theorem dX8_added5_24 : decode cX8_added5 24 = .ok (.getfield 160, 3) := by decide +kernel
theorem dX8_added5_27 : decode cX8_added5 27 = .ok (.ldc2_w 223, 3) := by decide +kernel
theorem dX8_added5_30 : decode cX8_added5 30 = .ok (.lcmp, 1) := by decide +kernel
theorem dX8_added5_31 : decode cX8_added5 31 = .ok (.ifCond .ne 7, 3) := by decide +kernel
theorem dX8_added5_34 : decode cX8_added5 34 = .ok (.iconst 1, 1) := by decide +kernel
theorem dX8_added5_35 : decode cX8_added5 35 = .ok (.goto 4, 3) := by decide +kernel
theorem dX8_added5_38 : decode cX8_added5 38 = .ok (.iconst 0, 1) := by decide +kernel
theorem dX8_added5_39 : decode cX8_added5 39 = .ok (.istore_n 2, 1) := by decide +kernel
theorem dX8_added5_40 : decode cX8_added5 40 = .ok (.aload_n 0, 1) := by decide +kernel
theorem dX8_added5_41 : decode cX8_added5 41 = .ok (.invokevirtual 181, 3) := by decide +kernel
theorem dX8_added5_44 : decode cX8_added5 44 = .ok (.aload_n 0, 1) := by decide +kernel
theorem dX8_added5_45 : decode cX8_added5 45 = .ok (.invokevirtual 220, 3) := by decide +kernel
theorem dX8_added5_48 : decode cX8_added5 48 = .ok (.istore_n 3, 1) := by decide +kernel
theorem dX8_added5_49 : decode cX8_added5 49 = .ok (.iload_n 2, 1) := by decide +kernel
theorem dX8_added5_50 : decode cX8_added5 50 = .ok (.ifCond .eq 9, 3) := by decide +kernel
theorem dX8_added5_53 : decode cX8_added5 53 = .ok (.iload_n 1, 1) := by decide +kernel
theorem dX8_added5_54 : decode cX8_added5 54 = .ok (.iload_n 3, 1) := by decide +kernel
theorem dX8_added5_55 : decode cX8_added5 55 = .ok (.iadd, 1) := by decide +kernel
theorem dX8_added5_56 : decode cX8_added5 56 = .ok (.goto 6, 3) := by decide +kernel
theorem dX8_added5_59 : decode cX8_added5 59 = .ok (.iload_n 1, 1) := by decide +kernel
theorem dX8_added5_60 : decode cX8_added5 60 = .ok (.iload_n 3, 1) := by decide +kernel
theorem dX8_added5_61 : decode cX8_added5 61 = .ok (.isub, 1) := by decide +kernel
theorem dX8_added5_62 : decode cX8_added5 62 = .ok (.istore_n 1, 1) := by decide +kernel
theorem dX8_added5_63 : decode cX8_added5 63 = .ok (.goto (-58), 3) := by decide +kernel
theorem dX8_added5_66 : decode cX8_added5 66 = .ok (.iload_n 1, 1) := by decide +kernel
theorem dX8_added5_67 : decode cX8_added5 67 = .ok (.ireturn, 1) := by decide +kernel
set_option maxHeartbeats 4000000 in
set_option maxRecDepth 100000 in
theorem bb_X8_added5_62 {p : Program} {l : Launch} {e : Env} {s : State} {m : MethodId} {args : Array Value} {below : List Frame} {meth : Method} {c : Code} {D : va_G} {cy : Nat → ClassId} {ad : Nat → Nat} {A : Nat → Prop} {Q : Int32 → Sg → Prop} (K : Kx p s m args meth c cX8_added5 4 RX8 D cy) (hr : meth.sig.returnType = (some .int)) {rc5 : Int32 → Sg → Prop} (hrc5 : ∀ (x1 : Int32) (u : Sg) (H : Heap) (locs : List Loc) (ls : Array Slot), rc5 x1 u → Wd D A s.heap (wsM cy ad u) H locs → lv_has ls 4 [(0, .ref (ad 0)), (1, .int x1)] → W p l e (rmD 6) s m args below meth c H locs 0 0 (MQ below (va_Qi Q (PostG (wsM cy ad) D A) A) args s 0 0 A) (F0 m 5 ls []))  (t0 : Int32) (g0 : Sg) (H : Heap) (locs : List Loc) (ls : Array Slot) (hd : vv_X8_added5_J62 rc5 t0 g0 Q) (hw : Wd D A s.heap (wsM cy ad g0) H locs) (hl : lv_has ls 4 [(0, .ref (ad 0))]) : W p l e (rmD 6) s m args below meth c H locs 0 0 (MQ below (va_Qi Q (PostG (wsM cy ad) D A) A) args s 0 0 A) (F0 m 62 ls [.int t0]) := by
  unfold vv_X8_added5_J62 at hd
  refine lv_topi (fun x1_15 ex1_15 => ?_)
  have hd := hd x1_15 ex1_15
  refine lv_istore_n (lv' := [(1, .int x1_15), (0, .ref (ad 0))]) K.1 K.2.1 dX8_added5_62 rfl hl (by decide) rfl (fun ls hl => ?_)
  refine lv_goto (tgt := 5) K.1 K.2.1 dX8_added5_63 (by decide) ?_
  exact hrc5 x1_15 g0 _ _ _ hd hw (lv_sub hl [1, 0] rfl)
set_option maxHeartbeats 4000000 in
set_option maxRecDepth 100000 in
theorem bb_X8_added5_39 {p : Program} {l : Launch} {e : Env} {s : State} {m : MethodId} {args : Array Value} {below : List Frame} {meth : Method} {c : Code} {D : va_G} {cy : Nat → ClassId} {ad : Nat → Nat} {A : Nat → Prop} {Q : Int32 → Sg → Prop} (K : Kx p s m args meth c cX8_added5 4 RX8 D cy) (hr : meth.sig.returnType = (some .int)) {rc5 : Int32 → Sg → Prop} (hrc5 : ∀ (x1 : Int32) (u : Sg) (H : Heap) (locs : List Loc) (ls : Array Slot), rc5 x1 u → Wd D A s.heap (wsM cy ad u) H locs → lv_has ls 4 [(0, .ref (ad 0)), (1, .int x1)] → W p l e (rmD 6) s m args below meth c H locs 0 0 (MQ below (va_Qi Q (PostG (wsM cy ad) D A) A) args s 0 0 A) (F0 m 5 ls [])) (x1 : Int32) (t0 : Int32) (g0 : Sg) (H : Heap) (locs : List Loc) (ls : Array Slot) (hd : vv_X8_added5_J39 rc5 x1 t0 g0 Q) (hw : Wd D A s.heap (wsM cy ad g0) H locs) (hl : lv_has ls 4 [(0, .ref (ad 0)), (1, .int x1)]) : W p l e (rmD 6) s m args below meth c H locs 0 0 (MQ below (va_Qi Q (PostG (wsM cy ad) D A) A) args s 0 0 A) (F0 m 39 ls [.int t0]) := by
  unfold vv_X8_added5_J39 at hd
  refine lv_topi (fun x2_8 ex2_8 => ?_)
  have hd := hd x2_8 ex2_8
  refine lv_istore_n (lv' := [(2, .int x2_8), (0, .ref (ad 0)), (1, .int x1)]) K.1 K.2.1 dX8_added5_39 rfl hl (by decide) rfl (fun ls hl => ?_)
  refine lv_aload_n K.1 K.2.1 dX8_added5_40 rfl (lv_at hl 1 rfl) ?_
  refine rk_vv (As := []) (rest := []) K hw (cc_X8_next l D cy ad A g0 _  hd) lk_X8_181 (ci := 8) rfl (q0 := 0) (wsM_at cy ad _ (by decide)) ⟨Nat.le_of_ble_eq_true rfl, Nat.le_of_ble_eq_true rfl⟩ ⟨Nat.zero_le _, Nat.zero_le _⟩ rfl hl.1 (Nat.le_of_ble_eq_true rfl) rfl dX8_added5_41 (fun g_9 H locs hd hw => ?_)
  refine lv_aload_n K.1 K.2.1 dX8_added5_44 rfl (lv_at hl 1 rfl) ?_
  refine rk_vi (As := []) (rest := []) K hw (cc_X8_term5 l D cy ad A g_9 _  hd) lk_X8_220 (ci := 8) rfl (q0 := 0) (wsM_at cy ad _ (by decide)) ⟨Nat.le_of_ble_eq_true rfl, Nat.le_of_ble_eq_true rfl⟩ ⟨Nat.zero_le _, Nat.zero_le _⟩ rfl hl.1 (Nat.le_of_ble_eq_true rfl) rfl dX8_added5_45 (fun r_12 g_11 H locs hd hw => ?_)
  refine lv_topi (fun x3_13 ex3_13 => ?_)
  have hd := hd x3_13 ex3_13
  refine lv_istore_n (lv' := [(3, .int x3_13), (2, .int x2_8), (0, .ref (ad 0)), (1, .int x1)]) K.1 K.2.1 dX8_added5_48 rfl hl (by decide) rfl (fun ls hl => ?_)
  refine lv_iload_n K.1 K.2.1 dX8_added5_49 rfl (lv_at hl 1 rfl) ?_
  refine lv_if_eq (tgt := 59) K.1 K.2.1 dX8_added5_50 (by decide) (fun h_14 => ?_) (fun h_14 => ?_)
  · have hd := hd.1 h_14
    refine lv_iload_n K.1 K.2.1 dX8_added5_59 rfl (lv_at hl 3 rfl) ?_
    refine lv_iload_n K.1 K.2.1 dX8_added5_60 rfl (lv_at hl 0 rfl) ?_
    refine lv_isub K.1 K.2.1 dX8_added5_61 ?_
    exact bb_X8_added5_62 K hr hrc5 (x1 - x3_13) g_11 _ _ _ hd hw (lv_sub hl [2] rfl)
  · have hd := hd.2 h_14
    refine lv_iload_n K.1 K.2.1 dX8_added5_53 rfl (lv_at hl 3 rfl) ?_
    refine lv_iload_n K.1 K.2.1 dX8_added5_54 rfl (lv_at hl 0 rfl) ?_
    refine lv_iadd K.1 K.2.1 dX8_added5_55 ?_
    refine lv_goto (tgt := 62) K.1 K.2.1 dX8_added5_56 (by decide) ?_
    exact bb_X8_added5_62 K hr hrc5 (x1 + x3_13) g_11 _ _ _ hd hw (lv_sub hl [2] rfl)
set_option maxHeartbeats 4000000 in
set_option maxRecDepth 100000 in
theorem bb_X8_added5_23 {p : Program} {l : Launch} {e : Env} {s : State} {m : MethodId} {args : Array Value} {below : List Frame} {meth : Method} {c : Code} {D : va_G} {cy : Nat → ClassId} {ad : Nat → Nat} {A : Nat → Prop} {Q : Int32 → Sg → Prop} (K : Kx p s m args meth c cX8_added5 4 RX8 D cy) (hr : meth.sig.returnType = (some .int)) {rc5 : Int32 → Sg → Prop} (hrc5 : ∀ (x1 : Int32) (u : Sg) (H : Heap) (locs : List Loc) (ls : Array Slot), rc5 x1 u → Wd D A s.heap (wsM cy ad u) H locs → lv_has ls 4 [(0, .ref (ad 0)), (1, .int x1)] → W p l e (rmD 6) s m args below meth c H locs 0 0 (MQ below (va_Qi Q (PostG (wsM cy ad) D A) A) args s 0 0 A) (F0 m 5 ls [])) (x1 : Int32)  (g0 : Sg) (H : Heap) (locs : List Loc) (ls : Array Slot) (hd : vv_X8_added5_J23 rc5 x1 g0 Q) (hw : Wd D A s.heap (wsM cy ad g0) H locs) (hl : lv_has ls 4 [(0, .ref (ad 0)), (1, .int x1)]) : W p l e (rmD 6) s m args below meth c H locs 0 0 (MQ below (va_Qi Q (PostG (wsM cy ad) D A) A) args s 0 0 A) (F0 m 23 ls []) := by
  unfold vv_X8_added5_J23 at hd
  refine lv_aload_n K.1 K.2.1 dX8_added5_23 rfl (lv_at hl 0 rfl) ?_
  refine rm_get 23 K hw (by decide) kf_X8_160 rfl dX8_added5_24 ?_
  refine lv_ldc2 K.1 K.2.1 K.2.2.2.1 (K.2.2.2.2.1 _ kl_X8_223) dX8_added5_27 ?_
  refine W.lcmp K.1 K.2.1 dX8_added5_30 ?_
  refine lv_if_ne (tgt := 38) K.1 K.2.1 dX8_added5_31 (by decide) (fun h_7 => ?_) (fun h_7 => ?_)
  · have hd := hd.1 h_7
    refine lv_iconst (v := (0 : Int32)) K.1 K.2.1 dX8_added5_38 (by decide) ?_
    exact bb_X8_added5_39 K hr hrc5 x1 (0 : Int32) g0 _ _ _ hd hw (lv_sub hl [0, 1] rfl)
  · have hd := hd.2 h_7
    refine lv_iconst (v := (1 : Int32)) K.1 K.2.1 dX8_added5_34 (by decide) ?_
    refine lv_goto (tgt := 39) K.1 K.2.1 dX8_added5_35 (by decide) ?_
    exact bb_X8_added5_39 K hr hrc5 x1 (1 : Int32) g0 _ _ _ hd hw (lv_sub hl [0, 1] rfl)
set_option maxHeartbeats 4000000 in
set_option maxRecDepth 100000 in
theorem bb_X8_added5_5 {p : Program} {l : Launch} {e : Env} {s : State} {m : MethodId} {args : Array Value} {below : List Frame} {meth : Method} {c : Code} {D : va_G} {cy : Nat → ClassId} {ad : Nat → Nat} {A : Nat → Prop} {Q : Int32 → Sg → Prop} (K : Kx p s m args meth c cX8_added5 4 RX8 D cy) (hr : meth.sig.returnType = (some .int)) : ∀ (n : Nat) (x1 : Int32)  (g0 : Sg) (H : Heap) (locs : List Loc) (ls : Array Slot), vv_X8_added5_L5 Q n x1 g0 → Wd D A s.heap (wsM cy ad g0) H locs → lv_has ls 4 [(0, .ref (ad 0)), (1, .int x1)] → W p l e (rmD 6) s m args below meth c H locs 0 0 (MQ below (va_Qi Q (PostG (wsM cy ad) D A) A) args s 0 0 A) (F0 m 5 ls []) := by
  intro n
  induction n with
  | zero => intro _ _ _ _ _ hd; exact hd.elim
  | succ n ih =>
    intro x1 g0 H locs ls hd hw hl
    unfold vv_X8_added5_L5 at hd
    refine lv_aload_n K.1 K.2.1 dX8_added5_5 rfl (lv_at hl 0 rfl) ?_
    refine lv_bipush (v := (43 : Int32)) K.1 K.2.1 dX8_added5_6 (by decide) ?_
    refine rk_vi (As := [.int (43 : Int32)]) (rest := []) K hw (cc_X8_isSign l D cy ad A g0 _ (43 : Int32) hd) lk_X8_206 (ci := 8) rfl (q0 := 0) (wsM_at cy ad _ (by decide)) ⟨Nat.le_of_ble_eq_true rfl, Nat.le_of_ble_eq_true rfl⟩ ⟨Nat.zero_le _, Nat.zero_le _⟩ rfl hl.1 (Nat.le_of_ble_eq_true rfl) rfl dX8_added5_8 (fun r_5 g_4 H locs hd hw => ?_)
    refine lv_if_ne (tgt := 23) K.1 K.2.1 dX8_added5_11 (by decide) (fun h_6 => ?_) (fun h_6 => ?_)
    · have hd := hd.1 h_6
      exact bb_X8_added5_23 K hr ih x1 g_4 _ _ _ hd hw (lv_sub hl [0, 1] rfl)
    · have hd := hd.2 h_6
      refine lv_aload_n K.1 K.2.1 dX8_added5_14 rfl (lv_at hl 0 rfl) ?_
      refine lv_bipush (v := (45 : Int32)) K.1 K.2.1 dX8_added5_15 (by decide) ?_
      refine rk_vi (As := [.int (45 : Int32)]) (rest := []) K hw (cc_X8_isSign l D cy ad A g_4 _ (45 : Int32) hd) lk_X8_206 (ci := 8) rfl (q0 := 0) (wsM_at cy ad _ (by decide)) ⟨Nat.le_of_ble_eq_true rfl, Nat.le_of_ble_eq_true rfl⟩ ⟨Nat.zero_le _, Nat.zero_le _⟩ rfl hl.1 (Nat.le_of_ble_eq_true rfl) rfl dX8_added5_17 (fun r_17 g_16 H locs hd hw => ?_)
      refine lv_if_eq (tgt := 66) K.1 K.2.1 dX8_added5_20 (by decide) (fun h_18 => ?_) (fun h_18 => ?_)
      · have hd := hd.1 h_18
        refine lv_iload_n K.1 K.2.1 dX8_added5_66 rfl (lv_at hl 1 rfl) ?_
        exact rk_iret K hw hr hd dX8_added5_67
      · have hd := hd.2 h_18
        exact bb_X8_added5_23 K hr ih x1 g_16 _ _ _ hd hw (lv_sub hl [0, 1] rfl)
set_option maxHeartbeats 4000000 in
set_option maxRecDepth 100000 in
theorem cc_X8_added5 (l : Launch) (D : va_G) (cy : Nat → ClassId) (ad : Nat → Nat) (A : Nat → Prop) (g0 : Sg) (Q : Int32 → Sg → Prop)  (hd : vv_X8_added5  g0 Q) : Met l yX8_added5 (Cond.code yX8_added5 cX8_added5 4 (some .int) :: TT) (rmD 6) (va_Pc [.ref (ad 0)] (PreG (wsM cy ad) D cy A g0)) (va_Qi Q (PostG (wsM cy ad) D A) A) 0 0 A := by
  unfold vv_X8_added5 at hd
  refine Met.ofW (cc := cX8_added5) (maxL := 4) (ret := (some .int)) (by decide) rfl ?_
  intro p e s m args below meth c s₁ B hml hv
  obtain ⟨rfl, hP, hK0, hD⟩ := hv
  have K : Kx p s m _ meth c cX8_added5 4 RX8 D cy := ⟨B.exec, B.bytes, hml, findClass_of_methodNamed B.named, fun w h => atoms_spec (ws := Cond.code yX8_added5 cX8_added5 4 (some .int) :: TT) B.pre w (List.mem_cons_of_mem _ h), hK0, B.notSynchronized⟩
  have hw : Wd D A s.heap (wsM cy ad g0) s.heap [] := ⟨hP, hD, va_S.rf⟩
  have hr := B.returns
  have hl := lv_entry ([.ref (ad 0)]) (n := 4) (Nat.le_of_ble_eq_true rfl)
  rw [lg_entry_eq]
  generalize (lg_sl ([.ref (ad 0)]) ++ List.replicate (4 - (lg_sl ([.ref (ad 0)])).length) Slot.unset).toArray = ls at hl ⊢
  have hl : lv_has ls 4 [(0, .ref (ad 0))] := hl
  refine lv_aload_n K.1 K.2.1 dX8_added5_0 rfl (lv_at hl 0 rfl) ?_
  refine rk_vi (As := []) (rest := []) K hw (cc_X8_term5 l D cy ad A g0 _  hd) lk_X8_220 (ci := 8) rfl (q0 := 0) (wsM_at cy ad _ (by decide)) ⟨Nat.le_of_ble_eq_true rfl, Nat.le_of_ble_eq_true rfl⟩ ⟨Nat.zero_le _, Nat.zero_le _⟩ rfl hl.1 (Nat.le_of_ble_eq_true rfl) rfl dX8_added5_1 (fun r_2 g_1 H locs hd hw => ?_)
  refine lv_topi (fun x1_3 ex1_3 => ?_)
  have hd := hd x1_3 ex1_3
  refine lv_istore_n (lv' := [(1, .int x1_3), (0, .ref (ad 0))]) K.1 K.2.1 dX8_added5_4 rfl hl (by decide) rfl (fun ls hl => ?_)
  obtain ⟨n9, hd⟩ := hd
  exact bb_X8_added5_5 K hr  n9 x1_3 g_1 _ _ _ hd hw (lv_sub hl [1, 0] rfl)
theorem dX8_not5_0 : decode cX8_not5 0 = .ok (.aload_n 0, 1) := by decide +kernel
theorem dX8_not5_1 : decode cX8_not5 1 = .ok (.bipush 110, 2) := by decide +kernel
theorem dX8_not5_3 : decode cX8_not5 3 = .ok (.bipush 111, 2) := by decide +kernel
theorem dX8_not5_5 : decode cX8_not5 5 = .ok (.bipush 116, 2) := by decide +kernel
theorem dX8_not5_7 : decode cX8_not5 7 = .ok (.iconst 0, 1) := by decide +kernel
theorem dX8_not5_8 : decode cX8_not5 8 = .ok (.iconst 0, 1) := by decide +kernel
theorem dX8_not5_9 : decode cX8_not5 9 = .ok (.iconst 0, 1) := by decide +kernel
theorem dX8_not5_10 : decode cX8_not5 10 = .ok (.iconst 0, 1) := by decide +kernel
theorem dX8_not5_11 : decode cX8_not5 11 = .ok (.iconst 0, 1) := by decide +kernel
theorem dX8_not5_12 : decode cX8_not5 12 = .ok (.invokevirtual 184, 3) := by decide +kernel
theorem dX8_not5_15 : decode cX8_not5 15 = .ok (.ifCond .eq 10, 3) := by decide +kernel
theorem dX8_not5_18 : decode cX8_not5 18 = .ok (.aload_n 0, 1) := by decide +kernel
theorem dX8_not5_19 : decode cX8_not5 19 = .ok (.invokevirtual 209, 3) := by decide +kernel
theorem dX8_not5_22 : decode cX8_not5 22 = .ok (.pop, 1) := by decide +kernel
theorem dX8_not5_23 : decode cX8_not5 23 = .ok (.iconst 0, 1) := by decide +kernel
theorem dX8_not5_24 : decode cX8_not5 24 = .ok (.ireturn, 1) := by decide +kernel
theorem dX8_not5_25 : decode cX8_not5 25 = .ok (.aload_n 0, 1) := by decide +kernel
theorem dX8_not5_26 : decode cX8_not5 26 = .ok (.invokevirtual 225, 3) := by decide +kernel
theorem dX8_not5_29 : decode cX8_not5 29 = .ok (.istore_n 1, 1) := by decide +kernel
theorem dX8_not5_30 : decode cX8_not5 30 = .ok (.aload_n 0, 1) := by decide +kernel
theorem dX8_not5_31 : decode cX8_not5 31 = .ok (.bipush 60, 2) := by decide +kernel
theorem dX8_not5_33 : decode cX8_not5 33 = .ok (.invokevirtual 206, 3) := by decide +kernel
theorem dX8_not5_36 : decode cX8_not5 36 = .ok (.ifCond .ne 14, 3) := by decide +kernel
theorem dX8_not5_39 : decode cX8_not5 39 = .ok (.aload_n 0, 1) := by decide +kernel
theorem dX8_not5_40 : decode cX8_not5 40 = .ok (.bipush 61, 2) := by decide +kernel
theorem dX8_not5_42 : decode cX8_not5 42 = .ok (.invokevirtual 206, 3) := by decide +kernel
theorem dX8_not5_45 : decode cX8_not5 45 = .ok (.ifCond .ne 5, 3) := by decide +kernel
theorem dX8_not5_48 : decode cX8_not5 48 = .ok (.iload_n 1, 1) := by decide +kernel
theorem dX8_not5_49 : decode cX8_not5 49 = .ok (.ireturn, 1) := by decide +kernel
theorem dX8_not5_50 : decode cX8_not5 50 = .ok (.aload_n 0, 1) := by decide +kernel
theorem dX8_not5_51 : decode cX8_not5 51 = .ok (.getfield 160, 3) := by decide +kernel
theorem dX8_not5_54 : decode cX8_not5 54 = .ok (.ldc2_w 228, 3) := by decide +kernel
theorem dX8_not5_57 : decode cX8_not5 57 = .ok (.lcmp, 1) := by decide +kernel
theorem dX8_not5_58 : decode cX8_not5 58 = .ok (.ifCond .ne 7, 3) := by decide +kernel
theorem dX8_not5_61 : decode cX8_not5 61 = .ok (.iconst 1, 1) := by decide +kernel
theorem dX8_not5_62 : decode cX8_not5 62 = .ok (.goto 4, 3) := by decide +kernel
theorem dX8_not5_65 : decode cX8_not5 65 = .ok (.iconst 0, 1) := by decide +kernel
theorem dX8_not5_66 : decode cX8_not5 66 = .ok (.istore_n 2, 1) := by decide +kernel
theorem dX8_not5_67 : decode cX8_not5 67 = .ok (.aload_n 0, 1) := by decide +kernel
theorem dX8_not5_68 : decode cX8_not5 68 = .ok (.invokevirtual 181, 3) := by decide +kernel
theorem dX8_not5_71 : decode cX8_not5 71 = .ok (.aload_n 0, 1) := by decide +kernel
theorem dX8_not5_72 : decode cX8_not5 72 = .ok (.invokevirtual 225, 3) := by decide +kernel
theorem dX8_not5_75 : decode cX8_not5 75 = .ok (.istore_n 3, 1) := by decide +kernel
theorem dX8_not5_76 : decode cX8_not5 76 = .ok (.iload_n 2, 1) := by decide +kernel
theorem dX8_not5_77 : decode cX8_not5 77 = .ok (.ifCond .eq 11, 3) := by decide +kernel
theorem dX8_not5_80 : decode cX8_not5 80 = .ok (.iload_n 1, 1) := by decide +kernel
theorem dX8_not5_81 : decode cX8_not5 81 = .ok (.iload_n 3, 1) := by decide +kernel
theorem dX8_not5_82 : decode cX8_not5 82 = .ok (.if_icmp .ge 15, 3) := by decide +kernel
theorem dX8_not5_85 : decode cX8_not5 85 = .ok (.goto 8, 3) := by decide +kernel
theorem dX8_not5_88 : decode cX8_not5 88 = .ok (.iload_n 1, 1) := by decide +kernel
theorem dX8_not5_89 : decode cX8_not5 89 = .ok (.iload_n 3, 1) := by decide +kernel
theorem dX8_not5_90 : decode cX8_not5 90 = .ok (.if_icmp .ne 7, 3) := by decide +kernel
theorem dX8_not5_93 : decode cX8_not5 93 = .ok (.iconst 1, 1) := by decide +kernel
theorem dX8_not5_94 : decode cX8_not5 94 = .ok (.goto 4, 3) := by decide +kernel
theorem dX8_not5_97 : decode cX8_not5 97 = .ok (.iconst 0, 1) := by decide +kernel
theorem dX8_not5_98 : decode cX8_not5 98 = .ok (.ireturn, 1) := by decide +kernel
set_option maxHeartbeats 4000000 in
set_option maxRecDepth 100000 in
theorem bb_X8_not5_93 {p : Program} {l : Launch} {e : Env} {s : State} {m : MethodId} {args : Array Value} {below : List Frame} {meth : Method} {c : Code} {D : va_G} {cy : Nat → ClassId} {ad : Nat → Nat} {A : Nat → Prop} {Q : Int32 → Sg → Prop} (K : Kx p s m args meth c cX8_not5 4 RX8 D cy) (hr : meth.sig.returnType = (some .int))   (g0 : Sg) (H : Heap) (locs : List Loc) (ls : Array Slot) (hd : vv_X8_not5_J93 g0 Q) (hw : Wd D A s.heap (wsM cy ad g0) H locs) (hl : lv_has ls 4 []) : W p l e (rmD 7) s m args below meth c H locs 0 0 (MQ below (va_Qi Q (PostG (wsM cy ad) D A) A) args s 0 0 A) (F0 m 93 ls []) := by
  unfold vv_X8_not5_J93 at hd
  refine lv_iconst (v := (1 : Int32)) K.1 K.2.1 dX8_not5_93 (by decide) ?_
  refine lv_goto (tgt := 98) K.1 K.2.1 dX8_not5_94 (by decide) ?_
  exact rk_iret K hw hr hd dX8_not5_98
set_option maxHeartbeats 4000000 in
set_option maxRecDepth 100000 in
theorem bb_X8_not5_66 {p : Program} {l : Launch} {e : Env} {s : State} {m : MethodId} {args : Array Value} {below : List Frame} {meth : Method} {c : Code} {D : va_G} {cy : Nat → ClassId} {ad : Nat → Nat} {A : Nat → Prop} {Q : Int32 → Sg → Prop} (K : Kx p s m args meth c cX8_not5 4 RX8 D cy) (hr : meth.sig.returnType = (some .int)) (x1 : Int32) (t0 : Int32) (g0 : Sg) (H : Heap) (locs : List Loc) (ls : Array Slot) (hd : vv_X8_not5_J66 x1 t0 g0 Q) (hw : Wd D A s.heap (wsM cy ad g0) H locs) (hl : lv_has ls 4 [(0, .ref (ad 0)), (1, .int x1)]) : W p l e (rmD 7) s m args below meth c H locs 0 0 (MQ below (va_Qi Q (PostG (wsM cy ad) D A) A) args s 0 0 A) (F0 m 66 ls [.int t0]) := by
  unfold vv_X8_not5_J66 at hd
  refine lv_topi (fun x2_11 ex2_11 => ?_)
  have hd := hd x2_11 ex2_11
  refine lv_istore_n (lv' := [(2, .int x2_11), (0, .ref (ad 0)), (1, .int x1)]) K.1 K.2.1 dX8_not5_66 rfl hl (by decide) rfl (fun ls hl => ?_)
  refine lv_aload_n K.1 K.2.1 dX8_not5_67 rfl (lv_at hl 1 rfl) ?_
  refine rk_vv (As := []) (rest := []) K hw (cc_X8_next l D cy ad A g0 _  hd) lk_X8_181 (ci := 8) rfl (q0 := 0) (wsM_at cy ad _ (by decide)) ⟨Nat.le_of_ble_eq_true rfl, Nat.le_of_ble_eq_true rfl⟩ ⟨Nat.zero_le _, Nat.zero_le _⟩ rfl hl.1 (Nat.le_of_ble_eq_true rfl) rfl dX8_not5_68 (fun g_12 H locs hd hw => ?_)
  refine lv_aload_n K.1 K.2.1 dX8_not5_71 rfl (lv_at hl 1 rfl) ?_
  refine rk_vi (As := []) (rest := []) K hw (cc_X8_added5 l D cy ad A g_12 _  hd) lk_X8_225 (ci := 8) rfl (q0 := 0) (wsM_at cy ad _ (by decide)) ⟨Nat.le_of_ble_eq_true rfl, Nat.le_of_ble_eq_true rfl⟩ ⟨Nat.zero_le _, Nat.zero_le _⟩ rfl hl.1 (Nat.le_of_ble_eq_true rfl) rfl dX8_not5_72 (fun r_15 g_14 H locs hd hw => ?_)
  refine lv_topi (fun x3_16 ex3_16 => ?_)
  have hd := hd x3_16 ex3_16
  refine lv_istore_n (lv' := [(3, .int x3_16), (2, .int x2_11), (0, .ref (ad 0)), (1, .int x1)]) K.1 K.2.1 dX8_not5_75 rfl hl (by decide) rfl (fun ls hl => ?_)
  refine lv_iload_n K.1 K.2.1 dX8_not5_76 rfl (lv_at hl 1 rfl) ?_
  refine lv_if_eq (tgt := 88) K.1 K.2.1 dX8_not5_77 (by decide) (fun h_17 => ?_) (fun h_17 => ?_)
  · have hd := hd.1 h_17
    refine lv_iload_n K.1 K.2.1 dX8_not5_88 rfl (lv_at hl 3 rfl) ?_
    refine lv_iload_n K.1 K.2.1 dX8_not5_89 rfl (lv_at hl 0 rfl) ?_
    refine lv_icmp_ne (tgt := 97) K.1 K.2.1 dX8_not5_90 (by decide) (fun h_18 => ?_) (fun h_18 => ?_)
    · have hd := hd.1 h_18
      refine lv_iconst (v := (0 : Int32)) K.1 K.2.1 dX8_not5_97 (by decide) ?_
      exact rk_iret K hw hr hd dX8_not5_98
    · have hd := hd.2 h_18
      exact bb_X8_not5_93 K hr   g_14 _ _ _ hd hw (lv_sub hl [] rfl)
  · have hd := hd.2 h_17
    refine lv_iload_n K.1 K.2.1 dX8_not5_80 rfl (lv_at hl 3 rfl) ?_
    refine lv_iload_n K.1 K.2.1 dX8_not5_81 rfl (lv_at hl 0 rfl) ?_
    refine lv_icmp_ge (tgt := 97) K.1 K.2.1 dX8_not5_82 (by decide) (fun h_19 => ?_) (fun h_19 => ?_)
    · have hd := hd.1 h_19
      refine lv_iconst (v := (0 : Int32)) K.1 K.2.1 dX8_not5_97 (by decide) ?_
      exact rk_iret K hw hr hd dX8_not5_98
    · have hd := hd.2 h_19
      refine lv_goto (tgt := 93) K.1 K.2.1 dX8_not5_85 (by decide) ?_
      exact bb_X8_not5_93 K hr   g_14 _ _ _ hd hw (lv_sub hl [] rfl)
set_option maxHeartbeats 4000000 in
set_option maxRecDepth 100000 in
theorem bb_X8_not5_50 {p : Program} {l : Launch} {e : Env} {s : State} {m : MethodId} {args : Array Value} {below : List Frame} {meth : Method} {c : Code} {D : va_G} {cy : Nat → ClassId} {ad : Nat → Nat} {A : Nat → Prop} {Q : Int32 → Sg → Prop} (K : Kx p s m args meth c cX8_not5 4 RX8 D cy) (hr : meth.sig.returnType = (some .int)) (x1 : Int32)  (g0 : Sg) (H : Heap) (locs : List Loc) (ls : Array Slot) (hd : vv_X8_not5_J50 x1 g0 Q) (hw : Wd D A s.heap (wsM cy ad g0) H locs) (hl : lv_has ls 4 [(0, .ref (ad 0)), (1, .int x1)]) : W p l e (rmD 7) s m args below meth c H locs 0 0 (MQ below (va_Qi Q (PostG (wsM cy ad) D A) A) args s 0 0 A) (F0 m 50 ls []) := by
  unfold vv_X8_not5_J50 at hd
  refine lv_aload_n K.1 K.2.1 dX8_not5_50 rfl (lv_at hl 0 rfl) ?_
  refine rm_get 23 K hw (by decide) kf_X8_160 rfl dX8_not5_51 ?_
  refine lv_ldc2 K.1 K.2.1 K.2.2.2.1 (K.2.2.2.2.1 _ kl_X8_228) dX8_not5_54 ?_
  refine W.lcmp K.1 K.2.1 dX8_not5_57 ?_
  refine lv_if_ne (tgt := 65) K.1 K.2.1 dX8_not5_58 (by decide) (fun h_10 => ?_) (fun h_10 => ?_)
  · have hd := hd.1 h_10
    refine lv_iconst (v := (0 : Int32)) K.1 K.2.1 dX8_not5_65 (by decide) ?_
    exact bb_X8_not5_66 K hr  x1 (0 : Int32) g0 _ _ _ hd hw (lv_sub hl [0, 1] rfl)
  · have hd := hd.2 h_10
    refine lv_iconst (v := (1 : Int32)) K.1 K.2.1 dX8_not5_61 (by decide) ?_
    refine lv_goto (tgt := 66) K.1 K.2.1 dX8_not5_62 (by decide) ?_
    exact bb_X8_not5_66 K hr  x1 (1 : Int32) g0 _ _ _ hd hw (lv_sub hl [0, 1] rfl)
set_option maxHeartbeats 4000000 in
set_option maxRecDepth 100000 in
theorem cc_X8_not5 (l : Launch) (D : va_G) (cy : Nat → ClassId) (ad : Nat → Nat) (A : Nat → Prop) (g0 : Sg) (Q : Int32 → Sg → Prop)  (hd : vv_X8_not5  g0 Q) : Met l yX8_not5 (Cond.code yX8_not5 cX8_not5 4 (some .int) :: TT) (rmD 7) (va_Pc [.ref (ad 0)] (PreG (wsM cy ad) D cy A g0)) (va_Qi Q (PostG (wsM cy ad) D A) A) 0 0 A := by
  unfold vv_X8_not5 at hd
  refine Met.ofW (cc := cX8_not5) (maxL := 4) (ret := (some .int)) (by decide) rfl ?_
  intro p e s m args below meth c s₁ B hml hv
  obtain ⟨rfl, hP, hK0, hD⟩ := hv
  have K : Kx p s m _ meth c cX8_not5 4 RX8 D cy := ⟨B.exec, B.bytes, hml, findClass_of_methodNamed B.named, fun w h => atoms_spec (ws := Cond.code yX8_not5 cX8_not5 4 (some .int) :: TT) B.pre w (List.mem_cons_of_mem _ h), hK0, B.notSynchronized⟩
  have hw : Wd D A s.heap (wsM cy ad g0) s.heap [] := ⟨hP, hD, va_S.rf⟩
  have hr := B.returns
  have hl := lv_entry ([.ref (ad 0)]) (n := 4) (Nat.le_of_ble_eq_true rfl)
  rw [lg_entry_eq]
  generalize (lg_sl ([.ref (ad 0)]) ++ List.replicate (4 - (lg_sl ([.ref (ad 0)])).length) Slot.unset).toArray = ls at hl ⊢
  have hl : lv_has ls 4 [(0, .ref (ad 0))] := hl
  refine lv_aload_n K.1 K.2.1 dX8_not5_0 rfl (lv_at hl 0 rfl) ?_
  refine lv_bipush (v := (110 : Int32)) K.1 K.2.1 dX8_not5_1 (by decide) ?_
  refine lv_bipush (v := (111 : Int32)) K.1 K.2.1 dX8_not5_3 (by decide) ?_
  refine lv_bipush (v := (116 : Int32)) K.1 K.2.1 dX8_not5_5 (by decide) ?_
  refine lv_iconst (v := (0 : Int32)) K.1 K.2.1 dX8_not5_7 (by decide) ?_
  refine lv_iconst (v := (0 : Int32)) K.1 K.2.1 dX8_not5_8 (by decide) ?_
  refine lv_iconst (v := (0 : Int32)) K.1 K.2.1 dX8_not5_9 (by decide) ?_
  refine lv_iconst (v := (0 : Int32)) K.1 K.2.1 dX8_not5_10 (by decide) ?_
  refine lv_iconst (v := (0 : Int32)) K.1 K.2.1 dX8_not5_11 (by decide) ?_
  refine rk_vi (As := [.int (110 : Int32), .int (111 : Int32), .int (116 : Int32), .int (0 : Int32), .int (0 : Int32), .int (0 : Int32), .int (0 : Int32), .int (0 : Int32)]) (rest := []) K hw (cc_X8_isWord l D cy ad A g0 _ (110 : Int32) (111 : Int32) (116 : Int32) (0 : Int32) (0 : Int32) (0 : Int32) (0 : Int32) (0 : Int32) hd) lk_X8_184 (ci := 8) rfl (q0 := 0) (wsM_at cy ad _ (by decide)) ⟨Nat.le_of_ble_eq_true rfl, Nat.le_of_ble_eq_true rfl⟩ ⟨Nat.zero_le _, Nat.zero_le _⟩ rfl hl.1 (Nat.le_of_ble_eq_true rfl) rfl dX8_not5_12 (fun r_2 g_1 H locs hd hw => ?_)
  refine lv_if_eq (tgt := 25) K.1 K.2.1 dX8_not5_15 (by decide) (fun h_3 => ?_) (fun h_3 => ?_)
  · have hd := hd.1 h_3
    refine lv_aload_n K.1 K.2.1 dX8_not5_25 rfl (lv_at hl 0 rfl) ?_
    refine rk_vi (As := []) (rest := []) K hw (cc_X8_added5 l D cy ad A g_1 _  hd) lk_X8_225 (ci := 8) rfl (q0 := 0) (wsM_at cy ad _ (by decide)) ⟨Nat.le_of_ble_eq_true rfl, Nat.le_of_ble_eq_true rfl⟩ ⟨Nat.zero_le _, Nat.zero_le _⟩ rfl hl.1 (Nat.le_of_ble_eq_true rfl) rfl dX8_not5_26 (fun r_5 g_4 H locs hd hw => ?_)
    refine lv_topi (fun x1_6 ex1_6 => ?_)
    have hd := hd x1_6 ex1_6
    refine lv_istore_n (lv' := [(1, .int x1_6), (0, .ref (ad 0))]) K.1 K.2.1 dX8_not5_29 rfl hl (by decide) rfl (fun ls hl => ?_)
    refine lv_aload_n K.1 K.2.1 dX8_not5_30 rfl (lv_at hl 1 rfl) ?_
    refine lv_bipush (v := (60 : Int32)) K.1 K.2.1 dX8_not5_31 (by decide) ?_
    refine rk_vi (As := [.int (60 : Int32)]) (rest := []) K hw (cc_X8_isSign l D cy ad A g_4 _ (60 : Int32) hd) lk_X8_206 (ci := 8) rfl (q0 := 0) (wsM_at cy ad _ (by decide)) ⟨Nat.le_of_ble_eq_true rfl, Nat.le_of_ble_eq_true rfl⟩ ⟨Nat.zero_le _, Nat.zero_le _⟩ rfl hl.1 (Nat.le_of_ble_eq_true rfl) rfl dX8_not5_33 (fun r_8 g_7 H locs hd hw => ?_)
    refine lv_if_ne (tgt := 50) K.1 K.2.1 dX8_not5_36 (by decide) (fun h_9 => ?_) (fun h_9 => ?_)
    · have hd := hd.1 h_9
      exact bb_X8_not5_50 K hr  x1_6 g_7 _ _ _ hd hw (lv_sub hl [1, 0] rfl)
    · have hd := hd.2 h_9
      refine lv_aload_n K.1 K.2.1 dX8_not5_39 rfl (lv_at hl 1 rfl) ?_
      refine lv_bipush (v := (61 : Int32)) K.1 K.2.1 dX8_not5_40 (by decide) ?_
      refine rk_vi (As := [.int (61 : Int32)]) (rest := []) K hw (cc_X8_isSign l D cy ad A g_7 _ (61 : Int32) hd) lk_X8_206 (ci := 8) rfl (q0 := 0) (wsM_at cy ad _ (by decide)) ⟨Nat.le_of_ble_eq_true rfl, Nat.le_of_ble_eq_true rfl⟩ ⟨Nat.zero_le _, Nat.zero_le _⟩ rfl hl.1 (Nat.le_of_ble_eq_true rfl) rfl dX8_not5_42 (fun r_21 g_20 H locs hd hw => ?_)
      refine lv_if_ne (tgt := 50) K.1 K.2.1 dX8_not5_45 (by decide) (fun h_22 => ?_) (fun h_22 => ?_)
      · have hd := hd.1 h_22
        exact bb_X8_not5_50 K hr  x1_6 g_20 _ _ _ hd hw (lv_sub hl [1, 0] rfl)
      · have hd := hd.2 h_22
        refine lv_iload_n K.1 K.2.1 dX8_not5_48 rfl (lv_at hl 0 rfl) ?_
        exact rk_iret K hw hr hd dX8_not5_49
  · have hd := hd.2 h_3
    refine lv_aload_n K.1 K.2.1 dX8_not5_18 rfl (lv_at hl 0 rfl) ?_
    refine rk_vi (As := []) (rest := []) K hw (cc_X8_opens l D cy ad A g_1 _  hd) lk_X8_209 (ci := 8) rfl (q0 := 0) (wsM_at cy ad _ (by decide)) ⟨Nat.le_of_ble_eq_true rfl, Nat.le_of_ble_eq_true rfl⟩ ⟨Nat.zero_le _, Nat.zero_le _⟩ rfl hl.1 (Nat.le_of_ble_eq_true rfl) rfl dX8_not5_19 (fun r_24 g_23 H locs hd hw => ?_)
    refine lv_pop K.1 K.2.1 dX8_not5_22 rfl ?_
    refine lv_iconst (v := (0 : Int32)) K.1 K.2.1 dX8_not5_23 (by decide) ?_
    exact rk_iret K hw hr hd dX8_not5_24
theorem dX8_both5_0 : decode cX8_both5 0 = .ok (.aload_n 0, 1) := by decide +kernel
theorem dX8_both5_1 : decode cX8_both5 1 = .ok (.invokevirtual 230, 3) := by decide +kernel
theorem dX8_both5_4 : decode cX8_both5 4 = .ok (.istore_n 1, 1) := by decide +kernel
theorem dX8_both5_5 : decode cX8_both5 5 = .ok (.aload_n 0, 1) := by decide +kernel
theorem dX8_both5_6 : decode cX8_both5 6 = .ok (.bipush 97, 2) := by decide +kernel
theorem dX8_both5_8 : decode cX8_both5 8 = .ok (.bipush 110, 2) := by decide +kernel
theorem dX8_both5_10 : decode cX8_both5 10 = .ok (.bipush 100, 2) := by decide +kernel
theorem dX8_both5_12 : decode cX8_both5 12 = .ok (.iconst 0, 1) := by decide +kernel
theorem dX8_both5_13 : decode cX8_both5 13 = .ok (.iconst 0, 1) := by decide +kernel
theorem dX8_both5_14 : decode cX8_both5 14 = .ok (.iconst 0, 1) := by decide +kernel
theorem dX8_both5_15 : decode cX8_both5 15 = .ok (.iconst 0, 1) := by decide +kernel
theorem dX8_both5_16 : decode cX8_both5 16 = .ok (.iconst 0, 1) := by decide +kernel
theorem dX8_both5_17 : decode cX8_both5 17 = .ok (.invokevirtual 184, 3) := by decide +kernel
theorem dX8_both5_20 : decode cX8_both5 20 = .ok (.ifCond .eq 29, 3) := by decide +kernel
theorem dX8_both5_23 : decode cX8_both5 23 = .ok (.aload_n 0, 1) := by decide +kernel
theorem dX8_both5_24 : decode cX8_both5 24 = .ok (.invokevirtual 181, 3) := by decide +kernel
theorem dX8_both5_27 : decode cX8_both5 27 = .ok (.aload_n 0, 1) := by decide +kernel
theorem dX8_both5_28 : decode cX8_both5 28 = .ok (.invokevirtual 230, 3) := by decide +kernel
theorem dX8_both5_31 : decode cX8_both5 31 = .ok (.istore_n 2, 1) := by decide +kernel
theorem dX8_both5_32 : decode cX8_both5 32 = .ok (.iload_n 1, 1) := by decide +kernel
theorem dX8_both5_33 : decode cX8_both5 33 = .ok (.ifCond .eq 11, 3) := by decide +kernel
theorem dX8_both5_36 : decode cX8_both5 36 = .ok (.iload_n 2, 1) := by decide +kernel
theorem dX8_both5_37 : decode cX8_both5 37 = .ok (.ifCond .eq 7, 3) := by decide +kernel
theorem dX8_both5_40 : decode cX8_both5 40 = .ok (.iconst 1, 1) := by decide +kernel
theorem dX8_both5_41 : decode cX8_both5 41 = .ok (.goto 4, 3) := by decide +kernel
theorem dX8_both5_44 : decode cX8_both5 44 = .ok (.iconst 0, 1) := by decide +kernel
theorem dX8_both5_45 : decode cX8_both5 45 = .ok (.istore_n 1, 1) := by decide +kernel
theorem dX8_both5_46 : decode cX8_both5 46 = .ok (.goto (-41), 3) := by decide +kernel
theorem dX8_both5_49 : decode cX8_both5 49 = .ok (.iload_n 1, 1) := by decide +kernel
theorem dX8_both5_50 : decode cX8_both5 50 = .ok (.ireturn, 1) := by decide +kernel
set_option maxHeartbeats 4000000 in
set_option maxRecDepth 100000 in
theorem bb_X8_both5_45 {p : Program} {l : Launch} {e : Env} {s : State} {m : MethodId} {args : Array Value} {below : List Frame} {meth : Method} {c : Code} {D : va_G} {cy : Nat → ClassId} {ad : Nat → Nat} {A : Nat → Prop} {Q : Int32 → Sg → Prop} (K : Kx p s m args meth c cX8_both5 3 RX8 D cy) (hr : meth.sig.returnType = (some .int)) {rc5 : Int32 → Sg → Prop} (hrc5 : ∀ (x1 : Int32) (u : Sg) (H : Heap) (locs : List Loc) (ls : Array Slot), rc5 x1 u → Wd D A s.heap (wsM cy ad u) H locs → lv_has ls 3 [(0, .ref (ad 0)), (1, .int x1)] → W p l e (rmD 8) s m args below meth c H locs 0 0 (MQ below (va_Qi Q (PostG (wsM cy ad) D A) A) args s 0 0 A) (F0 m 5 ls []))  (t0 : Int32) (g0 : Sg) (H : Heap) (locs : List Loc) (ls : Array Slot) (hd : vv_X8_both5_J45 rc5 t0 g0 Q) (hw : Wd D A s.heap (wsM cy ad g0) H locs) (hl : lv_has ls 3 [(0, .ref (ad 0))]) : W p l e (rmD 8) s m args below meth c H locs 0 0 (MQ below (va_Qi Q (PostG (wsM cy ad) D A) A) args s 0 0 A) (F0 m 45 ls [.int t0]) := by
  unfold vv_X8_both5_J45 at hd
  refine lv_topi (fun x1_13 ex1_13 => ?_)
  have hd := hd x1_13 ex1_13
  refine lv_istore_n (lv' := [(1, .int x1_13), (0, .ref (ad 0))]) K.1 K.2.1 dX8_both5_45 rfl hl (by decide) rfl (fun ls hl => ?_)
  refine lv_goto (tgt := 5) K.1 K.2.1 dX8_both5_46 (by decide) ?_
  exact hrc5 x1_13 g0 _ _ _ hd hw (lv_sub hl [1, 0] rfl)
set_option maxHeartbeats 4000000 in
set_option maxRecDepth 100000 in
theorem bb_X8_both5_44 {p : Program} {l : Launch} {e : Env} {s : State} {m : MethodId} {args : Array Value} {below : List Frame} {meth : Method} {c : Code} {D : va_G} {cy : Nat → ClassId} {ad : Nat → Nat} {A : Nat → Prop} {Q : Int32 → Sg → Prop} (K : Kx p s m args meth c cX8_both5 3 RX8 D cy) (hr : meth.sig.returnType = (some .int)) {rc5 : Int32 → Sg → Prop} (hrc5 : ∀ (x1 : Int32) (u : Sg) (H : Heap) (locs : List Loc) (ls : Array Slot), rc5 x1 u → Wd D A s.heap (wsM cy ad u) H locs → lv_has ls 3 [(0, .ref (ad 0)), (1, .int x1)] → W p l e (rmD 8) s m args below meth c H locs 0 0 (MQ below (va_Qi Q (PostG (wsM cy ad) D A) A) args s 0 0 A) (F0 m 5 ls []))   (g0 : Sg) (H : Heap) (locs : List Loc) (ls : Array Slot) (hd : vv_X8_both5_J44 rc5 g0 Q) (hw : Wd D A s.heap (wsM cy ad g0) H locs) (hl : lv_has ls 3 [(0, .ref (ad 0))]) : W p l e (rmD 8) s m args below meth c H locs 0 0 (MQ below (va_Qi Q (PostG (wsM cy ad) D A) A) args s 0 0 A) (F0 m 44 ls []) := by
  unfold vv_X8_both5_J44 at hd
  refine lv_iconst (v := (0 : Int32)) K.1 K.2.1 dX8_both5_44 (by decide) ?_
  exact bb_X8_both5_45 K hr hrc5 (0 : Int32) g0 _ _ _ hd hw (lv_sub hl [0] rfl)
set_option maxHeartbeats 4000000 in
set_option maxRecDepth 100000 in
theorem bb_X8_both5_5 {p : Program} {l : Launch} {e : Env} {s : State} {m : MethodId} {args : Array Value} {below : List Frame} {meth : Method} {c : Code} {D : va_G} {cy : Nat → ClassId} {ad : Nat → Nat} {A : Nat → Prop} {Q : Int32 → Sg → Prop} (K : Kx p s m args meth c cX8_both5 3 RX8 D cy) (hr : meth.sig.returnType = (some .int)) : ∀ (n : Nat) (x1 : Int32)  (g0 : Sg) (H : Heap) (locs : List Loc) (ls : Array Slot), vv_X8_both5_L5 Q n x1 g0 → Wd D A s.heap (wsM cy ad g0) H locs → lv_has ls 3 [(0, .ref (ad 0)), (1, .int x1)] → W p l e (rmD 8) s m args below meth c H locs 0 0 (MQ below (va_Qi Q (PostG (wsM cy ad) D A) A) args s 0 0 A) (F0 m 5 ls []) := by
  intro n
  induction n with
  | zero => intro _ _ _ _ _ hd; exact hd.elim
  | succ n ih =>
    intro x1 g0 H locs ls hd hw hl
    unfold vv_X8_both5_L5 at hd
    refine lv_aload_n K.1 K.2.1 dX8_both5_5 rfl (lv_at hl 0 rfl) ?_
    refine lv_bipush (v := (97 : Int32)) K.1 K.2.1 dX8_both5_6 (by decide) ?_
    refine lv_bipush (v := (110 : Int32)) K.1 K.2.1 dX8_both5_8 (by decide) ?_
    refine lv_bipush (v := (100 : Int32)) K.1 K.2.1 dX8_both5_10 (by decide) ?_
    refine lv_iconst (v := (0 : Int32)) K.1 K.2.1 dX8_both5_12 (by decide) ?_
    refine lv_iconst (v := (0 : Int32)) K.1 K.2.1 dX8_both5_13 (by decide) ?_
    refine lv_iconst (v := (0 : Int32)) K.1 K.2.1 dX8_both5_14 (by decide) ?_
    refine lv_iconst (v := (0 : Int32)) K.1 K.2.1 dX8_both5_15 (by decide) ?_
    refine lv_iconst (v := (0 : Int32)) K.1 K.2.1 dX8_both5_16 (by decide) ?_
    refine rk_vi (As := [.int (97 : Int32), .int (110 : Int32), .int (100 : Int32), .int (0 : Int32), .int (0 : Int32), .int (0 : Int32), .int (0 : Int32), .int (0 : Int32)]) (rest := []) K hw (cc_X8_isWord l D cy ad A g0 _ (97 : Int32) (110 : Int32) (100 : Int32) (0 : Int32) (0 : Int32) (0 : Int32) (0 : Int32) (0 : Int32) hd) lk_X8_184 (ci := 8) rfl (q0 := 0) (wsM_at cy ad _ (by decide)) ⟨Nat.le_of_ble_eq_true rfl, Nat.le_of_ble_eq_true rfl⟩ ⟨Nat.zero_le _, Nat.zero_le _⟩ rfl hl.1 (Nat.le_of_ble_eq_true rfl) rfl dX8_both5_17 (fun r_5 g_4 H locs hd hw => ?_)
    refine lv_if_eq (tgt := 49) K.1 K.2.1 dX8_both5_20 (by decide) (fun h_6 => ?_) (fun h_6 => ?_)
    · have hd := hd.1 h_6
      refine lv_iload_n K.1 K.2.1 dX8_both5_49 rfl (lv_at hl 1 rfl) ?_
      exact rk_iret K hw hr hd dX8_both5_50
    · have hd := hd.2 h_6
      refine lv_aload_n K.1 K.2.1 dX8_both5_23 rfl (lv_at hl 0 rfl) ?_
      refine rk_vv (As := []) (rest := []) K hw (cc_X8_next l D cy ad A g_4 _  hd) lk_X8_181 (ci := 8) rfl (q0 := 0) (wsM_at cy ad _ (by decide)) ⟨Nat.le_of_ble_eq_true rfl, Nat.le_of_ble_eq_true rfl⟩ ⟨Nat.zero_le _, Nat.zero_le _⟩ rfl hl.1 (Nat.le_of_ble_eq_true rfl) rfl dX8_both5_24 (fun g_7 H locs hd hw => ?_)
      refine lv_aload_n K.1 K.2.1 dX8_both5_27 rfl (lv_at hl 0 rfl) ?_
      refine rk_vi (As := []) (rest := []) K hw (cc_X8_not5 l D cy ad A g_7 _  hd) lk_X8_230 (ci := 8) rfl (q0 := 0) (wsM_at cy ad _ (by decide)) ⟨Nat.le_of_ble_eq_true rfl, Nat.le_of_ble_eq_true rfl⟩ ⟨Nat.zero_le _, Nat.zero_le _⟩ rfl hl.1 (Nat.le_of_ble_eq_true rfl) rfl dX8_both5_28 (fun r_10 g_9 H locs hd hw => ?_)
      refine lv_topi (fun x2_11 ex2_11 => ?_)
      have hd := hd x2_11 ex2_11
      refine lv_istore_n (lv' := [(2, .int x2_11), (0, .ref (ad 0)), (1, .int x1)]) K.1 K.2.1 dX8_both5_31 rfl hl (by decide) rfl (fun ls hl => ?_)
      refine lv_iload_n K.1 K.2.1 dX8_both5_32 rfl (lv_at hl 2 rfl) ?_
      refine lv_if_eq (tgt := 44) K.1 K.2.1 dX8_both5_33 (by decide) (fun h_12 => ?_) (fun h_12 => ?_)
      · have hd := hd.1 h_12
        exact bb_X8_both5_44 K hr ih  g_9 _ _ _ hd hw (lv_sub hl [1] rfl)
      · have hd := hd.2 h_12
        refine lv_iload_n K.1 K.2.1 dX8_both5_36 rfl (lv_at hl 0 rfl) ?_
        refine lv_if_eq (tgt := 44) K.1 K.2.1 dX8_both5_37 (by decide) (fun h_14 => ?_) (fun h_14 => ?_)
        · have hd := hd.1 h_14
          exact bb_X8_both5_44 K hr ih  g_9 _ _ _ hd hw (lv_sub hl [1] rfl)
        · have hd := hd.2 h_14
          refine lv_iconst (v := (1 : Int32)) K.1 K.2.1 dX8_both5_40 (by decide) ?_
          refine lv_goto (tgt := 45) K.1 K.2.1 dX8_both5_41 (by decide) ?_
          exact bb_X8_both5_45 K hr ih (1 : Int32) g_9 _ _ _ hd hw (lv_sub hl [1] rfl)
set_option maxHeartbeats 4000000 in
set_option maxRecDepth 100000 in
theorem cc_X8_both5 (l : Launch) (D : va_G) (cy : Nat → ClassId) (ad : Nat → Nat) (A : Nat → Prop) (g0 : Sg) (Q : Int32 → Sg → Prop)  (hd : vv_X8_both5  g0 Q) : Met l yX8_both5 (Cond.code yX8_both5 cX8_both5 3 (some .int) :: TT) (rmD 8) (va_Pc [.ref (ad 0)] (PreG (wsM cy ad) D cy A g0)) (va_Qi Q (PostG (wsM cy ad) D A) A) 0 0 A := by
  unfold vv_X8_both5 at hd
  refine Met.ofW (cc := cX8_both5) (maxL := 3) (ret := (some .int)) (by decide) rfl ?_
  intro p e s m args below meth c s₁ B hml hv
  obtain ⟨rfl, hP, hK0, hD⟩ := hv
  have K : Kx p s m _ meth c cX8_both5 3 RX8 D cy := ⟨B.exec, B.bytes, hml, findClass_of_methodNamed B.named, fun w h => atoms_spec (ws := Cond.code yX8_both5 cX8_both5 3 (some .int) :: TT) B.pre w (List.mem_cons_of_mem _ h), hK0, B.notSynchronized⟩
  have hw : Wd D A s.heap (wsM cy ad g0) s.heap [] := ⟨hP, hD, va_S.rf⟩
  have hr := B.returns
  have hl := lv_entry ([.ref (ad 0)]) (n := 3) (Nat.le_of_ble_eq_true rfl)
  rw [lg_entry_eq]
  generalize (lg_sl ([.ref (ad 0)]) ++ List.replicate (3 - (lg_sl ([.ref (ad 0)])).length) Slot.unset).toArray = ls at hl ⊢
  have hl : lv_has ls 3 [(0, .ref (ad 0))] := hl
  refine lv_aload_n K.1 K.2.1 dX8_both5_0 rfl (lv_at hl 0 rfl) ?_
  refine rk_vi (As := []) (rest := []) K hw (cc_X8_not5 l D cy ad A g0 _  hd) lk_X8_230 (ci := 8) rfl (q0 := 0) (wsM_at cy ad _ (by decide)) ⟨Nat.le_of_ble_eq_true rfl, Nat.le_of_ble_eq_true rfl⟩ ⟨Nat.zero_le _, Nat.zero_le _⟩ rfl hl.1 (Nat.le_of_ble_eq_true rfl) rfl dX8_both5_1 (fun r_2 g_1 H locs hd hw => ?_)
  refine lv_topi (fun x1_3 ex1_3 => ?_)
  have hd := hd x1_3 ex1_3
  refine lv_istore_n (lv' := [(1, .int x1_3), (0, .ref (ad 0))]) K.1 K.2.1 dX8_both5_4 rfl hl (by decide) rfl (fun ls hl => ?_)
  obtain ⟨n9, hd⟩ := hd
  exact bb_X8_both5_5 K hr  n9 x1_3 g_1 _ _ _ hd hw (lv_sub hl [1, 0] rfl)
theorem dX8_either5_0 : decode cX8_either5 0 = .ok (.aload_n 0, 1) := by decide +kernel
theorem dX8_either5_1 : decode cX8_either5 1 = .ok (.invokevirtual 233, 3) := by decide +kernel
theorem dX8_either5_4 : decode cX8_either5 4 = .ok (.istore_n 1, 1) := by decide +kernel
theorem dX8_either5_5 : decode cX8_either5 5 = .ok (.aload_n 0, 1) := by decide +kernel
theorem dX8_either5_6 : decode cX8_either5 6 = .ok (.bipush 111, 2) := by decide +kernel
theorem dX8_either5_8 : decode cX8_either5 8 = .ok (.bipush 114, 2) := by decide +kernel
theorem dX8_either5_10 : decode cX8_either5 10 = .ok (.iconst 0, 1) := by decide +kernel
theorem dX8_either5_11 : decode cX8_either5 11 = .ok (.iconst 0, 1) := by decide +kernel
theorem dX8_either5_12 : decode cX8_either5 12 = .ok (.iconst 0, 1) := by decide +kernel
theorem dX8_either5_13 : decode cX8_either5 13 = .ok (.iconst 0, 1) := by decide +kernel
theorem dX8_either5_14 : decode cX8_either5 14 = .ok (.iconst 0, 1) := by decide +kernel
theorem dX8_either5_15 : decode cX8_either5 15 = .ok (.iconst 0, 1) := by decide +kernel
theorem dX8_either5_16 : decode cX8_either5 16 = .ok (.invokevirtual 184, 3) := by decide +kernel
theorem dX8_either5_19 : decode cX8_either5 19 = .ok (.ifCond .eq 29, 3) := by decide +kernel
theorem dX8_either5_22 : decode cX8_either5 22 = .ok (.aload_n 0, 1) := by decide +kernel
theorem dX8_either5_23 : decode cX8_either5 23 = .ok (.invokevirtual 181, 3) := by decide +kernel
theorem dX8_either5_26 : decode cX8_either5 26 = .ok (.aload_n 0, 1) := by decide +kernel
theorem dX8_either5_27 : decode cX8_either5 27 = .ok (.invokevirtual 233, 3) := by decide +kernel
theorem dX8_either5_30 : decode cX8_either5 30 = .ok (.istore_n 2, 1) := by decide +kernel
theorem dX8_either5_31 : decode cX8_either5 31 = .ok (.iload_n 1, 1) := by decide +kernel
theorem dX8_either5_32 : decode cX8_either5 32 = .ok (.ifCond .ne 7, 3) := by decide +kernel
theorem dX8_either5_35 : decode cX8_either5 35 = .ok (.iload_n 2, 1) := by decide +kernel
theorem dX8_either5_36 : decode cX8_either5 36 = .ok (.ifCond .eq 7, 3) := by decide +kernel
theorem dX8_either5_39 : decode cX8_either5 39 = .ok (.iconst 1, 1) := by decide +kernel
theorem dX8_either5_40 : decode cX8_either5 40 = .ok (.goto 4, 3) := by decide +kernel
theorem dX8_either5_43 : decode cX8_either5 43 = .ok (.iconst 0, 1) := by decide +kernel
theorem dX8_either5_44 : decode cX8_either5 44 = .ok (.istore_n 1, 1) := by decide +kernel
theorem dX8_either5_45 : decode cX8_either5 45 = .ok (.goto (-40), 3) := by decide +kernel
theorem dX8_either5_48 : decode cX8_either5 48 = .ok (.iload_n 1, 1) := by decide +kernel
theorem dX8_either5_49 : decode cX8_either5 49 = .ok (.ireturn, 1) := by decide +kernel
set_option maxHeartbeats 4000000 in
set_option maxRecDepth 100000 in
theorem bb_X8_either5_44 {p : Program} {l : Launch} {e : Env} {s : State} {m : MethodId} {args : Array Value} {below : List Frame} {meth : Method} {c : Code} {D : va_G} {cy : Nat → ClassId} {ad : Nat → Nat} {A : Nat → Prop} {Q : Int32 → Sg → Prop} (K : Kx p s m args meth c cX8_either5 3 RX8 D cy) (hr : meth.sig.returnType = (some .int)) {rc5 : Int32 → Sg → Prop} (hrc5 : ∀ (x1 : Int32) (u : Sg) (H : Heap) (locs : List Loc) (ls : Array Slot), rc5 x1 u → Wd D A s.heap (wsM cy ad u) H locs → lv_has ls 3 [(0, .ref (ad 0)), (1, .int x1)] → W p l e (rmD 9) s m args below meth c H locs 0 0 (MQ below (va_Qi Q (PostG (wsM cy ad) D A) A) args s 0 0 A) (F0 m 5 ls []))  (t0 : Int32) (g0 : Sg) (H : Heap) (locs : List Loc) (ls : Array Slot) (hd : vv_X8_either5_J44 rc5 t0 g0 Q) (hw : Wd D A s.heap (wsM cy ad g0) H locs) (hl : lv_has ls 3 [(0, .ref (ad 0))]) : W p l e (rmD 9) s m args below meth c H locs 0 0 (MQ below (va_Qi Q (PostG (wsM cy ad) D A) A) args s 0 0 A) (F0 m 44 ls [.int t0]) := by
  unfold vv_X8_either5_J44 at hd
  refine lv_topi (fun x1_13 ex1_13 => ?_)
  have hd := hd x1_13 ex1_13
  refine lv_istore_n (lv' := [(1, .int x1_13), (0, .ref (ad 0))]) K.1 K.2.1 dX8_either5_44 rfl hl (by decide) rfl (fun ls hl => ?_)
  refine lv_goto (tgt := 5) K.1 K.2.1 dX8_either5_45 (by decide) ?_
  exact hrc5 x1_13 g0 _ _ _ hd hw (lv_sub hl [1, 0] rfl)
set_option maxHeartbeats 4000000 in
set_option maxRecDepth 100000 in
theorem bb_X8_either5_39 {p : Program} {l : Launch} {e : Env} {s : State} {m : MethodId} {args : Array Value} {below : List Frame} {meth : Method} {c : Code} {D : va_G} {cy : Nat → ClassId} {ad : Nat → Nat} {A : Nat → Prop} {Q : Int32 → Sg → Prop} (K : Kx p s m args meth c cX8_either5 3 RX8 D cy) (hr : meth.sig.returnType = (some .int)) {rc5 : Int32 → Sg → Prop} (hrc5 : ∀ (x1 : Int32) (u : Sg) (H : Heap) (locs : List Loc) (ls : Array Slot), rc5 x1 u → Wd D A s.heap (wsM cy ad u) H locs → lv_has ls 3 [(0, .ref (ad 0)), (1, .int x1)] → W p l e (rmD 9) s m args below meth c H locs 0 0 (MQ below (va_Qi Q (PostG (wsM cy ad) D A) A) args s 0 0 A) (F0 m 5 ls []))   (g0 : Sg) (H : Heap) (locs : List Loc) (ls : Array Slot) (hd : vv_X8_either5_J39 rc5 g0 Q) (hw : Wd D A s.heap (wsM cy ad g0) H locs) (hl : lv_has ls 3 [(0, .ref (ad 0))]) : W p l e (rmD 9) s m args below meth c H locs 0 0 (MQ below (va_Qi Q (PostG (wsM cy ad) D A) A) args s 0 0 A) (F0 m 39 ls []) := by
  unfold vv_X8_either5_J39 at hd
  refine lv_iconst (v := (1 : Int32)) K.1 K.2.1 dX8_either5_39 (by decide) ?_
  refine lv_goto (tgt := 44) K.1 K.2.1 dX8_either5_40 (by decide) ?_
  exact bb_X8_either5_44 K hr hrc5 (1 : Int32) g0 _ _ _ hd hw (lv_sub hl [0] rfl)
set_option maxHeartbeats 4000000 in
set_option maxRecDepth 100000 in
theorem bb_X8_either5_5 {p : Program} {l : Launch} {e : Env} {s : State} {m : MethodId} {args : Array Value} {below : List Frame} {meth : Method} {c : Code} {D : va_G} {cy : Nat → ClassId} {ad : Nat → Nat} {A : Nat → Prop} {Q : Int32 → Sg → Prop} (K : Kx p s m args meth c cX8_either5 3 RX8 D cy) (hr : meth.sig.returnType = (some .int)) : ∀ (n : Nat) (x1 : Int32)  (g0 : Sg) (H : Heap) (locs : List Loc) (ls : Array Slot), vv_X8_either5_L5 Q n x1 g0 → Wd D A s.heap (wsM cy ad g0) H locs → lv_has ls 3 [(0, .ref (ad 0)), (1, .int x1)] → W p l e (rmD 9) s m args below meth c H locs 0 0 (MQ below (va_Qi Q (PostG (wsM cy ad) D A) A) args s 0 0 A) (F0 m 5 ls []) := by
  intro n
  induction n with
  | zero => intro _ _ _ _ _ hd; exact hd.elim
  | succ n ih =>
    intro x1 g0 H locs ls hd hw hl
    unfold vv_X8_either5_L5 at hd
    refine lv_aload_n K.1 K.2.1 dX8_either5_5 rfl (lv_at hl 0 rfl) ?_
    refine lv_bipush (v := (111 : Int32)) K.1 K.2.1 dX8_either5_6 (by decide) ?_
    refine lv_bipush (v := (114 : Int32)) K.1 K.2.1 dX8_either5_8 (by decide) ?_
    refine lv_iconst (v := (0 : Int32)) K.1 K.2.1 dX8_either5_10 (by decide) ?_
    refine lv_iconst (v := (0 : Int32)) K.1 K.2.1 dX8_either5_11 (by decide) ?_
    refine lv_iconst (v := (0 : Int32)) K.1 K.2.1 dX8_either5_12 (by decide) ?_
    refine lv_iconst (v := (0 : Int32)) K.1 K.2.1 dX8_either5_13 (by decide) ?_
    refine lv_iconst (v := (0 : Int32)) K.1 K.2.1 dX8_either5_14 (by decide) ?_
    refine lv_iconst (v := (0 : Int32)) K.1 K.2.1 dX8_either5_15 (by decide) ?_
    refine rk_vi (As := [.int (111 : Int32), .int (114 : Int32), .int (0 : Int32), .int (0 : Int32), .int (0 : Int32), .int (0 : Int32), .int (0 : Int32), .int (0 : Int32)]) (rest := []) K hw (cc_X8_isWord l D cy ad A g0 _ (111 : Int32) (114 : Int32) (0 : Int32) (0 : Int32) (0 : Int32) (0 : Int32) (0 : Int32) (0 : Int32) hd) lk_X8_184 (ci := 8) rfl (q0 := 0) (wsM_at cy ad _ (by decide)) ⟨Nat.le_of_ble_eq_true rfl, Nat.le_of_ble_eq_true rfl⟩ ⟨Nat.zero_le _, Nat.zero_le _⟩ rfl hl.1 (Nat.le_of_ble_eq_true rfl) rfl dX8_either5_16 (fun r_5 g_4 H locs hd hw => ?_)
    refine lv_if_eq (tgt := 48) K.1 K.2.1 dX8_either5_19 (by decide) (fun h_6 => ?_) (fun h_6 => ?_)
    · have hd := hd.1 h_6
      refine lv_iload_n K.1 K.2.1 dX8_either5_48 rfl (lv_at hl 1 rfl) ?_
      exact rk_iret K hw hr hd dX8_either5_49
    · have hd := hd.2 h_6
      refine lv_aload_n K.1 K.2.1 dX8_either5_22 rfl (lv_at hl 0 rfl) ?_
      refine rk_vv (As := []) (rest := []) K hw (cc_X8_next l D cy ad A g_4 _  hd) lk_X8_181 (ci := 8) rfl (q0 := 0) (wsM_at cy ad _ (by decide)) ⟨Nat.le_of_ble_eq_true rfl, Nat.le_of_ble_eq_true rfl⟩ ⟨Nat.zero_le _, Nat.zero_le _⟩ rfl hl.1 (Nat.le_of_ble_eq_true rfl) rfl dX8_either5_23 (fun g_7 H locs hd hw => ?_)
      refine lv_aload_n K.1 K.2.1 dX8_either5_26 rfl (lv_at hl 0 rfl) ?_
      refine rk_vi (As := []) (rest := []) K hw (cc_X8_both5 l D cy ad A g_7 _  hd) lk_X8_233 (ci := 8) rfl (q0 := 0) (wsM_at cy ad _ (by decide)) ⟨Nat.le_of_ble_eq_true rfl, Nat.le_of_ble_eq_true rfl⟩ ⟨Nat.zero_le _, Nat.zero_le _⟩ rfl hl.1 (Nat.le_of_ble_eq_true rfl) rfl dX8_either5_27 (fun r_10 g_9 H locs hd hw => ?_)
      refine lv_topi (fun x2_11 ex2_11 => ?_)
      have hd := hd x2_11 ex2_11
      refine lv_istore_n (lv' := [(2, .int x2_11), (0, .ref (ad 0)), (1, .int x1)]) K.1 K.2.1 dX8_either5_30 rfl hl (by decide) rfl (fun ls hl => ?_)
      refine lv_iload_n K.1 K.2.1 dX8_either5_31 rfl (lv_at hl 2 rfl) ?_
      refine lv_if_ne (tgt := 39) K.1 K.2.1 dX8_either5_32 (by decide) (fun h_12 => ?_) (fun h_12 => ?_)
      · have hd := hd.1 h_12
        exact bb_X8_either5_39 K hr ih  g_9 _ _ _ hd hw (lv_sub hl [1] rfl)
      · have hd := hd.2 h_12
        refine lv_iload_n K.1 K.2.1 dX8_either5_35 rfl (lv_at hl 0 rfl) ?_
        refine lv_if_eq (tgt := 43) K.1 K.2.1 dX8_either5_36 (by decide) (fun h_14 => ?_) (fun h_14 => ?_)
        · have hd := hd.1 h_14
          refine lv_iconst (v := (0 : Int32)) K.1 K.2.1 dX8_either5_43 (by decide) ?_
          exact bb_X8_either5_44 K hr ih (0 : Int32) g_9 _ _ _ hd hw (lv_sub hl [1] rfl)
        · have hd := hd.2 h_14
          exact bb_X8_either5_39 K hr ih  g_9 _ _ _ hd hw (lv_sub hl [1] rfl)
set_option maxHeartbeats 4000000 in
set_option maxRecDepth 100000 in
theorem cc_X8_either5 (l : Launch) (D : va_G) (cy : Nat → ClassId) (ad : Nat → Nat) (A : Nat → Prop) (g0 : Sg) (Q : Int32 → Sg → Prop)  (hd : vv_X8_either5  g0 Q) : Met l yX8_either5 (Cond.code yX8_either5 cX8_either5 3 (some .int) :: TT) (rmD 9) (va_Pc [.ref (ad 0)] (PreG (wsM cy ad) D cy A g0)) (va_Qi Q (PostG (wsM cy ad) D A) A) 0 0 A := by
  unfold vv_X8_either5 at hd
  refine Met.ofW (cc := cX8_either5) (maxL := 3) (ret := (some .int)) (by decide) rfl ?_
  intro p e s m args below meth c s₁ B hml hv
  obtain ⟨rfl, hP, hK0, hD⟩ := hv
  have K : Kx p s m _ meth c cX8_either5 3 RX8 D cy := ⟨B.exec, B.bytes, hml, findClass_of_methodNamed B.named, fun w h => atoms_spec (ws := Cond.code yX8_either5 cX8_either5 3 (some .int) :: TT) B.pre w (List.mem_cons_of_mem _ h), hK0, B.notSynchronized⟩
  have hw : Wd D A s.heap (wsM cy ad g0) s.heap [] := ⟨hP, hD, va_S.rf⟩
  have hr := B.returns
  have hl := lv_entry ([.ref (ad 0)]) (n := 3) (Nat.le_of_ble_eq_true rfl)
  rw [lg_entry_eq]
  generalize (lg_sl ([.ref (ad 0)]) ++ List.replicate (3 - (lg_sl ([.ref (ad 0)])).length) Slot.unset).toArray = ls at hl ⊢
  have hl : lv_has ls 3 [(0, .ref (ad 0))] := hl
  refine lv_aload_n K.1 K.2.1 dX8_either5_0 rfl (lv_at hl 0 rfl) ?_
  refine rk_vi (As := []) (rest := []) K hw (cc_X8_both5 l D cy ad A g0 _  hd) lk_X8_233 (ci := 8) rfl (q0 := 0) (wsM_at cy ad _ (by decide)) ⟨Nat.le_of_ble_eq_true rfl, Nat.le_of_ble_eq_true rfl⟩ ⟨Nat.zero_le _, Nat.zero_le _⟩ rfl hl.1 (Nat.le_of_ble_eq_true rfl) rfl dX8_either5_1 (fun r_2 g_1 H locs hd hw => ?_)
  refine lv_topi (fun x1_3 ex1_3 => ?_)
  have hd := hd x1_3 ex1_3
  refine lv_istore_n (lv' := [(1, .int x1_3), (0, .ref (ad 0))]) K.1 K.2.1 dX8_either5_4 rfl hl (by decide) rfl (fun ls hl => ?_)
  obtain ⟨n9, hd⟩ := hd
  exact bb_X8_either5_5 K hr  n9 x1_3 g_1 _ _ _ hd hw (lv_sub hl [1, 0] rfl)
theorem dX8_atom4_0 : decode cX8_atom4 0 = .ok (.iconst 0, 1) := by decide +kernel
theorem dX8_atom4_1 : decode cX8_atom4 1 = .ok (.istore_n 1, 1) := by decide +kernel
theorem dX8_atom4_2 : decode cX8_atom4 2 = .ok (.aload_n 0, 1) := by decide +kernel
theorem dX8_atom4_3 : decode cX8_atom4 3 = .ok (.bipush 45, 2) := by decide +kernel
theorem dX8_atom4_5 : decode cX8_atom4 5 = .ok (.invokevirtual 206, 3) := by decide +kernel
theorem dX8_atom4_8 : decode cX8_atom4 8 = .ok (.ifCond .eq 29, 3) := by decide +kernel
theorem dX8_atom4_11 : decode cX8_atom4 11 = .ok (.aload_n 0, 1) := by decide +kernel
theorem dX8_atom4_12 : decode cX8_atom4 12 = .ok (.invokevirtual 209, 3) := by decide +kernel
theorem dX8_atom4_15 : decode cX8_atom4 15 = .ok (.ifCond .eq 146, 3) := by decide +kernel
theorem dX8_atom4_18 : decode cX8_atom4 18 = .ok (.aload_n 0, 1) := by decide +kernel
theorem dX8_atom4_19 : decode cX8_atom4 19 = .ok (.invokevirtual 217, 3) := by decide +kernel
theorem dX8_atom4_22 : decode cX8_atom4 22 = .ok (.ineg, 1) := by decide +kernel
theorem dX8_atom4_23 : decode cX8_atom4 23 = .ok (.istore_n 1, 1) := by decide +kernel
theorem dX8_atom4_24 : decode cX8_atom4 24 = .ok (.aload_n 0, 1) := by decide +kernel
theorem dX8_atom4_25 : decode cX8_atom4 25 = .ok (.dup, 1) := by decide +kernel
theorem dX8_atom4_26 : decode cX8_atom4 26 = .ok (.getfield 175, 3) := by decide +kernel
theorem dX8_atom4_29 : decode cX8_atom4 29 = .ok (.iconst 1, 1) := by decide +kernel
theorem dX8_atom4_30 : decode cX8_atom4 30 = .ok (.isub, 1) := by decide +kernel
theorem dX8_atom4_31 : decode cX8_atom4 31 = .ok (.putfield 175, 3) := by decide +kernel
theorem dX8_atom4_34 : decode cX8_atom4 34 = .ok (.goto 127, 3) := by decide +kernel
theorem dX8_atom4_37 : decode cX8_atom4 37 = .ok (.aload_n 0, 1) := by decide +kernel
theorem dX8_atom4_38 : decode cX8_atom4 38 = .ok (.bipush 40, 2) := by decide +kernel
theorem dX8_atom4_40 : decode cX8_atom4 40 = .ok (.invokevirtual 206, 3) := by decide +kernel
theorem dX8_atom4_43 : decode cX8_atom4 43 = .ok (.ifCond .eq 52, 3) := by decide +kernel
theorem dX8_atom4_46 : decode cX8_atom4 46 = .ok (.aload_n 0, 1) := by decide +kernel
theorem dX8_atom4_47 : decode cX8_atom4 47 = .ok (.invokevirtual 209, 3) := by decide +kernel
theorem dX8_atom4_50 : decode cX8_atom4 50 = .ok (.ifCond .eq 111, 3) := by decide +kernel
theorem dX8_atom4_53 : decode cX8_atom4 53 = .ok (.aload_n 0, 1) := by decide +kernel
theorem dX8_atom4_54 : decode cX8_atom4 54 = .ok (.invokevirtual 236, 3) := by decide +kernel
theorem dX8_atom4_57 : decode cX8_atom4 57 = .ok (.istore_n 1, 1) := by decide +kernel
theorem dX8_atom4_58 : decode cX8_atom4 58 = .ok (.aload_n 0, 1) := by decide +kernel
theorem dX8_atom4_59 : decode cX8_atom4 59 = .ok (.bipush 41, 2) := by decide +kernel
theorem dX8_atom4_61 : decode cX8_atom4 61 = .ok (.invokevirtual 206, 3) := by decide +kernel
theorem dX8_atom4_64 : decode cX8_atom4 64 = .ok (.ifCond .ne 7, 3) := by decide +kernel
theorem dX8_atom4_67 : decode cX8_atom4 67 = .ok (.aload_n 0, 1) := by decide +kernel
theorem dX8_atom4_68 : decode cX8_atom4 68 = .ok (.invokevirtual 178, 3) := by decide +kernel
theorem dX8_atom4_71 : decode cX8_atom4 71 = .ok (.aload_n 0, 1) := by decide +kernel
theorem dX8_atom4_72 : decode cX8_atom4 72 = .ok (.dup, 1) := by decide +kernel
theorem dX8_atom4_73 : decode cX8_atom4 73 = .ok (.getfield 175, 3) := by decide +kernel
theorem dX8_atom4_76 : decode cX8_atom4 76 = .ok (.iconst 1, 1) := by decide +kernel
theorem dX8_atom4_77 : decode cX8_atom4 77 = .ok (.isub, 1) := by decide +kernel
theorem dX8_atom4_78 : decode cX8_atom4 78 = .ok (.putfield 175, 3) := by decide +kernel
theorem dX8_atom4_81 : decode cX8_atom4 81 = .ok (.aload_n 0, 1) := by decide +kernel
theorem dX8_atom4_82 : decode cX8_atom4 82 = .ok (.getfield 164, 3) := by decide +kernel
theorem dX8_atom4_85 : decode cX8_atom4 85 = .ok (.ifCond .ne 76, 3) := by decide +kernel
theorem dX8_atom4_88 : decode cX8_atom4 88 = .ok (.aload_n 0, 1) := by decide +kernel
theorem dX8_atom4_89 : decode cX8_atom4 89 = .ok (.invokevirtual 181, 3) := by decide +kernel
theorem dX8_atom4_92 : decode cX8_atom4 92 = .ok (.goto 69, 3) := by decide +kernel
theorem dX8_atom4_95 : decode cX8_atom4 95 = .ok (.aload_n 0, 1) := by decide +kernel
theorem dX8_atom4_96 : decode cX8_atom4 96 = .ok (.getfield 164, 3) := by decide +kernel
theorem dX8_atom4_99 : decode cX8_atom4 99 = .ok (.ifCond .ne 24, 3) := by decide +kernel
theorem dX8_atom4_102 : decode cX8_atom4 102 = .ok (.aload_n 0, 1) := by decide +kernel
theorem dX8_atom4_103 : decode cX8_atom4 103 = .ok (.getfield 149, 3) := by decide +kernel
theorem dX8_atom4_106 : decode cX8_atom4 106 = .ok (.iconst 2, 1) := by decide +kernel
theorem dX8_atom4_107 : decode cX8_atom4 107 = .ok (.if_icmp .ne 16, 3) := by decide +kernel
theorem dX8_atom4_110 : decode cX8_atom4 110 = .ok (.aload_n 0, 1) := by decide +kernel
theorem dX8_atom4_111 : decode cX8_atom4 111 = .ok (.getfield 160, 3) := by decide +kernel
theorem dX8_atom4_114 : decode cX8_atom4 114 = .ok (.l2i, 1) := by decide +kernel
theorem dX8_atom4_115 : decode cX8_atom4 115 = .ok (.istore_n 1, 1) := by decide +kernel
theorem dX8_atom4_116 : decode cX8_atom4 116 = .ok (.aload_n 0, 1) := by decide +kernel
theorem dX8_atom4_117 : decode cX8_atom4 117 = .ok (.invokevirtual 181, 3) := by decide +kernel
theorem dX8_atom4_120 : decode cX8_atom4 120 = .ok (.goto 41, 3) := by decide +kernel
theorem dX8_atom4_123 : decode cX8_atom4 123 = .ok (.aload_n 0, 1) := by decide +kernel
theorem dX8_atom4_124 : decode cX8_atom4 124 = .ok (.getfield 164, 3) := by decide +kernel
theorem dX8_atom4_127 : decode cX8_atom4 127 = .ok (.ifCond .ne 30, 3) := by decide +kernel
theorem dX8_atom4_130 : decode cX8_atom4 130 = .ok (.aload_n 0, 1) := by decide +kernel
theorem dX8_atom4_131 : decode cX8_atom4 131 = .ok (.getfield 149, 3) := by decide +kernel
theorem dX8_atom4_134 : decode cX8_atom4 134 = .ok (.iconst 1, 1) := by decide +kernel
theorem dX8_atom4_135 : decode cX8_atom4 135 = .ok (.if_icmp .ne 22, 3) := by decide +kernel
theorem dX8_atom4_138 : decode cX8_atom4 138 = .ok (.aload_n 0, 1) := by decide +kernel
theorem dX8_atom4_139 : decode cX8_atom4 139 = .ok (.invokevirtual 213, 3) := by decide +kernel
theorem dX8_atom4_142 : decode cX8_atom4 142 = .ok (.istore_n 1, 1) := by decide +kernel
theorem dX8_atom4_143 : decode cX8_atom4 143 = .ok (.aload_n 0, 1) := by decide +kernel
theorem dX8_atom4_144 : decode cX8_atom4 144 = .ok (.getfield 164, 3) := by decide +kernel
theorem dX8_atom4_147 : decode cX8_atom4 147 = .ok (.ifCond .ne 14, 3) := by decide +kernel
theorem dX8_atom4_150 : decode cX8_atom4 150 = .ok (.aload_n 0, 1) := by decide +kernel
theorem dX8_atom4_151 : decode cX8_atom4 151 = .ok (.invokevirtual 181, 3) := by decide +kernel
theorem dX8_atom4_154 : decode cX8_atom4 154 = .ok (.goto 7, 3) := by decide +kernel
theorem dX8_atom4_157 : decode cX8_atom4 157 = .ok (.aload_n 0, 1) := by decide +kernel
theorem dX8_atom4_158 : decode cX8_atom4 158 = .ok (.invokevirtual 178, 3) := by decide +kernel
theorem dX8_atom4_161 : decode cX8_atom4 161 = .ok (.iload_n 1, 1) := by decide +kernel
theorem dX8_atom4_162 : decode cX8_atom4 162 = .ok (.ireturn, 1) := by decide +kernel
set_option maxHeartbeats 4000000 in
set_option maxRecDepth 100000 in
theorem bb_X8_atom4_157 {p : Program} {l : Launch} {e : Env} {s : State} {m : MethodId} {args : Array Value} {below : List Frame} {meth : Method} {c : Code} {D : va_G} {cy : Nat → ClassId} {ad : Nat → Nat} {A : Nat → Prop} {Q : Int32 → Sg → Prop} (K : Kx p s m args meth c cX8_atom4 2 RX8 D cy) (hr : meth.sig.returnType = (some .int)) (x1 : Int32)  (g0 : Sg) (H : Heap) (locs : List Loc) (ls : Array Slot) (hd : vv_X8_atom4_J157 x1 g0 Q) (hw : Wd D A s.heap (wsM cy ad g0) H locs) (hl : lv_has ls 2 [(0, .ref (ad 0)), (1, .int x1)]) : W p l e (rmD 10) s m args below meth c H locs 0 0 (MQ below (va_Qi Q (PostG (wsM cy ad) D A) A) args s 0 0 A) (F0 m 157 ls []) := by
  unfold vv_X8_atom4_J157 at hd
  refine lv_aload_n K.1 K.2.1 dX8_atom4_157 rfl (lv_at hl 0 rfl) ?_
  refine rk_vv (As := []) (rest := []) K hw (cc_X8_fail l D cy ad A g0 _  hd) lk_X8_178 (ci := 8) rfl (q0 := 0) (wsM_at cy ad _ (by decide)) ⟨Nat.le_of_ble_eq_true rfl, Nat.le_of_ble_eq_true rfl⟩ ⟨Nat.zero_le _, Nat.zero_le _⟩ rfl hl.1 (Nat.le_of_ble_eq_true rfl) rfl dX8_atom4_158 (fun g_10 H locs hd hw => ?_)
  refine lv_iload_n K.1 K.2.1 dX8_atom4_161 rfl (lv_at hl 1 rfl) ?_
  exact rk_iret K hw hr hd dX8_atom4_162
set_option maxHeartbeats 4000000 in
set_option maxRecDepth 100000 in
theorem bb_X8_atom4_123 {p : Program} {l : Launch} {e : Env} {s : State} {m : MethodId} {args : Array Value} {below : List Frame} {meth : Method} {c : Code} {D : va_G} {cy : Nat → ClassId} {ad : Nat → Nat} {A : Nat → Prop} {Q : Int32 → Sg → Prop} (K : Kx p s m args meth c cX8_atom4 2 RX8 D cy) (hr : meth.sig.returnType = (some .int)) (x1 : Int32)  (g0 : Sg) (H : Heap) (locs : List Loc) (ls : Array Slot) (hd : vv_X8_atom4_J123 x1 g0 Q) (hw : Wd D A s.heap (wsM cy ad g0) H locs) (hl : lv_has ls 2 [(0, .ref (ad 0)), (1, .int x1)]) : W p l e (rmD 10) s m args below meth c H locs 0 0 (MQ below (va_Qi Q (PostG (wsM cy ad) D A) A) args s 0 0 A) (F0 m 123 ls []) := by
  unfold vv_X8_atom4_J123 at hd
  refine lv_aload_n K.1 K.2.1 dX8_atom4_123 rfl (lv_at hl 0 rfl) ?_
  refine rm_get 25 K hw (by decide) kf_X8_164 rfl dX8_atom4_124 ?_
  refine lv_if_ne (tgt := 157) K.1 K.2.1 dX8_atom4_127 (by decide) (fun h_9 => ?_) (fun h_9 => ?_)
  · have hd := hd.1 h_9
    exact bb_X8_atom4_157 K hr  x1 g0 _ _ _ hd hw (lv_sub hl [0, 1] rfl)
  · have hd := hd.2 h_9
    refine lv_aload_n K.1 K.2.1 dX8_atom4_130 rfl (lv_at hl 0 rfl) ?_
    refine rm_get 21 K hw (by decide) kf_X8_149 rfl dX8_atom4_131 ?_
    refine lv_iconst (v := (1 : Int32)) K.1 K.2.1 dX8_atom4_134 (by decide) ?_
    refine lv_icmp_ne (tgt := 157) K.1 K.2.1 dX8_atom4_135 (by decide) (fun h_12 => ?_) (fun h_12 => ?_)
    · have hd := hd.1 h_12
      exact bb_X8_atom4_157 K hr  x1 g0 _ _ _ hd hw (lv_sub hl [0, 1] rfl)
    · have hd := hd.2 h_12
      refine lv_aload_n K.1 K.2.1 dX8_atom4_138 rfl (lv_at hl 0 rfl) ?_
      refine rk_vi (As := []) (rest := []) K hw (cc_X8_name l D cy ad A g0 _  hd) lk_X8_213 (ci := 8) rfl (q0 := 0) (wsM_at cy ad _ (by decide)) ⟨Nat.le_of_ble_eq_true rfl, Nat.le_of_ble_eq_true rfl⟩ ⟨Nat.zero_le _, Nat.zero_le _⟩ rfl hl.1 (Nat.le_of_ble_eq_true rfl) rfl dX8_atom4_139 (fun r_14 g_13 H locs hd hw => ?_)
      refine lv_topi (fun x1_15 ex1_15 => ?_)
      have hd := hd x1_15 ex1_15
      refine lv_istore_n (lv' := [(1, .int x1_15), (0, .ref (ad 0))]) K.1 K.2.1 dX8_atom4_142 rfl hl (by decide) rfl (fun ls hl => ?_)
      refine lv_aload_n K.1 K.2.1 dX8_atom4_143 rfl (lv_at hl 1 rfl) ?_
      refine rm_get 25 K hw (by decide) kf_X8_164 rfl dX8_atom4_144 ?_
      refine lv_if_ne (tgt := 161) K.1 K.2.1 dX8_atom4_147 (by decide) (fun h_16 => ?_) (fun h_16 => ?_)
      · have hd := hd.1 h_16
        refine lv_iload_n K.1 K.2.1 dX8_atom4_161 rfl (lv_at hl 0 rfl) ?_
        exact rk_iret K hw hr hd dX8_atom4_162
      · have hd := hd.2 h_16
        refine lv_aload_n K.1 K.2.1 dX8_atom4_150 rfl (lv_at hl 1 rfl) ?_
        refine rk_vv (As := []) (rest := []) K hw (cc_X8_next l D cy ad A g_13 _  hd) lk_X8_181 (ci := 8) rfl (q0 := 0) (wsM_at cy ad _ (by decide)) ⟨Nat.le_of_ble_eq_true rfl, Nat.le_of_ble_eq_true rfl⟩ ⟨Nat.zero_le _, Nat.zero_le _⟩ rfl hl.1 (Nat.le_of_ble_eq_true rfl) rfl dX8_atom4_151 (fun g_17 H locs hd hw => ?_)
        refine lv_goto (tgt := 161) K.1 K.2.1 dX8_atom4_154 (by decide) ?_
        refine lv_iload_n K.1 K.2.1 dX8_atom4_161 rfl (lv_at hl 0 rfl) ?_
        exact rk_iret K hw hr hd dX8_atom4_162
set_option maxHeartbeats 4000000 in
set_option maxRecDepth 100000 in
theorem bb_X8_atom4_71 {p : Program} {l : Launch} {e : Env} {s : State} {m : MethodId} {args : Array Value} {below : List Frame} {meth : Method} {c : Code} {D : va_G} {cy : Nat → ClassId} {ad : Nat → Nat} {A : Nat → Prop} {Q : Int32 → Sg → Prop} (K : Kx p s m args meth c cX8_atom4 2 RX8 D cy) (hr : meth.sig.returnType = (some .int)) (x1 : Int32)  (g0 : Sg) (H : Heap) (locs : List Loc) (ls : Array Slot) (hd : vv_X8_atom4_J71 x1 g0 Q) (hw : Wd D A s.heap (wsM cy ad g0) H locs) (hl : lv_has ls 2 [(0, .ref (ad 0)), (1, .int x1)]) : W p l e (rmD 10) s m args below meth c H locs 0 0 (MQ below (va_Qi Q (PostG (wsM cy ad) D A) A) args s 0 0 A) (F0 m 71 ls []) := by
  unfold vv_X8_atom4_J71 at hd
  refine lv_aload_n K.1 K.2.1 dX8_atom4_71 rfl (lv_at hl 0 rfl) ?_
  refine lv_dup K.1 K.2.1 dX8_atom4_72 rfl ?_
  refine rm_get 24 K hw (by decide) kf_X8_175 rfl dX8_atom4_73 ?_
  refine lv_iconst (v := (1 : Int32)) K.1 K.2.1 dX8_atom4_76 (by decide) ?_
  refine lv_isub K.1 K.2.1 dX8_atom4_77 ?_
  refine rm_put 24 K hw (by decide) kf_X8_175 rfl rfl rfl rfl (fsM_24 ad g0 _) dX8_atom4_78 (fun g_32 eg_32 H locs hw => ?_)
  have hd := hd g_32 eg_32
  refine lv_aload_n K.1 K.2.1 dX8_atom4_81 rfl (lv_at hl 0 rfl) ?_
  refine rm_get 25 K hw (by decide) kf_X8_164 rfl dX8_atom4_82 ?_
  refine lv_if_ne (tgt := 161) K.1 K.2.1 dX8_atom4_85 (by decide) (fun h_33 => ?_) (fun h_33 => ?_)
  · have hd := hd.1 h_33
    refine lv_iload_n K.1 K.2.1 dX8_atom4_161 rfl (lv_at hl 1 rfl) ?_
    exact rk_iret K hw hr hd dX8_atom4_162
  · have hd := hd.2 h_33
    refine lv_aload_n K.1 K.2.1 dX8_atom4_88 rfl (lv_at hl 0 rfl) ?_
    refine rk_vv (As := []) (rest := []) K hw (cc_X8_next l D cy ad A g_32 _  hd) lk_X8_181 (ci := 8) rfl (q0 := 0) (wsM_at cy ad _ (by decide)) ⟨Nat.le_of_ble_eq_true rfl, Nat.le_of_ble_eq_true rfl⟩ ⟨Nat.zero_le _, Nat.zero_le _⟩ rfl hl.1 (Nat.le_of_ble_eq_true rfl) rfl dX8_atom4_89 (fun g_34 H locs hd hw => ?_)
    refine lv_goto (tgt := 161) K.1 K.2.1 dX8_atom4_92 (by decide) ?_
    refine lv_iload_n K.1 K.2.1 dX8_atom4_161 rfl (lv_at hl 1 rfl) ?_
    exact rk_iret K hw hr hd dX8_atom4_162
set_option maxHeartbeats 4000000 in
set_option maxRecDepth 100000 in
theorem cc_X8_atom4 (l : Launch) (D : va_G) (cy : Nat → ClassId) (ad : Nat → Nat) (A : Nat → Prop) (g0 : Sg) (Q : Int32 → Sg → Prop)  (hd : vv_X8_atom4  g0 Q) : Met l yX8_atom4 (Cond.code yX8_atom4 cX8_atom4 2 (some .int) :: TT) (rmD 10) (va_Pc [.ref (ad 0)] (PreG (wsM cy ad) D cy A g0)) (va_Qi Q (PostG (wsM cy ad) D A) A) 0 0 A := by
  unfold vv_X8_atom4 at hd
  refine Met.ofW (cc := cX8_atom4) (maxL := 2) (ret := (some .int)) (by decide) rfl ?_
  intro p e s m args below meth c s₁ B hml hv
  obtain ⟨rfl, hP, hK0, hD⟩ := hv
  have K : Kx p s m _ meth c cX8_atom4 2 RX8 D cy := ⟨B.exec, B.bytes, hml, findClass_of_methodNamed B.named, fun w h => atoms_spec (ws := Cond.code yX8_atom4 cX8_atom4 2 (some .int) :: TT) B.pre w (List.mem_cons_of_mem _ h), hK0, B.notSynchronized⟩
  have hw : Wd D A s.heap (wsM cy ad g0) s.heap [] := ⟨hP, hD, va_S.rf⟩
  have hr := B.returns
  have hl := lv_entry ([.ref (ad 0)]) (n := 2) (Nat.le_of_ble_eq_true rfl)
  rw [lg_entry_eq]
  generalize (lg_sl ([.ref (ad 0)]) ++ List.replicate (2 - (lg_sl ([.ref (ad 0)])).length) Slot.unset).toArray = ls at hl ⊢
  have hl : lv_has ls 2 [(0, .ref (ad 0))] := hl
  refine lv_iconst (v := (0 : Int32)) K.1 K.2.1 dX8_atom4_0 (by decide) ?_
  refine lv_topi (fun x1_1 ex1_1 => ?_)
  have hd := hd x1_1 ex1_1
  refine lv_istore_n (lv' := [(1, .int x1_1), (0, .ref (ad 0))]) K.1 K.2.1 dX8_atom4_1 rfl hl (by decide) rfl (fun ls hl => ?_)
  refine lv_aload_n K.1 K.2.1 dX8_atom4_2 rfl (lv_at hl 1 rfl) ?_
  refine lv_bipush (v := (45 : Int32)) K.1 K.2.1 dX8_atom4_3 (by decide) ?_
  refine rk_vi (As := [.int (45 : Int32)]) (rest := []) K hw (cc_X8_isSign l D cy ad A g0 _ (45 : Int32) hd) lk_X8_206 (ci := 8) rfl (q0 := 0) (wsM_at cy ad _ (by decide)) ⟨Nat.le_of_ble_eq_true rfl, Nat.le_of_ble_eq_true rfl⟩ ⟨Nat.zero_le _, Nat.zero_le _⟩ rfl hl.1 (Nat.le_of_ble_eq_true rfl) rfl dX8_atom4_5 (fun r_3 g_2 H locs hd hw => ?_)
  refine lv_if_eq (tgt := 37) K.1 K.2.1 dX8_atom4_8 (by decide) (fun h_4 => ?_) (fun h_4 => ?_)
  · have hd := hd.1 h_4
    refine lv_aload_n K.1 K.2.1 dX8_atom4_37 rfl (lv_at hl 1 rfl) ?_
    refine lv_bipush (v := (40 : Int32)) K.1 K.2.1 dX8_atom4_38 (by decide) ?_
    refine rk_vi (As := [.int (40 : Int32)]) (rest := []) K hw (cc_X8_isSign l D cy ad A g_2 _ (40 : Int32) hd) lk_X8_206 (ci := 8) rfl (q0 := 0) (wsM_at cy ad _ (by decide)) ⟨Nat.le_of_ble_eq_true rfl, Nat.le_of_ble_eq_true rfl⟩ ⟨Nat.zero_le _, Nat.zero_le _⟩ rfl hl.1 (Nat.le_of_ble_eq_true rfl) rfl dX8_atom4_40 (fun r_6 g_5 H locs hd hw => ?_)
    refine lv_if_eq (tgt := 95) K.1 K.2.1 dX8_atom4_43 (by decide) (fun h_7 => ?_) (fun h_7 => ?_)
    · have hd := hd.1 h_7
      refine lv_aload_n K.1 K.2.1 dX8_atom4_95 rfl (lv_at hl 1 rfl) ?_
      refine rm_get 25 K hw (by decide) kf_X8_164 rfl dX8_atom4_96 ?_
      refine lv_if_ne (tgt := 123) K.1 K.2.1 dX8_atom4_99 (by decide) (fun h_8 => ?_) (fun h_8 => ?_)
      · have hd := hd.1 h_8
        exact bb_X8_atom4_123 K hr  x1_1 g_5 _ _ _ hd hw (lv_sub hl [1, 0] rfl)
      · have hd := hd.2 h_8
        refine lv_aload_n K.1 K.2.1 dX8_atom4_102 rfl (lv_at hl 1 rfl) ?_
        refine rm_get 21 K hw (by decide) kf_X8_149 rfl dX8_atom4_103 ?_
        refine lv_iconst (v := (2 : Int32)) K.1 K.2.1 dX8_atom4_106 (by decide) ?_
        refine lv_icmp_ne (tgt := 123) K.1 K.2.1 dX8_atom4_107 (by decide) (fun h_19 => ?_) (fun h_19 => ?_)
        · have hd := hd.1 h_19
          exact bb_X8_atom4_123 K hr  x1_1 g_5 _ _ _ hd hw (lv_sub hl [1, 0] rfl)
        · have hd := hd.2 h_19
          refine lv_aload_n K.1 K.2.1 dX8_atom4_110 rfl (lv_at hl 1 rfl) ?_
          refine rm_get 23 K hw (by decide) kf_X8_160 rfl dX8_atom4_111 ?_
          refine lv_l2i (v := (g_5 0 23).toInt64.toInt32) K.1 K.2.1 dX8_atom4_114 rfl ?_
          refine lv_topi (fun x1_20 ex1_20 => ?_)
          have hd := hd x1_20 ex1_20
          refine lv_istore_n (lv' := [(1, .int x1_20), (0, .ref (ad 0))]) K.1 K.2.1 dX8_atom4_115 rfl hl (by decide) rfl (fun ls hl => ?_)
          refine lv_aload_n K.1 K.2.1 dX8_atom4_116 rfl (lv_at hl 1 rfl) ?_
          refine rk_vv (As := []) (rest := []) K hw (cc_X8_next l D cy ad A g_5 _  hd) lk_X8_181 (ci := 8) rfl (q0 := 0) (wsM_at cy ad _ (by decide)) ⟨Nat.le_of_ble_eq_true rfl, Nat.le_of_ble_eq_true rfl⟩ ⟨Nat.zero_le _, Nat.zero_le _⟩ rfl hl.1 (Nat.le_of_ble_eq_true rfl) rfl dX8_atom4_117 (fun g_21 H locs hd hw => ?_)
          refine lv_goto (tgt := 161) K.1 K.2.1 dX8_atom4_120 (by decide) ?_
          refine lv_iload_n K.1 K.2.1 dX8_atom4_161 rfl (lv_at hl 0 rfl) ?_
          exact rk_iret K hw hr hd dX8_atom4_162
    · have hd := hd.2 h_7
      refine lv_aload_n K.1 K.2.1 dX8_atom4_46 rfl (lv_at hl 1 rfl) ?_
      refine rk_vi (As := []) (rest := []) K hw (cc_X8_opens l D cy ad A g_5 _  hd) lk_X8_209 (ci := 8) rfl (q0 := 0) (wsM_at cy ad _ (by decide)) ⟨Nat.le_of_ble_eq_true rfl, Nat.le_of_ble_eq_true rfl⟩ ⟨Nat.zero_le _, Nat.zero_le _⟩ rfl hl.1 (Nat.le_of_ble_eq_true rfl) rfl dX8_atom4_47 (fun r_24 g_23 H locs hd hw => ?_)
      refine lv_if_eq (tgt := 161) K.1 K.2.1 dX8_atom4_50 (by decide) (fun h_25 => ?_) (fun h_25 => ?_)
      · have hd := hd.1 h_25
        refine lv_iload_n K.1 K.2.1 dX8_atom4_161 rfl (lv_at hl 0 rfl) ?_
        exact rk_iret K hw hr hd dX8_atom4_162
      · have hd := hd.2 h_25
        refine lv_aload_n K.1 K.2.1 dX8_atom4_53 rfl (lv_at hl 1 rfl) ?_
        refine rk_vi (As := []) (rest := []) K hw (cc_X8_either5 l D cy ad A g_23 _  hd) lk_X8_236 (ci := 8) rfl (q0 := 0) (wsM_at cy ad _ (by decide)) ⟨Nat.le_of_ble_eq_true rfl, Nat.le_of_ble_eq_true rfl⟩ ⟨Nat.zero_le _, Nat.zero_le _⟩ rfl hl.1 (Nat.le_of_ble_eq_true rfl) rfl dX8_atom4_54 (fun r_27 g_26 H locs hd hw => ?_)
        refine lv_topi (fun x1_28 ex1_28 => ?_)
        have hd := hd x1_28 ex1_28
        refine lv_istore_n (lv' := [(1, .int x1_28), (0, .ref (ad 0))]) K.1 K.2.1 dX8_atom4_57 rfl hl (by decide) rfl (fun ls hl => ?_)
        refine lv_aload_n K.1 K.2.1 dX8_atom4_58 rfl (lv_at hl 1 rfl) ?_
        refine lv_bipush (v := (41 : Int32)) K.1 K.2.1 dX8_atom4_59 (by decide) ?_
        refine rk_vi (As := [.int (41 : Int32)]) (rest := []) K hw (cc_X8_isSign l D cy ad A g_26 _ (41 : Int32) hd) lk_X8_206 (ci := 8) rfl (q0 := 0) (wsM_at cy ad _ (by decide)) ⟨Nat.le_of_ble_eq_true rfl, Nat.le_of_ble_eq_true rfl⟩ ⟨Nat.zero_le _, Nat.zero_le _⟩ rfl hl.1 (Nat.le_of_ble_eq_true rfl) rfl dX8_atom4_61 (fun r_30 g_29 H locs hd hw => ?_)
        refine lv_if_ne (tgt := 71) K.1 K.2.1 dX8_atom4_64 (by decide) (fun h_31 => ?_) (fun h_31 => ?_)
        · have hd := hd.1 h_31
          exact bb_X8_atom4_71 K hr  x1_28 g_29 _ _ _ hd hw (lv_sub hl [1, 0] rfl)
        · have hd := hd.2 h_31
          refine lv_aload_n K.1 K.2.1 dX8_atom4_67 rfl (lv_at hl 1 rfl) ?_
          refine rk_vv (As := []) (rest := []) K hw (cc_X8_fail l D cy ad A g_29 _  hd) lk_X8_178 (ci := 8) rfl (q0 := 0) (wsM_at cy ad _ (by decide)) ⟨Nat.le_of_ble_eq_true rfl, Nat.le_of_ble_eq_true rfl⟩ ⟨Nat.zero_le _, Nat.zero_le _⟩ rfl hl.1 (Nat.le_of_ble_eq_true rfl) rfl dX8_atom4_68 (fun g_36 H locs hd hw => ?_)
          exact bb_X8_atom4_71 K hr  x1_28 g_36 _ _ _ hd hw (lv_sub hl [1, 0] rfl)
  · have hd := hd.2 h_4
    refine lv_aload_n K.1 K.2.1 dX8_atom4_11 rfl (lv_at hl 1 rfl) ?_
    refine rk_vi (As := []) (rest := []) K hw (cc_X8_opens l D cy ad A g_2 _  hd) lk_X8_209 (ci := 8) rfl (q0 := 0) (wsM_at cy ad _ (by decide)) ⟨Nat.le_of_ble_eq_true rfl, Nat.le_of_ble_eq_true rfl⟩ ⟨Nat.zero_le _, Nat.zero_le _⟩ rfl hl.1 (Nat.le_of_ble_eq_true rfl) rfl dX8_atom4_12 (fun r_39 g_38 H locs hd hw => ?_)
    refine lv_if_eq (tgt := 161) K.1 K.2.1 dX8_atom4_15 (by decide) (fun h_40 => ?_) (fun h_40 => ?_)
    · have hd := hd.1 h_40
      refine lv_iload_n K.1 K.2.1 dX8_atom4_161 rfl (lv_at hl 0 rfl) ?_
      exact rk_iret K hw hr hd dX8_atom4_162
    · have hd := hd.2 h_40
      refine lv_aload_n K.1 K.2.1 dX8_atom4_18 rfl (lv_at hl 1 rfl) ?_
      refine rk_vi (As := []) (rest := []) K hw (cc_X8_atom5 l D cy ad A g_38 _  hd) lk_X8_217 (ci := 8) rfl (q0 := 0) (wsM_at cy ad _ (by decide)) ⟨Nat.le_of_ble_eq_true rfl, Nat.le_of_ble_eq_true rfl⟩ ⟨Nat.zero_le _, Nat.zero_le _⟩ rfl hl.1 (Nat.le_of_ble_eq_true rfl) rfl dX8_atom4_19 (fun r_42 g_41 H locs hd hw => ?_)
      refine lv_ineg K.1 K.2.1 dX8_atom4_22 ?_
      refine lv_topi (fun x1_43 ex1_43 => ?_)
      have hd := hd x1_43 ex1_43
      refine lv_istore_n (lv' := [(1, .int x1_43), (0, .ref (ad 0))]) K.1 K.2.1 dX8_atom4_23 rfl hl (by decide) rfl (fun ls hl => ?_)
      refine lv_aload_n K.1 K.2.1 dX8_atom4_24 rfl (lv_at hl 1 rfl) ?_
      refine lv_dup K.1 K.2.1 dX8_atom4_25 rfl ?_
      refine rm_get 24 K hw (by decide) kf_X8_175 rfl dX8_atom4_26 ?_
      refine lv_iconst (v := (1 : Int32)) K.1 K.2.1 dX8_atom4_29 (by decide) ?_
      refine lv_isub K.1 K.2.1 dX8_atom4_30 ?_
      refine rm_put 24 K hw (by decide) kf_X8_175 rfl rfl rfl rfl (fsM_24 ad g_41 _) dX8_atom4_31 (fun g_44 eg_44 H locs hw => ?_)
      have hd := hd g_44 eg_44
      refine lv_goto (tgt := 161) K.1 K.2.1 dX8_atom4_34 (by decide) ?_
      refine lv_iload_n K.1 K.2.1 dX8_atom4_161 rfl (lv_at hl 0 rfl) ?_
      exact rk_iret K hw hr hd dX8_atom4_162
theorem dX8_term4_0 : decode cX8_term4 0 = .ok (.aload_n 0, 1) := by decide +kernel
theorem dX8_term4_1 : decode cX8_term4 1 = .ok (.invokevirtual 239, 3) := by decide +kernel
theorem dX8_term4_4 : decode cX8_term4 4 = .ok (.istore_n 1, 1) := by decide +kernel
theorem dX8_term4_5 : decode cX8_term4 5 = .ok (.aload_n 0, 1) := by decide +kernel
theorem dX8_term4_6 : decode cX8_term4 6 = .ok (.bipush 42, 2) := by decide +kernel
theorem dX8_term4_8 : decode cX8_term4 8 = .ok (.invokevirtual 206, 3) := by decide +kernel
theorem dX8_term4_11 : decode cX8_term4 11 = .ok (.ifCond .eq 17, 3) := by decide +kernel
theorem dX8_term4_14 : decode cX8_term4 14 = .ok (.aload_n 0, 1) := by decide +kernel
theorem dX8_term4_15 : decode cX8_term4 15 = .ok (.invokevirtual 181, 3) := by decide +kernel
theorem dX8_term4_18 : decode cX8_term4 18 = .ok (.iload_n 1, 1) := by decide +kernel
theorem dX8_term4_19 : decode cX8_term4 19 = .ok (.aload_n 0, 1) := by decide +kernel
theorem dX8_term4_20 : decode cX8_term4 20 = .ok (.invokevirtual 239, 3) := by decide +kernel
theorem dX8_term4_23 : decode cX8_term4 23 = .ok (.imul, 1) := by decide +kernel
theorem dX8_term4_24 : decode cX8_term4 24 = .ok (.istore_n 1, 1) := by decide +kernel
theorem dX8_term4_25 : decode cX8_term4 25 = .ok (.goto (-20), 3) := by decide +kernel
theorem dX8_term4_28 : decode cX8_term4 28 = .ok (.iload_n 1, 1) := by decide +kernel
theorem dX8_term4_29 : decode cX8_term4 29 = .ok (.ireturn, 1) := by decide +kernel
set_option maxHeartbeats 4000000 in
set_option maxRecDepth 100000 in
theorem bb_X8_term4_5 {p : Program} {l : Launch} {e : Env} {s : State} {m : MethodId} {args : Array Value} {below : List Frame} {meth : Method} {c : Code} {D : va_G} {cy : Nat → ClassId} {ad : Nat → Nat} {A : Nat → Prop} {Q : Int32 → Sg → Prop} (K : Kx p s m args meth c cX8_term4 2 RX8 D cy) (hr : meth.sig.returnType = (some .int)) : ∀ (n : Nat) (x1 : Int32)  (g0 : Sg) (H : Heap) (locs : List Loc) (ls : Array Slot), vv_X8_term4_L5 Q n x1 g0 → Wd D A s.heap (wsM cy ad g0) H locs → lv_has ls 2 [(0, .ref (ad 0)), (1, .int x1)] → W p l e (rmD 11) s m args below meth c H locs 0 0 (MQ below (va_Qi Q (PostG (wsM cy ad) D A) A) args s 0 0 A) (F0 m 5 ls []) := by
  intro n
  induction n with
  | zero => intro _ _ _ _ _ hd; exact hd.elim
  | succ n ih =>
    intro x1 g0 H locs ls hd hw hl
    unfold vv_X8_term4_L5 at hd
    refine lv_aload_n K.1 K.2.1 dX8_term4_5 rfl (lv_at hl 0 rfl) ?_
    refine lv_bipush (v := (42 : Int32)) K.1 K.2.1 dX8_term4_6 (by decide) ?_
    refine rk_vi (As := [.int (42 : Int32)]) (rest := []) K hw (cc_X8_isSign l D cy ad A g0 _ (42 : Int32) hd) lk_X8_206 (ci := 8) rfl (q0 := 0) (wsM_at cy ad _ (by decide)) ⟨Nat.le_of_ble_eq_true rfl, Nat.le_of_ble_eq_true rfl⟩ ⟨Nat.zero_le _, Nat.zero_le _⟩ rfl hl.1 (Nat.le_of_ble_eq_true rfl) rfl dX8_term4_8 (fun r_5 g_4 H locs hd hw => ?_)
    refine lv_if_eq (tgt := 28) K.1 K.2.1 dX8_term4_11 (by decide) (fun h_6 => ?_) (fun h_6 => ?_)
    · have hd := hd.1 h_6
      refine lv_iload_n K.1 K.2.1 dX8_term4_28 rfl (lv_at hl 1 rfl) ?_
      exact rk_iret K hw hr hd dX8_term4_29
    · have hd := hd.2 h_6
      refine lv_aload_n K.1 K.2.1 dX8_term4_14 rfl (lv_at hl 0 rfl) ?_
      refine rk_vv (As := []) (rest := []) K hw (cc_X8_next l D cy ad A g_4 _  hd) lk_X8_181 (ci := 8) rfl (q0 := 0) (wsM_at cy ad _ (by decide)) ⟨Nat.le_of_ble_eq_true rfl, Nat.le_of_ble_eq_true rfl⟩ ⟨Nat.zero_le _, Nat.zero_le _⟩ rfl hl.1 (Nat.le_of_ble_eq_true rfl) rfl dX8_term4_15 (fun g_7 H locs hd hw => ?_)
      refine lv_iload_n K.1 K.2.1 dX8_term4_18 rfl (lv_at hl 1 rfl) ?_
      refine lv_aload_n K.1 K.2.1 dX8_term4_19 rfl (lv_at hl 0 rfl) ?_
      refine rk_vi (As := []) (rest := [.int x1]) K hw (cc_X8_atom4 l D cy ad A g_7 _  hd) lk_X8_239 (ci := 8) rfl (q0 := 0) (wsM_at cy ad _ (by decide)) ⟨Nat.le_of_ble_eq_true rfl, Nat.le_of_ble_eq_true rfl⟩ ⟨Nat.zero_le _, Nat.zero_le _⟩ rfl hl.1 (Nat.le_of_ble_eq_true rfl) rfl dX8_term4_20 (fun r_10 g_9 H locs hd hw => ?_)
      refine lv_imul K.1 K.2.1 dX8_term4_23 ?_
      refine lv_topi (fun x1_11 ex1_11 => ?_)
      have hd := hd x1_11 ex1_11
      refine lv_istore_n (lv' := [(1, .int x1_11), (0, .ref (ad 0))]) K.1 K.2.1 dX8_term4_24 rfl hl (by decide) rfl (fun ls hl => ?_)
      refine lv_goto (tgt := 5) K.1 K.2.1 dX8_term4_25 (by decide) ?_
      exact ih x1_11 g_9 _ _ _ hd hw (lv_sub hl [1, 0] rfl)
set_option maxHeartbeats 4000000 in
set_option maxRecDepth 100000 in
theorem cc_X8_term4 (l : Launch) (D : va_G) (cy : Nat → ClassId) (ad : Nat → Nat) (A : Nat → Prop) (g0 : Sg) (Q : Int32 → Sg → Prop)  (hd : vv_X8_term4  g0 Q) : Met l yX8_term4 (Cond.code yX8_term4 cX8_term4 2 (some .int) :: TT) (rmD 11) (va_Pc [.ref (ad 0)] (PreG (wsM cy ad) D cy A g0)) (va_Qi Q (PostG (wsM cy ad) D A) A) 0 0 A := by
  unfold vv_X8_term4 at hd
  refine Met.ofW (cc := cX8_term4) (maxL := 2) (ret := (some .int)) (by decide) rfl ?_
  intro p e s m args below meth c s₁ B hml hv
  obtain ⟨rfl, hP, hK0, hD⟩ := hv
  have K : Kx p s m _ meth c cX8_term4 2 RX8 D cy := ⟨B.exec, B.bytes, hml, findClass_of_methodNamed B.named, fun w h => atoms_spec (ws := Cond.code yX8_term4 cX8_term4 2 (some .int) :: TT) B.pre w (List.mem_cons_of_mem _ h), hK0, B.notSynchronized⟩
  have hw : Wd D A s.heap (wsM cy ad g0) s.heap [] := ⟨hP, hD, va_S.rf⟩
  have hr := B.returns
  have hl := lv_entry ([.ref (ad 0)]) (n := 2) (Nat.le_of_ble_eq_true rfl)
  rw [lg_entry_eq]
  generalize (lg_sl ([.ref (ad 0)]) ++ List.replicate (2 - (lg_sl ([.ref (ad 0)])).length) Slot.unset).toArray = ls at hl ⊢
  have hl : lv_has ls 2 [(0, .ref (ad 0))] := hl
  refine lv_aload_n K.1 K.2.1 dX8_term4_0 rfl (lv_at hl 0 rfl) ?_
  refine rk_vi (As := []) (rest := []) K hw (cc_X8_atom4 l D cy ad A g0 _  hd) lk_X8_239 (ci := 8) rfl (q0 := 0) (wsM_at cy ad _ (by decide)) ⟨Nat.le_of_ble_eq_true rfl, Nat.le_of_ble_eq_true rfl⟩ ⟨Nat.zero_le _, Nat.zero_le _⟩ rfl hl.1 (Nat.le_of_ble_eq_true rfl) rfl dX8_term4_1 (fun r_2 g_1 H locs hd hw => ?_)
  refine lv_topi (fun x1_3 ex1_3 => ?_)
  have hd := hd x1_3 ex1_3
  refine lv_istore_n (lv' := [(1, .int x1_3), (0, .ref (ad 0))]) K.1 K.2.1 dX8_term4_4 rfl hl (by decide) rfl (fun ls hl => ?_)
  obtain ⟨n9, hd⟩ := hd
  exact bb_X8_term4_5 K hr  n9 x1_3 g_1 _ _ _ hd hw (lv_sub hl [1, 0] rfl)
theorem dX8_added4_0 : decode cX8_added4 0 = .ok (.aload_n 0, 1) := by decide +kernel
theorem dX8_added4_1 : decode cX8_added4 1 = .ok (.invokevirtual 242, 3) := by decide +kernel
theorem dX8_added4_4 : decode cX8_added4 4 = .ok (.istore_n 1, 1) := by decide +kernel
theorem dX8_added4_5 : decode cX8_added4 5 = .ok (.aload_n 0, 1) := by decide +kernel
theorem dX8_added4_6 : decode cX8_added4 6 = .ok (.bipush 43, 2) := by decide +kernel
theorem dX8_added4_8 : decode cX8_added4 8 = .ok (.invokevirtual 206, 3) := by decide +kernel
theorem dX8_added4_11 : decode cX8_added4 11 = .ok (.ifCond .ne 12, 3) := by decide +kernel
theorem dX8_added4_14 : decode cX8_added4 14 = .ok (.aload_n 0, 1) := by decide +kernel
theorem dX8_added4_15 : decode cX8_added4 15 = .ok (.bipush 45, 2) := by decide +kernel
theorem dX8_added4_17 : decode cX8_added4 17 = .ok (.invokevirtual 206, 3) := by decide +kernel
theorem dX8_added4_20 : decode cX8_added4 20 = .ok (.ifCond .eq 46, 3) := by decide +kernel
theorem dX8_added4_23 : decode cX8_added4 23 = .ok (.aload_n 0, 1) := by decide +kernel
theorem dX8_added4_24 : decode cX8_added4 24 = .ok (.getfield 160, 3) := by decide +kernel
theorem dX8_added4_27 : decode cX8_added4 27 = .ok (.ldc2_w 223, 3) := by decide +kernel
theorem dX8_added4_30 : decode cX8_added4 30 = .ok (.lcmp, 1) := by decide +kernel
theorem dX8_added4_31 : decode cX8_added4 31 = .ok (.ifCond .ne 7, 3) := by decide +kernel
theorem dX8_added4_34 : decode cX8_added4 34 = .ok (.iconst 1, 1) := by decide +kernel
theorem dX8_added4_35 : decode cX8_added4 35 = .ok (.goto 4, 3) := by decide +kernel
theorem dX8_added4_38 : decode cX8_added4 38 = .ok (.iconst 0, 1) := by decide +kernel
theorem dX8_added4_39 : decode cX8_added4 39 = .ok (.istore_n 2, 1) := by decide +kernel
theorem dX8_added4_40 : decode cX8_added4 40 = .ok (.aload_n 0, 1) := by decide +kernel
theorem dX8_added4_41 : decode cX8_added4 41 = .ok (.invokevirtual 181, 3) := by decide +kernel
theorem dX8_added4_44 : decode cX8_added4 44 = .ok (.aload_n 0, 1) := by decide +kernel
theorem dX8_added4_45 : decode cX8_added4 45 = .ok (.invokevirtual 242, 3) := by decide +kernel
theorem dX8_added4_48 : decode cX8_added4 48 = .ok (.istore_n 3, 1) := by decide +kernel
theorem dX8_added4_49 : decode cX8_added4 49 = .ok (.iload_n 2, 1) := by decide +kernel
theorem dX8_added4_50 : decode cX8_added4 50 = .ok (.ifCond .eq 9, 3) := by decide +kernel
theorem dX8_added4_53 : decode cX8_added4 53 = .ok (.iload_n 1, 1) := by decide +kernel
theorem dX8_added4_54 : decode cX8_added4 54 = .ok (.iload_n 3, 1) := by decide +kernel
theorem dX8_added4_55 : decode cX8_added4 55 = .ok (.iadd, 1) := by decide +kernel
theorem dX8_added4_56 : decode cX8_added4 56 = .ok (.goto 6, 3) := by decide +kernel
theorem dX8_added4_59 : decode cX8_added4 59 = .ok (.iload_n 1, 1) := by decide +kernel
theorem dX8_added4_60 : decode cX8_added4 60 = .ok (.iload_n 3, 1) := by decide +kernel
theorem dX8_added4_61 : decode cX8_added4 61 = .ok (.isub, 1) := by decide +kernel
theorem dX8_added4_62 : decode cX8_added4 62 = .ok (.istore_n 1, 1) := by decide +kernel
theorem dX8_added4_63 : decode cX8_added4 63 = .ok (.goto (-58), 3) := by decide +kernel
theorem dX8_added4_66 : decode cX8_added4 66 = .ok (.iload_n 1, 1) := by decide +kernel
theorem dX8_added4_67 : decode cX8_added4 67 = .ok (.ireturn, 1) := by decide +kernel
set_option maxHeartbeats 4000000 in
set_option maxRecDepth 100000 in
theorem bb_X8_added4_62 {p : Program} {l : Launch} {e : Env} {s : State} {m : MethodId} {args : Array Value} {below : List Frame} {meth : Method} {c : Code} {D : va_G} {cy : Nat → ClassId} {ad : Nat → Nat} {A : Nat → Prop} {Q : Int32 → Sg → Prop} (K : Kx p s m args meth c cX8_added4 4 RX8 D cy) (hr : meth.sig.returnType = (some .int)) {rc5 : Int32 → Sg → Prop} (hrc5 : ∀ (x1 : Int32) (u : Sg) (H : Heap) (locs : List Loc) (ls : Array Slot), rc5 x1 u → Wd D A s.heap (wsM cy ad u) H locs → lv_has ls 4 [(0, .ref (ad 0)), (1, .int x1)] → W p l e (rmD 12) s m args below meth c H locs 0 0 (MQ below (va_Qi Q (PostG (wsM cy ad) D A) A) args s 0 0 A) (F0 m 5 ls []))  (t0 : Int32) (g0 : Sg) (H : Heap) (locs : List Loc) (ls : Array Slot) (hd : vv_X8_added4_J62 rc5 t0 g0 Q) (hw : Wd D A s.heap (wsM cy ad g0) H locs) (hl : lv_has ls 4 [(0, .ref (ad 0))]) : W p l e (rmD 12) s m args below meth c H locs 0 0 (MQ below (va_Qi Q (PostG (wsM cy ad) D A) A) args s 0 0 A) (F0 m 62 ls [.int t0]) := by
  unfold vv_X8_added4_J62 at hd
  refine lv_topi (fun x1_15 ex1_15 => ?_)
  have hd := hd x1_15 ex1_15
  refine lv_istore_n (lv' := [(1, .int x1_15), (0, .ref (ad 0))]) K.1 K.2.1 dX8_added4_62 rfl hl (by decide) rfl (fun ls hl => ?_)
  refine lv_goto (tgt := 5) K.1 K.2.1 dX8_added4_63 (by decide) ?_
  exact hrc5 x1_15 g0 _ _ _ hd hw (lv_sub hl [1, 0] rfl)
set_option maxHeartbeats 4000000 in
set_option maxRecDepth 100000 in
theorem bb_X8_added4_39 {p : Program} {l : Launch} {e : Env} {s : State} {m : MethodId} {args : Array Value} {below : List Frame} {meth : Method} {c : Code} {D : va_G} {cy : Nat → ClassId} {ad : Nat → Nat} {A : Nat → Prop} {Q : Int32 → Sg → Prop} (K : Kx p s m args meth c cX8_added4 4 RX8 D cy) (hr : meth.sig.returnType = (some .int)) {rc5 : Int32 → Sg → Prop} (hrc5 : ∀ (x1 : Int32) (u : Sg) (H : Heap) (locs : List Loc) (ls : Array Slot), rc5 x1 u → Wd D A s.heap (wsM cy ad u) H locs → lv_has ls 4 [(0, .ref (ad 0)), (1, .int x1)] → W p l e (rmD 12) s m args below meth c H locs 0 0 (MQ below (va_Qi Q (PostG (wsM cy ad) D A) A) args s 0 0 A) (F0 m 5 ls [])) (x1 : Int32) (t0 : Int32) (g0 : Sg) (H : Heap) (locs : List Loc) (ls : Array Slot) (hd : vv_X8_added4_J39 rc5 x1 t0 g0 Q) (hw : Wd D A s.heap (wsM cy ad g0) H locs) (hl : lv_has ls 4 [(0, .ref (ad 0)), (1, .int x1)]) : W p l e (rmD 12) s m args below meth c H locs 0 0 (MQ below (va_Qi Q (PostG (wsM cy ad) D A) A) args s 0 0 A) (F0 m 39 ls [.int t0]) := by
  unfold vv_X8_added4_J39 at hd
  refine lv_topi (fun x2_8 ex2_8 => ?_)
  have hd := hd x2_8 ex2_8
  refine lv_istore_n (lv' := [(2, .int x2_8), (0, .ref (ad 0)), (1, .int x1)]) K.1 K.2.1 dX8_added4_39 rfl hl (by decide) rfl (fun ls hl => ?_)
  refine lv_aload_n K.1 K.2.1 dX8_added4_40 rfl (lv_at hl 1 rfl) ?_
  refine rk_vv (As := []) (rest := []) K hw (cc_X8_next l D cy ad A g0 _  hd) lk_X8_181 (ci := 8) rfl (q0 := 0) (wsM_at cy ad _ (by decide)) ⟨Nat.le_of_ble_eq_true rfl, Nat.le_of_ble_eq_true rfl⟩ ⟨Nat.zero_le _, Nat.zero_le _⟩ rfl hl.1 (Nat.le_of_ble_eq_true rfl) rfl dX8_added4_41 (fun g_9 H locs hd hw => ?_)
  refine lv_aload_n K.1 K.2.1 dX8_added4_44 rfl (lv_at hl 1 rfl) ?_
  refine rk_vi (As := []) (rest := []) K hw (cc_X8_term4 l D cy ad A g_9 _  hd) lk_X8_242 (ci := 8) rfl (q0 := 0) (wsM_at cy ad _ (by decide)) ⟨Nat.le_of_ble_eq_true rfl, Nat.le_of_ble_eq_true rfl⟩ ⟨Nat.zero_le _, Nat.zero_le _⟩ rfl hl.1 (Nat.le_of_ble_eq_true rfl) rfl dX8_added4_45 (fun r_12 g_11 H locs hd hw => ?_)
  refine lv_topi (fun x3_13 ex3_13 => ?_)
  have hd := hd x3_13 ex3_13
  refine lv_istore_n (lv' := [(3, .int x3_13), (2, .int x2_8), (0, .ref (ad 0)), (1, .int x1)]) K.1 K.2.1 dX8_added4_48 rfl hl (by decide) rfl (fun ls hl => ?_)
  refine lv_iload_n K.1 K.2.1 dX8_added4_49 rfl (lv_at hl 1 rfl) ?_
  refine lv_if_eq (tgt := 59) K.1 K.2.1 dX8_added4_50 (by decide) (fun h_14 => ?_) (fun h_14 => ?_)
  · have hd := hd.1 h_14
    refine lv_iload_n K.1 K.2.1 dX8_added4_59 rfl (lv_at hl 3 rfl) ?_
    refine lv_iload_n K.1 K.2.1 dX8_added4_60 rfl (lv_at hl 0 rfl) ?_
    refine lv_isub K.1 K.2.1 dX8_added4_61 ?_
    exact bb_X8_added4_62 K hr hrc5 (x1 - x3_13) g_11 _ _ _ hd hw (lv_sub hl [2] rfl)
  · have hd := hd.2 h_14
    refine lv_iload_n K.1 K.2.1 dX8_added4_53 rfl (lv_at hl 3 rfl) ?_
    refine lv_iload_n K.1 K.2.1 dX8_added4_54 rfl (lv_at hl 0 rfl) ?_
    refine lv_iadd K.1 K.2.1 dX8_added4_55 ?_
    refine lv_goto (tgt := 62) K.1 K.2.1 dX8_added4_56 (by decide) ?_
    exact bb_X8_added4_62 K hr hrc5 (x1 + x3_13) g_11 _ _ _ hd hw (lv_sub hl [2] rfl)
set_option maxHeartbeats 4000000 in
set_option maxRecDepth 100000 in
theorem bb_X8_added4_23 {p : Program} {l : Launch} {e : Env} {s : State} {m : MethodId} {args : Array Value} {below : List Frame} {meth : Method} {c : Code} {D : va_G} {cy : Nat → ClassId} {ad : Nat → Nat} {A : Nat → Prop} {Q : Int32 → Sg → Prop} (K : Kx p s m args meth c cX8_added4 4 RX8 D cy) (hr : meth.sig.returnType = (some .int)) {rc5 : Int32 → Sg → Prop} (hrc5 : ∀ (x1 : Int32) (u : Sg) (H : Heap) (locs : List Loc) (ls : Array Slot), rc5 x1 u → Wd D A s.heap (wsM cy ad u) H locs → lv_has ls 4 [(0, .ref (ad 0)), (1, .int x1)] → W p l e (rmD 12) s m args below meth c H locs 0 0 (MQ below (va_Qi Q (PostG (wsM cy ad) D A) A) args s 0 0 A) (F0 m 5 ls [])) (x1 : Int32)  (g0 : Sg) (H : Heap) (locs : List Loc) (ls : Array Slot) (hd : vv_X8_added4_J23 rc5 x1 g0 Q) (hw : Wd D A s.heap (wsM cy ad g0) H locs) (hl : lv_has ls 4 [(0, .ref (ad 0)), (1, .int x1)]) : W p l e (rmD 12) s m args below meth c H locs 0 0 (MQ below (va_Qi Q (PostG (wsM cy ad) D A) A) args s 0 0 A) (F0 m 23 ls []) := by
  unfold vv_X8_added4_J23 at hd
  refine lv_aload_n K.1 K.2.1 dX8_added4_23 rfl (lv_at hl 0 rfl) ?_
  refine rm_get 23 K hw (by decide) kf_X8_160 rfl dX8_added4_24 ?_
  refine lv_ldc2 K.1 K.2.1 K.2.2.2.1 (K.2.2.2.2.1 _ kl_X8_223) dX8_added4_27 ?_
  refine W.lcmp K.1 K.2.1 dX8_added4_30 ?_
  refine lv_if_ne (tgt := 38) K.1 K.2.1 dX8_added4_31 (by decide) (fun h_7 => ?_) (fun h_7 => ?_)
  · have hd := hd.1 h_7
    refine lv_iconst (v := (0 : Int32)) K.1 K.2.1 dX8_added4_38 (by decide) ?_
    exact bb_X8_added4_39 K hr hrc5 x1 (0 : Int32) g0 _ _ _ hd hw (lv_sub hl [0, 1] rfl)
  · have hd := hd.2 h_7
    refine lv_iconst (v := (1 : Int32)) K.1 K.2.1 dX8_added4_34 (by decide) ?_
    refine lv_goto (tgt := 39) K.1 K.2.1 dX8_added4_35 (by decide) ?_
    exact bb_X8_added4_39 K hr hrc5 x1 (1 : Int32) g0 _ _ _ hd hw (lv_sub hl [0, 1] rfl)
set_option maxHeartbeats 4000000 in
set_option maxRecDepth 100000 in
theorem bb_X8_added4_5 {p : Program} {l : Launch} {e : Env} {s : State} {m : MethodId} {args : Array Value} {below : List Frame} {meth : Method} {c : Code} {D : va_G} {cy : Nat → ClassId} {ad : Nat → Nat} {A : Nat → Prop} {Q : Int32 → Sg → Prop} (K : Kx p s m args meth c cX8_added4 4 RX8 D cy) (hr : meth.sig.returnType = (some .int)) : ∀ (n : Nat) (x1 : Int32)  (g0 : Sg) (H : Heap) (locs : List Loc) (ls : Array Slot), vv_X8_added4_L5 Q n x1 g0 → Wd D A s.heap (wsM cy ad g0) H locs → lv_has ls 4 [(0, .ref (ad 0)), (1, .int x1)] → W p l e (rmD 12) s m args below meth c H locs 0 0 (MQ below (va_Qi Q (PostG (wsM cy ad) D A) A) args s 0 0 A) (F0 m 5 ls []) := by
  intro n
  induction n with
  | zero => intro _ _ _ _ _ hd; exact hd.elim
  | succ n ih =>
    intro x1 g0 H locs ls hd hw hl
    unfold vv_X8_added4_L5 at hd
    refine lv_aload_n K.1 K.2.1 dX8_added4_5 rfl (lv_at hl 0 rfl) ?_
    refine lv_bipush (v := (43 : Int32)) K.1 K.2.1 dX8_added4_6 (by decide) ?_
    refine rk_vi (As := [.int (43 : Int32)]) (rest := []) K hw (cc_X8_isSign l D cy ad A g0 _ (43 : Int32) hd) lk_X8_206 (ci := 8) rfl (q0 := 0) (wsM_at cy ad _ (by decide)) ⟨Nat.le_of_ble_eq_true rfl, Nat.le_of_ble_eq_true rfl⟩ ⟨Nat.zero_le _, Nat.zero_le _⟩ rfl hl.1 (Nat.le_of_ble_eq_true rfl) rfl dX8_added4_8 (fun r_5 g_4 H locs hd hw => ?_)
    refine lv_if_ne (tgt := 23) K.1 K.2.1 dX8_added4_11 (by decide) (fun h_6 => ?_) (fun h_6 => ?_)
    · have hd := hd.1 h_6
      exact bb_X8_added4_23 K hr ih x1 g_4 _ _ _ hd hw (lv_sub hl [0, 1] rfl)
    · have hd := hd.2 h_6
      refine lv_aload_n K.1 K.2.1 dX8_added4_14 rfl (lv_at hl 0 rfl) ?_
      refine lv_bipush (v := (45 : Int32)) K.1 K.2.1 dX8_added4_15 (by decide) ?_
      refine rk_vi (As := [.int (45 : Int32)]) (rest := []) K hw (cc_X8_isSign l D cy ad A g_4 _ (45 : Int32) hd) lk_X8_206 (ci := 8) rfl (q0 := 0) (wsM_at cy ad _ (by decide)) ⟨Nat.le_of_ble_eq_true rfl, Nat.le_of_ble_eq_true rfl⟩ ⟨Nat.zero_le _, Nat.zero_le _⟩ rfl hl.1 (Nat.le_of_ble_eq_true rfl) rfl dX8_added4_17 (fun r_17 g_16 H locs hd hw => ?_)
      refine lv_if_eq (tgt := 66) K.1 K.2.1 dX8_added4_20 (by decide) (fun h_18 => ?_) (fun h_18 => ?_)
      · have hd := hd.1 h_18
        refine lv_iload_n K.1 K.2.1 dX8_added4_66 rfl (lv_at hl 1 rfl) ?_
        exact rk_iret K hw hr hd dX8_added4_67
      · have hd := hd.2 h_18
        exact bb_X8_added4_23 K hr ih x1 g_16 _ _ _ hd hw (lv_sub hl [0, 1] rfl)
set_option maxHeartbeats 4000000 in
set_option maxRecDepth 100000 in
theorem cc_X8_added4 (l : Launch) (D : va_G) (cy : Nat → ClassId) (ad : Nat → Nat) (A : Nat → Prop) (g0 : Sg) (Q : Int32 → Sg → Prop)  (hd : vv_X8_added4  g0 Q) : Met l yX8_added4 (Cond.code yX8_added4 cX8_added4 4 (some .int) :: TT) (rmD 12) (va_Pc [.ref (ad 0)] (PreG (wsM cy ad) D cy A g0)) (va_Qi Q (PostG (wsM cy ad) D A) A) 0 0 A := by
  unfold vv_X8_added4 at hd
  refine Met.ofW (cc := cX8_added4) (maxL := 4) (ret := (some .int)) (by decide) rfl ?_
  intro p e s m args below meth c s₁ B hml hv
  obtain ⟨rfl, hP, hK0, hD⟩ := hv
  have K : Kx p s m _ meth c cX8_added4 4 RX8 D cy := ⟨B.exec, B.bytes, hml, findClass_of_methodNamed B.named, fun w h => atoms_spec (ws := Cond.code yX8_added4 cX8_added4 4 (some .int) :: TT) B.pre w (List.mem_cons_of_mem _ h), hK0, B.notSynchronized⟩
  have hw : Wd D A s.heap (wsM cy ad g0) s.heap [] := ⟨hP, hD, va_S.rf⟩
  have hr := B.returns
  have hl := lv_entry ([.ref (ad 0)]) (n := 4) (Nat.le_of_ble_eq_true rfl)
  rw [lg_entry_eq]
  generalize (lg_sl ([.ref (ad 0)]) ++ List.replicate (4 - (lg_sl ([.ref (ad 0)])).length) Slot.unset).toArray = ls at hl ⊢
  have hl : lv_has ls 4 [(0, .ref (ad 0))] := hl
  refine lv_aload_n K.1 K.2.1 dX8_added4_0 rfl (lv_at hl 0 rfl) ?_
  refine rk_vi (As := []) (rest := []) K hw (cc_X8_term4 l D cy ad A g0 _  hd) lk_X8_242 (ci := 8) rfl (q0 := 0) (wsM_at cy ad _ (by decide)) ⟨Nat.le_of_ble_eq_true rfl, Nat.le_of_ble_eq_true rfl⟩ ⟨Nat.zero_le _, Nat.zero_le _⟩ rfl hl.1 (Nat.le_of_ble_eq_true rfl) rfl dX8_added4_1 (fun r_2 g_1 H locs hd hw => ?_)
  refine lv_topi (fun x1_3 ex1_3 => ?_)
  have hd := hd x1_3 ex1_3
  refine lv_istore_n (lv' := [(1, .int x1_3), (0, .ref (ad 0))]) K.1 K.2.1 dX8_added4_4 rfl hl (by decide) rfl (fun ls hl => ?_)
  obtain ⟨n9, hd⟩ := hd
  exact bb_X8_added4_5 K hr  n9 x1_3 g_1 _ _ _ hd hw (lv_sub hl [1, 0] rfl)
