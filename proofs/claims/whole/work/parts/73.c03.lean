theorem dX7_isPaper_0 : decode cX7_isPaper 0 = .ok (.iload_n 1, 1) := by decide +kernel
theorem dX7_isPaper_1 : decode cX7_isPaper 1 = .ok (.ifCond .lt 18, 3) := by decide +kernel
theorem dX7_isPaper_4 : decode cX7_isPaper 4 = .ok (.iload_n 1, 1) := by decide +kernel
theorem dX7_isPaper_5 : decode cX7_isPaper 5 = .ok (.aload_n 0, 1) := by decide +kernel
theorem dX7_isPaper_6 : decode cX7_isPaper 6 = .ok (.getfield 10, 3) := by decide +kernel
theorem dX7_isPaper_9 : decode cX7_isPaper 9 = .ok (.getfield 117, 3) := by decide +kernel
theorem dX7_isPaper_12 : decode cX7_isPaper 12 = .ok (.if_icmp .ge 7, 3) := by decide +kernel
theorem dX7_isPaper_15 : decode cX7_isPaper 15 = .ok (.iconst 1, 1) := by decide +kernel
theorem dX7_isPaper_16 : decode cX7_isPaper 16 = .ok (.goto 4, 3) := by decide +kernel
theorem dX7_isPaper_19 : decode cX7_isPaper 19 = .ok (.iconst 0, 1) := by decide +kernel
theorem dX7_isPaper_20 : decode cX7_isPaper 20 = .ok (.ireturn, 1) := by decide +kernel
set_option maxHeartbeats 4000000 in
set_option maxRecDepth 100000 in
theorem cc_X7_isPaper (l : Launch) (D : va_G) (cy : Nat → ClassId) (nt : Nat) (ad : Nat → Nat) (A : Nat → Prop) (X : Nat → Nat)  (g0 : Sg) (Q : Int32 → Sg → Prop) (x1 : Int32) (hd : vv_X7_isPaper nt x1 g0 Q) : Met l yX7_isPaper (Cond.code yX7_isPaper cX7_isPaper 2 (some .boolean) :: TT) (rmD 1) (va_Pc [.ref (ad 0), .int x1] (PreC (wsC cy nt ad) D cy A X g0)) (va_Qi Q (PostG (wsC cy nt ad) D A) A) 0 0 A := by
  unfold vv_X7_isPaper at hd
  refine Met.ofW (cc := cX7_isPaper) (maxL := 2) (ret := (some .boolean)) (by decide) rfl ?_
  intro p e s m args below meth c s₁ B hml hv
  obtain ⟨rfl, ⟨hP, hK0, hD⟩, KX⟩ := hv
  have K : Kx p s m _ meth c cX7_isPaper 2 RX7 D cy := ⟨B.exec, B.bytes, hml, findClass_of_methodNamed B.named, fun w h => atoms_spec (ws := Cond.code yX7_isPaper cX7_isPaper 2 (some .boolean) :: TT) B.pre w (List.mem_cons_of_mem _ h), hK0, B.notSynchronized⟩
  have hw : Wd D A s.heap (wsC cy nt ad g0) s.heap [] := ⟨hP, hD, va_S.rf⟩
  have hr := B.returns
  have hl := lv_entry ([.ref (ad 0), .int x1]) (n := 2) (Nat.le_of_ble_eq_true rfl)
  rw [lg_entry_eq]
  generalize (lg_sl ([.ref (ad 0), .int x1]) ++ List.replicate (2 - (lg_sl ([.ref (ad 0), .int x1])).length) Slot.unset).toArray = ls at hl ⊢
  have hl : lv_has ls 2 [(0, .ref (ad 0)), (1, .int x1)] := hl
  refine lv_iload_n K.1 K.2.1 dX7_isPaper_0 rfl (lv_at hl 1 rfl) ?_
  refine lv_if_lt (tgt := 19) K.1 K.2.1 dX7_isPaper_1 (by decide) (fun h_1 => ?_) (fun h_1 => ?_)
  · have hd := hd.1 h_1
    refine lv_iconst (v := (0 : Int32)) K.1 K.2.1 dX7_isPaper_19 (by decide) ?_
    exact rk_zret K hw hr (by decide) hd dX7_isPaper_20
  · have hd := hd.2 h_1
    refine lv_iload_n K.1 K.2.1 dX7_isPaper_4 rfl (lv_at hl 1 rfl) ?_
    refine lv_aload_n K.1 K.2.1 dX7_isPaper_5 rfl (lv_at hl 0 rfl) ?_
    refine rc_get layX7 (ci := 7) rfl 0 (by decide) (v := .ref (ad 1)) K hw (wc_O cy nt ad _) kf_X7_10 rfl dX7_isPaper_6 ?_
    refine rc_get layX0 (ci := 0) rfl 2 (by decide) (v := .int (g0 1 2)) K hw (wc_B cy nt ad _ ⟨by decide, by decide⟩) kf_X7_117 rfl dX7_isPaper_9 ?_
    refine lv_icmp_ge (tgt := 19) K.1 K.2.1 dX7_isPaper_12 (by decide) (fun h_2 => ?_) (fun h_2 => ?_)
    · have hd := hd.1 h_2
      refine lv_iconst (v := (0 : Int32)) K.1 K.2.1 dX7_isPaper_19 (by decide) ?_
      exact rk_zret K hw hr (by decide) hd dX7_isPaper_20
    · have hd := hd.2 h_2
      refine lv_iconst (v := (1 : Int32)) K.1 K.2.1 dX7_isPaper_15 (by decide) ?_
      refine lv_goto (tgt := 20) K.1 K.2.1 dX7_isPaper_16 (by decide) ?_
      exact rk_zret K hw hr (by decide) hd dX7_isPaper_20
theorem dX7_textOf_0 : decode cX7_textOf 0 = .ok (.aload_n 0, 1) := by decide +kernel
theorem dX7_textOf_1 : decode cX7_textOf 1 = .ok (.getfield 47, 3) := by decide +kernel
theorem dX7_textOf_4 : decode cX7_textOf 4 = .ok (.iload_n 1, 1) := by decide +kernel
theorem dX7_textOf_5 : decode cX7_textOf 5 = .ok (.ifCond .lt 13, 3) := by decide +kernel
theorem dX7_textOf_8 : decode cX7_textOf 8 = .ok (.iload_n 1, 1) := by decide +kernel
theorem dX7_textOf_9 : decode cX7_textOf 9 = .ok (.bipush 6, 2) := by decide +kernel
theorem dX7_textOf_11 : decode cX7_textOf 11 = .ok (.if_icmp .ge 7, 3) := by decide +kernel
theorem dX7_textOf_14 : decode cX7_textOf 14 = .ok (.iload_n 1, 1) := by decide +kernel
theorem dX7_textOf_15 : decode cX7_textOf 15 = .ok (.goto 4, 3) := by decide +kernel
theorem dX7_textOf_18 : decode cX7_textOf 18 = .ok (.iconst 0, 1) := by decide +kernel
theorem dX7_textOf_19 : decode cX7_textOf 19 = .ok (.aaload, 1) := by decide +kernel
theorem dX7_textOf_20 : decode cX7_textOf 20 = .ok (.areturn, 1) := by decide +kernel
set_option maxHeartbeats 4000000 in
set_option maxRecDepth 100000 in
theorem bb_X7_textOf_19 {p : Program} {l : Launch} {e : Env} {s : State} {m : MethodId} {args : Array Value} {below : List Frame} {meth : Method} {c : Code} {D : va_G} {cy : Nat → ClassId} {nt : Nat} {ad : Nat → Nat} {A : Nat → Prop} {X : Nat → Nat} {Q : Nat → Sg → Prop} (K : Kx p s m args meth c cX7_textOf 2 RX7 D cy) (KX : XC X A s s.heap) (hr : meth.sig.returnType = (some (.object "OppositionInBaskets$Text")))   (t1 : Int32) (g0 : Sg) (H : Heap) (locs : List Loc) (ls : Array Slot) (hd : vv_X7_textOf_J19 nt t1 g0 Q) (hw : Wd D A s.heap (wsC cy nt ad g0) H locs) (hl : lv_has ls 2 []) : W p l e (rmD 1) s m args below meth c H locs 0 0 (MQ below (va_Qt ad Q (PostG (wsC cy nt ad) D A) A) args s 0 0 A) (F0 m 19 ls [.int t1, .ref (ad 12)]) := by
  unfold vv_X7_textOf_J19 at hd
  have hb_2 := hd.1
  have hq_3 := hd.2.1
  have hd := hd.2.2
  refine rc_aald (t0 := 4) (b := ad (tx g0 t1)) K hw (wc_12 cy nt ad _) rfl rfl hb_2 dX7_textOf_19 ?_
  exact rkc_tret K hw hr hd dX7_textOf_20
set_option maxHeartbeats 4000000 in
set_option maxRecDepth 100000 in
theorem bb_X7_textOf_18 {p : Program} {l : Launch} {e : Env} {s : State} {m : MethodId} {args : Array Value} {below : List Frame} {meth : Method} {c : Code} {D : va_G} {cy : Nat → ClassId} {nt : Nat} {ad : Nat → Nat} {A : Nat → Prop} {X : Nat → Nat} {Q : Nat → Sg → Prop} (K : Kx p s m args meth c cX7_textOf 2 RX7 D cy) (KX : XC X A s s.heap) (hr : meth.sig.returnType = (some (.object "OppositionInBaskets$Text")))    (g0 : Sg) (H : Heap) (locs : List Loc) (ls : Array Slot) (hd : vv_X7_textOf_J18 nt g0 Q) (hw : Wd D A s.heap (wsC cy nt ad g0) H locs) (hl : lv_has ls 2 []) : W p l e (rmD 1) s m args below meth c H locs 0 0 (MQ below (va_Qt ad Q (PostG (wsC cy nt ad) D A) A) args s 0 0 A) (F0 m 18 ls [.ref (ad 12)]) := by
  unfold vv_X7_textOf_J18 at hd
  refine lv_iconst (v := (0 : Int32)) K.1 K.2.1 dX7_textOf_18 (by decide) ?_
  exact bb_X7_textOf_19 K KX hr   (0 : Int32) g0 _ _ _  hd hw (lv_sub hl [] rfl)
set_option maxHeartbeats 4000000 in
set_option maxRecDepth 100000 in
theorem cc_X7_textOf (l : Launch) (D : va_G) (cy : Nat → ClassId) (nt : Nat) (ad : Nat → Nat) (A : Nat → Prop) (X : Nat → Nat)  (g0 : Sg) (Q : Nat → Sg → Prop) (x1 : Int32) (hd : vv_X7_textOf nt x1 g0 Q) : Met l yX7_textOf (Cond.code yX7_textOf cX7_textOf 2 (some (.object "OppositionInBaskets$Text")) :: TT) (rmD 1) (va_Pc [.ref (ad 0), .int x1] (PreC (wsC cy nt ad) D cy A X g0)) (va_Qt ad Q (PostG (wsC cy nt ad) D A) A) 0 0 A := by
  unfold vv_X7_textOf at hd
  refine Met.ofW (cc := cX7_textOf) (maxL := 2) (ret := (some (.object "OppositionInBaskets$Text"))) (by decide) rfl ?_
  intro p e s m args below meth c s₁ B hml hv
  obtain ⟨rfl, ⟨hP, hK0, hD⟩, KX⟩ := hv
  have K : Kx p s m _ meth c cX7_textOf 2 RX7 D cy := ⟨B.exec, B.bytes, hml, findClass_of_methodNamed B.named, fun w h => atoms_spec (ws := Cond.code yX7_textOf cX7_textOf 2 (some (.object "OppositionInBaskets$Text")) :: TT) B.pre w (List.mem_cons_of_mem _ h), hK0, B.notSynchronized⟩
  have hw : Wd D A s.heap (wsC cy nt ad g0) s.heap [] := ⟨hP, hD, va_S.rf⟩
  have hr := B.returns
  have hl := lv_entry ([.ref (ad 0), .int x1]) (n := 2) (Nat.le_of_ble_eq_true rfl)
  rw [lg_entry_eq]
  generalize (lg_sl ([.ref (ad 0), .int x1]) ++ List.replicate (2 - (lg_sl ([.ref (ad 0), .int x1])).length) Slot.unset).toArray = ls at hl ⊢
  have hl : lv_has ls 2 [(0, .ref (ad 0)), (1, .int x1)] := hl
  refine lv_aload_n K.1 K.2.1 dX7_textOf_0 rfl (lv_at hl 0 rfl) ?_
  refine rc_get layX7 (ci := 7) rfl 7 (by decide) (v := .ref (ad 12)) K hw (wc_O cy nt ad _) kf_X7_47 rfl dX7_textOf_1 ?_
  refine lv_iload_n K.1 K.2.1 dX7_textOf_4 rfl (lv_at hl 1 rfl) ?_
  refine lv_if_lt (tgt := 18) K.1 K.2.1 dX7_textOf_5 (by decide) (fun h_1 => ?_) (fun h_1 => ?_)
  · have hd := hd.1 h_1
    exact bb_X7_textOf_18 K KX hr    g0 _ _ _  hd hw (lv_sub hl [] rfl)
  · have hd := hd.2 h_1
    refine lv_iload_n K.1 K.2.1 dX7_textOf_8 rfl (lv_at hl 1 rfl) ?_
    refine lv_bipush (v := (6 : Int32)) K.1 K.2.1 dX7_textOf_9 (by decide) ?_
    refine lv_icmp_ge (tgt := 18) K.1 K.2.1 dX7_textOf_11 (by decide) (fun h_4 => ?_) (fun h_4 => ?_)
    · have hd := hd.1 h_4
      exact bb_X7_textOf_18 K KX hr    g0 _ _ _  hd hw (lv_sub hl [] rfl)
    · have hd := hd.2 h_4
      refine lv_iload_n K.1 K.2.1 dX7_textOf_14 rfl (lv_at hl 1 rfl) ?_
      refine lv_goto (tgt := 19) K.1 K.2.1 dX7_textOf_15 (by decide) ?_
      exact bb_X7_textOf_19 K KX hr   x1 g0 _ _ _  hd hw (lv_sub hl [] rfl)
theorem dX7_bounded_0 : decode cX7_bounded 0 = .ok (.iload_n 1, 1) := by decide +kernel
theorem dX7_bounded_1 : decode cX7_bounded 1 = .ok (.iload_n 2, 1) := by decide +kernel
theorem dX7_bounded_2 : decode cX7_bounded 2 = .ok (.iload_n 0, 1) := by decide +kernel
theorem dX7_bounded_3 : decode cX7_bounded 3 = .ok (.invokestatic 316, 3) := by decide +kernel
theorem dX7_bounded_6 : decode cX7_bounded 6 = .ok (.invokestatic 319, 3) := by decide +kernel
theorem dX7_bounded_9 : decode cX7_bounded 9 = .ok (.ireturn, 1) := by decide +kernel
set_option maxHeartbeats 4000000 in
set_option maxRecDepth 100000 in
theorem cc_X7_bounded (l : Launch) (D : va_G) (cy : Nat → ClassId) (nt : Nat) (ad : Nat → Nat) (A : Nat → Prop) (X : Nat → Nat)  (g0 : Sg) (Q : Int32 → Sg → Prop) (x0 : Int32) (x1 : Int32) (x2 : Int32) (hd : vv_X7_bounded nt x0 x1 x2 g0 Q) : Met l yX7_bounded (Cond.code yX7_bounded cX7_bounded 3 (some .int) :: TT) (rmD 1) (va_Pc [.int x0, .int x1, .int x2] (PreC (wsC cy nt ad) D cy A X g0)) (va_Qi Q (PostG (wsC cy nt ad) D A) A) 0 0 A := by
  unfold vv_X7_bounded at hd
  refine Met.ofW (cc := cX7_bounded) (maxL := 3) (ret := (some .int)) (by decide) rfl ?_
  intro p e s m args below meth c s₁ B hml hv
  obtain ⟨rfl, ⟨hP, hK0, hD⟩, KX⟩ := hv
  have K : Kx p s m _ meth c cX7_bounded 3 RX7 D cy := ⟨B.exec, B.bytes, hml, findClass_of_methodNamed B.named, fun w h => atoms_spec (ws := Cond.code yX7_bounded cX7_bounded 3 (some .int) :: TT) B.pre w (List.mem_cons_of_mem _ h), hK0, B.notSynchronized⟩
  have hw : Wd D A s.heap (wsC cy nt ad g0) s.heap [] := ⟨hP, hD, va_S.rf⟩
  have hr := B.returns
  have hl := lv_entry ([.int x0, .int x1, .int x2]) (n := 3) (Nat.le_of_ble_eq_true rfl)
  rw [lg_entry_eq]
  generalize (lg_sl ([.int x0, .int x1, .int x2]) ++ List.replicate (3 - (lg_sl ([.int x0, .int x1, .int x2])).length) Slot.unset).toArray = ls at hl ⊢
  have hl : lv_has ls 3 [(0, .int x0), (1, .int x1), (2, .int x2)] := hl
  refine lv_iload_n K.1 K.2.1 dX7_bounded_0 rfl (lv_at hl 1 rfl) ?_
  refine lv_iload_n K.1 K.2.1 dX7_bounded_1 rfl (lv_at hl 2 rfl) ?_
  refine lv_iload_n K.1 K.2.1 dX7_bounded_2 rfl (lv_at hl 0 rfl) ?_
  refine va_mmin K.1 K.2.1 (K.2.2.1.trans hl.1.symm) K.2.2.2.1 (K.2.2.2.2.1 _ lkm_X7_316.1) (K.2.2.2.2.1 _ lkm_X7_316.2.1) (K.2.2.2.2.1 _ lkm_X7_316.2.2.1) (K.2.2.2.2.1 _ lkm_X7_316.2.2.2) (Nat.le_of_ble_eq_true rfl) (Nat.le_of_ble_eq_true rfl) (Nat.zero_le _) (Nat.zero_le _) dX7_bounded_3 ?_
  refine va_mmax K.1 K.2.1 (K.2.2.1.trans hl.1.symm) K.2.2.2.1 (K.2.2.2.2.1 _ lkm_X7_319.1) (K.2.2.2.2.1 _ lkm_X7_319.2.1) (K.2.2.2.2.1 _ lkm_X7_319.2.2.1) (K.2.2.2.2.1 _ lkm_X7_319.2.2.2) (Nat.le_of_ble_eq_true rfl) (Nat.le_of_ble_eq_true rfl) (Nat.zero_le _) (Nat.zero_le _) dX7_bounded_6 ?_
  exact rk_iret K hw hr hd dX7_bounded_9
theorem dX7_kindWeighs_0 : decode cX7_kindWeighs 0 = .ok (.aload_n 0, 1) := by decide +kernel
theorem dX7_kindWeighs_1 : decode cX7_kindWeighs 1 = .ok (.getfield 304, 3) := by decide +kernel
theorem dX7_kindWeighs_4 : decode cX7_kindWeighs 4 = .ok (.tableswitch 55 1 5 #[36, 43, 36, 47, 53], 36) := by decide +kernel
theorem dX7_kindWeighs_40 : decode cX7_kindWeighs 40 = .ok (.iload_n 1, 1) := by decide +kernel
theorem dX7_kindWeighs_41 : decode cX7_kindWeighs 41 = .ok (.aload_n 0, 1) := by decide +kernel
theorem dX7_kindWeighs_42 : decode cX7_kindWeighs 42 = .ok (.getfield 310, 3) := by decide +kernel
theorem dX7_kindWeighs_45 : decode cX7_kindWeighs 45 = .ok (.iadd, 1) := by decide +kernel
theorem dX7_kindWeighs_46 : decode cX7_kindWeighs 46 = .ok (.ireturn, 1) := by decide +kernel
theorem dX7_kindWeighs_47 : decode cX7_kindWeighs 47 = .ok (.iload_n 1, 1) := by decide +kernel
theorem dX7_kindWeighs_48 : decode cX7_kindWeighs 48 = .ok (.iconst 2, 1) := by decide +kernel
theorem dX7_kindWeighs_49 : decode cX7_kindWeighs 49 = .ok (.idiv, 1) := by decide +kernel
theorem dX7_kindWeighs_50 : decode cX7_kindWeighs 50 = .ok (.ireturn, 1) := by decide +kernel
theorem dX7_kindWeighs_51 : decode cX7_kindWeighs 51 = .ok (.iload_n 1, 1) := by decide +kernel
theorem dX7_kindWeighs_52 : decode cX7_kindWeighs 52 = .ok (.iconst 2, 1) := by decide +kernel
theorem dX7_kindWeighs_53 : decode cX7_kindWeighs 53 = .ok (.idiv, 1) := by decide +kernel
theorem dX7_kindWeighs_54 : decode cX7_kindWeighs 54 = .ok (.iconst 1, 1) := by decide +kernel
theorem dX7_kindWeighs_55 : decode cX7_kindWeighs 55 = .ok (.iadd, 1) := by decide +kernel
theorem dX7_kindWeighs_56 : decode cX7_kindWeighs 56 = .ok (.ireturn, 1) := by decide +kernel
theorem dX7_kindWeighs_57 : decode cX7_kindWeighs 57 = .ok (.iconst 3, 1) := by decide +kernel
theorem dX7_kindWeighs_58 : decode cX7_kindWeighs 58 = .ok (.ireturn, 1) := by decide +kernel
theorem dX7_kindWeighs_59 : decode cX7_kindWeighs 59 = .ok (.iload_n 1, 1) := by decide +kernel
theorem dX7_kindWeighs_60 : decode cX7_kindWeighs 60 = .ok (.ireturn, 1) := by decide +kernel
set_option maxHeartbeats 4000000 in
set_option maxRecDepth 100000 in
theorem cc_X7_kindWeighs (l : Launch) (D : va_G) (cy : Nat → ClassId) (nt : Nat) (ad : Nat → Nat) (A : Nat → Prop) (X : Nat → Nat)  (g0 : Sg) (Q : Int32 → Sg → Prop) (x0 : Nat) (x1 : Int32) (hd : vv_X7_kindWeighs nt x0 x1 g0 Q) : Met l yX7_kindWeighs (Cond.code yX7_kindWeighs cX7_kindWeighs 2 (some .int) :: TT) (rmD 1) (va_Pc [.ref (ad x0), .int x1] (PreC (wsC cy nt ad) D cy A X g0)) (va_Qi Q (PostG (wsC cy nt ad) D A) A) 0 0 A := by
  unfold vv_X7_kindWeighs at hd
  refine Met.ofW (cc := cX7_kindWeighs) (maxL := 2) (ret := (some .int)) (by decide) rfl ?_
  intro p e s m args below meth c s₁ B hml hv
  obtain ⟨rfl, ⟨hP, hK0, hD⟩, KX⟩ := hv
  have K : Kx p s m _ meth c cX7_kindWeighs 2 RX7 D cy := ⟨B.exec, B.bytes, hml, findClass_of_methodNamed B.named, fun w h => atoms_spec (ws := Cond.code yX7_kindWeighs cX7_kindWeighs 2 (some .int) :: TT) B.pre w (List.mem_cons_of_mem _ h), hK0, B.notSynchronized⟩
  have hw : Wd D A s.heap (wsC cy nt ad g0) s.heap [] := ⟨hP, hD, va_S.rf⟩
  have hr := B.returns
  have hl := lv_entry ([.ref (ad x0), .int x1]) (n := 2) (Nat.le_of_ble_eq_true rfl)
  rw [lg_entry_eq]
  generalize (lg_sl ([.ref (ad x0), .int x1]) ++ List.replicate (2 - (lg_sl ([.ref (ad x0), .int x1])).length) Slot.unset).toArray = ls at hl ⊢
  have hl : lv_has ls 2 [(0, .ref (ad x0)), (1, .int x1)] := hl
  have hq_x0 := hd.1
  have hd := hd.2
  refine lv_aload_n K.1 K.2.1 dX7_kindWeighs_0 rfl (lv_at hl 0 rfl) ?_
  refine rc_get layX1 (ci := 1) rfl 0 (by decide) (v := .int (g0 x0 0)) K hw (wc_P cy nt ad _ hq_x0) kf_X7_304 rfl dX7_kindWeighs_1 ?_
  rcases Classical.em ((g0 x0 0) = (1 : Int32)) with h_2 | h_2
  · have hd := hd.1 h_2
    refine lv_tableIn (tgt := 40) K.1 K.2.1 dX7_kindWeighs_4 (by rw [h_2]; decide) (by rw [h_2]; decide) (off := 36) (by rw [h_2]; rfl) (by decide) ?_
    refine lv_iload_n K.1 K.2.1 dX7_kindWeighs_40 rfl (lv_at hl 1 rfl) ?_
    refine lv_aload_n K.1 K.2.1 dX7_kindWeighs_41 rfl (lv_at hl 0 rfl) ?_
    refine rc_get layX1 (ci := 1) rfl 1 (by decide) (v := .int (g0 x0 1)) K hw (wc_P cy nt ad _ hq_x0) kf_X7_310 rfl dX7_kindWeighs_42 ?_
    refine lv_iadd K.1 K.2.1 dX7_kindWeighs_45 ?_
    exact rk_iret K hw hr hd dX7_kindWeighs_46
  rcases Classical.em ((g0 x0 0) = (2 : Int32)) with h_3 | h_3
  · have hd := hd.2.1 h_3
    refine lv_tableIn (tgt := 47) K.1 K.2.1 dX7_kindWeighs_4 (by rw [h_3]; decide) (by rw [h_3]; decide) (off := 43) (by rw [h_3]; rfl) (by decide) ?_
    refine lv_iload_n K.1 K.2.1 dX7_kindWeighs_47 rfl (lv_at hl 1 rfl) ?_
    refine lv_iconst (v := (2 : Int32)) K.1 K.2.1 dX7_kindWeighs_48 (by decide) ?_
    refine lv_idiv K.1 K.2.1 dX7_kindWeighs_49 (by decide) ?_
    exact rk_iret K hw hr hd dX7_kindWeighs_50
  rcases Classical.em ((g0 x0 0) = (3 : Int32)) with h_4 | h_4
  · have hd := hd.2.2.1 h_4
    refine lv_tableIn (tgt := 40) K.1 K.2.1 dX7_kindWeighs_4 (by rw [h_4]; decide) (by rw [h_4]; decide) (off := 36) (by rw [h_4]; rfl) (by decide) ?_
    refine lv_iload_n K.1 K.2.1 dX7_kindWeighs_40 rfl (lv_at hl 1 rfl) ?_
    refine lv_aload_n K.1 K.2.1 dX7_kindWeighs_41 rfl (lv_at hl 0 rfl) ?_
    refine rc_get layX1 (ci := 1) rfl 1 (by decide) (v := .int (g0 x0 1)) K hw (wc_P cy nt ad _ hq_x0) kf_X7_310 rfl dX7_kindWeighs_42 ?_
    refine lv_iadd K.1 K.2.1 dX7_kindWeighs_45 ?_
    exact rk_iret K hw hr hd dX7_kindWeighs_46
  rcases Classical.em ((g0 x0 0) = (4 : Int32)) with h_5 | h_5
  · have hd := hd.2.2.2.1 h_5
    refine lv_tableIn (tgt := 51) K.1 K.2.1 dX7_kindWeighs_4 (by rw [h_5]; decide) (by rw [h_5]; decide) (off := 47) (by rw [h_5]; rfl) (by decide) ?_
    refine lv_iload_n K.1 K.2.1 dX7_kindWeighs_51 rfl (lv_at hl 1 rfl) ?_
    refine lv_iconst (v := (2 : Int32)) K.1 K.2.1 dX7_kindWeighs_52 (by decide) ?_
    refine lv_idiv K.1 K.2.1 dX7_kindWeighs_53 (by decide) ?_
    refine lv_iconst (v := (1 : Int32)) K.1 K.2.1 dX7_kindWeighs_54 (by decide) ?_
    refine lv_iadd K.1 K.2.1 dX7_kindWeighs_55 ?_
    exact rk_iret K hw hr hd dX7_kindWeighs_56
  rcases Classical.em ((g0 x0 0) = (5 : Int32)) with h_6 | h_6
  · have hd := hd.2.2.2.2.1 h_6
    refine lv_tableIn (tgt := 57) K.1 K.2.1 dX7_kindWeighs_4 (by rw [h_6]; decide) (by rw [h_6]; decide) (off := 53) (by rw [h_6]; rfl) (by decide) ?_
    refine lv_iconst (v := (3 : Int32)) K.1 K.2.1 dX7_kindWeighs_57 (by decide) ?_
    exact rk_iret K hw hr hd dX7_kindWeighs_58
  have hd := hd.2.2.2.2.2 h_2 h_3 h_4 h_5 h_6
  have qh_2 := lv_neT (k := (1 : Int32)) (a := 1) h_2 (by decide)
  have qh_3 := lv_neT (k := (2 : Int32)) (a := 2) h_3 (by decide)
  have qh_4 := lv_neT (k := (3 : Int32)) (a := 3) h_4 (by decide)
  have qh_5 := lv_neT (k := (4 : Int32)) (a := 4) h_5 (by decide)
  have qh_6 := lv_neT (k := (5 : Int32)) (a := 5) h_6 (by decide)
  refine lv_tableOut (tgt := 59) K.1 K.2.1 dX7_kindWeighs_4 (by omega) (by decide) ?_
  refine lv_iload_n K.1 K.2.1 dX7_kindWeighs_59 rfl (lv_at hl 1 rfl) ?_
  exact rk_iret K hw hr hd dX7_kindWeighs_60
theorem dX7_weightOf_0 : decode cX7_weightOf 0 = .ok (.aload_n 0, 1) := by decide +kernel
theorem dX7_weightOf_1 : decode cX7_weightOf 1 = .ok (.aload_n 1, 1) := by decide +kernel
theorem dX7_weightOf_2 : decode cX7_weightOf 2 = .ok (.getfield 133, 3) := by decide +kernel
theorem dX7_weightOf_5 : decode cX7_weightOf 5 = .ok (.invokevirtual 136, 3) := by decide +kernel
theorem dX7_weightOf_8 : decode cX7_weightOf 8 = .ok (.iconst 1, 1) := by decide +kernel
theorem dX7_weightOf_9 : decode cX7_weightOf 9 = .ok (.aload_n 2, 1) := by decide +kernel
theorem dX7_weightOf_10 : decode cX7_weightOf 10 = .ok (.iconst 0, 1) := by decide +kernel
theorem dX7_weightOf_11 : decode cX7_weightOf 11 = .ok (.aload_n 1, 1) := by decide +kernel
theorem dX7_weightOf_12 : decode cX7_weightOf 12 = .ok (.getfield 100, 3) := by decide +kernel
theorem dX7_weightOf_15 : decode cX7_weightOf 15 = .ok (.invokevirtual 322, 3) := by decide +kernel
theorem dX7_weightOf_18 : decode cX7_weightOf 18 = .ok (.iconst 0, 1) := by decide +kernel
theorem dX7_weightOf_19 : decode cX7_weightOf 19 = .ok (.bipush 99, 2) := by decide +kernel
theorem dX7_weightOf_21 : decode cX7_weightOf 21 = .ok (.invokestatic 326, 3) := by decide +kernel
theorem dX7_weightOf_24 : decode cX7_weightOf 24 = .ok (.istore_n 3, 1) := by decide +kernel
theorem dX7_weightOf_25 : decode cX7_weightOf 25 = .ok (.aload_n 2, 1) := by decide +kernel
theorem dX7_weightOf_26 : decode cX7_weightOf 26 = .ok (.iload_n 3, 1) := by decide +kernel
theorem dX7_weightOf_27 : decode cX7_weightOf 27 = .ok (.invokestatic 332, 3) := by decide +kernel
theorem dX7_weightOf_30 : decode cX7_weightOf 30 = .ok (.iconst 0, 1) := by decide +kernel
theorem dX7_weightOf_31 : decode cX7_weightOf 31 = .ok (.bipush 99, 2) := by decide +kernel
theorem dX7_weightOf_33 : decode cX7_weightOf 33 = .ok (.invokestatic 326, 3) := by decide +kernel
theorem dX7_weightOf_36 : decode cX7_weightOf 36 = .ok (.ireturn, 1) := by decide +kernel
set_option maxHeartbeats 4000000 in
set_option maxRecDepth 100000 in
theorem cc_X7_weightOf (l : Launch) (D : va_G) (cy : Nat → ClassId) (nt : Nat) (ad : Nat → Nat) (A : Nat → Prop) (X : Nat → Nat)  (g0 : Sg) (Q : Int32 → Sg → Prop) (x1 : Nat) (x2 : Nat) (hd : vv_X7_weightOf nt x1 x2 g0 Q) : Met l yX7_weightOf (Cond.code yX7_weightOf cX7_weightOf 4 (some .int) :: TT) (rmD 3) (va_Pc [.ref (ad 0), .ref (ad x1), .ref (ad x2)] (PreC (wsC cy nt ad) D cy A X g0)) (va_Qi Q (PostG (wsC cy nt ad) D A) A) 0 0 A := by
  unfold vv_X7_weightOf at hd
  refine Met.ofW (cc := cX7_weightOf) (maxL := 4) (ret := (some .int)) (by decide) rfl ?_
  intro p e s m args below meth c s₁ B hml hv
  obtain ⟨rfl, ⟨hP, hK0, hD⟩, KX⟩ := hv
  have K : Kx p s m _ meth c cX7_weightOf 4 RX7 D cy := ⟨B.exec, B.bytes, hml, findClass_of_methodNamed B.named, fun w h => atoms_spec (ws := Cond.code yX7_weightOf cX7_weightOf 4 (some .int) :: TT) B.pre w (List.mem_cons_of_mem _ h), hK0, B.notSynchronized⟩
  have hw : Wd D A s.heap (wsC cy nt ad g0) s.heap [] := ⟨hP, hD, va_S.rf⟩
  have hr := B.returns
  have hl := lv_entry ([.ref (ad 0), .ref (ad x1), .ref (ad x2)]) (n := 4) (Nat.le_of_ble_eq_true rfl)
  rw [lg_entry_eq]
  generalize (lg_sl ([.ref (ad 0), .ref (ad x1), .ref (ad x2)]) ++ List.replicate (4 - (lg_sl ([.ref (ad 0), .ref (ad x1), .ref (ad x2)])).length) Slot.unset).toArray = ls at hl ⊢
  have hl : lv_has ls 4 [(0, .ref (ad 0)), (1, .ref (ad x1)), (2, .ref (ad x2))] := hl
  have hq_x1 := hd.1
  have hd := hd.2
  have hq_x2 := hd.1
  have hd := hd.2
  refine lv_aload_n K.1 K.2.1 dX7_weightOf_0 rfl (lv_at hl 0 rfl) ?_
  refine lv_aload_n K.1 K.2.1 dX7_weightOf_1 rfl (lv_at hl 1 rfl) ?_
  refine rc_get layX0 (ci := 0) rfl 1 (by decide) (v := .int (g0 x1 1)) K hw (wc_B cy nt ad _ hq_x1) kf_X7_133 rfl dX7_weightOf_2 ?_
  refine rkc_vt (As := [.int (g0 x1 1)]) (rest := []) K KX hw (cc_X7_textOf l D cy nt ad A X g0 _ (g0 x1 1) hd) lk_X7_136 (ci := 7) rfl (wc_O cy nt ad _) ⟨Nat.le_of_ble_eq_true rfl, Nat.le_of_ble_eq_true rfl⟩ ⟨Nat.zero_le _, Nat.zero_le _⟩ rfl hl.1 (Nat.le_of_ble_eq_true rfl) rfl dX7_weightOf_5 (fun r_2 g_1 H locs hd hw => ?_)
  have hq_r_2 := hd.1
  have hd := hd.2
  refine lv_iconst (v := (1 : Int32)) K.1 K.2.1 dX7_weightOf_8 (by decide) ?_
  refine lv_aload_n K.1 K.2.1 dX7_weightOf_9 rfl (lv_at hl 2 rfl) ?_
  refine lv_iconst (v := (0 : Int32)) K.1 K.2.1 dX7_weightOf_10 (by decide) ?_
  refine lv_aload_n K.1 K.2.1 dX7_weightOf_11 rfl (lv_at hl 1 rfl) ?_
  refine rc_get layX0 (ci := 0) rfl 0 (by decide) (v := .int (g_1 x1 0)) K hw (wc_B cy nt ad _ hq_x1) kf_X7_100 rfl dX7_weightOf_12 ?_
  refine rkc_vi (As := [.int (1 : Int32), .ref (ad x2), .int (0 : Int32), .int (g_1 x1 0)]) (rest := []) K KX hw (cc_X6_value l D cy nt ad A X g_1 _ r_2 (1 : Int32) x2 (0 : Int32) (g_1 x1 0) hd) lk_X7_322 (ci := 6) rfl (wc_T cy nt ad _ hq_r_2) ⟨Nat.le_of_ble_eq_true rfl, Nat.le_of_ble_eq_true rfl⟩ ⟨Nat.zero_le _, Nat.zero_le _⟩ rfl hl.1 (Nat.le_of_ble_eq_true rfl) rfl dX7_weightOf_15 (fun r_4 g_3 H locs hd hw => ?_)
  refine lv_iconst (v := (0 : Int32)) K.1 K.2.1 dX7_weightOf_18 (by decide) ?_
  refine lv_bipush (v := (99 : Int32)) K.1 K.2.1 dX7_weightOf_19 (by decide) ?_
  refine rkc_si (As := [.int r_4, .int (0 : Int32), .int (99 : Int32)]) (rest := []) K KX hw (cc_X7_bounded l D cy nt ad A X g_3 _ r_4 (0 : Int32) (99 : Int32) hd) lk_X7_326 ⟨Nat.le_of_ble_eq_true rfl, Nat.le_of_ble_eq_true rfl⟩ ⟨Nat.zero_le _, Nat.zero_le _⟩ rfl hl.1 (Nat.le_of_ble_eq_true rfl) rfl dX7_weightOf_21 (fun r_6 g_5 H locs hd hw => ?_)
  refine lv_topi (fun x3_7 ex3_7 => ?_)
  have hd := hd x3_7 ex3_7
  refine lv_istore_n (lv' := [(3, .int x3_7), (0, .ref (ad 0)), (1, .ref (ad x1)), (2, .ref (ad x2))]) K.1 K.2.1 dX7_weightOf_24 rfl hl (by decide) rfl (fun ls hl => ?_)
  refine lv_aload_n K.1 K.2.1 dX7_weightOf_25 rfl (lv_at hl 3 rfl) ?_
  refine lv_iload_n K.1 K.2.1 dX7_weightOf_26 rfl (lv_at hl 0 rfl) ?_
  refine rkc_si (As := [.ref (ad x2), .int x3_7]) (rest := []) K KX hw (cc_X7_kindWeighs l D cy nt ad A X g_5 _ x2 x3_7 hd) lk_X7_332 ⟨Nat.le_of_ble_eq_true rfl, Nat.le_of_ble_eq_true rfl⟩ ⟨Nat.zero_le _, Nat.zero_le _⟩ rfl hl.1 (Nat.le_of_ble_eq_true rfl) rfl dX7_weightOf_27 (fun r_9 g_8 H locs hd hw => ?_)
  refine lv_iconst (v := (0 : Int32)) K.1 K.2.1 dX7_weightOf_30 (by decide) ?_
  refine lv_bipush (v := (99 : Int32)) K.1 K.2.1 dX7_weightOf_31 (by decide) ?_
  refine rkc_si (As := [.int r_9, .int (0 : Int32), .int (99 : Int32)]) (rest := []) K KX hw (cc_X7_bounded l D cy nt ad A X g_8 _ r_9 (0 : Int32) (99 : Int32) hd) lk_X7_326 ⟨Nat.le_of_ble_eq_true rfl, Nat.le_of_ble_eq_true rfl⟩ ⟨Nat.zero_le _, Nat.zero_le _⟩ rfl hl.1 (Nat.le_of_ble_eq_true rfl) rfl dX7_weightOf_33 (fun r_11 g_10 H locs hd hw => ?_)
  exact rk_iret K hw hr hd dX7_weightOf_36
theorem dX7_kindSmooths_0 : decode cX7_kindSmooths 0 = .ok (.aload_n 0, 1) := by decide +kernel
theorem dX7_kindSmooths_1 : decode cX7_kindSmooths 1 = .ok (.getfield 304, 3) := by decide +kernel
theorem dX7_kindSmooths_4 : decode cX7_kindSmooths 4 = .ok (.tableswitch 45 2 5 #[32, 36, 32, 43], 32) := by decide +kernel
theorem dX7_kindSmooths_36 : decode cX7_kindSmooths 36 = .ok (.iconst 2, 1) := by decide +kernel
theorem dX7_kindSmooths_37 : decode cX7_kindSmooths 37 = .ok (.iload_n 1, 1) := by decide +kernel
theorem dX7_kindSmooths_38 : decode cX7_kindSmooths 38 = .ok (.imul, 1) := by decide +kernel
theorem dX7_kindSmooths_39 : decode cX7_kindSmooths 39 = .ok (.ireturn, 1) := by decide +kernel
theorem dX7_kindSmooths_40 : decode cX7_kindSmooths 40 = .ok (.iload_n 1, 1) := by decide +kernel
theorem dX7_kindSmooths_41 : decode cX7_kindSmooths 41 = .ok (.aload_n 0, 1) := by decide +kernel
theorem dX7_kindSmooths_42 : decode cX7_kindSmooths 42 = .ok (.getfield 310, 3) := by decide +kernel
theorem dX7_kindSmooths_45 : decode cX7_kindSmooths 45 = .ok (.iadd, 1) := by decide +kernel
theorem dX7_kindSmooths_46 : decode cX7_kindSmooths 46 = .ok (.ireturn, 1) := by decide +kernel
theorem dX7_kindSmooths_47 : decode cX7_kindSmooths 47 = .ok (.iconst 0, 1) := by decide +kernel
theorem dX7_kindSmooths_48 : decode cX7_kindSmooths 48 = .ok (.ireturn, 1) := by decide +kernel
theorem dX7_kindSmooths_49 : decode cX7_kindSmooths 49 = .ok (.iload_n 1, 1) := by decide +kernel
theorem dX7_kindSmooths_50 : decode cX7_kindSmooths 50 = .ok (.ireturn, 1) := by decide +kernel
set_option maxHeartbeats 4000000 in
set_option maxRecDepth 100000 in
theorem cc_X7_kindSmooths (l : Launch) (D : va_G) (cy : Nat → ClassId) (nt : Nat) (ad : Nat → Nat) (A : Nat → Prop) (X : Nat → Nat)  (g0 : Sg) (Q : Int32 → Sg → Prop) (x0 : Nat) (x1 : Int32) (hd : vv_X7_kindSmooths nt x0 x1 g0 Q) : Met l yX7_kindSmooths (Cond.code yX7_kindSmooths cX7_kindSmooths 2 (some .int) :: TT) (rmD 1) (va_Pc [.ref (ad x0), .int x1] (PreC (wsC cy nt ad) D cy A X g0)) (va_Qi Q (PostG (wsC cy nt ad) D A) A) 0 0 A := by
  unfold vv_X7_kindSmooths at hd
  refine Met.ofW (cc := cX7_kindSmooths) (maxL := 2) (ret := (some .int)) (by decide) rfl ?_
  intro p e s m args below meth c s₁ B hml hv
  obtain ⟨rfl, ⟨hP, hK0, hD⟩, KX⟩ := hv
  have K : Kx p s m _ meth c cX7_kindSmooths 2 RX7 D cy := ⟨B.exec, B.bytes, hml, findClass_of_methodNamed B.named, fun w h => atoms_spec (ws := Cond.code yX7_kindSmooths cX7_kindSmooths 2 (some .int) :: TT) B.pre w (List.mem_cons_of_mem _ h), hK0, B.notSynchronized⟩
  have hw : Wd D A s.heap (wsC cy nt ad g0) s.heap [] := ⟨hP, hD, va_S.rf⟩
  have hr := B.returns
  have hl := lv_entry ([.ref (ad x0), .int x1]) (n := 2) (Nat.le_of_ble_eq_true rfl)
  rw [lg_entry_eq]
  generalize (lg_sl ([.ref (ad x0), .int x1]) ++ List.replicate (2 - (lg_sl ([.ref (ad x0), .int x1])).length) Slot.unset).toArray = ls at hl ⊢
  have hl : lv_has ls 2 [(0, .ref (ad x0)), (1, .int x1)] := hl
  have hq_x0 := hd.1
  have hd := hd.2
  refine lv_aload_n K.1 K.2.1 dX7_kindSmooths_0 rfl (lv_at hl 0 rfl) ?_
  refine rc_get layX1 (ci := 1) rfl 0 (by decide) (v := .int (g0 x0 0)) K hw (wc_P cy nt ad _ hq_x0) kf_X7_304 rfl dX7_kindSmooths_1 ?_
  rcases Classical.em ((g0 x0 0) = (2 : Int32)) with h_2 | h_2
  · have hd := hd.1 h_2
    refine lv_tableIn (tgt := 36) K.1 K.2.1 dX7_kindSmooths_4 (by rw [h_2]; decide) (by rw [h_2]; decide) (off := 32) (by rw [h_2]; rfl) (by decide) ?_
    refine lv_iconst (v := (2 : Int32)) K.1 K.2.1 dX7_kindSmooths_36 (by decide) ?_
    refine lv_iload_n K.1 K.2.1 dX7_kindSmooths_37 rfl (lv_at hl 1 rfl) ?_
    refine lv_imul K.1 K.2.1 dX7_kindSmooths_38 ?_
    exact rk_iret K hw hr hd dX7_kindSmooths_39
  rcases Classical.em ((g0 x0 0) = (3 : Int32)) with h_3 | h_3
  · have hd := hd.2.1 h_3
    refine lv_tableIn (tgt := 40) K.1 K.2.1 dX7_kindSmooths_4 (by rw [h_3]; decide) (by rw [h_3]; decide) (off := 36) (by rw [h_3]; rfl) (by decide) ?_
    refine lv_iload_n K.1 K.2.1 dX7_kindSmooths_40 rfl (lv_at hl 1 rfl) ?_
    refine lv_aload_n K.1 K.2.1 dX7_kindSmooths_41 rfl (lv_at hl 0 rfl) ?_
    refine rc_get layX1 (ci := 1) rfl 1 (by decide) (v := .int (g0 x0 1)) K hw (wc_P cy nt ad _ hq_x0) kf_X7_310 rfl dX7_kindSmooths_42 ?_
    refine lv_iadd K.1 K.2.1 dX7_kindSmooths_45 ?_
    exact rk_iret K hw hr hd dX7_kindSmooths_46
  rcases Classical.em ((g0 x0 0) = (4 : Int32)) with h_4 | h_4
  · have hd := hd.2.2.1 h_4
    refine lv_tableIn (tgt := 36) K.1 K.2.1 dX7_kindSmooths_4 (by rw [h_4]; decide) (by rw [h_4]; decide) (off := 32) (by rw [h_4]; rfl) (by decide) ?_
    refine lv_iconst (v := (2 : Int32)) K.1 K.2.1 dX7_kindSmooths_36 (by decide) ?_
    refine lv_iload_n K.1 K.2.1 dX7_kindSmooths_37 rfl (lv_at hl 1 rfl) ?_
    refine lv_imul K.1 K.2.1 dX7_kindSmooths_38 ?_
    exact rk_iret K hw hr hd dX7_kindSmooths_39
  rcases Classical.em ((g0 x0 0) = (5 : Int32)) with h_5 | h_5
  · have hd := hd.2.2.2.1 h_5
    refine lv_tableIn (tgt := 47) K.1 K.2.1 dX7_kindSmooths_4 (by rw [h_5]; decide) (by rw [h_5]; decide) (off := 43) (by rw [h_5]; rfl) (by decide) ?_
    refine lv_iconst (v := (0 : Int32)) K.1 K.2.1 dX7_kindSmooths_47 (by decide) ?_
    exact rk_iret K hw hr hd dX7_kindSmooths_48
  have hd := hd.2.2.2.2 h_2 h_3 h_4 h_5
  have qh_2 := lv_neT (k := (2 : Int32)) (a := 2) h_2 (by decide)
  have qh_3 := lv_neT (k := (3 : Int32)) (a := 3) h_3 (by decide)
  have qh_4 := lv_neT (k := (4 : Int32)) (a := 4) h_4 (by decide)
  have qh_5 := lv_neT (k := (5 : Int32)) (a := 5) h_5 (by decide)
  refine lv_tableOut (tgt := 49) K.1 K.2.1 dX7_kindSmooths_4 (by omega) (by decide) ?_
  refine lv_iload_n K.1 K.2.1 dX7_kindSmooths_49 rfl (lv_at hl 1 rfl) ?_
  exact rk_iret K hw hr hd dX7_kindSmooths_50
theorem dX7_smoothingOf_0 : decode cX7_smoothingOf 0 = .ok (.aload_n 0, 1) := by decide +kernel
theorem dX7_smoothingOf_1 : decode cX7_smoothingOf 1 = .ok (.aload_n 1, 1) := by decide +kernel
theorem dX7_smoothingOf_2 : decode cX7_smoothingOf 2 = .ok (.getfield 133, 3) := by decide +kernel
theorem dX7_smoothingOf_5 : decode cX7_smoothingOf 5 = .ok (.invokevirtual 136, 3) := by decide +kernel
theorem dX7_smoothingOf_8 : decode cX7_smoothingOf 8 = .ok (.iconst 2, 1) := by decide +kernel
theorem dX7_smoothingOf_9 : decode cX7_smoothingOf 9 = .ok (.aload_n 2, 1) := by decide +kernel
theorem dX7_smoothingOf_10 : decode cX7_smoothingOf 10 = .ok (.iconst 0, 1) := by decide +kernel
theorem dX7_smoothingOf_11 : decode cX7_smoothingOf 11 = .ok (.aload_n 1, 1) := by decide +kernel
theorem dX7_smoothingOf_12 : decode cX7_smoothingOf 12 = .ok (.getfield 100, 3) := by decide +kernel
theorem dX7_smoothingOf_15 : decode cX7_smoothingOf 15 = .ok (.invokevirtual 322, 3) := by decide +kernel
theorem dX7_smoothingOf_18 : decode cX7_smoothingOf 18 = .ok (.iconst 0, 1) := by decide +kernel
theorem dX7_smoothingOf_19 : decode cX7_smoothingOf 19 = .ok (.bipush 99, 2) := by decide +kernel
theorem dX7_smoothingOf_21 : decode cX7_smoothingOf 21 = .ok (.invokestatic 326, 3) := by decide +kernel
theorem dX7_smoothingOf_24 : decode cX7_smoothingOf 24 = .ok (.istore_n 3, 1) := by decide +kernel
theorem dX7_smoothingOf_25 : decode cX7_smoothingOf 25 = .ok (.aload_n 2, 1) := by decide +kernel
theorem dX7_smoothingOf_26 : decode cX7_smoothingOf 26 = .ok (.iload_n 3, 1) := by decide +kernel
theorem dX7_smoothingOf_27 : decode cX7_smoothingOf 27 = .ok (.invokestatic 336, 3) := by decide +kernel
theorem dX7_smoothingOf_30 : decode cX7_smoothingOf 30 = .ok (.iconst 0, 1) := by decide +kernel
theorem dX7_smoothingOf_31 : decode cX7_smoothingOf 31 = .ok (.bipush 99, 2) := by decide +kernel
theorem dX7_smoothingOf_33 : decode cX7_smoothingOf 33 = .ok (.invokestatic 326, 3) := by decide +kernel
theorem dX7_smoothingOf_36 : decode cX7_smoothingOf 36 = .ok (.ireturn, 1) := by decide +kernel
set_option maxHeartbeats 4000000 in
set_option maxRecDepth 100000 in
theorem cc_X7_smoothingOf (l : Launch) (D : va_G) (cy : Nat → ClassId) (nt : Nat) (ad : Nat → Nat) (A : Nat → Prop) (X : Nat → Nat)  (g0 : Sg) (Q : Int32 → Sg → Prop) (x1 : Nat) (x2 : Nat) (hd : vv_X7_smoothingOf nt x1 x2 g0 Q) : Met l yX7_smoothingOf (Cond.code yX7_smoothingOf cX7_smoothingOf 4 (some .int) :: TT) (rmD 3) (va_Pc [.ref (ad 0), .ref (ad x1), .ref (ad x2)] (PreC (wsC cy nt ad) D cy A X g0)) (va_Qi Q (PostG (wsC cy nt ad) D A) A) 0 0 A := by
  unfold vv_X7_smoothingOf at hd
  refine Met.ofW (cc := cX7_smoothingOf) (maxL := 4) (ret := (some .int)) (by decide) rfl ?_
  intro p e s m args below meth c s₁ B hml hv
  obtain ⟨rfl, ⟨hP, hK0, hD⟩, KX⟩ := hv
  have K : Kx p s m _ meth c cX7_smoothingOf 4 RX7 D cy := ⟨B.exec, B.bytes, hml, findClass_of_methodNamed B.named, fun w h => atoms_spec (ws := Cond.code yX7_smoothingOf cX7_smoothingOf 4 (some .int) :: TT) B.pre w (List.mem_cons_of_mem _ h), hK0, B.notSynchronized⟩
  have hw : Wd D A s.heap (wsC cy nt ad g0) s.heap [] := ⟨hP, hD, va_S.rf⟩
  have hr := B.returns
  have hl := lv_entry ([.ref (ad 0), .ref (ad x1), .ref (ad x2)]) (n := 4) (Nat.le_of_ble_eq_true rfl)
  rw [lg_entry_eq]
  generalize (lg_sl ([.ref (ad 0), .ref (ad x1), .ref (ad x2)]) ++ List.replicate (4 - (lg_sl ([.ref (ad 0), .ref (ad x1), .ref (ad x2)])).length) Slot.unset).toArray = ls at hl ⊢
  have hl : lv_has ls 4 [(0, .ref (ad 0)), (1, .ref (ad x1)), (2, .ref (ad x2))] := hl
  have hq_x1 := hd.1
  have hd := hd.2
  have hq_x2 := hd.1
  have hd := hd.2
  refine lv_aload_n K.1 K.2.1 dX7_smoothingOf_0 rfl (lv_at hl 0 rfl) ?_
  refine lv_aload_n K.1 K.2.1 dX7_smoothingOf_1 rfl (lv_at hl 1 rfl) ?_
  refine rc_get layX0 (ci := 0) rfl 1 (by decide) (v := .int (g0 x1 1)) K hw (wc_B cy nt ad _ hq_x1) kf_X7_133 rfl dX7_smoothingOf_2 ?_
  refine rkc_vt (As := [.int (g0 x1 1)]) (rest := []) K KX hw (cc_X7_textOf l D cy nt ad A X g0 _ (g0 x1 1) hd) lk_X7_136 (ci := 7) rfl (wc_O cy nt ad _) ⟨Nat.le_of_ble_eq_true rfl, Nat.le_of_ble_eq_true rfl⟩ ⟨Nat.zero_le _, Nat.zero_le _⟩ rfl hl.1 (Nat.le_of_ble_eq_true rfl) rfl dX7_smoothingOf_5 (fun r_2 g_1 H locs hd hw => ?_)
  have hq_r_2 := hd.1
  have hd := hd.2
  refine lv_iconst (v := (2 : Int32)) K.1 K.2.1 dX7_smoothingOf_8 (by decide) ?_
  refine lv_aload_n K.1 K.2.1 dX7_smoothingOf_9 rfl (lv_at hl 2 rfl) ?_
  refine lv_iconst (v := (0 : Int32)) K.1 K.2.1 dX7_smoothingOf_10 (by decide) ?_
  refine lv_aload_n K.1 K.2.1 dX7_smoothingOf_11 rfl (lv_at hl 1 rfl) ?_
  refine rc_get layX0 (ci := 0) rfl 0 (by decide) (v := .int (g_1 x1 0)) K hw (wc_B cy nt ad _ hq_x1) kf_X7_100 rfl dX7_smoothingOf_12 ?_
  refine rkc_vi (As := [.int (2 : Int32), .ref (ad x2), .int (0 : Int32), .int (g_1 x1 0)]) (rest := []) K KX hw (cc_X6_value l D cy nt ad A X g_1 _ r_2 (2 : Int32) x2 (0 : Int32) (g_1 x1 0) hd) lk_X7_322 (ci := 6) rfl (wc_T cy nt ad _ hq_r_2) ⟨Nat.le_of_ble_eq_true rfl, Nat.le_of_ble_eq_true rfl⟩ ⟨Nat.zero_le _, Nat.zero_le _⟩ rfl hl.1 (Nat.le_of_ble_eq_true rfl) rfl dX7_smoothingOf_15 (fun r_4 g_3 H locs hd hw => ?_)
  refine lv_iconst (v := (0 : Int32)) K.1 K.2.1 dX7_smoothingOf_18 (by decide) ?_
  refine lv_bipush (v := (99 : Int32)) K.1 K.2.1 dX7_smoothingOf_19 (by decide) ?_
  refine rkc_si (As := [.int r_4, .int (0 : Int32), .int (99 : Int32)]) (rest := []) K KX hw (cc_X7_bounded l D cy nt ad A X g_3 _ r_4 (0 : Int32) (99 : Int32) hd) lk_X7_326 ⟨Nat.le_of_ble_eq_true rfl, Nat.le_of_ble_eq_true rfl⟩ ⟨Nat.zero_le _, Nat.zero_le _⟩ rfl hl.1 (Nat.le_of_ble_eq_true rfl) rfl dX7_smoothingOf_21 (fun r_6 g_5 H locs hd hw => ?_)
  refine lv_topi (fun x3_7 ex3_7 => ?_)
  have hd := hd x3_7 ex3_7
  refine lv_istore_n (lv' := [(3, .int x3_7), (0, .ref (ad 0)), (1, .ref (ad x1)), (2, .ref (ad x2))]) K.1 K.2.1 dX7_smoothingOf_24 rfl hl (by decide) rfl (fun ls hl => ?_)
  refine lv_aload_n K.1 K.2.1 dX7_smoothingOf_25 rfl (lv_at hl 3 rfl) ?_
  refine lv_iload_n K.1 K.2.1 dX7_smoothingOf_26 rfl (lv_at hl 0 rfl) ?_
  refine rkc_si (As := [.ref (ad x2), .int x3_7]) (rest := []) K KX hw (cc_X7_kindSmooths l D cy nt ad A X g_5 _ x2 x3_7 hd) lk_X7_336 ⟨Nat.le_of_ble_eq_true rfl, Nat.le_of_ble_eq_true rfl⟩ ⟨Nat.zero_le _, Nat.zero_le _⟩ rfl hl.1 (Nat.le_of_ble_eq_true rfl) rfl dX7_smoothingOf_27 (fun r_9 g_8 H locs hd hw => ?_)
  refine lv_iconst (v := (0 : Int32)) K.1 K.2.1 dX7_smoothingOf_30 (by decide) ?_
  refine lv_bipush (v := (99 : Int32)) K.1 K.2.1 dX7_smoothingOf_31 (by decide) ?_
  refine rkc_si (As := [.int r_9, .int (0 : Int32), .int (99 : Int32)]) (rest := []) K KX hw (cc_X7_bounded l D cy nt ad A X g_8 _ r_9 (0 : Int32) (99 : Int32) hd) lk_X7_326 ⟨Nat.le_of_ble_eq_true rfl, Nat.le_of_ble_eq_true rfl⟩ ⟨Nat.zero_le _, Nat.zero_le _⟩ rfl hl.1 (Nat.le_of_ble_eq_true rfl) rfl dX7_smoothingOf_33 (fun r_11 g_10 H locs hd hw => ?_)
  exact rk_iret K hw hr hd dX7_smoothingOf_36
theorem dX7_feelingOf_0 : decode cX7_feelingOf 0 = .ok (.aload_n 2, 1) := by decide +kernel
theorem dX7_feelingOf_1 : decode cX7_feelingOf 1 = .ok (.iconst 0, 1) := by decide +kernel
theorem dX7_feelingOf_2 : decode cX7_feelingOf 2 = .ok (.aload_n 0, 1) := by decide +kernel
theorem dX7_feelingOf_3 : decode cX7_feelingOf 3 = .ok (.iload_n 1, 1) := by decide +kernel
theorem dX7_feelingOf_4 : decode cX7_feelingOf 4 = .ok (.iload_n 3, 1) := by decide +kernel
theorem dX7_feelingOf_5 : decode cX7_feelingOf 5 = .ok (.invokevirtual 322, 3) := by decide +kernel
theorem dX7_feelingOf_8 : decode cX7_feelingOf 8 = .ok (.bipush (-99), 2) := by decide +kernel
theorem dX7_feelingOf_10 : decode cX7_feelingOf 10 = .ok (.bipush 99, 2) := by decide +kernel
theorem dX7_feelingOf_12 : decode cX7_feelingOf 12 = .ok (.invokestatic 326, 3) := by decide +kernel
theorem dX7_feelingOf_15 : decode cX7_feelingOf 15 = .ok (.istore 4, 2) := by decide +kernel
theorem dX7_feelingOf_17 : decode cX7_feelingOf 17 = .ok (.aload_n 0, 1) := by decide +kernel
theorem dX7_feelingOf_18 : decode cX7_feelingOf 18 = .ok (.getfield 304, 3) := by decide +kernel
theorem dX7_feelingOf_21 : decode cX7_feelingOf 21 = .ok (.tableswitch 85 1 5 #[35, 40, 55, 75, 80], 35) := by decide +kernel
theorem dX7_feelingOf_56 : decode cX7_feelingOf 56 = .ok (.iconst 2, 1) := by decide +kernel
theorem dX7_feelingOf_57 : decode cX7_feelingOf 57 = .ok (.iload 4, 2) := by decide +kernel
theorem dX7_feelingOf_59 : decode cX7_feelingOf 59 = .ok (.imul, 1) := by decide +kernel
theorem dX7_feelingOf_60 : decode cX7_feelingOf 60 = .ok (.ireturn, 1) := by decide +kernel
theorem dX7_feelingOf_61 : decode cX7_feelingOf 61 = .ok (.iload_n 1, 1) := by decide +kernel
theorem dX7_feelingOf_62 : decode cX7_feelingOf 62 = .ok (.iconst 2, 1) := by decide +kernel
theorem dX7_feelingOf_63 : decode cX7_feelingOf 63 = .ok (.irem, 1) := by decide +kernel
theorem dX7_feelingOf_64 : decode cX7_feelingOf 64 = .ok (.ifCond .ne 8, 3) := by decide +kernel
theorem dX7_feelingOf_67 : decode cX7_feelingOf 67 = .ok (.iload 4, 2) := by decide +kernel
theorem dX7_feelingOf_69 : decode cX7_feelingOf 69 = .ok (.goto 6, 3) := by decide +kernel
theorem dX7_feelingOf_72 : decode cX7_feelingOf 72 = .ok (.iload 4, 2) := by decide +kernel
theorem dX7_feelingOf_74 : decode cX7_feelingOf 74 = .ok (.ineg, 1) := by decide +kernel
theorem dX7_feelingOf_75 : decode cX7_feelingOf 75 = .ok (.ireturn, 1) := by decide +kernel
theorem dX7_feelingOf_76 : decode cX7_feelingOf 76 = .ok (.iload_n 1, 1) := by decide +kernel
theorem dX7_feelingOf_77 : decode cX7_feelingOf 77 = .ok (.aload_n 0, 1) := by decide +kernel
theorem dX7_feelingOf_78 : decode cX7_feelingOf 78 = .ok (.getfield 310, 3) := by decide +kernel
theorem dX7_feelingOf_81 : decode cX7_feelingOf 81 = .ok (.bipush 8, 2) := by decide +kernel
theorem dX7_feelingOf_83 : decode cX7_feelingOf 83 = .ok (.irem, 1) := by decide +kernel
theorem dX7_feelingOf_84 : decode cX7_feelingOf 84 = .ok (.if_icmp .ne 7, 3) := by decide +kernel
theorem dX7_feelingOf_87 : decode cX7_feelingOf 87 = .ok (.iconst 0, 1) := by decide +kernel
theorem dX7_feelingOf_88 : decode cX7_feelingOf 88 = .ok (.goto 7, 3) := by decide +kernel
theorem dX7_feelingOf_91 : decode cX7_feelingOf 91 = .ok (.iconst 2, 1) := by decide +kernel
theorem dX7_feelingOf_92 : decode cX7_feelingOf 92 = .ok (.iload 4, 2) := by decide +kernel
theorem dX7_feelingOf_94 : decode cX7_feelingOf 94 = .ok (.imul, 1) := by decide +kernel
theorem dX7_feelingOf_95 : decode cX7_feelingOf 95 = .ok (.ireturn, 1) := by decide +kernel
theorem dX7_feelingOf_96 : decode cX7_feelingOf 96 = .ok (.aload_n 0, 1) := by decide +kernel
theorem dX7_feelingOf_97 : decode cX7_feelingOf 97 = .ok (.getfield 329, 3) := by decide +kernel
theorem dX7_feelingOf_100 : decode cX7_feelingOf 100 = .ok (.ireturn, 1) := by decide +kernel
theorem dX7_feelingOf_101 : decode cX7_feelingOf 101 = .ok (.iload 4, 2) := by decide +kernel
theorem dX7_feelingOf_103 : decode cX7_feelingOf 103 = .ok (.iconst 1, 1) := by decide +kernel
theorem dX7_feelingOf_104 : decode cX7_feelingOf 104 = .ok (.isub, 1) := by decide +kernel
theorem dX7_feelingOf_105 : decode cX7_feelingOf 105 = .ok (.ireturn, 1) := by decide +kernel
theorem dX7_feelingOf_106 : decode cX7_feelingOf 106 = .ok (.iload 4, 2) := by decide +kernel
theorem dX7_feelingOf_108 : decode cX7_feelingOf 108 = .ok (.ireturn, 1) := by decide +kernel
set_option maxHeartbeats 4000000 in
set_option maxRecDepth 100000 in
theorem cc_X7_feelingOf (l : Launch) (D : va_G) (cy : Nat → ClassId) (nt : Nat) (ad : Nat → Nat) (A : Nat → Prop) (X : Nat → Nat)  (g0 : Sg) (Q : Int32 → Sg → Prop) (x0 : Nat) (x1 : Int32) (x2 : Nat) (x3 : Int32) (hd : vv_X7_feelingOf nt x0 x1 x2 x3 g0 Q) : Met l yX7_feelingOf (Cond.code yX7_feelingOf cX7_feelingOf 5 (some .int) :: TT) (rmD 3) (va_Pc [.ref (ad x0), .int x1, .ref (ad x2), .int x3] (PreC (wsC cy nt ad) D cy A X g0)) (va_Qi Q (PostG (wsC cy nt ad) D A) A) 0 0 A := by
  unfold vv_X7_feelingOf at hd
  refine Met.ofW (cc := cX7_feelingOf) (maxL := 5) (ret := (some .int)) (by decide) rfl ?_
  intro p e s m args below meth c s₁ B hml hv
  obtain ⟨rfl, ⟨hP, hK0, hD⟩, KX⟩ := hv
  have K : Kx p s m _ meth c cX7_feelingOf 5 RX7 D cy := ⟨B.exec, B.bytes, hml, findClass_of_methodNamed B.named, fun w h => atoms_spec (ws := Cond.code yX7_feelingOf cX7_feelingOf 5 (some .int) :: TT) B.pre w (List.mem_cons_of_mem _ h), hK0, B.notSynchronized⟩
  have hw : Wd D A s.heap (wsC cy nt ad g0) s.heap [] := ⟨hP, hD, va_S.rf⟩
  have hr := B.returns
  have hl := lv_entry ([.ref (ad x0), .int x1, .ref (ad x2), .int x3]) (n := 5) (Nat.le_of_ble_eq_true rfl)
  rw [lg_entry_eq]
  generalize (lg_sl ([.ref (ad x0), .int x1, .ref (ad x2), .int x3]) ++ List.replicate (5 - (lg_sl ([.ref (ad x0), .int x1, .ref (ad x2), .int x3])).length) Slot.unset).toArray = ls at hl ⊢
  have hl : lv_has ls 5 [(0, .ref (ad x0)), (1, .int x1), (2, .ref (ad x2)), (3, .int x3)] := hl
  have hq_x0 := hd.1
  have hd := hd.2
  have hq_x2 := hd.1
  have hd := hd.2
  refine lv_aload_n K.1 K.2.1 dX7_feelingOf_0 rfl (lv_at hl 2 rfl) ?_
  refine lv_iconst (v := (0 : Int32)) K.1 K.2.1 dX7_feelingOf_1 (by decide) ?_
  refine lv_aload_n K.1 K.2.1 dX7_feelingOf_2 rfl (lv_at hl 0 rfl) ?_
  refine lv_iload_n K.1 K.2.1 dX7_feelingOf_3 rfl (lv_at hl 1 rfl) ?_
  refine lv_iload_n K.1 K.2.1 dX7_feelingOf_4 rfl (lv_at hl 3 rfl) ?_
  refine rkc_vi (As := [.int (0 : Int32), .ref (ad x0), .int x1, .int x3]) (rest := []) K KX hw (cc_X6_value l D cy nt ad A X g0 _ x2 (0 : Int32) x0 x1 x3 hd) lk_X7_322 (ci := 6) rfl (wc_T cy nt ad _ hq_x2) ⟨Nat.le_of_ble_eq_true rfl, Nat.le_of_ble_eq_true rfl⟩ ⟨Nat.zero_le _, Nat.zero_le _⟩ rfl hl.1 (Nat.le_of_ble_eq_true rfl) rfl dX7_feelingOf_5 (fun r_2 g_1 H locs hd hw => ?_)
  refine lv_bipush (v := (-99 : Int32)) K.1 K.2.1 dX7_feelingOf_8 (by decide) ?_
  refine lv_bipush (v := (99 : Int32)) K.1 K.2.1 dX7_feelingOf_10 (by decide) ?_
  refine rkc_si (As := [.int r_2, .int (-99 : Int32), .int (99 : Int32)]) (rest := []) K KX hw (cc_X7_bounded l D cy nt ad A X g_1 _ r_2 (-99 : Int32) (99 : Int32) hd) lk_X7_326 ⟨Nat.le_of_ble_eq_true rfl, Nat.le_of_ble_eq_true rfl⟩ ⟨Nat.zero_le _, Nat.zero_le _⟩ rfl hl.1 (Nat.le_of_ble_eq_true rfl) rfl dX7_feelingOf_12 (fun r_4 g_3 H locs hd hw => ?_)
  refine lv_topi (fun x4_5 ex4_5 => ?_)
  have hd := hd x4_5 ex4_5
  refine lv_istore (lv' := [(4, .int x4_5), (0, .ref (ad x0)), (1, .int x1), (2, .ref (ad x2)), (3, .int x3)]) K.1 K.2.1 dX7_feelingOf_15 hl (by decide) rfl (fun ls hl => ?_)
  refine lv_aload_n K.1 K.2.1 dX7_feelingOf_17 rfl (lv_at hl 1 rfl) ?_
  refine rc_get layX1 (ci := 1) rfl 0 (by decide) (v := .int (g_3 x0 0)) K hw (wc_P cy nt ad _ hq_x0) kf_X7_304 rfl dX7_feelingOf_18 ?_
  rcases Classical.em ((g_3 x0 0) = (1 : Int32)) with h_7 | h_7
  · have hd := hd.1 h_7
    refine lv_tableIn (tgt := 56) K.1 K.2.1 dX7_feelingOf_21 (by rw [h_7]; decide) (by rw [h_7]; decide) (off := 35) (by rw [h_7]; rfl) (by decide) ?_
    refine lv_iconst (v := (2 : Int32)) K.1 K.2.1 dX7_feelingOf_56 (by decide) ?_
    refine lv_iload K.1 K.2.1 dX7_feelingOf_57 (lv_at hl 0 rfl) ?_
    refine lv_imul K.1 K.2.1 dX7_feelingOf_59 ?_
    exact rk_iret K hw hr hd dX7_feelingOf_60
  rcases Classical.em ((g_3 x0 0) = (2 : Int32)) with h_8 | h_8
  · have hd := hd.2.1 h_8
    refine lv_tableIn (tgt := 61) K.1 K.2.1 dX7_feelingOf_21 (by rw [h_8]; decide) (by rw [h_8]; decide) (off := 40) (by rw [h_8]; rfl) (by decide) ?_
    refine lv_iload_n K.1 K.2.1 dX7_feelingOf_61 rfl (lv_at hl 2 rfl) ?_
    refine lv_iconst (v := (2 : Int32)) K.1 K.2.1 dX7_feelingOf_62 (by decide) ?_
    refine lv_irem K.1 K.2.1 dX7_feelingOf_63 (by decide) ?_
    refine lv_if_ne (tgt := 72) K.1 K.2.1 dX7_feelingOf_64 (by decide) (fun h_9 => ?_) (fun h_9 => ?_)
    · have hd := hd.1 h_9
      refine lv_iload K.1 K.2.1 dX7_feelingOf_72 (lv_at hl 0 rfl) ?_
      refine lv_ineg K.1 K.2.1 dX7_feelingOf_74 ?_
      exact rk_iret K hw hr hd dX7_feelingOf_75
    · have hd := hd.2 h_9
      refine lv_iload K.1 K.2.1 dX7_feelingOf_67 (lv_at hl 0 rfl) ?_
      refine lv_goto (tgt := 75) K.1 K.2.1 dX7_feelingOf_69 (by decide) ?_
      exact rk_iret K hw hr hd dX7_feelingOf_75
  rcases Classical.em ((g_3 x0 0) = (3 : Int32)) with h_10 | h_10
  · have hd := hd.2.2.1 h_10
    refine lv_tableIn (tgt := 76) K.1 K.2.1 dX7_feelingOf_21 (by rw [h_10]; decide) (by rw [h_10]; decide) (off := 55) (by rw [h_10]; rfl) (by decide) ?_
    refine lv_iload_n K.1 K.2.1 dX7_feelingOf_76 rfl (lv_at hl 2 rfl) ?_
    refine lv_aload_n K.1 K.2.1 dX7_feelingOf_77 rfl (lv_at hl 1 rfl) ?_
    refine rc_get layX1 (ci := 1) rfl 1 (by decide) (v := .int (g_3 x0 1)) K hw (wc_P cy nt ad _ hq_x0) kf_X7_310 rfl dX7_feelingOf_78 ?_
    refine lv_bipush (v := (8 : Int32)) K.1 K.2.1 dX7_feelingOf_81 (by decide) ?_
    refine lv_irem K.1 K.2.1 dX7_feelingOf_83 (by decide) ?_
    refine lv_icmp_ne (tgt := 91) K.1 K.2.1 dX7_feelingOf_84 (by decide) (fun h_11 => ?_) (fun h_11 => ?_)
    · have hd := hd.1 h_11
      refine lv_iconst (v := (2 : Int32)) K.1 K.2.1 dX7_feelingOf_91 (by decide) ?_
      refine lv_iload K.1 K.2.1 dX7_feelingOf_92 (lv_at hl 0 rfl) ?_
      refine lv_imul K.1 K.2.1 dX7_feelingOf_94 ?_
      exact rk_iret K hw hr hd dX7_feelingOf_95
    · have hd := hd.2 h_11
      refine lv_iconst (v := (0 : Int32)) K.1 K.2.1 dX7_feelingOf_87 (by decide) ?_
      refine lv_goto (tgt := 95) K.1 K.2.1 dX7_feelingOf_88 (by decide) ?_
      exact rk_iret K hw hr hd dX7_feelingOf_95
  rcases Classical.em ((g_3 x0 0) = (4 : Int32)) with h_12 | h_12
  · have hd := hd.2.2.2.1 h_12
    refine lv_tableIn (tgt := 96) K.1 K.2.1 dX7_feelingOf_21 (by rw [h_12]; decide) (by rw [h_12]; decide) (off := 75) (by rw [h_12]; rfl) (by decide) ?_
    refine lv_aload_n K.1 K.2.1 dX7_feelingOf_96 rfl (lv_at hl 1 rfl) ?_
    refine rc_get layX1 (ci := 1) rfl 2 (by decide) (v := .int (g_3 x0 2)) K hw (wc_P cy nt ad _ hq_x0) kf_X7_329 rfl dX7_feelingOf_97 ?_
    exact rk_iret K hw hr hd dX7_feelingOf_100
  rcases Classical.em ((g_3 x0 0) = (5 : Int32)) with h_13 | h_13
  · have hd := hd.2.2.2.2.1 h_13
    refine lv_tableIn (tgt := 101) K.1 K.2.1 dX7_feelingOf_21 (by rw [h_13]; decide) (by rw [h_13]; decide) (off := 80) (by rw [h_13]; rfl) (by decide) ?_
    refine lv_iload K.1 K.2.1 dX7_feelingOf_101 (lv_at hl 0 rfl) ?_
    refine lv_iconst (v := (1 : Int32)) K.1 K.2.1 dX7_feelingOf_103 (by decide) ?_
    refine lv_isub K.1 K.2.1 dX7_feelingOf_104 ?_
    exact rk_iret K hw hr hd dX7_feelingOf_105
  have hd := hd.2.2.2.2.2 h_7 h_8 h_10 h_12 h_13
  have qh_7 := lv_neT (k := (1 : Int32)) (a := 1) h_7 (by decide)
  have qh_8 := lv_neT (k := (2 : Int32)) (a := 2) h_8 (by decide)
  have qh_10 := lv_neT (k := (3 : Int32)) (a := 3) h_10 (by decide)
  have qh_12 := lv_neT (k := (4 : Int32)) (a := 4) h_12 (by decide)
  have qh_13 := lv_neT (k := (5 : Int32)) (a := 5) h_13 (by decide)
  refine lv_tableOut (tgt := 106) K.1 K.2.1 dX7_feelingOf_21 (by omega) (by decide) ?_
  refine lv_iload K.1 K.2.1 dX7_feelingOf_106 (lv_at hl 0 rfl) ?_
  exact rk_iret K hw hr hd dX7_feelingOf_108
theorem dJ6_compare_7cf53_0 : decode cJ6_compare_7cf53 0 = .ok (.iload_n 0, 1) := by decide +kernel
theorem dJ6_compare_7cf53_1 : decode cJ6_compare_7cf53 1 = .ok (.iload_n 1, 1) := by decide +kernel
theorem dJ6_compare_7cf53_2 : decode cJ6_compare_7cf53 2 = .ok (.if_icmp .ge 7, 3) := by decide +kernel
theorem dJ6_compare_7cf53_5 : decode cJ6_compare_7cf53 5 = .ok (.iconst (-1), 1) := by decide +kernel
theorem dJ6_compare_7cf53_6 : decode cJ6_compare_7cf53 6 = .ok (.goto 13, 3) := by decide +kernel
theorem dJ6_compare_7cf53_9 : decode cJ6_compare_7cf53 9 = .ok (.iload_n 0, 1) := by decide +kernel
theorem dJ6_compare_7cf53_10 : decode cJ6_compare_7cf53 10 = .ok (.iload_n 1, 1) := by decide +kernel
theorem dJ6_compare_7cf53_11 : decode cJ6_compare_7cf53 11 = .ok (.if_icmp .ne 7, 3) := by decide +kernel
theorem dJ6_compare_7cf53_14 : decode cJ6_compare_7cf53 14 = .ok (.iconst 0, 1) := by decide +kernel
theorem dJ6_compare_7cf53_15 : decode cJ6_compare_7cf53 15 = .ok (.goto 4, 3) := by decide +kernel
theorem dJ6_compare_7cf53_18 : decode cJ6_compare_7cf53 18 = .ok (.iconst 1, 1) := by decide +kernel
theorem dJ6_compare_7cf53_19 : decode cJ6_compare_7cf53 19 = .ok (.ireturn, 1) := by decide +kernel
set_option maxHeartbeats 4000000 in
set_option maxRecDepth 100000 in
theorem cc_J6_compare_7cf53 (l : Launch) (D : va_G) (cy : Nat → ClassId) (nt : Nat) (ad : Nat → Nat) (A : Nat → Prop) (X : Nat → Nat)  (g0 : Sg) (Q : Int32 → Sg → Prop) (x0 : Int32) (x1 : Int32) (hd : vv_J6_compare_7cf53 nt x0 x1 g0 Q) : Met l yJ6_compare_7cf53 (Cond.code yJ6_compare_7cf53 cJ6_compare_7cf53 2 (some .int) :: TT) (rmD 1) (va_Pc [.int x0, .int x1] (PreC (wsC cy nt ad) D cy A X g0)) (va_Qi Q (PostG (wsC cy nt ad) D A) A) 0 0 A := by
  unfold vv_J6_compare_7cf53 at hd
  refine Met.ofW (cc := cJ6_compare_7cf53) (maxL := 2) (ret := (some .int)) (by decide) rfl ?_
  intro p e s m args below meth c s₁ B hml hv
  obtain ⟨rfl, ⟨hP, hK0, hD⟩, KX⟩ := hv
  have K : Kx p s m _ meth c cJ6_compare_7cf53 2 RJ6 D cy := ⟨B.exec, B.bytes, hml, findClass_of_methodNamed B.named, fun w h => atoms_spec (ws := Cond.code yJ6_compare_7cf53 cJ6_compare_7cf53 2 (some .int) :: TT) B.pre w (List.mem_cons_of_mem _ h), hK0, B.notSynchronized⟩
  have hw : Wd D A s.heap (wsC cy nt ad g0) s.heap [] := ⟨hP, hD, va_S.rf⟩
  have hr := B.returns
  have hl := lv_entry ([.int x0, .int x1]) (n := 2) (Nat.le_of_ble_eq_true rfl)
  rw [lg_entry_eq]
  generalize (lg_sl ([.int x0, .int x1]) ++ List.replicate (2 - (lg_sl ([.int x0, .int x1])).length) Slot.unset).toArray = ls at hl ⊢
  have hl : lv_has ls 2 [(0, .int x0), (1, .int x1)] := hl
  refine lv_iload_n K.1 K.2.1 dJ6_compare_7cf53_0 rfl (lv_at hl 0 rfl) ?_
  refine lv_iload_n K.1 K.2.1 dJ6_compare_7cf53_1 rfl (lv_at hl 1 rfl) ?_
  refine lv_icmp_ge (tgt := 9) K.1 K.2.1 dJ6_compare_7cf53_2 (by decide) (fun h_1 => ?_) (fun h_1 => ?_)
  · have hd := hd.1 h_1
    refine lv_iload_n K.1 K.2.1 dJ6_compare_7cf53_9 rfl (lv_at hl 0 rfl) ?_
    refine lv_iload_n K.1 K.2.1 dJ6_compare_7cf53_10 rfl (lv_at hl 1 rfl) ?_
    refine lv_icmp_ne (tgt := 18) K.1 K.2.1 dJ6_compare_7cf53_11 (by decide) (fun h_2 => ?_) (fun h_2 => ?_)
    · have hd := hd.1 h_2
      refine lv_iconst (v := (1 : Int32)) K.1 K.2.1 dJ6_compare_7cf53_18 (by decide) ?_
      exact rk_iret K hw hr hd dJ6_compare_7cf53_19
    · have hd := hd.2 h_2
      refine lv_iconst (v := (0 : Int32)) K.1 K.2.1 dJ6_compare_7cf53_14 (by decide) ?_
      refine lv_goto (tgt := 19) K.1 K.2.1 dJ6_compare_7cf53_15 (by decide) ?_
      exact rk_iret K hw hr hd dJ6_compare_7cf53_19
  · have hd := hd.2 h_1
    refine lv_iconst (v := (-1 : Int32)) K.1 K.2.1 dJ6_compare_7cf53_5 (by decide) ?_
    refine lv_goto (tgt := 19) K.1 K.2.1 dJ6_compare_7cf53_6 (by decide) ?_
    exact rk_iret K hw hr hd dJ6_compare_7cf53_19
theorem dX7_voteOf_0 : decode cX7_voteOf 0 = .ok (.aload_n 0, 1) := by decide +kernel
theorem dX7_voteOf_1 : decode cX7_voteOf 1 = .ok (.iload_n 1, 1) := by decide +kernel
theorem dX7_voteOf_2 : decode cX7_voteOf 2 = .ok (.aload_n 2, 1) := by decide +kernel
theorem dX7_voteOf_3 : decode cX7_voteOf 3 = .ok (.iload_n 3, 1) := by decide +kernel
theorem dX7_voteOf_4 : decode cX7_voteOf 4 = .ok (.invokestatic 140, 3) := by decide +kernel
theorem dX7_voteOf_7 : decode cX7_voteOf 7 = .ok (.iconst 0, 1) := by decide +kernel
theorem dX7_voteOf_8 : decode cX7_voteOf 8 = .ok (.invokestatic 339, 3) := by decide +kernel
theorem dX7_voteOf_11 : decode cX7_voteOf 11 = .ok (.ireturn, 1) := by decide +kernel
set_option maxHeartbeats 4000000 in
set_option maxRecDepth 100000 in
theorem cc_X7_voteOf (l : Launch) (D : va_G) (cy : Nat → ClassId) (nt : Nat) (ad : Nat → Nat) (A : Nat → Prop) (X : Nat → Nat)  (g0 : Sg) (Q : Int32 → Sg → Prop) (x0 : Nat) (x1 : Int32) (x2 : Nat) (x3 : Int32) (hd : vv_X7_voteOf nt x0 x1 x2 x3 g0 Q) : Met l yX7_voteOf (Cond.code yX7_voteOf cX7_voteOf 4 (some .int) :: TT) (rmD 4) (va_Pc [.ref (ad x0), .int x1, .ref (ad x2), .int x3] (PreC (wsC cy nt ad) D cy A X g0)) (va_Qi Q (PostG (wsC cy nt ad) D A) A) 0 0 A := by
  unfold vv_X7_voteOf at hd
  refine Met.ofW (cc := cX7_voteOf) (maxL := 4) (ret := (some .int)) (by decide) rfl ?_
  intro p e s m args below meth c s₁ B hml hv
  obtain ⟨rfl, ⟨hP, hK0, hD⟩, KX⟩ := hv
  have K : Kx p s m _ meth c cX7_voteOf 4 RX7 D cy := ⟨B.exec, B.bytes, hml, findClass_of_methodNamed B.named, fun w h => atoms_spec (ws := Cond.code yX7_voteOf cX7_voteOf 4 (some .int) :: TT) B.pre w (List.mem_cons_of_mem _ h), hK0, B.notSynchronized⟩
  have hw : Wd D A s.heap (wsC cy nt ad g0) s.heap [] := ⟨hP, hD, va_S.rf⟩
  have hr := B.returns
  have hl := lv_entry ([.ref (ad x0), .int x1, .ref (ad x2), .int x3]) (n := 4) (Nat.le_of_ble_eq_true rfl)
  rw [lg_entry_eq]
  generalize (lg_sl ([.ref (ad x0), .int x1, .ref (ad x2), .int x3]) ++ List.replicate (4 - (lg_sl ([.ref (ad x0), .int x1, .ref (ad x2), .int x3])).length) Slot.unset).toArray = ls at hl ⊢
  have hl : lv_has ls 4 [(0, .ref (ad x0)), (1, .int x1), (2, .ref (ad x2)), (3, .int x3)] := hl
  have hq_x0 := hd.1
  have hd := hd.2
  have hq_x2 := hd.1
  have hd := hd.2
  refine lv_aload_n K.1 K.2.1 dX7_voteOf_0 rfl (lv_at hl 0 rfl) ?_
  refine lv_iload_n K.1 K.2.1 dX7_voteOf_1 rfl (lv_at hl 1 rfl) ?_
  refine lv_aload_n K.1 K.2.1 dX7_voteOf_2 rfl (lv_at hl 2 rfl) ?_
  refine lv_iload_n K.1 K.2.1 dX7_voteOf_3 rfl (lv_at hl 3 rfl) ?_
  refine rkc_si (As := [.ref (ad x0), .int x1, .ref (ad x2), .int x3]) (rest := []) K KX hw (cc_X7_feelingOf l D cy nt ad A X g0 _ x0 x1 x2 x3 hd) lk_X7_140 ⟨Nat.le_of_ble_eq_true rfl, Nat.le_of_ble_eq_true rfl⟩ ⟨Nat.zero_le _, Nat.zero_le _⟩ rfl hl.1 (Nat.le_of_ble_eq_true rfl) rfl dX7_voteOf_4 (fun r_2 g_1 H locs hd hw => ?_)
  refine lv_iconst (v := (0 : Int32)) K.1 K.2.1 dX7_voteOf_7 (by decide) ?_
  refine rkc_si (As := [.int r_2, .int (0 : Int32)]) (rest := []) K KX hw (cc_J6_compare_7cf53 l D cy nt ad A X g_1 _ r_2 (0 : Int32) hd) lk_X7_339 ⟨Nat.le_of_ble_eq_true rfl, Nat.le_of_ble_eq_true rfl⟩ ⟨Nat.zero_le _, Nat.zero_le _⟩ rfl hl.1 (Nat.le_of_ble_eq_true rfl) rfl dX7_voteOf_8 (fun r_4 g_3 H locs hd hw => ?_)
  exact rk_iret K hw hr hd dX7_voteOf_11
theorem dX7_castVote_0 : decode cX7_castVote 0 = .ok (.aload_n 2, 1) := by decide +kernel
theorem dX7_castVote_1 : decode cX7_castVote 1 = .ok (.getfield 151, 3) := by decide +kernel
theorem dX7_castVote_4 : decode cX7_castVote 4 = .ok (.iconst 1, 1) := by decide +kernel
theorem dX7_castVote_5 : decode cX7_castVote 5 = .ok (.if_icmp .ne 7, 3) := by decide +kernel
theorem dX7_castVote_8 : decode cX7_castVote 8 = .ok (.iconst 0, 1) := by decide +kernel
theorem dX7_castVote_9 : decode cX7_castVote 9 = .ok (.goto 20, 3) := by decide +kernel
theorem dX7_castVote_12 : decode cX7_castVote 12 = .ok (.aload_n 2, 1) := by decide +kernel
theorem dX7_castVote_13 : decode cX7_castVote 13 = .ok (.iload_n 3, 1) := by decide +kernel
theorem dX7_castVote_14 : decode cX7_castVote 14 = .ok (.aload_n 0, 1) := by decide +kernel
theorem dX7_castVote_15 : decode cX7_castVote 15 = .ok (.aload_n 1, 1) := by decide +kernel
theorem dX7_castVote_16 : decode cX7_castVote 16 = .ok (.getfield 133, 3) := by decide +kernel
theorem dX7_castVote_19 : decode cX7_castVote 19 = .ok (.invokevirtual 136, 3) := by decide +kernel
theorem dX7_castVote_22 : decode cX7_castVote 22 = .ok (.aload_n 1, 1) := by decide +kernel
theorem dX7_castVote_23 : decode cX7_castVote 23 = .ok (.getfield 100, 3) := by decide +kernel
theorem dX7_castVote_26 : decode cX7_castVote 26 = .ok (.invokestatic 273, 3) := by decide +kernel
theorem dX7_castVote_29 : decode cX7_castVote 29 = .ok (.ireturn, 1) := by decide +kernel
set_option maxHeartbeats 4000000 in
set_option maxRecDepth 100000 in
theorem cc_X7_castVote (l : Launch) (D : va_G) (cy : Nat → ClassId) (nt : Nat) (ad : Nat → Nat) (A : Nat → Prop) (X : Nat → Nat)  (g0 : Sg) (Q : Int32 → Sg → Prop) (x1 : Nat) (x2 : Nat) (x3 : Int32) (hd : vv_X7_castVote nt x1 x2 x3 g0 Q) : Met l yX7_castVote (Cond.code yX7_castVote cX7_castVote 4 (some .int) :: TT) (rmD 5) (va_Pc [.ref (ad 0), .ref (ad x1), .ref (ad x2), .int x3] (PreC (wsC cy nt ad) D cy A X g0)) (va_Qi Q (PostG (wsC cy nt ad) D A) A) 0 0 A := by
  unfold vv_X7_castVote at hd
  refine Met.ofW (cc := cX7_castVote) (maxL := 4) (ret := (some .int)) (by decide) rfl ?_
  intro p e s m args below meth c s₁ B hml hv
  obtain ⟨rfl, ⟨hP, hK0, hD⟩, KX⟩ := hv
  have K : Kx p s m _ meth c cX7_castVote 4 RX7 D cy := ⟨B.exec, B.bytes, hml, findClass_of_methodNamed B.named, fun w h => atoms_spec (ws := Cond.code yX7_castVote cX7_castVote 4 (some .int) :: TT) B.pre w (List.mem_cons_of_mem _ h), hK0, B.notSynchronized⟩
  have hw : Wd D A s.heap (wsC cy nt ad g0) s.heap [] := ⟨hP, hD, va_S.rf⟩
  have hr := B.returns
  have hl := lv_entry ([.ref (ad 0), .ref (ad x1), .ref (ad x2), .int x3]) (n := 4) (Nat.le_of_ble_eq_true rfl)
  rw [lg_entry_eq]
  generalize (lg_sl ([.ref (ad 0), .ref (ad x1), .ref (ad x2), .int x3]) ++ List.replicate (4 - (lg_sl ([.ref (ad 0), .ref (ad x1), .ref (ad x2), .int x3])).length) Slot.unset).toArray = ls at hl ⊢
  have hl : lv_has ls 4 [(0, .ref (ad 0)), (1, .ref (ad x1)), (2, .ref (ad x2)), (3, .int x3)] := hl
  have hq_x1 := hd.1
  have hd := hd.2
  have hq_x2 := hd.1
  have hd := hd.2
  refine lv_aload_n K.1 K.2.1 dX7_castVote_0 rfl (lv_at hl 2 rfl) ?_
  refine rc_get layX1 (ci := 1) rfl 5 (by decide) (v := .int (g0 x2 5)) K hw (wc_P cy nt ad _ hq_x2) kf_X7_151 rfl dX7_castVote_1 ?_
  refine lv_iconst (v := (1 : Int32)) K.1 K.2.1 dX7_castVote_4 (by decide) ?_
  refine lv_icmp_ne (tgt := 12) K.1 K.2.1 dX7_castVote_5 (by decide) (fun h_1 => ?_) (fun h_1 => ?_)
  · have hd := hd.1 h_1
    refine lv_aload_n K.1 K.2.1 dX7_castVote_12 rfl (lv_at hl 2 rfl) ?_
    refine lv_iload_n K.1 K.2.1 dX7_castVote_13 rfl (lv_at hl 3 rfl) ?_
    refine lv_aload_n K.1 K.2.1 dX7_castVote_14 rfl (lv_at hl 0 rfl) ?_
    refine lv_aload_n K.1 K.2.1 dX7_castVote_15 rfl (lv_at hl 1 rfl) ?_
    refine rc_get layX0 (ci := 0) rfl 1 (by decide) (v := .int (g0 x1 1)) K hw (wc_B cy nt ad _ hq_x1) kf_X7_133 rfl dX7_castVote_16 ?_
    refine rkc_vt (As := [.int (g0 x1 1)]) (rest := [.int x3, .ref (ad x2)]) K KX hw (cc_X7_textOf l D cy nt ad A X g0 _ (g0 x1 1) hd) lk_X7_136 (ci := 7) rfl (wc_O cy nt ad _) ⟨Nat.le_of_ble_eq_true rfl, Nat.le_of_ble_eq_true rfl⟩ ⟨Nat.zero_le _, Nat.zero_le _⟩ rfl hl.1 (Nat.le_of_ble_eq_true rfl) rfl dX7_castVote_19 (fun r_3 g_2 H locs hd hw => ?_)
    have hq_r_3 := hd.1
    have hd := hd.2
    refine lv_aload_n K.1 K.2.1 dX7_castVote_22 rfl (lv_at hl 1 rfl) ?_
    refine rc_get layX0 (ci := 0) rfl 0 (by decide) (v := .int (g_2 x1 0)) K hw (wc_B cy nt ad _ hq_x1) kf_X7_100 rfl dX7_castVote_23 ?_
    refine rkc_si (As := [.ref (ad x2), .int x3, .ref (ad r_3), .int (g_2 x1 0)]) (rest := []) K KX hw (cc_X7_voteOf l D cy nt ad A X g_2 _ x2 x3 r_3 (g_2 x1 0) hd) lk_X7_273 ⟨Nat.le_of_ble_eq_true rfl, Nat.le_of_ble_eq_true rfl⟩ ⟨Nat.zero_le _, Nat.zero_le _⟩ rfl hl.1 (Nat.le_of_ble_eq_true rfl) rfl dX7_castVote_26 (fun r_5 g_4 H locs hd hw => ?_)
    exact rk_iret K hw hr hd dX7_castVote_29
  · have hd := hd.2 h_1
    refine lv_iconst (v := (0 : Int32)) K.1 K.2.1 dX7_castVote_8 (by decide) ?_
    refine lv_goto (tgt := 29) K.1 K.2.1 dX7_castVote_9 (by decide) ?_
    exact rk_iret K hw hr hd dX7_castVote_29
theorem dX7_told_0 : decode cX7_told 0 = .ok (.iload_n 2, 1) := by decide +kernel
theorem dX7_told_1 : decode cX7_told 1 = .ok (.ifCond .ne 11, 3) := by decide +kernel
theorem dX7_told_4 : decode cX7_told 4 = .ok (.aload_n 0, 1) := by decide +kernel
theorem dX7_told_5 : decode cX7_told 5 = .ok (.getfield 10, 3) := by decide +kernel
theorem dX7_told_8 : decode cX7_told 8 = .ok (.getfield 100, 3) := by decide +kernel
theorem dX7_told_11 : decode cX7_told 11 = .ok (.ireturn, 1) := by decide +kernel
theorem dX7_told_12 : decode cX7_told 12 = .ok (.iload_n 2, 1) := by decide +kernel
theorem dX7_told_13 : decode cX7_told 13 = .ok (.iconst 1, 1) := by decide +kernel
theorem dX7_told_14 : decode cX7_told 14 = .ok (.if_icmp .ne 11, 3) := by decide +kernel
theorem dX7_told_17 : decode cX7_told 17 = .ok (.aload_n 0, 1) := by decide +kernel
theorem dX7_told_18 : decode cX7_told 18 = .ok (.getfield 10, 3) := by decide +kernel
theorem dX7_told_21 : decode cX7_told 21 = .ok (.getfield 103, 3) := by decide +kernel
theorem dX7_told_24 : decode cX7_told 24 = .ok (.ireturn, 1) := by decide +kernel
theorem dX7_told_25 : decode cX7_told 25 = .ok (.aload_n 0, 1) := by decide +kernel
theorem dX7_told_26 : decode cX7_told 26 = .ok (.iload_n 1, 1) := by decide +kernel
theorem dX7_told_27 : decode cX7_told 27 = .ok (.invokevirtual 85, 3) := by decide +kernel
theorem dX7_told_30 : decode cX7_told 30 = .ok (.ifCond .ne 7, 3) := by decide +kernel
theorem dX7_told_33 : decode cX7_told 33 = .ok (.sipush (-1000), 3) := by decide +kernel
theorem dX7_told_36 : decode cX7_told 36 = .ok (.ireturn, 1) := by decide +kernel
theorem dX7_told_37 : decode cX7_told 37 = .ok (.aload_n 0, 1) := by decide +kernel
theorem dX7_told_38 : decode cX7_told 38 = .ok (.getfield 10, 3) := by decide +kernel
theorem dX7_told_41 : decode cX7_told 41 = .ok (.getfield 106, 3) := by decide +kernel
theorem dX7_told_44 : decode cX7_told 44 = .ok (.iload_n 1, 1) := by decide +kernel
theorem dX7_told_45 : decode cX7_told 45 = .ok (.aaload, 1) := by decide +kernel
theorem dX7_told_46 : decode cX7_told 46 = .ok (.astore_n 3, 1) := by decide +kernel
theorem dX7_told_47 : decode cX7_told 47 = .ok (.iload_n 2, 1) := by decide +kernel
theorem dX7_told_48 : decode cX7_told 48 = .ok (.iconst 2, 1) := by decide +kernel
theorem dX7_told_49 : decode cX7_told 49 = .ok (.if_icmp .lt 15, 3) := by decide +kernel
theorem dX7_told_52 : decode cX7_told 52 = .ok (.iload_n 2, 1) := by decide +kernel
theorem dX7_told_53 : decode cX7_told 53 = .ok (.bipush 7, 2) := by decide +kernel
theorem dX7_told_55 : decode cX7_told 55 = .ok (.if_icmp .gt 9, 3) := by decide +kernel
theorem dX7_told_58 : decode cX7_told 58 = .ok (.aload_n 3, 1) := by decide +kernel
theorem dX7_told_59 : decode cX7_told 59 = .ok (.iload_n 2, 1) := by decide +kernel
theorem dX7_told_60 : decode cX7_told 60 = .ok (.invokevirtual 122, 3) := by decide +kernel
theorem dX7_told_63 : decode cX7_told 63 = .ok (.ireturn, 1) := by decide +kernel
theorem dX7_told_64 : decode cX7_told 64 = .ok (.iload_n 2, 1) := by decide +kernel
theorem dX7_told_65 : decode cX7_told 65 = .ok (.bipush 8, 2) := by decide +kernel
theorem dX7_told_67 : decode cX7_told 67 = .ok (.if_icmp .ne 13, 3) := by decide +kernel
theorem dX7_told_70 : decode cX7_told 70 = .ok (.aload_n 0, 1) := by decide +kernel
theorem dX7_told_71 : decode cX7_told 71 = .ok (.aload_n 0, 1) := by decide +kernel
theorem dX7_told_72 : decode cX7_told 72 = .ok (.getfield 10, 3) := by decide +kernel
theorem dX7_told_75 : decode cX7_told 75 = .ok (.aload_n 3, 1) := by decide +kernel
theorem dX7_told_76 : decode cX7_told 76 = .ok (.invokevirtual 126, 3) := by decide +kernel
theorem dX7_told_79 : decode cX7_told 79 = .ok (.ireturn, 1) := by decide +kernel
theorem dX7_told_80 : decode cX7_told 80 = .ok (.iload_n 2, 1) := by decide +kernel
theorem dX7_told_81 : decode cX7_told 81 = .ok (.bipush 9, 2) := by decide +kernel
theorem dX7_told_83 : decode cX7_told 83 = .ok (.if_icmp .ne 13, 3) := by decide +kernel
theorem dX7_told_86 : decode cX7_told 86 = .ok (.aload_n 0, 1) := by decide +kernel
theorem dX7_told_87 : decode cX7_told 87 = .ok (.aload_n 0, 1) := by decide +kernel
theorem dX7_told_88 : decode cX7_told 88 = .ok (.getfield 10, 3) := by decide +kernel
theorem dX7_told_91 : decode cX7_told 91 = .ok (.aload_n 3, 1) := by decide +kernel
theorem dX7_told_92 : decode cX7_told 92 = .ok (.invokevirtual 130, 3) := by decide +kernel
theorem dX7_told_95 : decode cX7_told 95 = .ok (.ireturn, 1) := by decide +kernel
theorem dX7_told_96 : decode cX7_told 96 = .ok (.iload_n 2, 1) := by decide +kernel
theorem dX7_told_97 : decode cX7_told 97 = .ok (.bipush 10, 2) := by decide +kernel
theorem dX7_told_99 : decode cX7_told 99 = .ok (.if_icmp .lt 36, 3) := by decide +kernel
theorem dX7_told_102 : decode cX7_told 102 = .ok (.iload_n 2, 1) := by decide +kernel
theorem dX7_told_103 : decode cX7_told 103 = .ok (.bipush 18, 2) := by decide +kernel
theorem dX7_told_105 : decode cX7_told 105 = .ok (.if_icmp .ge 30, 3) := by decide +kernel
theorem dX7_told_108 : decode cX7_told 108 = .ok (.aload_n 3, 1) := by decide +kernel
theorem dX7_told_109 : decode cX7_told 109 = .ok (.iload_n 2, 1) := by decide +kernel
theorem dX7_told_110 : decode cX7_told 110 = .ok (.bipush 10, 2) := by decide +kernel
theorem dX7_told_112 : decode cX7_told 112 = .ok (.isub, 1) := by decide +kernel
theorem dX7_told_113 : decode cX7_told 113 = .ok (.aload_n 0, 1) := by decide +kernel
theorem dX7_told_114 : decode cX7_told 114 = .ok (.aload_n 0, 1) := by decide +kernel
theorem dX7_told_115 : decode cX7_told 115 = .ok (.getfield 10, 3) := by decide +kernel
theorem dX7_told_118 : decode cX7_told 118 = .ok (.getfield 133, 3) := by decide +kernel
theorem dX7_told_121 : decode cX7_told 121 = .ok (.invokevirtual 136, 3) := by decide +kernel
theorem dX7_told_124 : decode cX7_told 124 = .ok (.aload_n 0, 1) := by decide +kernel
theorem dX7_told_125 : decode cX7_told 125 = .ok (.getfield 10, 3) := by decide +kernel
theorem dX7_told_128 : decode cX7_told 128 = .ok (.getfield 100, 3) := by decide +kernel
theorem dX7_told_131 : decode cX7_told 131 = .ok (.invokestatic 140, 3) := by decide +kernel
theorem dX7_told_134 : decode cX7_told 134 = .ok (.ireturn, 1) := by decide +kernel
theorem dX7_told_135 : decode cX7_told 135 = .ok (.iload_n 2, 1) := by decide +kernel
theorem dX7_told_136 : decode cX7_told 136 = .ok (.bipush 20, 2) := by decide +kernel
theorem dX7_told_138 : decode cX7_told 138 = .ok (.if_icmp .lt 23, 3) := by decide +kernel
theorem dX7_told_141 : decode cX7_told 141 = .ok (.iload_n 2, 1) := by decide +kernel
theorem dX7_told_142 : decode cX7_told 142 = .ok (.bipush 28, 2) := by decide +kernel
theorem dX7_told_144 : decode cX7_told 144 = .ok (.if_icmp .ge 17, 3) := by decide +kernel
theorem dX7_told_147 : decode cX7_told 147 = .ok (.aload_n 0, 1) := by decide +kernel
theorem dX7_told_148 : decode cX7_told 148 = .ok (.aload_n 0, 1) := by decide +kernel
theorem dX7_told_149 : decode cX7_told 149 = .ok (.getfield 10, 3) := by decide +kernel
theorem dX7_told_152 : decode cX7_told 152 = .ok (.aload_n 3, 1) := by decide +kernel
theorem dX7_told_153 : decode cX7_told 153 = .ok (.iload_n 2, 1) := by decide +kernel
theorem dX7_told_154 : decode cX7_told 154 = .ok (.bipush 20, 2) := by decide +kernel
theorem dX7_told_156 : decode cX7_told 156 = .ok (.isub, 1) := by decide +kernel
theorem dX7_told_157 : decode cX7_told 157 = .ok (.invokevirtual 144, 3) := by decide +kernel
theorem dX7_told_160 : decode cX7_told 160 = .ok (.ireturn, 1) := by decide +kernel
theorem dX7_told_161 : decode cX7_told 161 = .ok (.sipush (-1000), 3) := by decide +kernel
theorem dX7_told_164 : decode cX7_told 164 = .ok (.ireturn, 1) := by decide +kernel
set_option maxHeartbeats 4000000 in
set_option maxRecDepth 100000 in
theorem bb_X7_told_135 {p : Program} {l : Launch} {e : Env} {s : State} {m : MethodId} {args : Array Value} {below : List Frame} {meth : Method} {c : Code} {D : va_G} {cy : Nat → ClassId} {nt : Nat} {ad : Nat → Nat} {A : Nat → Prop} {X : Nat → Nat} {Q : Int32 → Sg → Prop} (K : Kx p s m args meth c cX7_told 4 RX7 D cy) (KX : XC X A s s.heap) (hr : meth.sig.returnType = (some .int))  (x2 : Int32) (x3 : Nat)  (g0 : Sg) (H : Heap) (locs : List Loc) (ls : Array Slot) (hq_x3 : isP x3) (hd : vv_X7_told_J135 nt x2 x3 g0 Q) (hw : Wd D A s.heap (wsC cy nt ad g0) H locs) (hl : lv_has ls 4 [(0, .ref (ad 0)), (2, .int x2), (3, .ref (ad x3))]) : W p l e (rmD 6) s m args below meth c H locs 0 0 (MQ below (va_Qi Q (PostG (wsC cy nt ad) D A) A) args s 0 0 A) (F0 m 135 ls []) := by
  unfold vv_X7_told_J135 at hd
  refine lv_iload_n K.1 K.2.1 dX7_told_135 rfl (lv_at hl 1 rfl) ?_
  refine lv_bipush (v := (20 : Int32)) K.1 K.2.1 dX7_told_136 (by decide) ?_
  refine lv_icmp_lt (tgt := 161) K.1 K.2.1 dX7_told_138 (by decide) (fun h_11 => ?_) (fun h_11 => ?_)
  · have hd := hd.1 h_11
    refine lv_sipush (v := (-1000 : Int32)) K.1 K.2.1 dX7_told_161 (by decide) ?_
    exact rk_iret K hw hr hd dX7_told_164
  · have hd := hd.2 h_11
    refine lv_iload_n K.1 K.2.1 dX7_told_141 rfl (lv_at hl 1 rfl) ?_
    refine lv_bipush (v := (28 : Int32)) K.1 K.2.1 dX7_told_142 (by decide) ?_
    refine lv_icmp_ge (tgt := 161) K.1 K.2.1 dX7_told_144 (by decide) (fun h_12 => ?_) (fun h_12 => ?_)
    · have hd := hd.1 h_12
      refine lv_sipush (v := (-1000 : Int32)) K.1 K.2.1 dX7_told_161 (by decide) ?_
      exact rk_iret K hw hr hd dX7_told_164
    · have hd := hd.2 h_12
      refine lv_aload_n K.1 K.2.1 dX7_told_147 rfl (lv_at hl 0 rfl) ?_
      refine lv_aload_n K.1 K.2.1 dX7_told_148 rfl (lv_at hl 0 rfl) ?_
      refine rc_get layX7 (ci := 7) rfl 0 (by decide) (v := .ref (ad 1)) K hw (wc_O cy nt ad _) kf_X7_10 rfl dX7_told_149 ?_
      refine lv_aload_n K.1 K.2.1 dX7_told_152 rfl (lv_at hl 2 rfl) ?_
      refine lv_iload_n K.1 K.2.1 dX7_told_153 rfl (lv_at hl 1 rfl) ?_
      refine lv_bipush (v := (20 : Int32)) K.1 K.2.1 dX7_told_154 (by decide) ?_
      refine lv_isub K.1 K.2.1 dX7_told_156 ?_
      refine rkc_vi (As := [.ref (ad 1), .ref (ad x3), .int (x2 - (20 : Int32))]) (rest := []) K KX hw (cc_X7_castVote l D cy nt ad A X g0 _ 1 x3 (x2 - (20 : Int32)) hd) lk_X7_144 (ci := 7) rfl (wc_O cy nt ad _) ⟨Nat.le_of_ble_eq_true rfl, Nat.le_of_ble_eq_true rfl⟩ ⟨Nat.zero_le _, Nat.zero_le _⟩ rfl hl.1 (Nat.le_of_ble_eq_true rfl) rfl dX7_told_157 (fun r_14 g_13 H locs hd hw => ?_)
      exact rk_iret K hw hr hd dX7_told_160
set_option maxHeartbeats 4000000 in
set_option maxRecDepth 100000 in
theorem bb_X7_told_64 {p : Program} {l : Launch} {e : Env} {s : State} {m : MethodId} {args : Array Value} {below : List Frame} {meth : Method} {c : Code} {D : va_G} {cy : Nat → ClassId} {nt : Nat} {ad : Nat → Nat} {A : Nat → Prop} {X : Nat → Nat} {Q : Int32 → Sg → Prop} (K : Kx p s m args meth c cX7_told 4 RX7 D cy) (KX : XC X A s s.heap) (hr : meth.sig.returnType = (some .int))  (x2 : Int32) (x3 : Nat)  (g0 : Sg) (H : Heap) (locs : List Loc) (ls : Array Slot) (hq_x3 : isP x3) (hd : vv_X7_told_J64 nt x2 x3 g0 Q) (hw : Wd D A s.heap (wsC cy nt ad g0) H locs) (hl : lv_has ls 4 [(0, .ref (ad 0)), (2, .int x2), (3, .ref (ad x3))]) : W p l e (rmD 6) s m args below meth c H locs 0 0 (MQ below (va_Qi Q (PostG (wsC cy nt ad) D A) A) args s 0 0 A) (F0 m 64 ls []) := by
  unfold vv_X7_told_J64 at hd
  refine lv_iload_n K.1 K.2.1 dX7_told_64 rfl (lv_at hl 1 rfl) ?_
  refine lv_bipush (v := (8 : Int32)) K.1 K.2.1 dX7_told_65 (by decide) ?_
  refine lv_icmp_ne (tgt := 80) K.1 K.2.1 dX7_told_67 (by decide) (fun h_8 => ?_) (fun h_8 => ?_)
  · have hd := hd.1 h_8
    refine lv_iload_n K.1 K.2.1 dX7_told_80 rfl (lv_at hl 1 rfl) ?_
    refine lv_bipush (v := (9 : Int32)) K.1 K.2.1 dX7_told_81 (by decide) ?_
    refine lv_icmp_ne (tgt := 96) K.1 K.2.1 dX7_told_83 (by decide) (fun h_9 => ?_) (fun h_9 => ?_)
    · have hd := hd.1 h_9
      refine lv_iload_n K.1 K.2.1 dX7_told_96 rfl (lv_at hl 1 rfl) ?_
      refine lv_bipush (v := (10 : Int32)) K.1 K.2.1 dX7_told_97 (by decide) ?_
      refine lv_icmp_lt (tgt := 135) K.1 K.2.1 dX7_told_99 (by decide) (fun h_10 => ?_) (fun h_10 => ?_)
      · have hd := hd.1 h_10
        exact bb_X7_told_135 K KX hr   x2 x3 g0 _ _ _ hq_x3 hd hw (lv_sub hl [0, 1, 2] rfl)
      · have hd := hd.2 h_10
        refine lv_iload_n K.1 K.2.1 dX7_told_102 rfl (lv_at hl 1 rfl) ?_
        refine lv_bipush (v := (18 : Int32)) K.1 K.2.1 dX7_told_103 (by decide) ?_
        refine lv_icmp_ge (tgt := 135) K.1 K.2.1 dX7_told_105 (by decide) (fun h_15 => ?_) (fun h_15 => ?_)
        · have hd := hd.1 h_15
          exact bb_X7_told_135 K KX hr   x2 x3 g0 _ _ _ hq_x3 hd hw (lv_sub hl [0, 1, 2] rfl)
        · have hd := hd.2 h_15
          refine lv_aload_n K.1 K.2.1 dX7_told_108 rfl (lv_at hl 2 rfl) ?_
          refine lv_iload_n K.1 K.2.1 dX7_told_109 rfl (lv_at hl 1 rfl) ?_
          refine lv_bipush (v := (10 : Int32)) K.1 K.2.1 dX7_told_110 (by decide) ?_
          refine lv_isub K.1 K.2.1 dX7_told_112 ?_
          refine lv_aload_n K.1 K.2.1 dX7_told_113 rfl (lv_at hl 0 rfl) ?_
          refine lv_aload_n K.1 K.2.1 dX7_told_114 rfl (lv_at hl 0 rfl) ?_
          refine rc_get layX7 (ci := 7) rfl 0 (by decide) (v := .ref (ad 1)) K hw (wc_O cy nt ad _) kf_X7_10 rfl dX7_told_115 ?_
          refine rc_get layX0 (ci := 0) rfl 1 (by decide) (v := .int (g0 1 1)) K hw (wc_B cy nt ad _ ⟨by decide, by decide⟩) kf_X7_133 rfl dX7_told_118 ?_
          refine rkc_vt (As := [.int (g0 1 1)]) (rest := [.int (x2 - (10 : Int32)), .ref (ad x3)]) K KX hw (cc_X7_textOf l D cy nt ad A X g0 _ (g0 1 1) hd) lk_X7_136 (ci := 7) rfl (wc_O cy nt ad _) ⟨Nat.le_of_ble_eq_true rfl, Nat.le_of_ble_eq_true rfl⟩ ⟨Nat.zero_le _, Nat.zero_le _⟩ rfl hl.1 (Nat.le_of_ble_eq_true rfl) rfl dX7_told_121 (fun r_17 g_16 H locs hd hw => ?_)
          have hq_r_17 := hd.1
          have hd := hd.2
          refine lv_aload_n K.1 K.2.1 dX7_told_124 rfl (lv_at hl 0 rfl) ?_
          refine rc_get layX7 (ci := 7) rfl 0 (by decide) (v := .ref (ad 1)) K hw (wc_O cy nt ad _) kf_X7_10 rfl dX7_told_125 ?_
          refine rc_get layX0 (ci := 0) rfl 0 (by decide) (v := .int (g_16 1 0)) K hw (wc_B cy nt ad _ ⟨by decide, by decide⟩) kf_X7_100 rfl dX7_told_128 ?_
          refine rkc_si (As := [.ref (ad x3), .int (x2 - (10 : Int32)), .ref (ad r_17), .int (g_16 1 0)]) (rest := []) K KX hw (cc_X7_feelingOf l D cy nt ad A X g_16 _ x3 (x2 - (10 : Int32)) r_17 (g_16 1 0) hd) lk_X7_140 ⟨Nat.le_of_ble_eq_true rfl, Nat.le_of_ble_eq_true rfl⟩ ⟨Nat.zero_le _, Nat.zero_le _⟩ rfl hl.1 (Nat.le_of_ble_eq_true rfl) rfl dX7_told_131 (fun r_19 g_18 H locs hd hw => ?_)
          exact rk_iret K hw hr hd dX7_told_134
    · have hd := hd.2 h_9
      refine lv_aload_n K.1 K.2.1 dX7_told_86 rfl (lv_at hl 0 rfl) ?_
      refine lv_aload_n K.1 K.2.1 dX7_told_87 rfl (lv_at hl 0 rfl) ?_
      refine rc_get layX7 (ci := 7) rfl 0 (by decide) (v := .ref (ad 1)) K hw (wc_O cy nt ad _) kf_X7_10 rfl dX7_told_88 ?_
      refine lv_aload_n K.1 K.2.1 dX7_told_91 rfl (lv_at hl 2 rfl) ?_
      refine rkc_vi (As := [.ref (ad 1), .ref (ad x3)]) (rest := []) K KX hw (cc_X7_smoothingOf l D cy nt ad A X g0 _ 1 x3 hd) lk_X7_130 (ci := 7) rfl (wc_O cy nt ad _) ⟨Nat.le_of_ble_eq_true rfl, Nat.le_of_ble_eq_true rfl⟩ ⟨Nat.zero_le _, Nat.zero_le _⟩ rfl hl.1 (Nat.le_of_ble_eq_true rfl) rfl dX7_told_92 (fun r_21 g_20 H locs hd hw => ?_)
      exact rk_iret K hw hr hd dX7_told_95
  · have hd := hd.2 h_8
    refine lv_aload_n K.1 K.2.1 dX7_told_70 rfl (lv_at hl 0 rfl) ?_
    refine lv_aload_n K.1 K.2.1 dX7_told_71 rfl (lv_at hl 0 rfl) ?_
    refine rc_get layX7 (ci := 7) rfl 0 (by decide) (v := .ref (ad 1)) K hw (wc_O cy nt ad _) kf_X7_10 rfl dX7_told_72 ?_
    refine lv_aload_n K.1 K.2.1 dX7_told_75 rfl (lv_at hl 2 rfl) ?_
    refine rkc_vi (As := [.ref (ad 1), .ref (ad x3)]) (rest := []) K KX hw (cc_X7_weightOf l D cy nt ad A X g0 _ 1 x3 hd) lk_X7_126 (ci := 7) rfl (wc_O cy nt ad _) ⟨Nat.le_of_ble_eq_true rfl, Nat.le_of_ble_eq_true rfl⟩ ⟨Nat.zero_le _, Nat.zero_le _⟩ rfl hl.1 (Nat.le_of_ble_eq_true rfl) rfl dX7_told_76 (fun r_23 g_22 H locs hd hw => ?_)
    exact rk_iret K hw hr hd dX7_told_79
set_option maxHeartbeats 4000000 in
set_option maxRecDepth 100000 in
theorem cc_X7_told (l : Launch) (D : va_G) (cy : Nat → ClassId) (nt : Nat) (ad : Nat → Nat) (A : Nat → Prop) (X : Nat → Nat)  (g0 : Sg) (Q : Int32 → Sg → Prop) (x1 : Int32) (x2 : Int32) (hd : vv_X7_told nt x1 x2 g0 Q) : Met l yX7_told (Cond.code yX7_told cX7_told 4 (some .int) :: TT) (rmD 6) (va_Pc [.ref (ad 0), .int x1, .int x2] (PreC (wsC cy nt ad) D cy A X g0)) (va_Qi Q (PostG (wsC cy nt ad) D A) A) 0 0 A := by
  unfold vv_X7_told at hd
  refine Met.ofW (cc := cX7_told) (maxL := 4) (ret := (some .int)) (by decide) rfl ?_
  intro p e s m args below meth c s₁ B hml hv
  obtain ⟨rfl, ⟨hP, hK0, hD⟩, KX⟩ := hv
  have K : Kx p s m _ meth c cX7_told 4 RX7 D cy := ⟨B.exec, B.bytes, hml, findClass_of_methodNamed B.named, fun w h => atoms_spec (ws := Cond.code yX7_told cX7_told 4 (some .int) :: TT) B.pre w (List.mem_cons_of_mem _ h), hK0, B.notSynchronized⟩
  have hw : Wd D A s.heap (wsC cy nt ad g0) s.heap [] := ⟨hP, hD, va_S.rf⟩
  have hr := B.returns
  have hl := lv_entry ([.ref (ad 0), .int x1, .int x2]) (n := 4) (Nat.le_of_ble_eq_true rfl)
  rw [lg_entry_eq]
  generalize (lg_sl ([.ref (ad 0), .int x1, .int x2]) ++ List.replicate (4 - (lg_sl ([.ref (ad 0), .int x1, .int x2])).length) Slot.unset).toArray = ls at hl ⊢
  have hl : lv_has ls 4 [(0, .ref (ad 0)), (1, .int x1), (2, .int x2)] := hl
  refine lv_iload_n K.1 K.2.1 dX7_told_0 rfl (lv_at hl 2 rfl) ?_
  refine lv_if_ne (tgt := 12) K.1 K.2.1 dX7_told_1 (by decide) (fun h_1 => ?_) (fun h_1 => ?_)
  · have hd := hd.1 h_1
    refine lv_iload_n K.1 K.2.1 dX7_told_12 rfl (lv_at hl 2 rfl) ?_
    refine lv_iconst (v := (1 : Int32)) K.1 K.2.1 dX7_told_13 (by decide) ?_
    refine lv_icmp_ne (tgt := 25) K.1 K.2.1 dX7_told_14 (by decide) (fun h_2 => ?_) (fun h_2 => ?_)
    · have hd := hd.1 h_2
      refine lv_aload_n K.1 K.2.1 dX7_told_25 rfl (lv_at hl 0 rfl) ?_
      refine lv_iload_n K.1 K.2.1 dX7_told_26 rfl (lv_at hl 1 rfl) ?_
      refine rkc_vi (As := [.int x1]) (rest := []) K KX hw (cc_X7_isPaper l D cy nt ad A X g0 _ x1 hd) lk_X7_85 (ci := 7) rfl (wc_O cy nt ad _) ⟨Nat.le_of_ble_eq_true rfl, Nat.le_of_ble_eq_true rfl⟩ ⟨Nat.zero_le _, Nat.zero_le _⟩ rfl hl.1 (Nat.le_of_ble_eq_true rfl) rfl dX7_told_27 (fun r_4 g_3 H locs hd hw => ?_)
      refine lv_if_ne (tgt := 37) K.1 K.2.1 dX7_told_30 (by decide) (fun h_5 => ?_) (fun h_5 => ?_)
      · have hd := hd.1 h_5
        refine lv_aload_n K.1 K.2.1 dX7_told_37 rfl (lv_at hl 0 rfl) ?_
        refine rc_get layX7 (ci := 7) rfl 0 (by decide) (v := .ref (ad 1)) K hw (wc_O cy nt ad _) kf_X7_10 rfl dX7_told_38 ?_
        refine rc_get layX0 (ci := 0) rfl 4 (by decide) (v := .ref (ad 4)) K hw (wc_B cy nt ad _ ⟨by decide, by decide⟩) kf_X7_106 rfl dX7_told_41 ?_
        refine lv_iload_n K.1 K.2.1 dX7_told_44 rfl (lv_at hl 1 rfl) ?_
        have hb_6 := hd.1
        have hd := hd.2
        refine rc_aald (t0 := 2) (b := ad (pp 4 x1)) K hw (wc_R cy nt ad _ ⟨by decide, by decide⟩) rfl rfl hb_6 dX7_told_45 ?_
        refine lv_astore_n (lv' := [(3, .ref (ad (pp 4 x1))), (0, .ref (ad 0)), (1, .int x1), (2, .int x2)]) K.1 K.2.1 dX7_told_46 rfl hl (by decide) rfl (fun ls hl => ?_)
        refine lv_iload_n K.1 K.2.1 dX7_told_47 rfl (lv_at hl 3 rfl) ?_
        refine lv_iconst (v := (2 : Int32)) K.1 K.2.1 dX7_told_48 (by decide) ?_
        refine lv_icmp_lt (tgt := 64) K.1 K.2.1 dX7_told_49 (by decide) (fun h_7 => ?_) (fun h_7 => ?_)
        · have hd := hd.1 h_7
          exact bb_X7_told_64 K KX hr   x2 (pp 4 x1) g_3 _ _ _ (tR_P ⟨by decide, by decide⟩ hb_6) hd hw (lv_sub hl [1, 3, 0] rfl)
        · have hd := hd.2 h_7
          refine lv_iload_n K.1 K.2.1 dX7_told_52 rfl (lv_at hl 3 rfl) ?_
          refine lv_bipush (v := (7 : Int32)) K.1 K.2.1 dX7_told_53 (by decide) ?_
          refine lv_icmp_gt (tgt := 64) K.1 K.2.1 dX7_told_55 (by decide) (fun h_24 => ?_) (fun h_24 => ?_)
          · have hd := hd.1 h_24
            exact bb_X7_told_64 K KX hr   x2 (pp 4 x1) g_3 _ _ _ (tR_P ⟨by decide, by decide⟩ hb_6) hd hw (lv_sub hl [1, 3, 0] rfl)
          · have hd := hd.2 h_24
            refine lv_aload_n K.1 K.2.1 dX7_told_58 rfl (lv_at hl 0 rfl) ?_
            refine lv_iload_n K.1 K.2.1 dX7_told_59 rfl (lv_at hl 3 rfl) ?_
            refine rkc_vi (As := [.int x2]) (rest := []) K KX hw (cc_X1_get l D cy nt ad A X g_3 _ (pp 4 x1) x2 hd) lk_X7_122 (ci := 1) rfl (wc_P cy nt ad _ (tR_P ⟨by decide, by decide⟩ hb_6)) ⟨Nat.le_of_ble_eq_true rfl, Nat.le_of_ble_eq_true rfl⟩ ⟨Nat.zero_le _, Nat.zero_le _⟩ rfl hl.1 (Nat.le_of_ble_eq_true rfl) rfl dX7_told_60 (fun r_26 g_25 H locs hd hw => ?_)
            exact rk_iret K hw hr hd dX7_told_63
      · have hd := hd.2 h_5
        refine lv_sipush (v := (-1000 : Int32)) K.1 K.2.1 dX7_told_33 (by decide) ?_
        exact rk_iret K hw hr hd dX7_told_36
    · have hd := hd.2 h_2
      refine lv_aload_n K.1 K.2.1 dX7_told_17 rfl (lv_at hl 0 rfl) ?_
      refine rc_get layX7 (ci := 7) rfl 0 (by decide) (v := .ref (ad 1)) K hw (wc_O cy nt ad _) kf_X7_10 rfl dX7_told_18 ?_
      refine rc_get layX0 (ci := 0) rfl 3 (by decide) (v := .int (g0 1 3)) K hw (wc_B cy nt ad _ ⟨by decide, by decide⟩) kf_X7_103 rfl dX7_told_21 ?_
      exact rk_iret K hw hr hd dX7_told_24
  · have hd := hd.2 h_1
    refine lv_aload_n K.1 K.2.1 dX7_told_4 rfl (lv_at hl 0 rfl) ?_
    refine rc_get layX7 (ci := 7) rfl 0 (by decide) (v := .ref (ad 1)) K hw (wc_O cy nt ad _) kf_X7_10 rfl dX7_told_5 ?_
    refine rc_get layX0 (ci := 0) rfl 0 (by decide) (v := .int (g0 1 0)) K hw (wc_B cy nt ad _ ⟨by decide, by decide⟩) kf_X7_100 rfl dX7_told_8 ?_
    exact rk_iret K hw hr hd dX7_told_11
theorem dX7_set_0 : decode cX7_set 0 = .ok (.iload_n 1, 1) := by decide +kernel
theorem dX7_set_1 : decode cX7_set 1 = .ok (.ifCond .lt 9, 3) := by decide +kernel
theorem dX7_set_4 : decode cX7_set 4 = .ok (.iload_n 1, 1) := by decide +kernel
theorem dX7_set_5 : decode cX7_set 5 = .ok (.bipush 6, 2) := by decide +kernel
theorem dX7_set_7 : decode cX7_set 7 = .ok (.if_icmp .le 7, 3) := by decide +kernel
theorem dX7_set_10 : decode cX7_set 10 = .ok (.sipush (-1000), 3) := by decide +kernel
theorem dX7_set_13 : decode cX7_set 13 = .ok (.ireturn, 1) := by decide +kernel
theorem dX7_set_14 : decode cX7_set 14 = .ok (.iload_n 1, 1) := by decide +kernel
theorem dX7_set_15 : decode cX7_set 15 = .ok (.iconst 2, 1) := by decide +kernel
theorem dX7_set_16 : decode cX7_set 16 = .ok (.if_icmp .lt 15, 3) := by decide +kernel
theorem dX7_set_19 : decode cX7_set 19 = .ok (.aload_n 0, 1) := by decide +kernel
theorem dX7_set_20 : decode cX7_set 20 = .ok (.iload_n 2, 1) := by decide +kernel
theorem dX7_set_21 : decode cX7_set 21 = .ok (.invokevirtual 85, 3) := by decide +kernel
theorem dX7_set_24 : decode cX7_set 24 = .ok (.ifCond .ne 7, 3) := by decide +kernel
theorem dX7_set_27 : decode cX7_set 27 = .ok (.sipush (-1000), 3) := by decide +kernel
theorem dX7_set_30 : decode cX7_set 30 = .ok (.ireturn, 1) := by decide +kernel
theorem dX7_set_31 : decode cX7_set 31 = .ok (.iload_n 3, 1) := by decide +kernel
theorem dX7_set_32 : decode cX7_set 32 = .ok (.getstatic 89, 3) := by decide +kernel
theorem dX7_set_35 : decode cX7_set 35 = .ok (.iload_n 1, 1) := by decide +kernel
theorem dX7_set_36 : decode cX7_set 36 = .ok (.iaload, 1) := by decide +kernel
theorem dX7_set_37 : decode cX7_set 37 = .ok (.if_icmp .lt 12, 3) := by decide +kernel
theorem dX7_set_40 : decode cX7_set 40 = .ok (.iload_n 3, 1) := by decide +kernel
theorem dX7_set_41 : decode cX7_set 41 = .ok (.getstatic 93, 3) := by decide +kernel
theorem dX7_set_44 : decode cX7_set 44 = .ok (.iload_n 1, 1) := by decide +kernel
theorem dX7_set_45 : decode cX7_set 45 = .ok (.iaload, 1) := by decide +kernel
theorem dX7_set_46 : decode cX7_set 46 = .ok (.if_icmp .le 7, 3) := by decide +kernel
theorem dX7_set_49 : decode cX7_set 49 = .ok (.sipush (-1000), 3) := by decide +kernel
theorem dX7_set_52 : decode cX7_set 52 = .ok (.ireturn, 1) := by decide +kernel
theorem dX7_set_53 : decode cX7_set 53 = .ok (.aload_n 0, 1) := by decide +kernel
theorem dX7_set_54 : decode cX7_set 54 = .ok (.iload_n 2, 1) := by decide +kernel
theorem dX7_set_55 : decode cX7_set 55 = .ok (.iload_n 1, 1) := by decide +kernel
theorem dX7_set_56 : decode cX7_set 56 = .ok (.invokevirtual 96, 3) := by decide +kernel
theorem dX7_set_59 : decode cX7_set 59 = .ok (.istore 4, 2) := by decide +kernel
theorem dX7_set_61 : decode cX7_set 61 = .ok (.iload_n 1, 1) := by decide +kernel
theorem dX7_set_62 : decode cX7_set 62 = .ok (.ifCond .ne 14, 3) := by decide +kernel
theorem dX7_set_65 : decode cX7_set 65 = .ok (.aload_n 0, 1) := by decide +kernel
theorem dX7_set_66 : decode cX7_set 66 = .ok (.getfield 10, 3) := by decide +kernel
theorem dX7_set_69 : decode cX7_set 69 = .ok (.iload_n 3, 1) := by decide +kernel
theorem dX7_set_70 : decode cX7_set 70 = .ok (.putfield 100, 3) := by decide +kernel
theorem dX7_set_73 : decode cX7_set 73 = .ok (.goto 33, 3) := by decide +kernel
theorem dX7_set_76 : decode cX7_set 76 = .ok (.iload_n 1, 1) := by decide +kernel
theorem dX7_set_77 : decode cX7_set 77 = .ok (.iconst 1, 1) := by decide +kernel
theorem dX7_set_78 : decode cX7_set 78 = .ok (.if_icmp .ne 14, 3) := by decide +kernel
theorem dX7_set_81 : decode cX7_set 81 = .ok (.aload_n 0, 1) := by decide +kernel
theorem dX7_set_82 : decode cX7_set 82 = .ok (.getfield 10, 3) := by decide +kernel
theorem dX7_set_85 : decode cX7_set 85 = .ok (.iload_n 3, 1) := by decide +kernel
theorem dX7_set_86 : decode cX7_set 86 = .ok (.putfield 103, 3) := by decide +kernel
theorem dX7_set_89 : decode cX7_set 89 = .ok (.goto 17, 3) := by decide +kernel
theorem dX7_set_92 : decode cX7_set 92 = .ok (.aload_n 0, 1) := by decide +kernel
theorem dX7_set_93 : decode cX7_set 93 = .ok (.getfield 10, 3) := by decide +kernel
theorem dX7_set_96 : decode cX7_set 96 = .ok (.getfield 106, 3) := by decide +kernel
theorem dX7_set_99 : decode cX7_set 99 = .ok (.iload_n 2, 1) := by decide +kernel
theorem dX7_set_100 : decode cX7_set 100 = .ok (.aaload, 1) := by decide +kernel
theorem dX7_set_101 : decode cX7_set 101 = .ok (.iload_n 1, 1) := by decide +kernel
theorem dX7_set_102 : decode cX7_set 102 = .ok (.iload_n 3, 1) := by decide +kernel
theorem dX7_set_103 : decode cX7_set 103 = .ok (.invokevirtual 110, 3) := by decide +kernel
theorem dX7_set_106 : decode cX7_set 106 = .ok (.iload 4, 2) := by decide +kernel
theorem dX7_set_108 : decode cX7_set 108 = .ok (.ireturn, 1) := by decide +kernel
set_option maxHeartbeats 4000000 in
set_option maxRecDepth 100000 in
theorem bb_X7_set_31 {p : Program} {l : Launch} {e : Env} {s : State} {m : MethodId} {args : Array Value} {below : List Frame} {meth : Method} {c : Code} {D : va_G} {cy : Nat → ClassId} {nt : Nat} {ad : Nat → Nat} {A : Nat → Prop} {X : Nat → Nat} {Q : Int32 → Sg → Prop} (K : Kx p s m args meth c cX7_set 5 RX7 D cy) (KX : XC X A s s.heap) (hr : meth.sig.returnType = (some .int))  (x1 : Int32) (x2 : Int32) (x3 : Int32)  (g0 : Sg) (H : Heap) (locs : List Loc) (ls : Array Slot) (hd : vv_X7_set_J31 nt x1 x2 x3 g0 Q) (hw : Wd D A s.heap (wsC cy nt ad g0) H locs) (hl : lv_has ls 5 [(0, .ref (ad 0)), (1, .int x1), (2, .int x2), (3, .int x3)]) : W p l e (rmD 7) s m args below meth c H locs 0 0 (MQ below (va_Qi Q (PostG (wsC cy nt ad) D A) A) args s 0 0 A) (F0 m 31 ls []) := by
  unfold vv_X7_set_J31 at hd
  refine lv_iload_n K.1 K.2.1 dX7_set_31 rfl (lv_at hl 3 rfl) ?_
  refine rc_gets KX.1 K hw ks_X7_89 dX7_set_32 ?_
  refine lv_iload_n K.1 K.2.1 dX7_set_35 rfl (lv_at hl 1 rfl) ?_
  have hb := hd.1
  have hd := hd.2
  refine rc_ti (f := tL) KX.2.2.2.1 K hw hb dX7_set_36 ?_
  refine lv_icmp_lt (tgt := 49) K.1 K.2.1 dX7_set_37 (by decide) (fun h_4 => ?_) (fun h_4 => ?_)
  · have hd := hd.1 h_4
    refine lv_sipush (v := (-1000 : Int32)) K.1 K.2.1 dX7_set_49 (by decide) ?_
    exact rk_iret K hw hr hd dX7_set_52
  · have hd := hd.2 h_4
    refine lv_iload_n K.1 K.2.1 dX7_set_40 rfl (lv_at hl 3 rfl) ?_
    refine rc_gets KX.2.1 K hw ks_X7_93 dX7_set_41 ?_
    refine lv_iload_n K.1 K.2.1 dX7_set_44 rfl (lv_at hl 1 rfl) ?_
    have hb := hd.1
    have hd := hd.2
    refine rc_ti (f := tG) KX.2.2.2.2.1 K hw hb dX7_set_45 ?_
    refine lv_icmp_le (tgt := 53) K.1 K.2.1 dX7_set_46 (by decide) (fun h_5 => ?_) (fun h_5 => ?_)
    · have hd := hd.1 h_5
      refine lv_aload_n K.1 K.2.1 dX7_set_53 rfl (lv_at hl 0 rfl) ?_
      refine lv_iload_n K.1 K.2.1 dX7_set_54 rfl (lv_at hl 2 rfl) ?_
      refine lv_iload_n K.1 K.2.1 dX7_set_55 rfl (lv_at hl 1 rfl) ?_
      refine rkc_vi (As := [.int x2, .int x1]) (rest := []) K KX hw (cc_X7_told l D cy nt ad A X g0 _ x2 x1 hd) lk_X7_96 (ci := 7) rfl (wc_O cy nt ad _) ⟨Nat.le_of_ble_eq_true rfl, Nat.le_of_ble_eq_true rfl⟩ ⟨Nat.zero_le _, Nat.zero_le _⟩ rfl hl.1 (Nat.le_of_ble_eq_true rfl) rfl dX7_set_56 (fun r_7 g_6 H locs hd hw => ?_)
      refine lv_topi (fun x4_8 ex4_8 => ?_)
      have hd := hd x4_8 ex4_8
      refine lv_istore (lv' := [(4, .int x4_8), (0, .ref (ad 0)), (1, .int x1), (2, .int x2), (3, .int x3)]) K.1 K.2.1 dX7_set_59 hl (by decide) rfl (fun ls hl => ?_)
      refine lv_iload_n K.1 K.2.1 dX7_set_61 rfl (lv_at hl 2 rfl) ?_
      refine lv_if_ne (tgt := 76) K.1 K.2.1 dX7_set_62 (by decide) (fun h_9 => ?_) (fun h_9 => ?_)
      · have hd := hd.1 h_9
        refine lv_iload_n K.1 K.2.1 dX7_set_76 rfl (lv_at hl 2 rfl) ?_
        refine lv_iconst (v := (1 : Int32)) K.1 K.2.1 dX7_set_77 (by decide) ?_
        refine lv_icmp_ne (tgt := 92) K.1 K.2.1 dX7_set_78 (by decide) (fun h_10 => ?_) (fun h_10 => ?_)
        · have hd := hd.1 h_10
          refine lv_aload_n K.1 K.2.1 dX7_set_92 rfl (lv_at hl 1 rfl) ?_
          refine rc_get layX7 (ci := 7) rfl 0 (by decide) (v := .ref (ad 1)) K hw (wc_O cy nt ad _) kf_X7_10 rfl dX7_set_93 ?_
          refine rc_get layX0 (ci := 0) rfl 4 (by decide) (v := .ref (ad 4)) K hw (wc_B cy nt ad _ ⟨by decide, by decide⟩) kf_X7_106 rfl dX7_set_96 ?_
          refine lv_iload_n K.1 K.2.1 dX7_set_99 rfl (lv_at hl 3 rfl) ?_
          have hb_11 := hd.1
          have hd := hd.2
          refine rc_aald (t0 := 2) (b := ad (pp 4 x2)) K hw (wc_R cy nt ad _ ⟨by decide, by decide⟩) rfl rfl hb_11 dX7_set_100 ?_
          refine lv_iload_n K.1 K.2.1 dX7_set_101 rfl (lv_at hl 2 rfl) ?_
          refine lv_iload_n K.1 K.2.1 dX7_set_102 rfl (lv_at hl 4 rfl) ?_
          refine rkc_vv (As := [.int x1, .int x3]) (rest := []) K KX hw (cc_X1_put l D cy nt ad A X g_6 _ (pp 4 x2) x1 x3 hd) lk_X7_110 (ci := 1) rfl (wc_P cy nt ad _ (tR_P ⟨by decide, by decide⟩ hb_11)) ⟨Nat.le_of_ble_eq_true rfl, Nat.le_of_ble_eq_true rfl⟩ ⟨Nat.zero_le _, Nat.zero_le _⟩ rfl hl.1 (Nat.le_of_ble_eq_true rfl) rfl dX7_set_103 (fun g_12 H locs hd hw => ?_)
          refine lv_iload K.1 K.2.1 dX7_set_106 (lv_at hl 0 rfl) ?_
          exact rk_iret K hw hr hd dX7_set_108
        · have hd := hd.2 h_10
          refine lv_aload_n K.1 K.2.1 dX7_set_81 rfl (lv_at hl 1 rfl) ?_
          refine rc_get layX7 (ci := 7) rfl 0 (by decide) (v := .ref (ad 1)) K hw (wc_O cy nt ad _) kf_X7_10 rfl dX7_set_82 ?_
          refine lv_iload_n K.1 K.2.1 dX7_set_85 rfl (lv_at hl 4 rfl) ?_
          refine rc_put layX0 (ci := 0) rfl tyX0_ok nmX0 3 (by decide) K hw (wc_B cy nt ad _ ⟨by decide, by decide⟩) kf_X7_103 rfl rfl rfl rfl (Nat.le_of_ble_eq_true rfl) (wp_B_3 cy nt ad _ _ ⟨by decide, by decide⟩) dX7_set_86 (fun g_14 eg_14 H locs hw => ?_)
          have hd := hd g_14 eg_14
          refine lv_goto (tgt := 106) K.1 K.2.1 dX7_set_89 (by decide) ?_
          refine lv_iload K.1 K.2.1 dX7_set_106 (lv_at hl 0 rfl) ?_
          exact rk_iret K hw hr hd dX7_set_108
      · have hd := hd.2 h_9
        refine lv_aload_n K.1 K.2.1 dX7_set_65 rfl (lv_at hl 1 rfl) ?_
        refine rc_get layX7 (ci := 7) rfl 0 (by decide) (v := .ref (ad 1)) K hw (wc_O cy nt ad _) kf_X7_10 rfl dX7_set_66 ?_
        refine lv_iload_n K.1 K.2.1 dX7_set_69 rfl (lv_at hl 4 rfl) ?_
        refine rc_put layX0 (ci := 0) rfl tyX0_ok nmX0 0 (by decide) K hw (wc_B cy nt ad _ ⟨by decide, by decide⟩) kf_X7_100 rfl rfl rfl rfl (Nat.le_of_ble_eq_true rfl) (wp_B_0 cy nt ad _ _ ⟨by decide, by decide⟩) dX7_set_70 (fun g_15 eg_15 H locs hw => ?_)
        have hd := hd g_15 eg_15
        refine lv_goto (tgt := 106) K.1 K.2.1 dX7_set_73 (by decide) ?_
        refine lv_iload K.1 K.2.1 dX7_set_106 (lv_at hl 0 rfl) ?_
        exact rk_iret K hw hr hd dX7_set_108
    · have hd := hd.2 h_5
      refine lv_sipush (v := (-1000 : Int32)) K.1 K.2.1 dX7_set_49 (by decide) ?_
      exact rk_iret K hw hr hd dX7_set_52
set_option maxHeartbeats 4000000 in
set_option maxRecDepth 100000 in
theorem cc_X7_set (l : Launch) (D : va_G) (cy : Nat → ClassId) (nt : Nat) (ad : Nat → Nat) (A : Nat → Prop) (X : Nat → Nat)  (g0 : Sg) (Q : Int32 → Sg → Prop) (x1 : Int32) (x2 : Int32) (x3 : Int32) (hd : vv_X7_set nt x1 x2 x3 g0 Q) : Met l yX7_set (Cond.code yX7_set cX7_set 5 (some .int) :: TT) (rmD 7) (va_Pc [.ref (ad 0), .int x1, .int x2, .int x3] (PreC (wsC cy nt ad) D cy A X g0)) (va_Qi Q (PostG (wsC cy nt ad) D A) A) 0 0 A := by
  unfold vv_X7_set at hd
  refine Met.ofW (cc := cX7_set) (maxL := 5) (ret := (some .int)) (by decide) rfl ?_
  intro p e s m args below meth c s₁ B hml hv
  obtain ⟨rfl, ⟨hP, hK0, hD⟩, KX⟩ := hv
  have K : Kx p s m _ meth c cX7_set 5 RX7 D cy := ⟨B.exec, B.bytes, hml, findClass_of_methodNamed B.named, fun w h => atoms_spec (ws := Cond.code yX7_set cX7_set 5 (some .int) :: TT) B.pre w (List.mem_cons_of_mem _ h), hK0, B.notSynchronized⟩
  have hw : Wd D A s.heap (wsC cy nt ad g0) s.heap [] := ⟨hP, hD, va_S.rf⟩
  have hr := B.returns
  have hl := lv_entry ([.ref (ad 0), .int x1, .int x2, .int x3]) (n := 5) (Nat.le_of_ble_eq_true rfl)
  rw [lg_entry_eq]
  generalize (lg_sl ([.ref (ad 0), .int x1, .int x2, .int x3]) ++ List.replicate (5 - (lg_sl ([.ref (ad 0), .int x1, .int x2, .int x3])).length) Slot.unset).toArray = ls at hl ⊢
  have hl : lv_has ls 5 [(0, .ref (ad 0)), (1, .int x1), (2, .int x2), (3, .int x3)] := hl
  refine lv_iload_n K.1 K.2.1 dX7_set_0 rfl (lv_at hl 1 rfl) ?_
  refine lv_if_lt (tgt := 10) K.1 K.2.1 dX7_set_1 (by decide) (fun h_1 => ?_) (fun h_1 => ?_)
  · have hd := hd.1 h_1
    refine lv_sipush (v := (-1000 : Int32)) K.1 K.2.1 dX7_set_10 (by decide) ?_
    exact rk_iret K hw hr hd dX7_set_13
  · have hd := hd.2 h_1
    refine lv_iload_n K.1 K.2.1 dX7_set_4 rfl (lv_at hl 1 rfl) ?_
    refine lv_bipush (v := (6 : Int32)) K.1 K.2.1 dX7_set_5 (by decide) ?_
    refine lv_icmp_le (tgt := 14) K.1 K.2.1 dX7_set_7 (by decide) (fun h_2 => ?_) (fun h_2 => ?_)
    · have hd := hd.1 h_2
      refine lv_iload_n K.1 K.2.1 dX7_set_14 rfl (lv_at hl 1 rfl) ?_
      refine lv_iconst (v := (2 : Int32)) K.1 K.2.1 dX7_set_15 (by decide) ?_
      refine lv_icmp_lt (tgt := 31) K.1 K.2.1 dX7_set_16 (by decide) (fun h_3 => ?_) (fun h_3 => ?_)
      · have hd := hd.1 h_3
        exact bb_X7_set_31 K KX hr   x1 x2 x3 g0 _ _ _  hd hw (lv_sub hl [0, 1, 2, 3] rfl)
      · have hd := hd.2 h_3
        refine lv_aload_n K.1 K.2.1 dX7_set_19 rfl (lv_at hl 0 rfl) ?_
        refine lv_iload_n K.1 K.2.1 dX7_set_20 rfl (lv_at hl 2 rfl) ?_
        refine rkc_vi (As := [.int x2]) (rest := []) K KX hw (cc_X7_isPaper l D cy nt ad A X g0 _ x2 hd) lk_X7_85 (ci := 7) rfl (wc_O cy nt ad _) ⟨Nat.le_of_ble_eq_true rfl, Nat.le_of_ble_eq_true rfl⟩ ⟨Nat.zero_le _, Nat.zero_le _⟩ rfl hl.1 (Nat.le_of_ble_eq_true rfl) rfl dX7_set_21 (fun r_17 g_16 H locs hd hw => ?_)
        refine lv_if_ne (tgt := 31) K.1 K.2.1 dX7_set_24 (by decide) (fun h_18 => ?_) (fun h_18 => ?_)
        · have hd := hd.1 h_18
          exact bb_X7_set_31 K KX hr   x1 x2 x3 g_16 _ _ _  hd hw (lv_sub hl [0, 1, 2, 3] rfl)
        · have hd := hd.2 h_18
          refine lv_sipush (v := (-1000 : Int32)) K.1 K.2.1 dX7_set_27 (by decide) ?_
          exact rk_iret K hw hr hd dX7_set_30
    · have hd := hd.2 h_2
      refine lv_sipush (v := (-1000 : Int32)) K.1 K.2.1 dX7_set_10 (by decide) ?_
      exact rk_iret K hw hr hd dX7_set_13
theorem dX7_inRange_0 : decode cX7_inRange 0 = .ok (.iload_n 0, 1) := by decide +kernel
theorem dX7_inRange_1 : decode cX7_inRange 1 = .ok (.ifCond .lt 33, 3) := by decide +kernel
theorem dX7_inRange_4 : decode cX7_inRange 4 = .ok (.iload_n 0, 1) := by decide +kernel
theorem dX7_inRange_5 : decode cX7_inRange 5 = .ok (.getstatic 89, 3) := by decide +kernel
theorem dX7_inRange_8 : decode cX7_inRange 8 = .ok (.arraylength, 1) := by decide +kernel
theorem dX7_inRange_9 : decode cX7_inRange 9 = .ok (.if_icmp .ge 25, 3) := by decide +kernel
theorem dX7_inRange_12 : decode cX7_inRange 12 = .ok (.iload_n 1, 1) := by decide +kernel
theorem dX7_inRange_13 : decode cX7_inRange 13 = .ok (.getstatic 89, 3) := by decide +kernel
theorem dX7_inRange_16 : decode cX7_inRange 16 = .ok (.iload_n 0, 1) := by decide +kernel
theorem dX7_inRange_17 : decode cX7_inRange 17 = .ok (.iaload, 1) := by decide +kernel
theorem dX7_inRange_18 : decode cX7_inRange 18 = .ok (.if_icmp .lt 16, 3) := by decide +kernel
theorem dX7_inRange_21 : decode cX7_inRange 21 = .ok (.iload_n 1, 1) := by decide +kernel
theorem dX7_inRange_22 : decode cX7_inRange 22 = .ok (.getstatic 93, 3) := by decide +kernel
theorem dX7_inRange_25 : decode cX7_inRange 25 = .ok (.iload_n 0, 1) := by decide +kernel
theorem dX7_inRange_26 : decode cX7_inRange 26 = .ok (.iaload, 1) := by decide +kernel
theorem dX7_inRange_27 : decode cX7_inRange 27 = .ok (.if_icmp .gt 7, 3) := by decide +kernel
theorem dX7_inRange_30 : decode cX7_inRange 30 = .ok (.iconst 1, 1) := by decide +kernel
theorem dX7_inRange_31 : decode cX7_inRange 31 = .ok (.goto 4, 3) := by decide +kernel
theorem dX7_inRange_34 : decode cX7_inRange 34 = .ok (.iconst 0, 1) := by decide +kernel
theorem dX7_inRange_35 : decode cX7_inRange 35 = .ok (.ireturn, 1) := by decide +kernel
set_option maxHeartbeats 4000000 in
set_option maxRecDepth 100000 in
theorem cc_X7_inRange (l : Launch) (D : va_G) (cy : Nat → ClassId) (nt : Nat) (ad : Nat → Nat) (A : Nat → Prop) (X : Nat → Nat)  (g0 : Sg) (Q : Int32 → Sg → Prop) (x0 : Int32) (x1 : Int32) (hd : vv_X7_inRange nt x0 x1 g0 Q) : Met l yX7_inRange (Cond.code yX7_inRange cX7_inRange 2 (some .boolean) :: TT) (rmD 1) (va_Pc [.int x0, .int x1] (PreC (wsC cy nt ad) D cy A X g0)) (va_Qi Q (PostG (wsC cy nt ad) D A) A) 0 0 A := by
  unfold vv_X7_inRange at hd
  refine Met.ofW (cc := cX7_inRange) (maxL := 2) (ret := (some .boolean)) (by decide) rfl ?_
  intro p e s m args below meth c s₁ B hml hv
  obtain ⟨rfl, ⟨hP, hK0, hD⟩, KX⟩ := hv
  have K : Kx p s m _ meth c cX7_inRange 2 RX7 D cy := ⟨B.exec, B.bytes, hml, findClass_of_methodNamed B.named, fun w h => atoms_spec (ws := Cond.code yX7_inRange cX7_inRange 2 (some .boolean) :: TT) B.pre w (List.mem_cons_of_mem _ h), hK0, B.notSynchronized⟩
  have hw : Wd D A s.heap (wsC cy nt ad g0) s.heap [] := ⟨hP, hD, va_S.rf⟩
  have hr := B.returns
  have hl := lv_entry ([.int x0, .int x1]) (n := 2) (Nat.le_of_ble_eq_true rfl)
  rw [lg_entry_eq]
  generalize (lg_sl ([.int x0, .int x1]) ++ List.replicate (2 - (lg_sl ([.int x0, .int x1])).length) Slot.unset).toArray = ls at hl ⊢
  have hl : lv_has ls 2 [(0, .int x0), (1, .int x1)] := hl
  refine lv_iload_n K.1 K.2.1 dX7_inRange_0 rfl (lv_at hl 0 rfl) ?_
  refine lv_if_lt (tgt := 34) K.1 K.2.1 dX7_inRange_1 (by decide) (fun h_1 => ?_) (fun h_1 => ?_)
  · have hd := hd.1 h_1
    refine lv_iconst (v := (0 : Int32)) K.1 K.2.1 dX7_inRange_34 (by decide) ?_
    exact rk_zret K hw hr (by decide) hd dX7_inRange_35
  · have hd := hd.2 h_1
    refine lv_iload_n K.1 K.2.1 dX7_inRange_4 rfl (lv_at hl 0 rfl) ?_
    refine rc_gets KX.1 K hw ks_X7_89 dX7_inRange_5 ?_
    refine rc_tlen (v := (8 : Int32)) KX.2.2.2.1 K hw rfl dX7_inRange_8 ?_
    refine lv_icmp_ge (tgt := 34) K.1 K.2.1 dX7_inRange_9 (by decide) (fun h_2 => ?_) (fun h_2 => ?_)
    · have hd := hd.1 h_2
      refine lv_iconst (v := (0 : Int32)) K.1 K.2.1 dX7_inRange_34 (by decide) ?_
      exact rk_zret K hw hr (by decide) hd dX7_inRange_35
    · have hd := hd.2 h_2
      refine lv_iload_n K.1 K.2.1 dX7_inRange_12 rfl (lv_at hl 1 rfl) ?_
      refine rc_gets KX.1 K hw ks_X7_89 dX7_inRange_13 ?_
      refine lv_iload_n K.1 K.2.1 dX7_inRange_16 rfl (lv_at hl 0 rfl) ?_
      have hb := hd.1
      have hd := hd.2
      refine rc_ti (f := tL) KX.2.2.2.1 K hw hb dX7_inRange_17 ?_
      refine lv_icmp_lt (tgt := 34) K.1 K.2.1 dX7_inRange_18 (by decide) (fun h_3 => ?_) (fun h_3 => ?_)
      · have hd := hd.1 h_3
        refine lv_iconst (v := (0 : Int32)) K.1 K.2.1 dX7_inRange_34 (by decide) ?_
        exact rk_zret K hw hr (by decide) hd dX7_inRange_35
      · have hd := hd.2 h_3
        refine lv_iload_n K.1 K.2.1 dX7_inRange_21 rfl (lv_at hl 1 rfl) ?_
        refine rc_gets KX.2.1 K hw ks_X7_93 dX7_inRange_22 ?_
        refine lv_iload_n K.1 K.2.1 dX7_inRange_25 rfl (lv_at hl 0 rfl) ?_
        have hb := hd.1
        have hd := hd.2
        refine rc_ti (f := tG) KX.2.2.2.2.1 K hw hb dX7_inRange_26 ?_
        refine lv_icmp_gt (tgt := 34) K.1 K.2.1 dX7_inRange_27 (by decide) (fun h_4 => ?_) (fun h_4 => ?_)
        · have hd := hd.1 h_4
          refine lv_iconst (v := (0 : Int32)) K.1 K.2.1 dX7_inRange_34 (by decide) ?_
          exact rk_zret K hw hr (by decide) hd dX7_inRange_35
        · have hd := hd.2 h_4
          refine lv_iconst (v := (1 : Int32)) K.1 K.2.1 dX7_inRange_30 (by decide) ?_
          refine lv_goto (tgt := 35) K.1 K.2.1 dX7_inRange_31 (by decide) ?_
          exact rk_zret K hw hr (by decide) hd dX7_inRange_35
theorem dX7_paper_0 : decode cX7_paper 0 = .ok (.bipush 7, 2) := by decide +kernel
theorem dX7_paper_2 : decode cX7_paper 2 = .ok (.iload_n 1, 1) := by decide +kernel
theorem dX7_paper_3 : decode cX7_paper 3 = .ok (.invokestatic 113, 3) := by decide +kernel
theorem dX7_paper_6 : decode cX7_paper 6 = .ok (.ifCond .eq 19, 3) := by decide +kernel
theorem dX7_paper_9 : decode cX7_paper 9 = .ok (.iconst 2, 1) := by decide +kernel
theorem dX7_paper_10 : decode cX7_paper 10 = .ok (.iload_n 2, 1) := by decide +kernel
theorem dX7_paper_11 : decode cX7_paper 11 = .ok (.invokestatic 113, 3) := by decide +kernel
theorem dX7_paper_14 : decode cX7_paper 14 = .ok (.ifCond .eq 11, 3) := by decide +kernel
theorem dX7_paper_17 : decode cX7_paper 17 = .ok (.iconst 3, 1) := by decide +kernel
theorem dX7_paper_18 : decode cX7_paper 18 = .ok (.iload_n 3, 1) := by decide +kernel
theorem dX7_paper_19 : decode cX7_paper 19 = .ok (.invokestatic 113, 3) := by decide +kernel
theorem dX7_paper_22 : decode cX7_paper 22 = .ok (.ifCond .ne 6, 3) := by decide +kernel
theorem dX7_paper_25 : decode cX7_paper 25 = .ok (.bipush (-2), 2) := by decide +kernel
theorem dX7_paper_27 : decode cX7_paper 27 = .ok (.ireturn, 1) := by decide +kernel
theorem dX7_paper_28 : decode cX7_paper 28 = .ok (.aload_n 0, 1) := by decide +kernel
theorem dX7_paper_29 : decode cX7_paper 29 = .ok (.getfield 10, 3) := by decide +kernel
theorem dX7_paper_32 : decode cX7_paper 32 = .ok (.getfield 117, 3) := by decide +kernel
theorem dX7_paper_35 : decode cX7_paper 35 = .ok (.bipush 8, 2) := by decide +kernel
theorem dX7_paper_37 : decode cX7_paper 37 = .ok (.if_icmp .lt 6, 3) := by decide +kernel
theorem dX7_paper_40 : decode cX7_paper 40 = .ok (.bipush (-4), 2) := by decide +kernel
theorem dX7_paper_42 : decode cX7_paper 42 = .ok (.ireturn, 1) := by decide +kernel
theorem dX7_paper_43 : decode cX7_paper 43 = .ok (.aload_n 0, 1) := by decide +kernel
theorem dX7_paper_44 : decode cX7_paper 44 = .ok (.getfield 10, 3) := by decide +kernel
theorem dX7_paper_47 : decode cX7_paper 47 = .ok (.getfield 106, 3) := by decide +kernel
theorem dX7_paper_50 : decode cX7_paper 50 = .ok (.aload_n 0, 1) := by decide +kernel
theorem dX7_paper_51 : decode cX7_paper 51 = .ok (.getfield 10, 3) := by decide +kernel
theorem dX7_paper_54 : decode cX7_paper 54 = .ok (.getfield 117, 3) := by decide +kernel
theorem dX7_paper_57 : decode cX7_paper 57 = .ok (.aaload, 1) := by decide +kernel
theorem dX7_paper_58 : decode cX7_paper 58 = .ok (.iload_n 1, 1) := by decide +kernel
theorem dX7_paper_59 : decode cX7_paper 59 = .ok (.iload_n 2, 1) := by decide +kernel
theorem dX7_paper_60 : decode cX7_paper 60 = .ok (.iload_n 3, 1) := by decide +kernel
theorem dX7_paper_61 : decode cX7_paper 61 = .ok (.invokevirtual 118, 3) := by decide +kernel
theorem dX7_paper_64 : decode cX7_paper 64 = .ok (.aload_n 0, 1) := by decide +kernel
theorem dX7_paper_65 : decode cX7_paper 65 = .ok (.getfield 10, 3) := by decide +kernel
theorem dX7_paper_68 : decode cX7_paper 68 = .ok (.dup, 1) := by decide +kernel
theorem dX7_paper_69 : decode cX7_paper 69 = .ok (.getfield 117, 3) := by decide +kernel
theorem dX7_paper_72 : decode cX7_paper 72 = .ok (.iconst 1, 1) := by decide +kernel
theorem dX7_paper_73 : decode cX7_paper 73 = .ok (.iadd, 1) := by decide +kernel
theorem dX7_paper_74 : decode cX7_paper 74 = .ok (.putfield 117, 3) := by decide +kernel
theorem dX7_paper_77 : decode cX7_paper 77 = .ok (.aload_n 0, 1) := by decide +kernel
theorem dX7_paper_78 : decode cX7_paper 78 = .ok (.getfield 10, 3) := by decide +kernel
theorem dX7_paper_81 : decode cX7_paper 81 = .ok (.getfield 117, 3) := by decide +kernel
theorem dX7_paper_84 : decode cX7_paper 84 = .ok (.iconst 1, 1) := by decide +kernel
theorem dX7_paper_85 : decode cX7_paper 85 = .ok (.isub, 1) := by decide +kernel
theorem dX7_paper_86 : decode cX7_paper 86 = .ok (.ireturn, 1) := by decide +kernel
set_option maxHeartbeats 4000000 in
set_option maxRecDepth 100000 in
theorem cc_X7_paper (l : Launch) (D : va_G) (cy : Nat → ClassId) (nt : Nat) (ad : Nat → Nat) (A : Nat → Prop) (X : Nat → Nat)  (g0 : Sg) (Q : Int32 → Sg → Prop) (x1 : Int32) (x2 : Int32) (x3 : Int32) (hd : vv_X7_paper nt x1 x2 x3 g0 Q) : Met l yX7_paper (Cond.code yX7_paper cX7_paper 4 (some .int) :: TT) (rmD 2) (va_Pc [.ref (ad 0), .int x1, .int x2, .int x3] (PreC (wsC cy nt ad) D cy A X g0)) (va_Qi Q (PostG (wsC cy nt ad) D A) A) 0 0 A := by
  unfold vv_X7_paper at hd
  refine Met.ofW (cc := cX7_paper) (maxL := 4) (ret := (some .int)) (by decide) rfl ?_
  intro p e s m args below meth c s₁ B hml hv
  obtain ⟨rfl, ⟨hP, hK0, hD⟩, KX⟩ := hv
  have K : Kx p s m _ meth c cX7_paper 4 RX7 D cy := ⟨B.exec, B.bytes, hml, findClass_of_methodNamed B.named, fun w h => atoms_spec (ws := Cond.code yX7_paper cX7_paper 4 (some .int) :: TT) B.pre w (List.mem_cons_of_mem _ h), hK0, B.notSynchronized⟩
  have hw : Wd D A s.heap (wsC cy nt ad g0) s.heap [] := ⟨hP, hD, va_S.rf⟩
  have hr := B.returns
  have hl := lv_entry ([.ref (ad 0), .int x1, .int x2, .int x3]) (n := 4) (Nat.le_of_ble_eq_true rfl)
  rw [lg_entry_eq]
  generalize (lg_sl ([.ref (ad 0), .int x1, .int x2, .int x3]) ++ List.replicate (4 - (lg_sl ([.ref (ad 0), .int x1, .int x2, .int x3])).length) Slot.unset).toArray = ls at hl ⊢
  have hl : lv_has ls 4 [(0, .ref (ad 0)), (1, .int x1), (2, .int x2), (3, .int x3)] := hl
  refine lv_bipush (v := (7 : Int32)) K.1 K.2.1 dX7_paper_0 (by decide) ?_
  refine lv_iload_n K.1 K.2.1 dX7_paper_2 rfl (lv_at hl 1 rfl) ?_
  refine rkc_si (As := [.int (7 : Int32), .int x1]) (rest := []) K KX hw (cc_X7_inRange l D cy nt ad A X g0 _ (7 : Int32) x1 hd) lk_X7_113 ⟨Nat.le_of_ble_eq_true rfl, Nat.le_of_ble_eq_true rfl⟩ ⟨Nat.zero_le _, Nat.zero_le _⟩ rfl hl.1 (Nat.le_of_ble_eq_true rfl) rfl dX7_paper_3 (fun r_2 g_1 H locs hd hw => ?_)
  refine lv_if_eq (tgt := 25) K.1 K.2.1 dX7_paper_6 (by decide) (fun h_3 => ?_) (fun h_3 => ?_)
  · have hd := hd.1 h_3
    refine lv_bipush (v := (-2 : Int32)) K.1 K.2.1 dX7_paper_25 (by decide) ?_
    exact rk_iret K hw hr hd dX7_paper_27
  · have hd := hd.2 h_3
    refine lv_iconst (v := (2 : Int32)) K.1 K.2.1 dX7_paper_9 (by decide) ?_
    refine lv_iload_n K.1 K.2.1 dX7_paper_10 rfl (lv_at hl 2 rfl) ?_
    refine rkc_si (As := [.int (2 : Int32), .int x2]) (rest := []) K KX hw (cc_X7_inRange l D cy nt ad A X g_1 _ (2 : Int32) x2 hd) lk_X7_113 ⟨Nat.le_of_ble_eq_true rfl, Nat.le_of_ble_eq_true rfl⟩ ⟨Nat.zero_le _, Nat.zero_le _⟩ rfl hl.1 (Nat.le_of_ble_eq_true rfl) rfl dX7_paper_11 (fun r_5 g_4 H locs hd hw => ?_)
    refine lv_if_eq (tgt := 25) K.1 K.2.1 dX7_paper_14 (by decide) (fun h_6 => ?_) (fun h_6 => ?_)
    · have hd := hd.1 h_6
      refine lv_bipush (v := (-2 : Int32)) K.1 K.2.1 dX7_paper_25 (by decide) ?_
      exact rk_iret K hw hr hd dX7_paper_27
    · have hd := hd.2 h_6
      refine lv_iconst (v := (3 : Int32)) K.1 K.2.1 dX7_paper_17 (by decide) ?_
      refine lv_iload_n K.1 K.2.1 dX7_paper_18 rfl (lv_at hl 3 rfl) ?_
      refine rkc_si (As := [.int (3 : Int32), .int x3]) (rest := []) K KX hw (cc_X7_inRange l D cy nt ad A X g_4 _ (3 : Int32) x3 hd) lk_X7_113 ⟨Nat.le_of_ble_eq_true rfl, Nat.le_of_ble_eq_true rfl⟩ ⟨Nat.zero_le _, Nat.zero_le _⟩ rfl hl.1 (Nat.le_of_ble_eq_true rfl) rfl dX7_paper_19 (fun r_8 g_7 H locs hd hw => ?_)
      refine lv_if_ne (tgt := 28) K.1 K.2.1 dX7_paper_22 (by decide) (fun h_9 => ?_) (fun h_9 => ?_)
      · have hd := hd.1 h_9
        refine lv_aload_n K.1 K.2.1 dX7_paper_28 rfl (lv_at hl 0 rfl) ?_
        refine rc_get layX7 (ci := 7) rfl 0 (by decide) (v := .ref (ad 1)) K hw (wc_O cy nt ad _) kf_X7_10 rfl dX7_paper_29 ?_
        refine rc_get layX0 (ci := 0) rfl 2 (by decide) (v := .int (g_7 1 2)) K hw (wc_B cy nt ad _ ⟨by decide, by decide⟩) kf_X7_117 rfl dX7_paper_32 ?_
        refine lv_bipush (v := (8 : Int32)) K.1 K.2.1 dX7_paper_35 (by decide) ?_
        refine lv_icmp_lt (tgt := 43) K.1 K.2.1 dX7_paper_37 (by decide) (fun h_10 => ?_) (fun h_10 => ?_)
        · have hd := hd.1 h_10
          refine lv_aload_n K.1 K.2.1 dX7_paper_43 rfl (lv_at hl 0 rfl) ?_
          refine rc_get layX7 (ci := 7) rfl 0 (by decide) (v := .ref (ad 1)) K hw (wc_O cy nt ad _) kf_X7_10 rfl dX7_paper_44 ?_
          refine rc_get layX0 (ci := 0) rfl 4 (by decide) (v := .ref (ad 4)) K hw (wc_B cy nt ad _ ⟨by decide, by decide⟩) kf_X7_106 rfl dX7_paper_47 ?_
          refine lv_aload_n K.1 K.2.1 dX7_paper_50 rfl (lv_at hl 0 rfl) ?_
          refine rc_get layX7 (ci := 7) rfl 0 (by decide) (v := .ref (ad 1)) K hw (wc_O cy nt ad _) kf_X7_10 rfl dX7_paper_51 ?_
          refine rc_get layX0 (ci := 0) rfl 2 (by decide) (v := .int (g_7 1 2)) K hw (wc_B cy nt ad _ ⟨by decide, by decide⟩) kf_X7_117 rfl dX7_paper_54 ?_
          have hb_11 := hd.1
          have hd := hd.2
          refine rc_aald (t0 := 2) (b := ad (pp 4 (g_7 1 2))) K hw (wc_R cy nt ad _ ⟨by decide, by decide⟩) rfl rfl hb_11 dX7_paper_57 ?_
          refine lv_iload_n K.1 K.2.1 dX7_paper_58 rfl (lv_at hl 1 rfl) ?_
          refine lv_iload_n K.1 K.2.1 dX7_paper_59 rfl (lv_at hl 2 rfl) ?_
          refine lv_iload_n K.1 K.2.1 dX7_paper_60 rfl (lv_at hl 3 rfl) ?_
          refine rkc_vv (As := [.int x1, .int x2, .int x3]) (rest := []) K KX hw (cc_X1_begin l D cy nt ad A X g_7 _ (pp 4 (g_7 1 2)) x1 x2 x3 hd) lk_X7_118 (ci := 1) rfl (wc_P cy nt ad _ (tR_P ⟨by decide, by decide⟩ hb_11)) ⟨Nat.le_of_ble_eq_true rfl, Nat.le_of_ble_eq_true rfl⟩ ⟨Nat.zero_le _, Nat.zero_le _⟩ rfl hl.1 (Nat.le_of_ble_eq_true rfl) rfl dX7_paper_61 (fun g_12 H locs hd hw => ?_)
          refine lv_aload_n K.1 K.2.1 dX7_paper_64 rfl (lv_at hl 0 rfl) ?_
          refine rc_get layX7 (ci := 7) rfl 0 (by decide) (v := .ref (ad 1)) K hw (wc_O cy nt ad _) kf_X7_10 rfl dX7_paper_65 ?_
          refine lv_dup K.1 K.2.1 dX7_paper_68 rfl ?_
          refine rc_get layX0 (ci := 0) rfl 2 (by decide) (v := .int (g_12 1 2)) K hw (wc_B cy nt ad _ ⟨by decide, by decide⟩) kf_X7_117 rfl dX7_paper_69 ?_
          refine lv_iconst (v := (1 : Int32)) K.1 K.2.1 dX7_paper_72 (by decide) ?_
          refine lv_iadd K.1 K.2.1 dX7_paper_73 ?_
          refine rc_put layX0 (ci := 0) rfl tyX0_ok nmX0 2 (by decide) K hw (wc_B cy nt ad _ ⟨by decide, by decide⟩) kf_X7_117 rfl rfl rfl rfl (Nat.le_of_ble_eq_true rfl) (wp_B_2 cy nt ad _ _ ⟨by decide, by decide⟩) dX7_paper_74 (fun g_14 eg_14 H locs hw => ?_)
          have hd := hd g_14 eg_14
          refine lv_aload_n K.1 K.2.1 dX7_paper_77 rfl (lv_at hl 0 rfl) ?_
          refine rc_get layX7 (ci := 7) rfl 0 (by decide) (v := .ref (ad 1)) K hw (wc_O cy nt ad _) kf_X7_10 rfl dX7_paper_78 ?_
          refine rc_get layX0 (ci := 0) rfl 2 (by decide) (v := .int (g_14 1 2)) K hw (wc_B cy nt ad _ ⟨by decide, by decide⟩) kf_X7_117 rfl dX7_paper_81 ?_
          refine lv_iconst (v := (1 : Int32)) K.1 K.2.1 dX7_paper_84 (by decide) ?_
          refine lv_isub K.1 K.2.1 dX7_paper_85 ?_
          exact rk_iret K hw hr hd dX7_paper_86
        · have hd := hd.2 h_10
          refine lv_bipush (v := (-4 : Int32)) K.1 K.2.1 dX7_paper_40 (by decide) ?_
          exact rk_iret K hw hr hd dX7_paper_42
      · have hd := hd.2 h_9
        refine lv_bipush (v := (-2 : Int32)) K.1 K.2.1 dX7_paper_25 (by decide) ?_
        exact rk_iret K hw hr hd dX7_paper_27
theorem dX7_burn_0 : decode cX7_burn 0 = .ok (.iconst 4, 1) := by decide +kernel
theorem dX7_burn_1 : decode cX7_burn 1 = .ok (.iload_n 1, 1) := by decide +kernel
theorem dX7_burn_2 : decode cX7_burn 2 = .ok (.invokestatic 113, 3) := by decide +kernel
theorem dX7_burn_5 : decode cX7_burn 5 = .ok (.ifCond .ne 6, 3) := by decide +kernel
theorem dX7_burn_8 : decode cX7_burn 8 = .ok (.bipush (-2), 2) := by decide +kernel
theorem dX7_burn_10 : decode cX7_burn 10 = .ok (.ireturn, 1) := by decide +kernel
theorem dX7_burn_11 : decode cX7_burn 11 = .ok (.iconst 0, 1) := by decide +kernel
theorem dX7_burn_12 : decode cX7_burn 12 = .ok (.istore_n 2, 1) := by decide +kernel
theorem dX7_burn_13 : decode cX7_burn 13 = .ok (.iconst 0, 1) := by decide +kernel
theorem dX7_burn_14 : decode cX7_burn 14 = .ok (.istore_n 3, 1) := by decide +kernel
theorem dX7_burn_15 : decode cX7_burn 15 = .ok (.iload_n 3, 1) := by decide +kernel
theorem dX7_burn_16 : decode cX7_burn 16 = .ok (.aload_n 0, 1) := by decide +kernel
theorem dX7_burn_17 : decode cX7_burn 17 = .ok (.getfield 10, 3) := by decide +kernel
theorem dX7_burn_20 : decode cX7_burn 20 = .ok (.getfield 117, 3) := by decide +kernel
theorem dX7_burn_23 : decode cX7_burn 23 = .ok (.if_icmp .ge 46, 3) := by decide +kernel
theorem dX7_burn_26 : decode cX7_burn 26 = .ok (.aload_n 0, 1) := by decide +kernel
theorem dX7_burn_27 : decode cX7_burn 27 = .ok (.getfield 10, 3) := by decide +kernel
theorem dX7_burn_30 : decode cX7_burn 30 = .ok (.getfield 106, 3) := by decide +kernel
theorem dX7_burn_33 : decode cX7_burn 33 = .ok (.iload_n 3, 1) := by decide +kernel
theorem dX7_burn_34 : decode cX7_burn 34 = .ok (.aaload, 1) := by decide +kernel
theorem dX7_burn_35 : decode cX7_burn 35 = .ok (.astore 4, 2) := by decide +kernel
theorem dX7_burn_37 : decode cX7_burn 37 = .ok (.aload 4, 2) := by decide +kernel
theorem dX7_burn_39 : decode cX7_burn 39 = .ok (.getfield 148, 3) := by decide +kernel
theorem dX7_burn_42 : decode cX7_burn 42 = .ok (.iload_n 1, 1) := by decide +kernel
theorem dX7_burn_43 : decode cX7_burn 43 = .ok (.if_icmp .ne 20, 3) := by decide +kernel
theorem dX7_burn_46 : decode cX7_burn 46 = .ok (.aload 4, 2) := by decide +kernel
theorem dX7_burn_48 : decode cX7_burn 48 = .ok (.getfield 151, 3) := by decide +kernel
theorem dX7_burn_51 : decode cX7_burn 51 = .ok (.ifCond .ne 12, 3) := by decide +kernel
theorem dX7_burn_54 : decode cX7_burn 54 = .ok (.aload 4, 2) := by decide +kernel
theorem dX7_burn_56 : decode cX7_burn 56 = .ok (.iconst 1, 1) := by decide +kernel
theorem dX7_burn_57 : decode cX7_burn 57 = .ok (.putfield 151, 3) := by decide +kernel
theorem dX7_burn_60 : decode cX7_burn 60 = .ok (.iinc 2 1, 3) := by decide +kernel
theorem dX7_burn_63 : decode cX7_burn 63 = .ok (.iinc 3 1, 3) := by decide +kernel
theorem dX7_burn_66 : decode cX7_burn 66 = .ok (.goto (-51), 3) := by decide +kernel
theorem dX7_burn_69 : decode cX7_burn 69 = .ok (.iload_n 2, 1) := by decide +kernel
theorem dX7_burn_70 : decode cX7_burn 70 = .ok (.ireturn, 1) := by decide +kernel
set_option maxHeartbeats 4000000 in
set_option maxRecDepth 100000 in
theorem bb_X7_burn_63 {p : Program} {l : Launch} {e : Env} {s : State} {m : MethodId} {args : Array Value} {below : List Frame} {meth : Method} {c : Code} {D : va_G} {cy : Nat → ClassId} {nt : Nat} {ad : Nat → Nat} {A : Nat → Prop} {X : Nat → Nat} {Q : Int32 → Sg → Prop} (K : Kx p s m args meth c cX7_burn 5 RX7 D cy) (KX : XC X A s s.heap) (hr : meth.sig.returnType = (some .int))  {rc15 : Int32 → Int32 → Int32 → Sg → Prop} (hrc15 : ∀ (x1 : Int32) (x2 : Int32) (x3 : Int32) (u : Sg) (H : Heap) (locs : List Loc) (ls : Array Slot), rc15 x1 x2 x3 u → Wd D A s.heap (wsC cy nt ad u) H locs → lv_has ls 5 [(0, .ref (ad 0)), (1, .int x1), (2, .int x2), (3, .int x3)] → W p l e (rmD 2) s m args below meth c H locs 0 0 (MQ below (va_Qi Q (PostG (wsC cy nt ad) D A) A) args s 0 0 A) (F0 m 15 ls [])) (x1 : Int32) (x2 : Int32) (x3 : Int32)  (g0 : Sg) (H : Heap) (locs : List Loc) (ls : Array Slot) (hd : vv_X7_burn_J63 nt rc15 x1 x2 x3 g0 Q) (hw : Wd D A s.heap (wsC cy nt ad g0) H locs) (hl : lv_has ls 5 [(0, .ref (ad 0)), (1, .int x1), (2, .int x2), (3, .int x3)]) : W p l e (rmD 2) s m args below meth c H locs 0 0 (MQ below (va_Qi Q (PostG (wsC cy nt ad) D A) A) args s 0 0 A) (F0 m 63 ls []) := by
  unfold vv_X7_burn_J63 at hd
  obtain ⟨x3_9, ex3_9⟩ : ∃ y : Int32, y = x3 + (1 : Int32) := ⟨_, rfl⟩
  have hd := hd x3_9 ex3_9
  refine lv_iinc (v := x3_9) (lv' := [(3, .int x3_9), (0, .ref (ad 0)), (1, .int x1), (2, .int x2)]) K.1 K.2.1 dX7_burn_63 hl (k := 3) rfl (by rw [ex3_9]; rfl) (by decide) rfl (fun ls hl => ?_)
  refine lv_goto (tgt := 15) K.1 K.2.1 dX7_burn_66 (by decide) ?_
  exact hrc15 x1 x2 x3_9 g0 _ _ _  hd hw (lv_sub hl [1, 2, 3, 0] rfl)
set_option maxHeartbeats 4000000 in
set_option maxRecDepth 100000 in
theorem bb_X7_burn_15 {p : Program} {l : Launch} {e : Env} {s : State} {m : MethodId} {args : Array Value} {below : List Frame} {meth : Method} {c : Code} {D : va_G} {cy : Nat → ClassId} {nt : Nat} {ad : Nat → Nat} {A : Nat → Prop} {X : Nat → Nat} {Q : Int32 → Sg → Prop} (K : Kx p s m args meth c cX7_burn 5 RX7 D cy) (KX : XC X A s s.heap) (hr : meth.sig.returnType = (some .int))  : ∀ (n : Nat) (x1 : Int32) (x2 : Int32) (x3 : Int32)  (g0 : Sg) (H : Heap) (locs : List Loc) (ls : Array Slot), vv_X7_burn_L15 nt Q n x1 x2 x3 g0 → Wd D A s.heap (wsC cy nt ad g0) H locs → lv_has ls 5 [(0, .ref (ad 0)), (1, .int x1), (2, .int x2), (3, .int x3)] → W p l e (rmD 2) s m args below meth c H locs 0 0 (MQ below (va_Qi Q (PostG (wsC cy nt ad) D A) A) args s 0 0 A) (F0 m 15 ls []) := by
  intro n
  induction n with
  | zero => intro _ _ _ _ _ _ _ hd; exact hd.elim
  | succ n ih =>
    intro x1 x2 x3 g0 H locs ls  hd hw hl
    unfold vv_X7_burn_L15 at hd
    refine lv_iload_n K.1 K.2.1 dX7_burn_15 rfl (lv_at hl 3 rfl) ?_
    refine lv_aload_n K.1 K.2.1 dX7_burn_16 rfl (lv_at hl 0 rfl) ?_
    refine rc_get layX7 (ci := 7) rfl 0 (by decide) (v := .ref (ad 1)) K hw (wc_O cy nt ad _) kf_X7_10 rfl dX7_burn_17 ?_
    refine rc_get layX0 (ci := 0) rfl 2 (by decide) (v := .int (g0 1 2)) K hw (wc_B cy nt ad _ ⟨by decide, by decide⟩) kf_X7_117 rfl dX7_burn_20 ?_
    refine lv_icmp_ge (tgt := 69) K.1 K.2.1 dX7_burn_23 (by decide) (fun h_6 => ?_) (fun h_6 => ?_)
    · have hd := hd.1 h_6
      refine lv_iload_n K.1 K.2.1 dX7_burn_69 rfl (lv_at hl 2 rfl) ?_
      exact rk_iret K hw hr hd dX7_burn_70
    · have hd := hd.2 h_6
      refine lv_aload_n K.1 K.2.1 dX7_burn_26 rfl (lv_at hl 0 rfl) ?_
      refine rc_get layX7 (ci := 7) rfl 0 (by decide) (v := .ref (ad 1)) K hw (wc_O cy nt ad _) kf_X7_10 rfl dX7_burn_27 ?_
      refine rc_get layX0 (ci := 0) rfl 4 (by decide) (v := .ref (ad 4)) K hw (wc_B cy nt ad _ ⟨by decide, by decide⟩) kf_X7_106 rfl dX7_burn_30 ?_
      refine lv_iload_n K.1 K.2.1 dX7_burn_33 rfl (lv_at hl 3 rfl) ?_
      have hb_7 := hd.1
      have hd := hd.2
      refine rc_aald (t0 := 2) (b := ad (pp 4 x3)) K hw (wc_R cy nt ad _ ⟨by decide, by decide⟩) rfl rfl hb_7 dX7_burn_34 ?_
      refine lv_astore (lv' := [(4, .ref (ad (pp 4 x3))), (0, .ref (ad 0)), (1, .int x1), (2, .int x2), (3, .int x3)]) K.1 K.2.1 dX7_burn_35 hl (by decide) rfl (fun ls hl => ?_)
      refine lv_aload K.1 K.2.1 dX7_burn_37 (lv_at hl 0 rfl) ?_
      refine rc_get layX1 (ci := 1) rfl 3 (by decide) (v := .int (g0 (pp 4 x3) 3)) K hw (wc_P cy nt ad _ (tR_P ⟨by decide, by decide⟩ hb_7)) kf_X7_148 rfl dX7_burn_39 ?_
      refine lv_iload_n K.1 K.2.1 dX7_burn_42 rfl (lv_at hl 2 rfl) ?_
      refine lv_icmp_ne (tgt := 63) K.1 K.2.1 dX7_burn_43 (by decide) (fun h_8 => ?_) (fun h_8 => ?_)
      · have hd := hd.1 h_8
        exact bb_X7_burn_63 K KX hr  ih x1 x2 x3 g0 _ _ _  hd hw (lv_sub hl [1, 2, 3, 4] rfl)
      · have hd := hd.2 h_8
        refine lv_aload K.1 K.2.1 dX7_burn_46 (lv_at hl 0 rfl) ?_
        refine rc_get layX1 (ci := 1) rfl 5 (by decide) (v := .int (g0 (pp 4 x3) 5)) K hw (wc_P cy nt ad _ (tR_P ⟨by decide, by decide⟩ hb_7)) kf_X7_151 rfl dX7_burn_48 ?_
        refine lv_if_ne (tgt := 63) K.1 K.2.1 dX7_burn_51 (by decide) (fun h_10 => ?_) (fun h_10 => ?_)
        · have hd := hd.1 h_10
          exact bb_X7_burn_63 K KX hr  ih x1 x2 x3 g0 _ _ _  hd hw (lv_sub hl [1, 2, 3, 4] rfl)
        · have hd := hd.2 h_10
          refine lv_aload K.1 K.2.1 dX7_burn_54 (lv_at hl 0 rfl) ?_
          refine lv_iconst (v := (1 : Int32)) K.1 K.2.1 dX7_burn_56 (by decide) ?_
          refine rc_put layX1 (ci := 1) rfl tyX1_ok nmX1 5 (by decide) K hw (wc_P cy nt ad _ (tR_P ⟨by decide, by decide⟩ hb_7)) kf_X7_151 rfl rfl rfl rfl (Nat.le_of_ble_eq_true rfl) (wp_P_5 cy nt ad _ _ (tR_P ⟨by decide, by decide⟩ hb_7)) dX7_burn_57 (fun g_11 eg_11 H locs hw => ?_)
          have hd := hd g_11 eg_11
          obtain ⟨x2_12, ex2_12⟩ : ∃ y : Int32, y = x2 + (1 : Int32) := ⟨_, rfl⟩
          have hd := hd x2_12 ex2_12
          refine lv_iinc (v := x2_12) (lv' := [(2, .int x2_12), (4, .ref (ad (pp 4 x3))), (0, .ref (ad 0)), (1, .int x1), (3, .int x3)]) K.1 K.2.1 dX7_burn_60 hl (k := 3) rfl (by rw [ex2_12]; rfl) (by decide) rfl (fun ls hl => ?_)
          exact bb_X7_burn_63 K KX hr  ih x1 x2_12 x3 g_11 _ _ _  hd hw (lv_sub hl [2, 3, 0, 4] rfl)
set_option maxHeartbeats 4000000 in
set_option maxRecDepth 100000 in
theorem cc_X7_burn (l : Launch) (D : va_G) (cy : Nat → ClassId) (nt : Nat) (ad : Nat → Nat) (A : Nat → Prop) (X : Nat → Nat)  (g0 : Sg) (Q : Int32 → Sg → Prop) (x1 : Int32) (hd : vv_X7_burn nt x1 g0 Q) : Met l yX7_burn (Cond.code yX7_burn cX7_burn 5 (some .int) :: TT) (rmD 2) (va_Pc [.ref (ad 0), .int x1] (PreC (wsC cy nt ad) D cy A X g0)) (va_Qi Q (PostG (wsC cy nt ad) D A) A) 0 0 A := by
  unfold vv_X7_burn at hd
  refine Met.ofW (cc := cX7_burn) (maxL := 5) (ret := (some .int)) (by decide) rfl ?_
  intro p e s m args below meth c s₁ B hml hv
  obtain ⟨rfl, ⟨hP, hK0, hD⟩, KX⟩ := hv
  have K : Kx p s m _ meth c cX7_burn 5 RX7 D cy := ⟨B.exec, B.bytes, hml, findClass_of_methodNamed B.named, fun w h => atoms_spec (ws := Cond.code yX7_burn cX7_burn 5 (some .int) :: TT) B.pre w (List.mem_cons_of_mem _ h), hK0, B.notSynchronized⟩
  have hw : Wd D A s.heap (wsC cy nt ad g0) s.heap [] := ⟨hP, hD, va_S.rf⟩
  have hr := B.returns
  have hl := lv_entry ([.ref (ad 0), .int x1]) (n := 5) (Nat.le_of_ble_eq_true rfl)
  rw [lg_entry_eq]
  generalize (lg_sl ([.ref (ad 0), .int x1]) ++ List.replicate (5 - (lg_sl ([.ref (ad 0), .int x1])).length) Slot.unset).toArray = ls at hl ⊢
  have hl : lv_has ls 5 [(0, .ref (ad 0)), (1, .int x1)] := hl
  refine lv_iconst (v := (4 : Int32)) K.1 K.2.1 dX7_burn_0 (by decide) ?_
  refine lv_iload_n K.1 K.2.1 dX7_burn_1 rfl (lv_at hl 1 rfl) ?_
  refine rkc_si (As := [.int (4 : Int32), .int x1]) (rest := []) K KX hw (cc_X7_inRange l D cy nt ad A X g0 _ (4 : Int32) x1 hd) lk_X7_113 ⟨Nat.le_of_ble_eq_true rfl, Nat.le_of_ble_eq_true rfl⟩ ⟨Nat.zero_le _, Nat.zero_le _⟩ rfl hl.1 (Nat.le_of_ble_eq_true rfl) rfl dX7_burn_2 (fun r_2 g_1 H locs hd hw => ?_)
  refine lv_if_ne (tgt := 11) K.1 K.2.1 dX7_burn_5 (by decide) (fun h_3 => ?_) (fun h_3 => ?_)
  · have hd := hd.1 h_3
    refine lv_iconst (v := (0 : Int32)) K.1 K.2.1 dX7_burn_11 (by decide) ?_
    refine lv_topi (fun x2_4 ex2_4 => ?_)
    have hd := hd x2_4 ex2_4
    refine lv_istore_n (lv' := [(2, .int x2_4), (0, .ref (ad 0)), (1, .int x1)]) K.1 K.2.1 dX7_burn_12 rfl hl (by decide) rfl (fun ls hl => ?_)
    refine lv_iconst (v := (0 : Int32)) K.1 K.2.1 dX7_burn_13 (by decide) ?_
    refine lv_topi (fun x3_5 ex3_5 => ?_)
    have hd := hd x3_5 ex3_5
    refine lv_istore_n (lv' := [(3, .int x3_5), (2, .int x2_4), (0, .ref (ad 0)), (1, .int x1)]) K.1 K.2.1 dX7_burn_14 rfl hl (by decide) rfl (fun ls hl => ?_)
    obtain ⟨n9, hd⟩ := hd
    exact bb_X7_burn_15 K KX hr   n9 x1 x2_4 x3_5 g_1 _ _ _  hd hw (lv_sub hl [2, 3, 1, 0] rfl)
  · have hd := hd.2 h_3
    refine lv_bipush (v := (-2 : Int32)) K.1 K.2.1 dX7_burn_8 (by decide) ?_
    exact rk_iret K hw hr hd dX7_burn_10
theorem dX7_feed_0 : decode cX7_feed 0 = .ok (.iload_n 1, 1) := by decide +kernel
theorem dX7_feed_1 : decode cX7_feed 1 = .ok (.ifCond .lt 10, 3) := by decide +kernel
theorem dX7_feed_4 : decode cX7_feed 4 = .ok (.iload_n 1, 1) := by decide +kernel
theorem dX7_feed_5 : decode cX7_feed 5 = .ok (.sipush 255, 3) := by decide +kernel
theorem dX7_feed_8 : decode cX7_feed 8 = .ok (.if_icmp .le 6, 3) := by decide +kernel
theorem dX7_feed_11 : decode cX7_feed 11 = .ok (.bipush (-2), 2) := by decide +kernel
theorem dX7_feed_13 : decode cX7_feed 13 = .ok (.ireturn, 1) := by decide +kernel
theorem dX7_feed_14 : decode cX7_feed 14 = .ok (.aload_n 0, 1) := by decide +kernel
theorem dX7_feed_15 : decode cX7_feed 15 = .ok (.getfield 32, 3) := by decide +kernel
theorem dX7_feed_18 : decode cX7_feed 18 = .ok (.getfield 74, 3) := by decide +kernel
theorem dX7_feed_21 : decode cX7_feed 21 = .ok (.sipush 160, 3) := by decide +kernel
theorem dX7_feed_24 : decode cX7_feed 24 = .ok (.if_icmp .lt 6, 3) := by decide +kernel
theorem dX7_feed_27 : decode cX7_feed 27 = .ok (.bipush (-4), 2) := by decide +kernel
theorem dX7_feed_29 : decode cX7_feed 29 = .ok (.ireturn, 1) := by decide +kernel
theorem dX7_feed_30 : decode cX7_feed 30 = .ok (.aload_n 0, 1) := by decide +kernel
theorem dX7_feed_31 : decode cX7_feed 31 = .ok (.getfield 32, 3) := by decide +kernel
theorem dX7_feed_34 : decode cX7_feed 34 = .ok (.iload_n 1, 1) := by decide +kernel
theorem dX7_feed_35 : decode cX7_feed 35 = .ok (.invokevirtual 154, 3) := by decide +kernel
theorem dX7_feed_38 : decode cX7_feed 38 = .ok (.aload_n 0, 1) := by decide +kernel
theorem dX7_feed_39 : decode cX7_feed 39 = .ok (.getfield 32, 3) := by decide +kernel
theorem dX7_feed_42 : decode cX7_feed 42 = .ok (.getfield 74, 3) := by decide +kernel
theorem dX7_feed_45 : decode cX7_feed 45 = .ok (.ireturn, 1) := by decide +kernel
set_option maxHeartbeats 4000000 in
set_option maxRecDepth 100000 in
theorem cc_X7_feed (l : Launch) (D : va_G) (cy : Nat → ClassId) (nt : Nat) (ad : Nat → Nat) (A : Nat → Prop) (X : Nat → Nat)  (g0 : Sg) (Q : Int32 → Sg → Prop) (x1 : Int32) (hd : vv_X7_feed nt x1 g0 Q) : Met l yX7_feed (Cond.code yX7_feed cX7_feed 2 (some .int) :: TT) (rmD 2) (va_Pc [.ref (ad 0), .int x1] (PreC (wsC cy nt ad) D cy A X g0)) (va_Qi Q (PostG (wsC cy nt ad) D A) A) 0 0 A := by
  unfold vv_X7_feed at hd
  refine Met.ofW (cc := cX7_feed) (maxL := 2) (ret := (some .int)) (by decide) rfl ?_
  intro p e s m args below meth c s₁ B hml hv
  obtain ⟨rfl, ⟨hP, hK0, hD⟩, KX⟩ := hv
  have K : Kx p s m _ meth c cX7_feed 2 RX7 D cy := ⟨B.exec, B.bytes, hml, findClass_of_methodNamed B.named, fun w h => atoms_spec (ws := Cond.code yX7_feed cX7_feed 2 (some .int) :: TT) B.pre w (List.mem_cons_of_mem _ h), hK0, B.notSynchronized⟩
  have hw : Wd D A s.heap (wsC cy nt ad g0) s.heap [] := ⟨hP, hD, va_S.rf⟩
  have hr := B.returns
  have hl := lv_entry ([.ref (ad 0), .int x1]) (n := 2) (Nat.le_of_ble_eq_true rfl)
  rw [lg_entry_eq]
  generalize (lg_sl ([.ref (ad 0), .int x1]) ++ List.replicate (2 - (lg_sl ([.ref (ad 0), .int x1])).length) Slot.unset).toArray = ls at hl ⊢
  have hl : lv_has ls 2 [(0, .ref (ad 0)), (1, .int x1)] := hl
  refine lv_iload_n K.1 K.2.1 dX7_feed_0 rfl (lv_at hl 1 rfl) ?_
  refine lv_if_lt (tgt := 11) K.1 K.2.1 dX7_feed_1 (by decide) (fun h_1 => ?_) (fun h_1 => ?_)
  · have hd := hd.1 h_1
    refine lv_bipush (v := (-2 : Int32)) K.1 K.2.1 dX7_feed_11 (by decide) ?_
    exact rk_iret K hw hr hd dX7_feed_13
  · have hd := hd.2 h_1
    refine lv_iload_n K.1 K.2.1 dX7_feed_4 rfl (lv_at hl 1 rfl) ?_
    refine lv_sipush (v := (255 : Int32)) K.1 K.2.1 dX7_feed_5 (by decide) ?_
    refine lv_icmp_le (tgt := 14) K.1 K.2.1 dX7_feed_8 (by decide) (fun h_2 => ?_) (fun h_2 => ?_)
    · have hd := hd.1 h_2
      refine lv_aload_n K.1 K.2.1 dX7_feed_14 rfl (lv_at hl 0 rfl) ?_
      refine rc_get layX7 (ci := 7) rfl 5 (by decide) (v := .ref (ad 8)) K hw (wc_O cy nt ad _) kf_X7_32 rfl dX7_feed_15 ?_
      refine rc_get layX5 (ci := 5) rfl 1 (by decide) (v := .int (g0 8 1)) K hw (wc_Tp cy nt ad _) kf_X7_74 rfl dX7_feed_18 ?_
      refine lv_sipush (v := (160 : Int32)) K.1 K.2.1 dX7_feed_21 (by decide) ?_
      refine lv_icmp_lt (tgt := 30) K.1 K.2.1 dX7_feed_24 (by decide) (fun h_3 => ?_) (fun h_3 => ?_)
      · have hd := hd.1 h_3
        refine lv_aload_n K.1 K.2.1 dX7_feed_30 rfl (lv_at hl 0 rfl) ?_
        refine rc_get layX7 (ci := 7) rfl 5 (by decide) (v := .ref (ad 8)) K hw (wc_O cy nt ad _) kf_X7_32 rfl dX7_feed_31 ?_
        refine lv_iload_n K.1 K.2.1 dX7_feed_34 rfl (lv_at hl 1 rfl) ?_
        refine rkc_vv (As := [.int x1]) (rest := []) K KX hw (cc_X5_add l D cy nt ad A X g0 _ x1 hd) lk_X7_154 (ci := 5) rfl (wc_Tp cy nt ad _) ⟨Nat.le_of_ble_eq_true rfl, Nat.le_of_ble_eq_true rfl⟩ ⟨Nat.zero_le _, Nat.zero_le _⟩ rfl hl.1 (Nat.le_of_ble_eq_true rfl) rfl dX7_feed_35 (fun g_4 H locs hd hw => ?_)
        refine lv_aload_n K.1 K.2.1 dX7_feed_38 rfl (lv_at hl 0 rfl) ?_
        refine rc_get layX7 (ci := 7) rfl 5 (by decide) (v := .ref (ad 8)) K hw (wc_O cy nt ad _) kf_X7_32 rfl dX7_feed_39 ?_
        refine rc_get layX5 (ci := 5) rfl 1 (by decide) (v := .int (g_4 8 1)) K hw (wc_Tp cy nt ad _) kf_X7_74 rfl dX7_feed_42 ?_
        exact rk_iret K hw hr hd dX7_feed_45
      · have hd := hd.2 h_3
        refine lv_bipush (v := (-4 : Int32)) K.1 K.2.1 dX7_feed_27 (by decide) ?_
        exact rk_iret K hw hr hd dX7_feed_29
    · have hd := hd.2 h_2
      refine lv_bipush (v := (-2 : Int32)) K.1 K.2.1 dX7_feed_11 (by decide) ?_
      exact rk_iret K hw hr hd dX7_feed_13
theorem dX7_force_0 : decode cX7_force 0 = .ok (.iload_n 1, 1) := by decide +kernel
theorem dX7_force_1 : decode cX7_force 1 = .ok (.ifCond .lt 11, 3) := by decide +kernel
theorem dX7_force_4 : decode cX7_force 4 = .ok (.iload_n 1, 1) := by decide +kernel
theorem dX7_force_5 : decode cX7_force 5 = .ok (.aload_n 0, 1) := by decide +kernel
theorem dX7_force_6 : decode cX7_force 6 = .ok (.getfield 81, 3) := by decide +kernel
theorem dX7_force_9 : decode cX7_force 9 = .ok (.if_icmp .lt 6, 3) := by decide +kernel
theorem dX7_force_12 : decode cX7_force 12 = .ok (.bipush (-2), 2) := by decide +kernel
theorem dX7_force_14 : decode cX7_force 14 = .ok (.ireturn, 1) := by decide +kernel
theorem dX7_force_15 : decode cX7_force 15 = .ok (.aload_n 0, 1) := by decide +kernel
theorem dX7_force_16 : decode cX7_force 16 = .ok (.getfield 10, 3) := by decide +kernel
theorem dX7_force_19 : decode cX7_force 19 = .ok (.getfield 133, 3) := by decide +kernel
theorem dX7_force_22 : decode cX7_force 22 = .ok (.istore_n 2, 1) := by decide +kernel
theorem dX7_force_23 : decode cX7_force 23 = .ok (.aload_n 0, 1) := by decide +kernel
theorem dX7_force_24 : decode cX7_force 24 = .ok (.getfield 10, 3) := by decide +kernel
theorem dX7_force_27 : decode cX7_force 27 = .ok (.iload_n 1, 1) := by decide +kernel
theorem dX7_force_28 : decode cX7_force 28 = .ok (.putfield 133, 3) := by decide +kernel
theorem dX7_force_31 : decode cX7_force 31 = .ok (.iload_n 2, 1) := by decide +kernel
theorem dX7_force_32 : decode cX7_force 32 = .ok (.ireturn, 1) := by decide +kernel
set_option maxHeartbeats 4000000 in
set_option maxRecDepth 100000 in
theorem cc_X7_force (l : Launch) (D : va_G) (cy : Nat → ClassId) (nt : Nat) (ad : Nat → Nat) (A : Nat → Prop) (X : Nat → Nat)  (g0 : Sg) (Q : Int32 → Sg → Prop) (x1 : Int32) (hd : vv_X7_force nt x1 g0 Q) : Met l yX7_force (Cond.code yX7_force cX7_force 3 (some .int) :: TT) (rmD 1) (va_Pc [.ref (ad 0), .int x1] (PreC (wsC cy nt ad) D cy A X g0)) (va_Qi Q (PostG (wsC cy nt ad) D A) A) 0 0 A := by
  unfold vv_X7_force at hd
  refine Met.ofW (cc := cX7_force) (maxL := 3) (ret := (some .int)) (by decide) rfl ?_
  intro p e s m args below meth c s₁ B hml hv
  obtain ⟨rfl, ⟨hP, hK0, hD⟩, KX⟩ := hv
  have K : Kx p s m _ meth c cX7_force 3 RX7 D cy := ⟨B.exec, B.bytes, hml, findClass_of_methodNamed B.named, fun w h => atoms_spec (ws := Cond.code yX7_force cX7_force 3 (some .int) :: TT) B.pre w (List.mem_cons_of_mem _ h), hK0, B.notSynchronized⟩
  have hw : Wd D A s.heap (wsC cy nt ad g0) s.heap [] := ⟨hP, hD, va_S.rf⟩
  have hr := B.returns
  have hl := lv_entry ([.ref (ad 0), .int x1]) (n := 3) (Nat.le_of_ble_eq_true rfl)
  rw [lg_entry_eq]
  generalize (lg_sl ([.ref (ad 0), .int x1]) ++ List.replicate (3 - (lg_sl ([.ref (ad 0), .int x1])).length) Slot.unset).toArray = ls at hl ⊢
  have hl : lv_has ls 3 [(0, .ref (ad 0)), (1, .int x1)] := hl
  refine lv_iload_n K.1 K.2.1 dX7_force_0 rfl (lv_at hl 1 rfl) ?_
  refine lv_if_lt (tgt := 12) K.1 K.2.1 dX7_force_1 (by decide) (fun h_1 => ?_) (fun h_1 => ?_)
  · have hd := hd.1 h_1
    refine lv_bipush (v := (-2 : Int32)) K.1 K.2.1 dX7_force_12 (by decide) ?_
    exact rk_iret K hw hr hd dX7_force_14
  · have hd := hd.2 h_1
    refine lv_iload_n K.1 K.2.1 dX7_force_4 rfl (lv_at hl 1 rfl) ?_
    refine lv_aload_n K.1 K.2.1 dX7_force_5 rfl (lv_at hl 0 rfl) ?_
    refine rc_get layX7 (ci := 7) rfl 8 (by decide) (v := .int (g0 0 8)) K hw (wc_O cy nt ad _) kf_X7_81 rfl dX7_force_6 ?_
    refine lv_icmp_lt (tgt := 15) K.1 K.2.1 dX7_force_9 (by decide) (fun h_2 => ?_) (fun h_2 => ?_)
    · have hd := hd.1 h_2
      refine lv_aload_n K.1 K.2.1 dX7_force_15 rfl (lv_at hl 0 rfl) ?_
      refine rc_get layX7 (ci := 7) rfl 0 (by decide) (v := .ref (ad 1)) K hw (wc_O cy nt ad _) kf_X7_10 rfl dX7_force_16 ?_
      refine rc_get layX0 (ci := 0) rfl 1 (by decide) (v := .int (g0 1 1)) K hw (wc_B cy nt ad _ ⟨by decide, by decide⟩) kf_X7_133 rfl dX7_force_19 ?_
      refine lv_topi (fun x2_3 ex2_3 => ?_)
      have hd := hd x2_3 ex2_3
      refine lv_istore_n (lv' := [(2, .int x2_3), (0, .ref (ad 0)), (1, .int x1)]) K.1 K.2.1 dX7_force_22 rfl hl (by decide) rfl (fun ls hl => ?_)
      refine lv_aload_n K.1 K.2.1 dX7_force_23 rfl (lv_at hl 1 rfl) ?_
      refine rc_get layX7 (ci := 7) rfl 0 (by decide) (v := .ref (ad 1)) K hw (wc_O cy nt ad _) kf_X7_10 rfl dX7_force_24 ?_
      refine lv_iload_n K.1 K.2.1 dX7_force_27 rfl (lv_at hl 2 rfl) ?_
      refine rc_put layX0 (ci := 0) rfl tyX0_ok nmX0 1 (by decide) K hw (wc_B cy nt ad _ ⟨by decide, by decide⟩) kf_X7_133 rfl rfl rfl rfl (Nat.le_of_ble_eq_true rfl) (wp_B_1 cy nt ad _ _ ⟨by decide, by decide⟩) dX7_force_28 (fun g_4 eg_4 H locs hw => ?_)
      have hd := hd g_4 eg_4
      refine lv_iload_n K.1 K.2.1 dX7_force_31 rfl (lv_at hl 0 rfl) ?_
      exact rk_iret K hw hr hd dX7_force_32
    · have hd := hd.2 h_2
      refine lv_bipush (v := (-2 : Int32)) K.1 K.2.1 dX7_force_12 (by decide) ?_
      exact rk_iret K hw hr hd dX7_force_14
theorem dX7_isTopic_0 : decode cX7_isTopic 0 = .ok (.iload_n 0, 1) := by decide +kernel
theorem dX7_isTopic_1 : decode cX7_isTopic 1 = .ok (.ifCond .lt 13, 3) := by decide +kernel
theorem dX7_isTopic_4 : decode cX7_isTopic 4 = .ok (.iload_n 0, 1) := by decide +kernel
theorem dX7_isTopic_5 : decode cX7_isTopic 5 = .ok (.bipush 8, 2) := by decide +kernel
theorem dX7_isTopic_7 : decode cX7_isTopic 7 = .ok (.if_icmp .ge 7, 3) := by decide +kernel
theorem dX7_isTopic_10 : decode cX7_isTopic 10 = .ok (.iconst 1, 1) := by decide +kernel
theorem dX7_isTopic_11 : decode cX7_isTopic 11 = .ok (.goto 4, 3) := by decide +kernel
theorem dX7_isTopic_14 : decode cX7_isTopic 14 = .ok (.iconst 0, 1) := by decide +kernel
theorem dX7_isTopic_15 : decode cX7_isTopic 15 = .ok (.ireturn, 1) := by decide +kernel
set_option maxHeartbeats 4000000 in
set_option maxRecDepth 100000 in
theorem cc_X7_isTopic (l : Launch) (D : va_G) (cy : Nat → ClassId) (nt : Nat) (ad : Nat → Nat) (A : Nat → Prop) (X : Nat → Nat)  (g0 : Sg) (Q : Int32 → Sg → Prop) (x0 : Int32) (hd : vv_X7_isTopic nt x0 g0 Q) : Met l yX7_isTopic (Cond.code yX7_isTopic cX7_isTopic 1 (some .boolean) :: TT) (rmD 1) (va_Pc [.int x0] (PreC (wsC cy nt ad) D cy A X g0)) (va_Qi Q (PostG (wsC cy nt ad) D A) A) 0 0 A := by
  unfold vv_X7_isTopic at hd
  refine Met.ofW (cc := cX7_isTopic) (maxL := 1) (ret := (some .boolean)) (by decide) rfl ?_
  intro p e s m args below meth c s₁ B hml hv
  obtain ⟨rfl, ⟨hP, hK0, hD⟩, KX⟩ := hv
  have K : Kx p s m _ meth c cX7_isTopic 1 RX7 D cy := ⟨B.exec, B.bytes, hml, findClass_of_methodNamed B.named, fun w h => atoms_spec (ws := Cond.code yX7_isTopic cX7_isTopic 1 (some .boolean) :: TT) B.pre w (List.mem_cons_of_mem _ h), hK0, B.notSynchronized⟩
  have hw : Wd D A s.heap (wsC cy nt ad g0) s.heap [] := ⟨hP, hD, va_S.rf⟩
  have hr := B.returns
  have hl := lv_entry ([.int x0]) (n := 1) (Nat.le_of_ble_eq_true rfl)
  rw [lg_entry_eq]
  generalize (lg_sl ([.int x0]) ++ List.replicate (1 - (lg_sl ([.int x0])).length) Slot.unset).toArray = ls at hl ⊢
  have hl : lv_has ls 1 [(0, .int x0)] := hl
  refine lv_iload_n K.1 K.2.1 dX7_isTopic_0 rfl (lv_at hl 0 rfl) ?_
  refine lv_if_lt (tgt := 14) K.1 K.2.1 dX7_isTopic_1 (by decide) (fun h_1 => ?_) (fun h_1 => ?_)
  · have hd := hd.1 h_1
    refine lv_iconst (v := (0 : Int32)) K.1 K.2.1 dX7_isTopic_14 (by decide) ?_
    exact rk_zret K hw hr (by decide) hd dX7_isTopic_15
  · have hd := hd.2 h_1
    refine lv_iload_n K.1 K.2.1 dX7_isTopic_4 rfl (lv_at hl 0 rfl) ?_
    refine lv_bipush (v := (8 : Int32)) K.1 K.2.1 dX7_isTopic_5 (by decide) ?_
    refine lv_icmp_ge (tgt := 14) K.1 K.2.1 dX7_isTopic_7 (by decide) (fun h_2 => ?_) (fun h_2 => ?_)
    · have hd := hd.1 h_2
      refine lv_iconst (v := (0 : Int32)) K.1 K.2.1 dX7_isTopic_14 (by decide) ?_
      exact rk_zret K hw hr (by decide) hd dX7_isTopic_15
    · have hd := hd.2 h_2
      refine lv_iconst (v := (1 : Int32)) K.1 K.2.1 dX7_isTopic_10 (by decide) ?_
      refine lv_goto (tgt := 15) K.1 K.2.1 dX7_isTopic_11 (by decide) ?_
      exact rk_zret K hw hr (by decide) hd dX7_isTopic_15
theorem dX7_weighAll_0 : decode cX7_weighAll 0 = .ok (.aload_n 0, 1) := by decide +kernel
theorem dX7_weighAll_1 : decode cX7_weighAll 1 = .ok (.getfield 60, 3) := by decide +kernel
theorem dX7_weighAll_4 : decode cX7_weighAll 4 = .ok (.aload_n 1, 1) := by decide +kernel
theorem dX7_weighAll_5 : decode cX7_weighAll 5 = .ok (.invokevirtual 285, 3) := by decide +kernel
theorem dX7_weighAll_8 : decode cX7_weighAll 8 = .ok (.putfield 218, 3) := by decide +kernel
theorem dX7_weighAll_11 : decode cX7_weighAll 11 = .ok (.iconst 0, 1) := by decide +kernel
theorem dX7_weighAll_12 : decode cX7_weighAll 12 = .ok (.istore_n 2, 1) := by decide +kernel
theorem dX7_weighAll_13 : decode cX7_weighAll 13 = .ok (.iload_n 2, 1) := by decide +kernel
theorem dX7_weighAll_14 : decode cX7_weighAll 14 = .ok (.bipush 8, 2) := by decide +kernel
theorem dX7_weighAll_16 : decode cX7_weighAll 16 = .ok (.if_icmp .ge 48, 3) := by decide +kernel
theorem dX7_weighAll_19 : decode cX7_weighAll 19 = .ok (.aload_n 0, 1) := by decide +kernel
theorem dX7_weighAll_20 : decode cX7_weighAll 20 = .ok (.getfield 60, 3) := by decide +kernel
theorem dX7_weighAll_23 : decode cX7_weighAll 23 = .ok (.getfield 224, 3) := by decide +kernel
theorem dX7_weighAll_26 : decode cX7_weighAll 26 = .ok (.iload_n 2, 1) := by decide +kernel
theorem dX7_weighAll_27 : decode cX7_weighAll 27 = .ok (.aload_n 0, 1) := by decide +kernel
theorem dX7_weighAll_28 : decode cX7_weighAll 28 = .ok (.getfield 60, 3) := by decide +kernel
theorem dX7_weighAll_31 : decode cX7_weighAll 31 = .ok (.getfield 218, 3) := by decide +kernel
theorem dX7_weighAll_34 : decode cX7_weighAll 34 = .ok (.iload_n 2, 1) := by decide +kernel
theorem dX7_weighAll_35 : decode cX7_weighAll 35 = .ok (.ishr, 1) := by decide +kernel
theorem dX7_weighAll_36 : decode cX7_weighAll 36 = .ok (.iconst 1, 1) := by decide +kernel
theorem dX7_weighAll_37 : decode cX7_weighAll 37 = .ok (.iand, 1) := by decide +kernel
theorem dX7_weighAll_38 : decode cX7_weighAll 38 = .ok (.iconst 1, 1) := by decide +kernel
theorem dX7_weighAll_39 : decode cX7_weighAll 39 = .ok (.if_icmp .ne 17, 3) := by decide +kernel
theorem dX7_weighAll_42 : decode cX7_weighAll 42 = .ok (.aload_n 0, 1) := by decide +kernel
theorem dX7_weighAll_43 : decode cX7_weighAll 43 = .ok (.aload_n 1, 1) := by decide +kernel
theorem dX7_weighAll_44 : decode cX7_weighAll 44 = .ok (.aload_n 1, 1) := by decide +kernel
theorem dX7_weighAll_45 : decode cX7_weighAll 45 = .ok (.getfield 106, 3) := by decide +kernel
theorem dX7_weighAll_48 : decode cX7_weighAll 48 = .ok (.iload_n 2, 1) := by decide +kernel
theorem dX7_weighAll_49 : decode cX7_weighAll 49 = .ok (.aaload, 1) := by decide +kernel
theorem dX7_weighAll_50 : decode cX7_weighAll 50 = .ok (.invokevirtual 126, 3) := by decide +kernel
theorem dX7_weighAll_53 : decode cX7_weighAll 53 = .ok (.goto 4, 3) := by decide +kernel
theorem dX7_weighAll_56 : decode cX7_weighAll 56 = .ok (.iconst 0, 1) := by decide +kernel
theorem dX7_weighAll_57 : decode cX7_weighAll 57 = .ok (.iastore, 1) := by decide +kernel
theorem dX7_weighAll_58 : decode cX7_weighAll 58 = .ok (.iinc 2 1, 3) := by decide +kernel
theorem dX7_weighAll_61 : decode cX7_weighAll 61 = .ok (.goto (-48), 3) := by decide +kernel
theorem dX7_weighAll_64 : decode cX7_weighAll 64 = .ok (.return_, 1) := by decide +kernel
set_option maxHeartbeats 4000000 in
set_option maxRecDepth 100000 in
theorem bb_X7_weighAll_57 {p : Program} {l : Launch} {e : Env} {s : State} {m : MethodId} {args : Array Value} {below : List Frame} {meth : Method} {c : Code} {D : va_G} {cy : Nat → ClassId} {nt : Nat} {ad : Nat → Nat} {A : Nat → Prop} {X : Nat → Nat} {Q : Sg → Prop} (K : Kx p s m args meth c cX7_weighAll 3 RX7 D cy) (KX : XC X A s s.heap) (hr : meth.sig.returnType = none)  {rc13 : Nat → Int32 → Sg → Prop} (hrc13 : ∀ (x1 : Nat) (x2 : Int32) (u : Sg) (H : Heap) (locs : List Loc) (ls : Array Slot), isB x1 → rc13 x1 x2 u → Wd D A s.heap (wsC cy nt ad u) H locs → lv_has ls 3 [(0, .ref (ad 0)), (1, .ref (ad x1)), (2, .int x2)] → W p l e (rmD 4) s m args below meth c H locs 0 0 (MQ below (va_Qv Q (PostG (wsC cy nt ad) D A) A) args s 0 0 A) (F0 m 13 ls [])) (x1 : Nat) (x2 : Int32) (t1 : Int32) (t2 : Int32) (g0 : Sg) (H : Heap) (locs : List Loc) (ls : Array Slot) (hq_x1 : isB x1) (hd : vv_X7_weighAll_J57 nt rc13 x1 x2 t1 t2 g0 Q) (hw : Wd D A s.heap (wsC cy nt ad g0) H locs) (hl : lv_has ls 3 [(0, .ref (ad 0)), (1, .ref (ad x1)), (2, .int x2)]) : W p l e (rmD 4) s m args below meth c H locs 0 0 (MQ below (va_Qv Q (PostG (wsC cy nt ad) D A) A) args s 0 0 A) (F0 m 57 ls [.int t2, .int t1, .ref (ad 23)]) := by
  unfold vv_X7_weighAll_J57 at hd
  have hb := hd.1
  have hd := hd.2
  refine rc_iast K hw (wc_23 cy nt ad _) (wa_23 cy nt ad _ _ _) hb dX7_weighAll_57 (fun g_7 eg_7 H locs hw => ?_)
  have hd := hd g_7 eg_7
  obtain ⟨x2_8, ex2_8⟩ : ∃ y : Int32, y = x2 + (1 : Int32) := ⟨_, rfl⟩
  have hd := hd x2_8 ex2_8
  refine lv_iinc (v := x2_8) (lv' := [(2, .int x2_8), (0, .ref (ad 0)), (1, .ref (ad x1))]) K.1 K.2.1 dX7_weighAll_58 hl (k := 2) rfl (by rw [ex2_8]; rfl) (by decide) rfl (fun ls hl => ?_)
  refine lv_goto (tgt := 13) K.1 K.2.1 dX7_weighAll_61 (by decide) ?_
  exact hrc13 x1 x2_8 g_7 _ _ _ hq_x1 hd hw (lv_sub hl [1, 2, 0] rfl)
set_option maxHeartbeats 4000000 in
set_option maxRecDepth 100000 in
theorem bb_X7_weighAll_13 {p : Program} {l : Launch} {e : Env} {s : State} {m : MethodId} {args : Array Value} {below : List Frame} {meth : Method} {c : Code} {D : va_G} {cy : Nat → ClassId} {nt : Nat} {ad : Nat → Nat} {A : Nat → Prop} {X : Nat → Nat} {Q : Sg → Prop} (K : Kx p s m args meth c cX7_weighAll 3 RX7 D cy) (KX : XC X A s s.heap) (hr : meth.sig.returnType = none)  : ∀ (n : Nat) (x1 : Nat) (x2 : Int32)  (g0 : Sg) (H : Heap) (locs : List Loc) (ls : Array Slot), isB x1 → vv_X7_weighAll_L13 nt Q n x1 x2 g0 → Wd D A s.heap (wsC cy nt ad g0) H locs → lv_has ls 3 [(0, .ref (ad 0)), (1, .ref (ad x1)), (2, .int x2)] → W p l e (rmD 4) s m args below meth c H locs 0 0 (MQ below (va_Qv Q (PostG (wsC cy nt ad) D A) A) args s 0 0 A) (F0 m 13 ls []) := by
  intro n
  induction n with
  | zero => intro _ _ _ _ _ _ _ hd; exact hd.elim
  | succ n ih =>
    intro x1 x2 g0 H locs ls hq_x1 hd hw hl
    unfold vv_X7_weighAll_L13 at hd
    refine lv_iload_n K.1 K.2.1 dX7_weighAll_13 rfl (lv_at hl 2 rfl) ?_
    refine lv_bipush (v := (8 : Int32)) K.1 K.2.1 dX7_weighAll_14 (by decide) ?_
    refine lv_icmp_ge (tgt := 64) K.1 K.2.1 dX7_weighAll_16 (by decide) (fun h_5 => ?_) (fun h_5 => ?_)
    · have hd := hd.1 h_5
      exact rk_vret K hw hr hd dX7_weighAll_64
    · have hd := hd.2 h_5
      refine lv_aload_n K.1 K.2.1 dX7_weighAll_19 rfl (lv_at hl 0 rfl) ?_
      refine rc_get layX7 (ci := 7) rfl 10 (by decide) (v := .ref (ad 22)) K hw (wc_O cy nt ad _) kf_X7_60 rfl dX7_weighAll_20 ?_
      refine rc_get layX4 (ci := 4) rfl 3 (by decide) (v := .ref (ad 23)) K hw (wc_Ta cy nt ad _) kf_X7_224 rfl dX7_weighAll_23 ?_
      refine lv_iload_n K.1 K.2.1 dX7_weighAll_26 rfl (lv_at hl 2 rfl) ?_
      refine lv_aload_n K.1 K.2.1 dX7_weighAll_27 rfl (lv_at hl 0 rfl) ?_
      refine rc_get layX7 (ci := 7) rfl 10 (by decide) (v := .ref (ad 22)) K hw (wc_O cy nt ad _) kf_X7_60 rfl dX7_weighAll_28 ?_
      refine rc_get layX4 (ci := 4) rfl 2 (by decide) (v := .int (g0 22 2)) K hw (wc_Ta cy nt ad _) kf_X7_218 rfl dX7_weighAll_31 ?_
      refine lv_iload_n K.1 K.2.1 dX7_weighAll_34 rfl (lv_at hl 2 rfl) ?_
      refine lv_ishr K.1 K.2.1 dX7_weighAll_35 ?_
      refine lv_iconst (v := (1 : Int32)) K.1 K.2.1 dX7_weighAll_36 (by decide) ?_
      refine lv_iand K.1 K.2.1 dX7_weighAll_37 ?_
      refine lv_iconst (v := (1 : Int32)) K.1 K.2.1 dX7_weighAll_38 (by decide) ?_
      refine lv_icmp_ne (tgt := 56) K.1 K.2.1 dX7_weighAll_39 (by decide) (fun h_6 => ?_) (fun h_6 => ?_)
      · have hd := hd.1 h_6
        refine lv_iconst (v := (0 : Int32)) K.1 K.2.1 dX7_weighAll_56 (by decide) ?_
        exact bb_X7_weighAll_57 K KX hr  ih x1 x2 x2 (0 : Int32) g0 _ _ _ hq_x1 hd hw (lv_sub hl [0, 1, 2] rfl)
      · have hd := hd.2 h_6
        refine lv_aload_n K.1 K.2.1 dX7_weighAll_42 rfl (lv_at hl 0 rfl) ?_
        refine lv_aload_n K.1 K.2.1 dX7_weighAll_43 rfl (lv_at hl 1 rfl) ?_
        refine lv_aload_n K.1 K.2.1 dX7_weighAll_44 rfl (lv_at hl 1 rfl) ?_
        refine rc_get layX0 (ci := 0) rfl 4 (by decide) (v := .ref (ad (x1 + 3))) K hw (wc_B cy nt ad _ hq_x1) kf_X7_106 rfl dX7_weighAll_45 ?_
        refine lv_iload_n K.1 K.2.1 dX7_weighAll_48 rfl (lv_at hl 2 rfl) ?_
        have hb_9 := hd.1
        have hd := hd.2
        refine rc_aald (t0 := 2) (b := ad (pp (x1 + 3) x2)) K hw (wc_R cy nt ad _ (tB_R hq_x1)) rfl rfl hb_9 dX7_weighAll_49 ?_
        refine rkc_vi (As := [.ref (ad x1), .ref (ad (pp (x1 + 3) x2))]) (rest := [.int x2, .ref (ad 23)]) K KX hw (cc_X7_weightOf l D cy nt ad A X g0 _ x1 (pp (x1 + 3) x2) hd) lk_X7_126 (ci := 7) rfl (wc_O cy nt ad _) ⟨Nat.le_of_ble_eq_true rfl, Nat.le_of_ble_eq_true rfl⟩ ⟨Nat.zero_le _, Nat.zero_le _⟩ rfl hl.1 (Nat.le_of_ble_eq_true rfl) rfl dX7_weighAll_50 (fun r_11 g_10 H locs hd hw => ?_)
        refine lv_goto (tgt := 57) K.1 K.2.1 dX7_weighAll_53 (by decide) ?_
        exact bb_X7_weighAll_57 K KX hr  ih x1 x2 x2 r_11 g_10 _ _ _ hq_x1 hd hw (lv_sub hl [0, 1, 2] rfl)
set_option maxHeartbeats 4000000 in
set_option maxRecDepth 100000 in
theorem cc_X7_weighAll (l : Launch) (D : va_G) (cy : Nat → ClassId) (nt : Nat) (ad : Nat → Nat) (A : Nat → Prop) (X : Nat → Nat)  (g0 : Sg) (Q : Sg → Prop) (x1 : Nat) (hd : vv_X7_weighAll nt x1 g0 Q) : Met l yX7_weighAll (Cond.code yX7_weighAll cX7_weighAll 3 none :: TT) (rmD 4) (va_Pc [.ref (ad 0), .ref (ad x1)] (PreC (wsC cy nt ad) D cy A X g0)) (va_Qv Q (PostG (wsC cy nt ad) D A) A) 0 0 A := by
  unfold vv_X7_weighAll at hd
  refine Met.ofW (cc := cX7_weighAll) (maxL := 3) (ret := none) (by decide) rfl ?_
  intro p e s m args below meth c s₁ B hml hv
  obtain ⟨rfl, ⟨hP, hK0, hD⟩, KX⟩ := hv
  have K : Kx p s m _ meth c cX7_weighAll 3 RX7 D cy := ⟨B.exec, B.bytes, hml, findClass_of_methodNamed B.named, fun w h => atoms_spec (ws := Cond.code yX7_weighAll cX7_weighAll 3 none :: TT) B.pre w (List.mem_cons_of_mem _ h), hK0, B.notSynchronized⟩
  have hw : Wd D A s.heap (wsC cy nt ad g0) s.heap [] := ⟨hP, hD, va_S.rf⟩
  have hr := B.returns
  have hl := lv_entry ([.ref (ad 0), .ref (ad x1)]) (n := 3) (Nat.le_of_ble_eq_true rfl)
  rw [lg_entry_eq]
  generalize (lg_sl ([.ref (ad 0), .ref (ad x1)]) ++ List.replicate (3 - (lg_sl ([.ref (ad 0), .ref (ad x1)])).length) Slot.unset).toArray = ls at hl ⊢
  have hl : lv_has ls 3 [(0, .ref (ad 0)), (1, .ref (ad x1))] := hl
  have hq_x1 := hd.1
  have hd := hd.2
  refine lv_aload_n K.1 K.2.1 dX7_weighAll_0 rfl (lv_at hl 0 rfl) ?_
  refine rc_get layX7 (ci := 7) rfl 10 (by decide) (v := .ref (ad 22)) K hw (wc_O cy nt ad _) kf_X7_60 rfl dX7_weighAll_1 ?_
  refine lv_aload_n K.1 K.2.1 dX7_weighAll_4 rfl (lv_at hl 1 rfl) ?_
  refine rkc_vi (As := []) (rest := [.ref (ad 22)]) K KX hw (cc_X0_standingBits l D cy nt ad A X g0 _ x1 hd) lk_X7_285 (ci := 0) rfl (wc_B cy nt ad _ hq_x1) ⟨Nat.le_of_ble_eq_true rfl, Nat.le_of_ble_eq_true rfl⟩ ⟨Nat.zero_le _, Nat.zero_le _⟩ rfl hl.1 (Nat.le_of_ble_eq_true rfl) rfl dX7_weighAll_5 (fun r_2 g_1 H locs hd hw => ?_)
  refine rc_put layX4 (ci := 4) rfl tyX4_ok nmX4 2 (by decide) K hw (wc_Ta cy nt ad _) kf_X7_218 rfl rfl rfl rfl (Nat.le_of_ble_eq_true rfl) (wp_Ta_2 cy nt ad _ _) dX7_weighAll_8 (fun g_3 eg_3 H locs hw => ?_)
  have hd := hd g_3 eg_3
  refine lv_iconst (v := (0 : Int32)) K.1 K.2.1 dX7_weighAll_11 (by decide) ?_
  refine lv_topi (fun x2_4 ex2_4 => ?_)
  have hd := hd x2_4 ex2_4
  refine lv_istore_n (lv' := [(2, .int x2_4), (0, .ref (ad 0)), (1, .ref (ad x1))]) K.1 K.2.1 dX7_weighAll_12 rfl hl (by decide) rfl (fun ls hl => ?_)
  obtain ⟨n9, hd⟩ := hd
  exact bb_X7_weighAll_13 K KX hr   n9 x1 x2_4 g_3 _ _ _ hq_x1 hd hw (lv_sub hl [1, 2, 0] rfl)
theorem dX7_divide_0 : decode cX7_divide 0 = .ok (.aload_n 0, 1) := by decide +kernel
theorem dX7_divide_1 : decode cX7_divide 1 = .ok (.getfield 60, 3) := by decide +kernel
theorem dX7_divide_4 : decode cX7_divide 4 = .ok (.iconst 0, 1) := by decide +kernel
theorem dX7_divide_5 : decode cX7_divide 5 = .ok (.putfield 172, 3) := by decide +kernel
theorem dX7_divide_8 : decode cX7_divide 8 = .ok (.aload_n 0, 1) := by decide +kernel
theorem dX7_divide_9 : decode cX7_divide 9 = .ok (.getfield 60, 3) := by decide +kernel
theorem dX7_divide_12 : decode cX7_divide 12 = .ok (.iconst 0, 1) := by decide +kernel
theorem dX7_divide_13 : decode cX7_divide 13 = .ok (.putfield 175, 3) := by decide +kernel
theorem dX7_divide_16 : decode cX7_divide 16 = .ok (.iconst 0, 1) := by decide +kernel
theorem dX7_divide_17 : decode cX7_divide 17 = .ok (.istore_n 3, 1) := by decide +kernel
theorem dX7_divide_18 : decode cX7_divide 18 = .ok (.iload_n 3, 1) := by decide +kernel
theorem dX7_divide_19 : decode cX7_divide 19 = .ok (.bipush 8, 2) := by decide +kernel
theorem dX7_divide_21 : decode cX7_divide 21 = .ok (.if_icmp .ge 106, 3) := by decide +kernel
theorem dX7_divide_24 : decode cX7_divide 24 = .ok (.iload_n 3, 1) := by decide +kernel
theorem dX7_divide_25 : decode cX7_divide 25 = .ok (.aload_n 1, 1) := by decide +kernel
theorem dX7_divide_26 : decode cX7_divide 26 = .ok (.getfield 117, 3) := by decide +kernel
theorem dX7_divide_29 : decode cX7_divide 29 = .ok (.if_icmp .ge 18, 3) := by decide +kernel
theorem dX7_divide_32 : decode cX7_divide 32 = .ok (.aload_n 0, 1) := by decide +kernel
theorem dX7_divide_33 : decode cX7_divide 33 = .ok (.aload_n 1, 1) := by decide +kernel
theorem dX7_divide_34 : decode cX7_divide 34 = .ok (.aload_n 1, 1) := by decide +kernel
theorem dX7_divide_35 : decode cX7_divide 35 = .ok (.getfield 106, 3) := by decide +kernel
theorem dX7_divide_38 : decode cX7_divide 38 = .ok (.iload_n 3, 1) := by decide +kernel
theorem dX7_divide_39 : decode cX7_divide 39 = .ok (.aaload, 1) := by decide +kernel
theorem dX7_divide_40 : decode cX7_divide 40 = .ok (.iload_n 2, 1) := by decide +kernel
theorem dX7_divide_41 : decode cX7_divide 41 = .ok (.invokevirtual 144, 3) := by decide +kernel
theorem dX7_divide_44 : decode cX7_divide 44 = .ok (.goto 4, 3) := by decide +kernel
theorem dX7_divide_47 : decode cX7_divide 47 = .ok (.iconst 0, 1) := by decide +kernel
theorem dX7_divide_48 : decode cX7_divide 48 = .ok (.istore 4, 2) := by decide +kernel
theorem dX7_divide_50 : decode cX7_divide 50 = .ok (.aload_n 0, 1) := by decide +kernel
theorem dX7_divide_51 : decode cX7_divide 51 = .ok (.getfield 60, 3) := by decide +kernel
theorem dX7_divide_54 : decode cX7_divide 54 = .ok (.getfield 345, 3) := by decide +kernel
theorem dX7_divide_57 : decode cX7_divide 57 = .ok (.iload_n 3, 1) := by decide +kernel
theorem dX7_divide_58 : decode cX7_divide 58 = .ok (.iload 4, 2) := by decide +kernel
theorem dX7_divide_60 : decode cX7_divide 60 = .ok (.iastore, 1) := by decide +kernel
theorem dX7_divide_61 : decode cX7_divide 61 = .ok (.aload_n 0, 1) := by decide +kernel
theorem dX7_divide_62 : decode cX7_divide 62 = .ok (.getfield 60, 3) := by decide +kernel
theorem dX7_divide_65 : decode cX7_divide 65 = .ok (.dup, 1) := by decide +kernel
theorem dX7_divide_66 : decode cX7_divide 66 = .ok (.getfield 172, 3) := by decide +kernel
theorem dX7_divide_69 : decode cX7_divide 69 = .ok (.iload 4, 2) := by decide +kernel
theorem dX7_divide_71 : decode cX7_divide 71 = .ok (.ifCond .le 15, 3) := by decide +kernel
theorem dX7_divide_74 : decode cX7_divide 74 = .ok (.aload_n 0, 1) := by decide +kernel
theorem dX7_divide_75 : decode cX7_divide 75 = .ok (.getfield 60, 3) := by decide +kernel
theorem dX7_divide_78 : decode cX7_divide 78 = .ok (.getfield 224, 3) := by decide +kernel
theorem dX7_divide_81 : decode cX7_divide 81 = .ok (.iload_n 3, 1) := by decide +kernel
theorem dX7_divide_82 : decode cX7_divide 82 = .ok (.iaload, 1) := by decide +kernel
theorem dX7_divide_83 : decode cX7_divide 83 = .ok (.goto 4, 3) := by decide +kernel
theorem dX7_divide_86 : decode cX7_divide 86 = .ok (.iconst 0, 1) := by decide +kernel
theorem dX7_divide_87 : decode cX7_divide 87 = .ok (.iadd, 1) := by decide +kernel
theorem dX7_divide_88 : decode cX7_divide 88 = .ok (.putfield 172, 3) := by decide +kernel
theorem dX7_divide_91 : decode cX7_divide 91 = .ok (.aload_n 0, 1) := by decide +kernel
theorem dX7_divide_92 : decode cX7_divide 92 = .ok (.getfield 60, 3) := by decide +kernel
theorem dX7_divide_95 : decode cX7_divide 95 = .ok (.dup, 1) := by decide +kernel
theorem dX7_divide_96 : decode cX7_divide 96 = .ok (.getfield 175, 3) := by decide +kernel
theorem dX7_divide_99 : decode cX7_divide 99 = .ok (.iload 4, 2) := by decide +kernel
theorem dX7_divide_101 : decode cX7_divide 101 = .ok (.ifCond .ge 15, 3) := by decide +kernel
theorem dX7_divide_104 : decode cX7_divide 104 = .ok (.aload_n 0, 1) := by decide +kernel
theorem dX7_divide_105 : decode cX7_divide 105 = .ok (.getfield 60, 3) := by decide +kernel
theorem dX7_divide_108 : decode cX7_divide 108 = .ok (.getfield 224, 3) := by decide +kernel
theorem dX7_divide_111 : decode cX7_divide 111 = .ok (.iload_n 3, 1) := by decide +kernel
theorem dX7_divide_112 : decode cX7_divide 112 = .ok (.iaload, 1) := by decide +kernel
theorem dX7_divide_113 : decode cX7_divide 113 = .ok (.goto 4, 3) := by decide +kernel
theorem dX7_divide_116 : decode cX7_divide 116 = .ok (.iconst 0, 1) := by decide +kernel
theorem dX7_divide_117 : decode cX7_divide 117 = .ok (.iadd, 1) := by decide +kernel
theorem dX7_divide_118 : decode cX7_divide 118 = .ok (.putfield 175, 3) := by decide +kernel
theorem dX7_divide_121 : decode cX7_divide 121 = .ok (.iinc 3 1, 3) := by decide +kernel
theorem dX7_divide_124 : decode cX7_divide 124 = .ok (.goto (-106), 3) := by decide +kernel
theorem dX7_divide_127 : decode cX7_divide 127 = .ok (.return_, 1) := by decide +kernel
set_option maxHeartbeats 4000000 in
set_option maxRecDepth 100000 in
theorem bb_X7_divide_117 {p : Program} {l : Launch} {e : Env} {s : State} {m : MethodId} {args : Array Value} {below : List Frame} {meth : Method} {c : Code} {D : va_G} {cy : Nat → ClassId} {nt : Nat} {ad : Nat → Nat} {A : Nat → Prop} {X : Nat → Nat} {Q : Sg → Prop} (K : Kx p s m args meth c cX7_divide 5 RX7 D cy) (KX : XC X A s s.heap) (hr : meth.sig.returnType = none)  {rc18 : Nat → Int32 → Int32 → Sg → Prop} (hrc18 : ∀ (x1 : Nat) (x2 : Int32) (x3 : Int32) (u : Sg) (H : Heap) (locs : List Loc) (ls : Array Slot), isB x1 → rc18 x1 x2 x3 u → Wd D A s.heap (wsC cy nt ad u) H locs → lv_has ls 5 [(0, .ref (ad 0)), (1, .ref (ad x1)), (2, .int x2), (3, .int x3)] → W p l e (rmD 6) s m args below meth c H locs 0 0 (MQ below (va_Qv Q (PostG (wsC cy nt ad) D A) A) args s 0 0 A) (F0 m 18 ls [])) (x1 : Nat) (x2 : Int32) (x3 : Int32) (t1 : Int32) (t2 : Int32) (g0 : Sg) (H : Heap) (locs : List Loc) (ls : Array Slot) (hq_x1 : isB x1) (hd : vv_X7_divide_J117 nt rc18 x1 x2 x3 t1 t2 g0 Q) (hw : Wd D A s.heap (wsC cy nt ad g0) H locs) (hl : lv_has ls 5 [(0, .ref (ad 0)), (1, .ref (ad x1)), (2, .int x2), (3, .int x3)]) : W p l e (rmD 6) s m args below meth c H locs 0 0 (MQ below (va_Qv Q (PostG (wsC cy nt ad) D A) A) args s 0 0 A) (F0 m 117 ls [.int t2, .int t1, .ref (ad 22)]) := by
  unfold vv_X7_divide_J117 at hd
  refine lv_iadd K.1 K.2.1 dX7_divide_117 ?_
  refine rc_put layX4 (ci := 4) rfl tyX4_ok nmX4 1 (by decide) K hw (wc_Ta cy nt ad _) kf_X7_175 rfl rfl rfl rfl (Nat.le_of_ble_eq_true rfl) (wp_Ta_1 cy nt ad _ _) dX7_divide_118 (fun g_11 eg_11 H locs hw => ?_)
  have hd := hd g_11 eg_11
  obtain ⟨x3_12, ex3_12⟩ : ∃ y : Int32, y = x3 + (1 : Int32) := ⟨_, rfl⟩
  have hd := hd x3_12 ex3_12
  refine lv_iinc (v := x3_12) (lv' := [(3, .int x3_12), (0, .ref (ad 0)), (1, .ref (ad x1)), (2, .int x2)]) K.1 K.2.1 dX7_divide_121 hl (k := 3) rfl (by rw [ex3_12]; rfl) (by decide) rfl (fun ls hl => ?_)
  refine lv_goto (tgt := 18) K.1 K.2.1 dX7_divide_124 (by decide) ?_
  exact hrc18 x1 x2 x3_12 g_11 _ _ _ hq_x1 hd hw (lv_sub hl [1, 2, 3, 0] rfl)
set_option maxHeartbeats 4000000 in
set_option maxRecDepth 100000 in
theorem bb_X7_divide_87 {p : Program} {l : Launch} {e : Env} {s : State} {m : MethodId} {args : Array Value} {below : List Frame} {meth : Method} {c : Code} {D : va_G} {cy : Nat → ClassId} {nt : Nat} {ad : Nat → Nat} {A : Nat → Prop} {X : Nat → Nat} {Q : Sg → Prop} (K : Kx p s m args meth c cX7_divide 5 RX7 D cy) (KX : XC X A s s.heap) (hr : meth.sig.returnType = none)  {rc18 : Nat → Int32 → Int32 → Sg → Prop} (hrc18 : ∀ (x1 : Nat) (x2 : Int32) (x3 : Int32) (u : Sg) (H : Heap) (locs : List Loc) (ls : Array Slot), isB x1 → rc18 x1 x2 x3 u → Wd D A s.heap (wsC cy nt ad u) H locs → lv_has ls 5 [(0, .ref (ad 0)), (1, .ref (ad x1)), (2, .int x2), (3, .int x3)] → W p l e (rmD 6) s m args below meth c H locs 0 0 (MQ below (va_Qv Q (PostG (wsC cy nt ad) D A) A) args s 0 0 A) (F0 m 18 ls [])) (x1 : Nat) (x2 : Int32) (x3 : Int32) (x4 : Int32) (t1 : Int32) (t2 : Int32) (g0 : Sg) (H : Heap) (locs : List Loc) (ls : Array Slot) (hq_x1 : isB x1) (hd : vv_X7_divide_J87 nt rc18 x1 x2 x3 x4 t1 t2 g0 Q) (hw : Wd D A s.heap (wsC cy nt ad g0) H locs) (hl : lv_has ls 5 [(0, .ref (ad 0)), (1, .ref (ad x1)), (2, .int x2), (3, .int x3), (4, .int x4)]) : W p l e (rmD 6) s m args below meth c H locs 0 0 (MQ below (va_Qv Q (PostG (wsC cy nt ad) D A) A) args s 0 0 A) (F0 m 87 ls [.int t2, .int t1, .ref (ad 22)]) := by
  unfold vv_X7_divide_J87 at hd
  refine lv_iadd K.1 K.2.1 dX7_divide_87 ?_
  refine rc_put layX4 (ci := 4) rfl tyX4_ok nmX4 0 (by decide) K hw (wc_Ta cy nt ad _) kf_X7_172 rfl rfl rfl rfl (Nat.le_of_ble_eq_true rfl) (wp_Ta_0 cy nt ad _ _) dX7_divide_88 (fun g_9 eg_9 H locs hw => ?_)
  have hd := hd g_9 eg_9
  refine lv_aload_n K.1 K.2.1 dX7_divide_91 rfl (lv_at hl 0 rfl) ?_
  refine rc_get layX7 (ci := 7) rfl 10 (by decide) (v := .ref (ad 22)) K hw (wc_O cy nt ad _) kf_X7_60 rfl dX7_divide_92 ?_
  refine lv_dup K.1 K.2.1 dX7_divide_95 rfl ?_
  refine rc_get layX4 (ci := 4) rfl 1 (by decide) (v := .int (g_9 22 1)) K hw (wc_Ta cy nt ad _) kf_X7_175 rfl dX7_divide_96 ?_
  refine lv_iload K.1 K.2.1 dX7_divide_99 (lv_at hl 4 rfl) ?_
  refine lv_if_ge (tgt := 116) K.1 K.2.1 dX7_divide_101 (by decide) (fun h_10 => ?_) (fun h_10 => ?_)
  · have hd := hd.1 h_10
    refine lv_iconst (v := (0 : Int32)) K.1 K.2.1 dX7_divide_116 (by decide) ?_
    exact bb_X7_divide_117 K KX hr  hrc18 x1 x2 x3 (g_9 22 1) (0 : Int32) g_9 _ _ _ hq_x1 hd hw (lv_sub hl [0, 1, 2, 3] rfl)
  · have hd := hd.2 h_10
    refine lv_aload_n K.1 K.2.1 dX7_divide_104 rfl (lv_at hl 0 rfl) ?_
    refine rc_get layX7 (ci := 7) rfl 10 (by decide) (v := .ref (ad 22)) K hw (wc_O cy nt ad _) kf_X7_60 rfl dX7_divide_105 ?_
    refine rc_get layX4 (ci := 4) rfl 3 (by decide) (v := .ref (ad 23)) K hw (wc_Ta cy nt ad _) kf_X7_224 rfl dX7_divide_108 ?_
    refine lv_iload_n K.1 K.2.1 dX7_divide_111 rfl (lv_at hl 3 rfl) ?_
    have hb := hd.1
    have hd := hd.2
    refine rc_iald K hw (wc_23 cy nt ad _) hb dX7_divide_112 ?_
    refine lv_goto (tgt := 117) K.1 K.2.1 dX7_divide_113 (by decide) ?_
    exact bb_X7_divide_117 K KX hr  hrc18 x1 x2 x3 (g_9 22 1) (g_9 23 x3.toNatClampNeg) g_9 _ _ _ hq_x1 hd hw (lv_sub hl [0, 1, 2, 3] rfl)
set_option maxHeartbeats 4000000 in
set_option maxRecDepth 100000 in
theorem bb_X7_divide_48 {p : Program} {l : Launch} {e : Env} {s : State} {m : MethodId} {args : Array Value} {below : List Frame} {meth : Method} {c : Code} {D : va_G} {cy : Nat → ClassId} {nt : Nat} {ad : Nat → Nat} {A : Nat → Prop} {X : Nat → Nat} {Q : Sg → Prop} (K : Kx p s m args meth c cX7_divide 5 RX7 D cy) (KX : XC X A s s.heap) (hr : meth.sig.returnType = none)  {rc18 : Nat → Int32 → Int32 → Sg → Prop} (hrc18 : ∀ (x1 : Nat) (x2 : Int32) (x3 : Int32) (u : Sg) (H : Heap) (locs : List Loc) (ls : Array Slot), isB x1 → rc18 x1 x2 x3 u → Wd D A s.heap (wsC cy nt ad u) H locs → lv_has ls 5 [(0, .ref (ad 0)), (1, .ref (ad x1)), (2, .int x2), (3, .int x3)] → W p l e (rmD 6) s m args below meth c H locs 0 0 (MQ below (va_Qv Q (PostG (wsC cy nt ad) D A) A) args s 0 0 A) (F0 m 18 ls [])) (x1 : Nat) (x2 : Int32) (x3 : Int32) (t0 : Int32) (g0 : Sg) (H : Heap) (locs : List Loc) (ls : Array Slot) (hq_x1 : isB x1) (hd : vv_X7_divide_J48 nt rc18 x1 x2 x3 t0 g0 Q) (hw : Wd D A s.heap (wsC cy nt ad g0) H locs) (hl : lv_has ls 5 [(0, .ref (ad 0)), (1, .ref (ad x1)), (2, .int x2), (3, .int x3)]) : W p l e (rmD 6) s m args below meth c H locs 0 0 (MQ below (va_Qv Q (PostG (wsC cy nt ad) D A) A) args s 0 0 A) (F0 m 48 ls [.int t0]) := by
  unfold vv_X7_divide_J48 at hd
  refine lv_topi (fun x4_6 ex4_6 => ?_)
  have hd := hd x4_6 ex4_6
  refine lv_istore (lv' := [(4, .int x4_6), (0, .ref (ad 0)), (1, .ref (ad x1)), (2, .int x2), (3, .int x3)]) K.1 K.2.1 dX7_divide_48 hl (by decide) rfl (fun ls hl => ?_)
  refine lv_aload_n K.1 K.2.1 dX7_divide_50 rfl (lv_at hl 1 rfl) ?_
  refine rc_get layX7 (ci := 7) rfl 10 (by decide) (v := .ref (ad 22)) K hw (wc_O cy nt ad _) kf_X7_60 rfl dX7_divide_51 ?_
  refine rc_get layX4 (ci := 4) rfl 4 (by decide) (v := .ref (ad 24)) K hw (wc_Ta cy nt ad _) kf_X7_345 rfl dX7_divide_54 ?_
  refine lv_iload_n K.1 K.2.1 dX7_divide_57 rfl (lv_at hl 4 rfl) ?_
  refine lv_iload K.1 K.2.1 dX7_divide_58 (lv_at hl 0 rfl) ?_
  have hb := hd.1
  have hd := hd.2
  refine rc_iast K hw (wc_24 cy nt ad _) (wa_24 cy nt ad _ _ _) hb dX7_divide_60 (fun g_7 eg_7 H locs hw => ?_)
  have hd := hd g_7 eg_7
  refine lv_aload_n K.1 K.2.1 dX7_divide_61 rfl (lv_at hl 1 rfl) ?_
  refine rc_get layX7 (ci := 7) rfl 10 (by decide) (v := .ref (ad 22)) K hw (wc_O cy nt ad _) kf_X7_60 rfl dX7_divide_62 ?_
  refine lv_dup K.1 K.2.1 dX7_divide_65 rfl ?_
  refine rc_get layX4 (ci := 4) rfl 0 (by decide) (v := .int (g_7 22 0)) K hw (wc_Ta cy nt ad _) kf_X7_172 rfl dX7_divide_66 ?_
  refine lv_iload K.1 K.2.1 dX7_divide_69 (lv_at hl 0 rfl) ?_
  refine lv_if_le (tgt := 86) K.1 K.2.1 dX7_divide_71 (by decide) (fun h_8 => ?_) (fun h_8 => ?_)
  · have hd := hd.1 h_8
    refine lv_iconst (v := (0 : Int32)) K.1 K.2.1 dX7_divide_86 (by decide) ?_
    exact bb_X7_divide_87 K KX hr  hrc18 x1 x2 x3 x4_6 (g_7 22 0) (0 : Int32) g_7 _ _ _ hq_x1 hd hw (lv_sub hl [1, 2, 3, 4, 0] rfl)
  · have hd := hd.2 h_8
    refine lv_aload_n K.1 K.2.1 dX7_divide_74 rfl (lv_at hl 1 rfl) ?_
    refine rc_get layX7 (ci := 7) rfl 10 (by decide) (v := .ref (ad 22)) K hw (wc_O cy nt ad _) kf_X7_60 rfl dX7_divide_75 ?_
    refine rc_get layX4 (ci := 4) rfl 3 (by decide) (v := .ref (ad 23)) K hw (wc_Ta cy nt ad _) kf_X7_224 rfl dX7_divide_78 ?_
    refine lv_iload_n K.1 K.2.1 dX7_divide_81 rfl (lv_at hl 4 rfl) ?_
    have hb := hd.1
    have hd := hd.2
    refine rc_iald K hw (wc_23 cy nt ad _) hb dX7_divide_82 ?_
    refine lv_goto (tgt := 87) K.1 K.2.1 dX7_divide_83 (by decide) ?_
    exact bb_X7_divide_87 K KX hr  hrc18 x1 x2 x3 x4_6 (g_7 22 0) (g_7 23 x3.toNatClampNeg) g_7 _ _ _ hq_x1 hd hw (lv_sub hl [1, 2, 3, 4, 0] rfl)
set_option maxHeartbeats 4000000 in
set_option maxRecDepth 100000 in
theorem bb_X7_divide_18 {p : Program} {l : Launch} {e : Env} {s : State} {m : MethodId} {args : Array Value} {below : List Frame} {meth : Method} {c : Code} {D : va_G} {cy : Nat → ClassId} {nt : Nat} {ad : Nat → Nat} {A : Nat → Prop} {X : Nat → Nat} {Q : Sg → Prop} (K : Kx p s m args meth c cX7_divide 5 RX7 D cy) (KX : XC X A s s.heap) (hr : meth.sig.returnType = none)  : ∀ (n : Nat) (x1 : Nat) (x2 : Int32) (x3 : Int32)  (g0 : Sg) (H : Heap) (locs : List Loc) (ls : Array Slot), isB x1 → vv_X7_divide_L18 nt Q n x1 x2 x3 g0 → Wd D A s.heap (wsC cy nt ad g0) H locs → lv_has ls 5 [(0, .ref (ad 0)), (1, .ref (ad x1)), (2, .int x2), (3, .int x3)] → W p l e (rmD 6) s m args below meth c H locs 0 0 (MQ below (va_Qv Q (PostG (wsC cy nt ad) D A) A) args s 0 0 A) (F0 m 18 ls []) := by
  intro n
  induction n with
  | zero => intro _ _ _ _ _ _ _ _ hd; exact hd.elim
  | succ n ih =>
    intro x1 x2 x3 g0 H locs ls hq_x1 hd hw hl
    unfold vv_X7_divide_L18 at hd
    refine lv_iload_n K.1 K.2.1 dX7_divide_18 rfl (lv_at hl 3 rfl) ?_
    refine lv_bipush (v := (8 : Int32)) K.1 K.2.1 dX7_divide_19 (by decide) ?_
    refine lv_icmp_ge (tgt := 127) K.1 K.2.1 dX7_divide_21 (by decide) (fun h_4 => ?_) (fun h_4 => ?_)
    · have hd := hd.1 h_4
      exact rk_vret K hw hr hd dX7_divide_127
    · have hd := hd.2 h_4
      refine lv_iload_n K.1 K.2.1 dX7_divide_24 rfl (lv_at hl 3 rfl) ?_
      refine lv_aload_n K.1 K.2.1 dX7_divide_25 rfl (lv_at hl 1 rfl) ?_
      refine rc_get layX0 (ci := 0) rfl 2 (by decide) (v := .int (g0 x1 2)) K hw (wc_B cy nt ad _ hq_x1) kf_X7_117 rfl dX7_divide_26 ?_
      refine lv_icmp_ge (tgt := 47) K.1 K.2.1 dX7_divide_29 (by decide) (fun h_5 => ?_) (fun h_5 => ?_)
      · have hd := hd.1 h_5
        refine lv_iconst (v := (0 : Int32)) K.1 K.2.1 dX7_divide_47 (by decide) ?_
        exact bb_X7_divide_48 K KX hr  ih x1 x2 x3 (0 : Int32) g0 _ _ _ hq_x1 hd hw (lv_sub hl [0, 1, 2, 3] rfl)
      · have hd := hd.2 h_5
        refine lv_aload_n K.1 K.2.1 dX7_divide_32 rfl (lv_at hl 0 rfl) ?_
        refine lv_aload_n K.1 K.2.1 dX7_divide_33 rfl (lv_at hl 1 rfl) ?_
        refine lv_aload_n K.1 K.2.1 dX7_divide_34 rfl (lv_at hl 1 rfl) ?_
        refine rc_get layX0 (ci := 0) rfl 4 (by decide) (v := .ref (ad (x1 + 3))) K hw (wc_B cy nt ad _ hq_x1) kf_X7_106 rfl dX7_divide_35 ?_
        refine lv_iload_n K.1 K.2.1 dX7_divide_38 rfl (lv_at hl 3 rfl) ?_
        have hb_13 := hd.1
        have hd := hd.2
        refine rc_aald (t0 := 2) (b := ad (pp (x1 + 3) x3)) K hw (wc_R cy nt ad _ (tB_R hq_x1)) rfl rfl hb_13 dX7_divide_39 ?_
        refine lv_iload_n K.1 K.2.1 dX7_divide_40 rfl (lv_at hl 2 rfl) ?_
        refine rkc_vi (As := [.ref (ad x1), .ref (ad (pp (x1 + 3) x3)), .int x2]) (rest := []) K KX hw (cc_X7_castVote l D cy nt ad A X g0 _ x1 (pp (x1 + 3) x3) x2 hd) lk_X7_144 (ci := 7) rfl (wc_O cy nt ad _) ⟨Nat.le_of_ble_eq_true rfl, Nat.le_of_ble_eq_true rfl⟩ ⟨Nat.zero_le _, Nat.zero_le _⟩ rfl hl.1 (Nat.le_of_ble_eq_true rfl) rfl dX7_divide_41 (fun r_15 g_14 H locs hd hw => ?_)
        refine lv_goto (tgt := 48) K.1 K.2.1 dX7_divide_44 (by decide) ?_
        exact bb_X7_divide_48 K KX hr  ih x1 x2 x3 r_15 g_14 _ _ _ hq_x1 hd hw (lv_sub hl [0, 1, 2, 3] rfl)
set_option maxHeartbeats 4000000 in
set_option maxRecDepth 100000 in
theorem cc_X7_divide (l : Launch) (D : va_G) (cy : Nat → ClassId) (nt : Nat) (ad : Nat → Nat) (A : Nat → Prop) (X : Nat → Nat)  (g0 : Sg) (Q : Sg → Prop) (x1 : Nat) (x2 : Int32) (hd : vv_X7_divide nt x1 x2 g0 Q) : Met l yX7_divide (Cond.code yX7_divide cX7_divide 5 none :: TT) (rmD 6) (va_Pc [.ref (ad 0), .ref (ad x1), .int x2] (PreC (wsC cy nt ad) D cy A X g0)) (va_Qv Q (PostG (wsC cy nt ad) D A) A) 0 0 A := by
  unfold vv_X7_divide at hd
  refine Met.ofW (cc := cX7_divide) (maxL := 5) (ret := none) (by decide) rfl ?_
  intro p e s m args below meth c s₁ B hml hv
  obtain ⟨rfl, ⟨hP, hK0, hD⟩, KX⟩ := hv
  have K : Kx p s m _ meth c cX7_divide 5 RX7 D cy := ⟨B.exec, B.bytes, hml, findClass_of_methodNamed B.named, fun w h => atoms_spec (ws := Cond.code yX7_divide cX7_divide 5 none :: TT) B.pre w (List.mem_cons_of_mem _ h), hK0, B.notSynchronized⟩
  have hw : Wd D A s.heap (wsC cy nt ad g0) s.heap [] := ⟨hP, hD, va_S.rf⟩
  have hr := B.returns
  have hl := lv_entry ([.ref (ad 0), .ref (ad x1), .int x2]) (n := 5) (Nat.le_of_ble_eq_true rfl)
  rw [lg_entry_eq]
  generalize (lg_sl ([.ref (ad 0), .ref (ad x1), .int x2]) ++ List.replicate (5 - (lg_sl ([.ref (ad 0), .ref (ad x1), .int x2])).length) Slot.unset).toArray = ls at hl ⊢
  have hl : lv_has ls 5 [(0, .ref (ad 0)), (1, .ref (ad x1)), (2, .int x2)] := hl
  have hq_x1 := hd.1
  have hd := hd.2
  refine lv_aload_n K.1 K.2.1 dX7_divide_0 rfl (lv_at hl 0 rfl) ?_
  refine rc_get layX7 (ci := 7) rfl 10 (by decide) (v := .ref (ad 22)) K hw (wc_O cy nt ad _) kf_X7_60 rfl dX7_divide_1 ?_
  refine lv_iconst (v := (0 : Int32)) K.1 K.2.1 dX7_divide_4 (by decide) ?_
  refine rc_put layX4 (ci := 4) rfl tyX4_ok nmX4 0 (by decide) K hw (wc_Ta cy nt ad _) kf_X7_172 rfl rfl rfl rfl (Nat.le_of_ble_eq_true rfl) (wp_Ta_0 cy nt ad _ _) dX7_divide_5 (fun g_1 eg_1 H locs hw => ?_)
  have hd := hd g_1 eg_1
  refine lv_aload_n K.1 K.2.1 dX7_divide_8 rfl (lv_at hl 0 rfl) ?_
  refine rc_get layX7 (ci := 7) rfl 10 (by decide) (v := .ref (ad 22)) K hw (wc_O cy nt ad _) kf_X7_60 rfl dX7_divide_9 ?_
  refine lv_iconst (v := (0 : Int32)) K.1 K.2.1 dX7_divide_12 (by decide) ?_
  refine rc_put layX4 (ci := 4) rfl tyX4_ok nmX4 1 (by decide) K hw (wc_Ta cy nt ad _) kf_X7_175 rfl rfl rfl rfl (Nat.le_of_ble_eq_true rfl) (wp_Ta_1 cy nt ad _ _) dX7_divide_13 (fun g_2 eg_2 H locs hw => ?_)
  have hd := hd g_2 eg_2
  refine lv_iconst (v := (0 : Int32)) K.1 K.2.1 dX7_divide_16 (by decide) ?_
  refine lv_topi (fun x3_3 ex3_3 => ?_)
  have hd := hd x3_3 ex3_3
  refine lv_istore_n (lv' := [(3, .int x3_3), (0, .ref (ad 0)), (1, .ref (ad x1)), (2, .int x2)]) K.1 K.2.1 dX7_divide_17 rfl hl (by decide) rfl (fun ls hl => ?_)
  obtain ⟨n9, hd⟩ := hd
  exact bb_X7_divide_18 K KX hr   n9 x1 x2 x3_3 g_2 _ _ _ hq_x1 hd hw (lv_sub hl [1, 2, 3, 0] rfl)
