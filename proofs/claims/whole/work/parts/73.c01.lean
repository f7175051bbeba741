theorem dX1_become_0 : decode cX1_become 0 = .ok (.aload_n 0, 1) := by decide +kernel
theorem dX1_become_1 : decode cX1_become 1 = .ok (.aload_n 1, 1) := by decide +kernel
theorem dX1_become_2 : decode cX1_become 2 = .ok (.getfield 9, 3) := by decide +kernel
theorem dX1_become_5 : decode cX1_become 5 = .ok (.putfield 9, 3) := by decide +kernel
theorem dX1_become_8 : decode cX1_become 8 = .ok (.aload_n 0, 1) := by decide +kernel
theorem dX1_become_9 : decode cX1_become 9 = .ok (.aload_n 1, 1) := by decide +kernel
theorem dX1_become_10 : decode cX1_become 10 = .ok (.getfield 15, 3) := by decide +kernel
theorem dX1_become_13 : decode cX1_become 13 = .ok (.putfield 15, 3) := by decide +kernel
theorem dX1_become_16 : decode cX1_become 16 = .ok (.aload_n 0, 1) := by decide +kernel
theorem dX1_become_17 : decode cX1_become 17 = .ok (.aload_n 1, 1) := by decide +kernel
theorem dX1_become_18 : decode cX1_become 18 = .ok (.getfield 18, 3) := by decide +kernel
theorem dX1_become_21 : decode cX1_become 21 = .ok (.putfield 18, 3) := by decide +kernel
theorem dX1_become_24 : decode cX1_become 24 = .ok (.aload_n 0, 1) := by decide +kernel
theorem dX1_become_25 : decode cX1_become 25 = .ok (.aload_n 1, 1) := by decide +kernel
theorem dX1_become_26 : decode cX1_become 26 = .ok (.getfield 21, 3) := by decide +kernel
theorem dX1_become_29 : decode cX1_become 29 = .ok (.putfield 21, 3) := by decide +kernel
theorem dX1_become_32 : decode cX1_become 32 = .ok (.aload_n 0, 1) := by decide +kernel
theorem dX1_become_33 : decode cX1_become 33 = .ok (.aload_n 1, 1) := by decide +kernel
theorem dX1_become_34 : decode cX1_become 34 = .ok (.getfield 24, 3) := by decide +kernel
theorem dX1_become_37 : decode cX1_become 37 = .ok (.putfield 24, 3) := by decide +kernel
theorem dX1_become_40 : decode cX1_become 40 = .ok (.aload_n 0, 1) := by decide +kernel
theorem dX1_become_41 : decode cX1_become 41 = .ok (.aload_n 1, 1) := by decide +kernel
theorem dX1_become_42 : decode cX1_become 42 = .ok (.getfield 27, 3) := by decide +kernel
theorem dX1_become_45 : decode cX1_become 45 = .ok (.putfield 27, 3) := by decide +kernel
theorem dX1_become_48 : decode cX1_become 48 = .ok (.return_, 1) := by decide +kernel
set_option maxHeartbeats 4000000 in
set_option maxRecDepth 100000 in
theorem cc_X1_become (l : Launch) (D : va_G) (cy : Nat → ClassId) (nt : Nat) (ad : Nat → Nat) (A : Nat → Prop) (X : Nat → Nat)  (g0 : Sg) (Q : Sg → Prop) (x0 : Nat) (x1 : Nat) (hd : vv_X1_become nt x0 x1 g0 Q) : Met l yX1_become (Cond.code yX1_become cX1_become 2 none :: TT) (rmD 1) (va_Pc [.ref (ad x0), .ref (ad x1)] (PreC (wsC cy nt ad) D cy A X g0)) (va_Qv Q (PostG (wsC cy nt ad) D A) A) 0 0 A := by
  unfold vv_X1_become at hd
  refine Met.ofW (cc := cX1_become) (maxL := 2) (ret := none) (by decide) rfl ?_
  intro p e s m args below meth c s₁ B hml hv
  obtain ⟨rfl, ⟨hP, hK0, hD⟩, KX⟩ := hv
  have K : Kx p s m _ meth c cX1_become 2 RX1 D cy := ⟨B.exec, B.bytes, hml, findClass_of_methodNamed B.named, fun w h => atoms_spec (ws := Cond.code yX1_become cX1_become 2 none :: TT) B.pre w (List.mem_cons_of_mem _ h), hK0, B.notSynchronized⟩
  have hw : Wd D A s.heap (wsC cy nt ad g0) s.heap [] := ⟨hP, hD, va_S.rf⟩
  have hr := B.returns
  have hl := lv_entry ([.ref (ad x0), .ref (ad x1)]) (n := 2) (Nat.le_of_ble_eq_true rfl)
  rw [lg_entry_eq]
  generalize (lg_sl ([.ref (ad x0), .ref (ad x1)]) ++ List.replicate (2 - (lg_sl ([.ref (ad x0), .ref (ad x1)])).length) Slot.unset).toArray = ls at hl ⊢
  have hl : lv_has ls 2 [(0, .ref (ad x0)), (1, .ref (ad x1))] := hl
  have hq_x0 := hd.1
  have hd := hd.2
  have hq_x1 := hd.1
  have hd := hd.2
  refine lv_aload_n K.1 K.2.1 dX1_become_0 rfl (lv_at hl 0 rfl) ?_
  refine lv_aload_n K.1 K.2.1 dX1_become_1 rfl (lv_at hl 1 rfl) ?_
  refine rc_get layX1 (ci := 1) rfl 0 (by decide) (v := .int (g0 x1 0)) K hw (wc_P cy nt ad _ hq_x1) kf_X1_9 rfl dX1_become_2 ?_
  refine rc_put layX1 (ci := 1) rfl tyX1_ok nmX1 0 (by decide) K hw (wc_P cy nt ad _ hq_x0) kf_X1_9 rfl rfl rfl rfl (Nat.le_of_ble_eq_true rfl) (wp_P_0 cy nt ad _ _ hq_x0) dX1_become_5 (fun g_1 eg_1 H locs hw => ?_)
  have hd := hd g_1 eg_1
  refine lv_aload_n K.1 K.2.1 dX1_become_8 rfl (lv_at hl 0 rfl) ?_
  refine lv_aload_n K.1 K.2.1 dX1_become_9 rfl (lv_at hl 1 rfl) ?_
  refine rc_get layX1 (ci := 1) rfl 1 (by decide) (v := .int (g_1 x1 1)) K hw (wc_P cy nt ad _ hq_x1) kf_X1_15 rfl dX1_become_10 ?_
  refine rc_put layX1 (ci := 1) rfl tyX1_ok nmX1 1 (by decide) K hw (wc_P cy nt ad _ hq_x0) kf_X1_15 rfl rfl rfl rfl (Nat.le_of_ble_eq_true rfl) (wp_P_1 cy nt ad _ _ hq_x0) dX1_become_13 (fun g_2 eg_2 H locs hw => ?_)
  have hd := hd g_2 eg_2
  refine lv_aload_n K.1 K.2.1 dX1_become_16 rfl (lv_at hl 0 rfl) ?_
  refine lv_aload_n K.1 K.2.1 dX1_become_17 rfl (lv_at hl 1 rfl) ?_
  refine rc_get layX1 (ci := 1) rfl 2 (by decide) (v := .int (g_2 x1 2)) K hw (wc_P cy nt ad _ hq_x1) kf_X1_18 rfl dX1_become_18 ?_
  refine rc_put layX1 (ci := 1) rfl tyX1_ok nmX1 2 (by decide) K hw (wc_P cy nt ad _ hq_x0) kf_X1_18 rfl rfl rfl rfl (Nat.le_of_ble_eq_true rfl) (wp_P_2 cy nt ad _ _ hq_x0) dX1_become_21 (fun g_3 eg_3 H locs hw => ?_)
  have hd := hd g_3 eg_3
  refine lv_aload_n K.1 K.2.1 dX1_become_24 rfl (lv_at hl 0 rfl) ?_
  refine lv_aload_n K.1 K.2.1 dX1_become_25 rfl (lv_at hl 1 rfl) ?_
  refine rc_get layX1 (ci := 1) rfl 3 (by decide) (v := .int (g_3 x1 3)) K hw (wc_P cy nt ad _ hq_x1) kf_X1_21 rfl dX1_become_26 ?_
  refine rc_put layX1 (ci := 1) rfl tyX1_ok nmX1 3 (by decide) K hw (wc_P cy nt ad _ hq_x0) kf_X1_21 rfl rfl rfl rfl (Nat.le_of_ble_eq_true rfl) (wp_P_3 cy nt ad _ _ hq_x0) dX1_become_29 (fun g_4 eg_4 H locs hw => ?_)
  have hd := hd g_4 eg_4
  refine lv_aload_n K.1 K.2.1 dX1_become_32 rfl (lv_at hl 0 rfl) ?_
  refine lv_aload_n K.1 K.2.1 dX1_become_33 rfl (lv_at hl 1 rfl) ?_
  refine rc_get layX1 (ci := 1) rfl 4 (by decide) (v := .int (g_4 x1 4)) K hw (wc_P cy nt ad _ hq_x1) kf_X1_24 rfl dX1_become_34 ?_
  refine rc_put layX1 (ci := 1) rfl tyX1_ok nmX1 4 (by decide) K hw (wc_P cy nt ad _ hq_x0) kf_X1_24 rfl rfl rfl rfl (Nat.le_of_ble_eq_true rfl) (wp_P_4 cy nt ad _ _ hq_x0) dX1_become_37 (fun g_5 eg_5 H locs hw => ?_)
  have hd := hd g_5 eg_5
  refine lv_aload_n K.1 K.2.1 dX1_become_40 rfl (lv_at hl 0 rfl) ?_
  refine lv_aload_n K.1 K.2.1 dX1_become_41 rfl (lv_at hl 1 rfl) ?_
  refine rc_get layX1 (ci := 1) rfl 5 (by decide) (v := .int (g_5 x1 5)) K hw (wc_P cy nt ad _ hq_x1) kf_X1_27 rfl dX1_become_42 ?_
  refine rc_put layX1 (ci := 1) rfl tyX1_ok nmX1 5 (by decide) K hw (wc_P cy nt ad _ hq_x0) kf_X1_27 rfl rfl rfl rfl (Nat.le_of_ble_eq_true rfl) (wp_P_5 cy nt ad _ _ hq_x0) dX1_become_45 (fun g_6 eg_6 H locs hw => ?_)
  have hd := hd g_6 eg_6
  exact rk_vret K hw hr hd dX1_become_48
theorem dX0_become_0 : decode cX0_become 0 = .ok (.aload_n 0, 1) := by decide +kernel
theorem dX0_become_1 : decode cX0_become 1 = .ok (.aload_n 1, 1) := by decide +kernel
theorem dX0_become_2 : decode cX0_become 2 = .ok (.getfield 22, 3) := by decide +kernel
theorem dX0_become_5 : decode cX0_become 5 = .ok (.putfield 22, 3) := by decide +kernel
theorem dX0_become_8 : decode cX0_become 8 = .ok (.aload_n 0, 1) := by decide +kernel
theorem dX0_become_9 : decode cX0_become 9 = .ok (.aload_n 1, 1) := by decide +kernel
theorem dX0_become_10 : decode cX0_become 10 = .ok (.getfield 25, 3) := by decide +kernel
theorem dX0_become_13 : decode cX0_become 13 = .ok (.putfield 25, 3) := by decide +kernel
theorem dX0_become_16 : decode cX0_become 16 = .ok (.aload_n 0, 1) := by decide +kernel
theorem dX0_become_17 : decode cX0_become 17 = .ok (.aload_n 1, 1) := by decide +kernel
theorem dX0_become_18 : decode cX0_become 18 = .ok (.getfield 28, 3) := by decide +kernel
theorem dX0_become_21 : decode cX0_become 21 = .ok (.putfield 28, 3) := by decide +kernel
theorem dX0_become_24 : decode cX0_become 24 = .ok (.aload_n 0, 1) := by decide +kernel
theorem dX0_become_25 : decode cX0_become 25 = .ok (.aload_n 1, 1) := by decide +kernel
theorem dX0_become_26 : decode cX0_become 26 = .ok (.getfield 9, 3) := by decide +kernel
theorem dX0_become_29 : decode cX0_become 29 = .ok (.putfield 9, 3) := by decide +kernel
theorem dX0_become_32 : decode cX0_become 32 = .ok (.iconst 0, 1) := by decide +kernel
theorem dX0_become_33 : decode cX0_become 33 = .ok (.istore_n 2, 1) := by decide +kernel
theorem dX0_become_34 : decode cX0_become 34 = .ok (.iload_n 2, 1) := by decide +kernel
theorem dX0_become_35 : decode cX0_become 35 = .ok (.bipush 8, 2) := by decide +kernel
theorem dX0_become_37 : decode cX0_become 37 = .ok (.if_icmp .ge 24, 3) := by decide +kernel
theorem dX0_become_40 : decode cX0_become 40 = .ok (.aload_n 0, 1) := by decide +kernel
theorem dX0_become_41 : decode cX0_become 41 = .ok (.getfield 17, 3) := by decide +kernel
theorem dX0_become_44 : decode cX0_become 44 = .ok (.iload_n 2, 1) := by decide +kernel
theorem dX0_become_45 : decode cX0_become 45 = .ok (.aaload, 1) := by decide +kernel
theorem dX0_become_46 : decode cX0_become 46 = .ok (.aload_n 1, 1) := by decide +kernel
theorem dX0_become_47 : decode cX0_become 47 = .ok (.getfield 17, 3) := by decide +kernel
theorem dX0_become_50 : decode cX0_become 50 = .ok (.iload_n 2, 1) := by decide +kernel
theorem dX0_become_51 : decode cX0_become 51 = .ok (.aaload, 1) := by decide +kernel
theorem dX0_become_52 : decode cX0_become 52 = .ok (.invokevirtual 31, 3) := by decide +kernel
theorem dX0_become_55 : decode cX0_become 55 = .ok (.iinc 2 1, 3) := by decide +kernel
theorem dX0_become_58 : decode cX0_become 58 = .ok (.goto (-24), 3) := by decide +kernel
theorem dX0_become_61 : decode cX0_become 61 = .ok (.return_, 1) := by decide +kernel
set_option maxHeartbeats 4000000 in
set_option maxRecDepth 100000 in
theorem bb_X0_become_34 {p : Program} {l : Launch} {e : Env} {s : State} {m : MethodId} {args : Array Value} {below : List Frame} {meth : Method} {c : Code} {D : va_G} {cy : Nat → ClassId} {nt : Nat} {ad : Nat → Nat} {A : Nat → Prop} {X : Nat → Nat} {Q : Sg → Prop} (K : Kx p s m args meth c cX0_become 3 RX0 D cy) (KX : XC X A s s.heap) (hr : meth.sig.returnType = none)  : ∀ (n : Nat) (x0 : Nat) (x1 : Nat) (x2 : Int32)  (g0 : Sg) (H : Heap) (locs : List Loc) (ls : Array Slot), isB x0 → isB x1 → vv_X0_become_L34 nt Q n x0 x1 x2 g0 → Wd D A s.heap (wsC cy nt ad g0) H locs → lv_has ls 3 [(0, .ref (ad x0)), (1, .ref (ad x1)), (2, .int x2)] → W p l e (rmD 2) s m args below meth c H locs 0 0 (MQ below (va_Qv Q (PostG (wsC cy nt ad) D A) A) args s 0 0 A) (F0 m 34 ls []) := by
  intro n
  induction n with
  | zero => intro _ _ _ _ _ _ _ _ _ hd; exact hd.elim
  | succ n ih =>
    intro x0 x1 x2 g0 H locs ls hq_x0 hq_x1 hd hw hl
    unfold vv_X0_become_L34 at hd
    refine lv_iload_n K.1 K.2.1 dX0_become_34 rfl (lv_at hl 2 rfl) ?_
    refine lv_bipush (v := (8 : Int32)) K.1 K.2.1 dX0_become_35 (by decide) ?_
    refine lv_icmp_ge (tgt := 61) K.1 K.2.1 dX0_become_37 (by decide) (fun h_6 => ?_) (fun h_6 => ?_)
    · have hd := hd.1 h_6
      exact rk_vret K hw hr hd dX0_become_61
    · have hd := hd.2 h_6
      refine lv_aload_n K.1 K.2.1 dX0_become_40 rfl (lv_at hl 0 rfl) ?_
      refine rc_get layX0 (ci := 0) rfl 4 (by decide) (v := .ref (ad (x0 + 3))) K hw (wc_B cy nt ad _ hq_x0) kf_X0_17 rfl dX0_become_41 ?_
      refine lv_iload_n K.1 K.2.1 dX0_become_44 rfl (lv_at hl 2 rfl) ?_
      have hb_7 := hd.1
      have hd := hd.2
      refine rc_aald (t0 := 2) (b := ad (pp (x0 + 3) x2)) K hw (wc_R cy nt ad _ (tB_R hq_x0)) rfl rfl hb_7 dX0_become_45 ?_
      refine lv_aload_n K.1 K.2.1 dX0_become_46 rfl (lv_at hl 1 rfl) ?_
      refine rc_get layX0 (ci := 0) rfl 4 (by decide) (v := .ref (ad (x1 + 3))) K hw (wc_B cy nt ad _ hq_x1) kf_X0_17 rfl dX0_become_47 ?_
      refine lv_iload_n K.1 K.2.1 dX0_become_50 rfl (lv_at hl 2 rfl) ?_
      have hb_8 := hd.1
      have hd := hd.2
      refine rc_aald (t0 := 2) (b := ad (pp (x1 + 3) x2)) K hw (wc_R cy nt ad _ (tB_R hq_x1)) rfl rfl hb_8 dX0_become_51 ?_
      refine rkc_vv (As := [.ref (ad (pp (x1 + 3) x2))]) (rest := []) K KX hw (cc_X1_become l D cy nt ad A X g0 _ (pp (x0 + 3) x2) (pp (x1 + 3) x2) hd) lk_X0_31 (ci := 1) rfl (wc_P cy nt ad _ (tR_P (tB_R hq_x0) hb_7)) ⟨Nat.le_of_ble_eq_true rfl, Nat.le_of_ble_eq_true rfl⟩ ⟨Nat.zero_le _, Nat.zero_le _⟩ rfl hl.1 (Nat.le_of_ble_eq_true rfl) rfl dX0_become_52 (fun g_9 H locs hd hw => ?_)
      obtain ⟨x2_11, ex2_11⟩ : ∃ y : Int32, y = x2 + (1 : Int32) := ⟨_, rfl⟩
      have hd := hd x2_11 ex2_11
      refine lv_iinc (v := x2_11) (lv' := [(2, .int x2_11), (0, .ref (ad x0)), (1, .ref (ad x1))]) K.1 K.2.1 dX0_become_55 hl (k := 2) rfl (by rw [ex2_11]; rfl) (by decide) rfl (fun ls hl => ?_)
      refine lv_goto (tgt := 34) K.1 K.2.1 dX0_become_58 (by decide) ?_
      exact ih x0 x1 x2_11 g_9 _ _ _ hq_x0 hq_x1 hd hw (lv_sub hl [1, 2, 0] rfl)
set_option maxHeartbeats 4000000 in
set_option maxRecDepth 100000 in
theorem cc_X0_become (l : Launch) (D : va_G) (cy : Nat → ClassId) (nt : Nat) (ad : Nat → Nat) (A : Nat → Prop) (X : Nat → Nat)  (g0 : Sg) (Q : Sg → Prop) (x0 : Nat) (x1 : Nat) (hd : vv_X0_become nt x0 x1 g0 Q) : Met l yX0_become (Cond.code yX0_become cX0_become 3 none :: TT) (rmD 2) (va_Pc [.ref (ad x0), .ref (ad x1)] (PreC (wsC cy nt ad) D cy A X g0)) (va_Qv Q (PostG (wsC cy nt ad) D A) A) 0 0 A := by
  unfold vv_X0_become at hd
  refine Met.ofW (cc := cX0_become) (maxL := 3) (ret := none) (by decide) rfl ?_
  intro p e s m args below meth c s₁ B hml hv
  obtain ⟨rfl, ⟨hP, hK0, hD⟩, KX⟩ := hv
  have K : Kx p s m _ meth c cX0_become 3 RX0 D cy := ⟨B.exec, B.bytes, hml, findClass_of_methodNamed B.named, fun w h => atoms_spec (ws := Cond.code yX0_become cX0_become 3 none :: TT) B.pre w (List.mem_cons_of_mem _ h), hK0, B.notSynchronized⟩
  have hw : Wd D A s.heap (wsC cy nt ad g0) s.heap [] := ⟨hP, hD, va_S.rf⟩
  have hr := B.returns
  have hl := lv_entry ([.ref (ad x0), .ref (ad x1)]) (n := 3) (Nat.le_of_ble_eq_true rfl)
  rw [lg_entry_eq]
  generalize (lg_sl ([.ref (ad x0), .ref (ad x1)]) ++ List.replicate (3 - (lg_sl ([.ref (ad x0), .ref (ad x1)])).length) Slot.unset).toArray = ls at hl ⊢
  have hl : lv_has ls 3 [(0, .ref (ad x0)), (1, .ref (ad x1))] := hl
  have hq_x0 := hd.1
  have hd := hd.2
  have hq_x1 := hd.1
  have hd := hd.2
  refine lv_aload_n K.1 K.2.1 dX0_become_0 rfl (lv_at hl 0 rfl) ?_
  refine lv_aload_n K.1 K.2.1 dX0_become_1 rfl (lv_at hl 1 rfl) ?_
  refine rc_get layX0 (ci := 0) rfl 0 (by decide) (v := .int (g0 x1 0)) K hw (wc_B cy nt ad _ hq_x1) kf_X0_22 rfl dX0_become_2 ?_
  refine rc_put layX0 (ci := 0) rfl tyX0_ok nmX0 0 (by decide) K hw (wc_B cy nt ad _ hq_x0) kf_X0_22 rfl rfl rfl rfl (Nat.le_of_ble_eq_true rfl) (wp_B_0 cy nt ad _ _ hq_x0) dX0_become_5 (fun g_1 eg_1 H locs hw => ?_)
  have hd := hd g_1 eg_1
  refine lv_aload_n K.1 K.2.1 dX0_become_8 rfl (lv_at hl 0 rfl) ?_
  refine lv_aload_n K.1 K.2.1 dX0_become_9 rfl (lv_at hl 1 rfl) ?_
  refine rc_get layX0 (ci := 0) rfl 1 (by decide) (v := .int (g_1 x1 1)) K hw (wc_B cy nt ad _ hq_x1) kf_X0_25 rfl dX0_become_10 ?_
  refine rc_put layX0 (ci := 0) rfl tyX0_ok nmX0 1 (by decide) K hw (wc_B cy nt ad _ hq_x0) kf_X0_25 rfl rfl rfl rfl (Nat.le_of_ble_eq_true rfl) (wp_B_1 cy nt ad _ _ hq_x0) dX0_become_13 (fun g_2 eg_2 H locs hw => ?_)
  have hd := hd g_2 eg_2
  refine lv_aload_n K.1 K.2.1 dX0_become_16 rfl (lv_at hl 0 rfl) ?_
  refine lv_aload_n K.1 K.2.1 dX0_become_17 rfl (lv_at hl 1 rfl) ?_
  refine rc_get layX0 (ci := 0) rfl 2 (by decide) (v := .int (g_2 x1 2)) K hw (wc_B cy nt ad _ hq_x1) kf_X0_28 rfl dX0_become_18 ?_
  refine rc_put layX0 (ci := 0) rfl tyX0_ok nmX0 2 (by decide) K hw (wc_B cy nt ad _ hq_x0) kf_X0_28 rfl rfl rfl rfl (Nat.le_of_ble_eq_true rfl) (wp_B_2 cy nt ad _ _ hq_x0) dX0_become_21 (fun g_3 eg_3 H locs hw => ?_)
  have hd := hd g_3 eg_3
  refine lv_aload_n K.1 K.2.1 dX0_become_24 rfl (lv_at hl 0 rfl) ?_
  refine lv_aload_n K.1 K.2.1 dX0_become_25 rfl (lv_at hl 1 rfl) ?_
  refine rc_get layX0 (ci := 0) rfl 3 (by decide) (v := .int (g_3 x1 3)) K hw (wc_B cy nt ad _ hq_x1) kf_X0_9 rfl dX0_become_26 ?_
  refine rc_put layX0 (ci := 0) rfl tyX0_ok nmX0 3 (by decide) K hw (wc_B cy nt ad _ hq_x0) kf_X0_9 rfl rfl rfl rfl (Nat.le_of_ble_eq_true rfl) (wp_B_3 cy nt ad _ _ hq_x0) dX0_become_29 (fun g_4 eg_4 H locs hw => ?_)
  have hd := hd g_4 eg_4
  refine lv_iconst (v := (0 : Int32)) K.1 K.2.1 dX0_become_32 (by decide) ?_
  refine lv_topi (fun x2_5 ex2_5 => ?_)
  have hd := hd x2_5 ex2_5
  refine lv_istore_n (lv' := [(2, .int x2_5), (0, .ref (ad x0)), (1, .ref (ad x1))]) K.1 K.2.1 dX0_become_33 rfl hl (by decide) rfl (fun ls hl => ?_)
  obtain ⟨n9, hd⟩ := hd
  exact bb_X0_become_34 K KX hr   n9 x0 x1 x2_5 g_4 _ _ _ hq_x0 hq_x1 hd hw (lv_sub hl [1, 2, 0] rfl)
theorem dX0_standingBits_0 : decode cX0_standingBits 0 = .ok (.iconst 0, 1) := by decide +kernel
theorem dX0_standingBits_1 : decode cX0_standingBits 1 = .ok (.istore_n 1, 1) := by decide +kernel
theorem dX0_standingBits_2 : decode cX0_standingBits 2 = .ok (.iconst 0, 1) := by decide +kernel
theorem dX0_standingBits_3 : decode cX0_standingBits 3 = .ok (.istore_n 2, 1) := by decide +kernel
theorem dX0_standingBits_4 : decode cX0_standingBits 4 = .ok (.iload_n 2, 1) := by decide +kernel
theorem dX0_standingBits_5 : decode cX0_standingBits 5 = .ok (.aload_n 0, 1) := by decide +kernel
theorem dX0_standingBits_6 : decode cX0_standingBits 6 = .ok (.getfield 28, 3) := by decide +kernel
theorem dX0_standingBits_9 : decode cX0_standingBits 9 = .ok (.if_icmp .ge 31, 3) := by decide +kernel
theorem dX0_standingBits_12 : decode cX0_standingBits 12 = .ok (.iload_n 2, 1) := by decide +kernel
theorem dX0_standingBits_13 : decode cX0_standingBits 13 = .ok (.bipush 8, 2) := by decide +kernel
theorem dX0_standingBits_15 : decode cX0_standingBits 15 = .ok (.if_icmp .ge 25, 3) := by decide +kernel
theorem dX0_standingBits_18 : decode cX0_standingBits 18 = .ok (.iload_n 1, 1) := by decide +kernel
theorem dX0_standingBits_19 : decode cX0_standingBits 19 = .ok (.iconst 1, 1) := by decide +kernel
theorem dX0_standingBits_20 : decode cX0_standingBits 20 = .ok (.aload_n 0, 1) := by decide +kernel
theorem dX0_standingBits_21 : decode cX0_standingBits 21 = .ok (.getfield 17, 3) := by decide +kernel
theorem dX0_standingBits_24 : decode cX0_standingBits 24 = .ok (.iload_n 2, 1) := by decide +kernel
theorem dX0_standingBits_25 : decode cX0_standingBits 25 = .ok (.aaload, 1) := by decide +kernel
theorem dX0_standingBits_26 : decode cX0_standingBits 26 = .ok (.getfield 35, 3) := by decide +kernel
theorem dX0_standingBits_29 : decode cX0_standingBits 29 = .ok (.isub, 1) := by decide +kernel
theorem dX0_standingBits_30 : decode cX0_standingBits 30 = .ok (.iload_n 2, 1) := by decide +kernel
theorem dX0_standingBits_31 : decode cX0_standingBits 31 = .ok (.ishl, 1) := by decide +kernel
theorem dX0_standingBits_32 : decode cX0_standingBits 32 = .ok (.ior, 1) := by decide +kernel
theorem dX0_standingBits_33 : decode cX0_standingBits 33 = .ok (.istore_n 1, 1) := by decide +kernel
theorem dX0_standingBits_34 : decode cX0_standingBits 34 = .ok (.iinc 2 1, 3) := by decide +kernel
theorem dX0_standingBits_37 : decode cX0_standingBits 37 = .ok (.goto (-33), 3) := by decide +kernel
theorem dX0_standingBits_40 : decode cX0_standingBits 40 = .ok (.iload_n 1, 1) := by decide +kernel
theorem dX0_standingBits_41 : decode cX0_standingBits 41 = .ok (.ireturn, 1) := by decide +kernel
set_option maxHeartbeats 4000000 in
set_option maxRecDepth 100000 in
theorem bb_X0_standingBits_4 {p : Program} {l : Launch} {e : Env} {s : State} {m : MethodId} {args : Array Value} {below : List Frame} {meth : Method} {c : Code} {D : va_G} {cy : Nat → ClassId} {nt : Nat} {ad : Nat → Nat} {A : Nat → Prop} {X : Nat → Nat} {Q : Int32 → Sg → Prop} (K : Kx p s m args meth c cX0_standingBits 3 RX0 D cy) (KX : XC X A s s.heap) (hr : meth.sig.returnType = (some .int))  : ∀ (n : Nat) (x0 : Nat) (x1 : Int32) (x2 : Int32)  (g0 : Sg) (H : Heap) (locs : List Loc) (ls : Array Slot), isB x0 → vv_X0_standingBits_L4 nt Q n x0 x1 x2 g0 → Wd D A s.heap (wsC cy nt ad g0) H locs → lv_has ls 3 [(0, .ref (ad x0)), (1, .int x1), (2, .int x2)] → W p l e (rmD 1) s m args below meth c H locs 0 0 (MQ below (va_Qi Q (PostG (wsC cy nt ad) D A) A) args s 0 0 A) (F0 m 4 ls []) := by
  intro n
  induction n with
  | zero => intro _ _ _ _ _ _ _ _ hd; exact hd.elim
  | succ n ih =>
    intro x0 x1 x2 g0 H locs ls hq_x0 hd hw hl
    unfold vv_X0_standingBits_L4 at hd
    refine lv_iload_n K.1 K.2.1 dX0_standingBits_4 rfl (lv_at hl 2 rfl) ?_
    refine lv_aload_n K.1 K.2.1 dX0_standingBits_5 rfl (lv_at hl 0 rfl) ?_
    refine rc_get layX0 (ci := 0) rfl 2 (by decide) (v := .int (g0 x0 2)) K hw (wc_B cy nt ad _ hq_x0) kf_X0_28 rfl dX0_standingBits_6 ?_
    refine lv_icmp_ge (tgt := 40) K.1 K.2.1 dX0_standingBits_9 (by decide) (fun h_3 => ?_) (fun h_3 => ?_)
    · have hd := hd.1 h_3
      refine lv_iload_n K.1 K.2.1 dX0_standingBits_40 rfl (lv_at hl 1 rfl) ?_
      exact rk_iret K hw hr hd dX0_standingBits_41
    · have hd := hd.2 h_3
      refine lv_iload_n K.1 K.2.1 dX0_standingBits_12 rfl (lv_at hl 2 rfl) ?_
      refine lv_bipush (v := (8 : Int32)) K.1 K.2.1 dX0_standingBits_13 (by decide) ?_
      refine lv_icmp_ge (tgt := 40) K.1 K.2.1 dX0_standingBits_15 (by decide) (fun h_4 => ?_) (fun h_4 => ?_)
      · have hd := hd.1 h_4
        refine lv_iload_n K.1 K.2.1 dX0_standingBits_40 rfl (lv_at hl 1 rfl) ?_
        exact rk_iret K hw hr hd dX0_standingBits_41
      · have hd := hd.2 h_4
        refine lv_iload_n K.1 K.2.1 dX0_standingBits_18 rfl (lv_at hl 1 rfl) ?_
        refine lv_iconst (v := (1 : Int32)) K.1 K.2.1 dX0_standingBits_19 (by decide) ?_
        refine lv_aload_n K.1 K.2.1 dX0_standingBits_20 rfl (lv_at hl 0 rfl) ?_
        refine rc_get layX0 (ci := 0) rfl 4 (by decide) (v := .ref (ad (x0 + 3))) K hw (wc_B cy nt ad _ hq_x0) kf_X0_17 rfl dX0_standingBits_21 ?_
        refine lv_iload_n K.1 K.2.1 dX0_standingBits_24 rfl (lv_at hl 2 rfl) ?_
        have hb_5 := hd.1
        have hd := hd.2
        refine rc_aald (t0 := 2) (b := ad (pp (x0 + 3) x2)) K hw (wc_R cy nt ad _ (tB_R hq_x0)) rfl rfl hb_5 dX0_standingBits_25 ?_
        refine rc_get layX1 (ci := 1) rfl 5 (by decide) (v := .int (g0 (pp (x0 + 3) x2) 5)) K hw (wc_P cy nt ad _ (tR_P (tB_R hq_x0) hb_5)) kf_X0_35 rfl dX0_standingBits_26 ?_
        refine lv_isub K.1 K.2.1 dX0_standingBits_29 ?_
        refine lv_iload_n K.1 K.2.1 dX0_standingBits_30 rfl (lv_at hl 2 rfl) ?_
        refine lv_ishl K.1 K.2.1 dX0_standingBits_31 ?_
        refine lv_ior K.1 K.2.1 dX0_standingBits_32 ?_
        refine lv_topi (fun x1_6 ex1_6 => ?_)
        have hd := hd x1_6 ex1_6
        refine lv_istore_n (lv' := [(1, .int x1_6), (0, .ref (ad x0)), (2, .int x2)]) K.1 K.2.1 dX0_standingBits_33 rfl hl (by decide) rfl (fun ls hl => ?_)
        obtain ⟨x2_7, ex2_7⟩ : ∃ y : Int32, y = x2 + (1 : Int32) := ⟨_, rfl⟩
        have hd := hd x2_7 ex2_7
        refine lv_iinc (v := x2_7) (lv' := [(2, .int x2_7), (1, .int x1_6), (0, .ref (ad x0))]) K.1 K.2.1 dX0_standingBits_34 hl (k := 2) rfl (by rw [ex2_7]; rfl) (by decide) rfl (fun ls hl => ?_)
        refine lv_goto (tgt := 4) K.1 K.2.1 dX0_standingBits_37 (by decide) ?_
        exact ih x0 x1_6 x2_7 g0 _ _ _ hq_x0 hd hw (lv_sub hl [2, 1, 0] rfl)
set_option maxHeartbeats 4000000 in
set_option maxRecDepth 100000 in
theorem cc_X0_standingBits (l : Launch) (D : va_G) (cy : Nat → ClassId) (nt : Nat) (ad : Nat → Nat) (A : Nat → Prop) (X : Nat → Nat)  (g0 : Sg) (Q : Int32 → Sg → Prop) (x0 : Nat) (hd : vv_X0_standingBits nt x0 g0 Q) : Met l yX0_standingBits (Cond.code yX0_standingBits cX0_standingBits 3 (some .int) :: TT) (rmD 1) (va_Pc [.ref (ad x0)] (PreC (wsC cy nt ad) D cy A X g0)) (va_Qi Q (PostG (wsC cy nt ad) D A) A) 0 0 A := by
  unfold vv_X0_standingBits at hd
  refine Met.ofW (cc := cX0_standingBits) (maxL := 3) (ret := (some .int)) (by decide) rfl ?_
  intro p e s m args below meth c s₁ B hml hv
  obtain ⟨rfl, ⟨hP, hK0, hD⟩, KX⟩ := hv
  have K : Kx p s m _ meth c cX0_standingBits 3 RX0 D cy := ⟨B.exec, B.bytes, hml, findClass_of_methodNamed B.named, fun w h => atoms_spec (ws := Cond.code yX0_standingBits cX0_standingBits 3 (some .int) :: TT) B.pre w (List.mem_cons_of_mem _ h), hK0, B.notSynchronized⟩
  have hw : Wd D A s.heap (wsC cy nt ad g0) s.heap [] := ⟨hP, hD, va_S.rf⟩
  have hr := B.returns
  have hl := lv_entry ([.ref (ad x0)]) (n := 3) (Nat.le_of_ble_eq_true rfl)
  rw [lg_entry_eq]
  generalize (lg_sl ([.ref (ad x0)]) ++ List.replicate (3 - (lg_sl ([.ref (ad x0)])).length) Slot.unset).toArray = ls at hl ⊢
  have hl : lv_has ls 3 [(0, .ref (ad x0))] := hl
  have hq_x0 := hd.1
  have hd := hd.2
  refine lv_iconst (v := (0 : Int32)) K.1 K.2.1 dX0_standingBits_0 (by decide) ?_
  refine lv_topi (fun x1_1 ex1_1 => ?_)
  have hd := hd x1_1 ex1_1
  refine lv_istore_n (lv' := [(1, .int x1_1), (0, .ref (ad x0))]) K.1 K.2.1 dX0_standingBits_1 rfl hl (by decide) rfl (fun ls hl => ?_)
  refine lv_iconst (v := (0 : Int32)) K.1 K.2.1 dX0_standingBits_2 (by decide) ?_
  refine lv_topi (fun x2_2 ex2_2 => ?_)
  have hd := hd x2_2 ex2_2
  refine lv_istore_n (lv' := [(2, .int x2_2), (1, .int x1_1), (0, .ref (ad x0))]) K.1 K.2.1 dX0_standingBits_3 rfl hl (by decide) rfl (fun ls hl => ?_)
  obtain ⟨n9, hd⟩ := hd
  exact bb_X0_standingBits_4 K KX hr   n9 x0 x1_1 x2_2 g0 _ _ _ hq_x0 hd hw (lv_sub hl [2, 1, 0] rfl)
theorem dX1_begin_0 : decode cX1_begin 0 = .ok (.aload_n 0, 1) := by decide +kernel
theorem dX1_begin_1 : decode cX1_begin 1 = .ok (.iload_n 1, 1) := by decide +kernel
theorem dX1_begin_2 : decode cX1_begin 2 = .ok (.putfield 9, 3) := by decide +kernel
theorem dX1_begin_5 : decode cX1_begin 5 = .ok (.aload_n 0, 1) := by decide +kernel
theorem dX1_begin_6 : decode cX1_begin 6 = .ok (.iload_n 2, 1) := by decide +kernel
theorem dX1_begin_7 : decode cX1_begin 7 = .ok (.putfield 15, 3) := by decide +kernel
theorem dX1_begin_10 : decode cX1_begin 10 = .ok (.aload_n 0, 1) := by decide +kernel
theorem dX1_begin_11 : decode cX1_begin 11 = .ok (.iload_n 3, 1) := by decide +kernel
theorem dX1_begin_12 : decode cX1_begin 12 = .ok (.putfield 18, 3) := by decide +kernel
theorem dX1_begin_15 : decode cX1_begin 15 = .ok (.aload_n 0, 1) := by decide +kernel
theorem dX1_begin_16 : decode cX1_begin 16 = .ok (.iconst 0, 1) := by decide +kernel
theorem dX1_begin_17 : decode cX1_begin 17 = .ok (.putfield 21, 3) := by decide +kernel
theorem dX1_begin_20 : decode cX1_begin 20 = .ok (.aload_n 0, 1) := by decide +kernel
theorem dX1_begin_21 : decode cX1_begin 21 = .ok (.bipush 50, 2) := by decide +kernel
theorem dX1_begin_23 : decode cX1_begin 23 = .ok (.putfield 24, 3) := by decide +kernel
theorem dX1_begin_26 : decode cX1_begin 26 = .ok (.aload_n 0, 1) := by decide +kernel
theorem dX1_begin_27 : decode cX1_begin 27 = .ok (.iconst 0, 1) := by decide +kernel
theorem dX1_begin_28 : decode cX1_begin 28 = .ok (.putfield 27, 3) := by decide +kernel
theorem dX1_begin_31 : decode cX1_begin 31 = .ok (.return_, 1) := by decide +kernel
set_option maxHeartbeats 4000000 in
set_option maxRecDepth 100000 in
theorem cc_X1_begin (l : Launch) (D : va_G) (cy : Nat → ClassId) (nt : Nat) (ad : Nat → Nat) (A : Nat → Prop) (X : Nat → Nat)  (g0 : Sg) (Q : Sg → Prop) (x0 : Nat) (x1 : Int32) (x2 : Int32) (x3 : Int32) (hd : vv_X1_begin nt x0 x1 x2 x3 g0 Q) : Met l yX1_begin (Cond.code yX1_begin cX1_begin 4 none :: TT) (rmD 1) (va_Pc [.ref (ad x0), .int x1, .int x2, .int x3] (PreC (wsC cy nt ad) D cy A X g0)) (va_Qv Q (PostG (wsC cy nt ad) D A) A) 0 0 A := by
  unfold vv_X1_begin at hd
  refine Met.ofW (cc := cX1_begin) (maxL := 4) (ret := none) (by decide) rfl ?_
  intro p e s m args below meth c s₁ B hml hv
  obtain ⟨rfl, ⟨hP, hK0, hD⟩, KX⟩ := hv
  have K : Kx p s m _ meth c cX1_begin 4 RX1 D cy := ⟨B.exec, B.bytes, hml, findClass_of_methodNamed B.named, fun w h => atoms_spec (ws := Cond.code yX1_begin cX1_begin 4 none :: TT) B.pre w (List.mem_cons_of_mem _ h), hK0, B.notSynchronized⟩
  have hw : Wd D A s.heap (wsC cy nt ad g0) s.heap [] := ⟨hP, hD, va_S.rf⟩
  have hr := B.returns
  have hl := lv_entry ([.ref (ad x0), .int x1, .int x2, .int x3]) (n := 4) (Nat.le_of_ble_eq_true rfl)
  rw [lg_entry_eq]
  generalize (lg_sl ([.ref (ad x0), .int x1, .int x2, .int x3]) ++ List.replicate (4 - (lg_sl ([.ref (ad x0), .int x1, .int x2, .int x3])).length) Slot.unset).toArray = ls at hl ⊢
  have hl : lv_has ls 4 [(0, .ref (ad x0)), (1, .int x1), (2, .int x2), (3, .int x3)] := hl
  have hq_x0 := hd.1
  have hd := hd.2
  refine lv_aload_n K.1 K.2.1 dX1_begin_0 rfl (lv_at hl 0 rfl) ?_
  refine lv_iload_n K.1 K.2.1 dX1_begin_1 rfl (lv_at hl 1 rfl) ?_
  refine rc_put layX1 (ci := 1) rfl tyX1_ok nmX1 0 (by decide) K hw (wc_P cy nt ad _ hq_x0) kf_X1_9 rfl rfl rfl rfl (Nat.le_of_ble_eq_true rfl) (wp_P_0 cy nt ad _ _ hq_x0) dX1_begin_2 (fun g_1 eg_1 H locs hw => ?_)
  have hd := hd g_1 eg_1
  refine lv_aload_n K.1 K.2.1 dX1_begin_5 rfl (lv_at hl 0 rfl) ?_
  refine lv_iload_n K.1 K.2.1 dX1_begin_6 rfl (lv_at hl 2 rfl) ?_
  refine rc_put layX1 (ci := 1) rfl tyX1_ok nmX1 1 (by decide) K hw (wc_P cy nt ad _ hq_x0) kf_X1_15 rfl rfl rfl rfl (Nat.le_of_ble_eq_true rfl) (wp_P_1 cy nt ad _ _ hq_x0) dX1_begin_7 (fun g_2 eg_2 H locs hw => ?_)
  have hd := hd g_2 eg_2
  refine lv_aload_n K.1 K.2.1 dX1_begin_10 rfl (lv_at hl 0 rfl) ?_
  refine lv_iload_n K.1 K.2.1 dX1_begin_11 rfl (lv_at hl 3 rfl) ?_
  refine rc_put layX1 (ci := 1) rfl tyX1_ok nmX1 2 (by decide) K hw (wc_P cy nt ad _ hq_x0) kf_X1_18 rfl rfl rfl rfl (Nat.le_of_ble_eq_true rfl) (wp_P_2 cy nt ad _ _ hq_x0) dX1_begin_12 (fun g_3 eg_3 H locs hw => ?_)
  have hd := hd g_3 eg_3
  refine lv_aload_n K.1 K.2.1 dX1_begin_15 rfl (lv_at hl 0 rfl) ?_
  refine lv_iconst (v := (0 : Int32)) K.1 K.2.1 dX1_begin_16 (by decide) ?_
  refine rc_put layX1 (ci := 1) rfl tyX1_ok nmX1 3 (by decide) K hw (wc_P cy nt ad _ hq_x0) kf_X1_21 rfl rfl rfl rfl (Nat.le_of_ble_eq_true rfl) (wp_P_3 cy nt ad _ _ hq_x0) dX1_begin_17 (fun g_4 eg_4 H locs hw => ?_)
  have hd := hd g_4 eg_4
  refine lv_aload_n K.1 K.2.1 dX1_begin_20 rfl (lv_at hl 0 rfl) ?_
  refine lv_bipush (v := (50 : Int32)) K.1 K.2.1 dX1_begin_21 (by decide) ?_
  refine rc_put layX1 (ci := 1) rfl tyX1_ok nmX1 4 (by decide) K hw (wc_P cy nt ad _ hq_x0) kf_X1_24 rfl rfl rfl rfl (Nat.le_of_ble_eq_true rfl) (wp_P_4 cy nt ad _ _ hq_x0) dX1_begin_23 (fun g_5 eg_5 H locs hw => ?_)
  have hd := hd g_5 eg_5
  refine lv_aload_n K.1 K.2.1 dX1_begin_26 rfl (lv_at hl 0 rfl) ?_
  refine lv_iconst (v := (0 : Int32)) K.1 K.2.1 dX1_begin_27 (by decide) ?_
  refine rc_put layX1 (ci := 1) rfl tyX1_ok nmX1 5 (by decide) K hw (wc_P cy nt ad _ hq_x0) kf_X1_27 rfl rfl rfl rfl (Nat.le_of_ble_eq_true rfl) (wp_P_5 cy nt ad _ _ hq_x0) dX1_begin_28 (fun g_6 eg_6 H locs hw => ?_)
  have hd := hd g_6 eg_6
  exact rk_vret K hw hr hd dX1_begin_31
theorem dX1_get_0 : decode cX1_get 0 = .ok (.iload_n 1, 1) := by decide +kernel
theorem dX1_get_1 : decode cX1_get 1 = .ok (.tableswitch 60 2 6 #[35, 40, 45, 50, 55], 35) := by decide +kernel
theorem dX1_get_36 : decode cX1_get 36 = .ok (.aload_n 0, 1) := by decide +kernel
theorem dX1_get_37 : decode cX1_get 37 = .ok (.getfield 15, 3) := by decide +kernel
theorem dX1_get_40 : decode cX1_get 40 = .ok (.ireturn, 1) := by decide +kernel
theorem dX1_get_41 : decode cX1_get 41 = .ok (.aload_n 0, 1) := by decide +kernel
theorem dX1_get_42 : decode cX1_get 42 = .ok (.getfield 18, 3) := by decide +kernel
theorem dX1_get_45 : decode cX1_get 45 = .ok (.ireturn, 1) := by decide +kernel
theorem dX1_get_46 : decode cX1_get 46 = .ok (.aload_n 0, 1) := by decide +kernel
theorem dX1_get_47 : decode cX1_get 47 = .ok (.getfield 21, 3) := by decide +kernel
theorem dX1_get_50 : decode cX1_get 50 = .ok (.ireturn, 1) := by decide +kernel
theorem dX1_get_51 : decode cX1_get 51 = .ok (.aload_n 0, 1) := by decide +kernel
theorem dX1_get_52 : decode cX1_get 52 = .ok (.getfield 24, 3) := by decide +kernel
theorem dX1_get_55 : decode cX1_get 55 = .ok (.ireturn, 1) := by decide +kernel
theorem dX1_get_56 : decode cX1_get 56 = .ok (.aload_n 0, 1) := by decide +kernel
theorem dX1_get_57 : decode cX1_get 57 = .ok (.getfield 27, 3) := by decide +kernel
theorem dX1_get_60 : decode cX1_get 60 = .ok (.ireturn, 1) := by decide +kernel
theorem dX1_get_61 : decode cX1_get 61 = .ok (.aload_n 0, 1) := by decide +kernel
theorem dX1_get_62 : decode cX1_get 62 = .ok (.getfield 9, 3) := by decide +kernel
theorem dX1_get_65 : decode cX1_get 65 = .ok (.ireturn, 1) := by decide +kernel
set_option maxHeartbeats 4000000 in
set_option maxRecDepth 100000 in
theorem cc_X1_get (l : Launch) (D : va_G) (cy : Nat → ClassId) (nt : Nat) (ad : Nat → Nat) (A : Nat → Prop) (X : Nat → Nat)  (g0 : Sg) (Q : Int32 → Sg → Prop) (x0 : Nat) (x1 : Int32) (hd : vv_X1_get nt x0 x1 g0 Q) : Met l yX1_get (Cond.code yX1_get cX1_get 2 (some .int) :: TT) (rmD 1) (va_Pc [.ref (ad x0), .int x1] (PreC (wsC cy nt ad) D cy A X g0)) (va_Qi Q (PostG (wsC cy nt ad) D A) A) 0 0 A := by
  unfold vv_X1_get at hd
  refine Met.ofW (cc := cX1_get) (maxL := 2) (ret := (some .int)) (by decide) rfl ?_
  intro p e s m args below meth c s₁ B hml hv
  obtain ⟨rfl, ⟨hP, hK0, hD⟩, KX⟩ := hv
  have K : Kx p s m _ meth c cX1_get 2 RX1 D cy := ⟨B.exec, B.bytes, hml, findClass_of_methodNamed B.named, fun w h => atoms_spec (ws := Cond.code yX1_get cX1_get 2 (some .int) :: TT) B.pre w (List.mem_cons_of_mem _ h), hK0, B.notSynchronized⟩
  have hw : Wd D A s.heap (wsC cy nt ad g0) s.heap [] := ⟨hP, hD, va_S.rf⟩
  have hr := B.returns
  have hl := lv_entry ([.ref (ad x0), .int x1]) (n := 2) (Nat.le_of_ble_eq_true rfl)
  rw [lg_entry_eq]
  generalize (lg_sl ([.ref (ad x0), .int x1]) ++ List.replicate (2 - (lg_sl ([.ref (ad x0), .int x1])).length) Slot.unset).toArray = ls at hl ⊢
  have hl : lv_has ls 2 [(0, .ref (ad x0)), (1, .int x1)] := hl
  have hq_x0 := hd.1
  have hd := hd.2
  refine lv_iload_n K.1 K.2.1 dX1_get_0 rfl (lv_at hl 1 rfl) ?_
  rcases Classical.em (x1 = (2 : Int32)) with h_2 | h_2
  · have hd := hd.1 h_2
    refine lv_tableIn (tgt := 36) K.1 K.2.1 dX1_get_1 (by rw [h_2]; decide) (by rw [h_2]; decide) (off := 35) (by rw [h_2]; rfl) (by decide) ?_
    refine lv_aload_n K.1 K.2.1 dX1_get_36 rfl (lv_at hl 0 rfl) ?_
    refine rc_get layX1 (ci := 1) rfl 1 (by decide) (v := .int (g0 x0 1)) K hw (wc_P cy nt ad _ hq_x0) kf_X1_15 rfl dX1_get_37 ?_
    exact rk_iret K hw hr hd dX1_get_40
  rcases Classical.em (x1 = (3 : Int32)) with h_3 | h_3
  · have hd := hd.2.1 h_3
    refine lv_tableIn (tgt := 41) K.1 K.2.1 dX1_get_1 (by rw [h_3]; decide) (by rw [h_3]; decide) (off := 40) (by rw [h_3]; rfl) (by decide) ?_
    refine lv_aload_n K.1 K.2.1 dX1_get_41 rfl (lv_at hl 0 rfl) ?_
    refine rc_get layX1 (ci := 1) rfl 2 (by decide) (v := .int (g0 x0 2)) K hw (wc_P cy nt ad _ hq_x0) kf_X1_18 rfl dX1_get_42 ?_
    exact rk_iret K hw hr hd dX1_get_45
  rcases Classical.em (x1 = (4 : Int32)) with h_4 | h_4
  · have hd := hd.2.2.1 h_4
    refine lv_tableIn (tgt := 46) K.1 K.2.1 dX1_get_1 (by rw [h_4]; decide) (by rw [h_4]; decide) (off := 45) (by rw [h_4]; rfl) (by decide) ?_
    refine lv_aload_n K.1 K.2.1 dX1_get_46 rfl (lv_at hl 0 rfl) ?_
    refine rc_get layX1 (ci := 1) rfl 3 (by decide) (v := .int (g0 x0 3)) K hw (wc_P cy nt ad _ hq_x0) kf_X1_21 rfl dX1_get_47 ?_
    exact rk_iret K hw hr hd dX1_get_50
  rcases Classical.em (x1 = (5 : Int32)) with h_5 | h_5
  · have hd := hd.2.2.2.1 h_5
    refine lv_tableIn (tgt := 51) K.1 K.2.1 dX1_get_1 (by rw [h_5]; decide) (by rw [h_5]; decide) (off := 50) (by rw [h_5]; rfl) (by decide) ?_
    refine lv_aload_n K.1 K.2.1 dX1_get_51 rfl (lv_at hl 0 rfl) ?_
    refine rc_get layX1 (ci := 1) rfl 4 (by decide) (v := .int (g0 x0 4)) K hw (wc_P cy nt ad _ hq_x0) kf_X1_24 rfl dX1_get_52 ?_
    exact rk_iret K hw hr hd dX1_get_55
  rcases Classical.em (x1 = (6 : Int32)) with h_6 | h_6
  · have hd := hd.2.2.2.2.1 h_6
    refine lv_tableIn (tgt := 56) K.1 K.2.1 dX1_get_1 (by rw [h_6]; decide) (by rw [h_6]; decide) (off := 55) (by rw [h_6]; rfl) (by decide) ?_
    refine lv_aload_n K.1 K.2.1 dX1_get_56 rfl (lv_at hl 0 rfl) ?_
    refine rc_get layX1 (ci := 1) rfl 5 (by decide) (v := .int (g0 x0 5)) K hw (wc_P cy nt ad _ hq_x0) kf_X1_27 rfl dX1_get_57 ?_
    exact rk_iret K hw hr hd dX1_get_60
  have hd := hd.2.2.2.2.2 h_2 h_3 h_4 h_5 h_6
  have qh_2 := lv_neT (k := (2 : Int32)) (a := 2) h_2 (by decide)
  have qh_3 := lv_neT (k := (3 : Int32)) (a := 3) h_3 (by decide)
  have qh_4 := lv_neT (k := (4 : Int32)) (a := 4) h_4 (by decide)
  have qh_5 := lv_neT (k := (5 : Int32)) (a := 5) h_5 (by decide)
  have qh_6 := lv_neT (k := (6 : Int32)) (a := 6) h_6 (by decide)
  refine lv_tableOut (tgt := 61) K.1 K.2.1 dX1_get_1 (by omega) (by decide) ?_
  refine lv_aload_n K.1 K.2.1 dX1_get_61 rfl (lv_at hl 0 rfl) ?_
  refine rc_get layX1 (ci := 1) rfl 0 (by decide) (v := .int (g0 x0 0)) K hw (wc_P cy nt ad _ hq_x0) kf_X1_9 rfl dX1_get_62 ?_
  exact rk_iret K hw hr hd dX1_get_65
theorem dX1_put_0 : decode cX1_put 0 = .ok (.iload_n 1, 1) := by decide +kernel
theorem dX1_put_1 : decode cX1_put 1 = .ok (.tableswitch 75 2 6 #[35, 43, 51, 59, 67], 35) := by decide +kernel
theorem dX1_put_36 : decode cX1_put 36 = .ok (.aload_n 0, 1) := by decide +kernel
theorem dX1_put_37 : decode cX1_put 37 = .ok (.iload_n 2, 1) := by decide +kernel
theorem dX1_put_38 : decode cX1_put 38 = .ok (.putfield 15, 3) := by decide +kernel
theorem dX1_put_41 : decode cX1_put 41 = .ok (.goto 40, 3) := by decide +kernel
theorem dX1_put_44 : decode cX1_put 44 = .ok (.aload_n 0, 1) := by decide +kernel
theorem dX1_put_45 : decode cX1_put 45 = .ok (.iload_n 2, 1) := by decide +kernel
theorem dX1_put_46 : decode cX1_put 46 = .ok (.putfield 18, 3) := by decide +kernel
theorem dX1_put_49 : decode cX1_put 49 = .ok (.goto 32, 3) := by decide +kernel
theorem dX1_put_52 : decode cX1_put 52 = .ok (.aload_n 0, 1) := by decide +kernel
theorem dX1_put_53 : decode cX1_put 53 = .ok (.iload_n 2, 1) := by decide +kernel
theorem dX1_put_54 : decode cX1_put 54 = .ok (.putfield 21, 3) := by decide +kernel
theorem dX1_put_57 : decode cX1_put 57 = .ok (.goto 24, 3) := by decide +kernel
theorem dX1_put_60 : decode cX1_put 60 = .ok (.aload_n 0, 1) := by decide +kernel
theorem dX1_put_61 : decode cX1_put 61 = .ok (.iload_n 2, 1) := by decide +kernel
theorem dX1_put_62 : decode cX1_put 62 = .ok (.putfield 24, 3) := by decide +kernel
theorem dX1_put_65 : decode cX1_put 65 = .ok (.goto 16, 3) := by decide +kernel
theorem dX1_put_68 : decode cX1_put 68 = .ok (.aload_n 0, 1) := by decide +kernel
theorem dX1_put_69 : decode cX1_put 69 = .ok (.iload_n 2, 1) := by decide +kernel
theorem dX1_put_70 : decode cX1_put 70 = .ok (.putfield 27, 3) := by decide +kernel
theorem dX1_put_73 : decode cX1_put 73 = .ok (.goto 8, 3) := by decide +kernel
theorem dX1_put_76 : decode cX1_put 76 = .ok (.aload_n 0, 1) := by decide +kernel
theorem dX1_put_77 : decode cX1_put 77 = .ok (.iload_n 2, 1) := by decide +kernel
theorem dX1_put_78 : decode cX1_put 78 = .ok (.putfield 9, 3) := by decide +kernel
theorem dX1_put_81 : decode cX1_put 81 = .ok (.return_, 1) := by decide +kernel
set_option maxHeartbeats 4000000 in
set_option maxRecDepth 100000 in
theorem cc_X1_put (l : Launch) (D : va_G) (cy : Nat → ClassId) (nt : Nat) (ad : Nat → Nat) (A : Nat → Prop) (X : Nat → Nat)  (g0 : Sg) (Q : Sg → Prop) (x0 : Nat) (x1 : Int32) (x2 : Int32) (hd : vv_X1_put nt x0 x1 x2 g0 Q) : Met l yX1_put (Cond.code yX1_put cX1_put 3 none :: TT) (rmD 1) (va_Pc [.ref (ad x0), .int x1, .int x2] (PreC (wsC cy nt ad) D cy A X g0)) (va_Qv Q (PostG (wsC cy nt ad) D A) A) 0 0 A := by
  unfold vv_X1_put at hd
  refine Met.ofW (cc := cX1_put) (maxL := 3) (ret := none) (by decide) rfl ?_
  intro p e s m args below meth c s₁ B hml hv
  obtain ⟨rfl, ⟨hP, hK0, hD⟩, KX⟩ := hv
  have K : Kx p s m _ meth c cX1_put 3 RX1 D cy := ⟨B.exec, B.bytes, hml, findClass_of_methodNamed B.named, fun w h => atoms_spec (ws := Cond.code yX1_put cX1_put 3 none :: TT) B.pre w (List.mem_cons_of_mem _ h), hK0, B.notSynchronized⟩
  have hw : Wd D A s.heap (wsC cy nt ad g0) s.heap [] := ⟨hP, hD, va_S.rf⟩
  have hr := B.returns
  have hl := lv_entry ([.ref (ad x0), .int x1, .int x2]) (n := 3) (Nat.le_of_ble_eq_true rfl)
  rw [lg_entry_eq]
  generalize (lg_sl ([.ref (ad x0), .int x1, .int x2]) ++ List.replicate (3 - (lg_sl ([.ref (ad x0), .int x1, .int x2])).length) Slot.unset).toArray = ls at hl ⊢
  have hl : lv_has ls 3 [(0, .ref (ad x0)), (1, .int x1), (2, .int x2)] := hl
  have hq_x0 := hd.1
  have hd := hd.2
  refine lv_iload_n K.1 K.2.1 dX1_put_0 rfl (lv_at hl 1 rfl) ?_
  rcases Classical.em (x1 = (2 : Int32)) with h_2 | h_2
  · have hd := hd.1 h_2
    refine lv_tableIn (tgt := 36) K.1 K.2.1 dX1_put_1 (by rw [h_2]; decide) (by rw [h_2]; decide) (off := 35) (by rw [h_2]; rfl) (by decide) ?_
    refine lv_aload_n K.1 K.2.1 dX1_put_36 rfl (lv_at hl 0 rfl) ?_
    refine lv_iload_n K.1 K.2.1 dX1_put_37 rfl (lv_at hl 2 rfl) ?_
    refine rc_put layX1 (ci := 1) rfl tyX1_ok nmX1 1 (by decide) K hw (wc_P cy nt ad _ hq_x0) kf_X1_15 rfl rfl rfl rfl (Nat.le_of_ble_eq_true rfl) (wp_P_1 cy nt ad _ _ hq_x0) dX1_put_38 (fun g_3 eg_3 H locs hw => ?_)
    have hd := hd g_3 eg_3
    refine lv_goto (tgt := 81) K.1 K.2.1 dX1_put_41 (by decide) ?_
    exact rk_vret K hw hr hd dX1_put_81
  rcases Classical.em (x1 = (3 : Int32)) with h_4 | h_4
  · have hd := hd.2.1 h_4
    refine lv_tableIn (tgt := 44) K.1 K.2.1 dX1_put_1 (by rw [h_4]; decide) (by rw [h_4]; decide) (off := 43) (by rw [h_4]; rfl) (by decide) ?_
    refine lv_aload_n K.1 K.2.1 dX1_put_44 rfl (lv_at hl 0 rfl) ?_
    refine lv_iload_n K.1 K.2.1 dX1_put_45 rfl (lv_at hl 2 rfl) ?_
    refine rc_put layX1 (ci := 1) rfl tyX1_ok nmX1 2 (by decide) K hw (wc_P cy nt ad _ hq_x0) kf_X1_18 rfl rfl rfl rfl (Nat.le_of_ble_eq_true rfl) (wp_P_2 cy nt ad _ _ hq_x0) dX1_put_46 (fun g_5 eg_5 H locs hw => ?_)
    have hd := hd g_5 eg_5
    refine lv_goto (tgt := 81) K.1 K.2.1 dX1_put_49 (by decide) ?_
    exact rk_vret K hw hr hd dX1_put_81
  rcases Classical.em (x1 = (4 : Int32)) with h_6 | h_6
  · have hd := hd.2.2.1 h_6
    refine lv_tableIn (tgt := 52) K.1 K.2.1 dX1_put_1 (by rw [h_6]; decide) (by rw [h_6]; decide) (off := 51) (by rw [h_6]; rfl) (by decide) ?_
    refine lv_aload_n K.1 K.2.1 dX1_put_52 rfl (lv_at hl 0 rfl) ?_
    refine lv_iload_n K.1 K.2.1 dX1_put_53 rfl (lv_at hl 2 rfl) ?_
    refine rc_put layX1 (ci := 1) rfl tyX1_ok nmX1 3 (by decide) K hw (wc_P cy nt ad _ hq_x0) kf_X1_21 rfl rfl rfl rfl (Nat.le_of_ble_eq_true rfl) (wp_P_3 cy nt ad _ _ hq_x0) dX1_put_54 (fun g_7 eg_7 H locs hw => ?_)
    have hd := hd g_7 eg_7
    refine lv_goto (tgt := 81) K.1 K.2.1 dX1_put_57 (by decide) ?_
    exact rk_vret K hw hr hd dX1_put_81
  rcases Classical.em (x1 = (5 : Int32)) with h_8 | h_8
  · have hd := hd.2.2.2.1 h_8
    refine lv_tableIn (tgt := 60) K.1 K.2.1 dX1_put_1 (by rw [h_8]; decide) (by rw [h_8]; decide) (off := 59) (by rw [h_8]; rfl) (by decide) ?_
    refine lv_aload_n K.1 K.2.1 dX1_put_60 rfl (lv_at hl 0 rfl) ?_
    refine lv_iload_n K.1 K.2.1 dX1_put_61 rfl (lv_at hl 2 rfl) ?_
    refine rc_put layX1 (ci := 1) rfl tyX1_ok nmX1 4 (by decide) K hw (wc_P cy nt ad _ hq_x0) kf_X1_24 rfl rfl rfl rfl (Nat.le_of_ble_eq_true rfl) (wp_P_4 cy nt ad _ _ hq_x0) dX1_put_62 (fun g_9 eg_9 H locs hw => ?_)
    have hd := hd g_9 eg_9
    refine lv_goto (tgt := 81) K.1 K.2.1 dX1_put_65 (by decide) ?_
    exact rk_vret K hw hr hd dX1_put_81
  rcases Classical.em (x1 = (6 : Int32)) with h_10 | h_10
  · have hd := hd.2.2.2.2.1 h_10
    refine lv_tableIn (tgt := 68) K.1 K.2.1 dX1_put_1 (by rw [h_10]; decide) (by rw [h_10]; decide) (off := 67) (by rw [h_10]; rfl) (by decide) ?_
    refine lv_aload_n K.1 K.2.1 dX1_put_68 rfl (lv_at hl 0 rfl) ?_
    refine lv_iload_n K.1 K.2.1 dX1_put_69 rfl (lv_at hl 2 rfl) ?_
    refine rc_put layX1 (ci := 1) rfl tyX1_ok nmX1 5 (by decide) K hw (wc_P cy nt ad _ hq_x0) kf_X1_27 rfl rfl rfl rfl (Nat.le_of_ble_eq_true rfl) (wp_P_5 cy nt ad _ _ hq_x0) dX1_put_70 (fun g_11 eg_11 H locs hw => ?_)
    have hd := hd g_11 eg_11
    refine lv_goto (tgt := 81) K.1 K.2.1 dX1_put_73 (by decide) ?_
    exact rk_vret K hw hr hd dX1_put_81
  have hd := hd.2.2.2.2.2 h_2 h_4 h_6 h_8 h_10
  have qh_2 := lv_neT (k := (2 : Int32)) (a := 2) h_2 (by decide)
  have qh_4 := lv_neT (k := (3 : Int32)) (a := 3) h_4 (by decide)
  have qh_6 := lv_neT (k := (4 : Int32)) (a := 4) h_6 (by decide)
  have qh_8 := lv_neT (k := (5 : Int32)) (a := 5) h_8 (by decide)
  have qh_10 := lv_neT (k := (6 : Int32)) (a := 6) h_10 (by decide)
  refine lv_tableOut (tgt := 76) K.1 K.2.1 dX1_put_1 (by omega) (by decide) ?_
  refine lv_aload_n K.1 K.2.1 dX1_put_76 rfl (lv_at hl 0 rfl) ?_
  refine lv_iload_n K.1 K.2.1 dX1_put_77 rfl (lv_at hl 2 rfl) ?_
  refine rc_put layX1 (ci := 1) rfl tyX1_ok nmX1 0 (by decide) K hw (wc_P cy nt ad _ hq_x0) kf_X1_9 rfl rfl rfl rfl (Nat.le_of_ble_eq_true rfl) (wp_P_0 cy nt ad _ _ hq_x0) dX1_put_78 (fun g_12 eg_12 H locs hw => ?_)
  have hd := hd g_12 eg_12
  exact rk_vret K hw hr hd dX1_put_81
theorem dX5_isLower_0 : decode cX5_isLower 0 = .ok (.iload_n 0, 1) := by decide +kernel
theorem dX5_isLower_1 : decode cX5_isLower 1 = .ok (.bipush 97, 2) := by decide +kernel
theorem dX5_isLower_3 : decode cX5_isLower 3 = .ok (.if_icmp .lt 13, 3) := by decide +kernel
theorem dX5_isLower_6 : decode cX5_isLower 6 = .ok (.iload_n 0, 1) := by decide +kernel
theorem dX5_isLower_7 : decode cX5_isLower 7 = .ok (.bipush 122, 2) := by decide +kernel
theorem dX5_isLower_9 : decode cX5_isLower 9 = .ok (.if_icmp .gt 7, 3) := by decide +kernel
theorem dX5_isLower_12 : decode cX5_isLower 12 = .ok (.iconst 1, 1) := by decide +kernel
theorem dX5_isLower_13 : decode cX5_isLower 13 = .ok (.goto 4, 3) := by decide +kernel
theorem dX5_isLower_16 : decode cX5_isLower 16 = .ok (.iconst 0, 1) := by decide +kernel
theorem dX5_isLower_17 : decode cX5_isLower 17 = .ok (.ireturn, 1) := by decide +kernel
set_option maxHeartbeats 4000000 in
set_option maxRecDepth 100000 in
theorem cc_X5_isLower (l : Launch) (D : va_G) (cy : Nat → ClassId) (nt : Nat) (ad : Nat → Nat) (A : Nat → Prop) (X : Nat → Nat)  (g0 : Sg) (Q : Int32 → Sg → Prop) (x0 : Int32) (hd : vv_X5_isLower nt x0 g0 Q) : Met l yX5_isLower (Cond.code yX5_isLower cX5_isLower 1 (some .boolean) :: TT) (rmD 1) (va_Pc [.int x0] (PreC (wsC cy nt ad) D cy A X g0)) (va_Qi Q (PostG (wsC cy nt ad) D A) A) 0 0 A := by
  unfold vv_X5_isLower at hd
  refine Met.ofW (cc := cX5_isLower) (maxL := 1) (ret := (some .boolean)) (by decide) rfl ?_
  intro p e s m args below meth c s₁ B hml hv
  obtain ⟨rfl, ⟨hP, hK0, hD⟩, KX⟩ := hv
  have K : Kx p s m _ meth c cX5_isLower 1 RX5 D cy := ⟨B.exec, B.bytes, hml, findClass_of_methodNamed B.named, fun w h => atoms_spec (ws := Cond.code yX5_isLower cX5_isLower 1 (some .boolean) :: TT) B.pre w (List.mem_cons_of_mem _ h), hK0, B.notSynchronized⟩
  have hw : Wd D A s.heap (wsC cy nt ad g0) s.heap [] := ⟨hP, hD, va_S.rf⟩
  have hr := B.returns
  have hl := lv_entry ([.int x0]) (n := 1) (Nat.le_of_ble_eq_true rfl)
  rw [lg_entry_eq]
  generalize (lg_sl ([.int x0]) ++ List.replicate (1 - (lg_sl ([.int x0])).length) Slot.unset).toArray = ls at hl ⊢
  have hl : lv_has ls 1 [(0, .int x0)] := hl
  refine lv_iload_n K.1 K.2.1 dX5_isLower_0 rfl (lv_at hl 0 rfl) ?_
  refine lv_bipush (v := (97 : Int32)) K.1 K.2.1 dX5_isLower_1 (by decide) ?_
  refine lv_icmp_lt (tgt := 16) K.1 K.2.1 dX5_isLower_3 (by decide) (fun h_1 => ?_) (fun h_1 => ?_)
  · have hd := hd.1 h_1
    refine lv_iconst (v := (0 : Int32)) K.1 K.2.1 dX5_isLower_16 (by decide) ?_
    exact rk_zret K hw hr (by decide) hd dX5_isLower_17
  · have hd := hd.2 h_1
    refine lv_iload_n K.1 K.2.1 dX5_isLower_6 rfl (lv_at hl 0 rfl) ?_
    refine lv_bipush (v := (122 : Int32)) K.1 K.2.1 dX5_isLower_7 (by decide) ?_
    refine lv_icmp_gt (tgt := 16) K.1 K.2.1 dX5_isLower_9 (by decide) (fun h_2 => ?_) (fun h_2 => ?_)
    · have hd := hd.1 h_2
      refine lv_iconst (v := (0 : Int32)) K.1 K.2.1 dX5_isLower_16 (by decide) ?_
      exact rk_zret K hw hr (by decide) hd dX5_isLower_17
    · have hd := hd.2 h_2
      refine lv_iconst (v := (1 : Int32)) K.1 K.2.1 dX5_isLower_12 (by decide) ?_
      refine lv_goto (tgt := 17) K.1 K.2.1 dX5_isLower_13 (by decide) ?_
      exact rk_zret K hw hr (by decide) hd dX5_isLower_17
theorem dX5_skipWord_0 : decode cX5_skipWord 0 = .ok (.aload_n 0, 1) := by decide +kernel
theorem dX5_skipWord_1 : decode cX5_skipWord 1 = .ok (.getfield 33, 3) := by decide +kernel
theorem dX5_skipWord_4 : decode cX5_skipWord 4 = .ok (.aload_n 0, 1) := by decide +kernel
theorem dX5_skipWord_5 : decode cX5_skipWord 5 = .ok (.getfield 15, 3) := by decide +kernel
theorem dX5_skipWord_8 : decode cX5_skipWord 8 = .ok (.if_icmp .ge 31, 3) := by decide +kernel
theorem dX5_skipWord_11 : decode cX5_skipWord 11 = .ok (.aload_n 0, 1) := by decide +kernel
theorem dX5_skipWord_12 : decode cX5_skipWord 12 = .ok (.getfield 9, 3) := by decide +kernel
theorem dX5_skipWord_15 : decode cX5_skipWord 15 = .ok (.aload_n 0, 1) := by decide +kernel
theorem dX5_skipWord_16 : decode cX5_skipWord 16 = .ok (.getfield 33, 3) := by decide +kernel
theorem dX5_skipWord_19 : decode cX5_skipWord 19 = .ok (.iaload, 1) := by decide +kernel
theorem dX5_skipWord_20 : decode cX5_skipWord 20 = .ok (.invokestatic 48, 3) := by decide +kernel
theorem dX5_skipWord_23 : decode cX5_skipWord 23 = .ok (.ifCond .eq 16, 3) := by decide +kernel
theorem dX5_skipWord_26 : decode cX5_skipWord 26 = .ok (.aload_n 0, 1) := by decide +kernel
theorem dX5_skipWord_27 : decode cX5_skipWord 27 = .ok (.dup, 1) := by decide +kernel
theorem dX5_skipWord_28 : decode cX5_skipWord 28 = .ok (.getfield 33, 3) := by decide +kernel
theorem dX5_skipWord_31 : decode cX5_skipWord 31 = .ok (.iconst 1, 1) := by decide +kernel
theorem dX5_skipWord_32 : decode cX5_skipWord 32 = .ok (.iadd, 1) := by decide +kernel
theorem dX5_skipWord_33 : decode cX5_skipWord 33 = .ok (.putfield 33, 3) := by decide +kernel
theorem dX5_skipWord_36 : decode cX5_skipWord 36 = .ok (.goto (-36), 3) := by decide +kernel
theorem dX5_skipWord_39 : decode cX5_skipWord 39 = .ok (.return_, 1) := by decide +kernel
set_option maxHeartbeats 4000000 in
set_option maxRecDepth 100000 in
theorem bb_X5_skipWord_0 {p : Program} {l : Launch} {e : Env} {s : State} {m : MethodId} {args : Array Value} {below : List Frame} {meth : Method} {c : Code} {D : va_G} {cy : Nat → ClassId} {nt : Nat} {ad : Nat → Nat} {A : Nat → Prop} {X : Nat → Nat} {Q : Sg → Prop} (K : Kx p s m args meth c cX5_skipWord 1 RX5 D cy) (KX : XC X A s s.heap) (hr : meth.sig.returnType = none)  : ∀ (n : Nat)   (g0 : Sg) (H : Heap) (locs : List Loc) (ls : Array Slot), vv_X5_skipWord_L0 nt Q n  g0 → Wd D A s.heap (wsC cy nt ad g0) H locs → lv_has ls 1 [(0, .ref (ad 8))] → W p l e (rmD 2) s m args below meth c H locs 0 0 (MQ below (va_Qv Q (PostG (wsC cy nt ad) D A) A) args s 0 0 A) (F0 m 0 ls []) := by
  intro n
  induction n with
  | zero => intro _ _ _ _ hd; exact hd.elim
  | succ n ih =>
    intro  g0 H locs ls  hd hw hl
    unfold vv_X5_skipWord_L0 at hd
    refine lv_aload_n K.1 K.2.1 dX5_skipWord_0 rfl (lv_at hl 0 rfl) ?_
    refine rc_get layX5 (ci := 5) rfl 5 (by decide) (v := .int (g0 8 5)) K hw (wc_Tp cy nt ad _) kf_X5_33 rfl dX5_skipWord_1 ?_
    refine lv_aload_n K.1 K.2.1 dX5_skipWord_4 rfl (lv_at hl 0 rfl) ?_
    refine rc_get layX5 (ci := 5) rfl 1 (by decide) (v := .int (g0 8 1)) K hw (wc_Tp cy nt ad _) kf_X5_15 rfl dX5_skipWord_5 ?_
    refine lv_icmp_ge (tgt := 39) K.1 K.2.1 dX5_skipWord_8 (by decide) (fun h_1 => ?_) (fun h_1 => ?_)
    · have hd := hd.1 h_1
      exact rk_vret K hw hr hd dX5_skipWord_39
    · have hd := hd.2 h_1
      refine lv_aload_n K.1 K.2.1 dX5_skipWord_11 rfl (lv_at hl 0 rfl) ?_
      refine rc_get layX5 (ci := 5) rfl 0 (by decide) (v := .ref (ad 9)) K hw (wc_Tp cy nt ad _) kf_X5_9 rfl dX5_skipWord_12 ?_
      refine lv_aload_n K.1 K.2.1 dX5_skipWord_15 rfl (lv_at hl 0 rfl) ?_
      refine rc_get layX5 (ci := 5) rfl 5 (by decide) (v := .int (g0 8 5)) K hw (wc_Tp cy nt ad _) kf_X5_33 rfl dX5_skipWord_16 ?_
      have hb := hd.1
      have hd := hd.2
      refine rc_iald K hw (wc_9 cy nt ad _) hb dX5_skipWord_19 ?_
      refine rkc_si (As := [.int (g0 9 (g0 8 5).toNatClampNeg)]) (rest := []) K KX hw (cc_X5_isLower l D cy nt ad A X g0 _ (g0 9 (g0 8 5).toNatClampNeg) hd) lk_X5_48 ⟨Nat.le_of_ble_eq_true rfl, Nat.le_of_ble_eq_true rfl⟩ ⟨Nat.zero_le _, Nat.zero_le _⟩ rfl hl.1 (Nat.le_of_ble_eq_true rfl) rfl dX5_skipWord_20 (fun r_3 g_2 H locs hd hw => ?_)
      refine lv_if_eq (tgt := 39) K.1 K.2.1 dX5_skipWord_23 (by decide) (fun h_4 => ?_) (fun h_4 => ?_)
      · have hd := hd.1 h_4
        exact rk_vret K hw hr hd dX5_skipWord_39
      · have hd := hd.2 h_4
        refine lv_aload_n K.1 K.2.1 dX5_skipWord_26 rfl (lv_at hl 0 rfl) ?_
        refine lv_dup K.1 K.2.1 dX5_skipWord_27 rfl ?_
        refine rc_get layX5 (ci := 5) rfl 5 (by decide) (v := .int (g_2 8 5)) K hw (wc_Tp cy nt ad _) kf_X5_33 rfl dX5_skipWord_28 ?_
        refine lv_iconst (v := (1 : Int32)) K.1 K.2.1 dX5_skipWord_31 (by decide) ?_
        refine lv_iadd K.1 K.2.1 dX5_skipWord_32 ?_
        refine rc_put layX5 (ci := 5) rfl tyX5_ok nmX5 5 (by decide) K hw (wc_Tp cy nt ad _) kf_X5_33 rfl rfl rfl rfl (Nat.le_of_ble_eq_true rfl) (wp_Tp_5 cy nt ad _ _) dX5_skipWord_33 (fun g_5 eg_5 H locs hw => ?_)
        have hd := hd g_5 eg_5
        refine lv_goto (tgt := 0) K.1 K.2.1 dX5_skipWord_36 (by decide) ?_
        exact ih  g_5 _ _ _  hd hw (lv_sub hl [0] rfl)
set_option maxHeartbeats 4000000 in
set_option maxRecDepth 100000 in
theorem cc_X5_skipWord (l : Launch) (D : va_G) (cy : Nat → ClassId) (nt : Nat) (ad : Nat → Nat) (A : Nat → Prop) (X : Nat → Nat)  (g0 : Sg) (Q : Sg → Prop)  (hd : vv_X5_skipWord nt  g0 Q) : Met l yX5_skipWord (Cond.code yX5_skipWord cX5_skipWord 1 none :: TT) (rmD 2) (va_Pc [.ref (ad 8)] (PreC (wsC cy nt ad) D cy A X g0)) (va_Qv Q (PostG (wsC cy nt ad) D A) A) 0 0 A := by
  unfold vv_X5_skipWord at hd
  refine Met.ofW (cc := cX5_skipWord) (maxL := 1) (ret := none) (by decide) rfl ?_
  intro p e s m args below meth c s₁ B hml hv
  obtain ⟨rfl, ⟨hP, hK0, hD⟩, KX⟩ := hv
  have K : Kx p s m _ meth c cX5_skipWord 1 RX5 D cy := ⟨B.exec, B.bytes, hml, findClass_of_methodNamed B.named, fun w h => atoms_spec (ws := Cond.code yX5_skipWord cX5_skipWord 1 none :: TT) B.pre w (List.mem_cons_of_mem _ h), hK0, B.notSynchronized⟩
  have hw : Wd D A s.heap (wsC cy nt ad g0) s.heap [] := ⟨hP, hD, va_S.rf⟩
  have hr := B.returns
  have hl := lv_entry ([.ref (ad 8)]) (n := 1) (Nat.le_of_ble_eq_true rfl)
  rw [lg_entry_eq]
  generalize (lg_sl ([.ref (ad 8)]) ++ List.replicate (1 - (lg_sl ([.ref (ad 8)])).length) Slot.unset).toArray = ls at hl ⊢
  have hl : lv_has ls 1 [(0, .ref (ad 8))] := hl
  obtain ⟨n9, hd⟩ := hd
  exact bb_X5_skipWord_0 K KX hr   n9  g0 _ _ _  hd hw (lv_sub hl [0] rfl)
theorem dJ0_coder_7d493_0 : decode cJ0_coder_7d493 0 = .ok (.getstatic 38, 3) := by decide +kernel
theorem dJ0_coder_7d493_3 : decode cJ0_coder_7d493 3 = .ok (.ifCond .eq 10, 3) := by decide +kernel
theorem dJ0_coder_7d493_6 : decode cJ0_coder_7d493 6 = .ok (.aload_n 0, 1) := by decide +kernel
theorem dJ0_coder_7d493_7 : decode cJ0_coder_7d493 7 = .ok (.getfield 15, 3) := by decide +kernel
theorem dJ0_coder_7d493_10 : decode cJ0_coder_7d493 10 = .ok (.goto 4, 3) := by decide +kernel
theorem dJ0_coder_7d493_13 : decode cJ0_coder_7d493 13 = .ok (.iconst 1, 1) := by decide +kernel
theorem dJ0_coder_7d493_14 : decode cJ0_coder_7d493 14 = .ok (.ireturn, 1) := by decide +kernel
set_option maxHeartbeats 4000000 in
set_option maxRecDepth 100000 in
theorem cc_J0_coder_7d493 (l : Launch) (D : va_G) (cy : Nat → ClassId) (nt : Nat) (ad : Nat → Nat) (A : Nat → Prop) (X : Nat → Nat)  (g0 : Sg) (Q : Int32 → Sg → Prop) (x0 : Nat) (hd : vv_J0_coder_7d493 nt x0 g0 Q) : Met l yJ0_coder_7d493 (Cond.code yJ0_coder_7d493 cJ0_coder_7d493 1 (some .byte) :: TT) (rmD 1) (va_Pc [.ref (X (10 + x0))] (PreC (wsC cy nt ad) D cy A X g0)) (va_Qi Q (PostG (wsC cy nt ad) D A) A) 0 0 A := by
  unfold vv_J0_coder_7d493 at hd
  refine Met.ofW (cc := cJ0_coder_7d493) (maxL := 1) (ret := (some .byte)) (by decide) rfl ?_
  intro p e s m args below meth c s₁ B hml hv
  obtain ⟨rfl, ⟨hP, hK0, hD⟩, KX⟩ := hv
  have K : Kx p s m _ meth c cJ0_coder_7d493 1 RJ0 D cy := ⟨B.exec, B.bytes, hml, findClass_of_methodNamed B.named, fun w h => atoms_spec (ws := Cond.code yJ0_coder_7d493 cJ0_coder_7d493 1 (some .byte) :: TT) B.pre w (List.mem_cons_of_mem _ h), hK0, B.notSynchronized⟩
  have hw : Wd D A s.heap (wsC cy nt ad g0) s.heap [] := ⟨hP, hD, va_S.rf⟩
  have hr := B.returns
  have hl := lv_entry ([.ref (X (10 + x0))]) (n := 1) (Nat.le_of_ble_eq_true rfl)
  rw [lg_entry_eq]
  generalize (lg_sl ([.ref (X (10 + x0))]) ++ List.replicate (1 - (lg_sl ([.ref (X (10 + x0))])).length) Slot.unset).toArray = ls at hl ⊢
  have hl : lv_has ls 1 [(0, .ref (X (10 + x0)))] := hl
  have hq_x0 := hd.1
  have hd := hd.2
  refine rc_gets KX.2.2.2.2.2.2.2.2.1 K hw ks_J0_38 dJ0_coder_7d493_0 ?_
  refine lv_if_eq (tgt := 13) K.1 K.2.1 dJ0_coder_7d493_3 (by decide) (fun h_1 => ?_) (fun h_1 => ?_)
  · have hd := hd.1 h_1
    refine lv_iconst (v := (1 : Int32)) K.1 K.2.1 dJ0_coder_7d493_13 (by decide) ?_
    exact rk_nret K hw hr rfl hd dJ0_coder_7d493_14
  · have hd := hd.2 h_1
    refine lv_aload_n K.1 K.2.1 dJ0_coder_7d493_6 rfl (lv_at hl 0 rfl) ?_
    refine vk_getf K.1 K.2.1 (KX.2.2.2.2.2.2.1.1 _ hq_x0).2.1 hw.2.2 K.2.2.2.1 (K.2.2.2.2.1 _ ks_J0_15) (fun _ h => h) dJ0_coder_7d493_7 ?_
    refine lv_goto (tgt := 14) K.1 K.2.1 dJ0_coder_7d493_10 (by decide) ?_
    exact rk_nret K hw hr rfl hd dJ0_coder_7d493_14
theorem dJ0_length_8abf5_0 : decode cJ0_length_8abf5 0 = .ok (.aload_n 0, 1) := by decide +kernel
theorem dJ0_length_8abf5_1 : decode cJ0_length_8abf5 1 = .ok (.getfield 9, 3) := by decide +kernel
theorem dJ0_length_8abf5_4 : decode cJ0_length_8abf5 4 = .ok (.arraylength, 1) := by decide +kernel
theorem dJ0_length_8abf5_5 : decode cJ0_length_8abf5 5 = .ok (.aload_n 0, 1) := by decide +kernel
theorem dJ0_length_8abf5_6 : decode cJ0_length_8abf5 6 = .ok (.invokevirtual 335, 3) := by decide +kernel
theorem dJ0_length_8abf5_9 : decode cJ0_length_8abf5 9 = .ok (.ishr, 1) := by decide +kernel
theorem dJ0_length_8abf5_10 : decode cJ0_length_8abf5 10 = .ok (.ireturn, 1) := by decide +kernel
set_option maxHeartbeats 4000000 in
set_option maxRecDepth 100000 in
theorem cc_J0_length_8abf5 (l : Launch) (D : va_G) (cy : Nat → ClassId) (nt : Nat) (ad : Nat → Nat) (A : Nat → Prop) (X : Nat → Nat)  (g0 : Sg) (Q : Int32 → Sg → Prop) (x0 : Nat) (hd : vv_J0_length_8abf5 nt x0 g0 Q) : Met l yJ0_length_8abf5 (Cond.code yJ0_length_8abf5 cJ0_length_8abf5 1 (some .int) :: TT) (rmD 2) (va_Pc [.ref (X (10 + x0))] (PreC (wsC cy nt ad) D cy A X g0)) (va_Qi Q (PostG (wsC cy nt ad) D A) A) 0 0 A := by
  unfold vv_J0_length_8abf5 at hd
  refine Met.ofW (cc := cJ0_length_8abf5) (maxL := 1) (ret := (some .int)) (by decide) rfl ?_
  intro p e s m args below meth c s₁ B hml hv
  obtain ⟨rfl, ⟨hP, hK0, hD⟩, KX⟩ := hv
  have K : Kx p s m _ meth c cJ0_length_8abf5 1 RJ0 D cy := ⟨B.exec, B.bytes, hml, findClass_of_methodNamed B.named, fun w h => atoms_spec (ws := Cond.code yJ0_length_8abf5 cJ0_length_8abf5 1 (some .int) :: TT) B.pre w (List.mem_cons_of_mem _ h), hK0, B.notSynchronized⟩
  have hw : Wd D A s.heap (wsC cy nt ad g0) s.heap [] := ⟨hP, hD, va_S.rf⟩
  have hr := B.returns
  have hl := lv_entry ([.ref (X (10 + x0))]) (n := 1) (Nat.le_of_ble_eq_true rfl)
  rw [lg_entry_eq]
  generalize (lg_sl ([.ref (X (10 + x0))]) ++ List.replicate (1 - (lg_sl ([.ref (X (10 + x0))])).length) Slot.unset).toArray = ls at hl ⊢
  have hl : lv_has ls 1 [(0, .ref (X (10 + x0)))] := hl
  have hq_x0 := hd.1
  have hd := hd.2
  refine lv_aload_n K.1 K.2.1 dJ0_length_8abf5_0 rfl (lv_at hl 0 rfl) ?_
  refine vk_getf K.1 K.2.1 (KX.2.2.2.2.2.2.1.1 _ hq_x0).2.2.1 hw.2.2 K.2.2.2.1 (K.2.2.2.2.1 _ ks_J0_9) (fun _ h => h) dJ0_length_8abf5_1 ?_
  refine rc_tlen (v := (Int32.ofNat (sN.getD x0 0))) (KX.2.2.2.2.2.2.1.1 _ hq_x0).2.2.2 K hw rfl dJ0_length_8abf5_4 ?_
  refine lv_aload_n K.1 K.2.1 dJ0_length_8abf5_5 rfl (lv_at hl 0 rfl) ?_
  refine rkc_ui (As := []) (rest := [.int (Int32.ofNat (sN.getD x0 0))]) K KX hw (cc_J0_coder_7d493 l D cy nt ad A X g0 _ x0 hd) lk_J0_335 (vk_recv (adK := fun i => X (10 + i)) (adV := fun i => X (30 + i)) (i := x0) KX.2.2.2.2.2.2.1 hq_x0 hw.2.2) ⟨Nat.le_of_ble_eq_true rfl, Nat.le_of_ble_eq_true rfl⟩ ⟨Nat.zero_le _, Nat.zero_le _⟩ rfl hl.1 (Nat.le_of_ble_eq_true rfl) rfl dJ0_length_8abf5_6 (fun r_2 g_1 H locs hd hw => ?_)
  refine lv_ishr K.1 K.2.1 dJ0_length_8abf5_9 ?_
  exact rk_iret K hw hr hd dJ0_length_8abf5_10
theorem dJ0_isLatin1_aae02_0 : decode cJ0_isLatin1_aae02 0 = .ok (.getstatic 38, 3) := by decide +kernel
theorem dJ0_isLatin1_aae02_3 : decode cJ0_isLatin1_aae02 3 = .ok (.ifCond .eq 14, 3) := by decide +kernel
theorem dJ0_isLatin1_aae02_6 : decode cJ0_isLatin1_aae02 6 = .ok (.aload_n 0, 1) := by decide +kernel
theorem dJ0_isLatin1_aae02_7 : decode cJ0_isLatin1_aae02 7 = .ok (.getfield 15, 3) := by decide +kernel
theorem dJ0_isLatin1_aae02_10 : decode cJ0_isLatin1_aae02 10 = .ok (.ifCond .ne 7, 3) := by decide +kernel
theorem dJ0_isLatin1_aae02_13 : decode cJ0_isLatin1_aae02 13 = .ok (.iconst 1, 1) := by decide +kernel
theorem dJ0_isLatin1_aae02_14 : decode cJ0_isLatin1_aae02 14 = .ok (.goto 4, 3) := by decide +kernel
theorem dJ0_isLatin1_aae02_17 : decode cJ0_isLatin1_aae02 17 = .ok (.iconst 0, 1) := by decide +kernel
theorem dJ0_isLatin1_aae02_18 : decode cJ0_isLatin1_aae02 18 = .ok (.ireturn, 1) := by decide +kernel
set_option maxHeartbeats 4000000 in
set_option maxRecDepth 100000 in
theorem cc_J0_isLatin1_aae02 (l : Launch) (D : va_G) (cy : Nat → ClassId) (nt : Nat) (ad : Nat → Nat) (A : Nat → Prop) (X : Nat → Nat)  (g0 : Sg) (Q : Int32 → Sg → Prop) (x0 : Nat) (hd : vv_J0_isLatin1_aae02 nt x0 g0 Q) : Met l yJ0_isLatin1_aae02 (Cond.code yJ0_isLatin1_aae02 cJ0_isLatin1_aae02 1 (some .boolean) :: TT) (rmD 1) (va_Pc [.ref (X (10 + x0))] (PreC (wsC cy nt ad) D cy A X g0)) (va_Qi Q (PostG (wsC cy nt ad) D A) A) 0 0 A := by
  unfold vv_J0_isLatin1_aae02 at hd
  refine Met.ofW (cc := cJ0_isLatin1_aae02) (maxL := 1) (ret := (some .boolean)) (by decide) rfl ?_
  intro p e s m args below meth c s₁ B hml hv
  obtain ⟨rfl, ⟨hP, hK0, hD⟩, KX⟩ := hv
  have K : Kx p s m _ meth c cJ0_isLatin1_aae02 1 RJ0 D cy := ⟨B.exec, B.bytes, hml, findClass_of_methodNamed B.named, fun w h => atoms_spec (ws := Cond.code yJ0_isLatin1_aae02 cJ0_isLatin1_aae02 1 (some .boolean) :: TT) B.pre w (List.mem_cons_of_mem _ h), hK0, B.notSynchronized⟩
  have hw : Wd D A s.heap (wsC cy nt ad g0) s.heap [] := ⟨hP, hD, va_S.rf⟩
  have hr := B.returns
  have hl := lv_entry ([.ref (X (10 + x0))]) (n := 1) (Nat.le_of_ble_eq_true rfl)
  rw [lg_entry_eq]
  generalize (lg_sl ([.ref (X (10 + x0))]) ++ List.replicate (1 - (lg_sl ([.ref (X (10 + x0))])).length) Slot.unset).toArray = ls at hl ⊢
  have hl : lv_has ls 1 [(0, .ref (X (10 + x0)))] := hl
  have hq_x0 := hd.1
  have hd := hd.2
  refine rc_gets KX.2.2.2.2.2.2.2.2.1 K hw ks_J0_38 dJ0_isLatin1_aae02_0 ?_
  refine lv_if_eq (tgt := 17) K.1 K.2.1 dJ0_isLatin1_aae02_3 (by decide) (fun h_1 => ?_) (fun h_1 => ?_)
  · have hd := hd.1 h_1
    refine lv_iconst (v := (0 : Int32)) K.1 K.2.1 dJ0_isLatin1_aae02_17 (by decide) ?_
    exact rk_zret K hw hr (by decide) hd dJ0_isLatin1_aae02_18
  · have hd := hd.2 h_1
    refine lv_aload_n K.1 K.2.1 dJ0_isLatin1_aae02_6 rfl (lv_at hl 0 rfl) ?_
    refine vk_getf K.1 K.2.1 (KX.2.2.2.2.2.2.1.1 _ hq_x0).2.1 hw.2.2 K.2.2.2.1 (K.2.2.2.2.1 _ ks_J0_15) (fun _ h => h) dJ0_isLatin1_aae02_7 ?_
    refine lv_if_ne (tgt := 17) K.1 K.2.1 dJ0_isLatin1_aae02_10 (by decide) (fun h_2 => ?_) (fun h_2 => ?_)
    · have hd := hd.1 h_2
      refine lv_iconst (v := (0 : Int32)) K.1 K.2.1 dJ0_isLatin1_aae02_17 (by decide) ?_
      exact rk_zret K hw hr (by decide) hd dJ0_isLatin1_aae02_18
    · have hd := hd.2 h_2
      refine lv_iconst (v := (1 : Int32)) K.1 K.2.1 dJ0_isLatin1_aae02_13 (by decide) ?_
      refine lv_goto (tgt := 18) K.1 K.2.1 dJ0_isLatin1_aae02_14 (by decide) ?_
      exact rk_zret K hw hr (by decide) hd dJ0_isLatin1_aae02_18
theorem dJ3_checkIndex_8e157_0 : decode cJ3_checkIndex_8e157 0 = .ok (.iload_n 0, 1) := by decide +kernel
theorem dJ3_checkIndex_8e157_1 : decode cJ3_checkIndex_8e157 1 = .ok (.ifCond .lt 8, 3) := by decide +kernel
theorem dJ3_checkIndex_8e157_4 : decode cJ3_checkIndex_8e157 4 = .ok (.iload_n 0, 1) := by decide +kernel
theorem dJ3_checkIndex_8e157_5 : decode cJ3_checkIndex_8e157 5 = .ok (.iload_n 1, 1) := by decide +kernel
theorem dJ3_checkIndex_8e157_6 : decode cJ3_checkIndex_8e157 6 = .ok (.if_icmp .lt 10, 3) := by decide +kernel
theorem dJ3_checkIndex_8e157_9 : decode cJ3_checkIndex_8e157 9 = .ok (.aload_n 2, 1) := by decide +kernel
theorem dJ3_checkIndex_8e157_10 : decode cJ3_checkIndex_8e157 10 = .ok (.iload_n 0, 1) := by decide +kernel
theorem dJ3_checkIndex_8e157_11 : decode cJ3_checkIndex_8e157 11 = .ok (.iload_n 1, 1) := by decide +kernel
theorem dJ3_checkIndex_8e157_12 : decode cJ3_checkIndex_8e157 12 = .ok (.invokestatic 95, 3) := by decide +kernel
theorem dJ3_checkIndex_8e157_15 : decode cJ3_checkIndex_8e157 15 = .ok (.athrow, 1) := by decide +kernel
theorem dJ3_checkIndex_8e157_16 : decode cJ3_checkIndex_8e157 16 = .ok (.iload_n 0, 1) := by decide +kernel
theorem dJ3_checkIndex_8e157_17 : decode cJ3_checkIndex_8e157 17 = .ok (.ireturn, 1) := by decide +kernel
set_option maxHeartbeats 4000000 in
set_option maxRecDepth 100000 in
theorem bb_J3_checkIndex_8e157_9 {p : Program} {l : Launch} {e : Env} {s : State} {m : MethodId} {args : Array Value} {below : List Frame} {meth : Method} {c : Code} {D : va_G} {cy : Nat → ClassId} {nt : Nat} {ad : Nat → Nat} {A : Nat → Prop} {X : Nat → Nat} {Q : Int32 → Sg → Prop} (K : Kx p s m args meth c cJ3_checkIndex_8e157 3 RJ3 D cy) (KX : XC X A s s.heap) (hr : meth.sig.returnType = (some .int))  (x0 : Int32) (x1 : Int32) (x2 : Nat)  (g0 : Sg) (H : Heap) (locs : List Loc) (ls : Array Slot) (hq_x2 : True) (hd : vv_J3_checkIndex_8e157_J9 nt x0 x1 x2 g0 Q) (hw : Wd D A s.heap (wsC cy nt ad g0) H locs) (hl : lv_has ls 3 [(0, .int x0), (1, .int x1), (2, .ref x2)]) : W p l e (rmD 1) s m args below meth c H locs 0 0 (MQ below (va_Qi Q (PostG (wsC cy nt ad) D A) A) args s 0 0 A) (F0 m 9 ls []) := by
  unfold vv_J3_checkIndex_8e157_J9 at hd
  exact hd.elim
set_option maxHeartbeats 4000000 in
set_option maxRecDepth 100000 in
theorem cc_J3_checkIndex_8e157 (l : Launch) (D : va_G) (cy : Nat → ClassId) (nt : Nat) (ad : Nat → Nat) (A : Nat → Prop) (X : Nat → Nat)  (g0 : Sg) (Q : Int32 → Sg → Prop) (x0 : Int32) (x1 : Int32) (x2 : Nat) (hd : vv_J3_checkIndex_8e157 nt x0 x1 x2 g0 Q) : Met l yJ3_checkIndex_8e157 (Cond.code yJ3_checkIndex_8e157 cJ3_checkIndex_8e157 3 (some .int) :: TT) (rmD 1) (va_Pc [.int x0, .int x1, .ref x2] (PreC (wsC cy nt ad) D cy A X g0)) (va_Qi Q (PostG (wsC cy nt ad) D A) A) 0 0 A := by
  unfold vv_J3_checkIndex_8e157 at hd
  refine Met.ofW (cc := cJ3_checkIndex_8e157) (maxL := 3) (ret := (some .int)) (by decide) rfl ?_
  intro p e s m args below meth c s₁ B hml hv
  obtain ⟨rfl, ⟨hP, hK0, hD⟩, KX⟩ := hv
  have K : Kx p s m _ meth c cJ3_checkIndex_8e157 3 RJ3 D cy := ⟨B.exec, B.bytes, hml, findClass_of_methodNamed B.named, fun w h => atoms_spec (ws := Cond.code yJ3_checkIndex_8e157 cJ3_checkIndex_8e157 3 (some .int) :: TT) B.pre w (List.mem_cons_of_mem _ h), hK0, B.notSynchronized⟩
  have hw : Wd D A s.heap (wsC cy nt ad g0) s.heap [] := ⟨hP, hD, va_S.rf⟩
  have hr := B.returns
  have hl := lv_entry ([.int x0, .int x1, .ref x2]) (n := 3) (Nat.le_of_ble_eq_true rfl)
  rw [lg_entry_eq]
  generalize (lg_sl ([.int x0, .int x1, .ref x2]) ++ List.replicate (3 - (lg_sl ([.int x0, .int x1, .ref x2])).length) Slot.unset).toArray = ls at hl ⊢
  have hl : lv_has ls 3 [(0, .int x0), (1, .int x1), (2, .ref x2)] := hl
  have hz := hd.1
  have hd := hd.2
  refine lv_iload_n K.1 K.2.1 dJ3_checkIndex_8e157_0 rfl (lv_at hl 0 rfl) ?_
  refine lv_if_lt (tgt := 9) K.1 K.2.1 dJ3_checkIndex_8e157_1 (by decide) (fun h_1 => ?_) (fun h_1 => ?_)
  · have hd := hd.1 h_1
    exact bb_J3_checkIndex_8e157_9 K KX hr   x0 x1 x2 g0 _ _ _ trivial hd hw (lv_sub hl [0, 1, 2] rfl)
  · have hd := hd.2 h_1
    refine lv_iload_n K.1 K.2.1 dJ3_checkIndex_8e157_4 rfl (lv_at hl 0 rfl) ?_
    refine lv_iload_n K.1 K.2.1 dJ3_checkIndex_8e157_5 rfl (lv_at hl 1 rfl) ?_
    refine lv_icmp_lt (tgt := 16) K.1 K.2.1 dJ3_checkIndex_8e157_6 (by decide) (fun h_2 => ?_) (fun h_2 => ?_)
    · have hd := hd.1 h_2
      refine lv_iload_n K.1 K.2.1 dJ3_checkIndex_8e157_16 rfl (lv_at hl 0 rfl) ?_
      exact rk_iret K hw hr hd dJ3_checkIndex_8e157_17
    · have hd := hd.2 h_2
      exact bb_J3_checkIndex_8e157_9 K KX hr   x0 x1 x2 g0 _ _ _ trivial hd hw (lv_sub hl [0, 1, 2] rfl)
set_option maxHeartbeats 4000000 in
set_option maxRecDepth 100000 in
theorem bn_J3_checkIndex_8e157_9 {p : Program} {l : Launch} {e : Env} {s : State} {m : MethodId} {args : Array Value} {below : List Frame} {meth : Method} {c : Code} {D : va_G} {cy : Nat → ClassId} {nt : Nat} {ad : Nat → Nat} {A : Nat → Prop} {X : Nat → Nat} {Q : Int32 → Sg → Prop} (K : Kx p s m args meth c cJ3_checkIndex_8e157 3 RJ3 D cy) (KX : XC X A s s.heap) (hr : meth.sig.returnType = (some .int))  (x0 : Int32) (x1 : Int32)  (g0 : Sg) (H : Heap) (locs : List Loc) (ls : Array Slot) (hd : vn_J3_checkIndex_8e157_J9 nt x0 x1 g0 Q) (hw : Wd D A s.heap (wsC cy nt ad g0) H locs) (hl : lv_has ls 3 [(0, .int x0), (1, .int x1), (2, .null)]) : W p l e (rmD 1) s m args below meth c H locs 0 0 (MQ below (va_Qi Q (PostG (wsC cy nt ad) D A) A) args s 0 0 A) (F0 m 9 ls []) := by
  unfold vn_J3_checkIndex_8e157_J9 at hd
  exact hd.elim
set_option maxHeartbeats 4000000 in
set_option maxRecDepth 100000 in
theorem cn_J3_checkIndex_8e157 (l : Launch) (D : va_G) (cy : Nat → ClassId) (nt : Nat) (ad : Nat → Nat) (A : Nat → Prop) (X : Nat → Nat)  (g0 : Sg) (Q : Int32 → Sg → Prop) (x0 : Int32) (x1 : Int32) (hd : vn_J3_checkIndex_8e157 nt x0 x1 g0 Q) : Met l yJ3_checkIndex_8e157 (Cond.code yJ3_checkIndex_8e157 cJ3_checkIndex_8e157 3 (some .int) :: TT) (rmD 1) (va_Pc [.int x0, .int x1, .null] (PreC (wsC cy nt ad) D cy A X g0)) (va_Qi Q (PostG (wsC cy nt ad) D A) A) 0 0 A := by
  unfold vn_J3_checkIndex_8e157 at hd
  refine Met.ofW (cc := cJ3_checkIndex_8e157) (maxL := 3) (ret := (some .int)) (by decide) rfl ?_
  intro p e s m args below meth c s₁ B hml hv
  obtain ⟨rfl, ⟨hP, hK0, hD⟩, KX⟩ := hv
  have K : Kx p s m _ meth c cJ3_checkIndex_8e157 3 RJ3 D cy := ⟨B.exec, B.bytes, hml, findClass_of_methodNamed B.named, fun w h => atoms_spec (ws := Cond.code yJ3_checkIndex_8e157 cJ3_checkIndex_8e157 3 (some .int) :: TT) B.pre w (List.mem_cons_of_mem _ h), hK0, B.notSynchronized⟩
  have hw : Wd D A s.heap (wsC cy nt ad g0) s.heap [] := ⟨hP, hD, va_S.rf⟩
  have hr := B.returns
  have hl := lv_entry ([.int x0, .int x1, .null]) (n := 3) (Nat.le_of_ble_eq_true rfl)
  rw [lg_entry_eq]
  generalize (lg_sl ([.int x0, .int x1, .null]) ++ List.replicate (3 - (lg_sl ([.int x0, .int x1, .null])).length) Slot.unset).toArray = ls at hl ⊢
  have hl : lv_has ls 3 [(0, .int x0), (1, .int x1), (2, .null)] := hl
  refine lv_iload_n K.1 K.2.1 dJ3_checkIndex_8e157_0 rfl (lv_at hl 0 rfl) ?_
  refine lv_if_lt (tgt := 9) K.1 K.2.1 dJ3_checkIndex_8e157_1 (by decide) (fun h_1 => ?_) (fun h_1 => ?_)
  · have hd := hd.1 h_1
    exact bn_J3_checkIndex_8e157_9 K KX hr   x0 x1 g0 _ _ _  hd hw (lv_sub hl [0, 1, 2] rfl)
  · have hd := hd.2 h_1
    refine lv_iload_n K.1 K.2.1 dJ3_checkIndex_8e157_4 rfl (lv_at hl 0 rfl) ?_
    refine lv_iload_n K.1 K.2.1 dJ3_checkIndex_8e157_5 rfl (lv_at hl 1 rfl) ?_
    refine lv_icmp_lt (tgt := 16) K.1 K.2.1 dJ3_checkIndex_8e157_6 (by decide) (fun h_2 => ?_) (fun h_2 => ?_)
    · have hd := hd.1 h_2
      refine lv_iload_n K.1 K.2.1 dJ3_checkIndex_8e157_16 rfl (lv_at hl 0 rfl) ?_
      exact rk_iret K hw hr hd dJ3_checkIndex_8e157_17
    · have hd := hd.2 h_2
      exact bn_J3_checkIndex_8e157_9 K KX hr   x0 x1 g0 _ _ _  hd hw (lv_sub hl [0, 1, 2] rfl)
theorem dJ0_checkIndex_df160_0 : decode cJ0_checkIndex_df160 0 = .ok (.iload_n 0, 1) := by decide +kernel
theorem dJ0_checkIndex_df160_1 : decode cJ0_checkIndex_df160 1 = .ok (.iload_n 1, 1) := by decide +kernel
theorem dJ0_checkIndex_df160_2 : decode cJ0_checkIndex_df160 2 = .ok (.getstatic 1053, 3) := by decide +kernel
theorem dJ0_checkIndex_df160_5 : decode cJ0_checkIndex_df160 5 = .ok (.invokestatic 1059, 3) := by decide +kernel
theorem dJ0_checkIndex_df160_8 : decode cJ0_checkIndex_df160 8 = .ok (.pop, 1) := by decide +kernel
theorem dJ0_checkIndex_df160_9 : decode cJ0_checkIndex_df160 9 = .ok (.return_, 1) := by decide +kernel
set_option maxHeartbeats 4000000 in
set_option maxRecDepth 100000 in
theorem cc_J0_checkIndex_df160 (l : Launch) (D : va_G) (cy : Nat → ClassId) (nt : Nat) (ad : Nat → Nat) (A : Nat → Prop) (X : Nat → Nat) (g0 : Sg) (Q : Sg → Prop) (x0 : Int32) (x1 : Int32) (hd : vv_J0_checkIndex_df160 nt x0 x1 g0 Q) : Met l yJ0_checkIndex_df160 (Cond.code yJ0_checkIndex_df160 cJ0_checkIndex_df160 2 none :: TT) (rmD 2) (va_Pc [.int x0, .int x1] (PreC (wsC cy nt ad) D cy A X g0)) (va_Qv Q (PostG (wsC cy nt ad) D A) A) 0 0 A := by
  obtain ⟨h0, h1, hd⟩ := hd
  refine Met.ofW (cc := cJ0_checkIndex_df160) (maxL := 2) (ret := none) (by decide) rfl ?_
  intro p e s m args below meth c s₁ B hml hv
  obtain ⟨rfl, ⟨hP, hK0, hD⟩, KX⟩ := hv
  have K : Kx p s m _ meth c cJ0_checkIndex_df160 2 RJ0 D cy := ⟨B.exec, B.bytes, hml, findClass_of_methodNamed B.named, fun w h => atoms_spec (ws := Cond.code yJ0_checkIndex_df160 cJ0_checkIndex_df160 2 none :: TT) B.pre w (List.mem_cons_of_mem _ h), hK0, B.notSynchronized⟩
  have hw : Wd D A s.heap (wsC cy nt ad g0) s.heap [] := ⟨hP, hD, va_S.rf⟩
  have hr := B.returns
  have hl := lv_entry ([.int x0, .int x1]) (n := 2) (Nat.le_of_ble_eq_true rfl)
  rw [lg_entry_eq]
  generalize (lg_sl ([.int x0, .int x1]) ++ List.replicate (2 - (lg_sl ([.int x0, .int x1])).length) Slot.unset).toArray = ls at hl ⊢
  have hl : lv_has ls 2 [(0, .int x0), (1, .int x1)] := hl
  refine lv_iload_n K.1 K.2.1 dJ0_checkIndex_df160_0 rfl (lv_at hl 0 rfl) ?_
  refine lv_iload_n K.1 K.2.1 dJ0_checkIndex_df160_1 rfl (lv_at hl 1 rfl) ?_
  rcases KX.2.2.2.2.2.2.2.2.2 with hZ | ⟨tq, hZ⟩
  · refine rc_gets hZ K hw ks_J0_1053 dJ0_checkIndex_df160_2 ?_
    refine rkc_si (As := [.int x0, .int x1, .null]) (rest := []) K KX hw (cn_J3_checkIndex_8e157 l D cy nt ad A X g0 (fun _ g => Q g) x0 x1 ⟨fun h => h0 h, fun _ => ⟨fun _ => hd, fun h => h h1⟩⟩) lk_J0_1059 ⟨Nat.le_of_ble_eq_true rfl, Nat.le_of_ble_eq_true rfl⟩ ⟨Nat.zero_le _, Nat.zero_le _⟩ rfl hl.1 (Nat.le_of_ble_eq_true rfl) rfl dJ0_checkIndex_df160_5 (fun r_1 g_1 H locs hd hw => ?_)
    refine lv_pop K.1 K.2.1 dJ0_checkIndex_df160_8 rfl ?_
    exact rk_vret K hw hr hd dJ0_checkIndex_df160_9
  · refine rc_gets hZ K hw ks_J0_1053 dJ0_checkIndex_df160_2 ?_
    refine rkc_si (As := [.int x0, .int x1, .ref tq]) (rest := []) K KX hw (cc_J3_checkIndex_8e157 l D cy nt ad A X g0 (fun _ g => Q g) x0 x1 tq ⟨trivial, fun h => h0 h, fun _ => ⟨fun _ => hd, fun h => h h1⟩⟩) lk_J0_1059 ⟨Nat.le_of_ble_eq_true rfl, Nat.le_of_ble_eq_true rfl⟩ ⟨Nat.zero_le _, Nat.zero_le _⟩ rfl hl.1 (Nat.le_of_ble_eq_true rfl) rfl dJ0_checkIndex_df160_5 (fun r_1 g_1 H locs hd hw => ?_)
    refine lv_pop K.1 K.2.1 dJ0_checkIndex_df160_8 rfl ?_
    exact rk_vret K hw hr hd dJ0_checkIndex_df160_9
theorem dJ1_charAt_3b067_0 : decode cJ1_charAt_3b067 0 = .ok (.iload_n 1, 1) := by decide +kernel
theorem dJ1_charAt_3b067_1 : decode cJ1_charAt_3b067 1 = .ok (.aload_n 0, 1) := by decide +kernel
theorem dJ1_charAt_3b067_2 : decode cJ1_charAt_3b067 2 = .ok (.arraylength, 1) := by decide +kernel
theorem dJ1_charAt_3b067_3 : decode cJ1_charAt_3b067 3 = .ok (.invokestatic 9, 3) := by decide +kernel
theorem dJ1_charAt_3b067_6 : decode cJ1_charAt_3b067 6 = .ok (.aload_n 0, 1) := by decide +kernel
theorem dJ1_charAt_3b067_7 : decode cJ1_charAt_3b067 7 = .ok (.iload_n 1, 1) := by decide +kernel
theorem dJ1_charAt_3b067_8 : decode cJ1_charAt_3b067 8 = .ok (.baload, 1) := by decide +kernel
theorem dJ1_charAt_3b067_9 : decode cJ1_charAt_3b067 9 = .ok (.sipush 255, 3) := by decide +kernel
theorem dJ1_charAt_3b067_12 : decode cJ1_charAt_3b067 12 = .ok (.iand, 1) := by decide +kernel
theorem dJ1_charAt_3b067_13 : decode cJ1_charAt_3b067 13 = .ok (.i2c, 1) := by decide +kernel
theorem dJ1_charAt_3b067_14 : decode cJ1_charAt_3b067 14 = .ok (.ireturn, 1) := by decide +kernel
set_option maxHeartbeats 4000000 in
set_option maxRecDepth 100000 in
theorem cc_J1_charAt_3b067 (l : Launch) (D : va_G) (cy : Nat → ClassId) (nt : Nat) (ad : Nat → Nat) (A : Nat → Prop) (X : Nat → Nat)  (g0 : Sg) (Q : Int32 → Sg → Prop) (x0 : Nat) (x1 : Int32) (hd : vv_J1_charAt_3b067 nt x0 x1 g0 Q) : Met l yJ1_charAt_3b067 (Cond.code yJ1_charAt_3b067 cJ1_charAt_3b067 2 (some .char) :: TT) (rmD 3) (va_Pc [.ref (X (30 + x0)), .int x1] (PreC (wsC cy nt ad) D cy A X g0)) (va_Qi Q (PostG (wsC cy nt ad) D A) A) 0 0 A := by
  unfold vv_J1_charAt_3b067 at hd
  refine Met.ofW (cc := cJ1_charAt_3b067) (maxL := 2) (ret := (some .char)) (by decide) rfl ?_
  intro p e s m args below meth c s₁ B hml hv
  obtain ⟨rfl, ⟨hP, hK0, hD⟩, KX⟩ := hv
  have K : Kx p s m _ meth c cJ1_charAt_3b067 2 RJ1 D cy := ⟨B.exec, B.bytes, hml, findClass_of_methodNamed B.named, fun w h => atoms_spec (ws := Cond.code yJ1_charAt_3b067 cJ1_charAt_3b067 2 (some .char) :: TT) B.pre w (List.mem_cons_of_mem _ h), hK0, B.notSynchronized⟩
  have hw : Wd D A s.heap (wsC cy nt ad g0) s.heap [] := ⟨hP, hD, va_S.rf⟩
  have hr := B.returns
  have hl := lv_entry ([.ref (X (30 + x0)), .int x1]) (n := 2) (Nat.le_of_ble_eq_true rfl)
  rw [lg_entry_eq]
  generalize (lg_sl ([.ref (X (30 + x0)), .int x1]) ++ List.replicate (2 - (lg_sl ([.ref (X (30 + x0)), .int x1])).length) Slot.unset).toArray = ls at hl ⊢
  have hl : lv_has ls 2 [(0, .ref (X (30 + x0))), (1, .int x1)] := hl
  have hq_x0 := hd.1
  have hd := hd.2
  refine lv_iload_n K.1 K.2.1 dJ1_charAt_3b067_0 rfl (lv_at hl 1 rfl) ?_
  refine lv_aload_n K.1 K.2.1 dJ1_charAt_3b067_1 rfl (lv_at hl 0 rfl) ?_
  refine rc_tlen (v := (Int32.ofNat (sN.getD x0 0))) (KX.2.2.2.2.2.2.1.1 _ hq_x0).2.2.2 K hw rfl dJ1_charAt_3b067_2 ?_
  refine rkc_sv (As := [.int x1, .int (Int32.ofNat (sN.getD x0 0))]) (rest := []) K KX hw (cc_J0_checkIndex_df160 l D cy nt ad A X g0 _ x1 (Int32.ofNat (sN.getD x0 0)) hd) lk_J1_9 ⟨Nat.le_of_ble_eq_true rfl, Nat.le_of_ble_eq_true rfl⟩ ⟨Nat.zero_le _, Nat.zero_le _⟩ rfl hl.1 (Nat.le_of_ble_eq_true rfl) rfl dJ1_charAt_3b067_3 (fun g_1 H locs hd hw => ?_)
  refine lv_aload_n K.1 K.2.1 dJ1_charAt_3b067_6 rfl (lv_at hl 0 rfl) ?_
  refine lv_iload_n K.1 K.2.1 dJ1_charAt_3b067_7 rfl (lv_at hl 1 rfl) ?_
  have hb := hd.1
  have hd := hd.2
  refine va_tb K.1 K.2.1 (KX.2.2.2.2.2.2.1.1 _ hq_x0).2.2.2 hw.2.2 hb (v := .int ((sB.getD x0 []).getD x1.toNatClampNeg 0)) rfl dJ1_charAt_3b067_8 ?_
  refine lv_sipush (v := (255 : Int32)) K.1 K.2.1 dJ1_charAt_3b067_9 (by decide) ?_
  refine lv_iand K.1 K.2.1 dJ1_charAt_3b067_12 ?_
  refine lv_i2c (v := ((((sB.getD x0 []).getD x1.toNatClampNeg 0) &&& (255 : Int32)).toUInt32 % 65536).toInt32) K.1 K.2.1 dJ1_charAt_3b067_13 rfl ?_
  exact rk_nret K hw hr hd.1 hd.2 dJ1_charAt_3b067_14
theorem dJ0_charAt_5068e_0 : decode cJ0_charAt_5068e 0 = .ok (.aload_n 0, 1) := by decide +kernel
theorem dJ0_charAt_5068e_1 : decode cJ0_charAt_5068e 1 = .ok (.invokevirtual 492, 3) := by decide +kernel
theorem dJ0_charAt_5068e_4 : decode cJ0_charAt_5068e 4 = .ok (.ifCond .eq 12, 3) := by decide +kernel
theorem dJ0_charAt_5068e_7 : decode cJ0_charAt_5068e 7 = .ok (.aload_n 0, 1) := by decide +kernel
theorem dJ0_charAt_5068e_8 : decode cJ0_charAt_5068e 8 = .ok (.getfield 9, 3) := by decide +kernel
theorem dJ0_charAt_5068e_11 : decode cJ0_charAt_5068e 11 = .ok (.iload_n 1, 1) := by decide +kernel
theorem dJ0_charAt_5068e_12 : decode cJ0_charAt_5068e 12 = .ok (.invokestatic 495, 3) := by decide +kernel
theorem dJ0_charAt_5068e_15 : decode cJ0_charAt_5068e 15 = .ok (.ireturn, 1) := by decide +kernel
theorem dJ0_charAt_5068e_16 : decode cJ0_charAt_5068e 16 = .ok (.aload_n 0, 1) := by decide +kernel
theorem dJ0_charAt_5068e_17 : decode cJ0_charAt_5068e 17 = .ok (.getfield 9, 3) := by decide +kernel
theorem dJ0_charAt_5068e_20 : decode cJ0_charAt_5068e 20 = .ok (.iload_n 1, 1) := by decide +kernel
theorem dJ0_charAt_5068e_21 : decode cJ0_charAt_5068e 21 = .ok (.invokestatic 498, 3) := by decide +kernel
theorem dJ0_charAt_5068e_24 : decode cJ0_charAt_5068e 24 = .ok (.ireturn, 1) := by decide +kernel
set_option maxHeartbeats 4000000 in
set_option maxRecDepth 100000 in
theorem cc_J0_charAt_5068e (l : Launch) (D : va_G) (cy : Nat → ClassId) (nt : Nat) (ad : Nat → Nat) (A : Nat → Prop) (X : Nat → Nat)  (g0 : Sg) (Q : Int32 → Sg → Prop) (x0 : Nat) (x1 : Int32) (hd : vv_J0_charAt_5068e nt x0 x1 g0 Q) : Met l yJ0_charAt_5068e (Cond.code yJ0_charAt_5068e cJ0_charAt_5068e 2 (some .char) :: TT) (rmD 4) (va_Pc [.ref (X (10 + x0)), .int x1] (PreC (wsC cy nt ad) D cy A X g0)) (va_Qi Q (PostG (wsC cy nt ad) D A) A) 0 0 A := by
  unfold vv_J0_charAt_5068e at hd
  refine Met.ofW (cc := cJ0_charAt_5068e) (maxL := 2) (ret := (some .char)) (by decide) rfl ?_
  intro p e s m args below meth c s₁ B hml hv
  obtain ⟨rfl, ⟨hP, hK0, hD⟩, KX⟩ := hv
  have K : Kx p s m _ meth c cJ0_charAt_5068e 2 RJ0 D cy := ⟨B.exec, B.bytes, hml, findClass_of_methodNamed B.named, fun w h => atoms_spec (ws := Cond.code yJ0_charAt_5068e cJ0_charAt_5068e 2 (some .char) :: TT) B.pre w (List.mem_cons_of_mem _ h), hK0, B.notSynchronized⟩
  have hw : Wd D A s.heap (wsC cy nt ad g0) s.heap [] := ⟨hP, hD, va_S.rf⟩
  have hr := B.returns
  have hl := lv_entry ([.ref (X (10 + x0)), .int x1]) (n := 2) (Nat.le_of_ble_eq_true rfl)
  rw [lg_entry_eq]
  generalize (lg_sl ([.ref (X (10 + x0)), .int x1]) ++ List.replicate (2 - (lg_sl ([.ref (X (10 + x0)), .int x1])).length) Slot.unset).toArray = ls at hl ⊢
  have hl : lv_has ls 2 [(0, .ref (X (10 + x0))), (1, .int x1)] := hl
  have hq_x0 := hd.1
  have hd := hd.2
  refine lv_aload_n K.1 K.2.1 dJ0_charAt_5068e_0 rfl (lv_at hl 0 rfl) ?_
  refine rkc_ui (As := []) (rest := []) K KX hw (cc_J0_isLatin1_aae02 l D cy nt ad A X g0 _ x0 hd) lk_J0_492 (vk_recv (adK := fun i => X (10 + i)) (adV := fun i => X (30 + i)) (i := x0) KX.2.2.2.2.2.2.1 hq_x0 hw.2.2) ⟨Nat.le_of_ble_eq_true rfl, Nat.le_of_ble_eq_true rfl⟩ ⟨Nat.zero_le _, Nat.zero_le _⟩ rfl hl.1 (Nat.le_of_ble_eq_true rfl) rfl dJ0_charAt_5068e_1 (fun r_2 g_1 H locs hd hw => ?_)
  refine lv_if_eq (tgt := 16) K.1 K.2.1 dJ0_charAt_5068e_4 (by decide) (fun h_3 => ?_) (fun h_3 => ?_)
  · have hd := hd.1 h_3
    exact hd.elim
  · have hd := hd.2 h_3
    refine lv_aload_n K.1 K.2.1 dJ0_charAt_5068e_7 rfl (lv_at hl 0 rfl) ?_
    refine vk_getf K.1 K.2.1 (KX.2.2.2.2.2.2.1.1 _ hq_x0).2.2.1 hw.2.2 K.2.2.2.1 (K.2.2.2.2.1 _ ks_J0_9) (fun _ h => h) dJ0_charAt_5068e_8 ?_
    refine lv_iload_n K.1 K.2.1 dJ0_charAt_5068e_11 rfl (lv_at hl 1 rfl) ?_
    refine rkc_si (As := [.ref (X (30 + x0)), .int x1]) (rest := []) K KX hw (cc_J1_charAt_3b067 l D cy nt ad A X g_1 _ x0 x1 hd) lk_J0_495 ⟨Nat.le_of_ble_eq_true rfl, Nat.le_of_ble_eq_true rfl⟩ ⟨Nat.zero_le _, Nat.zero_le _⟩ rfl hl.1 (Nat.le_of_ble_eq_true rfl) rfl dJ0_charAt_5068e_12 (fun r_5 g_4 H locs hd hw => ?_)
    exact rk_nret K hw hr hd.1 hd.2 dJ0_charAt_5068e_15
theorem dX5_spells_0 : decode cX5_spells 0 = .ok (.aload_n 1, 1) := by decide +kernel
theorem dX5_spells_1 : decode cX5_spells 1 = .ok (.invokevirtual 19, 3) := by decide +kernel
theorem dX5_spells_4 : decode cX5_spells 4 = .ok (.aload_n 0, 1) := by decide +kernel
theorem dX5_spells_5 : decode cX5_spells 5 = .ok (.getfield 33, 3) := by decide +kernel
theorem dX5_spells_8 : decode cX5_spells 8 = .ok (.aload_n 0, 1) := by decide +kernel
theorem dX5_spells_9 : decode cX5_spells 9 = .ok (.getfield 39, 3) := by decide +kernel
theorem dX5_spells_12 : decode cX5_spells 12 = .ok (.isub, 1) := by decide +kernel
theorem dX5_spells_13 : decode cX5_spells 13 = .ok (.if_icmp .eq 5, 3) := by decide +kernel
theorem dX5_spells_16 : decode cX5_spells 16 = .ok (.iconst 0, 1) := by decide +kernel
theorem dX5_spells_17 : decode cX5_spells 17 = .ok (.ireturn, 1) := by decide +kernel
theorem dX5_spells_18 : decode cX5_spells 18 = .ok (.iconst 0, 1) := by decide +kernel
theorem dX5_spells_19 : decode cX5_spells 19 = .ok (.istore_n 2, 1) := by decide +kernel
theorem dX5_spells_20 : decode cX5_spells 20 = .ok (.iload_n 2, 1) := by decide +kernel
theorem dX5_spells_21 : decode cX5_spells 21 = .ok (.aload_n 1, 1) := by decide +kernel
theorem dX5_spells_22 : decode cX5_spells 22 = .ok (.invokevirtual 19, 3) := by decide +kernel
theorem dX5_spells_25 : decode cX5_spells 25 = .ok (.if_icmp .ge 30, 3) := by decide +kernel
theorem dX5_spells_28 : decode cX5_spells 28 = .ok (.aload_n 1, 1) := by decide +kernel
theorem dX5_spells_29 : decode cX5_spells 29 = .ok (.iload_n 2, 1) := by decide +kernel
theorem dX5_spells_30 : decode cX5_spells 30 = .ok (.invokevirtual 25, 3) := by decide +kernel
theorem dX5_spells_33 : decode cX5_spells 33 = .ok (.aload_n 0, 1) := by decide +kernel
theorem dX5_spells_34 : decode cX5_spells 34 = .ok (.getfield 9, 3) := by decide +kernel
theorem dX5_spells_37 : decode cX5_spells 37 = .ok (.aload_n 0, 1) := by decide +kernel
theorem dX5_spells_38 : decode cX5_spells 38 = .ok (.getfield 39, 3) := by decide +kernel
theorem dX5_spells_41 : decode cX5_spells 41 = .ok (.iload_n 2, 1) := by decide +kernel
theorem dX5_spells_42 : decode cX5_spells 42 = .ok (.iadd, 1) := by decide +kernel
theorem dX5_spells_43 : decode cX5_spells 43 = .ok (.iaload, 1) := by decide +kernel
theorem dX5_spells_44 : decode cX5_spells 44 = .ok (.if_icmp .eq 5, 3) := by decide +kernel
theorem dX5_spells_47 : decode cX5_spells 47 = .ok (.iconst 0, 1) := by decide +kernel
theorem dX5_spells_48 : decode cX5_spells 48 = .ok (.ireturn, 1) := by decide +kernel
theorem dX5_spells_49 : decode cX5_spells 49 = .ok (.iinc 2 1, 3) := by decide +kernel
theorem dX5_spells_52 : decode cX5_spells 52 = .ok (.goto (-32), 3) := by decide +kernel
theorem dX5_spells_55 : decode cX5_spells 55 = .ok (.iconst 1, 1) := by decide +kernel
theorem dX5_spells_56 : decode cX5_spells 56 = .ok (.ireturn, 1) := by decide +kernel
set_option maxHeartbeats 4000000 in
set_option maxRecDepth 100000 in
theorem bb_X5_spells_20 {p : Program} {l : Launch} {e : Env} {s : State} {m : MethodId} {args : Array Value} {below : List Frame} {meth : Method} {c : Code} {D : va_G} {cy : Nat → ClassId} {nt : Nat} {ad : Nat → Nat} {A : Nat → Prop} {X : Nat → Nat} {Q : Int32 → Sg → Prop} (K : Kx p s m args meth c cX5_spells 3 RX5 D cy) (KX : XC X A s s.heap) (hr : meth.sig.returnType = (some .boolean))  : ∀ (n : Nat) (x1 : Nat) (x2 : Int32)  (g0 : Sg) (H : Heap) (locs : List Loc) (ls : Array Slot), x1 < 13 → vv_X5_spells_L20 nt Q n x1 x2 g0 → Wd D A s.heap (wsC cy nt ad g0) H locs → lv_has ls 3 [(0, .ref (ad 8)), (1, .ref (X (10 + x1))), (2, .int x2)] → W p l e (rmD 5) s m args below meth c H locs 0 0 (MQ below (va_Qi Q (PostG (wsC cy nt ad) D A) A) args s 0 0 A) (F0 m 20 ls []) := by
  intro n
  induction n with
  | zero => intro _ _ _ _ _ _ _ hd; exact hd.elim
  | succ n ih =>
    intro x1 x2 g0 H locs ls hq_x1 hd hw hl
    unfold vv_X5_spells_L20 at hd
    refine lv_iload_n K.1 K.2.1 dX5_spells_20 rfl (lv_at hl 2 rfl) ?_
    refine lv_aload_n K.1 K.2.1 dX5_spells_21 rfl (lv_at hl 1 rfl) ?_
    refine rkc_ui (As := []) (rest := [.int x2]) K KX hw (cc_J0_length_8abf5 l D cy nt ad A X g0 _ x1 hd) lk_X5_19 (vk_recv (adK := fun i => X (10 + i)) (adV := fun i => X (30 + i)) (i := x1) KX.2.2.2.2.2.2.1 hq_x1 hw.2.2) ⟨Nat.le_of_ble_eq_true rfl, Nat.le_of_ble_eq_true rfl⟩ ⟨Nat.zero_le _, Nat.zero_le _⟩ rfl hl.1 (Nat.le_of_ble_eq_true rfl) rfl dX5_spells_22 (fun r_6 g_5 H locs hd hw => ?_)
    refine lv_icmp_ge (tgt := 55) K.1 K.2.1 dX5_spells_25 (by decide) (fun h_7 => ?_) (fun h_7 => ?_)
    · have hd := hd.1 h_7
      refine lv_iconst (v := (1 : Int32)) K.1 K.2.1 dX5_spells_55 (by decide) ?_
      exact rk_zret K hw hr (by decide) hd dX5_spells_56
    · have hd := hd.2 h_7
      refine lv_aload_n K.1 K.2.1 dX5_spells_28 rfl (lv_at hl 1 rfl) ?_
      refine lv_iload_n K.1 K.2.1 dX5_spells_29 rfl (lv_at hl 2 rfl) ?_
      refine rkc_ui (As := [.int x2]) (rest := []) K KX hw (cc_J0_charAt_5068e l D cy nt ad A X g_5 _ x1 x2 hd) lk_X5_25 (vk_recv (adK := fun i => X (10 + i)) (adV := fun i => X (30 + i)) (i := x1) KX.2.2.2.2.2.2.1 hq_x1 hw.2.2) ⟨Nat.le_of_ble_eq_true rfl, Nat.le_of_ble_eq_true rfl⟩ ⟨Nat.zero_le _, Nat.zero_le _⟩ rfl hl.1 (Nat.le_of_ble_eq_true rfl) rfl dX5_spells_30 (fun r_9 g_8 H locs hd hw => ?_)
      refine lv_aload_n K.1 K.2.1 dX5_spells_33 rfl (lv_at hl 0 rfl) ?_
      refine rc_get layX5 (ci := 5) rfl 0 (by decide) (v := .ref (ad 9)) K hw (wc_Tp cy nt ad _) kf_X5_9 rfl dX5_spells_34 ?_
      refine lv_aload_n K.1 K.2.1 dX5_spells_37 rfl (lv_at hl 0 rfl) ?_
      refine rc_get layX5 (ci := 5) rfl 2 (by decide) (v := .int (g_8 8 2)) K hw (wc_Tp cy nt ad _) kf_X5_39 rfl dX5_spells_38 ?_
      refine lv_iload_n K.1 K.2.1 dX5_spells_41 rfl (lv_at hl 2 rfl) ?_
      refine lv_iadd K.1 K.2.1 dX5_spells_42 ?_
      have hb := hd.1
      have hd := hd.2
      refine rc_iald K hw (wc_9 cy nt ad _) hb dX5_spells_43 ?_
      refine lv_icmp_eq (tgt := 49) K.1 K.2.1 dX5_spells_44 (by decide) (fun h_10 => ?_) (fun h_10 => ?_)
      · have hd := hd.1 h_10
        obtain ⟨x2_11, ex2_11⟩ : ∃ y : Int32, y = x2 + (1 : Int32) := ⟨_, rfl⟩
        have hd := hd x2_11 ex2_11
        refine lv_iinc (v := x2_11) (lv' := [(2, .int x2_11), (0, .ref (ad 8)), (1, .ref (X (10 + x1)))]) K.1 K.2.1 dX5_spells_49 hl (k := 2) rfl (by rw [ex2_11]; rfl) (by decide) rfl (fun ls hl => ?_)
        refine lv_goto (tgt := 20) K.1 K.2.1 dX5_spells_52 (by decide) ?_
        exact ih x1 x2_11 g_8 _ _ _ hq_x1 hd hw (lv_sub hl [1, 2, 0] rfl)
      · have hd := hd.2 h_10
        refine lv_iconst (v := (0 : Int32)) K.1 K.2.1 dX5_spells_47 (by decide) ?_
        exact rk_zret K hw hr (by decide) hd dX5_spells_48
set_option maxHeartbeats 4000000 in
set_option maxRecDepth 100000 in
theorem cc_X5_spells (l : Launch) (D : va_G) (cy : Nat → ClassId) (nt : Nat) (ad : Nat → Nat) (A : Nat → Prop) (X : Nat → Nat)  (g0 : Sg) (Q : Int32 → Sg → Prop) (x1 : Nat) (hd : vv_X5_spells nt x1 g0 Q) : Met l yX5_spells (Cond.code yX5_spells cX5_spells 3 (some .boolean) :: TT) (rmD 5) (va_Pc [.ref (ad 8), .ref (X (10 + x1))] (PreC (wsC cy nt ad) D cy A X g0)) (va_Qi Q (PostG (wsC cy nt ad) D A) A) 0 0 A := by
  unfold vv_X5_spells at hd
  refine Met.ofW (cc := cX5_spells) (maxL := 3) (ret := (some .boolean)) (by decide) rfl ?_
  intro p e s m args below meth c s₁ B hml hv
  obtain ⟨rfl, ⟨hP, hK0, hD⟩, KX⟩ := hv
  have K : Kx p s m _ meth c cX5_spells 3 RX5 D cy := ⟨B.exec, B.bytes, hml, findClass_of_methodNamed B.named, fun w h => atoms_spec (ws := Cond.code yX5_spells cX5_spells 3 (some .boolean) :: TT) B.pre w (List.mem_cons_of_mem _ h), hK0, B.notSynchronized⟩
  have hw : Wd D A s.heap (wsC cy nt ad g0) s.heap [] := ⟨hP, hD, va_S.rf⟩
  have hr := B.returns
  have hl := lv_entry ([.ref (ad 8), .ref (X (10 + x1))]) (n := 3) (Nat.le_of_ble_eq_true rfl)
  rw [lg_entry_eq]
  generalize (lg_sl ([.ref (ad 8), .ref (X (10 + x1))]) ++ List.replicate (3 - (lg_sl ([.ref (ad 8), .ref (X (10 + x1))])).length) Slot.unset).toArray = ls at hl ⊢
  have hl : lv_has ls 3 [(0, .ref (ad 8)), (1, .ref (X (10 + x1)))] := hl
  have hq_x1 := hd.1
  have hd := hd.2
  refine lv_aload_n K.1 K.2.1 dX5_spells_0 rfl (lv_at hl 1 rfl) ?_
  refine rkc_ui (As := []) (rest := []) K KX hw (cc_J0_length_8abf5 l D cy nt ad A X g0 _ x1 hd) lk_X5_19 (vk_recv (adK := fun i => X (10 + i)) (adV := fun i => X (30 + i)) (i := x1) KX.2.2.2.2.2.2.1 hq_x1 hw.2.2) ⟨Nat.le_of_ble_eq_true rfl, Nat.le_of_ble_eq_true rfl⟩ ⟨Nat.zero_le _, Nat.zero_le _⟩ rfl hl.1 (Nat.le_of_ble_eq_true rfl) rfl dX5_spells_1 (fun r_2 g_1 H locs hd hw => ?_)
  refine lv_aload_n K.1 K.2.1 dX5_spells_4 rfl (lv_at hl 0 rfl) ?_
  refine rc_get layX5 (ci := 5) rfl 5 (by decide) (v := .int (g_1 8 5)) K hw (wc_Tp cy nt ad _) kf_X5_33 rfl dX5_spells_5 ?_
  refine lv_aload_n K.1 K.2.1 dX5_spells_8 rfl (lv_at hl 0 rfl) ?_
  refine rc_get layX5 (ci := 5) rfl 2 (by decide) (v := .int (g_1 8 2)) K hw (wc_Tp cy nt ad _) kf_X5_39 rfl dX5_spells_9 ?_
  refine lv_isub K.1 K.2.1 dX5_spells_12 ?_
  refine lv_icmp_eq (tgt := 18) K.1 K.2.1 dX5_spells_13 (by decide) (fun h_3 => ?_) (fun h_3 => ?_)
  · have hd := hd.1 h_3
    refine lv_iconst (v := (0 : Int32)) K.1 K.2.1 dX5_spells_18 (by decide) ?_
    refine lv_topi (fun x2_4 ex2_4 => ?_)
    have hd := hd x2_4 ex2_4
    refine lv_istore_n (lv' := [(2, .int x2_4), (0, .ref (ad 8)), (1, .ref (X (10 + x1)))]) K.1 K.2.1 dX5_spells_19 rfl hl (by decide) rfl (fun ls hl => ?_)
    obtain ⟨n9, hd⟩ := hd
    exact bb_X5_spells_20 K KX hr   n9 x1 x2_4 g_1 _ _ _ hq_x1 hd hw (lv_sub hl [1, 2, 0] rfl)
  · have hd := hd.2 h_3
    refine lv_iconst (v := (0 : Int32)) K.1 K.2.1 dX5_spells_16 (by decide) ?_
    exact rk_zret K hw hr (by decide) hd dX5_spells_17
theorem dX5_wordAtHand_0 : decode cX5_wordAtHand 0 = .ok (.aload_n 0, 1) := by decide +kernel
theorem dX5_wordAtHand_1 : decode cX5_wordAtHand 1 = .ok (.ldc 67, 2) := by decide +kernel
theorem dX5_wordAtHand_3 : decode cX5_wordAtHand 3 = .ok (.invokevirtual 69, 3) := by decide +kernel
theorem dX5_wordAtHand_6 : decode cX5_wordAtHand 6 = .ok (.ifCond .eq 7, 3) := by decide +kernel
theorem dX5_wordAtHand_9 : decode cX5_wordAtHand 9 = .ok (.iconst 0, 1) := by decide +kernel
theorem dX5_wordAtHand_10 : decode cX5_wordAtHand 10 = .ok (.goto 69, 3) := by decide +kernel
theorem dX5_wordAtHand_13 : decode cX5_wordAtHand 13 = .ok (.aload_n 0, 1) := by decide +kernel
theorem dX5_wordAtHand_14 : decode cX5_wordAtHand 14 = .ok (.ldc 73, 2) := by decide +kernel
theorem dX5_wordAtHand_16 : decode cX5_wordAtHand 16 = .ok (.invokevirtual 69, 3) := by decide +kernel
theorem dX5_wordAtHand_19 : decode cX5_wordAtHand 19 = .ok (.ifCond .eq 7, 3) := by decide +kernel
theorem dX5_wordAtHand_22 : decode cX5_wordAtHand 22 = .ok (.iconst 1, 1) := by decide +kernel
theorem dX5_wordAtHand_23 : decode cX5_wordAtHand 23 = .ok (.goto 56, 3) := by decide +kernel
theorem dX5_wordAtHand_26 : decode cX5_wordAtHand 26 = .ok (.aload_n 0, 1) := by decide +kernel
theorem dX5_wordAtHand_27 : decode cX5_wordAtHand 27 = .ok (.ldc 75, 2) := by decide +kernel
theorem dX5_wordAtHand_29 : decode cX5_wordAtHand 29 = .ok (.invokevirtual 69, 3) := by decide +kernel
theorem dX5_wordAtHand_32 : decode cX5_wordAtHand 32 = .ok (.ifCond .eq 7, 3) := by decide +kernel
theorem dX5_wordAtHand_35 : decode cX5_wordAtHand 35 = .ok (.iconst 2, 1) := by decide +kernel
theorem dX5_wordAtHand_36 : decode cX5_wordAtHand 36 = .ok (.goto 43, 3) := by decide +kernel
theorem dX5_wordAtHand_39 : decode cX5_wordAtHand 39 = .ok (.aload_n 0, 1) := by decide +kernel
theorem dX5_wordAtHand_40 : decode cX5_wordAtHand 40 = .ok (.ldc 77, 2) := by decide +kernel
theorem dX5_wordAtHand_42 : decode cX5_wordAtHand 42 = .ok (.invokevirtual 69, 3) := by decide +kernel
theorem dX5_wordAtHand_45 : decode cX5_wordAtHand 45 = .ok (.ifCond .eq 7, 3) := by decide +kernel
theorem dX5_wordAtHand_48 : decode cX5_wordAtHand 48 = .ok (.iconst 3, 1) := by decide +kernel
theorem dX5_wordAtHand_49 : decode cX5_wordAtHand 49 = .ok (.goto 30, 3) := by decide +kernel
theorem dX5_wordAtHand_52 : decode cX5_wordAtHand 52 = .ok (.aload_n 0, 1) := by decide +kernel
theorem dX5_wordAtHand_53 : decode cX5_wordAtHand 53 = .ok (.ldc 79, 2) := by decide +kernel
theorem dX5_wordAtHand_55 : decode cX5_wordAtHand 55 = .ok (.invokevirtual 69, 3) := by decide +kernel
theorem dX5_wordAtHand_58 : decode cX5_wordAtHand 58 = .ok (.ifCond .eq 7, 3) := by decide +kernel
theorem dX5_wordAtHand_61 : decode cX5_wordAtHand 61 = .ok (.iconst 4, 1) := by decide +kernel
theorem dX5_wordAtHand_62 : decode cX5_wordAtHand 62 = .ok (.goto 17, 3) := by decide +kernel
theorem dX5_wordAtHand_65 : decode cX5_wordAtHand 65 = .ok (.aload_n 0, 1) := by decide +kernel
theorem dX5_wordAtHand_66 : decode cX5_wordAtHand 66 = .ok (.ldc 81, 2) := by decide +kernel
theorem dX5_wordAtHand_68 : decode cX5_wordAtHand 68 = .ok (.invokevirtual 69, 3) := by decide +kernel
theorem dX5_wordAtHand_71 : decode cX5_wordAtHand 71 = .ok (.ifCond .eq 7, 3) := by decide +kernel
theorem dX5_wordAtHand_74 : decode cX5_wordAtHand 74 = .ok (.iconst 5, 1) := by decide +kernel
theorem dX5_wordAtHand_75 : decode cX5_wordAtHand 75 = .ok (.goto 4, 3) := by decide +kernel
theorem dX5_wordAtHand_78 : decode cX5_wordAtHand 78 = .ok (.iconst (-1), 1) := by decide +kernel
theorem dX5_wordAtHand_79 : decode cX5_wordAtHand 79 = .ok (.istore_n 1, 1) := by decide +kernel
theorem dX5_wordAtHand_80 : decode cX5_wordAtHand 80 = .ok (.iload_n 1, 1) := by decide +kernel
theorem dX5_wordAtHand_81 : decode cX5_wordAtHand 81 = .ok (.iconst (-1), 1) := by decide +kernel
theorem dX5_wordAtHand_82 : decode cX5_wordAtHand 82 = .ok (.if_icmp .eq 14, 3) := by decide +kernel
theorem dX5_wordAtHand_85 : decode cX5_wordAtHand 85 = .ok (.aload_n 0, 1) := by decide +kernel
theorem dX5_wordAtHand_86 : decode cX5_wordAtHand 86 = .ok (.sipush 10000, 3) := by decide +kernel
theorem dX5_wordAtHand_89 : decode cX5_wordAtHand 89 = .ok (.iload_n 1, 1) := by decide +kernel
theorem dX5_wordAtHand_90 : decode cX5_wordAtHand 90 = .ok (.iadd, 1) := by decide +kernel
theorem dX5_wordAtHand_91 : decode cX5_wordAtHand 91 = .ok (.putfield 42, 3) := by decide +kernel
theorem dX5_wordAtHand_94 : decode cX5_wordAtHand 94 = .ok (.iconst 3, 1) := by decide +kernel
theorem dX5_wordAtHand_95 : decode cX5_wordAtHand 95 = .ok (.ireturn, 1) := by decide +kernel
theorem dX5_wordAtHand_96 : decode cX5_wordAtHand 96 = .ok (.aload_n 0, 1) := by decide +kernel
theorem dX5_wordAtHand_97 : decode cX5_wordAtHand 97 = .ok (.ldc 83, 2) := by decide +kernel
theorem dX5_wordAtHand_99 : decode cX5_wordAtHand 99 = .ok (.invokevirtual 69, 3) := by decide +kernel
theorem dX5_wordAtHand_102 : decode cX5_wordAtHand 102 = .ok (.ifCond .eq 7, 3) := by decide +kernel
theorem dX5_wordAtHand_105 : decode cX5_wordAtHand 105 = .ok (.iconst 4, 1) := by decide +kernel
theorem dX5_wordAtHand_106 : decode cX5_wordAtHand 106 = .ok (.goto 73, 3) := by decide +kernel
theorem dX5_wordAtHand_109 : decode cX5_wordAtHand 109 = .ok (.aload_n 0, 1) := by decide +kernel
theorem dX5_wordAtHand_110 : decode cX5_wordAtHand 110 = .ok (.ldc 85, 2) := by decide +kernel
theorem dX5_wordAtHand_112 : decode cX5_wordAtHand 112 = .ok (.invokevirtual 69, 3) := by decide +kernel
theorem dX5_wordAtHand_115 : decode cX5_wordAtHand 115 = .ok (.ifCond .eq 7, 3) := by decide +kernel
theorem dX5_wordAtHand_118 : decode cX5_wordAtHand 118 = .ok (.iconst 5, 1) := by decide +kernel
theorem dX5_wordAtHand_119 : decode cX5_wordAtHand 119 = .ok (.goto 60, 3) := by decide +kernel
theorem dX5_wordAtHand_122 : decode cX5_wordAtHand 122 = .ok (.aload_n 0, 1) := by decide +kernel
theorem dX5_wordAtHand_123 : decode cX5_wordAtHand 123 = .ok (.ldc 87, 2) := by decide +kernel
theorem dX5_wordAtHand_125 : decode cX5_wordAtHand 125 = .ok (.invokevirtual 69, 3) := by decide +kernel
theorem dX5_wordAtHand_128 : decode cX5_wordAtHand 128 = .ok (.ifCond .eq 8, 3) := by decide +kernel
theorem dX5_wordAtHand_131 : decode cX5_wordAtHand 131 = .ok (.bipush 6, 2) := by decide +kernel
theorem dX5_wordAtHand_133 : decode cX5_wordAtHand 133 = .ok (.goto 46, 3) := by decide +kernel
theorem dX5_wordAtHand_136 : decode cX5_wordAtHand 136 = .ok (.aload_n 0, 1) := by decide +kernel
theorem dX5_wordAtHand_137 : decode cX5_wordAtHand 137 = .ok (.ldc 89, 2) := by decide +kernel
theorem dX5_wordAtHand_139 : decode cX5_wordAtHand 139 = .ok (.invokevirtual 69, 3) := by decide +kernel
theorem dX5_wordAtHand_142 : decode cX5_wordAtHand 142 = .ok (.ifCond .eq 8, 3) := by decide +kernel
theorem dX5_wordAtHand_145 : decode cX5_wordAtHand 145 = .ok (.bipush 7, 2) := by decide +kernel
theorem dX5_wordAtHand_147 : decode cX5_wordAtHand 147 = .ok (.goto 32, 3) := by decide +kernel
theorem dX5_wordAtHand_150 : decode cX5_wordAtHand 150 = .ok (.aload_n 0, 1) := by decide +kernel
theorem dX5_wordAtHand_151 : decode cX5_wordAtHand 151 = .ok (.ldc 91, 2) := by decide +kernel
theorem dX5_wordAtHand_153 : decode cX5_wordAtHand 153 = .ok (.invokevirtual 69, 3) := by decide +kernel
theorem dX5_wordAtHand_156 : decode cX5_wordAtHand 156 = .ok (.ifCond .eq 8, 3) := by decide +kernel
theorem dX5_wordAtHand_159 : decode cX5_wordAtHand 159 = .ok (.bipush 8, 2) := by decide +kernel
theorem dX5_wordAtHand_161 : decode cX5_wordAtHand 161 = .ok (.goto 18, 3) := by decide +kernel
theorem dX5_wordAtHand_164 : decode cX5_wordAtHand 164 = .ok (.aload_n 0, 1) := by decide +kernel
theorem dX5_wordAtHand_165 : decode cX5_wordAtHand 165 = .ok (.ldc 93, 2) := by decide +kernel
theorem dX5_wordAtHand_167 : decode cX5_wordAtHand 167 = .ok (.invokevirtual 69, 3) := by decide +kernel
theorem dX5_wordAtHand_170 : decode cX5_wordAtHand 170 = .ok (.ifCond .eq 8, 3) := by decide +kernel
theorem dX5_wordAtHand_173 : decode cX5_wordAtHand 173 = .ok (.bipush 9, 2) := by decide +kernel
theorem dX5_wordAtHand_175 : decode cX5_wordAtHand 175 = .ok (.goto 4, 3) := by decide +kernel
theorem dX5_wordAtHand_178 : decode cX5_wordAtHand 178 = .ok (.iconst 1, 1) := by decide +kernel
theorem dX5_wordAtHand_179 : decode cX5_wordAtHand 179 = .ok (.ireturn, 1) := by decide +kernel
set_option maxHeartbeats 4000000 in
set_option maxRecDepth 100000 in
theorem bb_X5_wordAtHand_79 {p : Program} {l : Launch} {e : Env} {s : State} {m : MethodId} {args : Array Value} {below : List Frame} {meth : Method} {c : Code} {D : va_G} {cy : Nat → ClassId} {nt : Nat} {ad : Nat → Nat} {A : Nat → Prop} {X : Nat → Nat} {Q : Int32 → Sg → Prop} (K : Kx p s m args meth c cX5_wordAtHand 2 RX5 D cy) (KX : XC X A s s.heap) (hr : meth.sig.returnType = (some .int))   (t0 : Int32) (g0 : Sg) (H : Heap) (locs : List Loc) (ls : Array Slot) (hd : vv_X5_wordAtHand_J79 nt t0 g0 Q) (hw : Wd D A s.heap (wsC cy nt ad g0) H locs) (hl : lv_has ls 2 [(0, .ref (ad 8))]) : W p l e (rmD 6) s m args below meth c H locs 0 0 (MQ below (va_Qi Q (PostG (wsC cy nt ad) D A) A) args s 0 0 A) (F0 m 79 ls [.int t0]) := by
  unfold vv_X5_wordAtHand_J79 at hd
  refine lv_topi (fun x1_19 ex1_19 => ?_)
  have hd := hd x1_19 ex1_19
  refine lv_istore_n (lv' := [(1, .int x1_19), (0, .ref (ad 8))]) K.1 K.2.1 dX5_wordAtHand_79 rfl hl (by decide) rfl (fun ls hl => ?_)
  refine lv_iload_n K.1 K.2.1 dX5_wordAtHand_80 rfl (lv_at hl 0 rfl) ?_
  refine lv_iconst (v := (-1 : Int32)) K.1 K.2.1 dX5_wordAtHand_81 (by decide) ?_
  refine lv_icmp_eq (tgt := 96) K.1 K.2.1 dX5_wordAtHand_82 (by decide) (fun h_20 => ?_) (fun h_20 => ?_)
  · have hd := hd.1 h_20
    refine lv_aload_n K.1 K.2.1 dX5_wordAtHand_96 rfl (lv_at hl 1 rfl) ?_
    refine va_ldcS K.1 K.2.1 K.2.2.2.1 (show vk_R RX5 83 "feels" (X (10 + 7)) s from KX.2.2.2.2.2.2.2.1 7 (by decide)) dX5_wordAtHand_97 ?_
    refine rkc_vi (As := [.ref (X (10 + 7))]) (rest := []) K KX hw (cc_X5_spells l D cy nt ad A X g0 _ 7 hd) lk_X5_69 (ci := 5) rfl (wc_Tp cy nt ad _) ⟨Nat.le_of_ble_eq_true rfl, Nat.le_of_ble_eq_true rfl⟩ ⟨Nat.zero_le _, Nat.zero_le _⟩ rfl hl.1 (Nat.le_of_ble_eq_true rfl) rfl dX5_wordAtHand_99 (fun r_22 g_21 H locs hd hw => ?_)
    refine lv_if_eq (tgt := 109) K.1 K.2.1 dX5_wordAtHand_102 (by decide) (fun h_23 => ?_) (fun h_23 => ?_)
    · have hd := hd.1 h_23
      refine lv_aload_n K.1 K.2.1 dX5_wordAtHand_109 rfl (lv_at hl 1 rfl) ?_
      refine va_ldcS K.1 K.2.1 K.2.2.2.1 (show vk_R RX5 85 "weighs" (X (10 + 8)) s from KX.2.2.2.2.2.2.2.1 8 (by decide)) dX5_wordAtHand_110 ?_
      refine rkc_vi (As := [.ref (X (10 + 8))]) (rest := []) K KX hw (cc_X5_spells l D cy nt ad A X g_21 _ 8 hd) lk_X5_69 (ci := 5) rfl (wc_Tp cy nt ad _) ⟨Nat.le_of_ble_eq_true rfl, Nat.le_of_ble_eq_true rfl⟩ ⟨Nat.zero_le _, Nat.zero_le _⟩ rfl hl.1 (Nat.le_of_ble_eq_true rfl) rfl dX5_wordAtHand_112 (fun r_25 g_24 H locs hd hw => ?_)
      refine lv_if_eq (tgt := 122) K.1 K.2.1 dX5_wordAtHand_115 (by decide) (fun h_26 => ?_) (fun h_26 => ?_)
      · have hd := hd.1 h_26
        refine lv_aload_n K.1 K.2.1 dX5_wordAtHand_122 rfl (lv_at hl 1 rfl) ?_
        refine va_ldcS K.1 K.2.1 K.2.2.2.1 (show vk_R RX5 87 "smooths" (X (10 + 9)) s from KX.2.2.2.2.2.2.2.1 9 (by decide)) dX5_wordAtHand_123 ?_
        refine rkc_vi (As := [.ref (X (10 + 9))]) (rest := []) K KX hw (cc_X5_spells l D cy nt ad A X g_24 _ 9 hd) lk_X5_69 (ci := 5) rfl (wc_Tp cy nt ad _) ⟨Nat.le_of_ble_eq_true rfl, Nat.le_of_ble_eq_true rfl⟩ ⟨Nat.zero_le _, Nat.zero_le _⟩ rfl hl.1 (Nat.le_of_ble_eq_true rfl) rfl dX5_wordAtHand_125 (fun r_28 g_27 H locs hd hw => ?_)
        refine lv_if_eq (tgt := 136) K.1 K.2.1 dX5_wordAtHand_128 (by decide) (fun h_29 => ?_) (fun h_29 => ?_)
        · have hd := hd.1 h_29
          refine lv_aload_n K.1 K.2.1 dX5_wordAtHand_136 rfl (lv_at hl 1 rfl) ?_
          refine va_ldcS K.1 K.2.1 K.2.2.2.1 (show vk_R RX5 89 "or" (X (10 + 10)) s from KX.2.2.2.2.2.2.2.1 10 (by decide)) dX5_wordAtHand_137 ?_
          refine rkc_vi (As := [.ref (X (10 + 10))]) (rest := []) K KX hw (cc_X5_spells l D cy nt ad A X g_27 _ 10 hd) lk_X5_69 (ci := 5) rfl (wc_Tp cy nt ad _) ⟨Nat.le_of_ble_eq_true rfl, Nat.le_of_ble_eq_true rfl⟩ ⟨Nat.zero_le _, Nat.zero_le _⟩ rfl hl.1 (Nat.le_of_ble_eq_true rfl) rfl dX5_wordAtHand_139 (fun r_31 g_30 H locs hd hw => ?_)
          refine lv_if_eq (tgt := 150) K.1 K.2.1 dX5_wordAtHand_142 (by decide) (fun h_32 => ?_) (fun h_32 => ?_)
          · have hd := hd.1 h_32
            refine lv_aload_n K.1 K.2.1 dX5_wordAtHand_150 rfl (lv_at hl 1 rfl) ?_
            refine va_ldcS K.1 K.2.1 K.2.2.2.1 (show vk_R RX5 91 "and" (X (10 + 11)) s from KX.2.2.2.2.2.2.2.1 11 (by decide)) dX5_wordAtHand_151 ?_
            refine rkc_vi (As := [.ref (X (10 + 11))]) (rest := []) K KX hw (cc_X5_spells l D cy nt ad A X g_30 _ 11 hd) lk_X5_69 (ci := 5) rfl (wc_Tp cy nt ad _) ⟨Nat.le_of_ble_eq_true rfl, Nat.le_of_ble_eq_true rfl⟩ ⟨Nat.zero_le _, Nat.zero_le _⟩ rfl hl.1 (Nat.le_of_ble_eq_true rfl) rfl dX5_wordAtHand_153 (fun r_34 g_33 H locs hd hw => ?_)
            refine lv_if_eq (tgt := 164) K.1 K.2.1 dX5_wordAtHand_156 (by decide) (fun h_35 => ?_) (fun h_35 => ?_)
            · have hd := hd.1 h_35
              refine lv_aload_n K.1 K.2.1 dX5_wordAtHand_164 rfl (lv_at hl 1 rfl) ?_
              refine va_ldcS K.1 K.2.1 K.2.2.2.1 (show vk_R RX5 93 "not" (X (10 + 12)) s from KX.2.2.2.2.2.2.2.1 12 (by decide)) dX5_wordAtHand_165 ?_
              refine rkc_vi (As := [.ref (X (10 + 12))]) (rest := []) K KX hw (cc_X5_spells l D cy nt ad A X g_33 _ 12 hd) lk_X5_69 (ci := 5) rfl (wc_Tp cy nt ad _) ⟨Nat.le_of_ble_eq_true rfl, Nat.le_of_ble_eq_true rfl⟩ ⟨Nat.zero_le _, Nat.zero_le _⟩ rfl hl.1 (Nat.le_of_ble_eq_true rfl) rfl dX5_wordAtHand_167 (fun r_37 g_36 H locs hd hw => ?_)
              refine lv_if_eq (tgt := 178) K.1 K.2.1 dX5_wordAtHand_170 (by decide) (fun h_38 => ?_) (fun h_38 => ?_)
              · have hd := hd.1 h_38
                refine lv_iconst (v := (1 : Int32)) K.1 K.2.1 dX5_wordAtHand_178 (by decide) ?_
                exact rk_iret K hw hr hd dX5_wordAtHand_179
              · have hd := hd.2 h_38
                refine lv_bipush (v := (9 : Int32)) K.1 K.2.1 dX5_wordAtHand_173 (by decide) ?_
                refine lv_goto (tgt := 179) K.1 K.2.1 dX5_wordAtHand_175 (by decide) ?_
                exact rk_iret K hw hr hd dX5_wordAtHand_179
            · have hd := hd.2 h_35
              refine lv_bipush (v := (8 : Int32)) K.1 K.2.1 dX5_wordAtHand_159 (by decide) ?_
              refine lv_goto (tgt := 179) K.1 K.2.1 dX5_wordAtHand_161 (by decide) ?_
              exact rk_iret K hw hr hd dX5_wordAtHand_179
          · have hd := hd.2 h_32
            refine lv_bipush (v := (7 : Int32)) K.1 K.2.1 dX5_wordAtHand_145 (by decide) ?_
            refine lv_goto (tgt := 179) K.1 K.2.1 dX5_wordAtHand_147 (by decide) ?_
            exact rk_iret K hw hr hd dX5_wordAtHand_179
        · have hd := hd.2 h_29
          refine lv_bipush (v := (6 : Int32)) K.1 K.2.1 dX5_wordAtHand_131 (by decide) ?_
          refine lv_goto (tgt := 179) K.1 K.2.1 dX5_wordAtHand_133 (by decide) ?_
          exact rk_iret K hw hr hd dX5_wordAtHand_179
      · have hd := hd.2 h_26
        refine lv_iconst (v := (5 : Int32)) K.1 K.2.1 dX5_wordAtHand_118 (by decide) ?_
        refine lv_goto (tgt := 179) K.1 K.2.1 dX5_wordAtHand_119 (by decide) ?_
        exact rk_iret K hw hr hd dX5_wordAtHand_179
    · have hd := hd.2 h_23
      refine lv_iconst (v := (4 : Int32)) K.1 K.2.1 dX5_wordAtHand_105 (by decide) ?_
      refine lv_goto (tgt := 179) K.1 K.2.1 dX5_wordAtHand_106 (by decide) ?_
      exact rk_iret K hw hr hd dX5_wordAtHand_179
  · have hd := hd.2 h_20
    refine lv_aload_n K.1 K.2.1 dX5_wordAtHand_85 rfl (lv_at hl 1 rfl) ?_
    refine lv_sipush (v := (10000 : Int32)) K.1 K.2.1 dX5_wordAtHand_86 (by decide) ?_
    refine lv_iload_n K.1 K.2.1 dX5_wordAtHand_89 rfl (lv_at hl 0 rfl) ?_
    refine lv_iadd K.1 K.2.1 dX5_wordAtHand_90 ?_
    refine rc_put layX5 (ci := 5) rfl tyX5_ok nmX5 4 (by decide) K hw (wc_Tp cy nt ad _) kf_X5_42 rfl rfl rfl rfl (Nat.le_of_ble_eq_true rfl) (wp_Tp_4 cy nt ad _ _) dX5_wordAtHand_91 (fun g_39 eg_39 H locs hw => ?_)
    have hd := hd g_39 eg_39
    refine lv_iconst (v := (3 : Int32)) K.1 K.2.1 dX5_wordAtHand_94 (by decide) ?_
    exact rk_iret K hw hr hd dX5_wordAtHand_95
set_option maxHeartbeats 4000000 in
set_option maxRecDepth 100000 in
theorem cc_X5_wordAtHand (l : Launch) (D : va_G) (cy : Nat → ClassId) (nt : Nat) (ad : Nat → Nat) (A : Nat → Prop) (X : Nat → Nat)  (g0 : Sg) (Q : Int32 → Sg → Prop)  (hd : vv_X5_wordAtHand nt  g0 Q) : Met l yX5_wordAtHand (Cond.code yX5_wordAtHand cX5_wordAtHand 2 (some .int) :: TT) (rmD 6) (va_Pc [.ref (ad 8)] (PreC (wsC cy nt ad) D cy A X g0)) (va_Qi Q (PostG (wsC cy nt ad) D A) A) 0 0 A := by
  unfold vv_X5_wordAtHand at hd
  refine Met.ofW (cc := cX5_wordAtHand) (maxL := 2) (ret := (some .int)) (by decide) rfl ?_
  intro p e s m args below meth c s₁ B hml hv
  obtain ⟨rfl, ⟨hP, hK0, hD⟩, KX⟩ := hv
  have K : Kx p s m _ meth c cX5_wordAtHand 2 RX5 D cy := ⟨B.exec, B.bytes, hml, findClass_of_methodNamed B.named, fun w h => atoms_spec (ws := Cond.code yX5_wordAtHand cX5_wordAtHand 2 (some .int) :: TT) B.pre w (List.mem_cons_of_mem _ h), hK0, B.notSynchronized⟩
  have hw : Wd D A s.heap (wsC cy nt ad g0) s.heap [] := ⟨hP, hD, va_S.rf⟩
  have hr := B.returns
  have hl := lv_entry ([.ref (ad 8)]) (n := 2) (Nat.le_of_ble_eq_true rfl)
  rw [lg_entry_eq]
  generalize (lg_sl ([.ref (ad 8)]) ++ List.replicate (2 - (lg_sl ([.ref (ad 8)])).length) Slot.unset).toArray = ls at hl ⊢
  have hl : lv_has ls 2 [(0, .ref (ad 8))] := hl
  refine lv_aload_n K.1 K.2.1 dX5_wordAtHand_0 rfl (lv_at hl 0 rfl) ?_
  refine va_ldcS K.1 K.2.1 K.2.2.2.1 (show vk_R RX5 67 "crumpled" (X (10 + 1)) s from KX.2.2.2.2.2.2.2.1 1 (by decide)) dX5_wordAtHand_1 ?_
  refine rkc_vi (As := [.ref (X (10 + 1))]) (rest := []) K KX hw (cc_X5_spells l D cy nt ad A X g0 _ 1 hd) lk_X5_69 (ci := 5) rfl (wc_Tp cy nt ad _) ⟨Nat.le_of_ble_eq_true rfl, Nat.le_of_ble_eq_true rfl⟩ ⟨Nat.zero_le _, Nat.zero_le _⟩ rfl hl.1 (Nat.le_of_ble_eq_true rfl) rfl dX5_wordAtHand_3 (fun r_2 g_1 H locs hd hw => ?_)
  refine lv_if_eq (tgt := 13) K.1 K.2.1 dX5_wordAtHand_6 (by decide) (fun h_3 => ?_) (fun h_3 => ?_)
  · have hd := hd.1 h_3
    refine lv_aload_n K.1 K.2.1 dX5_wordAtHand_13 rfl (lv_at hl 0 rfl) ?_
    refine va_ldcS K.1 K.2.1 K.2.2.2.1 (show vk_R RX5 73 "number" (X (10 + 2)) s from KX.2.2.2.2.2.2.2.1 2 (by decide)) dX5_wordAtHand_14 ?_
    refine rkc_vi (As := [.ref (X (10 + 2))]) (rest := []) K KX hw (cc_X5_spells l D cy nt ad A X g_1 _ 2 hd) lk_X5_69 (ci := 5) rfl (wc_Tp cy nt ad _) ⟨Nat.le_of_ble_eq_true rfl, Nat.le_of_ble_eq_true rfl⟩ ⟨Nat.zero_le _, Nat.zero_le _⟩ rfl hl.1 (Nat.le_of_ble_eq_true rfl) rfl dX5_wordAtHand_16 (fun r_5 g_4 H locs hd hw => ?_)
    refine lv_if_eq (tgt := 26) K.1 K.2.1 dX5_wordAtHand_19 (by decide) (fun h_6 => ?_) (fun h_6 => ?_)
    · have hd := hd.1 h_6
      refine lv_aload_n K.1 K.2.1 dX5_wordAtHand_26 rfl (lv_at hl 0 rfl) ?_
      refine va_ldcS K.1 K.2.1 K.2.2.2.1 (show vk_R RX5 75 "topic" (X (10 + 3)) s from KX.2.2.2.2.2.2.2.1 3 (by decide)) dX5_wordAtHand_27 ?_
      refine rkc_vi (As := [.ref (X (10 + 3))]) (rest := []) K KX hw (cc_X5_spells l D cy nt ad A X g_4 _ 3 hd) lk_X5_69 (ci := 5) rfl (wc_Tp cy nt ad _) ⟨Nat.le_of_ble_eq_true rfl, Nat.le_of_ble_eq_true rfl⟩ ⟨Nat.zero_le _, Nat.zero_le _⟩ rfl hl.1 (Nat.le_of_ble_eq_true rfl) rfl dX5_wordAtHand_29 (fun r_8 g_7 H locs hd hw => ?_)
      refine lv_if_eq (tgt := 39) K.1 K.2.1 dX5_wordAtHand_32 (by decide) (fun h_9 => ?_) (fun h_9 => ?_)
      · have hd := hd.1 h_9
        refine lv_aload_n K.1 K.2.1 dX5_wordAtHand_39 rfl (lv_at hl 0 rfl) ?_
        refine va_ldcS K.1 K.2.1 K.2.2.2.1 (show vk_R RX5 77 "mood" (X (10 + 4)) s from KX.2.2.2.2.2.2.2.1 4 (by decide)) dX5_wordAtHand_40 ?_
        refine rkc_vi (As := [.ref (X (10 + 4))]) (rest := []) K KX hw (cc_X5_spells l D cy nt ad A X g_7 _ 4 hd) lk_X5_69 (ci := 5) rfl (wc_Tp cy nt ad _) ⟨Nat.le_of_ble_eq_true rfl, Nat.le_of_ble_eq_true rfl⟩ ⟨Nat.zero_le _, Nat.zero_le _⟩ rfl hl.1 (Nat.le_of_ble_eq_true rfl) rfl dX5_wordAtHand_42 (fun r_11 g_10 H locs hd hw => ?_)
        refine lv_if_eq (tgt := 52) K.1 K.2.1 dX5_wordAtHand_45 (by decide) (fun h_12 => ?_) (fun h_12 => ?_)
        · have hd := hd.1 h_12
          refine lv_aload_n K.1 K.2.1 dX5_wordAtHand_52 rfl (lv_at hl 0 rfl) ?_
          refine va_ldcS K.1 K.2.1 K.2.2.2.1 (show vk_R RX5 79 "day" (X (10 + 5)) s from KX.2.2.2.2.2.2.2.1 5 (by decide)) dX5_wordAtHand_53 ?_
          refine rkc_vi (As := [.ref (X (10 + 5))]) (rest := []) K KX hw (cc_X5_spells l D cy nt ad A X g_10 _ 5 hd) lk_X5_69 (ci := 5) rfl (wc_Tp cy nt ad _) ⟨Nat.le_of_ble_eq_true rfl, Nat.le_of_ble_eq_true rfl⟩ ⟨Nat.zero_le _, Nat.zero_le _⟩ rfl hl.1 (Nat.le_of_ble_eq_true rfl) rfl dX5_wordAtHand_55 (fun r_14 g_13 H locs hd hw => ?_)
          refine lv_if_eq (tgt := 65) K.1 K.2.1 dX5_wordAtHand_58 (by decide) (fun h_15 => ?_) (fun h_15 => ?_)
          · have hd := hd.1 h_15
            refine lv_aload_n K.1 K.2.1 dX5_wordAtHand_65 rfl (lv_at hl 0 rfl) ?_
            refine va_ldcS K.1 K.2.1 K.2.2.2.1 (show vk_R RX5 81 "desk" (X (10 + 6)) s from KX.2.2.2.2.2.2.2.1 6 (by decide)) dX5_wordAtHand_66 ?_
            refine rkc_vi (As := [.ref (X (10 + 6))]) (rest := []) K KX hw (cc_X5_spells l D cy nt ad A X g_13 _ 6 hd) lk_X5_69 (ci := 5) rfl (wc_Tp cy nt ad _) ⟨Nat.le_of_ble_eq_true rfl, Nat.le_of_ble_eq_true rfl⟩ ⟨Nat.zero_le _, Nat.zero_le _⟩ rfl hl.1 (Nat.le_of_ble_eq_true rfl) rfl dX5_wordAtHand_68 (fun r_17 g_16 H locs hd hw => ?_)
            refine lv_if_eq (tgt := 78) K.1 K.2.1 dX5_wordAtHand_71 (by decide) (fun h_18 => ?_) (fun h_18 => ?_)
            · have hd := hd.1 h_18
              refine lv_iconst (v := (-1 : Int32)) K.1 K.2.1 dX5_wordAtHand_78 (by decide) ?_
              exact bb_X5_wordAtHand_79 K KX hr   (-1 : Int32) g_16 _ _ _  hd hw (lv_sub hl [0] rfl)
            · have hd := hd.2 h_18
              refine lv_iconst (v := (5 : Int32)) K.1 K.2.1 dX5_wordAtHand_74 (by decide) ?_
              refine lv_goto (tgt := 79) K.1 K.2.1 dX5_wordAtHand_75 (by decide) ?_
              exact bb_X5_wordAtHand_79 K KX hr   (5 : Int32) g_16 _ _ _  hd hw (lv_sub hl [0] rfl)
          · have hd := hd.2 h_15
            refine lv_iconst (v := (4 : Int32)) K.1 K.2.1 dX5_wordAtHand_61 (by decide) ?_
            refine lv_goto (tgt := 79) K.1 K.2.1 dX5_wordAtHand_62 (by decide) ?_
            exact bb_X5_wordAtHand_79 K KX hr   (4 : Int32) g_13 _ _ _  hd hw (lv_sub hl [0] rfl)
        · have hd := hd.2 h_12
          refine lv_iconst (v := (3 : Int32)) K.1 K.2.1 dX5_wordAtHand_48 (by decide) ?_
          refine lv_goto (tgt := 79) K.1 K.2.1 dX5_wordAtHand_49 (by decide) ?_
          exact bb_X5_wordAtHand_79 K KX hr   (3 : Int32) g_10 _ _ _  hd hw (lv_sub hl [0] rfl)
      · have hd := hd.2 h_9
        refine lv_iconst (v := (2 : Int32)) K.1 K.2.1 dX5_wordAtHand_35 (by decide) ?_
        refine lv_goto (tgt := 79) K.1 K.2.1 dX5_wordAtHand_36 (by decide) ?_
        exact bb_X5_wordAtHand_79 K KX hr   (2 : Int32) g_7 _ _ _  hd hw (lv_sub hl [0] rfl)
    · have hd := hd.2 h_6
      refine lv_iconst (v := (1 : Int32)) K.1 K.2.1 dX5_wordAtHand_22 (by decide) ?_
      refine lv_goto (tgt := 79) K.1 K.2.1 dX5_wordAtHand_23 (by decide) ?_
      exact bb_X5_wordAtHand_79 K KX hr   (1 : Int32) g_4 _ _ _  hd hw (lv_sub hl [0] rfl)
  · have hd := hd.2 h_3
    refine lv_iconst (v := (0 : Int32)) K.1 K.2.1 dX5_wordAtHand_9 (by decide) ?_
    refine lv_goto (tgt := 79) K.1 K.2.1 dX5_wordAtHand_10 (by decide) ?_
    exact bb_X5_wordAtHand_79 K KX hr   (0 : Int32) g_1 _ _ _  hd hw (lv_sub hl [0] rfl)
theorem dX5_isDigit_0 : decode cX5_isDigit 0 = .ok (.iload_n 0, 1) := by decide +kernel
theorem dX5_isDigit_1 : decode cX5_isDigit 1 = .ok (.bipush 48, 2) := by decide +kernel
theorem dX5_isDigit_3 : decode cX5_isDigit 3 = .ok (.if_icmp .lt 13, 3) := by decide +kernel
theorem dX5_isDigit_6 : decode cX5_isDigit 6 = .ok (.iload_n 0, 1) := by decide +kernel
theorem dX5_isDigit_7 : decode cX5_isDigit 7 = .ok (.bipush 57, 2) := by decide +kernel
theorem dX5_isDigit_9 : decode cX5_isDigit 9 = .ok (.if_icmp .gt 7, 3) := by decide +kernel
theorem dX5_isDigit_12 : decode cX5_isDigit 12 = .ok (.iconst 1, 1) := by decide +kernel
theorem dX5_isDigit_13 : decode cX5_isDigit 13 = .ok (.goto 4, 3) := by decide +kernel
theorem dX5_isDigit_16 : decode cX5_isDigit 16 = .ok (.iconst 0, 1) := by decide +kernel
theorem dX5_isDigit_17 : decode cX5_isDigit 17 = .ok (.ireturn, 1) := by decide +kernel
set_option maxHeartbeats 4000000 in
set_option maxRecDepth 100000 in
theorem cc_X5_isDigit (l : Launch) (D : va_G) (cy : Nat → ClassId) (nt : Nat) (ad : Nat → Nat) (A : Nat → Prop) (X : Nat → Nat)  (g0 : Sg) (Q : Int32 → Sg → Prop) (x0 : Int32) (hd : vv_X5_isDigit nt x0 g0 Q) : Met l yX5_isDigit (Cond.code yX5_isDigit cX5_isDigit 1 (some .boolean) :: TT) (rmD 1) (va_Pc [.int x0] (PreC (wsC cy nt ad) D cy A X g0)) (va_Qi Q (PostG (wsC cy nt ad) D A) A) 0 0 A := by
  unfold vv_X5_isDigit at hd
  refine Met.ofW (cc := cX5_isDigit) (maxL := 1) (ret := (some .boolean)) (by decide) rfl ?_
  intro p e s m args below meth c s₁ B hml hv
  obtain ⟨rfl, ⟨hP, hK0, hD⟩, KX⟩ := hv
  have K : Kx p s m _ meth c cX5_isDigit 1 RX5 D cy := ⟨B.exec, B.bytes, hml, findClass_of_methodNamed B.named, fun w h => atoms_spec (ws := Cond.code yX5_isDigit cX5_isDigit 1 (some .boolean) :: TT) B.pre w (List.mem_cons_of_mem _ h), hK0, B.notSynchronized⟩
  have hw : Wd D A s.heap (wsC cy nt ad g0) s.heap [] := ⟨hP, hD, va_S.rf⟩
  have hr := B.returns
  have hl := lv_entry ([.int x0]) (n := 1) (Nat.le_of_ble_eq_true rfl)
  rw [lg_entry_eq]
  generalize (lg_sl ([.int x0]) ++ List.replicate (1 - (lg_sl ([.int x0])).length) Slot.unset).toArray = ls at hl ⊢
  have hl : lv_has ls 1 [(0, .int x0)] := hl
  refine lv_iload_n K.1 K.2.1 dX5_isDigit_0 rfl (lv_at hl 0 rfl) ?_
  refine lv_bipush (v := (48 : Int32)) K.1 K.2.1 dX5_isDigit_1 (by decide) ?_
  refine lv_icmp_lt (tgt := 16) K.1 K.2.1 dX5_isDigit_3 (by decide) (fun h_1 => ?_) (fun h_1 => ?_)
  · have hd := hd.1 h_1
    refine lv_iconst (v := (0 : Int32)) K.1 K.2.1 dX5_isDigit_16 (by decide) ?_
    exact rk_zret K hw hr (by decide) hd dX5_isDigit_17
  · have hd := hd.2 h_1
    refine lv_iload_n K.1 K.2.1 dX5_isDigit_6 rfl (lv_at hl 0 rfl) ?_
    refine lv_bipush (v := (57 : Int32)) K.1 K.2.1 dX5_isDigit_7 (by decide) ?_
    refine lv_icmp_gt (tgt := 16) K.1 K.2.1 dX5_isDigit_9 (by decide) (fun h_2 => ?_) (fun h_2 => ?_)
    · have hd := hd.1 h_2
      refine lv_iconst (v := (0 : Int32)) K.1 K.2.1 dX5_isDigit_16 (by decide) ?_
      exact rk_zret K hw hr (by decide) hd dX5_isDigit_17
    · have hd := hd.2 h_2
      refine lv_iconst (v := (1 : Int32)) K.1 K.2.1 dX5_isDigit_12 (by decide) ?_
      refine lv_goto (tgt := 17) K.1 K.2.1 dX5_isDigit_13 (by decide) ?_
      exact rk_zret K hw hr (by decide) hd dX5_isDigit_17
theorem dX5_takeNumber_0 : decode cX5_takeNumber 0 = .ok (.aload_n 0, 1) := by decide +kernel
theorem dX5_takeNumber_1 : decode cX5_takeNumber 1 = .ok (.getfield 33, 3) := by decide +kernel
theorem dX5_takeNumber_4 : decode cX5_takeNumber 4 = .ok (.aload_n 0, 1) := by decide +kernel
theorem dX5_takeNumber_5 : decode cX5_takeNumber 5 = .ok (.getfield 15, 3) := by decide +kernel
theorem dX5_takeNumber_8 : decode cX5_takeNumber 8 = .ok (.if_icmp .ge 55, 3) := by decide +kernel
theorem dX5_takeNumber_11 : decode cX5_takeNumber 11 = .ok (.aload_n 0, 1) := by decide +kernel
theorem dX5_takeNumber_12 : decode cX5_takeNumber 12 = .ok (.getfield 9, 3) := by decide +kernel
theorem dX5_takeNumber_15 : decode cX5_takeNumber 15 = .ok (.aload_n 0, 1) := by decide +kernel
theorem dX5_takeNumber_16 : decode cX5_takeNumber 16 = .ok (.getfield 33, 3) := by decide +kernel
theorem dX5_takeNumber_19 : decode cX5_takeNumber 19 = .ok (.iaload, 1) := by decide +kernel
theorem dX5_takeNumber_20 : decode cX5_takeNumber 20 = .ok (.invokestatic 58, 3) := by decide +kernel
theorem dX5_takeNumber_23 : decode cX5_takeNumber 23 = .ok (.ifCond .eq 40, 3) := by decide +kernel
theorem dX5_takeNumber_26 : decode cX5_takeNumber 26 = .ok (.aload_n 0, 1) := by decide +kernel
theorem dX5_takeNumber_27 : decode cX5_takeNumber 27 = .ok (.aload_n 0, 1) := by decide +kernel
theorem dX5_takeNumber_28 : decode cX5_takeNumber 28 = .ok (.getfield 42, 3) := by decide +kernel
theorem dX5_takeNumber_31 : decode cX5_takeNumber 31 = .ok (.bipush 10, 2) := by decide +kernel
theorem dX5_takeNumber_33 : decode cX5_takeNumber 33 = .ok (.imul, 1) := by decide +kernel
theorem dX5_takeNumber_34 : decode cX5_takeNumber 34 = .ok (.aload_n 0, 1) := by decide +kernel
theorem dX5_takeNumber_35 : decode cX5_takeNumber 35 = .ok (.getfield 9, 3) := by decide +kernel
theorem dX5_takeNumber_38 : decode cX5_takeNumber 38 = .ok (.aload_n 0, 1) := by decide +kernel
theorem dX5_takeNumber_39 : decode cX5_takeNumber 39 = .ok (.getfield 33, 3) := by decide +kernel
theorem dX5_takeNumber_42 : decode cX5_takeNumber 42 = .ok (.iaload, 1) := by decide +kernel
theorem dX5_takeNumber_43 : decode cX5_takeNumber 43 = .ok (.iadd, 1) := by decide +kernel
theorem dX5_takeNumber_44 : decode cX5_takeNumber 44 = .ok (.bipush 48, 2) := by decide +kernel
theorem dX5_takeNumber_46 : decode cX5_takeNumber 46 = .ok (.isub, 1) := by decide +kernel
theorem dX5_takeNumber_47 : decode cX5_takeNumber 47 = .ok (.putfield 42, 3) := by decide +kernel
theorem dX5_takeNumber_50 : decode cX5_takeNumber 50 = .ok (.aload_n 0, 1) := by decide +kernel
theorem dX5_takeNumber_51 : decode cX5_takeNumber 51 = .ok (.dup, 1) := by decide +kernel
theorem dX5_takeNumber_52 : decode cX5_takeNumber 52 = .ok (.getfield 33, 3) := by decide +kernel
theorem dX5_takeNumber_55 : decode cX5_takeNumber 55 = .ok (.iconst 1, 1) := by decide +kernel
theorem dX5_takeNumber_56 : decode cX5_takeNumber 56 = .ok (.iadd, 1) := by decide +kernel
theorem dX5_takeNumber_57 : decode cX5_takeNumber 57 = .ok (.putfield 33, 3) := by decide +kernel
theorem dX5_takeNumber_60 : decode cX5_takeNumber 60 = .ok (.goto (-60), 3) := by decide +kernel
theorem dX5_takeNumber_63 : decode cX5_takeNumber 63 = .ok (.aload_n 0, 1) := by decide +kernel
theorem dX5_takeNumber_64 : decode cX5_takeNumber 64 = .ok (.aload_n 0, 1) := by decide +kernel
theorem dX5_takeNumber_65 : decode cX5_takeNumber 65 = .ok (.getfield 33, 3) := by decide +kernel
theorem dX5_takeNumber_68 : decode cX5_takeNumber 68 = .ok (.aload_n 0, 1) := by decide +kernel
theorem dX5_takeNumber_69 : decode cX5_takeNumber 69 = .ok (.getfield 39, 3) := by decide +kernel
theorem dX5_takeNumber_72 : decode cX5_takeNumber 72 = .ok (.isub, 1) := by decide +kernel
theorem dX5_takeNumber_73 : decode cX5_takeNumber 73 = .ok (.iconst 4, 1) := by decide +kernel
theorem dX5_takeNumber_74 : decode cX5_takeNumber 74 = .ok (.if_icmp .le 7, 3) := by decide +kernel
theorem dX5_takeNumber_77 : decode cX5_takeNumber 77 = .ok (.iconst 1, 1) := by decide +kernel
theorem dX5_takeNumber_78 : decode cX5_takeNumber 78 = .ok (.goto 4, 3) := by decide +kernel
theorem dX5_takeNumber_81 : decode cX5_takeNumber 81 = .ok (.iconst 2, 1) := by decide +kernel
theorem dX5_takeNumber_82 : decode cX5_takeNumber 82 = .ok (.putfield 45, 3) := by decide +kernel
theorem dX5_takeNumber_85 : decode cX5_takeNumber 85 = .ok (.return_, 1) := by decide +kernel
set_option maxHeartbeats 4000000 in
set_option maxRecDepth 100000 in
theorem bb_X5_takeNumber_82 {p : Program} {l : Launch} {e : Env} {s : State} {m : MethodId} {args : Array Value} {below : List Frame} {meth : Method} {c : Code} {D : va_G} {cy : Nat → ClassId} {nt : Nat} {ad : Nat → Nat} {A : Nat → Prop} {X : Nat → Nat} {Q : Sg → Prop} (K : Kx p s m args meth c cX5_takeNumber 1 RX5 D cy) (KX : XC X A s s.heap) (hr : meth.sig.returnType = none)   (t1 : Int32) (g0 : Sg) (H : Heap) (locs : List Loc) (ls : Array Slot) (hd : vv_X5_takeNumber_J82 nt t1 g0 Q) (hw : Wd D A s.heap (wsC cy nt ad g0) H locs) (hl : lv_has ls 1 []) : W p l e (rmD 2) s m args below meth c H locs 0 0 (MQ below (va_Qv Q (PostG (wsC cy nt ad) D A) A) args s 0 0 A) (F0 m 82 ls [.int t1, .ref (ad 8)]) := by
  unfold vv_X5_takeNumber_J82 at hd
  refine rc_put layX5 (ci := 5) rfl tyX5_ok nmX5 3 (by decide) K hw (wc_Tp cy nt ad _) kf_X5_45 rfl rfl rfl rfl (Nat.le_of_ble_eq_true rfl) (wp_Tp_3 cy nt ad _ _) dX5_takeNumber_82 (fun g_3 eg_3 H locs hw => ?_)
  have hd := hd g_3 eg_3
  exact rk_vret K hw hr hd dX5_takeNumber_85
set_option maxHeartbeats 4000000 in
set_option maxRecDepth 100000 in
theorem bb_X5_takeNumber_63 {p : Program} {l : Launch} {e : Env} {s : State} {m : MethodId} {args : Array Value} {below : List Frame} {meth : Method} {c : Code} {D : va_G} {cy : Nat → ClassId} {nt : Nat} {ad : Nat → Nat} {A : Nat → Prop} {X : Nat → Nat} {Q : Sg → Prop} (K : Kx p s m args meth c cX5_takeNumber 1 RX5 D cy) (KX : XC X A s s.heap) (hr : meth.sig.returnType = none)    (g0 : Sg) (H : Heap) (locs : List Loc) (ls : Array Slot) (hd : vv_X5_takeNumber_J63 nt g0 Q) (hw : Wd D A s.heap (wsC cy nt ad g0) H locs) (hl : lv_has ls 1 [(0, .ref (ad 8))]) : W p l e (rmD 2) s m args below meth c H locs 0 0 (MQ below (va_Qv Q (PostG (wsC cy nt ad) D A) A) args s 0 0 A) (F0 m 63 ls []) := by
  unfold vv_X5_takeNumber_J63 at hd
  refine lv_aload_n K.1 K.2.1 dX5_takeNumber_63 rfl (lv_at hl 0 rfl) ?_
  refine lv_aload_n K.1 K.2.1 dX5_takeNumber_64 rfl (lv_at hl 0 rfl) ?_
  refine rc_get layX5 (ci := 5) rfl 5 (by decide) (v := .int (g0 8 5)) K hw (wc_Tp cy nt ad _) kf_X5_33 rfl dX5_takeNumber_65 ?_
  refine lv_aload_n K.1 K.2.1 dX5_takeNumber_68 rfl (lv_at hl 0 rfl) ?_
  refine rc_get layX5 (ci := 5) rfl 2 (by decide) (v := .int (g0 8 2)) K hw (wc_Tp cy nt ad _) kf_X5_39 rfl dX5_takeNumber_69 ?_
  refine lv_isub K.1 K.2.1 dX5_takeNumber_72 ?_
  refine lv_iconst (v := (4 : Int32)) K.1 K.2.1 dX5_takeNumber_73 (by decide) ?_
  refine lv_icmp_le (tgt := 81) K.1 K.2.1 dX5_takeNumber_74 (by decide) (fun h_2 => ?_) (fun h_2 => ?_)
  · have hd := hd.1 h_2
    refine lv_iconst (v := (2 : Int32)) K.1 K.2.1 dX5_takeNumber_81 (by decide) ?_
    exact bb_X5_takeNumber_82 K KX hr   (2 : Int32) g0 _ _ _  hd hw (lv_sub hl [] rfl)
  · have hd := hd.2 h_2
    refine lv_iconst (v := (1 : Int32)) K.1 K.2.1 dX5_takeNumber_77 (by decide) ?_
    refine lv_goto (tgt := 82) K.1 K.2.1 dX5_takeNumber_78 (by decide) ?_
    exact bb_X5_takeNumber_82 K KX hr   (1 : Int32) g0 _ _ _  hd hw (lv_sub hl [] rfl)
set_option maxHeartbeats 4000000 in
set_option maxRecDepth 100000 in
theorem bb_X5_takeNumber_0 {p : Program} {l : Launch} {e : Env} {s : State} {m : MethodId} {args : Array Value} {below : List Frame} {meth : Method} {c : Code} {D : va_G} {cy : Nat → ClassId} {nt : Nat} {ad : Nat → Nat} {A : Nat → Prop} {X : Nat → Nat} {Q : Sg → Prop} (K : Kx p s m args meth c cX5_takeNumber 1 RX5 D cy) (KX : XC X A s s.heap) (hr : meth.sig.returnType = none)  : ∀ (n : Nat)   (g0 : Sg) (H : Heap) (locs : List Loc) (ls : Array Slot), vv_X5_takeNumber_L0 nt Q n  g0 → Wd D A s.heap (wsC cy nt ad g0) H locs → lv_has ls 1 [(0, .ref (ad 8))] → W p l e (rmD 2) s m args below meth c H locs 0 0 (MQ below (va_Qv Q (PostG (wsC cy nt ad) D A) A) args s 0 0 A) (F0 m 0 ls []) := by
  intro n
  induction n with
  | zero => intro _ _ _ _ hd; exact hd.elim
  | succ n ih =>
    intro  g0 H locs ls  hd hw hl
    unfold vv_X5_takeNumber_L0 at hd
    refine lv_aload_n K.1 K.2.1 dX5_takeNumber_0 rfl (lv_at hl 0 rfl) ?_
    refine rc_get layX5 (ci := 5) rfl 5 (by decide) (v := .int (g0 8 5)) K hw (wc_Tp cy nt ad _) kf_X5_33 rfl dX5_takeNumber_1 ?_
    refine lv_aload_n K.1 K.2.1 dX5_takeNumber_4 rfl (lv_at hl 0 rfl) ?_
    refine rc_get layX5 (ci := 5) rfl 1 (by decide) (v := .int (g0 8 1)) K hw (wc_Tp cy nt ad _) kf_X5_15 rfl dX5_takeNumber_5 ?_
    refine lv_icmp_ge (tgt := 63) K.1 K.2.1 dX5_takeNumber_8 (by decide) (fun h_1 => ?_) (fun h_1 => ?_)
    · have hd := hd.1 h_1
      exact bb_X5_takeNumber_63 K KX hr    g0 _ _ _  hd hw (lv_sub hl [0] rfl)
    · have hd := hd.2 h_1
      refine lv_aload_n K.1 K.2.1 dX5_takeNumber_11 rfl (lv_at hl 0 rfl) ?_
      refine rc_get layX5 (ci := 5) rfl 0 (by decide) (v := .ref (ad 9)) K hw (wc_Tp cy nt ad _) kf_X5_9 rfl dX5_takeNumber_12 ?_
      refine lv_aload_n K.1 K.2.1 dX5_takeNumber_15 rfl (lv_at hl 0 rfl) ?_
      refine rc_get layX5 (ci := 5) rfl 5 (by decide) (v := .int (g0 8 5)) K hw (wc_Tp cy nt ad _) kf_X5_33 rfl dX5_takeNumber_16 ?_
      have hb := hd.1
      have hd := hd.2
      refine rc_iald K hw (wc_9 cy nt ad _) hb dX5_takeNumber_19 ?_
      refine rkc_si (As := [.int (g0 9 (g0 8 5).toNatClampNeg)]) (rest := []) K KX hw (cc_X5_isDigit l D cy nt ad A X g0 _ (g0 9 (g0 8 5).toNatClampNeg) hd) lk_X5_58 ⟨Nat.le_of_ble_eq_true rfl, Nat.le_of_ble_eq_true rfl⟩ ⟨Nat.zero_le _, Nat.zero_le _⟩ rfl hl.1 (Nat.le_of_ble_eq_true rfl) rfl dX5_takeNumber_20 (fun r_5 g_4 H locs hd hw => ?_)
      refine lv_if_eq (tgt := 63) K.1 K.2.1 dX5_takeNumber_23 (by decide) (fun h_6 => ?_) (fun h_6 => ?_)
      · have hd := hd.1 h_6
        exact bb_X5_takeNumber_63 K KX hr    g_4 _ _ _  hd hw (lv_sub hl [0] rfl)
      · have hd := hd.2 h_6
        refine lv_aload_n K.1 K.2.1 dX5_takeNumber_26 rfl (lv_at hl 0 rfl) ?_
        refine lv_aload_n K.1 K.2.1 dX5_takeNumber_27 rfl (lv_at hl 0 rfl) ?_
        refine rc_get layX5 (ci := 5) rfl 4 (by decide) (v := .int (g_4 8 4)) K hw (wc_Tp cy nt ad _) kf_X5_42 rfl dX5_takeNumber_28 ?_
        refine lv_bipush (v := (10 : Int32)) K.1 K.2.1 dX5_takeNumber_31 (by decide) ?_
        refine lv_imul K.1 K.2.1 dX5_takeNumber_33 ?_
        refine lv_aload_n K.1 K.2.1 dX5_takeNumber_34 rfl (lv_at hl 0 rfl) ?_
        refine rc_get layX5 (ci := 5) rfl 0 (by decide) (v := .ref (ad 9)) K hw (wc_Tp cy nt ad _) kf_X5_9 rfl dX5_takeNumber_35 ?_
        refine lv_aload_n K.1 K.2.1 dX5_takeNumber_38 rfl (lv_at hl 0 rfl) ?_
        refine rc_get layX5 (ci := 5) rfl 5 (by decide) (v := .int (g_4 8 5)) K hw (wc_Tp cy nt ad _) kf_X5_33 rfl dX5_takeNumber_39 ?_
        have hb := hd.1
        have hd := hd.2
        refine rc_iald K hw (wc_9 cy nt ad _) hb dX5_takeNumber_42 ?_
        refine lv_iadd K.1 K.2.1 dX5_takeNumber_43 ?_
        refine lv_bipush (v := (48 : Int32)) K.1 K.2.1 dX5_takeNumber_44 (by decide) ?_
        refine lv_isub K.1 K.2.1 dX5_takeNumber_46 ?_
        refine rc_put layX5 (ci := 5) rfl tyX5_ok nmX5 4 (by decide) K hw (wc_Tp cy nt ad _) kf_X5_42 rfl rfl rfl rfl (Nat.le_of_ble_eq_true rfl) (wp_Tp_4 cy nt ad _ _) dX5_takeNumber_47 (fun g_7 eg_7 H locs hw => ?_)
        have hd := hd g_7 eg_7
        refine lv_aload_n K.1 K.2.1 dX5_takeNumber_50 rfl (lv_at hl 0 rfl) ?_
        refine lv_dup K.1 K.2.1 dX5_takeNumber_51 rfl ?_
        refine rc_get layX5 (ci := 5) rfl 5 (by decide) (v := .int (g_7 8 5)) K hw (wc_Tp cy nt ad _) kf_X5_33 rfl dX5_takeNumber_52 ?_
        refine lv_iconst (v := (1 : Int32)) K.1 K.2.1 dX5_takeNumber_55 (by decide) ?_
        refine lv_iadd K.1 K.2.1 dX5_takeNumber_56 ?_
        refine rc_put layX5 (ci := 5) rfl tyX5_ok nmX5 5 (by decide) K hw (wc_Tp cy nt ad _) kf_X5_33 rfl rfl rfl rfl (Nat.le_of_ble_eq_true rfl) (wp_Tp_5 cy nt ad _ _) dX5_takeNumber_57 (fun g_8 eg_8 H locs hw => ?_)
        have hd := hd g_8 eg_8
        refine lv_goto (tgt := 0) K.1 K.2.1 dX5_takeNumber_60 (by decide) ?_
        exact ih  g_8 _ _ _  hd hw (lv_sub hl [0] rfl)
set_option maxHeartbeats 4000000 in
set_option maxRecDepth 100000 in
theorem cc_X5_takeNumber (l : Launch) (D : va_G) (cy : Nat → ClassId) (nt : Nat) (ad : Nat → Nat) (A : Nat → Prop) (X : Nat → Nat)  (g0 : Sg) (Q : Sg → Prop)  (hd : vv_X5_takeNumber nt  g0 Q) : Met l yX5_takeNumber (Cond.code yX5_takeNumber cX5_takeNumber 1 none :: TT) (rmD 2) (va_Pc [.ref (ad 8)] (PreC (wsC cy nt ad) D cy A X g0)) (va_Qv Q (PostG (wsC cy nt ad) D A) A) 0 0 A := by
  unfold vv_X5_takeNumber at hd
  refine Met.ofW (cc := cX5_takeNumber) (maxL := 1) (ret := none) (by decide) rfl ?_
  intro p e s m args below meth c s₁ B hml hv
  obtain ⟨rfl, ⟨hP, hK0, hD⟩, KX⟩ := hv
  have K : Kx p s m _ meth c cX5_takeNumber 1 RX5 D cy := ⟨B.exec, B.bytes, hml, findClass_of_methodNamed B.named, fun w h => atoms_spec (ws := Cond.code yX5_takeNumber cX5_takeNumber 1 none :: TT) B.pre w (List.mem_cons_of_mem _ h), hK0, B.notSynchronized⟩
  have hw : Wd D A s.heap (wsC cy nt ad g0) s.heap [] := ⟨hP, hD, va_S.rf⟩
  have hr := B.returns
  have hl := lv_entry ([.ref (ad 8)]) (n := 1) (Nat.le_of_ble_eq_true rfl)
  rw [lg_entry_eq]
  generalize (lg_sl ([.ref (ad 8)]) ++ List.replicate (1 - (lg_sl ([.ref (ad 8)])).length) Slot.unset).toArray = ls at hl ⊢
  have hl : lv_has ls 1 [(0, .ref (ad 8))] := hl
  obtain ⟨n9, hd⟩ := hd
  exact bb_X5_takeNumber_0 K KX hr   n9  g0 _ _ _  hd hw (lv_sub hl [0] rfl)
theorem dX5_isSign_0 : decode cX5_isSign 0 = .ok (.iload_n 0, 1) := by decide +kernel
theorem dX5_isSign_1 : decode cX5_isSign 1 = .ok (.bipush 40, 2) := by decide +kernel
theorem dX5_isSign_3 : decode cX5_isSign 3 = .ok (.if_icmp .eq 45, 3) := by decide +kernel
theorem dX5_isSign_6 : decode cX5_isSign 6 = .ok (.iload_n 0, 1) := by decide +kernel
theorem dX5_isSign_7 : decode cX5_isSign 7 = .ok (.bipush 41, 2) := by decide +kernel
theorem dX5_isSign_9 : decode cX5_isSign 9 = .ok (.if_icmp .eq 39, 3) := by decide +kernel
theorem dX5_isSign_12 : decode cX5_isSign 12 = .ok (.iload_n 0, 1) := by decide +kernel
theorem dX5_isSign_13 : decode cX5_isSign 13 = .ok (.bipush 59, 2) := by decide +kernel
theorem dX5_isSign_15 : decode cX5_isSign 15 = .ok (.if_icmp .eq 33, 3) := by decide +kernel
theorem dX5_isSign_18 : decode cX5_isSign 18 = .ok (.iload_n 0, 1) := by decide +kernel
theorem dX5_isSign_19 : decode cX5_isSign 19 = .ok (.bipush 43, 2) := by decide +kernel
theorem dX5_isSign_21 : decode cX5_isSign 21 = .ok (.if_icmp .eq 27, 3) := by decide +kernel
theorem dX5_isSign_24 : decode cX5_isSign 24 = .ok (.iload_n 0, 1) := by decide +kernel
theorem dX5_isSign_25 : decode cX5_isSign 25 = .ok (.bipush 45, 2) := by decide +kernel
theorem dX5_isSign_27 : decode cX5_isSign 27 = .ok (.if_icmp .eq 21, 3) := by decide +kernel
theorem dX5_isSign_30 : decode cX5_isSign 30 = .ok (.iload_n 0, 1) := by decide +kernel
theorem dX5_isSign_31 : decode cX5_isSign 31 = .ok (.bipush 42, 2) := by decide +kernel
theorem dX5_isSign_33 : decode cX5_isSign 33 = .ok (.if_icmp .eq 15, 3) := by decide +kernel
theorem dX5_isSign_36 : decode cX5_isSign 36 = .ok (.iload_n 0, 1) := by decide +kernel
theorem dX5_isSign_37 : decode cX5_isSign 37 = .ok (.bipush 60, 2) := by decide +kernel
theorem dX5_isSign_39 : decode cX5_isSign 39 = .ok (.if_icmp .eq 9, 3) := by decide +kernel
theorem dX5_isSign_42 : decode cX5_isSign 42 = .ok (.iload_n 0, 1) := by decide +kernel
theorem dX5_isSign_43 : decode cX5_isSign 43 = .ok (.bipush 61, 2) := by decide +kernel
theorem dX5_isSign_45 : decode cX5_isSign 45 = .ok (.if_icmp .ne 7, 3) := by decide +kernel
theorem dX5_isSign_48 : decode cX5_isSign 48 = .ok (.iconst 1, 1) := by decide +kernel
theorem dX5_isSign_49 : decode cX5_isSign 49 = .ok (.goto 4, 3) := by decide +kernel
theorem dX5_isSign_52 : decode cX5_isSign 52 = .ok (.iconst 0, 1) := by decide +kernel
theorem dX5_isSign_53 : decode cX5_isSign 53 = .ok (.ireturn, 1) := by decide +kernel
set_option maxHeartbeats 4000000 in
set_option maxRecDepth 100000 in
theorem bb_X5_isSign_48 {p : Program} {l : Launch} {e : Env} {s : State} {m : MethodId} {args : Array Value} {below : List Frame} {meth : Method} {c : Code} {D : va_G} {cy : Nat → ClassId} {nt : Nat} {ad : Nat → Nat} {A : Nat → Prop} {X : Nat → Nat} {Q : Int32 → Sg → Prop} (K : Kx p s m args meth c cX5_isSign 1 RX5 D cy) (KX : XC X A s s.heap) (hr : meth.sig.returnType = (some .boolean))    (g0 : Sg) (H : Heap) (locs : List Loc) (ls : Array Slot) (hd : vv_X5_isSign_J48 nt g0 Q) (hw : Wd D A s.heap (wsC cy nt ad g0) H locs) (hl : lv_has ls 1 []) : W p l e (rmD 1) s m args below meth c H locs 0 0 (MQ below (va_Qi Q (PostG (wsC cy nt ad) D A) A) args s 0 0 A) (F0 m 48 ls []) := by
  unfold vv_X5_isSign_J48 at hd
  refine lv_iconst (v := (1 : Int32)) K.1 K.2.1 dX5_isSign_48 (by decide) ?_
  refine lv_goto (tgt := 53) K.1 K.2.1 dX5_isSign_49 (by decide) ?_
  exact rk_zret K hw hr (by decide) hd dX5_isSign_53
set_option maxHeartbeats 4000000 in
set_option maxRecDepth 100000 in
theorem cc_X5_isSign (l : Launch) (D : va_G) (cy : Nat → ClassId) (nt : Nat) (ad : Nat → Nat) (A : Nat → Prop) (X : Nat → Nat)  (g0 : Sg) (Q : Int32 → Sg → Prop) (x0 : Int32) (hd : vv_X5_isSign nt x0 g0 Q) : Met l yX5_isSign (Cond.code yX5_isSign cX5_isSign 1 (some .boolean) :: TT) (rmD 1) (va_Pc [.int x0] (PreC (wsC cy nt ad) D cy A X g0)) (va_Qi Q (PostG (wsC cy nt ad) D A) A) 0 0 A := by
  unfold vv_X5_isSign at hd
  refine Met.ofW (cc := cX5_isSign) (maxL := 1) (ret := (some .boolean)) (by decide) rfl ?_
  intro p e s m args below meth c s₁ B hml hv
  obtain ⟨rfl, ⟨hP, hK0, hD⟩, KX⟩ := hv
  have K : Kx p s m _ meth c cX5_isSign 1 RX5 D cy := ⟨B.exec, B.bytes, hml, findClass_of_methodNamed B.named, fun w h => atoms_spec (ws := Cond.code yX5_isSign cX5_isSign 1 (some .boolean) :: TT) B.pre w (List.mem_cons_of_mem _ h), hK0, B.notSynchronized⟩
  have hw : Wd D A s.heap (wsC cy nt ad g0) s.heap [] := ⟨hP, hD, va_S.rf⟩
  have hr := B.returns
  have hl := lv_entry ([.int x0]) (n := 1) (Nat.le_of_ble_eq_true rfl)
  rw [lg_entry_eq]
  generalize (lg_sl ([.int x0]) ++ List.replicate (1 - (lg_sl ([.int x0])).length) Slot.unset).toArray = ls at hl ⊢
  have hl : lv_has ls 1 [(0, .int x0)] := hl
  refine lv_iload_n K.1 K.2.1 dX5_isSign_0 rfl (lv_at hl 0 rfl) ?_
  refine lv_bipush (v := (40 : Int32)) K.1 K.2.1 dX5_isSign_1 (by decide) ?_
  refine lv_icmp_eq (tgt := 48) K.1 K.2.1 dX5_isSign_3 (by decide) (fun h_1 => ?_) (fun h_1 => ?_)
  · have hd := hd.1 h_1
    exact bb_X5_isSign_48 K KX hr    g0 _ _ _  hd hw (lv_sub hl [] rfl)
  · have hd := hd.2 h_1
    refine lv_iload_n K.1 K.2.1 dX5_isSign_6 rfl (lv_at hl 0 rfl) ?_
    refine lv_bipush (v := (41 : Int32)) K.1 K.2.1 dX5_isSign_7 (by decide) ?_
    refine lv_icmp_eq (tgt := 48) K.1 K.2.1 dX5_isSign_9 (by decide) (fun h_2 => ?_) (fun h_2 => ?_)
    · have hd := hd.1 h_2
      exact bb_X5_isSign_48 K KX hr    g0 _ _ _  hd hw (lv_sub hl [] rfl)
    · have hd := hd.2 h_2
      refine lv_iload_n K.1 K.2.1 dX5_isSign_12 rfl (lv_at hl 0 rfl) ?_
      refine lv_bipush (v := (59 : Int32)) K.1 K.2.1 dX5_isSign_13 (by decide) ?_
      refine lv_icmp_eq (tgt := 48) K.1 K.2.1 dX5_isSign_15 (by decide) (fun h_3 => ?_) (fun h_3 => ?_)
      · have hd := hd.1 h_3
        exact bb_X5_isSign_48 K KX hr    g0 _ _ _  hd hw (lv_sub hl [] rfl)
      · have hd := hd.2 h_3
        refine lv_iload_n K.1 K.2.1 dX5_isSign_18 rfl (lv_at hl 0 rfl) ?_
        refine lv_bipush (v := (43 : Int32)) K.1 K.2.1 dX5_isSign_19 (by decide) ?_
        refine lv_icmp_eq (tgt := 48) K.1 K.2.1 dX5_isSign_21 (by decide) (fun h_4 => ?_) (fun h_4 => ?_)
        · have hd := hd.1 h_4
          exact bb_X5_isSign_48 K KX hr    g0 _ _ _  hd hw (lv_sub hl [] rfl)
        · have hd := hd.2 h_4
          refine lv_iload_n K.1 K.2.1 dX5_isSign_24 rfl (lv_at hl 0 rfl) ?_
          refine lv_bipush (v := (45 : Int32)) K.1 K.2.1 dX5_isSign_25 (by decide) ?_
          refine lv_icmp_eq (tgt := 48) K.1 K.2.1 dX5_isSign_27 (by decide) (fun h_5 => ?_) (fun h_5 => ?_)
          · have hd := hd.1 h_5
            exact bb_X5_isSign_48 K KX hr    g0 _ _ _  hd hw (lv_sub hl [] rfl)
          · have hd := hd.2 h_5
            refine lv_iload_n K.1 K.2.1 dX5_isSign_30 rfl (lv_at hl 0 rfl) ?_
            refine lv_bipush (v := (42 : Int32)) K.1 K.2.1 dX5_isSign_31 (by decide) ?_
            refine lv_icmp_eq (tgt := 48) K.1 K.2.1 dX5_isSign_33 (by decide) (fun h_6 => ?_) (fun h_6 => ?_)
            · have hd := hd.1 h_6
              exact bb_X5_isSign_48 K KX hr    g0 _ _ _  hd hw (lv_sub hl [] rfl)
            · have hd := hd.2 h_6
              refine lv_iload_n K.1 K.2.1 dX5_isSign_36 rfl (lv_at hl 0 rfl) ?_
              refine lv_bipush (v := (60 : Int32)) K.1 K.2.1 dX5_isSign_37 (by decide) ?_
              refine lv_icmp_eq (tgt := 48) K.1 K.2.1 dX5_isSign_39 (by decide) (fun h_7 => ?_) (fun h_7 => ?_)
              · have hd := hd.1 h_7
                exact bb_X5_isSign_48 K KX hr    g0 _ _ _  hd hw (lv_sub hl [] rfl)
              · have hd := hd.2 h_7
                refine lv_iload_n K.1 K.2.1 dX5_isSign_42 rfl (lv_at hl 0 rfl) ?_
                refine lv_bipush (v := (61 : Int32)) K.1 K.2.1 dX5_isSign_43 (by decide) ?_
                refine lv_icmp_ne (tgt := 52) K.1 K.2.1 dX5_isSign_45 (by decide) (fun h_8 => ?_) (fun h_8 => ?_)
                · have hd := hd.1 h_8
                  refine lv_iconst (v := (0 : Int32)) K.1 K.2.1 dX5_isSign_52 (by decide) ?_
                  exact rk_zret K hw hr (by decide) hd dX5_isSign_53
                · have hd := hd.2 h_8
                  exact bb_X5_isSign_48 K KX hr    g0 _ _ _  hd hw (lv_sub hl [] rfl)
theorem dX5_advance_0 : decode cX5_advance 0 = .ok (.aload_n 0, 1) := by decide +kernel
theorem dX5_advance_1 : decode cX5_advance 1 = .ok (.getfield 33, 3) := by decide +kernel
theorem dX5_advance_4 : decode cX5_advance 4 = .ok (.aload_n 0, 1) := by decide +kernel
theorem dX5_advance_5 : decode cX5_advance 5 = .ok (.getfield 15, 3) := by decide +kernel
theorem dX5_advance_8 : decode cX5_advance 8 = .ok (.if_icmp .ge 44, 3) := by decide +kernel
theorem dX5_advance_11 : decode cX5_advance 11 = .ok (.aload_n 0, 1) := by decide +kernel
theorem dX5_advance_12 : decode cX5_advance 12 = .ok (.getfield 9, 3) := by decide +kernel
theorem dX5_advance_15 : decode cX5_advance 15 = .ok (.aload_n 0, 1) := by decide +kernel
theorem dX5_advance_16 : decode cX5_advance 16 = .ok (.getfield 33, 3) := by decide +kernel
theorem dX5_advance_19 : decode cX5_advance 19 = .ok (.iaload, 1) := by decide +kernel
theorem dX5_advance_20 : decode cX5_advance 20 = .ok (.bipush 32, 2) := by decide +kernel
theorem dX5_advance_22 : decode cX5_advance 22 = .ok (.if_icmp .eq 17, 3) := by decide +kernel
theorem dX5_advance_25 : decode cX5_advance 25 = .ok (.aload_n 0, 1) := by decide +kernel
theorem dX5_advance_26 : decode cX5_advance 26 = .ok (.getfield 9, 3) := by decide +kernel
theorem dX5_advance_29 : decode cX5_advance 29 = .ok (.aload_n 0, 1) := by decide +kernel
theorem dX5_advance_30 : decode cX5_advance 30 = .ok (.getfield 33, 3) := by decide +kernel
theorem dX5_advance_33 : decode cX5_advance 33 = .ok (.iaload, 1) := by decide +kernel
theorem dX5_advance_34 : decode cX5_advance 34 = .ok (.bipush 10, 2) := by decide +kernel
theorem dX5_advance_36 : decode cX5_advance 36 = .ok (.if_icmp .ne 16, 3) := by decide +kernel
theorem dX5_advance_39 : decode cX5_advance 39 = .ok (.aload_n 0, 1) := by decide +kernel
theorem dX5_advance_40 : decode cX5_advance 40 = .ok (.dup, 1) := by decide +kernel
theorem dX5_advance_41 : decode cX5_advance 41 = .ok (.getfield 33, 3) := by decide +kernel
theorem dX5_advance_44 : decode cX5_advance 44 = .ok (.iconst 1, 1) := by decide +kernel
theorem dX5_advance_45 : decode cX5_advance 45 = .ok (.iadd, 1) := by decide +kernel
theorem dX5_advance_46 : decode cX5_advance 46 = .ok (.putfield 33, 3) := by decide +kernel
theorem dX5_advance_49 : decode cX5_advance 49 = .ok (.goto (-49), 3) := by decide +kernel
theorem dX5_advance_52 : decode cX5_advance 52 = .ok (.aload_n 0, 1) := by decide +kernel
theorem dX5_advance_53 : decode cX5_advance 53 = .ok (.aload_n 0, 1) := by decide +kernel
theorem dX5_advance_54 : decode cX5_advance 54 = .ok (.getfield 33, 3) := by decide +kernel
theorem dX5_advance_57 : decode cX5_advance 57 = .ok (.putfield 39, 3) := by decide +kernel
theorem dX5_advance_60 : decode cX5_advance 60 = .ok (.aload_n 0, 1) := by decide +kernel
theorem dX5_advance_61 : decode cX5_advance 61 = .ok (.iconst 0, 1) := by decide +kernel
theorem dX5_advance_62 : decode cX5_advance 62 = .ok (.putfield 42, 3) := by decide +kernel
theorem dX5_advance_65 : decode cX5_advance 65 = .ok (.aload_n 0, 1) := by decide +kernel
theorem dX5_advance_66 : decode cX5_advance 66 = .ok (.getfield 33, 3) := by decide +kernel
theorem dX5_advance_69 : decode cX5_advance 69 = .ok (.aload_n 0, 1) := by decide +kernel
theorem dX5_advance_70 : decode cX5_advance 70 = .ok (.getfield 15, 3) := by decide +kernel
theorem dX5_advance_73 : decode cX5_advance 73 = .ok (.if_icmp .lt 9, 3) := by decide +kernel
theorem dX5_advance_76 : decode cX5_advance 76 = .ok (.aload_n 0, 1) := by decide +kernel
theorem dX5_advance_77 : decode cX5_advance 77 = .ok (.iconst 0, 1) := by decide +kernel
theorem dX5_advance_78 : decode cX5_advance 78 = .ok (.putfield 45, 3) := by decide +kernel
theorem dX5_advance_81 : decode cX5_advance 81 = .ok (.return_, 1) := by decide +kernel
theorem dX5_advance_82 : decode cX5_advance 82 = .ok (.aload_n 0, 1) := by decide +kernel
theorem dX5_advance_83 : decode cX5_advance 83 = .ok (.getfield 9, 3) := by decide +kernel
theorem dX5_advance_86 : decode cX5_advance 86 = .ok (.aload_n 0, 1) := by decide +kernel
theorem dX5_advance_87 : decode cX5_advance 87 = .ok (.getfield 33, 3) := by decide +kernel
theorem dX5_advance_90 : decode cX5_advance 90 = .ok (.iaload, 1) := by decide +kernel
theorem dX5_advance_91 : decode cX5_advance 91 = .ok (.istore_n 1, 1) := by decide +kernel
theorem dX5_advance_92 : decode cX5_advance 92 = .ok (.iload_n 1, 1) := by decide +kernel
theorem dX5_advance_93 : decode cX5_advance 93 = .ok (.invokestatic 48, 3) := by decide +kernel
theorem dX5_advance_96 : decode cX5_advance 96 = .ok (.ifCond .eq 18, 3) := by decide +kernel
theorem dX5_advance_99 : decode cX5_advance 99 = .ok (.aload_n 0, 1) := by decide +kernel
theorem dX5_advance_100 : decode cX5_advance 100 = .ok (.invokevirtual 52, 3) := by decide +kernel
theorem dX5_advance_103 : decode cX5_advance 103 = .ok (.aload_n 0, 1) := by decide +kernel
theorem dX5_advance_104 : decode cX5_advance 104 = .ok (.aload_n 0, 1) := by decide +kernel
theorem dX5_advance_105 : decode cX5_advance 105 = .ok (.invokevirtual 55, 3) := by decide +kernel
theorem dX5_advance_108 : decode cX5_advance 108 = .ok (.putfield 45, 3) := by decide +kernel
theorem dX5_advance_111 : decode cX5_advance 111 = .ok (.goto 43, 3) := by decide +kernel
theorem dX5_advance_114 : decode cX5_advance 114 = .ok (.iload_n 1, 1) := by decide +kernel
theorem dX5_advance_115 : decode cX5_advance 115 = .ok (.invokestatic 58, 3) := by decide +kernel
theorem dX5_advance_118 : decode cX5_advance 118 = .ok (.ifCond .eq 10, 3) := by decide +kernel
theorem dX5_advance_121 : decode cX5_advance 121 = .ok (.aload_n 0, 1) := by decide +kernel
theorem dX5_advance_122 : decode cX5_advance 122 = .ok (.invokevirtual 61, 3) := by decide +kernel
theorem dX5_advance_125 : decode cX5_advance 125 = .ok (.goto 29, 3) := by decide +kernel
theorem dX5_advance_128 : decode cX5_advance 128 = .ok (.aload_n 0, 1) := by decide +kernel
theorem dX5_advance_129 : decode cX5_advance 129 = .ok (.iload_n 1, 1) := by decide +kernel
theorem dX5_advance_130 : decode cX5_advance 130 = .ok (.invokestatic 64, 3) := by decide +kernel
theorem dX5_advance_133 : decode cX5_advance 133 = .ok (.ifCond .eq 7, 3) := by decide +kernel
theorem dX5_advance_136 : decode cX5_advance 136 = .ok (.iload_n 1, 1) := by decide +kernel
theorem dX5_advance_137 : decode cX5_advance 137 = .ok (.goto 4, 3) := by decide +kernel
theorem dX5_advance_140 : decode cX5_advance 140 = .ok (.iconst 1, 1) := by decide +kernel
theorem dX5_advance_141 : decode cX5_advance 141 = .ok (.putfield 45, 3) := by decide +kernel
theorem dX5_advance_144 : decode cX5_advance 144 = .ok (.aload_n 0, 1) := by decide +kernel
theorem dX5_advance_145 : decode cX5_advance 145 = .ok (.dup, 1) := by decide +kernel
theorem dX5_advance_146 : decode cX5_advance 146 = .ok (.getfield 33, 3) := by decide +kernel
theorem dX5_advance_149 : decode cX5_advance 149 = .ok (.iconst 1, 1) := by decide +kernel
theorem dX5_advance_150 : decode cX5_advance 150 = .ok (.iadd, 1) := by decide +kernel
theorem dX5_advance_151 : decode cX5_advance 151 = .ok (.putfield 33, 3) := by decide +kernel
theorem dX5_advance_154 : decode cX5_advance 154 = .ok (.return_, 1) := by decide +kernel
set_option maxHeartbeats 4000000 in
set_option maxRecDepth 100000 in
theorem bb_X5_advance_141 {p : Program} {l : Launch} {e : Env} {s : State} {m : MethodId} {args : Array Value} {below : List Frame} {meth : Method} {c : Code} {D : va_G} {cy : Nat → ClassId} {nt : Nat} {ad : Nat → Nat} {A : Nat → Prop} {X : Nat → Nat} {Q : Sg → Prop} (K : Kx p s m args meth c cX5_advance 2 RX5 D cy) (KX : XC X A s s.heap) (hr : meth.sig.returnType = none)   (t1 : Int32) (g0 : Sg) (H : Heap) (locs : List Loc) (ls : Array Slot) (hd : vv_X5_advance_J141 nt t1 g0 Q) (hw : Wd D A s.heap (wsC cy nt ad g0) H locs) (hl : lv_has ls 2 [(0, .ref (ad 8))]) : W p l e (rmD 7) s m args below meth c H locs 0 0 (MQ below (va_Qv Q (PostG (wsC cy nt ad) D A) A) args s 0 0 A) (F0 m 141 ls [.int t1, .ref (ad 8)]) := by
  unfold vv_X5_advance_J141 at hd
  refine rc_put layX5 (ci := 5) rfl tyX5_ok nmX5 3 (by decide) K hw (wc_Tp cy nt ad _) kf_X5_45 rfl rfl rfl rfl (Nat.le_of_ble_eq_true rfl) (wp_Tp_3 cy nt ad _ _) dX5_advance_141 (fun g_15 eg_15 H locs hw => ?_)
  have hd := hd g_15 eg_15
  refine lv_aload_n K.1 K.2.1 dX5_advance_144 rfl (lv_at hl 0 rfl) ?_
  refine lv_dup K.1 K.2.1 dX5_advance_145 rfl ?_
  refine rc_get layX5 (ci := 5) rfl 5 (by decide) (v := .int (g_15 8 5)) K hw (wc_Tp cy nt ad _) kf_X5_33 rfl dX5_advance_146 ?_
  refine lv_iconst (v := (1 : Int32)) K.1 K.2.1 dX5_advance_149 (by decide) ?_
  refine lv_iadd K.1 K.2.1 dX5_advance_150 ?_
  refine rc_put layX5 (ci := 5) rfl tyX5_ok nmX5 5 (by decide) K hw (wc_Tp cy nt ad _) kf_X5_33 rfl rfl rfl rfl (Nat.le_of_ble_eq_true rfl) (wp_Tp_5 cy nt ad _ _) dX5_advance_151 (fun g_16 eg_16 H locs hw => ?_)
  have hd := hd g_16 eg_16
  exact rk_vret K hw hr hd dX5_advance_154
set_option maxHeartbeats 4000000 in
set_option maxRecDepth 100000 in
theorem bb_X5_advance_52 {p : Program} {l : Launch} {e : Env} {s : State} {m : MethodId} {args : Array Value} {below : List Frame} {meth : Method} {c : Code} {D : va_G} {cy : Nat → ClassId} {nt : Nat} {ad : Nat → Nat} {A : Nat → Prop} {X : Nat → Nat} {Q : Sg → Prop} (K : Kx p s m args meth c cX5_advance 2 RX5 D cy) (KX : XC X A s s.heap) (hr : meth.sig.returnType = none)    (g0 : Sg) (H : Heap) (locs : List Loc) (ls : Array Slot) (hd : vv_X5_advance_J52 nt g0 Q) (hw : Wd D A s.heap (wsC cy nt ad g0) H locs) (hl : lv_has ls 2 [(0, .ref (ad 8))]) : W p l e (rmD 7) s m args below meth c H locs 0 0 (MQ below (va_Qv Q (PostG (wsC cy nt ad) D A) A) args s 0 0 A) (F0 m 52 ls []) := by
  unfold vv_X5_advance_J52 at hd
  refine lv_aload_n K.1 K.2.1 dX5_advance_52 rfl (lv_at hl 0 rfl) ?_
  refine lv_aload_n K.1 K.2.1 dX5_advance_53 rfl (lv_at hl 0 rfl) ?_
  refine rc_get layX5 (ci := 5) rfl 5 (by decide) (v := .int (g0 8 5)) K hw (wc_Tp cy nt ad _) kf_X5_33 rfl dX5_advance_54 ?_
  refine rc_put layX5 (ci := 5) rfl tyX5_ok nmX5 2 (by decide) K hw (wc_Tp cy nt ad _) kf_X5_39 rfl rfl rfl rfl (Nat.le_of_ble_eq_true rfl) (wp_Tp_2 cy nt ad _ _) dX5_advance_57 (fun g_2 eg_2 H locs hw => ?_)
  have hd := hd g_2 eg_2
  refine lv_aload_n K.1 K.2.1 dX5_advance_60 rfl (lv_at hl 0 rfl) ?_
  refine lv_iconst (v := (0 : Int32)) K.1 K.2.1 dX5_advance_61 (by decide) ?_
  refine rc_put layX5 (ci := 5) rfl tyX5_ok nmX5 4 (by decide) K hw (wc_Tp cy nt ad _) kf_X5_42 rfl rfl rfl rfl (Nat.le_of_ble_eq_true rfl) (wp_Tp_4 cy nt ad _ _) dX5_advance_62 (fun g_3 eg_3 H locs hw => ?_)
  have hd := hd g_3 eg_3
  refine lv_aload_n K.1 K.2.1 dX5_advance_65 rfl (lv_at hl 0 rfl) ?_
  refine rc_get layX5 (ci := 5) rfl 5 (by decide) (v := .int (g_3 8 5)) K hw (wc_Tp cy nt ad _) kf_X5_33 rfl dX5_advance_66 ?_
  refine lv_aload_n K.1 K.2.1 dX5_advance_69 rfl (lv_at hl 0 rfl) ?_
  refine rc_get layX5 (ci := 5) rfl 1 (by decide) (v := .int (g_3 8 1)) K hw (wc_Tp cy nt ad _) kf_X5_15 rfl dX5_advance_70 ?_
  refine lv_icmp_lt (tgt := 82) K.1 K.2.1 dX5_advance_73 (by decide) (fun h_4 => ?_) (fun h_4 => ?_)
  · have hd := hd.1 h_4
    refine lv_aload_n K.1 K.2.1 dX5_advance_82 rfl (lv_at hl 0 rfl) ?_
    refine rc_get layX5 (ci := 5) rfl 0 (by decide) (v := .ref (ad 9)) K hw (wc_Tp cy nt ad _) kf_X5_9 rfl dX5_advance_83 ?_
    refine lv_aload_n K.1 K.2.1 dX5_advance_86 rfl (lv_at hl 0 rfl) ?_
    refine rc_get layX5 (ci := 5) rfl 5 (by decide) (v := .int (g_3 8 5)) K hw (wc_Tp cy nt ad _) kf_X5_33 rfl dX5_advance_87 ?_
    have hb := hd.1
    have hd := hd.2
    refine rc_iald K hw (wc_9 cy nt ad _) hb dX5_advance_90 ?_
    refine lv_topi (fun x1_5 ex1_5 => ?_)
    have hd := hd x1_5 ex1_5
    refine lv_istore_n (lv' := [(1, .int x1_5), (0, .ref (ad 8))]) K.1 K.2.1 dX5_advance_91 rfl hl (by decide) rfl (fun ls hl => ?_)
    refine lv_iload_n K.1 K.2.1 dX5_advance_92 rfl (lv_at hl 0 rfl) ?_
    refine rkc_si (As := [.int x1_5]) (rest := []) K KX hw (cc_X5_isLower l D cy nt ad A X g_3 _ x1_5 hd) lk_X5_48 ⟨Nat.le_of_ble_eq_true rfl, Nat.le_of_ble_eq_true rfl⟩ ⟨Nat.zero_le _, Nat.zero_le _⟩ rfl hl.1 (Nat.le_of_ble_eq_true rfl) rfl dX5_advance_93 (fun r_7 g_6 H locs hd hw => ?_)
    refine lv_if_eq (tgt := 114) K.1 K.2.1 dX5_advance_96 (by decide) (fun h_8 => ?_) (fun h_8 => ?_)
    · have hd := hd.1 h_8
      refine lv_iload_n K.1 K.2.1 dX5_advance_114 rfl (lv_at hl 0 rfl) ?_
      refine rkc_si (As := [.int x1_5]) (rest := []) K KX hw (cc_X5_isDigit l D cy nt ad A X g_6 _ x1_5 hd) lk_X5_58 ⟨Nat.le_of_ble_eq_true rfl, Nat.le_of_ble_eq_true rfl⟩ ⟨Nat.zero_le _, Nat.zero_le _⟩ rfl hl.1 (Nat.le_of_ble_eq_true rfl) rfl dX5_advance_115 (fun r_10 g_9 H locs hd hw => ?_)
      refine lv_if_eq (tgt := 128) K.1 K.2.1 dX5_advance_118 (by decide) (fun h_11 => ?_) (fun h_11 => ?_)
      · have hd := hd.1 h_11
        refine lv_aload_n K.1 K.2.1 dX5_advance_128 rfl (lv_at hl 1 rfl) ?_
        refine lv_iload_n K.1 K.2.1 dX5_advance_129 rfl (lv_at hl 0 rfl) ?_
        refine rkc_si (As := [.int x1_5]) (rest := [.ref (ad 8)]) K KX hw (cc_X5_isSign l D cy nt ad A X g_9 _ x1_5 hd) lk_X5_64 ⟨Nat.le_of_ble_eq_true rfl, Nat.le_of_ble_eq_true rfl⟩ ⟨Nat.zero_le _, Nat.zero_le _⟩ rfl hl.1 (Nat.le_of_ble_eq_true rfl) rfl dX5_advance_130 (fun r_13 g_12 H locs hd hw => ?_)
        refine lv_if_eq (tgt := 140) K.1 K.2.1 dX5_advance_133 (by decide) (fun h_14 => ?_) (fun h_14 => ?_)
        · have hd := hd.1 h_14
          refine lv_iconst (v := (1 : Int32)) K.1 K.2.1 dX5_advance_140 (by decide) ?_
          exact bb_X5_advance_141 K KX hr   (1 : Int32) g_12 _ _ _  hd hw (lv_sub hl [1] rfl)
        · have hd := hd.2 h_14
          refine lv_iload_n K.1 K.2.1 dX5_advance_136 rfl (lv_at hl 0 rfl) ?_
          refine lv_goto (tgt := 141) K.1 K.2.1 dX5_advance_137 (by decide) ?_
          exact bb_X5_advance_141 K KX hr   x1_5 g_12 _ _ _  hd hw (lv_sub hl [1] rfl)
      · have hd := hd.2 h_11
        refine lv_aload_n K.1 K.2.1 dX5_advance_121 rfl (lv_at hl 1 rfl) ?_
        refine rkc_vv (As := []) (rest := []) K KX hw (cc_X5_takeNumber l D cy nt ad A X g_9 _  hd) lk_X5_61 (ci := 5) rfl (wc_Tp cy nt ad _) ⟨Nat.le_of_ble_eq_true rfl, Nat.le_of_ble_eq_true rfl⟩ ⟨Nat.zero_le _, Nat.zero_le _⟩ rfl hl.1 (Nat.le_of_ble_eq_true rfl) rfl dX5_advance_122 (fun g_17 H locs hd hw => ?_)
        refine lv_goto (tgt := 154) K.1 K.2.1 dX5_advance_125 (by decide) ?_
        exact rk_vret K hw hr hd dX5_advance_154
    · have hd := hd.2 h_8
      refine lv_aload_n K.1 K.2.1 dX5_advance_99 rfl (lv_at hl 1 rfl) ?_
      refine rkc_vv (As := []) (rest := []) K KX hw (cc_X5_skipWord l D cy nt ad A X g_6 _  hd) lk_X5_52 (ci := 5) rfl (wc_Tp cy nt ad _) ⟨Nat.le_of_ble_eq_true rfl, Nat.le_of_ble_eq_true rfl⟩ ⟨Nat.zero_le _, Nat.zero_le _⟩ rfl hl.1 (Nat.le_of_ble_eq_true rfl) rfl dX5_advance_100 (fun g_19 H locs hd hw => ?_)
      refine lv_aload_n K.1 K.2.1 dX5_advance_103 rfl (lv_at hl 1 rfl) ?_
      refine lv_aload_n K.1 K.2.1 dX5_advance_104 rfl (lv_at hl 1 rfl) ?_
      refine rkc_vi (As := []) (rest := [.ref (ad 8)]) K KX hw (cc_X5_wordAtHand l D cy nt ad A X g_19 _  hd) lk_X5_55 (ci := 5) rfl (wc_Tp cy nt ad _) ⟨Nat.le_of_ble_eq_true rfl, Nat.le_of_ble_eq_true rfl⟩ ⟨Nat.zero_le _, Nat.zero_le _⟩ rfl hl.1 (Nat.le_of_ble_eq_true rfl) rfl dX5_advance_105 (fun r_22 g_21 H locs hd hw => ?_)
      refine rc_put layX5 (ci := 5) rfl tyX5_ok nmX5 3 (by decide) K hw (wc_Tp cy nt ad _) kf_X5_45 rfl rfl rfl rfl (Nat.le_of_ble_eq_true rfl) (wp_Tp_3 cy nt ad _ _) dX5_advance_108 (fun g_23 eg_23 H locs hw => ?_)
      have hd := hd g_23 eg_23
      refine lv_goto (tgt := 154) K.1 K.2.1 dX5_advance_111 (by decide) ?_
      exact rk_vret K hw hr hd dX5_advance_154
  · have hd := hd.2 h_4
    refine lv_aload_n K.1 K.2.1 dX5_advance_76 rfl (lv_at hl 0 rfl) ?_
    refine lv_iconst (v := (0 : Int32)) K.1 K.2.1 dX5_advance_77 (by decide) ?_
    refine rc_put layX5 (ci := 5) rfl tyX5_ok nmX5 3 (by decide) K hw (wc_Tp cy nt ad _) kf_X5_45 rfl rfl rfl rfl (Nat.le_of_ble_eq_true rfl) (wp_Tp_3 cy nt ad _ _) dX5_advance_78 (fun g_24 eg_24 H locs hw => ?_)
    have hd := hd g_24 eg_24
    exact rk_vret K hw hr hd dX5_advance_81
set_option maxHeartbeats 4000000 in
set_option maxRecDepth 100000 in
theorem bb_X5_advance_39 {p : Program} {l : Launch} {e : Env} {s : State} {m : MethodId} {args : Array Value} {below : List Frame} {meth : Method} {c : Code} {D : va_G} {cy : Nat → ClassId} {nt : Nat} {ad : Nat → Nat} {A : Nat → Prop} {X : Nat → Nat} {Q : Sg → Prop} (K : Kx p s m args meth c cX5_advance 2 RX5 D cy) (KX : XC X A s s.heap) (hr : meth.sig.returnType = none)  {rc0 : Sg → Prop} (hrc0 : ∀  (u : Sg) (H : Heap) (locs : List Loc) (ls : Array Slot), rc0  u → Wd D A s.heap (wsC cy nt ad u) H locs → lv_has ls 2 [(0, .ref (ad 8))] → W p l e (rmD 7) s m args below meth c H locs 0 0 (MQ below (va_Qv Q (PostG (wsC cy nt ad) D A) A) args s 0 0 A) (F0 m 0 ls []))   (g0 : Sg) (H : Heap) (locs : List Loc) (ls : Array Slot) (hd : vv_X5_advance_J39 nt rc0 g0 Q) (hw : Wd D A s.heap (wsC cy nt ad g0) H locs) (hl : lv_has ls 2 [(0, .ref (ad 8))]) : W p l e (rmD 7) s m args below meth c H locs 0 0 (MQ below (va_Qv Q (PostG (wsC cy nt ad) D A) A) args s 0 0 A) (F0 m 39 ls []) := by
  unfold vv_X5_advance_J39 at hd
  refine lv_aload_n K.1 K.2.1 dX5_advance_39 rfl (lv_at hl 0 rfl) ?_
  refine lv_dup K.1 K.2.1 dX5_advance_40 rfl ?_
  refine rc_get layX5 (ci := 5) rfl 5 (by decide) (v := .int (g0 8 5)) K hw (wc_Tp cy nt ad _) kf_X5_33 rfl dX5_advance_41 ?_
  refine lv_iconst (v := (1 : Int32)) K.1 K.2.1 dX5_advance_44 (by decide) ?_
  refine lv_iadd K.1 K.2.1 dX5_advance_45 ?_
  refine rc_put layX5 (ci := 5) rfl tyX5_ok nmX5 5 (by decide) K hw (wc_Tp cy nt ad _) kf_X5_33 rfl rfl rfl rfl (Nat.le_of_ble_eq_true rfl) (wp_Tp_5 cy nt ad _ _) dX5_advance_46 (fun g_26 eg_26 H locs hw => ?_)
  have hd := hd g_26 eg_26
  refine lv_goto (tgt := 0) K.1 K.2.1 dX5_advance_49 (by decide) ?_
  exact hrc0  g_26 _ _ _  hd hw (lv_sub hl [0] rfl)
set_option maxHeartbeats 4000000 in
set_option maxRecDepth 100000 in
theorem bb_X5_advance_0 {p : Program} {l : Launch} {e : Env} {s : State} {m : MethodId} {args : Array Value} {below : List Frame} {meth : Method} {c : Code} {D : va_G} {cy : Nat → ClassId} {nt : Nat} {ad : Nat → Nat} {A : Nat → Prop} {X : Nat → Nat} {Q : Sg → Prop} (K : Kx p s m args meth c cX5_advance 2 RX5 D cy) (KX : XC X A s s.heap) (hr : meth.sig.returnType = none)  : ∀ (n : Nat)   (g0 : Sg) (H : Heap) (locs : List Loc) (ls : Array Slot), vv_X5_advance_L0 nt Q n  g0 → Wd D A s.heap (wsC cy nt ad g0) H locs → lv_has ls 2 [(0, .ref (ad 8))] → W p l e (rmD 7) s m args below meth c H locs 0 0 (MQ below (va_Qv Q (PostG (wsC cy nt ad) D A) A) args s 0 0 A) (F0 m 0 ls []) := by
  intro n
  induction n with
  | zero => intro _ _ _ _ hd; exact hd.elim
  | succ n ih =>
    intro  g0 H locs ls  hd hw hl
    unfold vv_X5_advance_L0 at hd
    refine lv_aload_n K.1 K.2.1 dX5_advance_0 rfl (lv_at hl 0 rfl) ?_
    refine rc_get layX5 (ci := 5) rfl 5 (by decide) (v := .int (g0 8 5)) K hw (wc_Tp cy nt ad _) kf_X5_33 rfl dX5_advance_1 ?_
    refine lv_aload_n K.1 K.2.1 dX5_advance_4 rfl (lv_at hl 0 rfl) ?_
    refine rc_get layX5 (ci := 5) rfl 1 (by decide) (v := .int (g0 8 1)) K hw (wc_Tp cy nt ad _) kf_X5_15 rfl dX5_advance_5 ?_
    refine lv_icmp_ge (tgt := 52) K.1 K.2.1 dX5_advance_8 (by decide) (fun h_1 => ?_) (fun h_1 => ?_)
    · have hd := hd.1 h_1
      exact bb_X5_advance_52 K KX hr    g0 _ _ _  hd hw (lv_sub hl [0] rfl)
    · have hd := hd.2 h_1
      refine lv_aload_n K.1 K.2.1 dX5_advance_11 rfl (lv_at hl 0 rfl) ?_
      refine rc_get layX5 (ci := 5) rfl 0 (by decide) (v := .ref (ad 9)) K hw (wc_Tp cy nt ad _) kf_X5_9 rfl dX5_advance_12 ?_
      refine lv_aload_n K.1 K.2.1 dX5_advance_15 rfl (lv_at hl 0 rfl) ?_
      refine rc_get layX5 (ci := 5) rfl 5 (by decide) (v := .int (g0 8 5)) K hw (wc_Tp cy nt ad _) kf_X5_33 rfl dX5_advance_16 ?_
      have hb := hd.1
      have hd := hd.2
      refine rc_iald K hw (wc_9 cy nt ad _) hb dX5_advance_19 ?_
      refine lv_bipush (v := (32 : Int32)) K.1 K.2.1 dX5_advance_20 (by decide) ?_
      refine lv_icmp_eq (tgt := 39) K.1 K.2.1 dX5_advance_22 (by decide) (fun h_25 => ?_) (fun h_25 => ?_)
      · have hd := hd.1 h_25
        exact bb_X5_advance_39 K KX hr  ih  g0 _ _ _  hd hw (lv_sub hl [0] rfl)
      · have hd := hd.2 h_25
        refine lv_aload_n K.1 K.2.1 dX5_advance_25 rfl (lv_at hl 0 rfl) ?_
        refine rc_get layX5 (ci := 5) rfl 0 (by decide) (v := .ref (ad 9)) K hw (wc_Tp cy nt ad _) kf_X5_9 rfl dX5_advance_26 ?_
        refine lv_aload_n K.1 K.2.1 dX5_advance_29 rfl (lv_at hl 0 rfl) ?_
        refine rc_get layX5 (ci := 5) rfl 5 (by decide) (v := .int (g0 8 5)) K hw (wc_Tp cy nt ad _) kf_X5_33 rfl dX5_advance_30 ?_
        have hb := hd.1
        have hd := hd.2
        refine rc_iald K hw (wc_9 cy nt ad _) hb dX5_advance_33 ?_
        refine lv_bipush (v := (10 : Int32)) K.1 K.2.1 dX5_advance_34 (by decide) ?_
        refine lv_icmp_ne (tgt := 52) K.1 K.2.1 dX5_advance_36 (by decide) (fun h_27 => ?_) (fun h_27 => ?_)
        · have hd := hd.1 h_27
          exact bb_X5_advance_52 K KX hr    g0 _ _ _  hd hw (lv_sub hl [0] rfl)
        · have hd := hd.2 h_27
          exact bb_X5_advance_39 K KX hr  ih  g0 _ _ _  hd hw (lv_sub hl [0] rfl)
set_option maxHeartbeats 4000000 in
set_option maxRecDepth 100000 in
theorem cc_X5_advance (l : Launch) (D : va_G) (cy : Nat → ClassId) (nt : Nat) (ad : Nat → Nat) (A : Nat → Prop) (X : Nat → Nat)  (g0 : Sg) (Q : Sg → Prop)  (hd : vv_X5_advance nt  g0 Q) : Met l yX5_advance (Cond.code yX5_advance cX5_advance 2 none :: TT) (rmD 7) (va_Pc [.ref (ad 8)] (PreC (wsC cy nt ad) D cy A X g0)) (va_Qv Q (PostG (wsC cy nt ad) D A) A) 0 0 A := by
  unfold vv_X5_advance at hd
  refine Met.ofW (cc := cX5_advance) (maxL := 2) (ret := none) (by decide) rfl ?_
  intro p e s m args below meth c s₁ B hml hv
  obtain ⟨rfl, ⟨hP, hK0, hD⟩, KX⟩ := hv
  have K : Kx p s m _ meth c cX5_advance 2 RX5 D cy := ⟨B.exec, B.bytes, hml, findClass_of_methodNamed B.named, fun w h => atoms_spec (ws := Cond.code yX5_advance cX5_advance 2 none :: TT) B.pre w (List.mem_cons_of_mem _ h), hK0, B.notSynchronized⟩
  have hw : Wd D A s.heap (wsC cy nt ad g0) s.heap [] := ⟨hP, hD, va_S.rf⟩
  have hr := B.returns
  have hl := lv_entry ([.ref (ad 8)]) (n := 2) (Nat.le_of_ble_eq_true rfl)
  rw [lg_entry_eq]
  generalize (lg_sl ([.ref (ad 8)]) ++ List.replicate (2 - (lg_sl ([.ref (ad 8)])).length) Slot.unset).toArray = ls at hl ⊢
  have hl : lv_has ls 2 [(0, .ref (ad 8))] := hl
  obtain ⟨n9, hd⟩ := hd
  exact bb_X5_advance_0 K KX hr   n9  g0 _ _ _  hd hw (lv_sub hl [0] rfl)
theorem dX2_accept_0 : decode cX2_accept 0 = .ok (.aload_n 0, 1) := by decide +kernel
theorem dX2_accept_1 : decode cX2_accept 1 = .ok (.getfield 15, 3) := by decide +kernel
theorem dX2_accept_4 : decode cX2_accept 4 = .ok (.getfield 32, 3) := by decide +kernel
theorem dX2_accept_7 : decode cX2_accept 7 = .ok (.iload_n 1, 1) := by decide +kernel
theorem dX2_accept_8 : decode cX2_accept 8 = .ok (.if_icmp .eq 5, 3) := by decide +kernel
theorem dX2_accept_11 : decode cX2_accept 11 = .ok (.iconst 0, 1) := by decide +kernel
theorem dX2_accept_12 : decode cX2_accept 12 = .ok (.ireturn, 1) := by decide +kernel
theorem dX2_accept_13 : decode cX2_accept 13 = .ok (.aload_n 0, 1) := by decide +kernel
theorem dX2_accept_14 : decode cX2_accept 14 = .ok (.getfield 15, 3) := by decide +kernel
theorem dX2_accept_17 : decode cX2_accept 17 = .ok (.invokevirtual 52, 3) := by decide +kernel
theorem dX2_accept_20 : decode cX2_accept 20 = .ok (.iconst 1, 1) := by decide +kernel
theorem dX2_accept_21 : decode cX2_accept 21 = .ok (.ireturn, 1) := by decide +kernel
set_option maxHeartbeats 4000000 in
set_option maxRecDepth 100000 in
theorem cc_X2_accept (l : Launch) (D : va_G) (cy : Nat → ClassId) (nt : Nat) (ad : Nat → Nat) (A : Nat → Prop) (X : Nat → Nat)  (g0 : Sg) (Q : Int32 → Sg → Prop) (x1 : Int32) (hd : vv_X2_accept nt x1 g0 Q) : Met l yX2_accept (Cond.code yX2_accept cX2_accept 2 (some .boolean) :: TT) (rmD 8) (va_Pc [.ref (ad 10), .int x1] (PreC (wsC cy nt ad) D cy A X g0)) (va_Qi Q (PostG (wsC cy nt ad) D A) A) 0 0 A := by
  unfold vv_X2_accept at hd
  refine Met.ofW (cc := cX2_accept) (maxL := 2) (ret := (some .boolean)) (by decide) rfl ?_
  intro p e s m args below meth c s₁ B hml hv
  obtain ⟨rfl, ⟨hP, hK0, hD⟩, KX⟩ := hv
  have K : Kx p s m _ meth c cX2_accept 2 RX2 D cy := ⟨B.exec, B.bytes, hml, findClass_of_methodNamed B.named, fun w h => atoms_spec (ws := Cond.code yX2_accept cX2_accept 2 (some .boolean) :: TT) B.pre w (List.mem_cons_of_mem _ h), hK0, B.notSynchronized⟩
  have hw : Wd D A s.heap (wsC cy nt ad g0) s.heap [] := ⟨hP, hD, va_S.rf⟩
  have hr := B.returns
  have hl := lv_entry ([.ref (ad 10), .int x1]) (n := 2) (Nat.le_of_ble_eq_true rfl)
  rw [lg_entry_eq]
  generalize (lg_sl ([.ref (ad 10), .int x1]) ++ List.replicate (2 - (lg_sl ([.ref (ad 10), .int x1])).length) Slot.unset).toArray = ls at hl ⊢
  have hl : lv_has ls 2 [(0, .ref (ad 10)), (1, .int x1)] := hl
  refine lv_aload_n K.1 K.2.1 dX2_accept_0 rfl (lv_at hl 0 rfl) ?_
  refine rc_get layX2 (ci := 2) rfl 0 (by decide) (v := .ref (ad 8)) K hw (wc_Pr cy nt ad _) kf_X2_15 rfl dX2_accept_1 ?_
  refine rc_get layX5 (ci := 5) rfl 3 (by decide) (v := .int (g0 8 3)) K hw (wc_Tp cy nt ad _) kf_X2_32 rfl dX2_accept_4 ?_
  refine lv_iload_n K.1 K.2.1 dX2_accept_7 rfl (lv_at hl 1 rfl) ?_
  refine lv_icmp_eq (tgt := 13) K.1 K.2.1 dX2_accept_8 (by decide) (fun h_1 => ?_) (fun h_1 => ?_)
  · have hd := hd.1 h_1
    refine lv_aload_n K.1 K.2.1 dX2_accept_13 rfl (lv_at hl 0 rfl) ?_
    refine rc_get layX2 (ci := 2) rfl 0 (by decide) (v := .ref (ad 8)) K hw (wc_Pr cy nt ad _) kf_X2_15 rfl dX2_accept_14 ?_
    refine rkc_vv (As := []) (rest := []) K KX hw (cc_X5_advance l D cy nt ad A X g0 _  hd) lk_X2_52 (ci := 5) rfl (wc_Tp cy nt ad _) ⟨Nat.le_of_ble_eq_true rfl, Nat.le_of_ble_eq_true rfl⟩ ⟨Nat.zero_le _, Nat.zero_le _⟩ rfl hl.1 (Nat.le_of_ble_eq_true rfl) rfl dX2_accept_17 (fun g_2 H locs hd hw => ?_)
    refine lv_iconst (v := (1 : Int32)) K.1 K.2.1 dX2_accept_20 (by decide) ?_
    exact rk_zret K hw hr (by decide) hd dX2_accept_21
  · have hd := hd.2 h_1
    refine lv_iconst (v := (0 : Int32)) K.1 K.2.1 dX2_accept_11 (by decide) ?_
    exact rk_zret K hw hr (by decide) hd dX2_accept_12
theorem dX2_emit_0 : decode cX2_emit 0 = .ok (.aload_n 0, 1) := by decide +kernel
theorem dX2_emit_1 : decode cX2_emit 1 = .ok (.getfield 19, 3) := by decide +kernel
theorem dX2_emit_4 : decode cX2_emit 4 = .ok (.aload_n 0, 1) := by decide +kernel
theorem dX2_emit_5 : decode cX2_emit 5 = .ok (.getfield 9, 3) := by decide +kernel
theorem dX2_emit_8 : decode cX2_emit 8 = .ok (.arraylength, 1) := by decide +kernel
theorem dX2_emit_9 : decode cX2_emit 9 = .ok (.if_icmp .ge 23, 3) := by decide +kernel
theorem dX2_emit_12 : decode cX2_emit 12 = .ok (.aload_n 0, 1) := by decide +kernel
theorem dX2_emit_13 : decode cX2_emit 13 = .ok (.getfield 9, 3) := by decide +kernel
theorem dX2_emit_16 : decode cX2_emit 16 = .ok (.aload_n 0, 1) := by decide +kernel
theorem dX2_emit_17 : decode cX2_emit 17 = .ok (.getfield 19, 3) := by decide +kernel
theorem dX2_emit_20 : decode cX2_emit 20 = .ok (.iload_n 1, 1) := by decide +kernel
theorem dX2_emit_21 : decode cX2_emit 21 = .ok (.iastore, 1) := by decide +kernel
theorem dX2_emit_22 : decode cX2_emit 22 = .ok (.aload_n 0, 1) := by decide +kernel
theorem dX2_emit_23 : decode cX2_emit 23 = .ok (.dup, 1) := by decide +kernel
theorem dX2_emit_24 : decode cX2_emit 24 = .ok (.getfield 19, 3) := by decide +kernel
theorem dX2_emit_27 : decode cX2_emit 27 = .ok (.iconst 1, 1) := by decide +kernel
theorem dX2_emit_28 : decode cX2_emit 28 = .ok (.iadd, 1) := by decide +kernel
theorem dX2_emit_29 : decode cX2_emit 29 = .ok (.putfield 19, 3) := by decide +kernel
theorem dX2_emit_32 : decode cX2_emit 32 = .ok (.return_, 1) := by decide +kernel
set_option maxHeartbeats 4000000 in
set_option maxRecDepth 100000 in
theorem cc_X2_emit (l : Launch) (D : va_G) (cy : Nat → ClassId) (nt : Nat) (ad : Nat → Nat) (A : Nat → Prop) (X : Nat → Nat)  (g0 : Sg) (Q : Sg → Prop) (x1 : Int32) (hd : vv_X2_emit nt x1 g0 Q) : Met l yX2_emit (Cond.code yX2_emit cX2_emit 2 none :: TT) (rmD 1) (va_Pc [.ref (ad 10), .int x1] (PreC (wsC cy nt ad) D cy A X g0)) (va_Qv Q (PostG (wsC cy nt ad) D A) A) 0 0 A := by
  unfold vv_X2_emit at hd
  refine Met.ofW (cc := cX2_emit) (maxL := 2) (ret := none) (by decide) rfl ?_
  intro p e s m args below meth c s₁ B hml hv
  obtain ⟨rfl, ⟨hP, hK0, hD⟩, KX⟩ := hv
  have K : Kx p s m _ meth c cX2_emit 2 RX2 D cy := ⟨B.exec, B.bytes, hml, findClass_of_methodNamed B.named, fun w h => atoms_spec (ws := Cond.code yX2_emit cX2_emit 2 none :: TT) B.pre w (List.mem_cons_of_mem _ h), hK0, B.notSynchronized⟩
  have hw : Wd D A s.heap (wsC cy nt ad g0) s.heap [] := ⟨hP, hD, va_S.rf⟩
  have hr := B.returns
  have hl := lv_entry ([.ref (ad 10), .int x1]) (n := 2) (Nat.le_of_ble_eq_true rfl)
  rw [lg_entry_eq]
  generalize (lg_sl ([.ref (ad 10), .int x1]) ++ List.replicate (2 - (lg_sl ([.ref (ad 10), .int x1])).length) Slot.unset).toArray = ls at hl ⊢
  have hl : lv_has ls 2 [(0, .ref (ad 10)), (1, .int x1)] := hl
  refine lv_aload_n K.1 K.2.1 dX2_emit_0 rfl (lv_at hl 0 rfl) ?_
  refine rc_get layX2 (ci := 2) rfl 2 (by decide) (v := .int (g0 10 2)) K hw (wc_Pr cy nt ad _) kf_X2_19 rfl dX2_emit_1 ?_
  refine lv_aload_n K.1 K.2.1 dX2_emit_4 rfl (lv_at hl 0 rfl) ?_
  refine rc_get layX2 (ci := 2) rfl 1 (by decide) (v := .ref (ad 11)) K hw (wc_Pr cy nt ad _) kf_X2_9 rfl dX2_emit_5 ?_
  refine rc_alen (v := (160 : Int32)) K hw (wc_11 cy nt ad _) rfl dX2_emit_8 ?_
  refine lv_icmp_ge (tgt := 32) K.1 K.2.1 dX2_emit_9 (by decide) (fun h_1 => ?_) (fun h_1 => ?_)
  · have hd := hd.1 h_1
    exact rk_vret K hw hr hd dX2_emit_32
  · have hd := hd.2 h_1
    refine lv_aload_n K.1 K.2.1 dX2_emit_12 rfl (lv_at hl 0 rfl) ?_
    refine rc_get layX2 (ci := 2) rfl 1 (by decide) (v := .ref (ad 11)) K hw (wc_Pr cy nt ad _) kf_X2_9 rfl dX2_emit_13 ?_
    refine lv_aload_n K.1 K.2.1 dX2_emit_16 rfl (lv_at hl 0 rfl) ?_
    refine rc_get layX2 (ci := 2) rfl 2 (by decide) (v := .int (g0 10 2)) K hw (wc_Pr cy nt ad _) kf_X2_19 rfl dX2_emit_17 ?_
    refine lv_iload_n K.1 K.2.1 dX2_emit_20 rfl (lv_at hl 1 rfl) ?_
    have hb := hd.1
    have hd := hd.2
    refine rc_iast K hw (wc_11 cy nt ad _) (wa_11 cy nt ad _ _ _) hb dX2_emit_21 (fun g_2 eg_2 H locs hw => ?_)
    have hd := hd g_2 eg_2
    refine lv_aload_n K.1 K.2.1 dX2_emit_22 rfl (lv_at hl 0 rfl) ?_
    refine lv_dup K.1 K.2.1 dX2_emit_23 rfl ?_
    refine rc_get layX2 (ci := 2) rfl 2 (by decide) (v := .int (g_2 10 2)) K hw (wc_Pr cy nt ad _) kf_X2_19 rfl dX2_emit_24 ?_
    refine lv_iconst (v := (1 : Int32)) K.1 K.2.1 dX2_emit_27 (by decide) ?_
    refine lv_iadd K.1 K.2.1 dX2_emit_28 ?_
    refine rc_put layX2 (ci := 2) rfl tyX2_ok nmX2 2 (by decide) K hw (wc_Pr cy nt ad _) kf_X2_19 rfl rfl rfl rfl (Nat.le_of_ble_eq_true rfl) (wp_Pr_2 cy nt ad _ _) dX2_emit_29 (fun g_3 eg_3 H locs hw => ?_)
    have hd := hd g_3 eg_3
    exact rk_vret K hw hr hd dX2_emit_32
