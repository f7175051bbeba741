theorem dX7_film_0 : decode cX7_film 0 = .ok (.iload_n 1, 1) := by decide +kernel
theorem dX7_film_1 : decode cX7_film 1 = .ok (.invokestatic 244, 3) := by decide +kernel
theorem dX7_film_4 : decode cX7_film 4 = .ok (.ifCond .eq 11, 3) := by decide +kernel
theorem dX7_film_7 : decode cX7_film 7 = .ok (.aload_n 0, 1) := by decide +kernel
theorem dX7_film_8 : decode cX7_film 8 = .ok (.iload_n 2, 1) := by decide +kernel
theorem dX7_film_9 : decode cX7_film 9 = .ok (.invokevirtual 85, 3) := by decide +kernel
theorem dX7_film_12 : decode cX7_film 12 = .ok (.ifCond .ne 6, 3) := by decide +kernel
theorem dX7_film_15 : decode cX7_film 15 = .ok (.bipush (-2), 2) := by decide +kernel
theorem dX7_film_17 : decode cX7_film 17 = .ok (.ireturn, 1) := by decide +kernel
theorem dX7_film_18 : decode cX7_film 18 = .ok (.aload_n 0, 1) := by decide +kernel
theorem dX7_film_19 : decode cX7_film 19 = .ok (.getfield 53, 3) := by decide +kernel
theorem dX7_film_22 : decode cX7_film 22 = .ok (.iload_n 1, 1) := by decide +kernel
theorem dX7_film_23 : decode cX7_film 23 = .ok (.aaload, 1) := by decide +kernel
theorem dX7_film_24 : decode cX7_film 24 = .ok (.astore_n 3, 1) := by decide +kernel
theorem dX7_film_25 : decode cX7_film 25 = .ok (.aload_n 3, 1) := by decide +kernel
theorem dX7_film_26 : decode cX7_film 26 = .ok (.iconst 0, 1) := by decide +kernel
theorem dX7_film_27 : decode cX7_film 27 = .ok (.bipush 8, 2) := by decide +kernel
theorem dX7_film_29 : decode cX7_film 29 = .ok (.invokevirtual 271, 3) := by decide +kernel
theorem dX7_film_32 : decode cX7_film 32 = .ok (.iconst 0, 1) := by decide +kernel
theorem dX7_film_33 : decode cX7_film 33 = .ok (.istore 4, 2) := by decide +kernel
theorem dX7_film_35 : decode cX7_film 35 = .ok (.iconst 0, 1) := by decide +kernel
theorem dX7_film_36 : decode cX7_film 36 = .ok (.istore 5, 2) := by decide +kernel
theorem dX7_film_38 : decode cX7_film 38 = .ok (.iload 5, 2) := by decide +kernel
theorem dX7_film_40 : decode cX7_film 40 = .ok (.bipush 8, 2) := by decide +kernel
theorem dX7_film_42 : decode cX7_film 42 = .ok (.if_icmp .ge 66, 3) := by decide +kernel
theorem dX7_film_45 : decode cX7_film 45 = .ok (.aload_n 0, 1) := by decide +kernel
theorem dX7_film_46 : decode cX7_film 46 = .ok (.getfield 10, 3) := by decide +kernel
theorem dX7_film_49 : decode cX7_film 49 = .ok (.getfield 106, 3) := by decide +kernel
theorem dX7_film_52 : decode cX7_film 52 = .ok (.iload_n 2, 1) := by decide +kernel
theorem dX7_film_53 : decode cX7_film 53 = .ok (.aaload, 1) := by decide +kernel
theorem dX7_film_54 : decode cX7_film 54 = .ok (.iload 5, 2) := by decide +kernel
theorem dX7_film_56 : decode cX7_film 56 = .ok (.aload_n 0, 1) := by decide +kernel
theorem dX7_film_57 : decode cX7_film 57 = .ok (.aload_n 0, 1) := by decide +kernel
theorem dX7_film_58 : decode cX7_film 58 = .ok (.getfield 10, 3) := by decide +kernel
theorem dX7_film_61 : decode cX7_film 61 = .ok (.getfield 133, 3) := by decide +kernel
theorem dX7_film_64 : decode cX7_film 64 = .ok (.invokevirtual 136, 3) := by decide +kernel
theorem dX7_film_67 : decode cX7_film 67 = .ok (.aload_n 0, 1) := by decide +kernel
theorem dX7_film_68 : decode cX7_film 68 = .ok (.getfield 10, 3) := by decide +kernel
theorem dX7_film_71 : decode cX7_film 71 = .ok (.getfield 100, 3) := by decide +kernel
theorem dX7_film_74 : decode cX7_film 74 = .ok (.invokestatic 273, 3) := by decide +kernel
theorem dX7_film_77 : decode cX7_film 77 = .ok (.istore 6, 2) := by decide +kernel
theorem dX7_film_79 : decode cX7_film 79 = .ok (.aload_n 3, 1) := by decide +kernel
theorem dX7_film_80 : decode cX7_film 80 = .ok (.iload 5, 2) := by decide +kernel
theorem dX7_film_82 : decode cX7_film 82 = .ok (.iload 6, 2) := by decide +kernel
theorem dX7_film_84 : decode cX7_film 84 = .ok (.invokevirtual 276, 3) := by decide +kernel
theorem dX7_film_87 : decode cX7_film 87 = .ok (.iload 4, 2) := by decide +kernel
theorem dX7_film_89 : decode cX7_film 89 = .ok (.iload 6, 2) := by decide +kernel
theorem dX7_film_91 : decode cX7_film 91 = .ok (.ifCond .ne 7, 3) := by decide +kernel
theorem dX7_film_94 : decode cX7_film 94 = .ok (.iconst 0, 1) := by decide +kernel
theorem dX7_film_95 : decode cX7_film 95 = .ok (.goto 4, 3) := by decide +kernel
theorem dX7_film_98 : decode cX7_film 98 = .ok (.iconst 1, 1) := by decide +kernel
theorem dX7_film_99 : decode cX7_film 99 = .ok (.iadd, 1) := by decide +kernel
theorem dX7_film_100 : decode cX7_film 100 = .ok (.istore 4, 2) := by decide +kernel
theorem dX7_film_102 : decode cX7_film 102 = .ok (.iinc 5 1, 3) := by decide +kernel
theorem dX7_film_105 : decode cX7_film 105 = .ok (.goto (-67), 3) := by decide +kernel
theorem dX7_film_108 : decode cX7_film 108 = .ok (.iload 4, 2) := by decide +kernel
theorem dX7_film_110 : decode cX7_film 110 = .ok (.ireturn, 1) := by decide +kernel
set_option maxHeartbeats 4000000 in
set_option maxRecDepth 100000 in
theorem bb_X7_film_99 {p : Program} {l : Launch} {e : Env} {s : State} {m : MethodId} {args : Array Value} {below : List Frame} {meth : Method} {c : Code} {D : va_G} {cy : Nat → ClassId} {nt : Nat} {ad : Nat → Nat} {A : Nat → Prop} {X : Nat → Nat} {Q : Int32 → Sg → Prop} (K : Kx p s m args meth c cX7_film 7 RX7 D cy) (KX : XC X A s s.heap) (hr : meth.sig.returnType = (some .int))  {rc38 : Int32 → Nat → Int32 → Int32 → Sg → Prop} (hrc38 : ∀ (x2 : Int32) (x3 : Nat) (x4 : Int32) (x5 : Int32) (u : Sg) (H : Heap) (locs : List Loc) (ls : Array Slot), isS x3 → rc38 x2 x3 x4 x5 u → Wd D A s.heap (wsC cy nt ad u) H locs → lv_has ls 7 [(0, .ref (ad 0)), (2, .int x2), (3, .ref (ad x3)), (4, .int x4), (5, .int x5)] → W p l e (rmD 5) s m args below meth c H locs 0 0 (MQ below (va_Qi Q (PostG (wsC cy nt ad) D A) A) args s 0 0 A) (F0 m 38 ls [])) (x2 : Int32) (x3 : Nat) (x5 : Int32) (t0 : Int32) (t1 : Int32) (g0 : Sg) (H : Heap) (locs : List Loc) (ls : Array Slot) (hq_x3 : isS x3) (hd : vv_X7_film_J99 nt rc38 x2 x3 x5 t0 t1 g0 Q) (hw : Wd D A s.heap (wsC cy nt ad g0) H locs) (hl : lv_has ls 7 [(0, .ref (ad 0)), (2, .int x2), (3, .ref (ad x3)), (5, .int x5)]) : W p l e (rmD 5) s m args below meth c H locs 0 0 (MQ below (va_Qi Q (PostG (wsC cy nt ad) D A) A) args s 0 0 A) (F0 m 99 ls [.int t1, .int t0]) := by
  unfold vv_X7_film_J99 at hd
  refine lv_iadd K.1 K.2.1 dX7_film_99 ?_
  refine lv_topi (fun x4_22 ex4_22 => ?_)
  have hd := hd x4_22 ex4_22
  refine lv_istore (lv' := [(4, .int x4_22), (0, .ref (ad 0)), (2, .int x2), (3, .ref (ad x3)), (5, .int x5)]) K.1 K.2.1 dX7_film_100 hl (by decide) rfl (fun ls hl => ?_)
  obtain ⟨x5_23, ex5_23⟩ : ∃ y : Int32, y = x5 + (1 : Int32) := ⟨_, rfl⟩
  have hd := hd x5_23 ex5_23
  refine lv_iinc (v := x5_23) (lv' := [(5, .int x5_23), (4, .int x4_22), (0, .ref (ad 0)), (2, .int x2), (3, .ref (ad x3))]) K.1 K.2.1 dX7_film_102 hl (k := 4) rfl (by rw [ex5_23]; rfl) (by decide) rfl (fun ls hl => ?_)
  refine lv_goto (tgt := 38) K.1 K.2.1 dX7_film_105 (by decide) ?_
  exact hrc38 x2 x3 x4_22 x5_23 g0 _ _ _ hq_x3 hd hw (lv_sub hl [2, 3, 4, 1, 0] rfl)
set_option maxHeartbeats 4000000 in
set_option maxRecDepth 100000 in
theorem bb_X7_film_38 {p : Program} {l : Launch} {e : Env} {s : State} {m : MethodId} {args : Array Value} {below : List Frame} {meth : Method} {c : Code} {D : va_G} {cy : Nat → ClassId} {nt : Nat} {ad : Nat → Nat} {A : Nat → Prop} {X : Nat → Nat} {Q : Int32 → Sg → Prop} (K : Kx p s m args meth c cX7_film 7 RX7 D cy) (KX : XC X A s s.heap) (hr : meth.sig.returnType = (some .int))  : ∀ (n : Nat) (x2 : Int32) (x3 : Nat) (x4 : Int32) (x5 : Int32)  (g0 : Sg) (H : Heap) (locs : List Loc) (ls : Array Slot), isS x3 → vv_X7_film_L38 nt Q n x2 x3 x4 x5 g0 → Wd D A s.heap (wsC cy nt ad g0) H locs → lv_has ls 7 [(0, .ref (ad 0)), (2, .int x2), (3, .ref (ad x3)), (4, .int x4), (5, .int x5)] → W p l e (rmD 5) s m args below meth c H locs 0 0 (MQ below (va_Qi Q (PostG (wsC cy nt ad) D A) A) args s 0 0 A) (F0 m 38 ls []) := by
  intro n
  induction n with
  | zero => intro _ _ _ _ _ _ _ _ _ hd; exact hd.elim
  | succ n ih =>
    intro x2 x3 x4 x5 g0 H locs ls hq_x3 hd hw hl
    unfold vv_X7_film_L38 at hd
    refine lv_iload K.1 K.2.1 dX7_film_38 (lv_at hl 4 rfl) ?_
    refine lv_bipush (v := (8 : Int32)) K.1 K.2.1 dX7_film_40 (by decide) ?_
    refine lv_icmp_ge (tgt := 108) K.1 K.2.1 dX7_film_42 (by decide) (fun h_12 => ?_) (fun h_12 => ?_)
    · have hd := hd.1 h_12
      refine lv_iload K.1 K.2.1 dX7_film_108 (lv_at hl 3 rfl) ?_
      exact rk_iret K hw hr hd dX7_film_110
    · have hd := hd.2 h_12
      refine lv_aload_n K.1 K.2.1 dX7_film_45 rfl (lv_at hl 0 rfl) ?_
      refine rc_get layX7 (ci := 7) rfl 0 (by decide) (v := .ref (ad 1)) K hw (wc_O cy nt ad _) kf_X7_10 rfl dX7_film_46 ?_
      refine rc_get layX0 (ci := 0) rfl 4 (by decide) (v := .ref (ad 4)) K hw (wc_B cy nt ad _ ⟨by decide, by decide⟩) kf_X7_106 rfl dX7_film_49 ?_
      refine lv_iload_n K.1 K.2.1 dX7_film_52 rfl (lv_at hl 1 rfl) ?_
      have hb_13 := hd.1
      have hd := hd.2
      refine rc_aald (t0 := 2) (b := ad (pp 4 x2)) K hw (wc_R cy nt ad _ ⟨by decide, by decide⟩) rfl rfl hb_13 dX7_film_53 ?_
      refine lv_iload K.1 K.2.1 dX7_film_54 (lv_at hl 4 rfl) ?_
      refine lv_aload_n K.1 K.2.1 dX7_film_56 rfl (lv_at hl 0 rfl) ?_
      refine lv_aload_n K.1 K.2.1 dX7_film_57 rfl (lv_at hl 0 rfl) ?_
      refine rc_get layX7 (ci := 7) rfl 0 (by decide) (v := .ref (ad 1)) K hw (wc_O cy nt ad _) kf_X7_10 rfl dX7_film_58 ?_
      refine rc_get layX0 (ci := 0) rfl 1 (by decide) (v := .int (g0 1 1)) K hw (wc_B cy nt ad _ ⟨by decide, by decide⟩) kf_X7_133 rfl dX7_film_61 ?_
      refine rkc_vt (As := [.int (g0 1 1)]) (rest := [.int x5, .ref (ad (pp 4 x2))]) K KX hw (cc_X7_textOf l D cy nt ad A X g0 _ (g0 1 1) hd) lk_X7_136 (ci := 7) rfl (wc_O cy nt ad _) ⟨Nat.le_of_ble_eq_true rfl, Nat.le_of_ble_eq_true rfl⟩ ⟨Nat.zero_le _, Nat.zero_le _⟩ rfl hl.1 (Nat.le_of_ble_eq_true rfl) rfl dX7_film_64 (fun r_15 g_14 H locs hd hw => ?_)
      have hq_r_15 := hd.1
      have hd := hd.2
      refine lv_aload_n K.1 K.2.1 dX7_film_67 rfl (lv_at hl 0 rfl) ?_
      refine rc_get layX7 (ci := 7) rfl 0 (by decide) (v := .ref (ad 1)) K hw (wc_O cy nt ad _) kf_X7_10 rfl dX7_film_68 ?_
      refine rc_get layX0 (ci := 0) rfl 0 (by decide) (v := .int (g_14 1 0)) K hw (wc_B cy nt ad _ ⟨by decide, by decide⟩) kf_X7_100 rfl dX7_film_71 ?_
      refine rkc_si (As := [.ref (ad (pp 4 x2)), .int x5, .ref (ad r_15), .int (g_14 1 0)]) (rest := []) K KX hw (cc_X7_voteOf l D cy nt ad A X g_14 _ (pp 4 x2) x5 r_15 (g_14 1 0) hd) lk_X7_273 ⟨Nat.le_of_ble_eq_true rfl, Nat.le_of_ble_eq_true rfl⟩ ⟨Nat.zero_le _, Nat.zero_le _⟩ rfl hl.1 (Nat.le_of_ble_eq_true rfl) rfl dX7_film_74 (fun r_17 g_16 H locs hd hw => ?_)
      refine lv_topi (fun x6_18 ex6_18 => ?_)
      have hd := hd x6_18 ex6_18
      refine lv_istore (lv' := [(6, .int x6_18), (0, .ref (ad 0)), (2, .int x2), (3, .ref (ad x3)), (4, .int x4), (5, .int x5)]) K.1 K.2.1 dX7_film_77 hl (by decide) rfl (fun ls hl => ?_)
      refine lv_aload_n K.1 K.2.1 dX7_film_79 rfl (lv_at hl 3 rfl) ?_
      refine lv_iload K.1 K.2.1 dX7_film_80 (lv_at hl 5 rfl) ?_
      refine lv_iload K.1 K.2.1 dX7_film_82 (lv_at hl 0 rfl) ?_
      refine rkc_vv (As := [.int x5, .int x6_18]) (rest := []) K KX hw (cc_X3_put l D cy nt ad A X g_16 _ x3 x5 x6_18 hd) lk_X7_276 (ci := 3) rfl (wc_S cy nt ad _ hq_x3) ⟨Nat.le_of_ble_eq_true rfl, Nat.le_of_ble_eq_true rfl⟩ ⟨Nat.zero_le _, Nat.zero_le _⟩ rfl hl.1 (Nat.le_of_ble_eq_true rfl) rfl dX7_film_84 (fun g_19 H locs hd hw => ?_)
      refine lv_iload K.1 K.2.1 dX7_film_87 (lv_at hl 4 rfl) ?_
      refine lv_iload K.1 K.2.1 dX7_film_89 (lv_at hl 0 rfl) ?_
      refine lv_if_ne (tgt := 98) K.1 K.2.1 dX7_film_91 (by decide) (fun h_21 => ?_) (fun h_21 => ?_)
      · have hd := hd.1 h_21
        refine lv_iconst (v := (1 : Int32)) K.1 K.2.1 dX7_film_98 (by decide) ?_
        exact bb_X7_film_99 K KX hr  ih x2 x3 x5 x4 (1 : Int32) g_19 _ _ _ hq_x3 hd hw (lv_sub hl [1, 2, 3, 5] rfl)
      · have hd := hd.2 h_21
        refine lv_iconst (v := (0 : Int32)) K.1 K.2.1 dX7_film_94 (by decide) ?_
        refine lv_goto (tgt := 99) K.1 K.2.1 dX7_film_95 (by decide) ?_
        exact bb_X7_film_99 K KX hr  ih x2 x3 x5 x4 (0 : Int32) g_19 _ _ _ hq_x3 hd hw (lv_sub hl [1, 2, 3, 5] rfl)
set_option maxHeartbeats 4000000 in
set_option maxRecDepth 100000 in
theorem cc_X7_film (l : Launch) (D : va_G) (cy : Nat → ClassId) (nt : Nat) (ad : Nat → Nat) (A : Nat → Prop) (X : Nat → Nat)  (g0 : Sg) (Q : Int32 → Sg → Prop) (x1 : Int32) (x2 : Int32) (hd : vv_X7_film nt x1 x2 g0 Q) : Met l yX7_film (Cond.code yX7_film cX7_film 7 (some .int) :: TT) (rmD 5) (va_Pc [.ref (ad 0), .int x1, .int x2] (PreC (wsC cy nt ad) D cy A X g0)) (va_Qi Q (PostG (wsC cy nt ad) D A) A) 0 0 A := by
  unfold vv_X7_film at hd
  refine Met.ofW (cc := cX7_film) (maxL := 7) (ret := (some .int)) (by decide) rfl ?_
  intro p e s m args below meth c s₁ B hml hv
  obtain ⟨rfl, ⟨hP, hK0, hD⟩, KX⟩ := hv
  have K : Kx p s m _ meth c cX7_film 7 RX7 D cy := ⟨B.exec, B.bytes, hml, findClass_of_methodNamed B.named, fun w h => atoms_spec (ws := Cond.code yX7_film cX7_film 7 (some .int) :: TT) B.pre w (List.mem_cons_of_mem _ h), hK0, B.notSynchronized⟩
  have hw : Wd D A s.heap (wsC cy nt ad g0) s.heap [] := ⟨hP, hD, va_S.rf⟩
  have hr := B.returns
  have hl := lv_entry ([.ref (ad 0), .int x1, .int x2]) (n := 7) (Nat.le_of_ble_eq_true rfl)
  rw [lg_entry_eq]
  generalize (lg_sl ([.ref (ad 0), .int x1, .int x2]) ++ List.replicate (7 - (lg_sl ([.ref (ad 0), .int x1, .int x2])).length) Slot.unset).toArray = ls at hl ⊢
  have hl : lv_has ls 7 [(0, .ref (ad 0)), (1, .int x1), (2, .int x2)] := hl
  refine lv_iload_n K.1 K.2.1 dX7_film_0 rfl (lv_at hl 1 rfl) ?_
  refine rkc_si (As := [.int x1]) (rest := []) K KX hw (cc_X7_isSheet l D cy nt ad A X g0 _ x1 hd) lk_X7_244 ⟨Nat.le_of_ble_eq_true rfl, Nat.le_of_ble_eq_true rfl⟩ ⟨Nat.zero_le _, Nat.zero_le _⟩ rfl hl.1 (Nat.le_of_ble_eq_true rfl) rfl dX7_film_1 (fun r_2 g_1 H locs hd hw => ?_)
  refine lv_if_eq (tgt := 15) K.1 K.2.1 dX7_film_4 (by decide) (fun h_3 => ?_) (fun h_3 => ?_)
  · have hd := hd.1 h_3
    refine lv_bipush (v := (-2 : Int32)) K.1 K.2.1 dX7_film_15 (by decide) ?_
    exact rk_iret K hw hr hd dX7_film_17
  · have hd := hd.2 h_3
    refine lv_aload_n K.1 K.2.1 dX7_film_7 rfl (lv_at hl 0 rfl) ?_
    refine lv_iload_n K.1 K.2.1 dX7_film_8 rfl (lv_at hl 2 rfl) ?_
    refine rkc_vi (As := [.int x2]) (rest := []) K KX hw (cc_X7_isPaper l D cy nt ad A X g_1 _ x2 hd) lk_X7_85 (ci := 7) rfl (wc_O cy nt ad _) ⟨Nat.le_of_ble_eq_true rfl, Nat.le_of_ble_eq_true rfl⟩ ⟨Nat.zero_le _, Nat.zero_le _⟩ rfl hl.1 (Nat.le_of_ble_eq_true rfl) rfl dX7_film_9 (fun r_5 g_4 H locs hd hw => ?_)
    refine lv_if_ne (tgt := 18) K.1 K.2.1 dX7_film_12 (by decide) (fun h_6 => ?_) (fun h_6 => ?_)
    · have hd := hd.1 h_6
      refine lv_aload_n K.1 K.2.1 dX7_film_18 rfl (lv_at hl 0 rfl) ?_
      refine rc_get layX7 (ci := 7) rfl 9 (by decide) (v := .ref (ad 13)) K hw (wc_O cy nt ad _) kf_X7_53 rfl dX7_film_19 ?_
      refine lv_iload_n K.1 K.2.1 dX7_film_22 rfl (lv_at hl 1 rfl) ?_
      have hb_7 := hd.1
      have hd := hd.2
      refine rc_aald (t0 := 3) (b := ad (ss x1)) K hw (wc_13 cy nt ad _) rfl rfl hb_7 dX7_film_23 ?_
      refine lv_astore_n (lv' := [(3, .ref (ad (ss x1))), (0, .ref (ad 0)), (1, .int x1), (2, .int x2)]) K.1 K.2.1 dX7_film_24 rfl hl (by decide) rfl (fun ls hl => ?_)
      refine lv_aload_n K.1 K.2.1 dX7_film_25 rfl (lv_at hl 0 rfl) ?_
      refine lv_iconst (v := (0 : Int32)) K.1 K.2.1 dX7_film_26 (by decide) ?_
      refine lv_bipush (v := (8 : Int32)) K.1 K.2.1 dX7_film_27 (by decide) ?_
      refine rkc_vv (As := [.int (0 : Int32), .int (8 : Int32)]) (rest := []) K KX hw (cc_X3_become l D cy nt ad A X g_4 _ (ss x1) (0 : Int32) (8 : Int32) hd) lk_X7_271 (ci := 3) rfl (wc_S cy nt ad _ (tS_S hb_7)) ⟨Nat.le_of_ble_eq_true rfl, Nat.le_of_ble_eq_true rfl⟩ ⟨Nat.zero_le _, Nat.zero_le _⟩ rfl hl.1 (Nat.le_of_ble_eq_true rfl) rfl dX7_film_29 (fun g_8 H locs hd hw => ?_)
      refine lv_iconst (v := (0 : Int32)) K.1 K.2.1 dX7_film_32 (by decide) ?_
      refine lv_topi (fun x4_10 ex4_10 => ?_)
      have hd := hd x4_10 ex4_10
      refine lv_istore (lv' := [(4, .int x4_10), (3, .ref (ad (ss x1))), (0, .ref (ad 0)), (1, .int x1), (2, .int x2)]) K.1 K.2.1 dX7_film_33 hl (by decide) rfl (fun ls hl => ?_)
      refine lv_iconst (v := (0 : Int32)) K.1 K.2.1 dX7_film_35 (by decide) ?_
      refine lv_topi (fun x5_11 ex5_11 => ?_)
      have hd := hd x5_11 ex5_11
      refine lv_istore (lv' := [(5, .int x5_11), (4, .int x4_10), (3, .ref (ad (ss x1))), (0, .ref (ad 0)), (1, .int x1), (2, .int x2)]) K.1 K.2.1 dX7_film_36 hl (by decide) rfl (fun ls hl => ?_)
      obtain ⟨n9, hd⟩ := hd
      exact bb_X7_film_38 K KX hr   n9 x2 (ss x1) x4_10 x5_11 g_8 _ _ _ (tS_S hb_7) hd hw (lv_sub hl [3, 5, 2, 1, 0] rfl)
    · have hd := hd.2 h_6
      refine lv_bipush (v := (-2 : Int32)) K.1 K.2.1 dX7_film_15 (by decide) ?_
      exact rk_iret K hw hr hd dX7_film_17
theorem dX7_carriedOfSeed_0 : decode cX7_carriedOfSeed 0 = .ok (.iload_n 1, 1) := by decide +kernel
theorem dX7_carriedOfSeed_1 : decode cX7_carriedOfSeed 1 = .ok (.istore_n 3, 1) := by decide +kernel
theorem dX7_carriedOfSeed_2 : decode cX7_carriedOfSeed 2 = .ok (.iconst 0, 1) := by decide +kernel
theorem dX7_carriedOfSeed_3 : decode cX7_carriedOfSeed 3 = .ok (.istore 4, 2) := by decide +kernel
theorem dX7_carriedOfSeed_5 : decode cX7_carriedOfSeed 5 = .ok (.iconst 0, 1) := by decide +kernel
theorem dX7_carriedOfSeed_6 : decode cX7_carriedOfSeed 6 = .ok (.istore 5, 2) := by decide +kernel
theorem dX7_carriedOfSeed_8 : decode cX7_carriedOfSeed 8 = .ok (.iload 5, 2) := by decide +kernel
theorem dX7_carriedOfSeed_10 : decode cX7_carriedOfSeed 10 = .ok (.iload_n 2, 1) := by decide +kernel
theorem dX7_carriedOfSeed_11 : decode cX7_carriedOfSeed 11 = .ok (.if_icmp .ge 35, 3) := by decide +kernel
theorem dX7_carriedOfSeed_14 : decode cX7_carriedOfSeed 14 = .ok (.iload_n 3, 1) := by decide +kernel
theorem dX7_carriedOfSeed_15 : decode cX7_carriedOfSeed 15 = .ok (.ldc_w 348, 3) := by decide +kernel
theorem dX7_carriedOfSeed_18 : decode cX7_carriedOfSeed 18 = .ok (.imul, 1) := by decide +kernel
theorem dX7_carriedOfSeed_19 : decode cX7_carriedOfSeed 19 = .ok (.sipush 12345, 3) := by decide +kernel
theorem dX7_carriedOfSeed_22 : decode cX7_carriedOfSeed 22 = .ok (.iadd, 1) := by decide +kernel
theorem dX7_carriedOfSeed_23 : decode cX7_carriedOfSeed 23 = .ok (.istore_n 3, 1) := by decide +kernel
theorem dX7_carriedOfSeed_24 : decode cX7_carriedOfSeed 24 = .ok (.iload 4, 2) := by decide +kernel
theorem dX7_carriedOfSeed_26 : decode cX7_carriedOfSeed 26 = .ok (.iload_n 0, 1) := by decide +kernel
theorem dX7_carriedOfSeed_27 : decode cX7_carriedOfSeed 27 = .ok (.iload_n 3, 1) := by decide +kernel
theorem dX7_carriedOfSeed_28 : decode cX7_carriedOfSeed 28 = .ok (.bipush 9, 2) := by decide +kernel
theorem dX7_carriedOfSeed_30 : decode cX7_carriedOfSeed 30 = .ok (.iushr, 1) := by decide +kernel
theorem dX7_carriedOfSeed_31 : decode cX7_carriedOfSeed 31 = .ok (.bipush 8, 2) := by decide +kernel
theorem dX7_carriedOfSeed_33 : decode cX7_carriedOfSeed 33 = .ok (.irem, 1) := by decide +kernel
theorem dX7_carriedOfSeed_34 : decode cX7_carriedOfSeed 34 = .ok (.ishr, 1) := by decide +kernel
theorem dX7_carriedOfSeed_35 : decode cX7_carriedOfSeed 35 = .ok (.iconst 1, 1) := by decide +kernel
theorem dX7_carriedOfSeed_36 : decode cX7_carriedOfSeed 36 = .ok (.iand, 1) := by decide +kernel
theorem dX7_carriedOfSeed_37 : decode cX7_carriedOfSeed 37 = .ok (.iadd, 1) := by decide +kernel
theorem dX7_carriedOfSeed_38 : decode cX7_carriedOfSeed 38 = .ok (.istore 4, 2) := by decide +kernel
theorem dX7_carriedOfSeed_40 : decode cX7_carriedOfSeed 40 = .ok (.iinc 5 1, 3) := by decide +kernel
theorem dX7_carriedOfSeed_43 : decode cX7_carriedOfSeed 43 = .ok (.goto (-35), 3) := by decide +kernel
theorem dX7_carriedOfSeed_46 : decode cX7_carriedOfSeed 46 = .ok (.iload 4, 2) := by decide +kernel
theorem dX7_carriedOfSeed_48 : decode cX7_carriedOfSeed 48 = .ok (.ireturn, 1) := by decide +kernel
set_option maxHeartbeats 4000000 in
set_option maxRecDepth 100000 in
theorem bb_X7_carriedOfSeed_8 {p : Program} {l : Launch} {e : Env} {s : State} {m : MethodId} {args : Array Value} {below : List Frame} {meth : Method} {c : Code} {D : va_G} {cy : Nat → ClassId} {nt : Nat} {ad : Nat → Nat} {A : Nat → Prop} {X : Nat → Nat} {Q : Int32 → Sg → Prop} (K : Kx p s m args meth c cX7_carriedOfSeed 6 RX7 D cy) (KX : XC X A s s.heap) (hr : meth.sig.returnType = (some .int))  : ∀ (n : Nat) (x0 : Int32) (x2 : Int32) (x3 : Int32) (x4 : Int32) (x5 : Int32)  (g0 : Sg) (H : Heap) (locs : List Loc) (ls : Array Slot), vv_X7_carriedOfSeed_L8 nt Q n x0 x2 x3 x4 x5 g0 → Wd D A s.heap (wsC cy nt ad g0) H locs → lv_has ls 6 [(0, .int x0), (2, .int x2), (3, .int x3), (4, .int x4), (5, .int x5)] → W p l e (rmD 1) s m args below meth c H locs 0 0 (MQ below (va_Qi Q (PostG (wsC cy nt ad) D A) A) args s 0 0 A) (F0 m 8 ls []) := by
  intro n
  induction n with
  | zero => intro _ _ _ _ _ _ _ _ _ hd; exact hd.elim
  | succ n ih =>
    intro x0 x2 x3 x4 x5 g0 H locs ls  hd hw hl
    unfold vv_X7_carriedOfSeed_L8 at hd
    refine lv_iload K.1 K.2.1 dX7_carriedOfSeed_8 (lv_at hl 4 rfl) ?_
    refine lv_iload_n K.1 K.2.1 dX7_carriedOfSeed_10 rfl (lv_at hl 1 rfl) ?_
    refine lv_icmp_ge (tgt := 46) K.1 K.2.1 dX7_carriedOfSeed_11 (by decide) (fun h_4 => ?_) (fun h_4 => ?_)
    · have hd := hd.1 h_4
      refine lv_iload K.1 K.2.1 dX7_carriedOfSeed_46 (lv_at hl 3 rfl) ?_
      exact rk_iret K hw hr hd dX7_carriedOfSeed_48
    · have hd := hd.2 h_4
      refine lv_iload_n K.1 K.2.1 dX7_carriedOfSeed_14 rfl (lv_at hl 2 rfl) ?_
      refine lv_ldcw K.1 K.2.1 K.2.2.2.1 (K.2.2.2.2.1 _ ki_X7_348) dX7_carriedOfSeed_15 ?_
      refine lv_imul K.1 K.2.1 dX7_carriedOfSeed_18 ?_
      refine lv_sipush (v := (12345 : Int32)) K.1 K.2.1 dX7_carriedOfSeed_19 (by decide) ?_
      refine lv_iadd K.1 K.2.1 dX7_carriedOfSeed_22 ?_
      refine lv_topi (fun x3_5 ex3_5 => ?_)
      have hd := hd x3_5 ex3_5
      refine lv_istore_n (lv' := [(3, .int x3_5), (0, .int x0), (2, .int x2), (4, .int x4), (5, .int x5)]) K.1 K.2.1 dX7_carriedOfSeed_23 rfl hl (by decide) rfl (fun ls hl => ?_)
      refine lv_iload K.1 K.2.1 dX7_carriedOfSeed_24 (lv_at hl 3 rfl) ?_
      refine lv_iload_n K.1 K.2.1 dX7_carriedOfSeed_26 rfl (lv_at hl 1 rfl) ?_
      refine lv_iload_n K.1 K.2.1 dX7_carriedOfSeed_27 rfl (lv_at hl 0 rfl) ?_
      refine lv_bipush (v := (9 : Int32)) K.1 K.2.1 dX7_carriedOfSeed_28 (by decide) ?_
      refine lv_iushr (v := (x3_5.toUInt32 >>> ((9 : Int32).toUInt32 &&& Int32.toUInt32 31)).toInt32) K.1 K.2.1 dX7_carriedOfSeed_30 rfl ?_
      refine lv_bipush (v := (8 : Int32)) K.1 K.2.1 dX7_carriedOfSeed_31 (by decide) ?_
      refine lv_irem K.1 K.2.1 dX7_carriedOfSeed_33 (by decide) ?_
      refine lv_ishr K.1 K.2.1 dX7_carriedOfSeed_34 ?_
      refine lv_iconst (v := (1 : Int32)) K.1 K.2.1 dX7_carriedOfSeed_35 (by decide) ?_
      refine lv_iand K.1 K.2.1 dX7_carriedOfSeed_36 ?_
      refine lv_iadd K.1 K.2.1 dX7_carriedOfSeed_37 ?_
      refine lv_topi (fun x4_6 ex4_6 => ?_)
      have hd := hd x4_6 ex4_6
      refine lv_istore (lv' := [(4, .int x4_6), (3, .int x3_5), (0, .int x0), (2, .int x2), (5, .int x5)]) K.1 K.2.1 dX7_carriedOfSeed_38 hl (by decide) rfl (fun ls hl => ?_)
      obtain ⟨x5_7, ex5_7⟩ : ∃ y : Int32, y = x5 + (1 : Int32) := ⟨_, rfl⟩
      have hd := hd x5_7 ex5_7
      refine lv_iinc (v := x5_7) (lv' := [(5, .int x5_7), (4, .int x4_6), (3, .int x3_5), (0, .int x0), (2, .int x2)]) K.1 K.2.1 dX7_carriedOfSeed_40 hl (k := 4) rfl (by rw [ex5_7]; rfl) (by decide) rfl (fun ls hl => ?_)
      refine lv_goto (tgt := 8) K.1 K.2.1 dX7_carriedOfSeed_43 (by decide) ?_
      exact ih x0 x2 x3_5 x4_6 x5_7 g0 _ _ _  hd hw (lv_sub hl [3, 4, 2, 1, 0] rfl)
set_option maxHeartbeats 4000000 in
set_option maxRecDepth 100000 in
theorem cc_X7_carriedOfSeed (l : Launch) (D : va_G) (cy : Nat → ClassId) (nt : Nat) (ad : Nat → Nat) (A : Nat → Prop) (X : Nat → Nat)  (g0 : Sg) (Q : Int32 → Sg → Prop) (x0 : Int32) (x1 : Int32) (x2 : Int32) (hd : vv_X7_carriedOfSeed nt x0 x1 x2 g0 Q) : Met l yX7_carriedOfSeed (Cond.code yX7_carriedOfSeed cX7_carriedOfSeed 6 (some .int) :: TT) (rmD 1) (va_Pc [.int x0, .int x1, .int x2] (PreC (wsC cy nt ad) D cy A X g0)) (va_Qi Q (PostG (wsC cy nt ad) D A) A) 0 0 A := by
  unfold vv_X7_carriedOfSeed at hd
  refine Met.ofW (cc := cX7_carriedOfSeed) (maxL := 6) (ret := (some .int)) (by decide) rfl ?_
  intro p e s m args below meth c s₁ B hml hv
  obtain ⟨rfl, ⟨hP, hK0, hD⟩, KX⟩ := hv
  have K : Kx p s m _ meth c cX7_carriedOfSeed 6 RX7 D cy := ⟨B.exec, B.bytes, hml, findClass_of_methodNamed B.named, fun w h => atoms_spec (ws := Cond.code yX7_carriedOfSeed cX7_carriedOfSeed 6 (some .int) :: TT) B.pre w (List.mem_cons_of_mem _ h), hK0, B.notSynchronized⟩
  have hw : Wd D A s.heap (wsC cy nt ad g0) s.heap [] := ⟨hP, hD, va_S.rf⟩
  have hr := B.returns
  have hl := lv_entry ([.int x0, .int x1, .int x2]) (n := 6) (Nat.le_of_ble_eq_true rfl)
  rw [lg_entry_eq]
  generalize (lg_sl ([.int x0, .int x1, .int x2]) ++ List.replicate (6 - (lg_sl ([.int x0, .int x1, .int x2])).length) Slot.unset).toArray = ls at hl ⊢
  have hl : lv_has ls 6 [(0, .int x0), (1, .int x1), (2, .int x2)] := hl
  refine lv_iload_n K.1 K.2.1 dX7_carriedOfSeed_0 rfl (lv_at hl 1 rfl) ?_
  refine lv_topi (fun x3_1 ex3_1 => ?_)
  have hd := hd x3_1 ex3_1
  refine lv_istore_n (lv' := [(3, .int x3_1), (0, .int x0), (1, .int x1), (2, .int x2)]) K.1 K.2.1 dX7_carriedOfSeed_1 rfl hl (by decide) rfl (fun ls hl => ?_)
  refine lv_iconst (v := (0 : Int32)) K.1 K.2.1 dX7_carriedOfSeed_2 (by decide) ?_
  refine lv_topi (fun x4_2 ex4_2 => ?_)
  have hd := hd x4_2 ex4_2
  refine lv_istore (lv' := [(4, .int x4_2), (3, .int x3_1), (0, .int x0), (1, .int x1), (2, .int x2)]) K.1 K.2.1 dX7_carriedOfSeed_3 hl (by decide) rfl (fun ls hl => ?_)
  refine lv_iconst (v := (0 : Int32)) K.1 K.2.1 dX7_carriedOfSeed_5 (by decide) ?_
  refine lv_topi (fun x5_3 ex5_3 => ?_)
  have hd := hd x5_3 ex5_3
  refine lv_istore (lv' := [(5, .int x5_3), (4, .int x4_2), (3, .int x3_1), (0, .int x0), (1, .int x1), (2, .int x2)]) K.1 K.2.1 dX7_carriedOfSeed_6 hl (by decide) rfl (fun ls hl => ?_)
  obtain ⟨n9, hd⟩ := hd
  exact bb_X7_carriedOfSeed_8 K KX hr   n9 x0 x2 x3_1 x4_2 x5_3 g0 _ _ _  hd hw (lv_sub hl [3, 5, 2, 1, 0] rfl)
theorem dX7_drawn_0 : decode cX7_drawn 0 = .ok (.iload_n 2, 1) := by decide +kernel
theorem dX7_drawn_1 : decode cX7_drawn 1 = .ok (.ifCond .lt 9, 3) := by decide +kernel
theorem dX7_drawn_4 : decode cX7_drawn 4 = .ok (.iload_n 2, 1) := by decide +kernel
theorem dX7_drawn_5 : decode cX7_drawn 5 = .ok (.bipush 99, 2) := by decide +kernel
theorem dX7_drawn_7 : decode cX7_drawn 7 = .ok (.if_icmp .le 6, 3) := by decide +kernel
theorem dX7_drawn_10 : decode cX7_drawn 10 = .ok (.bipush (-2), 2) := by decide +kernel
theorem dX7_drawn_12 : decode cX7_drawn 12 = .ok (.ireturn, 1) := by decide +kernel
theorem dX7_drawn_13 : decode cX7_drawn 13 = .ok (.aload_n 0, 1) := by decide +kernel
theorem dX7_drawn_14 : decode cX7_drawn 14 = .ok (.aload_n 0, 1) := by decide +kernel
theorem dX7_drawn_15 : decode cX7_drawn 15 = .ok (.getfield 10, 3) := by decide +kernel
theorem dX7_drawn_18 : decode cX7_drawn 18 = .ok (.invokevirtual 189, 3) := by decide +kernel
theorem dX7_drawn_21 : decode cX7_drawn 21 = .ok (.iload_n 1, 1) := by decide +kernel
theorem dX7_drawn_22 : decode cX7_drawn 22 = .ok (.iload_n 2, 1) := by decide +kernel
theorem dX7_drawn_23 : decode cX7_drawn 23 = .ok (.invokestatic 277, 3) := by decide +kernel
theorem dX7_drawn_26 : decode cX7_drawn 26 = .ok (.ireturn, 1) := by decide +kernel
set_option maxHeartbeats 4000000 in
set_option maxRecDepth 100000 in
theorem cc_X7_drawn (l : Launch) (D : va_G) (cy : Nat → ClassId) (nt : Nat) (ad : Nat → Nat) (A : Nat → Prop) (X : Nat → Nat)  (g0 : Sg) (Q : Int32 → Sg → Prop) (x1 : Int32) (x2 : Int32) (hd : vv_X7_drawn nt x1 x2 g0 Q) : Met l yX7_drawn (Cond.code yX7_drawn cX7_drawn 3 (some .int) :: TT) (rmD 8) (va_Pc [.ref (ad 0), .int x1, .int x2] (PreC (wsC cy nt ad) D cy A X g0)) (va_Qi Q (PostG (wsC cy nt ad) D A) A) 0 0 A := by
  unfold vv_X7_drawn at hd
  refine Met.ofW (cc := cX7_drawn) (maxL := 3) (ret := (some .int)) (by decide) rfl ?_
  intro p e s m args below meth c s₁ B hml hv
  obtain ⟨rfl, ⟨hP, hK0, hD⟩, KX⟩ := hv
  have K : Kx p s m _ meth c cX7_drawn 3 RX7 D cy := ⟨B.exec, B.bytes, hml, findClass_of_methodNamed B.named, fun w h => atoms_spec (ws := Cond.code yX7_drawn cX7_drawn 3 (some .int) :: TT) B.pre w (List.mem_cons_of_mem _ h), hK0, B.notSynchronized⟩
  have hw : Wd D A s.heap (wsC cy nt ad g0) s.heap [] := ⟨hP, hD, va_S.rf⟩
  have hr := B.returns
  have hl := lv_entry ([.ref (ad 0), .int x1, .int x2]) (n := 3) (Nat.le_of_ble_eq_true rfl)
  rw [lg_entry_eq]
  generalize (lg_sl ([.ref (ad 0), .int x1, .int x2]) ++ List.replicate (3 - (lg_sl ([.ref (ad 0), .int x1, .int x2])).length) Slot.unset).toArray = ls at hl ⊢
  have hl : lv_has ls 3 [(0, .ref (ad 0)), (1, .int x1), (2, .int x2)] := hl
  refine lv_iload_n K.1 K.2.1 dX7_drawn_0 rfl (lv_at hl 2 rfl) ?_
  refine lv_if_lt (tgt := 10) K.1 K.2.1 dX7_drawn_1 (by decide) (fun h_1 => ?_) (fun h_1 => ?_)
  · have hd := hd.1 h_1
    refine lv_bipush (v := (-2 : Int32)) K.1 K.2.1 dX7_drawn_10 (by decide) ?_
    exact rk_iret K hw hr hd dX7_drawn_12
  · have hd := hd.2 h_1
    refine lv_iload_n K.1 K.2.1 dX7_drawn_4 rfl (lv_at hl 2 rfl) ?_
    refine lv_bipush (v := (99 : Int32)) K.1 K.2.1 dX7_drawn_5 (by decide) ?_
    refine lv_icmp_le (tgt := 13) K.1 K.2.1 dX7_drawn_7 (by decide) (fun h_2 => ?_) (fun h_2 => ?_)
    · have hd := hd.1 h_2
      refine lv_aload_n K.1 K.2.1 dX7_drawn_13 rfl (lv_at hl 0 rfl) ?_
      refine lv_aload_n K.1 K.2.1 dX7_drawn_14 rfl (lv_at hl 0 rfl) ?_
      refine rc_get layX7 (ci := 7) rfl 0 (by decide) (v := .ref (ad 1)) K hw (wc_O cy nt ad _) kf_X7_10 rfl dX7_drawn_15 ?_
      refine rkc_vi (As := [.ref (ad 1)]) (rest := []) K KX hw (cc_X7_carriedTopics l D cy nt ad A X g0 _ 1 hd) lk_X7_189 (ci := 7) rfl (wc_O cy nt ad _) ⟨Nat.le_of_ble_eq_true rfl, Nat.le_of_ble_eq_true rfl⟩ ⟨Nat.zero_le _, Nat.zero_le _⟩ rfl hl.1 (Nat.le_of_ble_eq_true rfl) rfl dX7_drawn_18 (fun r_4 g_3 H locs hd hw => ?_)
      refine lv_iload_n K.1 K.2.1 dX7_drawn_21 rfl (lv_at hl 1 rfl) ?_
      refine lv_iload_n K.1 K.2.1 dX7_drawn_22 rfl (lv_at hl 2 rfl) ?_
      refine rkc_si (As := [.int r_4, .int x1, .int x2]) (rest := []) K KX hw (cc_X7_carriedOfSeed l D cy nt ad A X g_3 _ r_4 x1 x2 hd) lk_X7_277 ⟨Nat.le_of_ble_eq_true rfl, Nat.le_of_ble_eq_true rfl⟩ ⟨Nat.zero_le _, Nat.zero_le _⟩ rfl hl.1 (Nat.le_of_ble_eq_true rfl) rfl dX7_drawn_23 (fun r_6 g_5 H locs hd hw => ?_)
      exact rk_iret K hw hr hd dX7_drawn_26
    · have hd := hd.2 h_2
      refine lv_bipush (v := (-2 : Int32)) K.1 K.2.1 dX7_drawn_10 (by decide) ?_
      exact rk_iret K hw hr hd dX7_drawn_12
theorem dX7_chance_0 : decode cX7_chance 0 = .ok (.iload_n 2, 1) := by decide +kernel
theorem dX7_chance_1 : decode cX7_chance 1 = .ok (.iconst 1, 1) := by decide +kernel
theorem dX7_chance_2 : decode cX7_chance 2 = .ok (.if_icmp .lt 29, 3) := by decide +kernel
theorem dX7_chance_5 : decode cX7_chance 5 = .ok (.iload_n 2, 1) := by decide +kernel
theorem dX7_chance_6 : decode cX7_chance 6 = .ok (.bipush 20, 2) := by decide +kernel
theorem dX7_chance_8 : decode cX7_chance 8 = .ok (.if_icmp .gt 23, 3) := by decide +kernel
theorem dX7_chance_11 : decode cX7_chance 11 = .ok (.iload_n 3, 1) := by decide +kernel
theorem dX7_chance_12 : decode cX7_chance 12 = .ok (.ifCond .lt 19, 3) := by decide +kernel
theorem dX7_chance_15 : decode cX7_chance 15 = .ok (.iload_n 3, 1) := by decide +kernel
theorem dX7_chance_16 : decode cX7_chance 16 = .ok (.iconst 5, 1) := by decide +kernel
theorem dX7_chance_17 : decode cX7_chance 17 = .ok (.if_icmp .gt 14, 3) := by decide +kernel
theorem dX7_chance_20 : decode cX7_chance 20 = .ok (.iload 4, 2) := by decide +kernel
theorem dX7_chance_22 : decode cX7_chance 22 = .ok (.ifCond .lt 9, 3) := by decide +kernel
theorem dX7_chance_25 : decode cX7_chance 25 = .ok (.iload 4, 2) := by decide +kernel
theorem dX7_chance_27 : decode cX7_chance 27 = .ok (.iconst 1, 1) := by decide +kernel
theorem dX7_chance_28 : decode cX7_chance 28 = .ok (.if_icmp .le 7, 3) := by decide +kernel
theorem dX7_chance_31 : decode cX7_chance 31 = .ok (.ldc2_w 230, 3) := by decide +kernel
theorem dX7_chance_34 : decode cX7_chance 34 = .ok (.lreturn, 1) := by decide +kernel
theorem dX7_chance_35 : decode cX7_chance 35 = .ok (.aload_n 0, 1) := by decide +kernel
theorem dX7_chance_36 : decode cX7_chance 36 = .ok (.aload_n 0, 1) := by decide +kernel
theorem dX7_chance_37 : decode cX7_chance 37 = .ok (.getfield 10, 3) := by decide +kernel
theorem dX7_chance_40 : decode cX7_chance 40 = .ok (.invokevirtual 189, 3) := by decide +kernel
theorem dX7_chance_43 : decode cX7_chance 43 = .ok (.istore 5, 2) := by decide +kernel
theorem dX7_chance_45 : decode cX7_chance 45 = .ok (.iconst 0, 1) := by decide +kernel
theorem dX7_chance_46 : decode cX7_chance 46 = .ok (.istore 6, 2) := by decide +kernel
theorem dX7_chance_48 : decode cX7_chance 48 = .ok (.iconst 0, 1) := by decide +kernel
theorem dX7_chance_49 : decode cX7_chance 49 = .ok (.istore 7, 2) := by decide +kernel
theorem dX7_chance_51 : decode cX7_chance 51 = .ok (.iload 7, 2) := by decide +kernel
theorem dX7_chance_53 : decode cX7_chance 53 = .ok (.iload_n 2, 1) := by decide +kernel
theorem dX7_chance_54 : decode cX7_chance 54 = .ok (.if_icmp .ge 26, 3) := by decide +kernel
theorem dX7_chance_57 : decode cX7_chance 57 = .ok (.iload 5, 2) := by decide +kernel
theorem dX7_chance_59 : decode cX7_chance 59 = .ok (.iload_n 1, 1) := by decide +kernel
theorem dX7_chance_60 : decode cX7_chance 60 = .ok (.iload 7, 2) := by decide +kernel
theorem dX7_chance_62 : decode cX7_chance 62 = .ok (.iadd, 1) := by decide +kernel
theorem dX7_chance_63 : decode cX7_chance 63 = .ok (.iconst 5, 1) := by decide +kernel
theorem dX7_chance_64 : decode cX7_chance 64 = .ok (.invokestatic 277, 3) := by decide +kernel
theorem dX7_chance_67 : decode cX7_chance 67 = .ok (.iload_n 3, 1) := by decide +kernel
theorem dX7_chance_68 : decode cX7_chance 68 = .ok (.if_icmp .lt 6, 3) := by decide +kernel
theorem dX7_chance_71 : decode cX7_chance 71 = .ok (.iinc 6 1, 3) := by decide +kernel
theorem dX7_chance_74 : decode cX7_chance 74 = .ok (.iinc 7 1, 3) := by decide +kernel
theorem dX7_chance_77 : decode cX7_chance 77 = .ok (.goto (-26), 3) := by decide +kernel
theorem dX7_chance_80 : decode cX7_chance 80 = .ok (.iload 6, 2) := by decide +kernel
theorem dX7_chance_82 : decode cX7_chance 82 = .ok (.i2l, 1) := by decide +kernel
theorem dX7_chance_83 : decode cX7_chance 83 = .ok (.iload_n 2, 1) := by decide +kernel
theorem dX7_chance_84 : decode cX7_chance 84 = .ok (.i2l, 1) := by decide +kernel
theorem dX7_chance_85 : decode cX7_chance 85 = .ok (.iload 4, 2) := by decide +kernel
theorem dX7_chance_87 : decode cX7_chance 87 = .ok (.invokestatic 236, 3) := by decide +kernel
theorem dX7_chance_90 : decode cX7_chance 90 = .ok (.lreturn, 1) := by decide +kernel
set_option maxHeartbeats 4000000 in
set_option maxRecDepth 100000 in
theorem bb_X7_chance_74 {p : Program} {l : Launch} {e : Env} {s : State} {m : MethodId} {args : Array Value} {below : List Frame} {meth : Method} {c : Code} {D : va_G} {cy : Nat → ClassId} {nt : Nat} {ad : Nat → Nat} {A : Nat → Prop} {X : Nat → Nat} {Q : Int64 → Sg → Prop} (K : Kx p s m args meth c cX7_chance 8 RX7 D cy) (KX : XC X A s s.heap) (hr : meth.sig.returnType = (some .long))  {rc51 : Int32 → Int32 → Int32 → Int32 → Int32 → Int32 → Int32 → Sg → Prop} (hrc51 : ∀ (x1 : Int32) (x2 : Int32) (x3 : Int32) (x4 : Int32) (x5 : Int32) (x6 : Int32) (x7 : Int32) (u : Sg) (H : Heap) (locs : List Loc) (ls : Array Slot), rc51 x1 x2 x3 x4 x5 x6 x7 u → Wd D A s.heap (wsC cy nt ad u) H locs → lv_has ls 8 [(1, .int x1), (2, .int x2), (3, .int x3), (4, .int x4), (5, .int x5), (6, .int x6), (7, .int x7)] → W p l e (rmD 8) s m args below meth c H locs 0 0 (MQ below (va_Ql Q (PostG (wsC cy nt ad) D A) A) args s 0 0 A) (F0 m 51 ls [])) (x1 : Int32) (x2 : Int32) (x3 : Int32) (x4 : Int32) (x5 : Int32) (x6 : Int32) (x7 : Int32)  (g0 : Sg) (H : Heap) (locs : List Loc) (ls : Array Slot) (hd : vv_X7_chance_J74 nt rc51 x1 x2 x3 x4 x5 x6 x7 g0 Q) (hw : Wd D A s.heap (wsC cy nt ad g0) H locs) (hl : lv_has ls 8 [(1, .int x1), (2, .int x2), (3, .int x3), (4, .int x4), (5, .int x5), (6, .int x6), (7, .int x7)]) : W p l e (rmD 8) s m args below meth c H locs 0 0 (MQ below (va_Ql Q (PostG (wsC cy nt ad) D A) A) args s 0 0 A) (F0 m 74 ls []) := by
  unfold vv_X7_chance_J74 at hd
  obtain ⟨x7_18, ex7_18⟩ : ∃ y : Int32, y = x7 + (1 : Int32) := ⟨_, rfl⟩
  have hd := hd x7_18 ex7_18
  refine lv_iinc (v := x7_18) (lv' := [(7, .int x7_18), (1, .int x1), (2, .int x2), (3, .int x3), (4, .int x4), (5, .int x5), (6, .int x6)]) K.1 K.2.1 dX7_chance_74 hl (k := 6) rfl (by rw [ex7_18]; rfl) (by decide) rfl (fun ls hl => ?_)
  refine lv_goto (tgt := 51) K.1 K.2.1 dX7_chance_77 (by decide) ?_
  exact hrc51 x1 x2 x3 x4 x5 x6 x7_18 g0 _ _ _  hd hw (lv_sub hl [1, 2, 3, 4, 5, 6, 0] rfl)
set_option maxHeartbeats 4000000 in
set_option maxRecDepth 100000 in
theorem bb_X7_chance_51 {p : Program} {l : Launch} {e : Env} {s : State} {m : MethodId} {args : Array Value} {below : List Frame} {meth : Method} {c : Code} {D : va_G} {cy : Nat → ClassId} {nt : Nat} {ad : Nat → Nat} {A : Nat → Prop} {X : Nat → Nat} {Q : Int64 → Sg → Prop} (K : Kx p s m args meth c cX7_chance 8 RX7 D cy) (KX : XC X A s s.heap) (hr : meth.sig.returnType = (some .long))  : ∀ (n : Nat) (x1 : Int32) (x2 : Int32) (x3 : Int32) (x4 : Int32) (x5 : Int32) (x6 : Int32) (x7 : Int32)  (g0 : Sg) (H : Heap) (locs : List Loc) (ls : Array Slot), vv_X7_chance_L51 nt Q n x1 x2 x3 x4 x5 x6 x7 g0 → Wd D A s.heap (wsC cy nt ad g0) H locs → lv_has ls 8 [(1, .int x1), (2, .int x2), (3, .int x3), (4, .int x4), (5, .int x5), (6, .int x6), (7, .int x7)] → W p l e (rmD 8) s m args below meth c H locs 0 0 (MQ below (va_Ql Q (PostG (wsC cy nt ad) D A) A) args s 0 0 A) (F0 m 51 ls []) := by
  intro n
  induction n with
  | zero => intro _ _ _ _ _ _ _ _ _ _ _ hd; exact hd.elim
  | succ n ih =>
    intro x1 x2 x3 x4 x5 x6 x7 g0 H locs ls  hd hw hl
    unfold vv_X7_chance_L51 at hd
    refine lv_iload K.1 K.2.1 dX7_chance_51 (lv_at hl 6 rfl) ?_
    refine lv_iload_n K.1 K.2.1 dX7_chance_53 rfl (lv_at hl 1 rfl) ?_
    refine lv_icmp_ge (tgt := 80) K.1 K.2.1 dX7_chance_54 (by decide) (fun h_12 => ?_) (fun h_12 => ?_)
    · have hd := hd.1 h_12
      refine lv_iload K.1 K.2.1 dX7_chance_80 (lv_at hl 5 rfl) ?_
      refine lv_i2l (v := x6.toInt64) K.1 K.2.1 dX7_chance_82 rfl ?_
      refine lv_iload_n K.1 K.2.1 dX7_chance_83 rfl (lv_at hl 1 rfl) ?_
      refine lv_i2l (v := x2.toInt64) K.1 K.2.1 dX7_chance_84 rfl ?_
      refine lv_iload K.1 K.2.1 dX7_chance_85 (lv_at hl 3 rfl) ?_
      refine rkc_sl (As := [.long x6.toInt64, .long x2.toInt64, .int x4]) (rest := []) K KX hw (cc_X7_fraction l D cy nt ad A X g0 _ (x6.toInt64) (x2.toInt64) x4 hd) lk_X7_236 ⟨Nat.le_of_ble_eq_true rfl, Nat.le_of_ble_eq_true rfl⟩ ⟨Nat.zero_le _, Nat.zero_le _⟩ rfl hl.1 (Nat.le_of_ble_eq_true rfl) rfl dX7_chance_87 (fun r_14 g_13 H locs hd hw => ?_)
      exact rk_lret K hw hr hd dX7_chance_90
    · have hd := hd.2 h_12
      refine lv_iload K.1 K.2.1 dX7_chance_57 (lv_at hl 4 rfl) ?_
      refine lv_iload_n K.1 K.2.1 dX7_chance_59 rfl (lv_at hl 0 rfl) ?_
      refine lv_iload K.1 K.2.1 dX7_chance_60 (lv_at hl 6 rfl) ?_
      refine lv_iadd K.1 K.2.1 dX7_chance_62 ?_
      refine lv_iconst (v := (5 : Int32)) K.1 K.2.1 dX7_chance_63 (by decide) ?_
      refine rkc_si (As := [.int x5, .int (x1 + x7), .int (5 : Int32)]) (rest := []) K KX hw (cc_X7_carriedOfSeed l D cy nt ad A X g0 _ x5 (x1 + x7) (5 : Int32) hd) lk_X7_277 ⟨Nat.le_of_ble_eq_true rfl, Nat.le_of_ble_eq_true rfl⟩ ⟨Nat.zero_le _, Nat.zero_le _⟩ rfl hl.1 (Nat.le_of_ble_eq_true rfl) rfl dX7_chance_64 (fun r_16 g_15 H locs hd hw => ?_)
      refine lv_iload_n K.1 K.2.1 dX7_chance_67 rfl (lv_at hl 2 rfl) ?_
      refine lv_icmp_lt (tgt := 74) K.1 K.2.1 dX7_chance_68 (by decide) (fun h_17 => ?_) (fun h_17 => ?_)
      · have hd := hd.1 h_17
        exact bb_X7_chance_74 K KX hr  ih x1 x2 x3 x4 x5 x6 x7 g_15 _ _ _  hd hw (lv_sub hl [0, 1, 2, 3, 4, 5, 6] rfl)
      · have hd := hd.2 h_17
        obtain ⟨x6_19, ex6_19⟩ : ∃ y : Int32, y = x6 + (1 : Int32) := ⟨_, rfl⟩
        have hd := hd x6_19 ex6_19
        refine lv_iinc (v := x6_19) (lv' := [(6, .int x6_19), (1, .int x1), (2, .int x2), (3, .int x3), (4, .int x4), (5, .int x5), (7, .int x7)]) K.1 K.2.1 dX7_chance_71 hl (k := 5) rfl (by rw [ex6_19]; rfl) (by decide) rfl (fun ls hl => ?_)
        exact bb_X7_chance_74 K KX hr  ih x1 x2 x3 x4 x5 x6_19 x7 g_15 _ _ _  hd hw (lv_sub hl [1, 2, 3, 4, 5, 0, 6] rfl)
set_option maxHeartbeats 4000000 in
set_option maxRecDepth 100000 in
theorem cc_X7_chance (l : Launch) (D : va_G) (cy : Nat → ClassId) (nt : Nat) (ad : Nat → Nat) (A : Nat → Prop) (X : Nat → Nat)  (g0 : Sg) (Q : Int64 → Sg → Prop) (x1 : Int32) (x2 : Int32) (x3 : Int32) (x4 : Int32) (hd : vv_X7_chance nt x1 x2 x3 x4 g0 Q) : Met l yX7_chance (Cond.code yX7_chance cX7_chance 8 (some .long) :: TT) (rmD 8) (va_Pc [.ref (ad 0), .int x1, .int x2, .int x3, .int x4] (PreC (wsC cy nt ad) D cy A X g0)) (va_Ql Q (PostG (wsC cy nt ad) D A) A) 0 0 A := by
  unfold vv_X7_chance at hd
  refine Met.ofW (cc := cX7_chance) (maxL := 8) (ret := (some .long)) (by decide) rfl ?_
  intro p e s m args below meth c s₁ B hml hv
  obtain ⟨rfl, ⟨hP, hK0, hD⟩, KX⟩ := hv
  have K : Kx p s m _ meth c cX7_chance 8 RX7 D cy := ⟨B.exec, B.bytes, hml, findClass_of_methodNamed B.named, fun w h => atoms_spec (ws := Cond.code yX7_chance cX7_chance 8 (some .long) :: TT) B.pre w (List.mem_cons_of_mem _ h), hK0, B.notSynchronized⟩
  have hw : Wd D A s.heap (wsC cy nt ad g0) s.heap [] := ⟨hP, hD, va_S.rf⟩
  have hr := B.returns
  have hl := lv_entry ([.ref (ad 0), .int x1, .int x2, .int x3, .int x4]) (n := 8) (Nat.le_of_ble_eq_true rfl)
  rw [lg_entry_eq]
  generalize (lg_sl ([.ref (ad 0), .int x1, .int x2, .int x3, .int x4]) ++ List.replicate (8 - (lg_sl ([.ref (ad 0), .int x1, .int x2, .int x3, .int x4])).length) Slot.unset).toArray = ls at hl ⊢
  have hl : lv_has ls 8 [(0, .ref (ad 0)), (1, .int x1), (2, .int x2), (3, .int x3), (4, .int x4)] := hl
  refine lv_iload_n K.1 K.2.1 dX7_chance_0 rfl (lv_at hl 2 rfl) ?_
  refine lv_iconst (v := (1 : Int32)) K.1 K.2.1 dX7_chance_1 (by decide) ?_
  refine lv_icmp_lt (tgt := 31) K.1 K.2.1 dX7_chance_2 (by decide) (fun h_1 => ?_) (fun h_1 => ?_)
  · have hd := hd.1 h_1
    refine lv_ldc2 K.1 K.2.1 K.2.2.2.1 (K.2.2.2.2.1 _ kl_X7_230) dX7_chance_31 ?_
    exact rk_lret K hw hr hd dX7_chance_34
  · have hd := hd.2 h_1
    refine lv_iload_n K.1 K.2.1 dX7_chance_5 rfl (lv_at hl 2 rfl) ?_
    refine lv_bipush (v := (20 : Int32)) K.1 K.2.1 dX7_chance_6 (by decide) ?_
    refine lv_icmp_gt (tgt := 31) K.1 K.2.1 dX7_chance_8 (by decide) (fun h_2 => ?_) (fun h_2 => ?_)
    · have hd := hd.1 h_2
      refine lv_ldc2 K.1 K.2.1 K.2.2.2.1 (K.2.2.2.2.1 _ kl_X7_230) dX7_chance_31 ?_
      exact rk_lret K hw hr hd dX7_chance_34
    · have hd := hd.2 h_2
      refine lv_iload_n K.1 K.2.1 dX7_chance_11 rfl (lv_at hl 3 rfl) ?_
      refine lv_if_lt (tgt := 31) K.1 K.2.1 dX7_chance_12 (by decide) (fun h_3 => ?_) (fun h_3 => ?_)
      · have hd := hd.1 h_3
        refine lv_ldc2 K.1 K.2.1 K.2.2.2.1 (K.2.2.2.2.1 _ kl_X7_230) dX7_chance_31 ?_
        exact rk_lret K hw hr hd dX7_chance_34
      · have hd := hd.2 h_3
        refine lv_iload_n K.1 K.2.1 dX7_chance_15 rfl (lv_at hl 3 rfl) ?_
        refine lv_iconst (v := (5 : Int32)) K.1 K.2.1 dX7_chance_16 (by decide) ?_
        refine lv_icmp_gt (tgt := 31) K.1 K.2.1 dX7_chance_17 (by decide) (fun h_4 => ?_) (fun h_4 => ?_)
        · have hd := hd.1 h_4
          refine lv_ldc2 K.1 K.2.1 K.2.2.2.1 (K.2.2.2.2.1 _ kl_X7_230) dX7_chance_31 ?_
          exact rk_lret K hw hr hd dX7_chance_34
        · have hd := hd.2 h_4
          refine lv_iload K.1 K.2.1 dX7_chance_20 (lv_at hl 4 rfl) ?_
          refine lv_if_lt (tgt := 31) K.1 K.2.1 dX7_chance_22 (by decide) (fun h_5 => ?_) (fun h_5 => ?_)
          · have hd := hd.1 h_5
            refine lv_ldc2 K.1 K.2.1 K.2.2.2.1 (K.2.2.2.2.1 _ kl_X7_230) dX7_chance_31 ?_
            exact rk_lret K hw hr hd dX7_chance_34
          · have hd := hd.2 h_5
            refine lv_iload K.1 K.2.1 dX7_chance_25 (lv_at hl 4 rfl) ?_
            refine lv_iconst (v := (1 : Int32)) K.1 K.2.1 dX7_chance_27 (by decide) ?_
            refine lv_icmp_le (tgt := 35) K.1 K.2.1 dX7_chance_28 (by decide) (fun h_6 => ?_) (fun h_6 => ?_)
            · have hd := hd.1 h_6
              refine lv_aload_n K.1 K.2.1 dX7_chance_35 rfl (lv_at hl 0 rfl) ?_
              refine lv_aload_n K.1 K.2.1 dX7_chance_36 rfl (lv_at hl 0 rfl) ?_
              refine rc_get layX7 (ci := 7) rfl 0 (by decide) (v := .ref (ad 1)) K hw (wc_O cy nt ad _) kf_X7_10 rfl dX7_chance_37 ?_
              refine rkc_vi (As := [.ref (ad 1)]) (rest := []) K KX hw (cc_X7_carriedTopics l D cy nt ad A X g0 _ 1 hd) lk_X7_189 (ci := 7) rfl (wc_O cy nt ad _) ⟨Nat.le_of_ble_eq_true rfl, Nat.le_of_ble_eq_true rfl⟩ ⟨Nat.zero_le _, Nat.zero_le _⟩ rfl hl.1 (Nat.le_of_ble_eq_true rfl) rfl dX7_chance_40 (fun r_8 g_7 H locs hd hw => ?_)
              refine lv_topi (fun x5_9 ex5_9 => ?_)
              have hd := hd x5_9 ex5_9
              refine lv_istore (lv' := [(5, .int x5_9), (0, .ref (ad 0)), (1, .int x1), (2, .int x2), (3, .int x3), (4, .int x4)]) K.1 K.2.1 dX7_chance_43 hl (by decide) rfl (fun ls hl => ?_)
              refine lv_iconst (v := (0 : Int32)) K.1 K.2.1 dX7_chance_45 (by decide) ?_
              refine lv_topi (fun x6_10 ex6_10 => ?_)
              have hd := hd x6_10 ex6_10
              refine lv_istore (lv' := [(6, .int x6_10), (5, .int x5_9), (0, .ref (ad 0)), (1, .int x1), (2, .int x2), (3, .int x3), (4, .int x4)]) K.1 K.2.1 dX7_chance_46 hl (by decide) rfl (fun ls hl => ?_)
              refine lv_iconst (v := (0 : Int32)) K.1 K.2.1 dX7_chance_48 (by decide) ?_
              refine lv_topi (fun x7_11 ex7_11 => ?_)
              have hd := hd x7_11 ex7_11
              refine lv_istore (lv' := [(7, .int x7_11), (6, .int x6_10), (5, .int x5_9), (0, .ref (ad 0)), (1, .int x1), (2, .int x2), (3, .int x3), (4, .int x4)]) K.1 K.2.1 dX7_chance_49 hl (by decide) rfl (fun ls hl => ?_)
              obtain ⟨n9, hd⟩ := hd
              exact bb_X7_chance_51 K KX hr   n9 x1 x2 x3 x4 x5_9 x6_10 x7_11 g_7 _ _ _  hd hw (lv_sub hl [4, 5, 6, 7, 2, 1, 0] rfl)
            · have hd := hd.2 h_6
              refine lv_ldc2 K.1 K.2.1 K.2.2.2.1 (K.2.2.2.2.1 _ kl_X7_230) dX7_chance_31 ?_
              exact rk_lret K hw hr hd dX7_chance_34
theorem dX7_image_0 : decode cX7_image 0 = .ok (.aload_n 0, 1) := by decide +kernel
theorem dX7_image_1 : decode cX7_image 1 = .ok (.getfield 16, 3) := by decide +kernel
theorem dX7_image_4 : decode cX7_image 4 = .ok (.aload_n 0, 1) := by decide +kernel
theorem dX7_image_5 : decode cX7_image 5 = .ok (.getfield 10, 3) := by decide +kernel
theorem dX7_image_8 : decode cX7_image 8 = .ok (.invokevirtual 204, 3) := by decide +kernel
theorem dX7_image_11 : decode cX7_image 11 = .ok (.aload_n 0, 1) := by decide +kernel
theorem dX7_image_12 : decode cX7_image 12 = .ok (.iconst 1, 1) := by decide +kernel
theorem dX7_image_13 : decode cX7_image 13 = .ok (.putfield 281, 3) := by decide +kernel
theorem dX7_image_16 : decode cX7_image 16 = .ok (.aload_n 0, 1) := by decide +kernel
theorem dX7_image_17 : decode cX7_image 17 = .ok (.getfield 16, 3) := by decide +kernel
theorem dX7_image_20 : decode cX7_image 20 = .ok (.getfield 117, 3) := by decide +kernel
theorem dX7_image_23 : decode cX7_image 23 = .ok (.ireturn, 1) := by decide +kernel
set_option maxHeartbeats 4000000 in
set_option maxRecDepth 100000 in
theorem cc_X7_image (l : Launch) (D : va_G) (cy : Nat → ClassId) (nt : Nat) (ad : Nat → Nat) (A : Nat → Prop) (X : Nat → Nat)  (g0 : Sg) (Q : Int32 → Sg → Prop)  (hd : vv_X7_image nt  g0 Q) : Met l yX7_image (Cond.code yX7_image cX7_image 1 (some .int) :: TT) (rmD 3) (va_Pc [.ref (ad 0)] (PreC (wsC cy nt ad) D cy A X g0)) (va_Qi Q (PostG (wsC cy nt ad) D A) A) 0 0 A := by
  unfold vv_X7_image at hd
  refine Met.ofW (cc := cX7_image) (maxL := 1) (ret := (some .int)) (by decide) rfl ?_
  intro p e s m args below meth c s₁ B hml hv
  obtain ⟨rfl, ⟨hP, hK0, hD⟩, KX⟩ := hv
  have K : Kx p s m _ meth c cX7_image 1 RX7 D cy := ⟨B.exec, B.bytes, hml, findClass_of_methodNamed B.named, fun w h => atoms_spec (ws := Cond.code yX7_image cX7_image 1 (some .int) :: TT) B.pre w (List.mem_cons_of_mem _ h), hK0, B.notSynchronized⟩
  have hw : Wd D A s.heap (wsC cy nt ad g0) s.heap [] := ⟨hP, hD, va_S.rf⟩
  have hr := B.returns
  have hl := lv_entry ([.ref (ad 0)]) (n := 1) (Nat.le_of_ble_eq_true rfl)
  rw [lg_entry_eq]
  generalize (lg_sl ([.ref (ad 0)]) ++ List.replicate (1 - (lg_sl ([.ref (ad 0)])).length) Slot.unset).toArray = ls at hl ⊢
  have hl : lv_has ls 1 [(0, .ref (ad 0))] := hl
  refine lv_aload_n K.1 K.2.1 dX7_image_0 rfl (lv_at hl 0 rfl) ?_
  refine rc_get layX7 (ci := 7) rfl 1 (by decide) (v := .ref (ad 2)) K hw (wc_O cy nt ad _) kf_X7_16 rfl dX7_image_1 ?_
  refine lv_aload_n K.1 K.2.1 dX7_image_4 rfl (lv_at hl 0 rfl) ?_
  refine rc_get layX7 (ci := 7) rfl 0 (by decide) (v := .ref (ad 1)) K hw (wc_O cy nt ad _) kf_X7_10 rfl dX7_image_5 ?_
  refine rkc_vv (As := [.ref (ad 1)]) (rest := []) K KX hw (cc_X0_become l D cy nt ad A X g0 _ 2 1 hd) lk_X7_204 (ci := 0) rfl (wc_B cy nt ad _ ⟨by decide, by decide⟩) ⟨Nat.le_of_ble_eq_true rfl, Nat.le_of_ble_eq_true rfl⟩ ⟨Nat.zero_le _, Nat.zero_le _⟩ rfl hl.1 (Nat.le_of_ble_eq_true rfl) rfl dX7_image_8 (fun g_1 H locs hd hw => ?_)
  refine lv_aload_n K.1 K.2.1 dX7_image_11 rfl (lv_at hl 0 rfl) ?_
  refine lv_iconst (v := (1 : Int32)) K.1 K.2.1 dX7_image_12 (by decide) ?_
  refine rc_put layX7 (ci := 7) rfl tyX7_ok nmX7 3 (by decide) K hw (wc_O cy nt ad _) kf_X7_281 rfl rfl rfl rfl (Nat.le_of_ble_eq_true rfl) (wp_O_3 cy nt ad _ _) dX7_image_13 (fun g_3 eg_3 H locs hw => ?_)
  have hd := hd g_3 eg_3
  refine lv_aload_n K.1 K.2.1 dX7_image_16 rfl (lv_at hl 0 rfl) ?_
  refine rc_get layX7 (ci := 7) rfl 1 (by decide) (v := .ref (ad 2)) K hw (wc_O cy nt ad _) kf_X7_16 rfl dX7_image_17 ?_
  refine rc_get layX0 (ci := 0) rfl 2 (by decide) (v := .int (g_3 2 2)) K hw (wc_B cy nt ad _ ⟨by decide, by decide⟩) kf_X7_117 rfl dX7_image_20 ?_
  exact rk_iret K hw hr hd dX7_image_23
theorem dX7_back_0 : decode cX7_back 0 = .ok (.aload_n 0, 1) := by decide +kernel
theorem dX7_back_1 : decode cX7_back 1 = .ok (.getfield 281, 3) := by decide +kernel
theorem dX7_back_4 : decode cX7_back 4 = .ok (.ifCond .ne 6, 3) := by decide +kernel
theorem dX7_back_7 : decode cX7_back 7 = .ok (.bipush (-3), 2) := by decide +kernel
theorem dX7_back_9 : decode cX7_back 9 = .ok (.ireturn, 1) := by decide +kernel
theorem dX7_back_10 : decode cX7_back 10 = .ok (.aload_n 0, 1) := by decide +kernel
theorem dX7_back_11 : decode cX7_back 11 = .ok (.getfield 10, 3) := by decide +kernel
theorem dX7_back_14 : decode cX7_back 14 = .ok (.aload_n 0, 1) := by decide +kernel
theorem dX7_back_15 : decode cX7_back 15 = .ok (.getfield 16, 3) := by decide +kernel
theorem dX7_back_18 : decode cX7_back 18 = .ok (.invokevirtual 204, 3) := by decide +kernel
theorem dX7_back_21 : decode cX7_back 21 = .ok (.aload_n 0, 1) := by decide +kernel
theorem dX7_back_22 : decode cX7_back 22 = .ok (.getfield 10, 3) := by decide +kernel
theorem dX7_back_25 : decode cX7_back 25 = .ok (.getfield 117, 3) := by decide +kernel
theorem dX7_back_28 : decode cX7_back 28 = .ok (.ireturn, 1) := by decide +kernel
set_option maxHeartbeats 4000000 in
set_option maxRecDepth 100000 in
theorem cc_X7_back (l : Launch) (D : va_G) (cy : Nat → ClassId) (nt : Nat) (ad : Nat → Nat) (A : Nat → Prop) (X : Nat → Nat)  (g0 : Sg) (Q : Int32 → Sg → Prop)  (hd : vv_X7_back nt  g0 Q) : Met l yX7_back (Cond.code yX7_back cX7_back 1 (some .int) :: TT) (rmD 3) (va_Pc [.ref (ad 0)] (PreC (wsC cy nt ad) D cy A X g0)) (va_Qi Q (PostG (wsC cy nt ad) D A) A) 0 0 A := by
  unfold vv_X7_back at hd
  refine Met.ofW (cc := cX7_back) (maxL := 1) (ret := (some .int)) (by decide) rfl ?_
  intro p e s m args below meth c s₁ B hml hv
  obtain ⟨rfl, ⟨hP, hK0, hD⟩, KX⟩ := hv
  have K : Kx p s m _ meth c cX7_back 1 RX7 D cy := ⟨B.exec, B.bytes, hml, findClass_of_methodNamed B.named, fun w h => atoms_spec (ws := Cond.code yX7_back cX7_back 1 (some .int) :: TT) B.pre w (List.mem_cons_of_mem _ h), hK0, B.notSynchronized⟩
  have hw : Wd D A s.heap (wsC cy nt ad g0) s.heap [] := ⟨hP, hD, va_S.rf⟩
  have hr := B.returns
  have hl := lv_entry ([.ref (ad 0)]) (n := 1) (Nat.le_of_ble_eq_true rfl)
  rw [lg_entry_eq]
  generalize (lg_sl ([.ref (ad 0)]) ++ List.replicate (1 - (lg_sl ([.ref (ad 0)])).length) Slot.unset).toArray = ls at hl ⊢
  have hl : lv_has ls 1 [(0, .ref (ad 0))] := hl
  refine lv_aload_n K.1 K.2.1 dX7_back_0 rfl (lv_at hl 0 rfl) ?_
  refine rc_get layX7 (ci := 7) rfl 3 (by decide) (v := .int (g0 0 3)) K hw (wc_O cy nt ad _) kf_X7_281 rfl dX7_back_1 ?_
  refine lv_if_ne (tgt := 10) K.1 K.2.1 dX7_back_4 (by decide) (fun h_1 => ?_) (fun h_1 => ?_)
  · have hd := hd.1 h_1
    refine lv_aload_n K.1 K.2.1 dX7_back_10 rfl (lv_at hl 0 rfl) ?_
    refine rc_get layX7 (ci := 7) rfl 0 (by decide) (v := .ref (ad 1)) K hw (wc_O cy nt ad _) kf_X7_10 rfl dX7_back_11 ?_
    refine lv_aload_n K.1 K.2.1 dX7_back_14 rfl (lv_at hl 0 rfl) ?_
    refine rc_get layX7 (ci := 7) rfl 1 (by decide) (v := .ref (ad 2)) K hw (wc_O cy nt ad _) kf_X7_16 rfl dX7_back_15 ?_
    refine rkc_vv (As := [.ref (ad 2)]) (rest := []) K KX hw (cc_X0_become l D cy nt ad A X g0 _ 1 2 hd) lk_X7_204 (ci := 0) rfl (wc_B cy nt ad _ ⟨by decide, by decide⟩) ⟨Nat.le_of_ble_eq_true rfl, Nat.le_of_ble_eq_true rfl⟩ ⟨Nat.zero_le _, Nat.zero_le _⟩ rfl hl.1 (Nat.le_of_ble_eq_true rfl) rfl dX7_back_18 (fun g_2 H locs hd hw => ?_)
    refine lv_aload_n K.1 K.2.1 dX7_back_21 rfl (lv_at hl 0 rfl) ?_
    refine rc_get layX7 (ci := 7) rfl 0 (by decide) (v := .ref (ad 1)) K hw (wc_O cy nt ad _) kf_X7_10 rfl dX7_back_22 ?_
    refine rc_get layX0 (ci := 0) rfl 2 (by decide) (v := .int (g_2 1 2)) K hw (wc_B cy nt ad _ ⟨by decide, by decide⟩) kf_X7_117 rfl dX7_back_25 ?_
    exact rk_iret K hw hr hd dX7_back_28
  · have hd := hd.2 h_1
    refine lv_bipush (v := (-3 : Int32)) K.1 K.2.1 dX7_back_7 (by decide) ?_
    exact rk_iret K hw hr hd dX7_back_9
theorem dX7_count_0 : decode cX7_count 0 = .ok (.iload_n 1, 1) := by decide +kernel
theorem dX7_count_1 : decode cX7_count 1 = .ok (.tableswitch 106 0 5 #[39, 47, 66, 85, 90, 98], 39) := by decide +kernel
theorem dX7_count_40 : decode cX7_count 40 = .ok (.aload_n 0, 1) := by decide +kernel
theorem dX7_count_41 : decode cX7_count 41 = .ok (.getfield 10, 3) := by decide +kernel
theorem dX7_count_44 : decode cX7_count 44 = .ok (.getfield 117, 3) := by decide +kernel
theorem dX7_count_47 : decode cX7_count 47 = .ok (.ireturn, 1) := by decide +kernel
theorem dX7_count_48 : decode cX7_count 48 = .ok (.aload_n 0, 1) := by decide +kernel
theorem dX7_count_49 : decode cX7_count 49 = .ok (.getfield 10, 3) := by decide +kernel
theorem dX7_count_52 : decode cX7_count 52 = .ok (.getfield 117, 3) := by decide +kernel
theorem dX7_count_55 : decode cX7_count 55 = .ok (.aload_n 0, 1) := by decide +kernel
theorem dX7_count_56 : decode cX7_count 56 = .ok (.getfield 10, 3) := by decide +kernel
theorem dX7_count_59 : decode cX7_count 59 = .ok (.invokevirtual 285, 3) := by decide +kernel
theorem dX7_count_62 : decode cX7_count 62 = .ok (.invokestatic 207, 3) := by decide +kernel
theorem dX7_count_65 : decode cX7_count 65 = .ok (.isub, 1) := by decide +kernel
theorem dX7_count_66 : decode cX7_count 66 = .ok (.ireturn, 1) := by decide +kernel
theorem dX7_count_67 : decode cX7_count 67 = .ok (.aload_n 0, 1) := by decide +kernel
theorem dX7_count_68 : decode cX7_count 68 = .ok (.invokevirtual 215, 3) := by decide +kernel
theorem dX7_count_71 : decode cX7_count 71 = .ok (.aload_n 0, 1) := by decide +kernel
theorem dX7_count_72 : decode cX7_count 72 = .ok (.getfield 60, 3) := by decide +kernel
theorem dX7_count_75 : decode cX7_count 75 = .ok (.aload_n 0, 1) := by decide +kernel
theorem dX7_count_76 : decode cX7_count 76 = .ok (.getfield 60, 3) := by decide +kernel
theorem dX7_count_79 : decode cX7_count 79 = .ok (.getfield 218, 3) := by decide +kernel
theorem dX7_count_82 : decode cX7_count 82 = .ok (.invokevirtual 221, 3) := by decide +kernel
theorem dX7_count_85 : decode cX7_count 85 = .ok (.ireturn, 1) := by decide +kernel
theorem dX7_count_86 : decode cX7_count 86 = .ok (.aload_n 0, 1) := by decide +kernel
theorem dX7_count_87 : decode cX7_count 87 = .ok (.getfield 81, 3) := by decide +kernel
theorem dX7_count_90 : decode cX7_count 90 = .ok (.ireturn, 1) := by decide +kernel
theorem dX7_count_91 : decode cX7_count 91 = .ok (.aload_n 0, 1) := by decide +kernel
theorem dX7_count_92 : decode cX7_count 92 = .ok (.getfield 32, 3) := by decide +kernel
theorem dX7_count_95 : decode cX7_count 95 = .ok (.getfield 74, 3) := by decide +kernel
theorem dX7_count_98 : decode cX7_count 98 = .ok (.ireturn, 1) := by decide +kernel
theorem dX7_count_99 : decode cX7_count 99 = .ok (.aload_n 0, 1) := by decide +kernel
theorem dX7_count_100 : decode cX7_count 100 = .ok (.getfield 10, 3) := by decide +kernel
theorem dX7_count_103 : decode cX7_count 103 = .ok (.getfield 133, 3) := by decide +kernel
theorem dX7_count_106 : decode cX7_count 106 = .ok (.ireturn, 1) := by decide +kernel
theorem dX7_count_107 : decode cX7_count 107 = .ok (.bipush (-2), 2) := by decide +kernel
theorem dX7_count_109 : decode cX7_count 109 = .ok (.ireturn, 1) := by decide +kernel
set_option maxHeartbeats 4000000 in
set_option maxRecDepth 100000 in
theorem cc_X7_count (l : Launch) (D : va_G) (cy : Nat → ClassId) (nt : Nat) (ad : Nat → Nat) (A : Nat → Prop) (X : Nat → Nat)  (g0 : Sg) (Q : Int32 → Sg → Prop) (x1 : Int32) (hd : vv_X7_count nt x1 g0 Q) : Met l yX7_count (Cond.code yX7_count cX7_count 2 (some .int) :: TT) (rmD 6) (va_Pc [.ref (ad 0), .int x1] (PreC (wsC cy nt ad) D cy A X g0)) (va_Qi Q (PostG (wsC cy nt ad) D A) A) 0 0 A := by
  unfold vv_X7_count at hd
  refine Met.ofW (cc := cX7_count) (maxL := 2) (ret := (some .int)) (by decide) rfl ?_
  intro p e s m args below meth c s₁ B hml hv
  obtain ⟨rfl, ⟨hP, hK0, hD⟩, KX⟩ := hv
  have K : Kx p s m _ meth c cX7_count 2 RX7 D cy := ⟨B.exec, B.bytes, hml, findClass_of_methodNamed B.named, fun w h => atoms_spec (ws := Cond.code yX7_count cX7_count 2 (some .int) :: TT) B.pre w (List.mem_cons_of_mem _ h), hK0, B.notSynchronized⟩
  have hw : Wd D A s.heap (wsC cy nt ad g0) s.heap [] := ⟨hP, hD, va_S.rf⟩
  have hr := B.returns
  have hl := lv_entry ([.ref (ad 0), .int x1]) (n := 2) (Nat.le_of_ble_eq_true rfl)
  rw [lg_entry_eq]
  generalize (lg_sl ([.ref (ad 0), .int x1]) ++ List.replicate (2 - (lg_sl ([.ref (ad 0), .int x1])).length) Slot.unset).toArray = ls at hl ⊢
  have hl : lv_has ls 2 [(0, .ref (ad 0)), (1, .int x1)] := hl
  refine lv_iload_n K.1 K.2.1 dX7_count_0 rfl (lv_at hl 1 rfl) ?_
  rcases Classical.em (x1 = (0 : Int32)) with h_2 | h_2
  · have hd := hd.1 h_2
    refine lv_tableIn (tgt := 40) K.1 K.2.1 dX7_count_1 (by rw [h_2]; decide) (by rw [h_2]; decide) (off := 39) (by rw [h_2]; rfl) (by decide) ?_
    refine lv_aload_n K.1 K.2.1 dX7_count_40 rfl (lv_at hl 0 rfl) ?_
    refine rc_get layX7 (ci := 7) rfl 0 (by decide) (v := .ref (ad 1)) K hw (wc_O cy nt ad _) kf_X7_10 rfl dX7_count_41 ?_
    refine rc_get layX0 (ci := 0) rfl 2 (by decide) (v := .int (g0 1 2)) K hw (wc_B cy nt ad _ ⟨by decide, by decide⟩) kf_X7_117 rfl dX7_count_44 ?_
    exact rk_iret K hw hr hd dX7_count_47
  rcases Classical.em (x1 = (1 : Int32)) with h_3 | h_3
  · have hd := hd.2.1 h_3
    refine lv_tableIn (tgt := 48) K.1 K.2.1 dX7_count_1 (by rw [h_3]; decide) (by rw [h_3]; decide) (off := 47) (by rw [h_3]; rfl) (by decide) ?_
    refine lv_aload_n K.1 K.2.1 dX7_count_48 rfl (lv_at hl 0 rfl) ?_
    refine rc_get layX7 (ci := 7) rfl 0 (by decide) (v := .ref (ad 1)) K hw (wc_O cy nt ad _) kf_X7_10 rfl dX7_count_49 ?_
    refine rc_get layX0 (ci := 0) rfl 2 (by decide) (v := .int (g0 1 2)) K hw (wc_B cy nt ad _ ⟨by decide, by decide⟩) kf_X7_117 rfl dX7_count_52 ?_
    refine lv_aload_n K.1 K.2.1 dX7_count_55 rfl (lv_at hl 0 rfl) ?_
    refine rc_get layX7 (ci := 7) rfl 0 (by decide) (v := .ref (ad 1)) K hw (wc_O cy nt ad _) kf_X7_10 rfl dX7_count_56 ?_
    refine rkc_vi (As := []) (rest := [.int (g0 1 2)]) K KX hw (cc_X0_standingBits l D cy nt ad A X g0 _ 1 hd) lk_X7_285 (ci := 0) rfl (wc_B cy nt ad _ ⟨by decide, by decide⟩) ⟨Nat.le_of_ble_eq_true rfl, Nat.le_of_ble_eq_true rfl⟩ ⟨Nat.zero_le _, Nat.zero_le _⟩ rfl hl.1 (Nat.le_of_ble_eq_true rfl) rfl dX7_count_59 (fun r_5 g_4 H locs hd hw => ?_)
    refine rkc_si (As := [.int r_5]) (rest := [.int (g0 1 2)]) K KX hw (cc_J6_bitCount_0f7a4 l D cy nt ad A X g_4 _ r_5 hd) lk_X7_207 ⟨Nat.le_of_ble_eq_true rfl, Nat.le_of_ble_eq_true rfl⟩ ⟨Nat.zero_le _, Nat.zero_le _⟩ rfl hl.1 (Nat.le_of_ble_eq_true rfl) rfl dX7_count_62 (fun r_7 g_6 H locs hd hw => ?_)
    refine lv_isub K.1 K.2.1 dX7_count_65 ?_
    exact rk_iret K hw hr hd dX7_count_66
  rcases Classical.em (x1 = (2 : Int32)) with h_8 | h_8
  · have hd := hd.2.2.1 h_8
    refine lv_tableIn (tgt := 67) K.1 K.2.1 dX7_count_1 (by rw [h_8]; decide) (by rw [h_8]; decide) (off := 66) (by rw [h_8]; rfl) (by decide) ?_
    refine lv_aload_n K.1 K.2.1 dX7_count_67 rfl (lv_at hl 0 rfl) ?_
    refine rkc_vv (As := []) (rest := []) K KX hw (cc_X7_weighCoalitions l D cy nt ad A X g0 _  hd) lk_X7_215 (ci := 7) rfl (wc_O cy nt ad _) ⟨Nat.le_of_ble_eq_true rfl, Nat.le_of_ble_eq_true rfl⟩ ⟨Nat.zero_le _, Nat.zero_le _⟩ rfl hl.1 (Nat.le_of_ble_eq_true rfl) rfl dX7_count_68 (fun g_9 H locs hd hw => ?_)
    refine lv_aload_n K.1 K.2.1 dX7_count_71 rfl (lv_at hl 0 rfl) ?_
    refine rc_get layX7 (ci := 7) rfl 10 (by decide) (v := .ref (ad 22)) K hw (wc_O cy nt ad _) kf_X7_60 rfl dX7_count_72 ?_
    refine lv_aload_n K.1 K.2.1 dX7_count_75 rfl (lv_at hl 0 rfl) ?_
    refine rc_get layX7 (ci := 7) rfl 10 (by decide) (v := .ref (ad 22)) K hw (wc_O cy nt ad _) kf_X7_60 rfl dX7_count_76 ?_
    refine rc_get layX4 (ci := 4) rfl 2 (by decide) (v := .int (g_9 22 2)) K hw (wc_Ta cy nt ad _) kf_X7_218 rfl dX7_count_79 ?_
    refine rkc_vi (As := [.int (g_9 22 2)]) (rest := []) K KX hw (cc_X4_weightOfSet l D cy nt ad A X g_9 _ (g_9 22 2) hd) lk_X7_221 (ci := 4) rfl (wc_Ta cy nt ad _) ⟨Nat.le_of_ble_eq_true rfl, Nat.le_of_ble_eq_true rfl⟩ ⟨Nat.zero_le _, Nat.zero_le _⟩ rfl hl.1 (Nat.le_of_ble_eq_true rfl) rfl dX7_count_82 (fun r_12 g_11 H locs hd hw => ?_)
    exact rk_iret K hw hr hd dX7_count_85
  rcases Classical.em (x1 = (3 : Int32)) with h_13 | h_13
  · have hd := hd.2.2.2.1 h_13
    refine lv_tableIn (tgt := 86) K.1 K.2.1 dX7_count_1 (by rw [h_13]; decide) (by rw [h_13]; decide) (off := 85) (by rw [h_13]; rfl) (by decide) ?_
    refine lv_aload_n K.1 K.2.1 dX7_count_86 rfl (lv_at hl 0 rfl) ?_
    refine rc_get layX7 (ci := 7) rfl 8 (by decide) (v := .int (g0 0 8)) K hw (wc_O cy nt ad _) kf_X7_81 rfl dX7_count_87 ?_
    exact rk_iret K hw hr hd dX7_count_90
  rcases Classical.em (x1 = (4 : Int32)) with h_14 | h_14
  · have hd := hd.2.2.2.2.1 h_14
    refine lv_tableIn (tgt := 91) K.1 K.2.1 dX7_count_1 (by rw [h_14]; decide) (by rw [h_14]; decide) (off := 90) (by rw [h_14]; rfl) (by decide) ?_
    refine lv_aload_n K.1 K.2.1 dX7_count_91 rfl (lv_at hl 0 rfl) ?_
    refine rc_get layX7 (ci := 7) rfl 5 (by decide) (v := .ref (ad 8)) K hw (wc_O cy nt ad _) kf_X7_32 rfl dX7_count_92 ?_
    refine rc_get layX5 (ci := 5) rfl 1 (by decide) (v := .int (g0 8 1)) K hw (wc_Tp cy nt ad _) kf_X7_74 rfl dX7_count_95 ?_
    exact rk_iret K hw hr hd dX7_count_98
  rcases Classical.em (x1 = (5 : Int32)) with h_15 | h_15
  · have hd := hd.2.2.2.2.2.1 h_15
    refine lv_tableIn (tgt := 99) K.1 K.2.1 dX7_count_1 (by rw [h_15]; decide) (by rw [h_15]; decide) (off := 98) (by rw [h_15]; rfl) (by decide) ?_
    refine lv_aload_n K.1 K.2.1 dX7_count_99 rfl (lv_at hl 0 rfl) ?_
    refine rc_get layX7 (ci := 7) rfl 0 (by decide) (v := .ref (ad 1)) K hw (wc_O cy nt ad _) kf_X7_10 rfl dX7_count_100 ?_
    refine rc_get layX0 (ci := 0) rfl 1 (by decide) (v := .int (g0 1 1)) K hw (wc_B cy nt ad _ ⟨by decide, by decide⟩) kf_X7_133 rfl dX7_count_103 ?_
    exact rk_iret K hw hr hd dX7_count_106
  have hd := hd.2.2.2.2.2.2 h_2 h_3 h_8 h_13 h_14 h_15
  have qh_2 := lv_neT (k := (0 : Int32)) (a := 0) h_2 (by decide)
  have qh_3 := lv_neT (k := (1 : Int32)) (a := 1) h_3 (by decide)
  have qh_8 := lv_neT (k := (2 : Int32)) (a := 2) h_8 (by decide)
  have qh_13 := lv_neT (k := (3 : Int32)) (a := 3) h_13 (by decide)
  have qh_14 := lv_neT (k := (4 : Int32)) (a := 4) h_14 (by decide)
  have qh_15 := lv_neT (k := (5 : Int32)) (a := 5) h_15 (by decide)
  refine lv_tableOut (tgt := 107) K.1 K.2.1 dX7_count_1 (by omega) (by decide) ?_
  refine lv_bipush (v := (-2 : Int32)) K.1 K.2.1 dX7_count_107 (by decide) ?_
  exact rk_iret K hw hr hd dX7_count_109
theorem dX7_sheet_0 : decode cX7_sheet 0 = .ok (.iload_n 1, 1) := by decide +kernel
theorem dX7_sheet_1 : decode cX7_sheet 1 = .ok (.invokestatic 244, 3) := by decide +kernel
theorem dX7_sheet_4 : decode cX7_sheet 4 = .ok (.ifCond .eq 13, 3) := by decide +kernel
theorem dX7_sheet_7 : decode cX7_sheet 7 = .ok (.iload_n 2, 1) := by decide +kernel
theorem dX7_sheet_8 : decode cX7_sheet 8 = .ok (.iconst (-1), 1) := by decide +kernel
theorem dX7_sheet_9 : decode cX7_sheet 9 = .ok (.if_icmp .lt 8, 3) := by decide +kernel
theorem dX7_sheet_12 : decode cX7_sheet 12 = .ok (.iload_n 2, 1) := by decide +kernel
theorem dX7_sheet_13 : decode cX7_sheet 13 = .ok (.iconst 2, 1) := by decide +kernel
theorem dX7_sheet_14 : decode cX7_sheet 14 = .ok (.if_icmp .le 6, 3) := by decide +kernel
theorem dX7_sheet_17 : decode cX7_sheet 17 = .ok (.bipush (-2), 2) := by decide +kernel
theorem dX7_sheet_19 : decode cX7_sheet 19 = .ok (.ireturn, 1) := by decide +kernel
theorem dX7_sheet_20 : decode cX7_sheet 20 = .ok (.iload_n 2, 1) := by decide +kernel
theorem dX7_sheet_21 : decode cX7_sheet 21 = .ok (.iconst (-1), 1) := by decide +kernel
theorem dX7_sheet_22 : decode cX7_sheet 22 = .ok (.if_icmp .ne 16, 3) := by decide +kernel
theorem dX7_sheet_25 : decode cX7_sheet 25 = .ok (.aload_n 0, 1) := by decide +kernel
theorem dX7_sheet_26 : decode cX7_sheet 26 = .ok (.getfield 53, 3) := by decide +kernel
theorem dX7_sheet_29 : decode cX7_sheet 29 = .ok (.iload_n 1, 1) := by decide +kernel
theorem dX7_sheet_30 : decode cX7_sheet 30 = .ok (.aaload, 1) := by decide +kernel
theorem dX7_sheet_31 : decode cX7_sheet 31 = .ok (.iconst (-1), 1) := by decide +kernel
theorem dX7_sheet_32 : decode cX7_sheet 32 = .ok (.iconst 0, 1) := by decide +kernel
theorem dX7_sheet_33 : decode cX7_sheet 33 = .ok (.invokevirtual 271, 3) := by decide +kernel
theorem dX7_sheet_36 : decode cX7_sheet 36 = .ok (.iconst 1, 1) := by decide +kernel
theorem dX7_sheet_37 : decode cX7_sheet 37 = .ok (.ireturn, 1) := by decide +kernel
theorem dX7_sheet_38 : decode cX7_sheet 38 = .ok (.iload_n 3, 1) := by decide +kernel
theorem dX7_sheet_39 : decode cX7_sheet 39 = .ok (.bipush 40, 2) := by decide +kernel
theorem dX7_sheet_41 : decode cX7_sheet 41 = .ok (.if_icmp .le 6, 3) := by decide +kernel
theorem dX7_sheet_44 : decode cX7_sheet 44 = .ok (.bipush (-2), 2) := by decide +kernel
theorem dX7_sheet_46 : decode cX7_sheet 46 = .ok (.ireturn, 1) := by decide +kernel
theorem dX7_sheet_47 : decode cX7_sheet 47 = .ok (.iload_n 3, 1) := by decide +kernel
theorem dX7_sheet_48 : decode cX7_sheet 48 = .ok (.ifCond .ge 6, 3) := by decide +kernel
theorem dX7_sheet_51 : decode cX7_sheet 51 = .ok (.bipush (-14), 2) := by decide +kernel
theorem dX7_sheet_53 : decode cX7_sheet 53 = .ok (.ireturn, 1) := by decide +kernel
theorem dX7_sheet_54 : decode cX7_sheet 54 = .ok (.aload_n 0, 1) := by decide +kernel
theorem dX7_sheet_55 : decode cX7_sheet 55 = .ok (.getfield 53, 3) := by decide +kernel
theorem dX7_sheet_58 : decode cX7_sheet 58 = .ok (.iload_n 1, 1) := by decide +kernel
theorem dX7_sheet_59 : decode cX7_sheet 59 = .ok (.aaload, 1) := by decide +kernel
theorem dX7_sheet_60 : decode cX7_sheet 60 = .ok (.iload_n 2, 1) := by decide +kernel
theorem dX7_sheet_61 : decode cX7_sheet 61 = .ok (.iload_n 3, 1) := by decide +kernel
theorem dX7_sheet_62 : decode cX7_sheet 62 = .ok (.invokevirtual 271, 3) := by decide +kernel
theorem dX7_sheet_65 : decode cX7_sheet 65 = .ok (.iconst 1, 1) := by decide +kernel
theorem dX7_sheet_66 : decode cX7_sheet 66 = .ok (.ireturn, 1) := by decide +kernel
set_option maxHeartbeats 4000000 in
set_option maxRecDepth 100000 in
theorem cc_X7_sheet (l : Launch) (D : va_G) (cy : Nat → ClassId) (nt : Nat) (ad : Nat → Nat) (A : Nat → Prop) (X : Nat → Nat)  (g0 : Sg) (Q : Int32 → Sg → Prop) (x1 : Int32) (x2 : Int32) (x3 : Int32) (hd : vv_X7_sheet nt x1 x2 x3 g0 Q) : Met l yX7_sheet (Cond.code yX7_sheet cX7_sheet 4 (some .int) :: TT) (rmD 3) (va_Pc [.ref (ad 0), .int x1, .int x2, .int x3] (PreC (wsC cy nt ad) D cy A X g0)) (va_Qi Q (PostG (wsC cy nt ad) D A) A) 0 0 A := by
  unfold vv_X7_sheet at hd
  refine Met.ofW (cc := cX7_sheet) (maxL := 4) (ret := (some .int)) (by decide) rfl ?_
  intro p e s m args below meth c s₁ B hml hv
  obtain ⟨rfl, ⟨hP, hK0, hD⟩, KX⟩ := hv
  have K : Kx p s m _ meth c cX7_sheet 4 RX7 D cy := ⟨B.exec, B.bytes, hml, findClass_of_methodNamed B.named, fun w h => atoms_spec (ws := Cond.code yX7_sheet cX7_sheet 4 (some .int) :: TT) B.pre w (List.mem_cons_of_mem _ h), hK0, B.notSynchronized⟩
  have hw : Wd D A s.heap (wsC cy nt ad g0) s.heap [] := ⟨hP, hD, va_S.rf⟩
  have hr := B.returns
  have hl := lv_entry ([.ref (ad 0), .int x1, .int x2, .int x3]) (n := 4) (Nat.le_of_ble_eq_true rfl)
  rw [lg_entry_eq]
  generalize (lg_sl ([.ref (ad 0), .int x1, .int x2, .int x3]) ++ List.replicate (4 - (lg_sl ([.ref (ad 0), .int x1, .int x2, .int x3])).length) Slot.unset).toArray = ls at hl ⊢
  have hl : lv_has ls 4 [(0, .ref (ad 0)), (1, .int x1), (2, .int x2), (3, .int x3)] := hl
  refine lv_iload_n K.1 K.2.1 dX7_sheet_0 rfl (lv_at hl 1 rfl) ?_
  refine rkc_si (As := [.int x1]) (rest := []) K KX hw (cc_X7_isSheet l D cy nt ad A X g0 _ x1 hd) lk_X7_244 ⟨Nat.le_of_ble_eq_true rfl, Nat.le_of_ble_eq_true rfl⟩ ⟨Nat.zero_le _, Nat.zero_le _⟩ rfl hl.1 (Nat.le_of_ble_eq_true rfl) rfl dX7_sheet_1 (fun r_2 g_1 H locs hd hw => ?_)
  refine lv_if_eq (tgt := 17) K.1 K.2.1 dX7_sheet_4 (by decide) (fun h_3 => ?_) (fun h_3 => ?_)
  · have hd := hd.1 h_3
    refine lv_bipush (v := (-2 : Int32)) K.1 K.2.1 dX7_sheet_17 (by decide) ?_
    exact rk_iret K hw hr hd dX7_sheet_19
  · have hd := hd.2 h_3
    refine lv_iload_n K.1 K.2.1 dX7_sheet_7 rfl (lv_at hl 2 rfl) ?_
    refine lv_iconst (v := (-1 : Int32)) K.1 K.2.1 dX7_sheet_8 (by decide) ?_
    refine lv_icmp_lt (tgt := 17) K.1 K.2.1 dX7_sheet_9 (by decide) (fun h_4 => ?_) (fun h_4 => ?_)
    · have hd := hd.1 h_4
      refine lv_bipush (v := (-2 : Int32)) K.1 K.2.1 dX7_sheet_17 (by decide) ?_
      exact rk_iret K hw hr hd dX7_sheet_19
    · have hd := hd.2 h_4
      refine lv_iload_n K.1 K.2.1 dX7_sheet_12 rfl (lv_at hl 2 rfl) ?_
      refine lv_iconst (v := (2 : Int32)) K.1 K.2.1 dX7_sheet_13 (by decide) ?_
      refine lv_icmp_le (tgt := 20) K.1 K.2.1 dX7_sheet_14 (by decide) (fun h_5 => ?_) (fun h_5 => ?_)
      · have hd := hd.1 h_5
        refine lv_iload_n K.1 K.2.1 dX7_sheet_20 rfl (lv_at hl 2 rfl) ?_
        refine lv_iconst (v := (-1 : Int32)) K.1 K.2.1 dX7_sheet_21 (by decide) ?_
        refine lv_icmp_ne (tgt := 38) K.1 K.2.1 dX7_sheet_22 (by decide) (fun h_6 => ?_) (fun h_6 => ?_)
        · have hd := hd.1 h_6
          refine lv_iload_n K.1 K.2.1 dX7_sheet_38 rfl (lv_at hl 3 rfl) ?_
          refine lv_bipush (v := (40 : Int32)) K.1 K.2.1 dX7_sheet_39 (by decide) ?_
          refine lv_icmp_le (tgt := 47) K.1 K.2.1 dX7_sheet_41 (by decide) (fun h_7 => ?_) (fun h_7 => ?_)
          · have hd := hd.1 h_7
            refine lv_iload_n K.1 K.2.1 dX7_sheet_47 rfl (lv_at hl 3 rfl) ?_
            refine lv_if_ge (tgt := 54) K.1 K.2.1 dX7_sheet_48 (by decide) (fun h_8 => ?_) (fun h_8 => ?_)
            · have hd := hd.1 h_8
              refine lv_aload_n K.1 K.2.1 dX7_sheet_54 rfl (lv_at hl 0 rfl) ?_
              refine rc_get layX7 (ci := 7) rfl 9 (by decide) (v := .ref (ad 13)) K hw (wc_O cy nt ad _) kf_X7_53 rfl dX7_sheet_55 ?_
              refine lv_iload_n K.1 K.2.1 dX7_sheet_58 rfl (lv_at hl 1 rfl) ?_
              have hb_9 := hd.1
              have hd := hd.2
              refine rc_aald (t0 := 3) (b := ad (ss x1)) K hw (wc_13 cy nt ad _) rfl rfl hb_9 dX7_sheet_59 ?_
              refine lv_iload_n K.1 K.2.1 dX7_sheet_60 rfl (lv_at hl 2 rfl) ?_
              refine lv_iload_n K.1 K.2.1 dX7_sheet_61 rfl (lv_at hl 3 rfl) ?_
              refine rkc_vv (As := [.int x2, .int x3]) (rest := []) K KX hw (cc_X3_become l D cy nt ad A X g_1 _ (ss x1) x2 x3 hd) lk_X7_271 (ci := 3) rfl (wc_S cy nt ad _ (tS_S hb_9)) ⟨Nat.le_of_ble_eq_true rfl, Nat.le_of_ble_eq_true rfl⟩ ⟨Nat.zero_le _, Nat.zero_le _⟩ rfl hl.1 (Nat.le_of_ble_eq_true rfl) rfl dX7_sheet_62 (fun g_10 H locs hd hw => ?_)
              refine lv_iconst (v := (1 : Int32)) K.1 K.2.1 dX7_sheet_65 (by decide) ?_
              exact rk_iret K hw hr hd dX7_sheet_66
            · have hd := hd.2 h_8
              refine lv_bipush (v := (-14 : Int32)) K.1 K.2.1 dX7_sheet_51 (by decide) ?_
              exact rk_iret K hw hr hd dX7_sheet_53
          · have hd := hd.2 h_7
            refine lv_bipush (v := (-2 : Int32)) K.1 K.2.1 dX7_sheet_44 (by decide) ?_
            exact rk_iret K hw hr hd dX7_sheet_46
        · have hd := hd.2 h_6
          refine lv_aload_n K.1 K.2.1 dX7_sheet_25 rfl (lv_at hl 0 rfl) ?_
          refine rc_get layX7 (ci := 7) rfl 9 (by decide) (v := .ref (ad 13)) K hw (wc_O cy nt ad _) kf_X7_53 rfl dX7_sheet_26 ?_
          refine lv_iload_n K.1 K.2.1 dX7_sheet_29 rfl (lv_at hl 1 rfl) ?_
          have hb_12 := hd.1
          have hd := hd.2
          refine rc_aald (t0 := 3) (b := ad (ss x1)) K hw (wc_13 cy nt ad _) rfl rfl hb_12 dX7_sheet_30 ?_
          refine lv_iconst (v := (-1 : Int32)) K.1 K.2.1 dX7_sheet_31 (by decide) ?_
          refine lv_iconst (v := (0 : Int32)) K.1 K.2.1 dX7_sheet_32 (by decide) ?_
          refine rkc_vv (As := [.int (-1 : Int32), .int (0 : Int32)]) (rest := []) K KX hw (cc_X3_become l D cy nt ad A X g_1 _ (ss x1) (-1 : Int32) (0 : Int32) hd) lk_X7_271 (ci := 3) rfl (wc_S cy nt ad _ (tS_S hb_12)) ⟨Nat.le_of_ble_eq_true rfl, Nat.le_of_ble_eq_true rfl⟩ ⟨Nat.zero_le _, Nat.zero_le _⟩ rfl hl.1 (Nat.le_of_ble_eq_true rfl) rfl dX7_sheet_33 (fun g_13 H locs hd hw => ?_)
          refine lv_iconst (v := (1 : Int32)) K.1 K.2.1 dX7_sheet_36 (by decide) ?_
          exact rk_iret K hw hr hd dX7_sheet_37
      · have hd := hd.2 h_5
        refine lv_bipush (v := (-2 : Int32)) K.1 K.2.1 dX7_sheet_17 (by decide) ?_
        exact rk_iret K hw hr hd dX7_sheet_19
theorem dX7_cell_0 : decode cX7_cell 0 = .ok (.iload_n 1, 1) := by decide +kernel
theorem dX7_cell_1 : decode cX7_cell 1 = .ok (.invokestatic 244, 3) := by decide +kernel
theorem dX7_cell_4 : decode cX7_cell 4 = .ok (.ifCond .ne 6, 3) := by decide +kernel
theorem dX7_cell_7 : decode cX7_cell 7 = .ok (.bipush (-2), 2) := by decide +kernel
theorem dX7_cell_9 : decode cX7_cell 9 = .ok (.ireturn, 1) := by decide +kernel
theorem dX7_cell_10 : decode cX7_cell 10 = .ok (.aload_n 0, 1) := by decide +kernel
theorem dX7_cell_11 : decode cX7_cell 11 = .ok (.getfield 53, 3) := by decide +kernel
theorem dX7_cell_14 : decode cX7_cell 14 = .ok (.iload_n 1, 1) := by decide +kernel
theorem dX7_cell_15 : decode cX7_cell 15 = .ok (.aaload, 1) := by decide +kernel
theorem dX7_cell_16 : decode cX7_cell 16 = .ok (.astore 4, 2) := by decide +kernel
theorem dX7_cell_18 : decode cX7_cell 18 = .ok (.aload 4, 2) := by decide +kernel
theorem dX7_cell_20 : decode cX7_cell 20 = .ok (.getfield 247, 3) := by decide +kernel
theorem dX7_cell_23 : decode cX7_cell 23 = .ok (.iconst (-1), 1) := by decide +kernel
theorem dX7_cell_24 : decode cX7_cell 24 = .ok (.if_icmp .ne 6, 3) := by decide +kernel
theorem dX7_cell_27 : decode cX7_cell 27 = .ok (.bipush (-11), 2) := by decide +kernel
theorem dX7_cell_29 : decode cX7_cell 29 = .ok (.ireturn, 1) := by decide +kernel
theorem dX7_cell_30 : decode cX7_cell 30 = .ok (.iload_n 2, 1) := by decide +kernel
theorem dX7_cell_31 : decode cX7_cell 31 = .ok (.ifCond .lt 12, 3) := by decide +kernel
theorem dX7_cell_34 : decode cX7_cell 34 = .ok (.iload_n 2, 1) := by decide +kernel
theorem dX7_cell_35 : decode cX7_cell 35 = .ok (.aload 4, 2) := by decide +kernel
theorem dX7_cell_37 : decode cX7_cell 37 = .ok (.getfield 250, 3) := by decide +kernel
theorem dX7_cell_40 : decode cX7_cell 40 = .ok (.if_icmp .lt 6, 3) := by decide +kernel
theorem dX7_cell_43 : decode cX7_cell 43 = .ok (.bipush (-12), 2) := by decide +kernel
theorem dX7_cell_45 : decode cX7_cell 45 = .ok (.ireturn, 1) := by decide +kernel
theorem dX7_cell_46 : decode cX7_cell 46 = .ok (.aload 4, 2) := by decide +kernel
theorem dX7_cell_48 : decode cX7_cell 48 = .ok (.iload_n 2, 1) := by decide +kernel
theorem dX7_cell_49 : decode cX7_cell 49 = .ok (.iload_n 3, 1) := by decide +kernel
theorem dX7_cell_50 : decode cX7_cell 50 = .ok (.invokevirtual 276, 3) := by decide +kernel
theorem dX7_cell_53 : decode cX7_cell 53 = .ok (.iconst 1, 1) := by decide +kernel
theorem dX7_cell_54 : decode cX7_cell 54 = .ok (.ireturn, 1) := by decide +kernel
set_option maxHeartbeats 4000000 in
set_option maxRecDepth 100000 in
theorem cc_X7_cell (l : Launch) (D : va_G) (cy : Nat → ClassId) (nt : Nat) (ad : Nat → Nat) (A : Nat → Prop) (X : Nat → Nat)  (g0 : Sg) (Q : Int32 → Sg → Prop) (x1 : Int32) (x2 : Int32) (x3 : Int32) (hd : vv_X7_cell nt x1 x2 x3 g0 Q) : Met l yX7_cell (Cond.code yX7_cell cX7_cell 5 (some .int) :: TT) (rmD 2) (va_Pc [.ref (ad 0), .int x1, .int x2, .int x3] (PreC (wsC cy nt ad) D cy A X g0)) (va_Qi Q (PostG (wsC cy nt ad) D A) A) 0 0 A := by
  unfold vv_X7_cell at hd
  refine Met.ofW (cc := cX7_cell) (maxL := 5) (ret := (some .int)) (by decide) rfl ?_
  intro p e s m args below meth c s₁ B hml hv
  obtain ⟨rfl, ⟨hP, hK0, hD⟩, KX⟩ := hv
  have K : Kx p s m _ meth c cX7_cell 5 RX7 D cy := ⟨B.exec, B.bytes, hml, findClass_of_methodNamed B.named, fun w h => atoms_spec (ws := Cond.code yX7_cell cX7_cell 5 (some .int) :: TT) B.pre w (List.mem_cons_of_mem _ h), hK0, B.notSynchronized⟩
  have hw : Wd D A s.heap (wsC cy nt ad g0) s.heap [] := ⟨hP, hD, va_S.rf⟩
  have hr := B.returns
  have hl := lv_entry ([.ref (ad 0), .int x1, .int x2, .int x3]) (n := 5) (Nat.le_of_ble_eq_true rfl)
  rw [lg_entry_eq]
  generalize (lg_sl ([.ref (ad 0), .int x1, .int x2, .int x3]) ++ List.replicate (5 - (lg_sl ([.ref (ad 0), .int x1, .int x2, .int x3])).length) Slot.unset).toArray = ls at hl ⊢
  have hl : lv_has ls 5 [(0, .ref (ad 0)), (1, .int x1), (2, .int x2), (3, .int x3)] := hl
  refine lv_iload_n K.1 K.2.1 dX7_cell_0 rfl (lv_at hl 1 rfl) ?_
  refine rkc_si (As := [.int x1]) (rest := []) K KX hw (cc_X7_isSheet l D cy nt ad A X g0 _ x1 hd) lk_X7_244 ⟨Nat.le_of_ble_eq_true rfl, Nat.le_of_ble_eq_true rfl⟩ ⟨Nat.zero_le _, Nat.zero_le _⟩ rfl hl.1 (Nat.le_of_ble_eq_true rfl) rfl dX7_cell_1 (fun r_2 g_1 H locs hd hw => ?_)
  refine lv_if_ne (tgt := 10) K.1 K.2.1 dX7_cell_4 (by decide) (fun h_3 => ?_) (fun h_3 => ?_)
  · have hd := hd.1 h_3
    refine lv_aload_n K.1 K.2.1 dX7_cell_10 rfl (lv_at hl 0 rfl) ?_
    refine rc_get layX7 (ci := 7) rfl 9 (by decide) (v := .ref (ad 13)) K hw (wc_O cy nt ad _) kf_X7_53 rfl dX7_cell_11 ?_
    refine lv_iload_n K.1 K.2.1 dX7_cell_14 rfl (lv_at hl 1 rfl) ?_
    have hb_4 := hd.1
    have hd := hd.2
    refine rc_aald (t0 := 3) (b := ad (ss x1)) K hw (wc_13 cy nt ad _) rfl rfl hb_4 dX7_cell_15 ?_
    refine lv_astore (lv' := [(4, .ref (ad (ss x1))), (0, .ref (ad 0)), (1, .int x1), (2, .int x2), (3, .int x3)]) K.1 K.2.1 dX7_cell_16 hl (by decide) rfl (fun ls hl => ?_)
    refine lv_aload K.1 K.2.1 dX7_cell_18 (lv_at hl 0 rfl) ?_
    refine rc_get layX3 (ci := 3) rfl 0 (by decide) (v := .int (g_1 (ss x1) 0)) K hw (wc_S cy nt ad _ (tS_S hb_4)) kf_X7_247 rfl dX7_cell_20 ?_
    refine lv_iconst (v := (-1 : Int32)) K.1 K.2.1 dX7_cell_23 (by decide) ?_
    refine lv_icmp_ne (tgt := 30) K.1 K.2.1 dX7_cell_24 (by decide) (fun h_5 => ?_) (fun h_5 => ?_)
    · have hd := hd.1 h_5
      refine lv_iload_n K.1 K.2.1 dX7_cell_30 rfl (lv_at hl 3 rfl) ?_
      refine lv_if_lt (tgt := 43) K.1 K.2.1 dX7_cell_31 (by decide) (fun h_6 => ?_) (fun h_6 => ?_)
      · have hd := hd.1 h_6
        refine lv_bipush (v := (-12 : Int32)) K.1 K.2.1 dX7_cell_43 (by decide) ?_
        exact rk_iret K hw hr hd dX7_cell_45
      · have hd := hd.2 h_6
        refine lv_iload_n K.1 K.2.1 dX7_cell_34 rfl (lv_at hl 3 rfl) ?_
        refine lv_aload K.1 K.2.1 dX7_cell_35 (lv_at hl 0 rfl) ?_
        refine rc_get layX3 (ci := 3) rfl 1 (by decide) (v := .int (g_1 (ss x1) 1)) K hw (wc_S cy nt ad _ (tS_S hb_4)) kf_X7_250 rfl dX7_cell_37 ?_
        refine lv_icmp_lt (tgt := 46) K.1 K.2.1 dX7_cell_40 (by decide) (fun h_7 => ?_) (fun h_7 => ?_)
        · have hd := hd.1 h_7
          refine lv_aload K.1 K.2.1 dX7_cell_46 (lv_at hl 0 rfl) ?_
          refine lv_iload_n K.1 K.2.1 dX7_cell_48 rfl (lv_at hl 3 rfl) ?_
          refine lv_iload_n K.1 K.2.1 dX7_cell_49 rfl (lv_at hl 4 rfl) ?_
          refine rkc_vv (As := [.int x2, .int x3]) (rest := []) K KX hw (cc_X3_put l D cy nt ad A X g_1 _ (ss x1) x2 x3 hd) lk_X7_276 (ci := 3) rfl (wc_S cy nt ad _ (tS_S hb_4)) ⟨Nat.le_of_ble_eq_true rfl, Nat.le_of_ble_eq_true rfl⟩ ⟨Nat.zero_le _, Nat.zero_le _⟩ rfl hl.1 (Nat.le_of_ble_eq_true rfl) rfl dX7_cell_50 (fun g_8 H locs hd hw => ?_)
          refine lv_iconst (v := (1 : Int32)) K.1 K.2.1 dX7_cell_53 (by decide) ?_
          exact rk_iret K hw hr hd dX7_cell_54
        · have hd := hd.2 h_7
          refine lv_bipush (v := (-12 : Int32)) K.1 K.2.1 dX7_cell_43 (by decide) ?_
          exact rk_iret K hw hr hd dX7_cell_45
    · have hd := hd.2 h_5
      refine lv_bipush (v := (-11 : Int32)) K.1 K.2.1 dX7_cell_27 (by decide) ?_
      exact rk_iret K hw hr hd dX7_cell_29
  · have hd := hd.2 h_3
    refine lv_bipush (v := (-2 : Int32)) K.1 K.2.1 dX7_cell_7 (by decide) ?_
    exact rk_iret K hw hr hd dX7_cell_9
theorem dX7_copy_0 : decode cX7_copy 0 = .ok (.iload_n 1, 1) := by decide +kernel
theorem dX7_copy_1 : decode cX7_copy 1 = .ok (.invokestatic 244, 3) := by decide +kernel
theorem dX7_copy_4 : decode cX7_copy 4 = .ok (.ifCond .eq 10, 3) := by decide +kernel
theorem dX7_copy_7 : decode cX7_copy 7 = .ok (.iload_n 3, 1) := by decide +kernel
theorem dX7_copy_8 : decode cX7_copy 8 = .ok (.invokestatic 244, 3) := by decide +kernel
theorem dX7_copy_11 : decode cX7_copy 11 = .ok (.ifCond .ne 6, 3) := by decide +kernel
theorem dX7_copy_14 : decode cX7_copy 14 = .ok (.bipush (-2), 2) := by decide +kernel
theorem dX7_copy_16 : decode cX7_copy 16 = .ok (.ireturn, 1) := by decide +kernel
theorem dX7_copy_17 : decode cX7_copy 17 = .ok (.aload_n 0, 1) := by decide +kernel
theorem dX7_copy_18 : decode cX7_copy 18 = .ok (.getfield 53, 3) := by decide +kernel
theorem dX7_copy_21 : decode cX7_copy 21 = .ok (.iload_n 1, 1) := by decide +kernel
theorem dX7_copy_22 : decode cX7_copy 22 = .ok (.aaload, 1) := by decide +kernel
theorem dX7_copy_23 : decode cX7_copy 23 = .ok (.astore 6, 2) := by decide +kernel
theorem dX7_copy_25 : decode cX7_copy 25 = .ok (.aload_n 0, 1) := by decide +kernel
theorem dX7_copy_26 : decode cX7_copy 26 = .ok (.getfield 53, 3) := by decide +kernel
theorem dX7_copy_29 : decode cX7_copy 29 = .ok (.iload_n 3, 1) := by decide +kernel
theorem dX7_copy_30 : decode cX7_copy 30 = .ok (.aaload, 1) := by decide +kernel
theorem dX7_copy_31 : decode cX7_copy 31 = .ok (.astore 7, 2) := by decide +kernel
theorem dX7_copy_33 : decode cX7_copy 33 = .ok (.aload 6, 2) := by decide +kernel
theorem dX7_copy_35 : decode cX7_copy 35 = .ok (.getfield 247, 3) := by decide +kernel
theorem dX7_copy_38 : decode cX7_copy 38 = .ok (.iconst (-1), 1) := by decide +kernel
theorem dX7_copy_39 : decode cX7_copy 39 = .ok (.if_icmp .eq 12, 3) := by decide +kernel
theorem dX7_copy_42 : decode cX7_copy 42 = .ok (.aload 7, 2) := by decide +kernel
theorem dX7_copy_44 : decode cX7_copy 44 = .ok (.getfield 247, 3) := by decide +kernel
theorem dX7_copy_47 : decode cX7_copy 47 = .ok (.iconst (-1), 1) := by decide +kernel
theorem dX7_copy_48 : decode cX7_copy 48 = .ok (.if_icmp .ne 6, 3) := by decide +kernel
theorem dX7_copy_51 : decode cX7_copy 51 = .ok (.bipush (-11), 2) := by decide +kernel
theorem dX7_copy_53 : decode cX7_copy 53 = .ok (.ireturn, 1) := by decide +kernel
theorem dX7_copy_54 : decode cX7_copy 54 = .ok (.aload 6, 2) := by decide +kernel
theorem dX7_copy_56 : decode cX7_copy 56 = .ok (.getfield 247, 3) := by decide +kernel
theorem dX7_copy_59 : decode cX7_copy 59 = .ok (.aload 7, 2) := by decide +kernel
theorem dX7_copy_61 : decode cX7_copy 61 = .ok (.getfield 247, 3) := by decide +kernel
theorem dX7_copy_64 : decode cX7_copy 64 = .ok (.if_icmp .eq 6, 3) := by decide +kernel
theorem dX7_copy_67 : decode cX7_copy 67 = .ok (.bipush (-13), 2) := by decide +kernel
theorem dX7_copy_69 : decode cX7_copy 69 = .ok (.ireturn, 1) := by decide +kernel
theorem dX7_copy_70 : decode cX7_copy 70 = .ok (.aload 6, 2) := by decide +kernel
theorem dX7_copy_72 : decode cX7_copy 72 = .ok (.iload_n 2, 1) := by decide +kernel
theorem dX7_copy_73 : decode cX7_copy 73 = .ok (.iload 5, 2) := by decide +kernel
theorem dX7_copy_75 : decode cX7_copy 75 = .ok (.invokevirtual 288, 3) := by decide +kernel
theorem dX7_copy_78 : decode cX7_copy 78 = .ok (.ifCond .eq 15, 3) := by decide +kernel
theorem dX7_copy_81 : decode cX7_copy 81 = .ok (.aload 7, 2) := by decide +kernel
theorem dX7_copy_83 : decode cX7_copy 83 = .ok (.iload 4, 2) := by decide +kernel
theorem dX7_copy_85 : decode cX7_copy 85 = .ok (.iload 5, 2) := by decide +kernel
theorem dX7_copy_87 : decode cX7_copy 87 = .ok (.invokevirtual 288, 3) := by decide +kernel
theorem dX7_copy_90 : decode cX7_copy 90 = .ok (.ifCond .ne 6, 3) := by decide +kernel
theorem dX7_copy_93 : decode cX7_copy 93 = .ok (.bipush (-12), 2) := by decide +kernel
theorem dX7_copy_95 : decode cX7_copy 95 = .ok (.ireturn, 1) := by decide +kernel
theorem dX7_copy_96 : decode cX7_copy 96 = .ok (.aload 6, 2) := by decide +kernel
theorem dX7_copy_98 : decode cX7_copy 98 = .ok (.getfield 291, 3) := by decide +kernel
theorem dX7_copy_101 : decode cX7_copy 101 = .ok (.iload_n 2, 1) := by decide +kernel
theorem dX7_copy_102 : decode cX7_copy 102 = .ok (.aload 7, 2) := by decide +kernel
theorem dX7_copy_104 : decode cX7_copy 104 = .ok (.getfield 291, 3) := by decide +kernel
theorem dX7_copy_107 : decode cX7_copy 107 = .ok (.iload 4, 2) := by decide +kernel
theorem dX7_copy_109 : decode cX7_copy 109 = .ok (.iload 5, 2) := by decide +kernel
theorem dX7_copy_111 : decode cX7_copy 111 = .ok (.invokestatic 294, 3) := by decide +kernel
theorem dX7_copy_114 : decode cX7_copy 114 = .ok (.iload 5, 2) := by decide +kernel
theorem dX7_copy_116 : decode cX7_copy 116 = .ok (.ireturn, 1) := by decide +kernel
set_option maxHeartbeats 4000000 in
set_option maxRecDepth 100000 in
theorem cc_X7_copy (l : Launch) (D : va_G) (cy : Nat → ClassId) (nt : Nat) (ad : Nat → Nat) (A : Nat → Prop) (X : Nat → Nat)  (g0 : Sg) (Q : Int32 → Sg → Prop) (x1 : Int32) (x2 : Int32) (x3 : Int32) (x4 : Int32) (x5 : Int32) (hd : vv_X7_copy nt x1 x2 x3 x4 x5 g0 Q) : Met l yX7_copy (Cond.code yX7_copy cX7_copy 8 (some .int) :: TT) (rmD 2) (va_Pc [.ref (ad 0), .int x1, .int x2, .int x3, .int x4, .int x5] (PreC (wsC cy nt ad) D cy A X g0)) (va_Qi Q (PostG (wsC cy nt ad) D A) A) 0 0 A := by
  unfold vv_X7_copy at hd
  refine Met.ofW (cc := cX7_copy) (maxL := 8) (ret := (some .int)) (by decide) rfl ?_
  intro p e s m args below meth c s₁ B hml hv
  obtain ⟨rfl, ⟨hP, hK0, hD⟩, KX⟩ := hv
  have K : Kx p s m _ meth c cX7_copy 8 RX7 D cy := ⟨B.exec, B.bytes, hml, findClass_of_methodNamed B.named, fun w h => atoms_spec (ws := Cond.code yX7_copy cX7_copy 8 (some .int) :: TT) B.pre w (List.mem_cons_of_mem _ h), hK0, B.notSynchronized⟩
  have hw : Wd D A s.heap (wsC cy nt ad g0) s.heap [] := ⟨hP, hD, va_S.rf⟩
  have hr := B.returns
  have hl := lv_entry ([.ref (ad 0), .int x1, .int x2, .int x3, .int x4, .int x5]) (n := 8) (Nat.le_of_ble_eq_true rfl)
  rw [lg_entry_eq]
  generalize (lg_sl ([.ref (ad 0), .int x1, .int x2, .int x3, .int x4, .int x5]) ++ List.replicate (8 - (lg_sl ([.ref (ad 0), .int x1, .int x2, .int x3, .int x4, .int x5])).length) Slot.unset).toArray = ls at hl ⊢
  have hl : lv_has ls 8 [(0, .ref (ad 0)), (1, .int x1), (2, .int x2), (3, .int x3), (4, .int x4), (5, .int x5)] := hl
  refine lv_iload_n K.1 K.2.1 dX7_copy_0 rfl (lv_at hl 1 rfl) ?_
  refine rkc_si (As := [.int x1]) (rest := []) K KX hw (cc_X7_isSheet l D cy nt ad A X g0 _ x1 hd) lk_X7_244 ⟨Nat.le_of_ble_eq_true rfl, Nat.le_of_ble_eq_true rfl⟩ ⟨Nat.zero_le _, Nat.zero_le _⟩ rfl hl.1 (Nat.le_of_ble_eq_true rfl) rfl dX7_copy_1 (fun r_2 g_1 H locs hd hw => ?_)
  refine lv_if_eq (tgt := 14) K.1 K.2.1 dX7_copy_4 (by decide) (fun h_3 => ?_) (fun h_3 => ?_)
  · have hd := hd.1 h_3
    refine lv_bipush (v := (-2 : Int32)) K.1 K.2.1 dX7_copy_14 (by decide) ?_
    exact rk_iret K hw hr hd dX7_copy_16
  · have hd := hd.2 h_3
    refine lv_iload_n K.1 K.2.1 dX7_copy_7 rfl (lv_at hl 3 rfl) ?_
    refine rkc_si (As := [.int x3]) (rest := []) K KX hw (cc_X7_isSheet l D cy nt ad A X g_1 _ x3 hd) lk_X7_244 ⟨Nat.le_of_ble_eq_true rfl, Nat.le_of_ble_eq_true rfl⟩ ⟨Nat.zero_le _, Nat.zero_le _⟩ rfl hl.1 (Nat.le_of_ble_eq_true rfl) rfl dX7_copy_8 (fun r_5 g_4 H locs hd hw => ?_)
    refine lv_if_ne (tgt := 17) K.1 K.2.1 dX7_copy_11 (by decide) (fun h_6 => ?_) (fun h_6 => ?_)
    · have hd := hd.1 h_6
      refine lv_aload_n K.1 K.2.1 dX7_copy_17 rfl (lv_at hl 0 rfl) ?_
      refine rc_get layX7 (ci := 7) rfl 9 (by decide) (v := .ref (ad 13)) K hw (wc_O cy nt ad _) kf_X7_53 rfl dX7_copy_18 ?_
      refine lv_iload_n K.1 K.2.1 dX7_copy_21 rfl (lv_at hl 1 rfl) ?_
      have hb_7 := hd.1
      have hd := hd.2
      refine rc_aald (t0 := 3) (b := ad (ss x1)) K hw (wc_13 cy nt ad _) rfl rfl hb_7 dX7_copy_22 ?_
      refine lv_astore (lv' := [(6, .ref (ad (ss x1))), (0, .ref (ad 0)), (1, .int x1), (2, .int x2), (3, .int x3), (4, .int x4), (5, .int x5)]) K.1 K.2.1 dX7_copy_23 hl (by decide) rfl (fun ls hl => ?_)
      refine lv_aload_n K.1 K.2.1 dX7_copy_25 rfl (lv_at hl 1 rfl) ?_
      refine rc_get layX7 (ci := 7) rfl 9 (by decide) (v := .ref (ad 13)) K hw (wc_O cy nt ad _) kf_X7_53 rfl dX7_copy_26 ?_
      refine lv_iload_n K.1 K.2.1 dX7_copy_29 rfl (lv_at hl 4 rfl) ?_
      have hb_8 := hd.1
      have hd := hd.2
      refine rc_aald (t0 := 3) (b := ad (ss x3)) K hw (wc_13 cy nt ad _) rfl rfl hb_8 dX7_copy_30 ?_
      refine lv_astore (lv' := [(7, .ref (ad (ss x3))), (6, .ref (ad (ss x1))), (0, .ref (ad 0)), (1, .int x1), (2, .int x2), (3, .int x3), (4, .int x4), (5, .int x5)]) K.1 K.2.1 dX7_copy_31 hl (by decide) rfl (fun ls hl => ?_)
      refine lv_aload K.1 K.2.1 dX7_copy_33 (lv_at hl 1 rfl) ?_
      refine rc_get layX3 (ci := 3) rfl 0 (by decide) (v := .int (g_4 (ss x1) 0)) K hw (wc_S cy nt ad _ (tS_S hb_7)) kf_X7_247 rfl dX7_copy_35 ?_
      refine lv_iconst (v := (-1 : Int32)) K.1 K.2.1 dX7_copy_38 (by decide) ?_
      refine lv_icmp_eq (tgt := 51) K.1 K.2.1 dX7_copy_39 (by decide) (fun h_9 => ?_) (fun h_9 => ?_)
      · have hd := hd.1 h_9
        refine lv_bipush (v := (-11 : Int32)) K.1 K.2.1 dX7_copy_51 (by decide) ?_
        exact rk_iret K hw hr hd dX7_copy_53
      · have hd := hd.2 h_9
        refine lv_aload K.1 K.2.1 dX7_copy_42 (lv_at hl 0 rfl) ?_
        refine rc_get layX3 (ci := 3) rfl 0 (by decide) (v := .int (g_4 (ss x3) 0)) K hw (wc_S cy nt ad _ (tS_S hb_8)) kf_X7_247 rfl dX7_copy_44 ?_
        refine lv_iconst (v := (-1 : Int32)) K.1 K.2.1 dX7_copy_47 (by decide) ?_
        refine lv_icmp_ne (tgt := 54) K.1 K.2.1 dX7_copy_48 (by decide) (fun h_10 => ?_) (fun h_10 => ?_)
        · have hd := hd.1 h_10
          refine lv_aload K.1 K.2.1 dX7_copy_54 (lv_at hl 1 rfl) ?_
          refine rc_get layX3 (ci := 3) rfl 0 (by decide) (v := .int (g_4 (ss x1) 0)) K hw (wc_S cy nt ad _ (tS_S hb_7)) kf_X7_247 rfl dX7_copy_56 ?_
          refine lv_aload K.1 K.2.1 dX7_copy_59 (lv_at hl 0 rfl) ?_
          refine rc_get layX3 (ci := 3) rfl 0 (by decide) (v := .int (g_4 (ss x3) 0)) K hw (wc_S cy nt ad _ (tS_S hb_8)) kf_X7_247 rfl dX7_copy_61 ?_
          refine lv_icmp_eq (tgt := 70) K.1 K.2.1 dX7_copy_64 (by decide) (fun h_11 => ?_) (fun h_11 => ?_)
          · have hd := hd.1 h_11
            refine lv_aload K.1 K.2.1 dX7_copy_70 (lv_at hl 1 rfl) ?_
            refine lv_iload_n K.1 K.2.1 dX7_copy_72 rfl (lv_at hl 4 rfl) ?_
            refine lv_iload K.1 K.2.1 dX7_copy_73 (lv_at hl 7 rfl) ?_
            refine rkc_vi (As := [.int x2, .int x5]) (rest := []) K KX hw (cc_X3_holds l D cy nt ad A X g_4 _ (ss x1) x2 x5 hd) lk_X7_288 (ci := 3) rfl (wc_S cy nt ad _ (tS_S hb_7)) ⟨Nat.le_of_ble_eq_true rfl, Nat.le_of_ble_eq_true rfl⟩ ⟨Nat.zero_le _, Nat.zero_le _⟩ rfl hl.1 (Nat.le_of_ble_eq_true rfl) rfl dX7_copy_75 (fun r_13 g_12 H locs hd hw => ?_)
            refine lv_if_eq (tgt := 93) K.1 K.2.1 dX7_copy_78 (by decide) (fun h_14 => ?_) (fun h_14 => ?_)
            · have hd := hd.1 h_14
              refine lv_bipush (v := (-12 : Int32)) K.1 K.2.1 dX7_copy_93 (by decide) ?_
              exact rk_iret K hw hr hd dX7_copy_95
            · have hd := hd.2 h_14
              refine lv_aload K.1 K.2.1 dX7_copy_81 (lv_at hl 0 rfl) ?_
              refine lv_iload K.1 K.2.1 dX7_copy_83 (lv_at hl 6 rfl) ?_
              refine lv_iload K.1 K.2.1 dX7_copy_85 (lv_at hl 7 rfl) ?_
              refine rkc_vi (As := [.int x4, .int x5]) (rest := []) K KX hw (cc_X3_holds l D cy nt ad A X g_12 _ (ss x3) x4 x5 hd) lk_X7_288 (ci := 3) rfl (wc_S cy nt ad _ (tS_S hb_8)) ⟨Nat.le_of_ble_eq_true rfl, Nat.le_of_ble_eq_true rfl⟩ ⟨Nat.zero_le _, Nat.zero_le _⟩ rfl hl.1 (Nat.le_of_ble_eq_true rfl) rfl dX7_copy_87 (fun r_16 g_15 H locs hd hw => ?_)
              refine lv_if_ne (tgt := 96) K.1 K.2.1 dX7_copy_90 (by decide) (fun h_17 => ?_) (fun h_17 => ?_)
              · have hd := hd.1 h_17
                refine lv_aload K.1 K.2.1 dX7_copy_96 (lv_at hl 1 rfl) ?_
                refine rc_get layX3 (ci := 3) rfl 2 (by decide) (v := .ref (ad ((ss x1) + 4))) K hw (wc_S cy nt ad _ (tS_S hb_7)) kf_X7_291 rfl dX7_copy_98 ?_
                refine lv_iload_n K.1 K.2.1 dX7_copy_101 rfl (lv_at hl 4 rfl) ?_
                refine lv_aload K.1 K.2.1 dX7_copy_102 (lv_at hl 0 rfl) ?_
                refine rc_get layX3 (ci := 3) rfl 2 (by decide) (v := .ref (ad ((ss x3) + 4))) K hw (wc_S cy nt ad _ (tS_S hb_8)) kf_X7_291 rfl dX7_copy_104 ?_
                refine lv_iload K.1 K.2.1 dX7_copy_107 (lv_at hl 6 rfl) ?_
                refine lv_iload K.1 K.2.1 dX7_copy_109 (lv_at hl 7 rfl) ?_
                have hb := hd.1
                have hd := hd.2
                refine rc_copy (rest := []) K hw (K.2.2.1.trans hl.1.symm) lk_copy (tS_I (tS_S hb_7)) (tS_I (tS_S hb_8)) hb (Nat.le_of_ble_eq_true rfl) (Nat.le_of_ble_eq_true rfl) dX7_copy_111 (fun g_18 eg_18 H locs hw => ?_)
                have hd := hd g_18 eg_18
                refine lv_iload K.1 K.2.1 dX7_copy_114 (lv_at hl 7 rfl) ?_
                exact rk_iret K hw hr hd dX7_copy_116
              · have hd := hd.2 h_17
                refine lv_bipush (v := (-12 : Int32)) K.1 K.2.1 dX7_copy_93 (by decide) ?_
                exact rk_iret K hw hr hd dX7_copy_95
          · have hd := hd.2 h_11
            refine lv_bipush (v := (-13 : Int32)) K.1 K.2.1 dX7_copy_67 (by decide) ?_
            exact rk_iret K hw hr hd dX7_copy_69
        · have hd := hd.2 h_10
          refine lv_bipush (v := (-11 : Int32)) K.1 K.2.1 dX7_copy_51 (by decide) ?_
          exact rk_iret K hw hr hd dX7_copy_53
    · have hd := hd.2 h_6
      refine lv_bipush (v := (-2 : Int32)) K.1 K.2.1 dX7_copy_14 (by decide) ?_
      exact rk_iret K hw hr hd dX7_copy_16
theorem dX7_papers_0 : decode cX7_papers 0 = .ok (.iload_n 1, 1) := by decide +kernel
theorem dX7_papers_1 : decode cX7_papers 1 = .ok (.invokestatic 244, 3) := by decide +kernel
theorem dX7_papers_4 : decode cX7_papers 4 = .ok (.ifCond .eq 24, 3) := by decide +kernel
theorem dX7_papers_7 : decode cX7_papers 7 = .ok (.iload_n 2, 1) := by decide +kernel
theorem dX7_papers_8 : decode cX7_papers 8 = .ok (.ifCond .lt 20, 3) := by decide +kernel
theorem dX7_papers_11 : decode cX7_papers 11 = .ok (.iload_n 2, 1) := by decide +kernel
theorem dX7_papers_12 : decode cX7_papers 12 = .ok (.iconst 2, 1) := by decide +kernel
theorem dX7_papers_13 : decode cX7_papers 13 = .ok (.if_icmp .gt 15, 3) := by decide +kernel
theorem dX7_papers_16 : decode cX7_papers 16 = .ok (.iload 4, 2) := by decide +kernel
theorem dX7_papers_18 : decode cX7_papers 18 = .ok (.ifCond .lt 10, 3) := by decide +kernel
theorem dX7_papers_21 : decode cX7_papers 21 = .ok (.iload 4, 2) := by decide +kernel
theorem dX7_papers_23 : decode cX7_papers 23 = .ok (.bipush 8, 2) := by decide +kernel
theorem dX7_papers_25 : decode cX7_papers 25 = .ok (.if_icmp .le 6, 3) := by decide +kernel
theorem dX7_papers_28 : decode cX7_papers 28 = .ok (.bipush (-2), 2) := by decide +kernel
theorem dX7_papers_30 : decode cX7_papers 30 = .ok (.ireturn, 1) := by decide +kernel
theorem dX7_papers_31 : decode cX7_papers 31 = .ok (.aload_n 0, 1) := by decide +kernel
theorem dX7_papers_32 : decode cX7_papers 32 = .ok (.getfield 53, 3) := by decide +kernel
theorem dX7_papers_35 : decode cX7_papers 35 = .ok (.iload_n 1, 1) := by decide +kernel
theorem dX7_papers_36 : decode cX7_papers 36 = .ok (.aaload, 1) := by decide +kernel
theorem dX7_papers_37 : decode cX7_papers 37 = .ok (.astore 5, 2) := by decide +kernel
theorem dX7_papers_39 : decode cX7_papers 39 = .ok (.aload 5, 2) := by decide +kernel
theorem dX7_papers_41 : decode cX7_papers 41 = .ok (.getfield 247, 3) := by decide +kernel
theorem dX7_papers_44 : decode cX7_papers 44 = .ok (.iconst (-1), 1) := by decide +kernel
theorem dX7_papers_45 : decode cX7_papers 45 = .ok (.if_icmp .ne 6, 3) := by decide +kernel
theorem dX7_papers_48 : decode cX7_papers 48 = .ok (.bipush (-11), 2) := by decide +kernel
theorem dX7_papers_50 : decode cX7_papers 50 = .ok (.ireturn, 1) := by decide +kernel
theorem dX7_papers_51 : decode cX7_papers 51 = .ok (.aload 5, 2) := by decide +kernel
theorem dX7_papers_53 : decode cX7_papers 53 = .ok (.getfield 247, 3) := by decide +kernel
theorem dX7_papers_56 : decode cX7_papers 56 = .ok (.iload_n 2, 1) := by decide +kernel
theorem dX7_papers_57 : decode cX7_papers 57 = .ok (.if_icmp .eq 6, 3) := by decide +kernel
theorem dX7_papers_60 : decode cX7_papers 60 = .ok (.bipush (-13), 2) := by decide +kernel
theorem dX7_papers_62 : decode cX7_papers 62 = .ok (.ireturn, 1) := by decide +kernel
theorem dX7_papers_63 : decode cX7_papers 63 = .ok (.iconst 0, 1) := by decide +kernel
theorem dX7_papers_64 : decode cX7_papers 64 = .ok (.istore 6, 2) := by decide +kernel
theorem dX7_papers_66 : decode cX7_papers 66 = .ok (.iload_n 3, 1) := by decide +kernel
theorem dX7_papers_67 : decode cX7_papers 67 = .ok (.istore 7, 2) := by decide +kernel
theorem dX7_papers_69 : decode cX7_papers 69 = .ok (.iconst 0, 1) := by decide +kernel
theorem dX7_papers_70 : decode cX7_papers 70 = .ok (.istore 8, 2) := by decide +kernel
theorem dX7_papers_72 : decode cX7_papers 72 = .ok (.iload 8, 2) := by decide +kernel
theorem dX7_papers_74 : decode cX7_papers 74 = .ok (.iload 4, 2) := by decide +kernel
theorem dX7_papers_76 : decode cX7_papers 76 = .ok (.if_icmp .ge 61, 3) := by decide +kernel
theorem dX7_papers_79 : decode cX7_papers 79 = .ok (.aload 5, 2) := by decide +kernel
theorem dX7_papers_81 : decode cX7_papers 81 = .ok (.iload 7, 2) := by decide +kernel
theorem dX7_papers_83 : decode cX7_papers 83 = .ok (.iconst 3, 1) := by decide +kernel
theorem dX7_papers_84 : decode cX7_papers 84 = .ok (.invokevirtual 288, 3) := by decide +kernel
theorem dX7_papers_87 : decode cX7_papers 87 = .ok (.ifCond .ne 6, 3) := by decide +kernel
theorem dX7_papers_90 : decode cX7_papers 90 = .ok (.bipush (-12), 2) := by decide +kernel
theorem dX7_papers_92 : decode cX7_papers 92 = .ok (.ireturn, 1) := by decide +kernel
theorem dX7_papers_93 : decode cX7_papers 93 = .ok (.aload_n 0, 1) := by decide +kernel
theorem dX7_papers_94 : decode cX7_papers 94 = .ok (.aload 5, 2) := by decide +kernel
theorem dX7_papers_96 : decode cX7_papers 96 = .ok (.iload 7, 2) := by decide +kernel
theorem dX7_papers_98 : decode cX7_papers 98 = .ok (.invokevirtual 300, 3) := by decide +kernel
theorem dX7_papers_101 : decode cX7_papers 101 = .ok (.aload 5, 2) := by decide +kernel
theorem dX7_papers_103 : decode cX7_papers 103 = .ok (.iload 7, 2) := by decide +kernel
theorem dX7_papers_105 : decode cX7_papers 105 = .ok (.iconst 1, 1) := by decide +kernel
theorem dX7_papers_106 : decode cX7_papers 106 = .ok (.iadd, 1) := by decide +kernel
theorem dX7_papers_107 : decode cX7_papers 107 = .ok (.invokevirtual 300, 3) := by decide +kernel
theorem dX7_papers_110 : decode cX7_papers 110 = .ok (.aload 5, 2) := by decide +kernel
theorem dX7_papers_112 : decode cX7_papers 112 = .ok (.iload 7, 2) := by decide +kernel
theorem dX7_papers_114 : decode cX7_papers 114 = .ok (.iconst 2, 1) := by decide +kernel
theorem dX7_papers_115 : decode cX7_papers 115 = .ok (.iadd, 1) := by decide +kernel
theorem dX7_papers_116 : decode cX7_papers 116 = .ok (.invokevirtual 300, 3) := by decide +kernel
theorem dX7_papers_119 : decode cX7_papers 119 = .ok (.invokevirtual 301, 3) := by decide +kernel
theorem dX7_papers_122 : decode cX7_papers 122 = .ok (.ifCond .lt 6, 3) := by decide +kernel
theorem dX7_papers_125 : decode cX7_papers 125 = .ok (.iinc 6 1, 3) := by decide +kernel
theorem dX7_papers_128 : decode cX7_papers 128 = .ok (.iinc 7 3, 3) := by decide +kernel
theorem dX7_papers_131 : decode cX7_papers 131 = .ok (.iinc 8 1, 3) := by decide +kernel
theorem dX7_papers_134 : decode cX7_papers 134 = .ok (.goto (-62), 3) := by decide +kernel
theorem dX7_papers_137 : decode cX7_papers 137 = .ok (.iload 6, 2) := by decide +kernel
theorem dX7_papers_139 : decode cX7_papers 139 = .ok (.ireturn, 1) := by decide +kernel
set_option maxHeartbeats 4000000 in
set_option maxRecDepth 100000 in
theorem bb_X7_papers_128 {p : Program} {l : Launch} {e : Env} {s : State} {m : MethodId} {args : Array Value} {below : List Frame} {meth : Method} {c : Code} {D : va_G} {cy : Nat → ClassId} {nt : Nat} {ad : Nat → Nat} {A : Nat → Prop} {X : Nat → Nat} {Q : Int32 → Sg → Prop} (K : Kx p s m args meth c cX7_papers 9 RX7 D cy) (KX : XC X A s s.heap) (hr : meth.sig.returnType = (some .int))  {rc72 : Int32 → Nat → Int32 → Int32 → Int32 → Sg → Prop} (hrc72 : ∀ (x4 : Int32) (x5 : Nat) (x6 : Int32) (x7 : Int32) (x8 : Int32) (u : Sg) (H : Heap) (locs : List Loc) (ls : Array Slot), isS x5 → rc72 x4 x5 x6 x7 x8 u → Wd D A s.heap (wsC cy nt ad u) H locs → lv_has ls 9 [(0, .ref (ad 0)), (4, .int x4), (5, .ref (ad x5)), (6, .int x6), (7, .int x7), (8, .int x8)] → W p l e (rmD 3) s m args below meth c H locs 0 0 (MQ below (va_Qi Q (PostG (wsC cy nt ad) D A) A) args s 0 0 A) (F0 m 72 ls [])) (x4 : Int32) (x5 : Nat) (x6 : Int32) (x7 : Int32) (x8 : Int32)  (g0 : Sg) (H : Heap) (locs : List Loc) (ls : Array Slot) (hq_x5 : isS x5) (hd : vv_X7_papers_J128 nt rc72 x4 x5 x6 x7 x8 g0 Q) (hw : Wd D A s.heap (wsC cy nt ad g0) H locs) (hl : lv_has ls 9 [(0, .ref (ad 0)), (4, .int x4), (5, .ref (ad x5)), (6, .int x6), (7, .int x7), (8, .int x8)]) : W p l e (rmD 3) s m args below meth c H locs 0 0 (MQ below (va_Qi Q (PostG (wsC cy nt ad) D A) A) args s 0 0 A) (F0 m 128 ls []) := by
  unfold vv_X7_papers_J128 at hd
  obtain ⟨x7_27, ex7_27⟩ : ∃ y : Int32, y = x7 + (3 : Int32) := ⟨_, rfl⟩
  have hd := hd x7_27 ex7_27
  refine lv_iinc (v := x7_27) (lv' := [(7, .int x7_27), (0, .ref (ad 0)), (4, .int x4), (5, .ref (ad x5)), (6, .int x6), (8, .int x8)]) K.1 K.2.1 dX7_papers_128 hl (k := 4) rfl (by rw [ex7_27]; rfl) (by decide) rfl (fun ls hl => ?_)
  obtain ⟨x8_28, ex8_28⟩ : ∃ y : Int32, y = x8 + (1 : Int32) := ⟨_, rfl⟩
  have hd := hd x8_28 ex8_28
  refine lv_iinc (v := x8_28) (lv' := [(8, .int x8_28), (7, .int x7_27), (0, .ref (ad 0)), (4, .int x4), (5, .ref (ad x5)), (6, .int x6)]) K.1 K.2.1 dX7_papers_131 hl (k := 5) rfl (by rw [ex8_28]; rfl) (by decide) rfl (fun ls hl => ?_)
  refine lv_goto (tgt := 72) K.1 K.2.1 dX7_papers_134 (by decide) ?_
  exact hrc72 x4 x5 x6 x7_27 x8_28 g0 _ _ _ hq_x5 hd hw (lv_sub hl [2, 3, 4, 5, 1, 0] rfl)
set_option maxHeartbeats 4000000 in
set_option maxRecDepth 100000 in
theorem bb_X7_papers_72 {p : Program} {l : Launch} {e : Env} {s : State} {m : MethodId} {args : Array Value} {below : List Frame} {meth : Method} {c : Code} {D : va_G} {cy : Nat → ClassId} {nt : Nat} {ad : Nat → Nat} {A : Nat → Prop} {X : Nat → Nat} {Q : Int32 → Sg → Prop} (K : Kx p s m args meth c cX7_papers 9 RX7 D cy) (KX : XC X A s s.heap) (hr : meth.sig.returnType = (some .int))  : ∀ (n : Nat) (x4 : Int32) (x5 : Nat) (x6 : Int32) (x7 : Int32) (x8 : Int32)  (g0 : Sg) (H : Heap) (locs : List Loc) (ls : Array Slot), isS x5 → vv_X7_papers_L72 nt Q n x4 x5 x6 x7 x8 g0 → Wd D A s.heap (wsC cy nt ad g0) H locs → lv_has ls 9 [(0, .ref (ad 0)), (4, .int x4), (5, .ref (ad x5)), (6, .int x6), (7, .int x7), (8, .int x8)] → W p l e (rmD 3) s m args below meth c H locs 0 0 (MQ below (va_Qi Q (PostG (wsC cy nt ad) D A) A) args s 0 0 A) (F0 m 72 ls []) := by
  intro n
  induction n with
  | zero => intro _ _ _ _ _ _ _ _ _ _ hd; exact hd.elim
  | succ n ih =>
    intro x4 x5 x6 x7 x8 g0 H locs ls hq_x5 hd hw hl
    unfold vv_X7_papers_L72 at hd
    refine lv_iload K.1 K.2.1 dX7_papers_72 (lv_at hl 5 rfl) ?_
    refine lv_iload K.1 K.2.1 dX7_papers_74 (lv_at hl 1 rfl) ?_
    refine lv_icmp_ge (tgt := 137) K.1 K.2.1 dX7_papers_76 (by decide) (fun h_14 => ?_) (fun h_14 => ?_)
    · have hd := hd.1 h_14
      refine lv_iload K.1 K.2.1 dX7_papers_137 (lv_at hl 3 rfl) ?_
      exact rk_iret K hw hr hd dX7_papers_139
    · have hd := hd.2 h_14
      refine lv_aload K.1 K.2.1 dX7_papers_79 (lv_at hl 2 rfl) ?_
      refine lv_iload K.1 K.2.1 dX7_papers_81 (lv_at hl 4 rfl) ?_
      refine lv_iconst (v := (3 : Int32)) K.1 K.2.1 dX7_papers_83 (by decide) ?_
      refine rkc_vi (As := [.int x7, .int (3 : Int32)]) (rest := []) K KX hw (cc_X3_holds l D cy nt ad A X g0 _ x5 x7 (3 : Int32) hd) lk_X7_288 (ci := 3) rfl (wc_S cy nt ad _ hq_x5) ⟨Nat.le_of_ble_eq_true rfl, Nat.le_of_ble_eq_true rfl⟩ ⟨Nat.zero_le _, Nat.zero_le _⟩ rfl hl.1 (Nat.le_of_ble_eq_true rfl) rfl dX7_papers_84 (fun r_16 g_15 H locs hd hw => ?_)
      refine lv_if_ne (tgt := 93) K.1 K.2.1 dX7_papers_87 (by decide) (fun h_17 => ?_) (fun h_17 => ?_)
      · have hd := hd.1 h_17
        refine lv_aload_n K.1 K.2.1 dX7_papers_93 rfl (lv_at hl 0 rfl) ?_
        refine lv_aload K.1 K.2.1 dX7_papers_94 (lv_at hl 2 rfl) ?_
        refine lv_iload K.1 K.2.1 dX7_papers_96 (lv_at hl 4 rfl) ?_
        refine rkc_vi (As := [.int x7]) (rest := [.ref (ad 0)]) K KX hw (cc_X3_get l D cy nt ad A X g_15 _ x5 x7 hd) lk_X7_300 (ci := 3) rfl (wc_S cy nt ad _ hq_x5) ⟨Nat.le_of_ble_eq_true rfl, Nat.le_of_ble_eq_true rfl⟩ ⟨Nat.zero_le _, Nat.zero_le _⟩ rfl hl.1 (Nat.le_of_ble_eq_true rfl) rfl dX7_papers_98 (fun r_19 g_18 H locs hd hw => ?_)
        refine lv_aload K.1 K.2.1 dX7_papers_101 (lv_at hl 2 rfl) ?_
        refine lv_iload K.1 K.2.1 dX7_papers_103 (lv_at hl 4 rfl) ?_
        refine lv_iconst (v := (1 : Int32)) K.1 K.2.1 dX7_papers_105 (by decide) ?_
        refine lv_iadd K.1 K.2.1 dX7_papers_106 ?_
        refine rkc_vi (As := [.int (x7 + (1 : Int32))]) (rest := [.int r_19, .ref (ad 0)]) K KX hw (cc_X3_get l D cy nt ad A X g_18 _ x5 (x7 + (1 : Int32)) hd) lk_X7_300 (ci := 3) rfl (wc_S cy nt ad _ hq_x5) ⟨Nat.le_of_ble_eq_true rfl, Nat.le_of_ble_eq_true rfl⟩ ⟨Nat.zero_le _, Nat.zero_le _⟩ rfl hl.1 (Nat.le_of_ble_eq_true rfl) rfl dX7_papers_107 (fun r_21 g_20 H locs hd hw => ?_)
        refine lv_aload K.1 K.2.1 dX7_papers_110 (lv_at hl 2 rfl) ?_
        refine lv_iload K.1 K.2.1 dX7_papers_112 (lv_at hl 4 rfl) ?_
        refine lv_iconst (v := (2 : Int32)) K.1 K.2.1 dX7_papers_114 (by decide) ?_
        refine lv_iadd K.1 K.2.1 dX7_papers_115 ?_
        refine rkc_vi (As := [.int (x7 + (2 : Int32))]) (rest := [.int r_21, .int r_19, .ref (ad 0)]) K KX hw (cc_X3_get l D cy nt ad A X g_20 _ x5 (x7 + (2 : Int32)) hd) lk_X7_300 (ci := 3) rfl (wc_S cy nt ad _ hq_x5) ⟨Nat.le_of_ble_eq_true rfl, Nat.le_of_ble_eq_true rfl⟩ ⟨Nat.zero_le _, Nat.zero_le _⟩ rfl hl.1 (Nat.le_of_ble_eq_true rfl) rfl dX7_papers_116 (fun r_23 g_22 H locs hd hw => ?_)
        refine rkc_vi (As := [.int r_19, .int r_21, .int r_23]) (rest := []) K KX hw (cc_X7_paper l D cy nt ad A X g_22 _ r_19 r_21 r_23 hd) lk_X7_301 (ci := 7) rfl (wc_O cy nt ad _) ⟨Nat.le_of_ble_eq_true rfl, Nat.le_of_ble_eq_true rfl⟩ ⟨Nat.zero_le _, Nat.zero_le _⟩ rfl hl.1 (Nat.le_of_ble_eq_true rfl) rfl dX7_papers_119 (fun r_25 g_24 H locs hd hw => ?_)
        refine lv_if_lt (tgt := 128) K.1 K.2.1 dX7_papers_122 (by decide) (fun h_26 => ?_) (fun h_26 => ?_)
        · have hd := hd.1 h_26
          exact bb_X7_papers_128 K KX hr  ih x4 x5 x6 x7 x8 g_24 _ _ _ hq_x5 hd hw (lv_sub hl [0, 1, 2, 3, 4, 5] rfl)
        · have hd := hd.2 h_26
          obtain ⟨x6_29, ex6_29⟩ : ∃ y : Int32, y = x6 + (1 : Int32) := ⟨_, rfl⟩
          have hd := hd x6_29 ex6_29
          refine lv_iinc (v := x6_29) (lv' := [(6, .int x6_29), (0, .ref (ad 0)), (4, .int x4), (5, .ref (ad x5)), (7, .int x7), (8, .int x8)]) K.1 K.2.1 dX7_papers_125 hl (k := 3) rfl (by rw [ex6_29]; rfl) (by decide) rfl (fun ls hl => ?_)
          exact bb_X7_papers_128 K KX hr  ih x4 x5 x6_29 x7 x8 g_24 _ _ _ hq_x5 hd hw (lv_sub hl [1, 2, 3, 0, 4, 5] rfl)
      · have hd := hd.2 h_17
        refine lv_bipush (v := (-12 : Int32)) K.1 K.2.1 dX7_papers_90 (by decide) ?_
        exact rk_iret K hw hr hd dX7_papers_92
set_option maxHeartbeats 4000000 in
set_option maxRecDepth 100000 in
theorem cc_X7_papers (l : Launch) (D : va_G) (cy : Nat → ClassId) (nt : Nat) (ad : Nat → Nat) (A : Nat → Prop) (X : Nat → Nat)  (g0 : Sg) (Q : Int32 → Sg → Prop) (x1 : Int32) (x2 : Int32) (x3 : Int32) (x4 : Int32) (hd : vv_X7_papers nt x1 x2 x3 x4 g0 Q) : Met l yX7_papers (Cond.code yX7_papers cX7_papers 9 (some .int) :: TT) (rmD 3) (va_Pc [.ref (ad 0), .int x1, .int x2, .int x3, .int x4] (PreC (wsC cy nt ad) D cy A X g0)) (va_Qi Q (PostG (wsC cy nt ad) D A) A) 0 0 A := by
  unfold vv_X7_papers at hd
  refine Met.ofW (cc := cX7_papers) (maxL := 9) (ret := (some .int)) (by decide) rfl ?_
  intro p e s m args below meth c s₁ B hml hv
  obtain ⟨rfl, ⟨hP, hK0, hD⟩, KX⟩ := hv
  have K : Kx p s m _ meth c cX7_papers 9 RX7 D cy := ⟨B.exec, B.bytes, hml, findClass_of_methodNamed B.named, fun w h => atoms_spec (ws := Cond.code yX7_papers cX7_papers 9 (some .int) :: TT) B.pre w (List.mem_cons_of_mem _ h), hK0, B.notSynchronized⟩
  have hw : Wd D A s.heap (wsC cy nt ad g0) s.heap [] := ⟨hP, hD, va_S.rf⟩
  have hr := B.returns
  have hl := lv_entry ([.ref (ad 0), .int x1, .int x2, .int x3, .int x4]) (n := 9) (Nat.le_of_ble_eq_true rfl)
  rw [lg_entry_eq]
  generalize (lg_sl ([.ref (ad 0), .int x1, .int x2, .int x3, .int x4]) ++ List.replicate (9 - (lg_sl ([.ref (ad 0), .int x1, .int x2, .int x3, .int x4])).length) Slot.unset).toArray = ls at hl ⊢
  have hl : lv_has ls 9 [(0, .ref (ad 0)), (1, .int x1), (2, .int x2), (3, .int x3), (4, .int x4)] := hl
  refine lv_iload_n K.1 K.2.1 dX7_papers_0 rfl (lv_at hl 1 rfl) ?_
  refine rkc_si (As := [.int x1]) (rest := []) K KX hw (cc_X7_isSheet l D cy nt ad A X g0 _ x1 hd) lk_X7_244 ⟨Nat.le_of_ble_eq_true rfl, Nat.le_of_ble_eq_true rfl⟩ ⟨Nat.zero_le _, Nat.zero_le _⟩ rfl hl.1 (Nat.le_of_ble_eq_true rfl) rfl dX7_papers_1 (fun r_2 g_1 H locs hd hw => ?_)
  refine lv_if_eq (tgt := 28) K.1 K.2.1 dX7_papers_4 (by decide) (fun h_3 => ?_) (fun h_3 => ?_)
  · have hd := hd.1 h_3
    refine lv_bipush (v := (-2 : Int32)) K.1 K.2.1 dX7_papers_28 (by decide) ?_
    exact rk_iret K hw hr hd dX7_papers_30
  · have hd := hd.2 h_3
    refine lv_iload_n K.1 K.2.1 dX7_papers_7 rfl (lv_at hl 2 rfl) ?_
    refine lv_if_lt (tgt := 28) K.1 K.2.1 dX7_papers_8 (by decide) (fun h_4 => ?_) (fun h_4 => ?_)
    · have hd := hd.1 h_4
      refine lv_bipush (v := (-2 : Int32)) K.1 K.2.1 dX7_papers_28 (by decide) ?_
      exact rk_iret K hw hr hd dX7_papers_30
    · have hd := hd.2 h_4
      refine lv_iload_n K.1 K.2.1 dX7_papers_11 rfl (lv_at hl 2 rfl) ?_
      refine lv_iconst (v := (2 : Int32)) K.1 K.2.1 dX7_papers_12 (by decide) ?_
      refine lv_icmp_gt (tgt := 28) K.1 K.2.1 dX7_papers_13 (by decide) (fun h_5 => ?_) (fun h_5 => ?_)
      · have hd := hd.1 h_5
        refine lv_bipush (v := (-2 : Int32)) K.1 K.2.1 dX7_papers_28 (by decide) ?_
        exact rk_iret K hw hr hd dX7_papers_30
      · have hd := hd.2 h_5
        refine lv_iload K.1 K.2.1 dX7_papers_16 (lv_at hl 4 rfl) ?_
        refine lv_if_lt (tgt := 28) K.1 K.2.1 dX7_papers_18 (by decide) (fun h_6 => ?_) (fun h_6 => ?_)
        · have hd := hd.1 h_6
          refine lv_bipush (v := (-2 : Int32)) K.1 K.2.1 dX7_papers_28 (by decide) ?_
          exact rk_iret K hw hr hd dX7_papers_30
        · have hd := hd.2 h_6
          refine lv_iload K.1 K.2.1 dX7_papers_21 (lv_at hl 4 rfl) ?_
          refine lv_bipush (v := (8 : Int32)) K.1 K.2.1 dX7_papers_23 (by decide) ?_
          refine lv_icmp_le (tgt := 31) K.1 K.2.1 dX7_papers_25 (by decide) (fun h_7 => ?_) (fun h_7 => ?_)
          · have hd := hd.1 h_7
            refine lv_aload_n K.1 K.2.1 dX7_papers_31 rfl (lv_at hl 0 rfl) ?_
            refine rc_get layX7 (ci := 7) rfl 9 (by decide) (v := .ref (ad 13)) K hw (wc_O cy nt ad _) kf_X7_53 rfl dX7_papers_32 ?_
            refine lv_iload_n K.1 K.2.1 dX7_papers_35 rfl (lv_at hl 1 rfl) ?_
            have hb_8 := hd.1
            have hd := hd.2
            refine rc_aald (t0 := 3) (b := ad (ss x1)) K hw (wc_13 cy nt ad _) rfl rfl hb_8 dX7_papers_36 ?_
            refine lv_astore (lv' := [(5, .ref (ad (ss x1))), (0, .ref (ad 0)), (1, .int x1), (2, .int x2), (3, .int x3), (4, .int x4)]) K.1 K.2.1 dX7_papers_37 hl (by decide) rfl (fun ls hl => ?_)
            refine lv_aload K.1 K.2.1 dX7_papers_39 (lv_at hl 0 rfl) ?_
            refine rc_get layX3 (ci := 3) rfl 0 (by decide) (v := .int (g_1 (ss x1) 0)) K hw (wc_S cy nt ad _ (tS_S hb_8)) kf_X7_247 rfl dX7_papers_41 ?_
            refine lv_iconst (v := (-1 : Int32)) K.1 K.2.1 dX7_papers_44 (by decide) ?_
            refine lv_icmp_ne (tgt := 51) K.1 K.2.1 dX7_papers_45 (by decide) (fun h_9 => ?_) (fun h_9 => ?_)
            · have hd := hd.1 h_9
              refine lv_aload K.1 K.2.1 dX7_papers_51 (lv_at hl 0 rfl) ?_
              refine rc_get layX3 (ci := 3) rfl 0 (by decide) (v := .int (g_1 (ss x1) 0)) K hw (wc_S cy nt ad _ (tS_S hb_8)) kf_X7_247 rfl dX7_papers_53 ?_
              refine lv_iload_n K.1 K.2.1 dX7_papers_56 rfl (lv_at hl 3 rfl) ?_
              refine lv_icmp_eq (tgt := 63) K.1 K.2.1 dX7_papers_57 (by decide) (fun h_10 => ?_) (fun h_10 => ?_)
              · have hd := hd.1 h_10
                refine lv_iconst (v := (0 : Int32)) K.1 K.2.1 dX7_papers_63 (by decide) ?_
                refine lv_topi (fun x6_11 ex6_11 => ?_)
                have hd := hd x6_11 ex6_11
                refine lv_istore (lv' := [(6, .int x6_11), (5, .ref (ad (ss x1))), (0, .ref (ad 0)), (1, .int x1), (2, .int x2), (3, .int x3), (4, .int x4)]) K.1 K.2.1 dX7_papers_64 hl (by decide) rfl (fun ls hl => ?_)
                refine lv_iload_n K.1 K.2.1 dX7_papers_66 rfl (lv_at hl 5 rfl) ?_
                refine lv_topi (fun x7_12 ex7_12 => ?_)
                have hd := hd x7_12 ex7_12
                refine lv_istore (lv' := [(7, .int x7_12), (6, .int x6_11), (5, .ref (ad (ss x1))), (0, .ref (ad 0)), (1, .int x1), (2, .int x2), (3, .int x3), (4, .int x4)]) K.1 K.2.1 dX7_papers_67 hl (by decide) rfl (fun ls hl => ?_)
                refine lv_iconst (v := (0 : Int32)) K.1 K.2.1 dX7_papers_69 (by decide) ?_
                refine lv_topi (fun x8_13 ex8_13 => ?_)
                have hd := hd x8_13 ex8_13
                refine lv_istore (lv' := [(8, .int x8_13), (7, .int x7_12), (6, .int x6_11), (5, .ref (ad (ss x1))), (0, .ref (ad 0)), (1, .int x1), (2, .int x2), (3, .int x3), (4, .int x4)]) K.1 K.2.1 dX7_papers_70 hl (by decide) rfl (fun ls hl => ?_)
                obtain ⟨n9, hd⟩ := hd
                exact bb_X7_papers_72 K KX hr   n9 x4 (ss x1) x6_11 x7_12 x8_13 g_1 _ _ _ (tS_S hb_8) hd hw (lv_sub hl [4, 8, 3, 2, 1, 0] rfl)
              · have hd := hd.2 h_10
                refine lv_bipush (v := (-13 : Int32)) K.1 K.2.1 dX7_papers_60 (by decide) ?_
                exact rk_iret K hw hr hd dX7_papers_62
            · have hd := hd.2 h_9
              refine lv_bipush (v := (-11 : Int32)) K.1 K.2.1 dX7_papers_48 (by decide) ?_
              exact rk_iret K hw hr hd dX7_papers_50
          · have hd := hd.2 h_7
            refine lv_bipush (v := (-2 : Int32)) K.1 K.2.1 dX7_papers_28 (by decide) ?_
            exact rk_iret K hw hr hd dX7_papers_30
theorem dX7_isUnder_0 : decode cX7_isUnder 0 = .ok (.iload_n 0, 1) := by decide +kernel
theorem dX7_isUnder_1 : decode cX7_isUnder 1 = .ok (.istore_n 2, 1) := by decide +kernel
theorem dX7_isUnder_2 : decode cX7_isUnder 2 = .ok (.iconst 0, 1) := by decide +kernel
theorem dX7_isUnder_3 : decode cX7_isUnder 3 = .ok (.istore_n 3, 1) := by decide +kernel
theorem dX7_isUnder_4 : decode cX7_isUnder 4 = .ok (.iload_n 3, 1) := by decide +kernel
theorem dX7_isUnder_5 : decode cX7_isUnder 5 = .ok (.getstatic 313, 3) := by decide +kernel
theorem dX7_isUnder_8 : decode cX7_isUnder 8 = .ok (.arraylength, 1) := by decide +kernel
theorem dX7_isUnder_9 : decode cX7_isUnder 9 = .ok (.if_icmp .ge 34, 3) := by decide +kernel
theorem dX7_isUnder_12 : decode cX7_isUnder 12 = .ok (.iload_n 2, 1) := by decide +kernel
theorem dX7_isUnder_13 : decode cX7_isUnder 13 = .ok (.ifCond .lt 30, 3) := by decide +kernel
theorem dX7_isUnder_16 : decode cX7_isUnder 16 = .ok (.iload_n 2, 1) := by decide +kernel
theorem dX7_isUnder_17 : decode cX7_isUnder 17 = .ok (.getstatic 313, 3) := by decide +kernel
theorem dX7_isUnder_20 : decode cX7_isUnder 20 = .ok (.arraylength, 1) := by decide +kernel
theorem dX7_isUnder_21 : decode cX7_isUnder 21 = .ok (.if_icmp .ge 22, 3) := by decide +kernel
theorem dX7_isUnder_24 : decode cX7_isUnder 24 = .ok (.iload_n 2, 1) := by decide +kernel
theorem dX7_isUnder_25 : decode cX7_isUnder 25 = .ok (.iload_n 1, 1) := by decide +kernel
theorem dX7_isUnder_26 : decode cX7_isUnder 26 = .ok (.if_icmp .ne 5, 3) := by decide +kernel
theorem dX7_isUnder_29 : decode cX7_isUnder 29 = .ok (.iconst 1, 1) := by decide +kernel
theorem dX7_isUnder_30 : decode cX7_isUnder 30 = .ok (.ireturn, 1) := by decide +kernel
theorem dX7_isUnder_31 : decode cX7_isUnder 31 = .ok (.getstatic 313, 3) := by decide +kernel
theorem dX7_isUnder_34 : decode cX7_isUnder 34 = .ok (.iload_n 2, 1) := by decide +kernel
theorem dX7_isUnder_35 : decode cX7_isUnder 35 = .ok (.iaload, 1) := by decide +kernel
theorem dX7_isUnder_36 : decode cX7_isUnder 36 = .ok (.istore_n 2, 1) := by decide +kernel
theorem dX7_isUnder_37 : decode cX7_isUnder 37 = .ok (.iinc 3 1, 3) := by decide +kernel
theorem dX7_isUnder_40 : decode cX7_isUnder 40 = .ok (.goto (-36), 3) := by decide +kernel
theorem dX7_isUnder_43 : decode cX7_isUnder 43 = .ok (.iconst 0, 1) := by decide +kernel
theorem dX7_isUnder_44 : decode cX7_isUnder 44 = .ok (.ireturn, 1) := by decide +kernel
set_option maxHeartbeats 4000000 in
set_option maxRecDepth 100000 in
theorem bb_X7_isUnder_4 {p : Program} {l : Launch} {e : Env} {s : State} {m : MethodId} {args : Array Value} {below : List Frame} {meth : Method} {c : Code} {D : va_G} {cy : Nat → ClassId} {nt : Nat} {ad : Nat → Nat} {A : Nat → Prop} {X : Nat → Nat} {Q : Int32 → Sg → Prop} (K : Kx p s m args meth c cX7_isUnder 4 RX7 D cy) (KX : XC X A s s.heap) (hr : meth.sig.returnType = (some .boolean))  : ∀ (n : Nat) (x1 : Int32) (x2 : Int32) (x3 : Int32)  (g0 : Sg) (H : Heap) (locs : List Loc) (ls : Array Slot), vv_X7_isUnder_L4 nt Q n x1 x2 x3 g0 → Wd D A s.heap (wsC cy nt ad g0) H locs → lv_has ls 4 [(1, .int x1), (2, .int x2), (3, .int x3)] → W p l e (rmD 1) s m args below meth c H locs 0 0 (MQ below (va_Qi Q (PostG (wsC cy nt ad) D A) A) args s 0 0 A) (F0 m 4 ls []) := by
  intro n
  induction n with
  | zero => intro _ _ _ _ _ _ _ hd; exact hd.elim
  | succ n ih =>
    intro x1 x2 x3 g0 H locs ls  hd hw hl
    unfold vv_X7_isUnder_L4 at hd
    refine lv_iload_n K.1 K.2.1 dX7_isUnder_4 rfl (lv_at hl 2 rfl) ?_
    refine rc_gets KX.2.2.1 K hw ks_X7_313 dX7_isUnder_5 ?_
    refine rc_tlen (v := (6 : Int32)) KX.2.2.2.2.2.1 K hw rfl dX7_isUnder_8 ?_
    refine lv_icmp_ge (tgt := 43) K.1 K.2.1 dX7_isUnder_9 (by decide) (fun h_3 => ?_) (fun h_3 => ?_)
    · have hd := hd.1 h_3
      refine lv_iconst (v := (0 : Int32)) K.1 K.2.1 dX7_isUnder_43 (by decide) ?_
      exact rk_zret K hw hr (by decide) hd dX7_isUnder_44
    · have hd := hd.2 h_3
      refine lv_iload_n K.1 K.2.1 dX7_isUnder_12 rfl (lv_at hl 1 rfl) ?_
      refine lv_if_lt (tgt := 43) K.1 K.2.1 dX7_isUnder_13 (by decide) (fun h_4 => ?_) (fun h_4 => ?_)
      · have hd := hd.1 h_4
        refine lv_iconst (v := (0 : Int32)) K.1 K.2.1 dX7_isUnder_43 (by decide) ?_
        exact rk_zret K hw hr (by decide) hd dX7_isUnder_44
      · have hd := hd.2 h_4
        refine lv_iload_n K.1 K.2.1 dX7_isUnder_16 rfl (lv_at hl 1 rfl) ?_
        refine rc_gets KX.2.2.1 K hw ks_X7_313 dX7_isUnder_17 ?_
        refine rc_tlen (v := (6 : Int32)) KX.2.2.2.2.2.1 K hw rfl dX7_isUnder_20 ?_
        refine lv_icmp_ge (tgt := 43) K.1 K.2.1 dX7_isUnder_21 (by decide) (fun h_5 => ?_) (fun h_5 => ?_)
        · have hd := hd.1 h_5
          refine lv_iconst (v := (0 : Int32)) K.1 K.2.1 dX7_isUnder_43 (by decide) ?_
          exact rk_zret K hw hr (by decide) hd dX7_isUnder_44
        · have hd := hd.2 h_5
          refine lv_iload_n K.1 K.2.1 dX7_isUnder_24 rfl (lv_at hl 1 rfl) ?_
          refine lv_iload_n K.1 K.2.1 dX7_isUnder_25 rfl (lv_at hl 0 rfl) ?_
          refine lv_icmp_ne (tgt := 31) K.1 K.2.1 dX7_isUnder_26 (by decide) (fun h_6 => ?_) (fun h_6 => ?_)
          · have hd := hd.1 h_6
            refine rc_gets KX.2.2.1 K hw ks_X7_313 dX7_isUnder_31 ?_
            refine lv_iload_n K.1 K.2.1 dX7_isUnder_34 rfl (lv_at hl 1 rfl) ?_
            have hb := hd.1
            have hd := hd.2
            refine rc_ti (f := tA) KX.2.2.2.2.2.1 K hw hb dX7_isUnder_35 ?_
            refine lv_topi (fun x2_7 ex2_7 => ?_)
            have hd := hd x2_7 ex2_7
            refine lv_istore_n (lv' := [(2, .int x2_7), (1, .int x1), (3, .int x3)]) K.1 K.2.1 dX7_isUnder_36 rfl hl (by decide) rfl (fun ls hl => ?_)
            obtain ⟨x3_8, ex3_8⟩ : ∃ y : Int32, y = x3 + (1 : Int32) := ⟨_, rfl⟩
            have hd := hd x3_8 ex3_8
            refine lv_iinc (v := x3_8) (lv' := [(3, .int x3_8), (2, .int x2_7), (1, .int x1)]) K.1 K.2.1 dX7_isUnder_37 hl (k := 2) rfl (by rw [ex3_8]; rfl) (by decide) rfl (fun ls hl => ?_)
            refine lv_goto (tgt := 4) K.1 K.2.1 dX7_isUnder_40 (by decide) ?_
            exact ih x1 x2_7 x3_8 g0 _ _ _  hd hw (lv_sub hl [2, 1, 0] rfl)
          · have hd := hd.2 h_6
            refine lv_iconst (v := (1 : Int32)) K.1 K.2.1 dX7_isUnder_29 (by decide) ?_
            exact rk_zret K hw hr (by decide) hd dX7_isUnder_30
set_option maxHeartbeats 4000000 in
set_option maxRecDepth 100000 in
theorem cc_X7_isUnder (l : Launch) (D : va_G) (cy : Nat → ClassId) (nt : Nat) (ad : Nat → Nat) (A : Nat → Prop) (X : Nat → Nat)  (g0 : Sg) (Q : Int32 → Sg → Prop) (x0 : Int32) (x1 : Int32) (hd : vv_X7_isUnder nt x0 x1 g0 Q) : Met l yX7_isUnder (Cond.code yX7_isUnder cX7_isUnder 4 (some .boolean) :: TT) (rmD 1) (va_Pc [.int x0, .int x1] (PreC (wsC cy nt ad) D cy A X g0)) (va_Qi Q (PostG (wsC cy nt ad) D A) A) 0 0 A := by
  unfold vv_X7_isUnder at hd
  refine Met.ofW (cc := cX7_isUnder) (maxL := 4) (ret := (some .boolean)) (by decide) rfl ?_
  intro p e s m args below meth c s₁ B hml hv
  obtain ⟨rfl, ⟨hP, hK0, hD⟩, KX⟩ := hv
  have K : Kx p s m _ meth c cX7_isUnder 4 RX7 D cy := ⟨B.exec, B.bytes, hml, findClass_of_methodNamed B.named, fun w h => atoms_spec (ws := Cond.code yX7_isUnder cX7_isUnder 4 (some .boolean) :: TT) B.pre w (List.mem_cons_of_mem _ h), hK0, B.notSynchronized⟩
  have hw : Wd D A s.heap (wsC cy nt ad g0) s.heap [] := ⟨hP, hD, va_S.rf⟩
  have hr := B.returns
  have hl := lv_entry ([.int x0, .int x1]) (n := 4) (Nat.le_of_ble_eq_true rfl)
  rw [lg_entry_eq]
  generalize (lg_sl ([.int x0, .int x1]) ++ List.replicate (4 - (lg_sl ([.int x0, .int x1])).length) Slot.unset).toArray = ls at hl ⊢
  have hl : lv_has ls 4 [(0, .int x0), (1, .int x1)] := hl
  refine lv_iload_n K.1 K.2.1 dX7_isUnder_0 rfl (lv_at hl 0 rfl) ?_
  refine lv_topi (fun x2_1 ex2_1 => ?_)
  have hd := hd x2_1 ex2_1
  refine lv_istore_n (lv' := [(2, .int x2_1), (0, .int x0), (1, .int x1)]) K.1 K.2.1 dX7_isUnder_1 rfl hl (by decide) rfl (fun ls hl => ?_)
  refine lv_iconst (v := (0 : Int32)) K.1 K.2.1 dX7_isUnder_2 (by decide) ?_
  refine lv_topi (fun x3_2 ex3_2 => ?_)
  have hd := hd x3_2 ex3_2
  refine lv_istore_n (lv' := [(3, .int x3_2), (2, .int x2_1), (0, .int x0), (1, .int x1)]) K.1 K.2.1 dX7_isUnder_3 rfl hl (by decide) rfl (fun ls hl => ?_)
  obtain ⟨n9, hd⟩ := hd
  exact bb_X7_isUnder_4 K KX hr   n9 x1 x2_1 x3_2 g0 _ _ _  hd hw (lv_sub hl [3, 1, 0] rfl)
theorem dX7_taken_0 : decode cX7_taken 0 = .ok (.bipush 7, 2) := by decide +kernel
theorem dX7_taken_2 : decode cX7_taken 2 = .ok (.iload_n 2, 1) := by decide +kernel
theorem dX7_taken_3 : decode cX7_taken 3 = .ok (.invokestatic 113, 3) := by decide +kernel
theorem dX7_taken_6 : decode cX7_taken 6 = .ok (.ifCond .ne 6, 3) := by decide +kernel
theorem dX7_taken_9 : decode cX7_taken 9 = .ok (.bipush (-2), 2) := by decide +kernel
theorem dX7_taken_11 : decode cX7_taken 11 = .ok (.ireturn, 1) := by decide +kernel
theorem dX7_taken_12 : decode cX7_taken 12 = .ok (.aload_n 0, 1) := by decide +kernel
theorem dX7_taken_13 : decode cX7_taken 13 = .ok (.iload_n 1, 1) := by decide +kernel
theorem dX7_taken_14 : decode cX7_taken 14 = .ok (.invokevirtual 85, 3) := by decide +kernel
theorem dX7_taken_17 : decode cX7_taken 17 = .ok (.ifCond .ne 6, 3) := by decide +kernel
theorem dX7_taken_20 : decode cX7_taken 20 = .ok (.bipush (-11), 2) := by decide +kernel
theorem dX7_taken_22 : decode cX7_taken 22 = .ok (.ireturn, 1) := by decide +kernel
theorem dX7_taken_23 : decode cX7_taken 23 = .ok (.aload_n 0, 1) := by decide +kernel
theorem dX7_taken_24 : decode cX7_taken 24 = .ok (.getfield 10, 3) := by decide +kernel
theorem dX7_taken_27 : decode cX7_taken 27 = .ok (.getfield 106, 3) := by decide +kernel
theorem dX7_taken_30 : decode cX7_taken 30 = .ok (.iload_n 1, 1) := by decide +kernel
theorem dX7_taken_31 : decode cX7_taken 31 = .ok (.aaload, 1) := by decide +kernel
theorem dX7_taken_32 : decode cX7_taken 32 = .ok (.astore_n 3, 1) := by decide +kernel
theorem dX7_taken_33 : decode cX7_taken 33 = .ok (.aload_n 3, 1) := by decide +kernel
theorem dX7_taken_34 : decode cX7_taken 34 = .ok (.getfield 304, 3) := by decide +kernel
theorem dX7_taken_37 : decode cX7_taken 37 = .ok (.iload_n 2, 1) := by decide +kernel
theorem dX7_taken_38 : decode cX7_taken 38 = .ok (.invokestatic 307, 3) := by decide +kernel
theorem dX7_taken_41 : decode cX7_taken 41 = .ok (.ifCond .eq 10, 3) := by decide +kernel
theorem dX7_taken_44 : decode cX7_taken 44 = .ok (.aload_n 3, 1) := by decide +kernel
theorem dX7_taken_45 : decode cX7_taken 45 = .ok (.getfield 310, 3) := by decide +kernel
theorem dX7_taken_48 : decode cX7_taken 48 = .ok (.goto 5, 3) := by decide +kernel
theorem dX7_taken_51 : decode cX7_taken 51 = .ok (.bipush (-13), 2) := by decide +kernel
theorem dX7_taken_53 : decode cX7_taken 53 = .ok (.ireturn, 1) := by decide +kernel
set_option maxHeartbeats 4000000 in
set_option maxRecDepth 100000 in
theorem cc_X7_taken (l : Launch) (D : va_G) (cy : Nat → ClassId) (nt : Nat) (ad : Nat → Nat) (A : Nat → Prop) (X : Nat → Nat)  (g0 : Sg) (Q : Int32 → Sg → Prop) (x1 : Int32) (x2 : Int32) (hd : vv_X7_taken nt x1 x2 g0 Q) : Met l yX7_taken (Cond.code yX7_taken cX7_taken 4 (some .int) :: TT) (rmD 2) (va_Pc [.ref (ad 0), .int x1, .int x2] (PreC (wsC cy nt ad) D cy A X g0)) (va_Qi Q (PostG (wsC cy nt ad) D A) A) 0 0 A := by
  unfold vv_X7_taken at hd
  refine Met.ofW (cc := cX7_taken) (maxL := 4) (ret := (some .int)) (by decide) rfl ?_
  intro p e s m args below meth c s₁ B hml hv
  obtain ⟨rfl, ⟨hP, hK0, hD⟩, KX⟩ := hv
  have K : Kx p s m _ meth c cX7_taken 4 RX7 D cy := ⟨B.exec, B.bytes, hml, findClass_of_methodNamed B.named, fun w h => atoms_spec (ws := Cond.code yX7_taken cX7_taken 4 (some .int) :: TT) B.pre w (List.mem_cons_of_mem _ h), hK0, B.notSynchronized⟩
  have hw : Wd D A s.heap (wsC cy nt ad g0) s.heap [] := ⟨hP, hD, va_S.rf⟩
  have hr := B.returns
  have hl := lv_entry ([.ref (ad 0), .int x1, .int x2]) (n := 4) (Nat.le_of_ble_eq_true rfl)
  rw [lg_entry_eq]
  generalize (lg_sl ([.ref (ad 0), .int x1, .int x2]) ++ List.replicate (4 - (lg_sl ([.ref (ad 0), .int x1, .int x2])).length) Slot.unset).toArray = ls at hl ⊢
  have hl : lv_has ls 4 [(0, .ref (ad 0)), (1, .int x1), (2, .int x2)] := hl
  refine lv_bipush (v := (7 : Int32)) K.1 K.2.1 dX7_taken_0 (by decide) ?_
  refine lv_iload_n K.1 K.2.1 dX7_taken_2 rfl (lv_at hl 2 rfl) ?_
  refine rkc_si (As := [.int (7 : Int32), .int x2]) (rest := []) K KX hw (cc_X7_inRange l D cy nt ad A X g0 _ (7 : Int32) x2 hd) lk_X7_113 ⟨Nat.le_of_ble_eq_true rfl, Nat.le_of_ble_eq_true rfl⟩ ⟨Nat.zero_le _, Nat.zero_le _⟩ rfl hl.1 (Nat.le_of_ble_eq_true rfl) rfl dX7_taken_3 (fun r_2 g_1 H locs hd hw => ?_)
  refine lv_if_ne (tgt := 12) K.1 K.2.1 dX7_taken_6 (by decide) (fun h_3 => ?_) (fun h_3 => ?_)
  · have hd := hd.1 h_3
    refine lv_aload_n K.1 K.2.1 dX7_taken_12 rfl (lv_at hl 0 rfl) ?_
    refine lv_iload_n K.1 K.2.1 dX7_taken_13 rfl (lv_at hl 1 rfl) ?_
    refine rkc_vi (As := [.int x1]) (rest := []) K KX hw (cc_X7_isPaper l D cy nt ad A X g_1 _ x1 hd) lk_X7_85 (ci := 7) rfl (wc_O cy nt ad _) ⟨Nat.le_of_ble_eq_true rfl, Nat.le_of_ble_eq_true rfl⟩ ⟨Nat.zero_le _, Nat.zero_le _⟩ rfl hl.1 (Nat.le_of_ble_eq_true rfl) rfl dX7_taken_14 (fun r_5 g_4 H locs hd hw => ?_)
    refine lv_if_ne (tgt := 23) K.1 K.2.1 dX7_taken_17 (by decide) (fun h_6 => ?_) (fun h_6 => ?_)
    · have hd := hd.1 h_6
      refine lv_aload_n K.1 K.2.1 dX7_taken_23 rfl (lv_at hl 0 rfl) ?_
      refine rc_get layX7 (ci := 7) rfl 0 (by decide) (v := .ref (ad 1)) K hw (wc_O cy nt ad _) kf_X7_10 rfl dX7_taken_24 ?_
      refine rc_get layX0 (ci := 0) rfl 4 (by decide) (v := .ref (ad 4)) K hw (wc_B cy nt ad _ ⟨by decide, by decide⟩) kf_X7_106 rfl dX7_taken_27 ?_
      refine lv_iload_n K.1 K.2.1 dX7_taken_30 rfl (lv_at hl 1 rfl) ?_
      have hb_7 := hd.1
      have hd := hd.2
      refine rc_aald (t0 := 2) (b := ad (pp 4 x1)) K hw (wc_R cy nt ad _ ⟨by decide, by decide⟩) rfl rfl hb_7 dX7_taken_31 ?_
      refine lv_astore_n (lv' := [(3, .ref (ad (pp 4 x1))), (0, .ref (ad 0)), (1, .int x1), (2, .int x2)]) K.1 K.2.1 dX7_taken_32 rfl hl (by decide) rfl (fun ls hl => ?_)
      refine lv_aload_n K.1 K.2.1 dX7_taken_33 rfl (lv_at hl 0 rfl) ?_
      refine rc_get layX1 (ci := 1) rfl 0 (by decide) (v := .int (g_4 (pp 4 x1) 0)) K hw (wc_P cy nt ad _ (tR_P ⟨by decide, by decide⟩ hb_7)) kf_X7_304 rfl dX7_taken_34 ?_
      refine lv_iload_n K.1 K.2.1 dX7_taken_37 rfl (lv_at hl 3 rfl) ?_
      refine rkc_si (As := [.int (g_4 (pp 4 x1) 0), .int x2]) (rest := []) K KX hw (cc_X7_isUnder l D cy nt ad A X g_4 _ (g_4 (pp 4 x1) 0) x2 hd) lk_X7_307 ⟨Nat.le_of_ble_eq_true rfl, Nat.le_of_ble_eq_true rfl⟩ ⟨Nat.zero_le _, Nat.zero_le _⟩ rfl hl.1 (Nat.le_of_ble_eq_true rfl) rfl dX7_taken_38 (fun r_9 g_8 H locs hd hw => ?_)
      refine lv_if_eq (tgt := 51) K.1 K.2.1 dX7_taken_41 (by decide) (fun h_10 => ?_) (fun h_10 => ?_)
      · have hd := hd.1 h_10
        refine lv_bipush (v := (-13 : Int32)) K.1 K.2.1 dX7_taken_51 (by decide) ?_
        exact rk_iret K hw hr hd dX7_taken_53
      · have hd := hd.2 h_10
        refine lv_aload_n K.1 K.2.1 dX7_taken_44 rfl (lv_at hl 0 rfl) ?_
        refine rc_get layX1 (ci := 1) rfl 1 (by decide) (v := .int (g_8 (pp 4 x1) 1)) K hw (wc_P cy nt ad _ (tR_P ⟨by decide, by decide⟩ hb_7)) kf_X7_310 rfl dX7_taken_45 ?_
        refine lv_goto (tgt := 53) K.1 K.2.1 dX7_taken_48 (by decide) ?_
        exact rk_iret K hw hr hd dX7_taken_53
    · have hd := hd.2 h_6
      refine lv_bipush (v := (-11 : Int32)) K.1 K.2.1 dX7_taken_20 (by decide) ?_
      exact rk_iret K hw hr hd dX7_taken_22
  · have hd := hd.2 h_3
    refine lv_bipush (v := (-2 : Int32)) K.1 K.2.1 dX7_taken_9 (by decide) ?_
    exact rk_iret K hw hr hd dX7_taken_11
