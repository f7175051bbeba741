theorem dX8_weightOf_0 : decode cX8_weightOf 0 = .ok (.iconst 0, 1) := by decide +kernel
theorem dX8_weightOf_1 : decode cX8_weightOf 1 = .ok (.istore_n 2, 1) := by decide +kernel
theorem dX8_weightOf_2 : decode cX8_weightOf 2 = .ok (.iconst 0, 1) := by decide +kernel
theorem dX8_weightOf_3 : decode cX8_weightOf 3 = .ok (.istore_n 3, 1) := by decide +kernel
theorem dX8_weightOf_4 : decode cX8_weightOf 4 = .ok (.iload_n 3, 1) := by decide +kernel
theorem dX8_weightOf_5 : decode cX8_weightOf 5 = .ok (.aload_n 0, 1) := by decide +kernel
theorem dX8_weightOf_6 : decode cX8_weightOf 6 = .ok (.getfield 378, 3) := by decide +kernel
theorem dX8_weightOf_9 : decode cX8_weightOf 9 = .ok (.if_icmp .ge 31, 3) := by decide +kernel
theorem dX8_weightOf_12 : decode cX8_weightOf 12 = .ok (.iload_n 2, 1) := by decide +kernel
theorem dX8_weightOf_13 : decode cX8_weightOf 13 = .ok (.iload_n 1, 1) := by decide +kernel
theorem dX8_weightOf_14 : decode cX8_weightOf 14 = .ok (.iload_n 3, 1) := by decide +kernel
theorem dX8_weightOf_15 : decode cX8_weightOf 15 = .ok (.ishr, 1) := by decide +kernel
theorem dX8_weightOf_16 : decode cX8_weightOf 16 = .ok (.iconst 1, 1) := by decide +kernel
theorem dX8_weightOf_17 : decode cX8_weightOf 17 = .ok (.iand, 1) := by decide +kernel
theorem dX8_weightOf_18 : decode cX8_weightOf 18 = .ok (.iconst 1, 1) := by decide +kernel
theorem dX8_weightOf_19 : decode cX8_weightOf 19 = .ok (.if_icmp .ne 12, 3) := by decide +kernel
theorem dX8_weightOf_22 : decode cX8_weightOf 22 = .ok (.aload_n 0, 1) := by decide +kernel
theorem dX8_weightOf_23 : decode cX8_weightOf 23 = .ok (.getfield 35, 3) := by decide +kernel
theorem dX8_weightOf_26 : decode cX8_weightOf 26 = .ok (.iload_n 3, 1) := by decide +kernel
theorem dX8_weightOf_27 : decode cX8_weightOf 27 = .ok (.iaload, 1) := by decide +kernel
theorem dX8_weightOf_28 : decode cX8_weightOf 28 = .ok (.goto 4, 3) := by decide +kernel
theorem dX8_weightOf_31 : decode cX8_weightOf 31 = .ok (.iconst 0, 1) := by decide +kernel
theorem dX8_weightOf_32 : decode cX8_weightOf 32 = .ok (.iadd, 1) := by decide +kernel
theorem dX8_weightOf_33 : decode cX8_weightOf 33 = .ok (.istore_n 2, 1) := by decide +kernel
theorem dX8_weightOf_34 : decode cX8_weightOf 34 = .ok (.iinc 3 1, 3) := by decide +kernel
theorem dX8_weightOf_37 : decode cX8_weightOf 37 = .ok (.goto (-33), 3) := by decide +kernel
theorem dX8_weightOf_40 : decode cX8_weightOf 40 = .ok (.iload_n 2, 1) := by decide +kernel
theorem dX8_weightOf_41 : decode cX8_weightOf 41 = .ok (.ireturn, 1) := by decide +kernel
set_option maxHeartbeats 4000000 in
set_option maxRecDepth 100000 in
theorem bb_X8_weightOf_32 {p : Program} {l : Launch} {e : Env} {s : State} {m : MethodId} {args : Array Value} {below : List Frame} {meth : Method} {c : Code} {D : va_G} {cy : Nat → ClassId} {ad : Nat → Nat} {A : Nat → Prop} {Q : Int32 → Sg → Prop} (K : Kx p s m args meth c cX8_weightOf 4 RX8 D cy) (hr : meth.sig.returnType = (some .int)) {rc4 : Int32 → Int32 → Int32 → Sg → Prop} (hrc4 : ∀ (x1 : Int32) (x2 : Int32) (x3 : Int32) (u : Sg) (H : Heap) (locs : List Loc) (ls : Array Slot), rc4 x1 x2 x3 u → Wd D A s.heap (wsM cy ad u) H locs → lv_has ls 4 [(0, .ref (ad 0)), (1, .int x1), (2, .int x2), (3, .int x3)] → W p l e (rmD 0) s m args below meth c H locs 0 0 (MQ below (va_Qi Q (PostG (wsM cy ad) D A) A) args s 0 0 A) (F0 m 4 ls [])) (x1 : Int32) (x3 : Int32) (t0 : Int32) (t1 : Int32) (g0 : Sg) (H : Heap) (locs : List Loc) (ls : Array Slot) (hd : vv_X8_weightOf_J32 rc4 x1 x3 t0 t1 g0 Q) (hw : Wd D A s.heap (wsM cy ad g0) H locs) (hl : lv_has ls 4 [(0, .ref (ad 0)), (1, .int x1), (3, .int x3)]) : W p l e (rmD 0) s m args below meth c H locs 0 0 (MQ below (va_Qi Q (PostG (wsM cy ad) D A) A) args s 0 0 A) (F0 m 32 ls [.int t1, .int t0]) := by
  unfold vv_X8_weightOf_J32 at hd
  refine lv_iadd K.1 K.2.1 dX8_weightOf_32 ?_
  refine lv_topi (fun x2_5 ex2_5 => ?_)
  have hd := hd x2_5 ex2_5
  refine lv_istore_n (lv' := [(2, .int x2_5), (0, .ref (ad 0)), (1, .int x1), (3, .int x3)]) K.1 K.2.1 dX8_weightOf_33 rfl hl (by decide) rfl (fun ls hl => ?_)
  obtain ⟨x3_6, ex3_6⟩ : ∃ y : Int32, y = x3 + (1 : Int32) := ⟨_, rfl⟩
  have hd := hd x3_6 ex3_6
  refine lv_iinc (v := x3_6) (lv' := [(3, .int x3_6), (2, .int x2_5), (0, .ref (ad 0)), (1, .int x1)]) K.1 K.2.1 dX8_weightOf_34 hl (k := 3) rfl (by rw [ex3_6]; rfl) (by decide) rfl (fun ls hl => ?_)
  refine lv_goto (tgt := 4) K.1 K.2.1 dX8_weightOf_37 (by decide) ?_
  exact hrc4 x1 x2_5 x3_6 g0 _ _ _ hd hw (lv_sub hl [2, 3, 1, 0] rfl)
set_option maxHeartbeats 4000000 in
set_option maxRecDepth 100000 in
theorem bb_X8_weightOf_4 {p : Program} {l : Launch} {e : Env} {s : State} {m : MethodId} {args : Array Value} {below : List Frame} {meth : Method} {c : Code} {D : va_G} {cy : Nat → ClassId} {ad : Nat → Nat} {A : Nat → Prop} {Q : Int32 → Sg → Prop} (K : Kx p s m args meth c cX8_weightOf 4 RX8 D cy) (hr : meth.sig.returnType = (some .int)) : ∀ (n : Nat) (x1 : Int32) (x2 : Int32) (x3 : Int32)  (g0 : Sg) (H : Heap) (locs : List Loc) (ls : Array Slot), vv_X8_weightOf_L4 Q n x1 x2 x3 g0 → Wd D A s.heap (wsM cy ad g0) H locs → lv_has ls 4 [(0, .ref (ad 0)), (1, .int x1), (2, .int x2), (3, .int x3)] → W p l e (rmD 0) s m args below meth c H locs 0 0 (MQ below (va_Qi Q (PostG (wsM cy ad) D A) A) args s 0 0 A) (F0 m 4 ls []) := by
  intro n
  induction n with
  | zero => intro _ _ _ _ _ _ _ hd; exact hd.elim
  | succ n ih =>
    intro x1 x2 x3 g0 H locs ls hd hw hl
    unfold vv_X8_weightOf_L4 at hd
    refine lv_iload_n K.1 K.2.1 dX8_weightOf_4 rfl (lv_at hl 3 rfl) ?_
    refine lv_aload_n K.1 K.2.1 dX8_weightOf_5 rfl (lv_at hl 0 rfl) ?_
    refine rm_get 29 K hw (by decide) kf_X8_378 rfl dX8_weightOf_6 ?_
    refine lv_icmp_ge (tgt := 40) K.1 K.2.1 dX8_weightOf_9 (by decide) (fun h_3 => ?_) (fun h_3 => ?_)
    · have hd := hd.1 h_3
      refine lv_iload_n K.1 K.2.1 dX8_weightOf_40 rfl (lv_at hl 2 rfl) ?_
      exact rk_iret K hw hr hd dX8_weightOf_41
    · have hd := hd.2 h_3
      refine lv_iload_n K.1 K.2.1 dX8_weightOf_12 rfl (lv_at hl 2 rfl) ?_
      refine lv_iload_n K.1 K.2.1 dX8_weightOf_13 rfl (lv_at hl 1 rfl) ?_
      refine lv_iload_n K.1 K.2.1 dX8_weightOf_14 rfl (lv_at hl 3 rfl) ?_
      refine lv_ishr K.1 K.2.1 dX8_weightOf_15 ?_
      refine lv_iconst (v := (1 : Int32)) K.1 K.2.1 dX8_weightOf_16 (by decide) ?_
      refine lv_iand K.1 K.2.1 dX8_weightOf_17 ?_
      refine lv_iconst (v := (1 : Int32)) K.1 K.2.1 dX8_weightOf_18 (by decide) ?_
      refine lv_icmp_ne (tgt := 31) K.1 K.2.1 dX8_weightOf_19 (by decide) (fun h_4 => ?_) (fun h_4 => ?_)
      · have hd := hd.1 h_4
        refine lv_iconst (v := (0 : Int32)) K.1 K.2.1 dX8_weightOf_31 (by decide) ?_
        exact bb_X8_weightOf_32 K hr ih x1 x3 x2 (0 : Int32) g0 _ _ _ hd hw (lv_sub hl [0, 1, 3] rfl)
      · have hd := hd.2 h_4
        refine lv_aload_n K.1 K.2.1 dX8_weightOf_22 rfl (lv_at hl 0 rfl) ?_
        refine rm_get 28 K hw (by decide) kf_X8_35 rfl dX8_weightOf_23 ?_
        refine lv_iload_n K.1 K.2.1 dX8_weightOf_26 rfl (lv_at hl 3 rfl) ?_
        have hb := hd.1
        have hd := hd.2
        refine rm_iald 7 K hw (by decide) hb dX8_weightOf_27 ?_
        refine lv_goto (tgt := 32) K.1 K.2.1 dX8_weightOf_28 (by decide) ?_
        exact bb_X8_weightOf_32 K hr ih x1 x3 x2 (g0 7 x3.toNatClampNeg) g0 _ _ _ hd hw (lv_sub hl [0, 1, 3] rfl)
set_option maxHeartbeats 4000000 in
set_option maxRecDepth 100000 in
theorem cc_X8_weightOf (l : Launch) (D : va_G) (cy : Nat → ClassId) (ad : Nat → Nat) (A : Nat → Prop) (g0 : Sg) (Q : Int32 → Sg → Prop) (x1 : Int32) (hd : vv_X8_weightOf x1 g0 Q) : Met l yX8_weightOf (Cond.code yX8_weightOf cX8_weightOf 4 (some .int) :: TT) (rmD 0) (va_Pc [.ref (ad 0), .int x1] (PreG (wsM cy ad) D cy A g0)) (va_Qi Q (PostG (wsM cy ad) D A) A) 0 0 A := by
  unfold vv_X8_weightOf at hd
  refine Met.ofW (cc := cX8_weightOf) (maxL := 4) (ret := (some .int)) (by decide) rfl ?_
  intro p e s m args below meth c s₁ B hml hv
  obtain ⟨rfl, hP, hK0, hD⟩ := hv
  have K : Kx p s m _ meth c cX8_weightOf 4 RX8 D cy := ⟨B.exec, B.bytes, hml, findClass_of_methodNamed B.named, fun w h => atoms_spec (ws := Cond.code yX8_weightOf cX8_weightOf 4 (some .int) :: TT) B.pre w (List.mem_cons_of_mem _ h), hK0, B.notSynchronized⟩
  have hw : Wd D A s.heap (wsM cy ad g0) s.heap [] := ⟨hP, hD, va_S.rf⟩
  have hr := B.returns
  have hl := lv_entry ([.ref (ad 0), .int x1]) (n := 4) (Nat.le_of_ble_eq_true rfl)
  rw [lg_entry_eq]
  generalize (lg_sl ([.ref (ad 0), .int x1]) ++ List.replicate (4 - (lg_sl ([.ref (ad 0), .int x1])).length) Slot.unset).toArray = ls at hl ⊢
  have hl : lv_has ls 4 [(0, .ref (ad 0)), (1, .int x1)] := hl
  refine lv_iconst (v := (0 : Int32)) K.1 K.2.1 dX8_weightOf_0 (by decide) ?_
  refine lv_topi (fun x2_1 ex2_1 => ?_)
  have hd := hd x2_1 ex2_1
  refine lv_istore_n (lv' := [(2, .int x2_1), (0, .ref (ad 0)), (1, .int x1)]) K.1 K.2.1 dX8_weightOf_1 rfl hl (by decide) rfl (fun ls hl => ?_)
  refine lv_iconst (v := (0 : Int32)) K.1 K.2.1 dX8_weightOf_2 (by decide) ?_
  refine lv_topi (fun x3_2 ex3_2 => ?_)
  have hd := hd x3_2 ex3_2
  refine lv_istore_n (lv' := [(3, .int x3_2), (2, .int x2_1), (0, .ref (ad 0)), (1, .int x1)]) K.1 K.2.1 dX8_weightOf_3 rfl hl (by decide) rfl (fun ls hl => ?_)
  obtain ⟨n9, hd⟩ := hd
  exact bb_X8_weightOf_4 K hr  n9 x1 x2_1 x3_2 g0 _ _ _ hd hw (lv_sub hl [2, 3, 1, 0] rfl)
theorem dX8_oftenAt_0 : decode cX8_oftenAt 0 = .ok (.iconst 0, 1) := by decide +kernel
theorem dX8_oftenAt_1 : decode cX8_oftenAt 1 = .ok (.istore_n 2, 1) := by decide +kernel
theorem dX8_oftenAt_2 : decode cX8_oftenAt 2 = .ok (.iconst 0, 1) := by decide +kernel
theorem dX8_oftenAt_3 : decode cX8_oftenAt 3 = .ok (.istore_n 3, 1) := by decide +kernel
theorem dX8_oftenAt_4 : decode cX8_oftenAt 4 = .ok (.iload_n 3, 1) := by decide +kernel
theorem dX8_oftenAt_5 : decode cX8_oftenAt 5 = .ok (.iconst 1, 1) := by decide +kernel
theorem dX8_oftenAt_6 : decode cX8_oftenAt 6 = .ok (.aload_n 0, 1) := by decide +kernel
theorem dX8_oftenAt_7 : decode cX8_oftenAt 7 = .ok (.getfield 378, 3) := by decide +kernel
theorem dX8_oftenAt_10 : decode cX8_oftenAt 10 = .ok (.ishl, 1) := by decide +kernel
theorem dX8_oftenAt_11 : decode cX8_oftenAt 11 = .ok (.if_icmp .ge 62, 3) := by decide +kernel
theorem dX8_oftenAt_14 : decode cX8_oftenAt 14 = .ok (.iload_n 3, 1) := by decide +kernel
theorem dX8_oftenAt_15 : decode cX8_oftenAt 15 = .ok (.iload_n 1, 1) := by decide +kernel
theorem dX8_oftenAt_16 : decode cX8_oftenAt 16 = .ok (.ishr, 1) := by decide +kernel
theorem dX8_oftenAt_17 : decode cX8_oftenAt 17 = .ok (.iconst 1, 1) := by decide +kernel
theorem dX8_oftenAt_18 : decode cX8_oftenAt 18 = .ok (.iand, 1) := by decide +kernel
theorem dX8_oftenAt_19 : decode cX8_oftenAt 19 = .ok (.iconst 1, 1) := by decide +kernel
theorem dX8_oftenAt_20 : decode cX8_oftenAt 20 = .ok (.if_icmp .ne 11, 3) := by decide +kernel
theorem dX8_oftenAt_23 : decode cX8_oftenAt 23 = .ok (.aload_n 0, 1) := by decide +kernel
theorem dX8_oftenAt_24 : decode cX8_oftenAt 24 = .ok (.iload_n 3, 1) := by decide +kernel
theorem dX8_oftenAt_25 : decode cX8_oftenAt 25 = .ok (.invokevirtual 384, 3) := by decide +kernel
theorem dX8_oftenAt_28 : decode cX8_oftenAt 28 = .ok (.goto 4, 3) := by decide +kernel
theorem dX8_oftenAt_31 : decode cX8_oftenAt 31 = .ok (.iconst 0, 1) := by decide +kernel
theorem dX8_oftenAt_32 : decode cX8_oftenAt 32 = .ok (.istore 4, 2) := by decide +kernel
theorem dX8_oftenAt_34 : decode cX8_oftenAt 34 = .ok (.iload_n 2, 1) := by decide +kernel
theorem dX8_oftenAt_35 : decode cX8_oftenAt 35 = .ok (.iload 4, 2) := by decide +kernel
theorem dX8_oftenAt_37 : decode cX8_oftenAt 37 = .ok (.aload_n 0, 1) := by decide +kernel
theorem dX8_oftenAt_38 : decode cX8_oftenAt 38 = .ok (.getfield 23, 3) := by decide +kernel
theorem dX8_oftenAt_41 : decode cX8_oftenAt 41 = .ok (.if_icmp .lt 23, 3) := by decide +kernel
theorem dX8_oftenAt_44 : decode cX8_oftenAt 44 = .ok (.iload 4, 2) := by decide +kernel
theorem dX8_oftenAt_46 : decode cX8_oftenAt 46 = .ok (.aload_n 0, 1) := by decide +kernel
theorem dX8_oftenAt_47 : decode cX8_oftenAt 47 = .ok (.getfield 35, 3) := by decide +kernel
theorem dX8_oftenAt_50 : decode cX8_oftenAt 50 = .ok (.iload_n 1, 1) := by decide +kernel
theorem dX8_oftenAt_51 : decode cX8_oftenAt 51 = .ok (.iaload, 1) := by decide +kernel
theorem dX8_oftenAt_52 : decode cX8_oftenAt 52 = .ok (.isub, 1) := by decide +kernel
theorem dX8_oftenAt_53 : decode cX8_oftenAt 53 = .ok (.aload_n 0, 1) := by decide +kernel
theorem dX8_oftenAt_54 : decode cX8_oftenAt 54 = .ok (.getfield 23, 3) := by decide +kernel
theorem dX8_oftenAt_57 : decode cX8_oftenAt 57 = .ok (.if_icmp .ge 7, 3) := by decide +kernel
theorem dX8_oftenAt_60 : decode cX8_oftenAt 60 = .ok (.iconst 1, 1) := by decide +kernel
theorem dX8_oftenAt_61 : decode cX8_oftenAt 61 = .ok (.goto 4, 3) := by decide +kernel
theorem dX8_oftenAt_64 : decode cX8_oftenAt 64 = .ok (.iconst 0, 1) := by decide +kernel
theorem dX8_oftenAt_65 : decode cX8_oftenAt 65 = .ok (.iadd, 1) := by decide +kernel
theorem dX8_oftenAt_66 : decode cX8_oftenAt 66 = .ok (.istore_n 2, 1) := by decide +kernel
theorem dX8_oftenAt_67 : decode cX8_oftenAt 67 = .ok (.iinc 3 1, 3) := by decide +kernel
theorem dX8_oftenAt_70 : decode cX8_oftenAt 70 = .ok (.goto (-66), 3) := by decide +kernel
theorem dX8_oftenAt_73 : decode cX8_oftenAt 73 = .ok (.iload_n 2, 1) := by decide +kernel
theorem dX8_oftenAt_74 : decode cX8_oftenAt 74 = .ok (.ireturn, 1) := by decide +kernel
set_option maxHeartbeats 4000000 in
set_option maxRecDepth 100000 in
theorem bb_X8_oftenAt_65 {p : Program} {l : Launch} {e : Env} {s : State} {m : MethodId} {args : Array Value} {below : List Frame} {meth : Method} {c : Code} {D : va_G} {cy : Nat → ClassId} {ad : Nat → Nat} {A : Nat → Prop} {Q : Int32 → Sg → Prop} (K : Kx p s m args meth c cX8_oftenAt 5 RX8 D cy) (hr : meth.sig.returnType = (some .int)) {rc4 : Int32 → Int32 → Int32 → Sg → Prop} (hrc4 : ∀ (x1 : Int32) (x2 : Int32) (x3 : Int32) (u : Sg) (H : Heap) (locs : List Loc) (ls : Array Slot), rc4 x1 x2 x3 u → Wd D A s.heap (wsM cy ad u) H locs → lv_has ls 5 [(0, .ref (ad 0)), (1, .int x1), (2, .int x2), (3, .int x3)] → W p l e (rmD 1) s m args below meth c H locs 0 0 (MQ below (va_Qi Q (PostG (wsM cy ad) D A) A) args s 0 0 A) (F0 m 4 ls [])) (x1 : Int32) (x3 : Int32) (t0 : Int32) (t1 : Int32) (g0 : Sg) (H : Heap) (locs : List Loc) (ls : Array Slot) (hd : vv_X8_oftenAt_J65 rc4 x1 x3 t0 t1 g0 Q) (hw : Wd D A s.heap (wsM cy ad g0) H locs) (hl : lv_has ls 5 [(0, .ref (ad 0)), (1, .int x1), (3, .int x3)]) : W p l e (rmD 1) s m args below meth c H locs 0 0 (MQ below (va_Qi Q (PostG (wsM cy ad) D A) A) args s 0 0 A) (F0 m 65 ls [.int t1, .int t0]) := by
  unfold vv_X8_oftenAt_J65 at hd
  refine lv_iadd K.1 K.2.1 dX8_oftenAt_65 ?_
  refine lv_topi (fun x2_7 ex2_7 => ?_)
  have hd := hd x2_7 ex2_7
  refine lv_istore_n (lv' := [(2, .int x2_7), (0, .ref (ad 0)), (1, .int x1), (3, .int x3)]) K.1 K.2.1 dX8_oftenAt_66 rfl hl (by decide) rfl (fun ls hl => ?_)
  obtain ⟨x3_8, ex3_8⟩ : ∃ y : Int32, y = x3 + (1 : Int32) := ⟨_, rfl⟩
  have hd := hd x3_8 ex3_8
  refine lv_iinc (v := x3_8) (lv' := [(3, .int x3_8), (2, .int x2_7), (0, .ref (ad 0)), (1, .int x1)]) K.1 K.2.1 dX8_oftenAt_67 hl (k := 3) rfl (by rw [ex3_8]; rfl) (by decide) rfl (fun ls hl => ?_)
  refine lv_goto (tgt := 4) K.1 K.2.1 dX8_oftenAt_70 (by decide) ?_
  exact hrc4 x1 x2_7 x3_8 g0 _ _ _ hd hw (lv_sub hl [2, 3, 1, 0] rfl)
set_option maxHeartbeats 4000000 in
set_option maxRecDepth 100000 in
theorem bb_X8_oftenAt_64 {p : Program} {l : Launch} {e : Env} {s : State} {m : MethodId} {args : Array Value} {below : List Frame} {meth : Method} {c : Code} {D : va_G} {cy : Nat → ClassId} {ad : Nat → Nat} {A : Nat → Prop} {Q : Int32 → Sg → Prop} (K : Kx p s m args meth c cX8_oftenAt 5 RX8 D cy) (hr : meth.sig.returnType = (some .int)) {rc4 : Int32 → Int32 → Int32 → Sg → Prop} (hrc4 : ∀ (x1 : Int32) (x2 : Int32) (x3 : Int32) (u : Sg) (H : Heap) (locs : List Loc) (ls : Array Slot), rc4 x1 x2 x3 u → Wd D A s.heap (wsM cy ad u) H locs → lv_has ls 5 [(0, .ref (ad 0)), (1, .int x1), (2, .int x2), (3, .int x3)] → W p l e (rmD 1) s m args below meth c H locs 0 0 (MQ below (va_Qi Q (PostG (wsM cy ad) D A) A) args s 0 0 A) (F0 m 4 ls [])) (x1 : Int32) (x3 : Int32) (t0 : Int32) (g0 : Sg) (H : Heap) (locs : List Loc) (ls : Array Slot) (hd : vv_X8_oftenAt_J64 rc4 x1 x3 t0 g0 Q) (hw : Wd D A s.heap (wsM cy ad g0) H locs) (hl : lv_has ls 5 [(0, .ref (ad 0)), (1, .int x1), (3, .int x3)]) : W p l e (rmD 1) s m args below meth c H locs 0 0 (MQ below (va_Qi Q (PostG (wsM cy ad) D A) A) args s 0 0 A) (F0 m 64 ls [.int t0]) := by
  unfold vv_X8_oftenAt_J64 at hd
  refine lv_iconst (v := (0 : Int32)) K.1 K.2.1 dX8_oftenAt_64 (by decide) ?_
  exact bb_X8_oftenAt_65 K hr hrc4 x1 x3 t0 (0 : Int32) g0 _ _ _ hd hw (lv_sub hl [0, 1, 2] rfl)
set_option maxHeartbeats 4000000 in
set_option maxRecDepth 100000 in
theorem bb_X8_oftenAt_32 {p : Program} {l : Launch} {e : Env} {s : State} {m : MethodId} {args : Array Value} {below : List Frame} {meth : Method} {c : Code} {D : va_G} {cy : Nat → ClassId} {ad : Nat → Nat} {A : Nat → Prop} {Q : Int32 → Sg → Prop} (K : Kx p s m args meth c cX8_oftenAt 5 RX8 D cy) (hr : meth.sig.returnType = (some .int)) {rc4 : Int32 → Int32 → Int32 → Sg → Prop} (hrc4 : ∀ (x1 : Int32) (x2 : Int32) (x3 : Int32) (u : Sg) (H : Heap) (locs : List Loc) (ls : Array Slot), rc4 x1 x2 x3 u → Wd D A s.heap (wsM cy ad u) H locs → lv_has ls 5 [(0, .ref (ad 0)), (1, .int x1), (2, .int x2), (3, .int x3)] → W p l e (rmD 1) s m args below meth c H locs 0 0 (MQ below (va_Qi Q (PostG (wsM cy ad) D A) A) args s 0 0 A) (F0 m 4 ls [])) (x1 : Int32) (x2 : Int32) (x3 : Int32) (t0 : Int32) (g0 : Sg) (H : Heap) (locs : List Loc) (ls : Array Slot) (hd : vv_X8_oftenAt_J32 rc4 x1 x2 x3 t0 g0 Q) (hw : Wd D A s.heap (wsM cy ad g0) H locs) (hl : lv_has ls 5 [(0, .ref (ad 0)), (1, .int x1), (2, .int x2), (3, .int x3)]) : W p l e (rmD 1) s m args below meth c H locs 0 0 (MQ below (va_Qi Q (PostG (wsM cy ad) D A) A) args s 0 0 A) (F0 m 32 ls [.int t0]) := by
  unfold vv_X8_oftenAt_J32 at hd
  refine lv_topi (fun x4_5 ex4_5 => ?_)
  have hd := hd x4_5 ex4_5
  refine lv_istore (lv' := [(4, .int x4_5), (0, .ref (ad 0)), (1, .int x1), (2, .int x2), (3, .int x3)]) K.1 K.2.1 dX8_oftenAt_32 hl (by decide) rfl (fun ls hl => ?_)
  refine lv_iload_n K.1 K.2.1 dX8_oftenAt_34 rfl (lv_at hl 3 rfl) ?_
  refine lv_iload K.1 K.2.1 dX8_oftenAt_35 (lv_at hl 0 rfl) ?_
  refine lv_aload_n K.1 K.2.1 dX8_oftenAt_37 rfl (lv_at hl 1 rfl) ?_
  refine rm_get 8 K hw (by decide) kf_X8_23 rfl dX8_oftenAt_38 ?_
  refine lv_icmp_lt (tgt := 64) K.1 K.2.1 dX8_oftenAt_41 (by decide) (fun h_6 => ?_) (fun h_6 => ?_)
  · have hd := hd.1 h_6
    exact bb_X8_oftenAt_64 K hr hrc4 x1 x3 x2 g0 _ _ _ hd hw (lv_sub hl [1, 2, 4] rfl)
  · have hd := hd.2 h_6
    refine lv_iload K.1 K.2.1 dX8_oftenAt_44 (lv_at hl 0 rfl) ?_
    refine lv_aload_n K.1 K.2.1 dX8_oftenAt_46 rfl (lv_at hl 1 rfl) ?_
    refine rm_get 28 K hw (by decide) kf_X8_35 rfl dX8_oftenAt_47 ?_
    refine lv_iload_n K.1 K.2.1 dX8_oftenAt_50 rfl (lv_at hl 2 rfl) ?_
    have hb := hd.1
    have hd := hd.2
    refine rm_iald 7 K hw (by decide) hb dX8_oftenAt_51 ?_
    refine lv_isub K.1 K.2.1 dX8_oftenAt_52 ?_
    refine lv_aload_n K.1 K.2.1 dX8_oftenAt_53 rfl (lv_at hl 1 rfl) ?_
    refine rm_get 8 K hw (by decide) kf_X8_23 rfl dX8_oftenAt_54 ?_
    refine lv_icmp_ge (tgt := 64) K.1 K.2.1 dX8_oftenAt_57 (by decide) (fun h_9 => ?_) (fun h_9 => ?_)
    · have hd := hd.1 h_9
      exact bb_X8_oftenAt_64 K hr hrc4 x1 x3 x2 g0 _ _ _ hd hw (lv_sub hl [1, 2, 4] rfl)
    · have hd := hd.2 h_9
      refine lv_iconst (v := (1 : Int32)) K.1 K.2.1 dX8_oftenAt_60 (by decide) ?_
      refine lv_goto (tgt := 65) K.1 K.2.1 dX8_oftenAt_61 (by decide) ?_
      exact bb_X8_oftenAt_65 K hr hrc4 x1 x3 x2 (1 : Int32) g0 _ _ _ hd hw (lv_sub hl [1, 2, 4] rfl)
set_option maxHeartbeats 4000000 in
set_option maxRecDepth 100000 in
theorem bb_X8_oftenAt_4 {p : Program} {l : Launch} {e : Env} {s : State} {m : MethodId} {args : Array Value} {below : List Frame} {meth : Method} {c : Code} {D : va_G} {cy : Nat → ClassId} {ad : Nat → Nat} {A : Nat → Prop} {Q : Int32 → Sg → Prop} (K : Kx p s m args meth c cX8_oftenAt 5 RX8 D cy) (hr : meth.sig.returnType = (some .int)) : ∀ (n : Nat) (x1 : Int32) (x2 : Int32) (x3 : Int32)  (g0 : Sg) (H : Heap) (locs : List Loc) (ls : Array Slot), vv_X8_oftenAt_L4 Q n x1 x2 x3 g0 → Wd D A s.heap (wsM cy ad g0) H locs → lv_has ls 5 [(0, .ref (ad 0)), (1, .int x1), (2, .int x2), (3, .int x3)] → W p l e (rmD 1) s m args below meth c H locs 0 0 (MQ below (va_Qi Q (PostG (wsM cy ad) D A) A) args s 0 0 A) (F0 m 4 ls []) := by
  intro n
  induction n with
  | zero => intro _ _ _ _ _ _ _ hd; exact hd.elim
  | succ n ih =>
    intro x1 x2 x3 g0 H locs ls hd hw hl
    unfold vv_X8_oftenAt_L4 at hd
    refine lv_iload_n K.1 K.2.1 dX8_oftenAt_4 rfl (lv_at hl 3 rfl) ?_
    refine lv_iconst (v := (1 : Int32)) K.1 K.2.1 dX8_oftenAt_5 (by decide) ?_
    refine lv_aload_n K.1 K.2.1 dX8_oftenAt_6 rfl (lv_at hl 0 rfl) ?_
    refine rm_get 29 K hw (by decide) kf_X8_378 rfl dX8_oftenAt_7 ?_
    refine lv_ishl K.1 K.2.1 dX8_oftenAt_10 ?_
    refine lv_icmp_ge (tgt := 73) K.1 K.2.1 dX8_oftenAt_11 (by decide) (fun h_3 => ?_) (fun h_3 => ?_)
    · have hd := hd.1 h_3
      refine lv_iload_n K.1 K.2.1 dX8_oftenAt_73 rfl (lv_at hl 2 rfl) ?_
      exact rk_iret K hw hr hd dX8_oftenAt_74
    · have hd := hd.2 h_3
      refine lv_iload_n K.1 K.2.1 dX8_oftenAt_14 rfl (lv_at hl 3 rfl) ?_
      refine lv_iload_n K.1 K.2.1 dX8_oftenAt_15 rfl (lv_at hl 1 rfl) ?_
      refine lv_ishr K.1 K.2.1 dX8_oftenAt_16 ?_
      refine lv_iconst (v := (1 : Int32)) K.1 K.2.1 dX8_oftenAt_17 (by decide) ?_
      refine lv_iand K.1 K.2.1 dX8_oftenAt_18 ?_
      refine lv_iconst (v := (1 : Int32)) K.1 K.2.1 dX8_oftenAt_19 (by decide) ?_
      refine lv_icmp_ne (tgt := 31) K.1 K.2.1 dX8_oftenAt_20 (by decide) (fun h_4 => ?_) (fun h_4 => ?_)
      · have hd := hd.1 h_4
        refine lv_iconst (v := (0 : Int32)) K.1 K.2.1 dX8_oftenAt_31 (by decide) ?_
        exact bb_X8_oftenAt_32 K hr ih x1 x2 x3 (0 : Int32) g0 _ _ _ hd hw (lv_sub hl [0, 1, 2, 3] rfl)
      · have hd := hd.2 h_4
        refine lv_aload_n K.1 K.2.1 dX8_oftenAt_23 rfl (lv_at hl 0 rfl) ?_
        refine lv_iload_n K.1 K.2.1 dX8_oftenAt_24 rfl (lv_at hl 3 rfl) ?_
        refine rk_vi (As := [.int x3]) (rest := []) K hw (cc_X8_weightOf l D cy ad A g0 _ x3 hd) lk_X8_384 (ci := 8) rfl (q0 := 0) (wsM_at cy ad _ (by decide)) ⟨Nat.le_of_ble_eq_true rfl, Nat.le_of_ble_eq_true rfl⟩ ⟨Nat.zero_le _, Nat.zero_le _⟩ rfl hl.1 (Nat.le_of_ble_eq_true rfl) rfl dX8_oftenAt_25 (fun r_11 g_10 H locs hd hw => ?_)
        refine lv_goto (tgt := 32) K.1 K.2.1 dX8_oftenAt_28 (by decide) ?_
        exact bb_X8_oftenAt_32 K hr ih x1 x2 x3 r_11 g_10 _ _ _ hd hw (lv_sub hl [0, 1, 2, 3] rfl)
set_option maxHeartbeats 4000000 in
set_option maxRecDepth 100000 in
theorem cc_X8_oftenAt (l : Launch) (D : va_G) (cy : Nat → ClassId) (ad : Nat → Nat) (A : Nat → Prop) (g0 : Sg) (Q : Int32 → Sg → Prop) (x1 : Int32) (hd : vv_X8_oftenAt x1 g0 Q) : Met l yX8_oftenAt (Cond.code yX8_oftenAt cX8_oftenAt 5 (some .int) :: TT) (rmD 1) (va_Pc [.ref (ad 0), .int x1] (PreG (wsM cy ad) D cy A g0)) (va_Qi Q (PostG (wsM cy ad) D A) A) 0 0 A := by
  unfold vv_X8_oftenAt at hd
  refine Met.ofW (cc := cX8_oftenAt) (maxL := 5) (ret := (some .int)) (by decide) rfl ?_
  intro p e s m args below meth c s₁ B hml hv
  obtain ⟨rfl, hP, hK0, hD⟩ := hv
  have K : Kx p s m _ meth c cX8_oftenAt 5 RX8 D cy := ⟨B.exec, B.bytes, hml, findClass_of_methodNamed B.named, fun w h => atoms_spec (ws := Cond.code yX8_oftenAt cX8_oftenAt 5 (some .int) :: TT) B.pre w (List.mem_cons_of_mem _ h), hK0, B.notSynchronized⟩
  have hw : Wd D A s.heap (wsM cy ad g0) s.heap [] := ⟨hP, hD, va_S.rf⟩
  have hr := B.returns
  have hl := lv_entry ([.ref (ad 0), .int x1]) (n := 5) (Nat.le_of_ble_eq_true rfl)
  rw [lg_entry_eq]
  generalize (lg_sl ([.ref (ad 0), .int x1]) ++ List.replicate (5 - (lg_sl ([.ref (ad 0), .int x1])).length) Slot.unset).toArray = ls at hl ⊢
  have hl : lv_has ls 5 [(0, .ref (ad 0)), (1, .int x1)] := hl
  refine lv_iconst (v := (0 : Int32)) K.1 K.2.1 dX8_oftenAt_0 (by decide) ?_
  refine lv_topi (fun x2_1 ex2_1 => ?_)
  have hd := hd x2_1 ex2_1
  refine lv_istore_n (lv' := [(2, .int x2_1), (0, .ref (ad 0)), (1, .int x1)]) K.1 K.2.1 dX8_oftenAt_1 rfl hl (by decide) rfl (fun ls hl => ?_)
  refine lv_iconst (v := (0 : Int32)) K.1 K.2.1 dX8_oftenAt_2 (by decide) ?_
  refine lv_topi (fun x3_2 ex3_2 => ?_)
  have hd := hd x3_2 ex3_2
  refine lv_istore_n (lv' := [(3, .int x3_2), (2, .int x2_1), (0, .ref (ad 0)), (1, .int x1)]) K.1 K.2.1 dX8_oftenAt_3 rfl hl (by decide) rfl (fun ls hl => ?_)
  obtain ⟨n9, hd⟩ := hd
  exact bb_X8_oftenAt_4 K hr  n9 x1 x2_1 x3_2 g0 _ _ _ hd hw (lv_sub hl [2, 3, 1, 0] rfl)
theorem dX8_often_0 : decode cX8_often 0 = .ok (.aload_n 0, 1) := by decide +kernel
theorem dX8_often_1 : decode cX8_often 1 = .ok (.iload_n 1, 1) := by decide +kernel
theorem dX8_often_2 : decode cX8_often 2 = .ok (.invokevirtual 73, 3) := by decide +kernel
theorem dX8_often_5 : decode cX8_often 5 = .ok (.ifCond .eq 11, 3) := by decide +kernel
theorem dX8_often_8 : decode cX8_often 8 = .ok (.aload_n 0, 1) := by decide +kernel
theorem dX8_often_9 : decode cX8_often 9 = .ok (.iload_n 1, 1) := by decide +kernel
theorem dX8_often_10 : decode cX8_often 10 = .ok (.invokevirtual 115, 3) := by decide +kernel
theorem dX8_often_13 : decode cX8_often 13 = .ok (.ifCond .ne 6, 3) := by decide +kernel
theorem dX8_often_16 : decode cX8_often 16 = .ok (.bipush (-2), 2) := by decide +kernel
theorem dX8_often_18 : decode cX8_often 18 = .ok (.ireturn, 1) := by decide +kernel
theorem dX8_often_19 : decode cX8_often 19 = .ok (.aload_n 0, 1) := by decide +kernel
theorem dX8_often_20 : decode cX8_often 20 = .ok (.iload_n 1, 1) := by decide +kernel
theorem dX8_often_21 : decode cX8_often 21 = .ok (.invokevirtual 387, 3) := by decide +kernel
theorem dX8_often_24 : decode cX8_often 24 = .ok (.aload_n 0, 1) := by decide +kernel
theorem dX8_often_25 : decode cX8_often 25 = .ok (.aload_n 0, 1) := by decide +kernel
theorem dX8_often_26 : decode cX8_often 26 = .ok (.getfield 381, 3) := by decide +kernel
theorem dX8_often_29 : decode cX8_often 29 = .ok (.invokevirtual 391, 3) := by decide +kernel
theorem dX8_often_32 : decode cX8_often 32 = .ok (.ireturn, 1) := by decide +kernel
set_option maxHeartbeats 4000000 in
set_option maxRecDepth 100000 in
theorem cc_X8_often (l : Launch) (D : va_G) (cy : Nat → ClassId) (ad : Nat → Nat) (A : Nat → Prop) (g0 : Sg) (Q : Int32 → Sg → Prop) (x1 : Int32) (hd : vv_X8_often x1 g0 Q) : Met l yX8_often (Cond.code yX8_often cX8_often 2 (some .int) :: TT) (rmD 45) (va_Pc [.ref (ad 0), .int x1] (PreG (wsM cy ad) D cy A g0)) (va_Qi Q (PostG (wsM cy ad) D A) A) 0 0 A := by
  unfold vv_X8_often at hd
  refine Met.ofW (cc := cX8_often) (maxL := 2) (ret := (some .int)) (by decide) rfl ?_
  intro p e s m args below meth c s₁ B hml hv
  obtain ⟨rfl, hP, hK0, hD⟩ := hv
  have K : Kx p s m _ meth c cX8_often 2 RX8 D cy := ⟨B.exec, B.bytes, hml, findClass_of_methodNamed B.named, fun w h => atoms_spec (ws := Cond.code yX8_often cX8_often 2 (some .int) :: TT) B.pre w (List.mem_cons_of_mem _ h), hK0, B.notSynchronized⟩
  have hw : Wd D A s.heap (wsM cy ad g0) s.heap [] := ⟨hP, hD, va_S.rf⟩
  have hr := B.returns
  have hl := lv_entry ([.ref (ad 0), .int x1]) (n := 2) (Nat.le_of_ble_eq_true rfl)
  rw [lg_entry_eq]
  generalize (lg_sl ([.ref (ad 0), .int x1]) ++ List.replicate (2 - (lg_sl ([.ref (ad 0), .int x1])).length) Slot.unset).toArray = ls at hl ⊢
  have hl : lv_has ls 2 [(0, .ref (ad 0)), (1, .int x1)] := hl
  refine lv_aload_n K.1 K.2.1 dX8_often_0 rfl (lv_at hl 0 rfl) ?_
  refine lv_iload_n K.1 K.2.1 dX8_often_1 rfl (lv_at hl 1 rfl) ?_
  refine rk_vi (As := [.int x1]) (rest := []) K hw (cc_X8_isOne l D cy ad A g0 _ x1 hd) lk_X8_73 (ci := 8) rfl (q0 := 0) (wsM_at cy ad _ (by decide)) ⟨Nat.le_of_ble_eq_true rfl, Nat.le_of_ble_eq_true rfl⟩ ⟨Nat.zero_le _, Nat.zero_le _⟩ rfl hl.1 (Nat.le_of_ble_eq_true rfl) rfl dX8_often_2 (fun r_2 g_1 H locs hd hw => ?_)
  refine lv_if_eq (tgt := 16) K.1 K.2.1 dX8_often_5 (by decide) (fun h_3 => ?_) (fun h_3 => ?_)
  · have hd := hd.1 h_3
    refine lv_bipush (v := (-2 : Int32)) K.1 K.2.1 dX8_often_16 (by decide) ?_
    exact rk_iret K hw hr hd dX8_often_18
  · have hd := hd.2 h_3
    refine lv_aload_n K.1 K.2.1 dX8_often_8 rfl (lv_at hl 0 rfl) ?_
    refine lv_iload_n K.1 K.2.1 dX8_often_9 rfl (lv_at hl 1 rfl) ?_
    refine rk_vi (As := [.int x1]) (rest := []) K hw (cc_X8_isWhole l D cy ad A g_1 _ x1 hd) lk_X8_115 (ci := 8) rfl (q0 := 0) (wsM_at cy ad _ (by decide)) ⟨Nat.le_of_ble_eq_true rfl, Nat.le_of_ble_eq_true rfl⟩ ⟨Nat.zero_le _, Nat.zero_le _⟩ rfl hl.1 (Nat.le_of_ble_eq_true rfl) rfl dX8_often_10 (fun r_5 g_4 H locs hd hw => ?_)
    refine lv_if_ne (tgt := 19) K.1 K.2.1 dX8_often_13 (by decide) (fun h_6 => ?_) (fun h_6 => ?_)
    · have hd := hd.1 h_6
      refine lv_aload_n K.1 K.2.1 dX8_often_19 rfl (lv_at hl 0 rfl) ?_
      refine lv_iload_n K.1 K.2.1 dX8_often_20 rfl (lv_at hl 1 rfl) ?_
      refine rk_vv (As := [.int x1]) (rest := []) K hw (cc_X8_lines l D cy ad A g_4 _ x1 hd) lk_X8_387 (ci := 8) rfl (q0 := 0) (wsM_at cy ad _ (by decide)) ⟨Nat.le_of_ble_eq_true rfl, Nat.le_of_ble_eq_true rfl⟩ ⟨Nat.zero_le _, Nat.zero_le _⟩ rfl hl.1 (Nat.le_of_ble_eq_true rfl) rfl dX8_often_21 (fun g_7 H locs hd hw => ?_)
      refine lv_aload_n K.1 K.2.1 dX8_often_24 rfl (lv_at hl 0 rfl) ?_
      refine lv_aload_n K.1 K.2.1 dX8_often_25 rfl (lv_at hl 0 rfl) ?_
      refine rm_get 30 K hw (by decide) kf_X8_381 rfl dX8_often_26 ?_
      refine rk_vi (As := [.int (g_7 0 30)]) (rest := []) K hw (cc_X8_oftenAt l D cy ad A g_7 _ (g_7 0 30) hd) lk_X8_391 (ci := 8) rfl (q0 := 0) (wsM_at cy ad _ (by decide)) ⟨Nat.le_of_ble_eq_true rfl, Nat.le_of_ble_eq_true rfl⟩ ⟨Nat.zero_le _, Nat.zero_le _⟩ rfl hl.1 (Nat.le_of_ble_eq_true rfl) rfl dX8_often_29 (fun r_10 g_9 H locs hd hw => ?_)
      exact rk_iret K hw hr hd dX8_often_32
    · have hd := hd.2 h_6
      refine lv_bipush (v := (-2 : Int32)) K.1 K.2.1 dX8_often_16 (by decide) ?_
      exact rk_iret K hw hr hd dX8_often_18
theorem dX8_torn_0 : decode cX8_torn 0 = .ok (.aload_n 0, 1) := by decide +kernel
theorem dX8_torn_1 : decode cX8_torn 1 = .ok (.iload_n 1, 1) := by decide +kernel
theorem dX8_torn_2 : decode cX8_torn 2 = .ok (.invokevirtual 73, 3) := by decide +kernel
theorem dX8_torn_5 : decode cX8_torn 5 = .ok (.ifCond .eq 11, 3) := by decide +kernel
theorem dX8_torn_8 : decode cX8_torn 8 = .ok (.aload_n 0, 1) := by decide +kernel
theorem dX8_torn_9 : decode cX8_torn 9 = .ok (.iload_n 1, 1) := by decide +kernel
theorem dX8_torn_10 : decode cX8_torn 10 = .ok (.invokevirtual 115, 3) := by decide +kernel
theorem dX8_torn_13 : decode cX8_torn 13 = .ok (.ifCond .ne 6, 3) := by decide +kernel
theorem dX8_torn_16 : decode cX8_torn 16 = .ok (.bipush (-2), 2) := by decide +kernel
theorem dX8_torn_18 : decode cX8_torn 18 = .ok (.ireturn, 1) := by decide +kernel
theorem dX8_torn_19 : decode cX8_torn 19 = .ok (.aload_n 0, 1) := by decide +kernel
theorem dX8_torn_20 : decode cX8_torn 20 = .ok (.iload_n 1, 1) := by decide +kernel
theorem dX8_torn_21 : decode cX8_torn 21 = .ok (.invokevirtual 387, 3) := by decide +kernel
theorem dX8_torn_24 : decode cX8_torn 24 = .ok (.aload_n 0, 1) := by decide +kernel
theorem dX8_torn_25 : decode cX8_torn 25 = .ok (.getfield 35, 3) := by decide +kernel
theorem dX8_torn_28 : decode cX8_torn 28 = .ok (.aload_n 0, 1) := by decide +kernel
theorem dX8_torn_29 : decode cX8_torn 29 = .ok (.getfield 381, 3) := by decide +kernel
theorem dX8_torn_32 : decode cX8_torn 32 = .ok (.iaload, 1) := by decide +kernel
theorem dX8_torn_33 : decode cX8_torn 33 = .ok (.iconst 2, 1) := by decide +kernel
theorem dX8_torn_34 : decode cX8_torn 34 = .ok (.idiv, 1) := by decide +kernel
theorem dX8_torn_35 : decode cX8_torn 35 = .ok (.istore_n 2, 1) := by decide +kernel
theorem dX8_torn_36 : decode cX8_torn 36 = .ok (.aload_n 0, 1) := by decide +kernel
theorem dX8_torn_37 : decode cX8_torn 37 = .ok (.getfield 35, 3) := by decide +kernel
theorem dX8_torn_40 : decode cX8_torn 40 = .ok (.aload_n 0, 1) := by decide +kernel
theorem dX8_torn_41 : decode cX8_torn 41 = .ok (.getfield 378, 3) := by decide +kernel
theorem dX8_torn_44 : decode cX8_torn 44 = .ok (.aload_n 0, 1) := by decide +kernel
theorem dX8_torn_45 : decode cX8_torn 45 = .ok (.getfield 35, 3) := by decide +kernel
theorem dX8_torn_48 : decode cX8_torn 48 = .ok (.aload_n 0, 1) := by decide +kernel
theorem dX8_torn_49 : decode cX8_torn 49 = .ok (.getfield 381, 3) := by decide +kernel
theorem dX8_torn_52 : decode cX8_torn 52 = .ok (.iaload, 1) := by decide +kernel
theorem dX8_torn_53 : decode cX8_torn 53 = .ok (.iload_n 2, 1) := by decide +kernel
theorem dX8_torn_54 : decode cX8_torn 54 = .ok (.isub, 1) := by decide +kernel
theorem dX8_torn_55 : decode cX8_torn 55 = .ok (.iastore, 1) := by decide +kernel
theorem dX8_torn_56 : decode cX8_torn 56 = .ok (.aload_n 0, 1) := by decide +kernel
theorem dX8_torn_57 : decode cX8_torn 57 = .ok (.getfield 35, 3) := by decide +kernel
theorem dX8_torn_60 : decode cX8_torn 60 = .ok (.aload_n 0, 1) := by decide +kernel
theorem dX8_torn_61 : decode cX8_torn 61 = .ok (.getfield 381, 3) := by decide +kernel
theorem dX8_torn_64 : decode cX8_torn 64 = .ok (.iload_n 2, 1) := by decide +kernel
theorem dX8_torn_65 : decode cX8_torn 65 = .ok (.iastore, 1) := by decide +kernel
theorem dX8_torn_66 : decode cX8_torn 66 = .ok (.aload_n 0, 1) := by decide +kernel
theorem dX8_torn_67 : decode cX8_torn 67 = .ok (.dup, 1) := by decide +kernel
theorem dX8_torn_68 : decode cX8_torn 68 = .ok (.getfield 378, 3) := by decide +kernel
theorem dX8_torn_71 : decode cX8_torn 71 = .ok (.iconst 1, 1) := by decide +kernel
theorem dX8_torn_72 : decode cX8_torn 72 = .ok (.iadd, 1) := by decide +kernel
theorem dX8_torn_73 : decode cX8_torn 73 = .ok (.putfield 378, 3) := by decide +kernel
theorem dX8_torn_76 : decode cX8_torn 76 = .ok (.aload_n 0, 1) := by decide +kernel
theorem dX8_torn_77 : decode cX8_torn 77 = .ok (.aload_n 0, 1) := by decide +kernel
theorem dX8_torn_78 : decode cX8_torn 78 = .ok (.getfield 381, 3) := by decide +kernel
theorem dX8_torn_81 : decode cX8_torn 81 = .ok (.invokevirtual 391, 3) := by decide +kernel
theorem dX8_torn_84 : decode cX8_torn 84 = .ok (.aload_n 0, 1) := by decide +kernel
theorem dX8_torn_85 : decode cX8_torn 85 = .ok (.aload_n 0, 1) := by decide +kernel
theorem dX8_torn_86 : decode cX8_torn 86 = .ok (.getfield 378, 3) := by decide +kernel
theorem dX8_torn_89 : decode cX8_torn 89 = .ok (.iconst 1, 1) := by decide +kernel
theorem dX8_torn_90 : decode cX8_torn 90 = .ok (.isub, 1) := by decide +kernel
theorem dX8_torn_91 : decode cX8_torn 91 = .ok (.invokevirtual 391, 3) := by decide +kernel
theorem dX8_torn_94 : decode cX8_torn 94 = .ok (.iadd, 1) := by decide +kernel
theorem dX8_torn_95 : decode cX8_torn 95 = .ok (.ireturn, 1) := by decide +kernel
set_option maxHeartbeats 4000000 in
set_option maxRecDepth 100000 in
theorem cc_X8_torn (l : Launch) (D : va_G) (cy : Nat → ClassId) (ad : Nat → Nat) (A : Nat → Prop) (g0 : Sg) (Q : Int32 → Sg → Prop) (x1 : Int32) (hd : vv_X8_torn x1 g0 Q) : Met l yX8_torn (Cond.code yX8_torn cX8_torn 3 (some .int) :: TT) (rmD 45) (va_Pc [.ref (ad 0), .int x1] (PreG (wsM cy ad) D cy A g0)) (va_Qi Q (PostG (wsM cy ad) D A) A) 0 0 A := by
  unfold vv_X8_torn at hd
  refine Met.ofW (cc := cX8_torn) (maxL := 3) (ret := (some .int)) (by decide) rfl ?_
  intro p e s m args below meth c s₁ B hml hv
  obtain ⟨rfl, hP, hK0, hD⟩ := hv
  have K : Kx p s m _ meth c cX8_torn 3 RX8 D cy := ⟨B.exec, B.bytes, hml, findClass_of_methodNamed B.named, fun w h => atoms_spec (ws := Cond.code yX8_torn cX8_torn 3 (some .int) :: TT) B.pre w (List.mem_cons_of_mem _ h), hK0, B.notSynchronized⟩
  have hw : Wd D A s.heap (wsM cy ad g0) s.heap [] := ⟨hP, hD, va_S.rf⟩
  have hr := B.returns
  have hl := lv_entry ([.ref (ad 0), .int x1]) (n := 3) (Nat.le_of_ble_eq_true rfl)
  rw [lg_entry_eq]
  generalize (lg_sl ([.ref (ad 0), .int x1]) ++ List.replicate (3 - (lg_sl ([.ref (ad 0), .int x1])).length) Slot.unset).toArray = ls at hl ⊢
  have hl : lv_has ls 3 [(0, .ref (ad 0)), (1, .int x1)] := hl
  refine lv_aload_n K.1 K.2.1 dX8_torn_0 rfl (lv_at hl 0 rfl) ?_
  refine lv_iload_n K.1 K.2.1 dX8_torn_1 rfl (lv_at hl 1 rfl) ?_
  refine rk_vi (As := [.int x1]) (rest := []) K hw (cc_X8_isOne l D cy ad A g0 _ x1 hd) lk_X8_73 (ci := 8) rfl (q0 := 0) (wsM_at cy ad _ (by decide)) ⟨Nat.le_of_ble_eq_true rfl, Nat.le_of_ble_eq_true rfl⟩ ⟨Nat.zero_le _, Nat.zero_le _⟩ rfl hl.1 (Nat.le_of_ble_eq_true rfl) rfl dX8_torn_2 (fun r_2 g_1 H locs hd hw => ?_)
  refine lv_if_eq (tgt := 16) K.1 K.2.1 dX8_torn_5 (by decide) (fun h_3 => ?_) (fun h_3 => ?_)
  · have hd := hd.1 h_3
    refine lv_bipush (v := (-2 : Int32)) K.1 K.2.1 dX8_torn_16 (by decide) ?_
    exact rk_iret K hw hr hd dX8_torn_18
  · have hd := hd.2 h_3
    refine lv_aload_n K.1 K.2.1 dX8_torn_8 rfl (lv_at hl 0 rfl) ?_
    refine lv_iload_n K.1 K.2.1 dX8_torn_9 rfl (lv_at hl 1 rfl) ?_
    refine rk_vi (As := [.int x1]) (rest := []) K hw (cc_X8_isWhole l D cy ad A g_1 _ x1 hd) lk_X8_115 (ci := 8) rfl (q0 := 0) (wsM_at cy ad _ (by decide)) ⟨Nat.le_of_ble_eq_true rfl, Nat.le_of_ble_eq_true rfl⟩ ⟨Nat.zero_le _, Nat.zero_le _⟩ rfl hl.1 (Nat.le_of_ble_eq_true rfl) rfl dX8_torn_10 (fun r_5 g_4 H locs hd hw => ?_)
    refine lv_if_ne (tgt := 19) K.1 K.2.1 dX8_torn_13 (by decide) (fun h_6 => ?_) (fun h_6 => ?_)
    · have hd := hd.1 h_6
      refine lv_aload_n K.1 K.2.1 dX8_torn_19 rfl (lv_at hl 0 rfl) ?_
      refine lv_iload_n K.1 K.2.1 dX8_torn_20 rfl (lv_at hl 1 rfl) ?_
      refine rk_vv (As := [.int x1]) (rest := []) K hw (cc_X8_lines l D cy ad A g_4 _ x1 hd) lk_X8_387 (ci := 8) rfl (q0 := 0) (wsM_at cy ad _ (by decide)) ⟨Nat.le_of_ble_eq_true rfl, Nat.le_of_ble_eq_true rfl⟩ ⟨Nat.zero_le _, Nat.zero_le _⟩ rfl hl.1 (Nat.le_of_ble_eq_true rfl) rfl dX8_torn_21 (fun g_7 H locs hd hw => ?_)
      refine lv_aload_n K.1 K.2.1 dX8_torn_24 rfl (lv_at hl 0 rfl) ?_
      refine rm_get 28 K hw (by decide) kf_X8_35 rfl dX8_torn_25 ?_
      refine lv_aload_n K.1 K.2.1 dX8_torn_28 rfl (lv_at hl 0 rfl) ?_
      refine rm_get 30 K hw (by decide) kf_X8_381 rfl dX8_torn_29 ?_
      have hb := hd.1
      have hd := hd.2
      refine rm_iald 7 K hw (by decide) hb dX8_torn_32 ?_
      refine lv_iconst (v := (2 : Int32)) K.1 K.2.1 dX8_torn_33 (by decide) ?_
      refine lv_idiv K.1 K.2.1 dX8_torn_34 (by decide) ?_
      refine lv_topi (fun x2_9 ex2_9 => ?_)
      have hd := hd x2_9 ex2_9
      refine lv_istore_n (lv' := [(2, .int x2_9), (0, .ref (ad 0)), (1, .int x1)]) K.1 K.2.1 dX8_torn_35 rfl hl (by decide) rfl (fun ls hl => ?_)
      refine lv_aload_n K.1 K.2.1 dX8_torn_36 rfl (lv_at hl 1 rfl) ?_
      refine rm_get 28 K hw (by decide) kf_X8_35 rfl dX8_torn_37 ?_
      refine lv_aload_n K.1 K.2.1 dX8_torn_40 rfl (lv_at hl 1 rfl) ?_
      refine rm_get 29 K hw (by decide) kf_X8_378 rfl dX8_torn_41 ?_
      refine lv_aload_n K.1 K.2.1 dX8_torn_44 rfl (lv_at hl 1 rfl) ?_
      refine rm_get 28 K hw (by decide) kf_X8_35 rfl dX8_torn_45 ?_
      refine lv_aload_n K.1 K.2.1 dX8_torn_48 rfl (lv_at hl 1 rfl) ?_
      refine rm_get 30 K hw (by decide) kf_X8_381 rfl dX8_torn_49 ?_
      have hb := hd.1
      have hd := hd.2
      refine rm_iald 7 K hw (by decide) hb dX8_torn_52 ?_
      refine lv_iload_n K.1 K.2.1 dX8_torn_53 rfl (lv_at hl 0 rfl) ?_
      refine lv_isub K.1 K.2.1 dX8_torn_54 ?_
      have hb := hd.1
      have hd := hd.2
      refine rm_iast 7 K hw (by decide) hb dX8_torn_55 (fun g_10 eg_10 H locs hw => ?_)
      have hd := hd g_10 eg_10
      refine lv_aload_n K.1 K.2.1 dX8_torn_56 rfl (lv_at hl 1 rfl) ?_
      refine rm_get 28 K hw (by decide) kf_X8_35 rfl dX8_torn_57 ?_
      refine lv_aload_n K.1 K.2.1 dX8_torn_60 rfl (lv_at hl 1 rfl) ?_
      refine rm_get 30 K hw (by decide) kf_X8_381 rfl dX8_torn_61 ?_
      refine lv_iload_n K.1 K.2.1 dX8_torn_64 rfl (lv_at hl 0 rfl) ?_
      have hb := hd.1
      have hd := hd.2
      refine rm_iast 7 K hw (by decide) hb dX8_torn_65 (fun g_11 eg_11 H locs hw => ?_)
      have hd := hd g_11 eg_11
      refine lv_aload_n K.1 K.2.1 dX8_torn_66 rfl (lv_at hl 1 rfl) ?_
      refine lv_dup K.1 K.2.1 dX8_torn_67 rfl ?_
      refine rm_get 29 K hw (by decide) kf_X8_378 rfl dX8_torn_68 ?_
      refine lv_iconst (v := (1 : Int32)) K.1 K.2.1 dX8_torn_71 (by decide) ?_
      refine lv_iadd K.1 K.2.1 dX8_torn_72 ?_
      refine rm_put 29 K hw (by decide) kf_X8_378 rfl rfl rfl rfl (fsM_29 ad g_11 _) dX8_torn_73 (fun g_12 eg_12 H locs hw => ?_)
      have hd := hd g_12 eg_12
      refine lv_aload_n K.1 K.2.1 dX8_torn_76 rfl (lv_at hl 1 rfl) ?_
      refine lv_aload_n K.1 K.2.1 dX8_torn_77 rfl (lv_at hl 1 rfl) ?_
      refine rm_get 30 K hw (by decide) kf_X8_381 rfl dX8_torn_78 ?_
      refine rk_vi (As := [.int (g_12 0 30)]) (rest := []) K hw (cc_X8_oftenAt l D cy ad A g_12 _ (g_12 0 30) hd) lk_X8_391 (ci := 8) rfl (q0 := 0) (wsM_at cy ad _ (by decide)) ⟨Nat.le_of_ble_eq_true rfl, Nat.le_of_ble_eq_true rfl⟩ ⟨Nat.zero_le _, Nat.zero_le _⟩ rfl hl.1 (Nat.le_of_ble_eq_true rfl) rfl dX8_torn_81 (fun r_14 g_13 H locs hd hw => ?_)
      refine lv_aload_n K.1 K.2.1 dX8_torn_84 rfl (lv_at hl 1 rfl) ?_
      refine lv_aload_n K.1 K.2.1 dX8_torn_85 rfl (lv_at hl 1 rfl) ?_
      refine rm_get 29 K hw (by decide) kf_X8_378 rfl dX8_torn_86 ?_
      refine lv_iconst (v := (1 : Int32)) K.1 K.2.1 dX8_torn_89 (by decide) ?_
      refine lv_isub K.1 K.2.1 dX8_torn_90 ?_
      refine rk_vi (As := [.int ((g_13 0 29) - (1 : Int32))]) (rest := [.int r_14]) K hw (cc_X8_oftenAt l D cy ad A g_13 _ ((g_13 0 29) - (1 : Int32)) hd) lk_X8_391 (ci := 8) rfl (q0 := 0) (wsM_at cy ad _ (by decide)) ⟨Nat.le_of_ble_eq_true rfl, Nat.le_of_ble_eq_true rfl⟩ ⟨Nat.zero_le _, Nat.zero_le _⟩ rfl hl.1 (Nat.le_of_ble_eq_true rfl) rfl dX8_torn_91 (fun r_16 g_15 H locs hd hw => ?_)
      refine lv_iadd K.1 K.2.1 dX8_torn_94 ?_
      exact rk_iret K hw hr hd dX8_torn_95
    · have hd := hd.2 h_6
      refine lv_bipush (v := (-2 : Int32)) K.1 K.2.1 dX8_torn_16 (by decide) ?_
      exact rk_iret K hw hr hd dX8_torn_18
theorem dX8_orders_0 : decode cX8_orders 0 = .ok (.lconst 1, 1) := by decide +kernel
theorem dX8_orders_1 : decode cX8_orders 1 = .ok (.lstore_n 1, 1) := by decide +kernel
theorem dX8_orders_2 : decode cX8_orders 2 = .ok (.iconst 2, 1) := by decide +kernel
theorem dX8_orders_3 : decode cX8_orders 3 = .ok (.istore_n 3, 1) := by decide +kernel
theorem dX8_orders_4 : decode cX8_orders 4 = .ok (.iload_n 3, 1) := by decide +kernel
theorem dX8_orders_5 : decode cX8_orders 5 = .ok (.iload_n 0, 1) := by decide +kernel
theorem dX8_orders_6 : decode cX8_orders 6 = .ok (.if_icmp .gt 14, 3) := by decide +kernel
theorem dX8_orders_9 : decode cX8_orders 9 = .ok (.lload_n 1, 1) := by decide +kernel
theorem dX8_orders_10 : decode cX8_orders 10 = .ok (.iload_n 3, 1) := by decide +kernel
theorem dX8_orders_11 : decode cX8_orders 11 = .ok (.i2l, 1) := by decide +kernel
theorem dX8_orders_12 : decode cX8_orders 12 = .ok (.lmul, 1) := by decide +kernel
theorem dX8_orders_13 : decode cX8_orders 13 = .ok (.lstore_n 1, 1) := by decide +kernel
theorem dX8_orders_14 : decode cX8_orders 14 = .ok (.iinc 3 1, 3) := by decide +kernel
theorem dX8_orders_17 : decode cX8_orders 17 = .ok (.goto (-13), 3) := by decide +kernel
theorem dX8_orders_20 : decode cX8_orders 20 = .ok (.lload_n 1, 1) := by decide +kernel
theorem dX8_orders_21 : decode cX8_orders 21 = .ok (.lreturn, 1) := by decide +kernel
set_option maxHeartbeats 4000000 in
set_option maxRecDepth 100000 in
theorem bb_X8_orders_4 {p : Program} {l : Launch} {e : Env} {s : State} {m : MethodId} {args : Array Value} {below : List Frame} {meth : Method} {c : Code} {D : va_G} {cy : Nat → ClassId} {ad : Nat → Nat} {A : Nat → Prop} {Q : Int64 → Sg → Prop} (K : Kx p s m args meth c cX8_orders 4 RX8 D cy) (hr : meth.sig.returnType = (some .long)) : ∀ (n : Nat) (x0 : Int32) (x1 : Int64) (x3 : Int32)  (g0 : Sg) (H : Heap) (locs : List Loc) (ls : Array Slot), vv_X8_orders_L4 Q n x0 x1 x3 g0 → Wd D A s.heap (wsM cy ad g0) H locs → lv_has ls 4 [(0, .int x0), (1, .long x1), (3, .int x3)] → W p l e (rmD 0) s m args below meth c H locs 0 0 (MQ below (va_Ql Q (PostG (wsM cy ad) D A) A) args s 0 0 A) (F0 m 4 ls []) := by
  intro n
  induction n with
  | zero => intro _ _ _ _ _ _ _ hd; exact hd.elim
  | succ n ih =>
    intro x0 x1 x3 g0 H locs ls hd hw hl
    unfold vv_X8_orders_L4 at hd
    refine lv_iload_n K.1 K.2.1 dX8_orders_4 rfl (lv_at hl 2 rfl) ?_
    refine lv_iload_n K.1 K.2.1 dX8_orders_5 rfl (lv_at hl 0 rfl) ?_
    refine lv_icmp_gt (tgt := 20) K.1 K.2.1 dX8_orders_6 (by decide) (fun h_3 => ?_) (fun h_3 => ?_)
    · have hd := hd.1 h_3
      refine lv_lload_n K.1 K.2.1 dX8_orders_20 rfl (lv_at hl 1 rfl) ?_
      exact rk_lret K hw hr hd dX8_orders_21
    · have hd := hd.2 h_3
      refine lv_lload_n K.1 K.2.1 dX8_orders_9 rfl (lv_at hl 1 rfl) ?_
      refine lv_iload_n K.1 K.2.1 dX8_orders_10 rfl (lv_at hl 2 rfl) ?_
      refine lv_i2l (v := x3.toInt64) K.1 K.2.1 dX8_orders_11 rfl ?_
      refine lv_lmul K.1 K.2.1 dX8_orders_12 ?_
      refine lv_topl (fun x1_4 ex1_4 => ?_)
      have hd := hd x1_4 ex1_4
      refine lv_lstore_n (lv' := [(1, .long x1_4), (0, .int x0), (3, .int x3)]) K.1 K.2.1 dX8_orders_13 rfl hl (by decide) rfl (fun ls hl => ?_)
      obtain ⟨x3_5, ex3_5⟩ : ∃ y : Int32, y = x3 + (1 : Int32) := ⟨_, rfl⟩
      have hd := hd x3_5 ex3_5
      refine lv_iinc (v := x3_5) (lv' := [(3, .int x3_5), (1, .long x1_4), (0, .int x0)]) K.1 K.2.1 dX8_orders_14 hl (k := 2) rfl (by rw [ex3_5]; rfl) (by decide) rfl (fun ls hl => ?_)
      refine lv_goto (tgt := 4) K.1 K.2.1 dX8_orders_17 (by decide) ?_
      exact ih x0 x1_4 x3_5 g0 _ _ _ hd hw (lv_sub hl [2, 1, 0] rfl)
set_option maxHeartbeats 4000000 in
set_option maxRecDepth 100000 in
theorem cc_X8_orders (l : Launch) (D : va_G) (cy : Nat → ClassId) (ad : Nat → Nat) (A : Nat → Prop) (g0 : Sg) (Q : Int64 → Sg → Prop) (x0 : Int32) (hd : vv_X8_orders x0 g0 Q) : Met l yX8_orders (Cond.code yX8_orders cX8_orders 4 (some .long) :: TT) (rmD 0) (va_Pc [.int x0] (PreG (wsM cy ad) D cy A g0)) (va_Ql Q (PostG (wsM cy ad) D A) A) 0 0 A := by
  unfold vv_X8_orders at hd
  refine Met.ofW (cc := cX8_orders) (maxL := 4) (ret := (some .long)) (by decide) rfl ?_
  intro p e s m args below meth c s₁ B hml hv
  obtain ⟨rfl, hP, hK0, hD⟩ := hv
  have K : Kx p s m _ meth c cX8_orders 4 RX8 D cy := ⟨B.exec, B.bytes, hml, findClass_of_methodNamed B.named, fun w h => atoms_spec (ws := Cond.code yX8_orders cX8_orders 4 (some .long) :: TT) B.pre w (List.mem_cons_of_mem _ h), hK0, B.notSynchronized⟩
  have hw : Wd D A s.heap (wsM cy ad g0) s.heap [] := ⟨hP, hD, va_S.rf⟩
  have hr := B.returns
  have hl := lv_entry ([.int x0]) (n := 4) (Nat.le_of_ble_eq_true rfl)
  rw [lg_entry_eq]
  generalize (lg_sl ([.int x0]) ++ List.replicate (4 - (lg_sl ([.int x0])).length) Slot.unset).toArray = ls at hl ⊢
  have hl : lv_has ls 4 [(0, .int x0)] := hl
  refine lv_lconst (v := (1 : Int64)) K.1 K.2.1 dX8_orders_0 rfl ?_
  refine lv_topl (fun x1_1 ex1_1 => ?_)
  have hd := hd x1_1 ex1_1
  refine lv_lstore_n (lv' := [(1, .long x1_1), (0, .int x0)]) K.1 K.2.1 dX8_orders_1 rfl hl (by decide) rfl (fun ls hl => ?_)
  refine lv_iconst (v := (2 : Int32)) K.1 K.2.1 dX8_orders_2 (by decide) ?_
  refine lv_topi (fun x3_2 ex3_2 => ?_)
  have hd := hd x3_2 ex3_2
  refine lv_istore_n (lv' := [(3, .int x3_2), (1, .long x1_1), (0, .int x0)]) K.1 K.2.1 dX8_orders_3 rfl hl (by decide) rfl (fun ls hl => ?_)
  obtain ⟨n9, hd⟩ := hd
  exact bb_X8_orders_4 K hr  n9 x0 x1_1 x3_2 g0 _ _ _ hd hw (lv_sub hl [2, 1, 0] rfl)
theorem dX8_lowest_0 : decode cX8_lowest 0 = .ok (.lload_n 0, 1) := by decide +kernel
theorem dX8_lowest_1 : decode cX8_lowest 1 = .ok (.lstore 5, 2) := by decide +kernel
theorem dX8_lowest_3 : decode cX8_lowest 3 = .ok (.lload_n 2, 1) := by decide +kernel
theorem dX8_lowest_4 : decode cX8_lowest 4 = .ok (.lstore 7, 2) := by decide +kernel
theorem dX8_lowest_6 : decode cX8_lowest 6 = .ok (.lload 7, 2) := by decide +kernel
theorem dX8_lowest_8 : decode cX8_lowest 8 = .ok (.lconst 0, 1) := by decide +kernel
theorem dX8_lowest_9 : decode cX8_lowest 9 = .ok (.lcmp, 1) := by decide +kernel
theorem dX8_lowest_10 : decode cX8_lowest 10 = .ok (.ifCond .eq 21, 3) := by decide +kernel
theorem dX8_lowest_13 : decode cX8_lowest 13 = .ok (.lload 5, 2) := by decide +kernel
theorem dX8_lowest_15 : decode cX8_lowest 15 = .ok (.lload 7, 2) := by decide +kernel
theorem dX8_lowest_17 : decode cX8_lowest 17 = .ok (.lrem, 1) := by decide +kernel
theorem dX8_lowest_18 : decode cX8_lowest 18 = .ok (.lstore 9, 2) := by decide +kernel
theorem dX8_lowest_20 : decode cX8_lowest 20 = .ok (.lload 7, 2) := by decide +kernel
theorem dX8_lowest_22 : decode cX8_lowest 22 = .ok (.lstore 5, 2) := by decide +kernel
theorem dX8_lowest_24 : decode cX8_lowest 24 = .ok (.lload 9, 2) := by decide +kernel
theorem dX8_lowest_26 : decode cX8_lowest 26 = .ok (.lstore 7, 2) := by decide +kernel
theorem dX8_lowest_28 : decode cX8_lowest 28 = .ok (.goto (-22), 3) := by decide +kernel
theorem dX8_lowest_31 : decode cX8_lowest 31 = .ok (.iload 4, 2) := by decide +kernel
theorem dX8_lowest_33 : decode cX8_lowest 33 = .ok (.ifCond .ne 10, 3) := by decide +kernel
theorem dX8_lowest_36 : decode cX8_lowest 36 = .ok (.lload_n 0, 1) := by decide +kernel
theorem dX8_lowest_37 : decode cX8_lowest 37 = .ok (.lload 5, 2) := by decide +kernel
theorem dX8_lowest_39 : decode cX8_lowest 39 = .ok (.ldiv, 1) := by decide +kernel
theorem dX8_lowest_40 : decode cX8_lowest 40 = .ok (.goto 7, 3) := by decide +kernel
theorem dX8_lowest_43 : decode cX8_lowest 43 = .ok (.lload_n 2, 1) := by decide +kernel
theorem dX8_lowest_44 : decode cX8_lowest 44 = .ok (.lload 5, 2) := by decide +kernel
theorem dX8_lowest_46 : decode cX8_lowest 46 = .ok (.ldiv, 1) := by decide +kernel
theorem dX8_lowest_47 : decode cX8_lowest 47 = .ok (.lreturn, 1) := by decide +kernel
set_option maxHeartbeats 4000000 in
set_option maxRecDepth 100000 in
theorem bb_X8_lowest_6 {p : Program} {l : Launch} {e : Env} {s : State} {m : MethodId} {args : Array Value} {below : List Frame} {meth : Method} {c : Code} {D : va_G} {cy : Nat → ClassId} {ad : Nat → Nat} {A : Nat → Prop} {Q : Int64 → Sg → Prop} (K : Kx p s m args meth c cX8_lowest 11 RX8 D cy) (hr : meth.sig.returnType = (some .long)) : ∀ (n : Nat) (x0 : Int64) (x2 : Int64) (x4 : Int32) (x5 : Int64) (x7 : Int64)  (g0 : Sg) (H : Heap) (locs : List Loc) (ls : Array Slot), vv_X8_lowest_L6 Q n x0 x2 x4 x5 x7 g0 → Wd D A s.heap (wsM cy ad g0) H locs → lv_has ls 11 [(0, .long x0), (2, .long x2), (4, .int x4), (5, .long x5), (7, .long x7)] → W p l e (rmD 0) s m args below meth c H locs 0 0 (MQ below (va_Ql Q (PostG (wsM cy ad) D A) A) args s 0 0 A) (F0 m 6 ls []) := by
  intro n
  induction n with
  | zero => intro _ _ _ _ _ _ _ _ _ hd; exact hd.elim
  | succ n ih =>
    intro x0 x2 x4 x5 x7 g0 H locs ls hd hw hl
    unfold vv_X8_lowest_L6 at hd
    refine lv_lload K.1 K.2.1 dX8_lowest_6 (lv_at hl 4 rfl) ?_
    refine lv_lconst (v := (0 : Int64)) K.1 K.2.1 dX8_lowest_8 rfl ?_
    refine W.lcmp K.1 K.2.1 dX8_lowest_9 ?_
    refine lv_if_eq (tgt := 31) K.1 K.2.1 dX8_lowest_10 (by decide) (fun h_3 => ?_) (fun h_3 => ?_)
    · have hd := hd.1 h_3
      refine lv_iload K.1 K.2.1 dX8_lowest_31 (lv_at hl 2 rfl) ?_
      refine lv_if_ne (tgt := 43) K.1 K.2.1 dX8_lowest_33 (by decide) (fun h_4 => ?_) (fun h_4 => ?_)
      · have hd := hd.1 h_4
        refine lv_lload_n K.1 K.2.1 dX8_lowest_43 rfl (lv_at hl 1 rfl) ?_
        refine lv_lload K.1 K.2.1 dX8_lowest_44 (lv_at hl 3 rfl) ?_
        have hb := hd.1
        have hd := hd.2
        refine lv_ldiv K.1 K.2.1 dX8_lowest_46 hb ?_
        exact rk_lret K hw hr hd dX8_lowest_47
      · have hd := hd.2 h_4
        refine lv_lload_n K.1 K.2.1 dX8_lowest_36 rfl (lv_at hl 0 rfl) ?_
        refine lv_lload K.1 K.2.1 dX8_lowest_37 (lv_at hl 3 rfl) ?_
        have hb := hd.1
        have hd := hd.2
        refine lv_ldiv K.1 K.2.1 dX8_lowest_39 hb ?_
        refine lv_goto (tgt := 47) K.1 K.2.1 dX8_lowest_40 (by decide) ?_
        exact rk_lret K hw hr hd dX8_lowest_47
    · have hd := hd.2 h_3
      refine lv_lload K.1 K.2.1 dX8_lowest_13 (lv_at hl 3 rfl) ?_
      refine lv_lload K.1 K.2.1 dX8_lowest_15 (lv_at hl 4 rfl) ?_
      have hb := hd.1
      have hd := hd.2
      refine lv_lrem K.1 K.2.1 dX8_lowest_17 hb ?_
      refine lv_topl (fun x9_5 ex9_5 => ?_)
      have hd := hd x9_5 ex9_5
      refine lv_lstore (lv' := [(9, .long x9_5), (0, .long x0), (2, .long x2), (4, .int x4), (5, .long x5), (7, .long x7)]) K.1 K.2.1 dX8_lowest_18 hl (by decide) rfl (fun ls hl => ?_)
      refine lv_lload K.1 K.2.1 dX8_lowest_20 (lv_at hl 5 rfl) ?_
      refine lv_topl (fun x5_6 ex5_6 => ?_)
      have hd := hd x5_6 ex5_6
      refine lv_lstore (lv' := [(5, .long x5_6), (9, .long x9_5), (0, .long x0), (2, .long x2), (4, .int x4), (7, .long x7)]) K.1 K.2.1 dX8_lowest_22 hl (by decide) rfl (fun ls hl => ?_)
      refine lv_lload K.1 K.2.1 dX8_lowest_24 (lv_at hl 1 rfl) ?_
      refine lv_topl (fun x7_7 ex7_7 => ?_)
      have hd := hd x7_7 ex7_7
      refine lv_lstore (lv' := [(7, .long x7_7), (5, .long x5_6), (9, .long x9_5), (0, .long x0), (2, .long x2), (4, .int x4)]) K.1 K.2.1 dX8_lowest_26 hl (by decide) rfl (fun ls hl => ?_)
      refine lv_goto (tgt := 6) K.1 K.2.1 dX8_lowest_28 (by decide) ?_
      exact ih x0 x2 x4 x5_6 x7_7 g0 _ _ _ hd hw (lv_sub hl [3, 4, 5, 1, 0] rfl)
set_option maxHeartbeats 4000000 in
set_option maxRecDepth 100000 in
theorem cc_X8_lowest (l : Launch) (D : va_G) (cy : Nat → ClassId) (ad : Nat → Nat) (A : Nat → Prop) (g0 : Sg) (Q : Int64 → Sg → Prop) (x0 : Int64) (x2 : Int64) (x4 : Int32) (hd : vv_X8_lowest x0 x2 x4 g0 Q) : Met l yX8_lowest (Cond.code yX8_lowest cX8_lowest 11 (some .long) :: TT) (rmD 0) (va_Pc [.long x0, .long x2, .int x4] (PreG (wsM cy ad) D cy A g0)) (va_Ql Q (PostG (wsM cy ad) D A) A) 0 0 A := by
  unfold vv_X8_lowest at hd
  refine Met.ofW (cc := cX8_lowest) (maxL := 11) (ret := (some .long)) (by decide) rfl ?_
  intro p e s m args below meth c s₁ B hml hv
  obtain ⟨rfl, hP, hK0, hD⟩ := hv
  have K : Kx p s m _ meth c cX8_lowest 11 RX8 D cy := ⟨B.exec, B.bytes, hml, findClass_of_methodNamed B.named, fun w h => atoms_spec (ws := Cond.code yX8_lowest cX8_lowest 11 (some .long) :: TT) B.pre w (List.mem_cons_of_mem _ h), hK0, B.notSynchronized⟩
  have hw : Wd D A s.heap (wsM cy ad g0) s.heap [] := ⟨hP, hD, va_S.rf⟩
  have hr := B.returns
  have hl := lv_entry ([.long x0, .long x2, .int x4]) (n := 11) (Nat.le_of_ble_eq_true rfl)
  rw [lg_entry_eq]
  generalize (lg_sl ([.long x0, .long x2, .int x4]) ++ List.replicate (11 - (lg_sl ([.long x0, .long x2, .int x4])).length) Slot.unset).toArray = ls at hl ⊢
  have hl : lv_has ls 11 [(0, .long x0), (2, .long x2), (4, .int x4)] := hl
  refine lv_lload_n K.1 K.2.1 dX8_lowest_0 rfl (lv_at hl 0 rfl) ?_
  refine lv_topl (fun x5_1 ex5_1 => ?_)
  have hd := hd x5_1 ex5_1
  refine lv_lstore (lv' := [(5, .long x5_1), (0, .long x0), (2, .long x2), (4, .int x4)]) K.1 K.2.1 dX8_lowest_1 hl (by decide) rfl (fun ls hl => ?_)
  refine lv_lload_n K.1 K.2.1 dX8_lowest_3 rfl (lv_at hl 2 rfl) ?_
  refine lv_topl (fun x7_2 ex7_2 => ?_)
  have hd := hd x7_2 ex7_2
  refine lv_lstore (lv' := [(7, .long x7_2), (5, .long x5_1), (0, .long x0), (2, .long x2), (4, .int x4)]) K.1 K.2.1 dX8_lowest_4 hl (by decide) rfl (fun ls hl => ?_)
  obtain ⟨n9, hd⟩ := hd
  exact bb_X8_lowest_6 K hr  n9 x0 x2 x4 x5_1 x7_2 g0 _ _ _ hd hw (lv_sub hl [2, 3, 4, 1, 0] rfl)
theorem dX8_power_0 : decode cX8_power 0 = .ok (.aload_n 0, 1) := by decide +kernel
theorem dX8_power_1 : decode cX8_power 1 = .ok (.iload_n 1, 1) := by decide +kernel
theorem dX8_power_2 : decode cX8_power 2 = .ok (.invokevirtual 73, 3) := by decide +kernel
theorem dX8_power_5 : decode cX8_power 5 = .ok (.ifCond .eq 21, 3) := by decide +kernel
theorem dX8_power_8 : decode cX8_power 8 = .ok (.aload_n 0, 1) := by decide +kernel
theorem dX8_power_9 : decode cX8_power 9 = .ok (.iload_n 1, 1) := by decide +kernel
theorem dX8_power_10 : decode cX8_power 10 = .ok (.invokevirtual 115, 3) := by decide +kernel
theorem dX8_power_13 : decode cX8_power 13 = .ok (.ifCond .eq 13, 3) := by decide +kernel
theorem dX8_power_16 : decode cX8_power 16 = .ok (.iload_n 2, 1) := by decide +kernel
theorem dX8_power_17 : decode cX8_power 17 = .ok (.i2l, 1) := by decide +kernel
theorem dX8_power_18 : decode cX8_power 18 = .ok (.lconst 0, 1) := by decide +kernel
theorem dX8_power_19 : decode cX8_power 19 = .ok (.lconst 1, 1) := by decide +kernel
theorem dX8_power_20 : decode cX8_power 20 = .ok (.invokestatic 67, 3) := by decide +kernel
theorem dX8_power_23 : decode cX8_power 23 = .ok (.ifCond .ne 7, 3) := by decide +kernel
theorem dX8_power_26 : decode cX8_power 26 = .ok (.ldc2_w 394, 3) := by decide +kernel
theorem dX8_power_29 : decode cX8_power 29 = .ok (.lreturn, 1) := by decide +kernel
theorem dX8_power_30 : decode cX8_power 30 = .ok (.aload_n 0, 1) := by decide +kernel
theorem dX8_power_31 : decode cX8_power 31 = .ok (.iload_n 1, 1) := by decide +kernel
theorem dX8_power_32 : decode cX8_power 32 = .ok (.invokevirtual 387, 3) := by decide +kernel
theorem dX8_power_35 : decode cX8_power 35 = .ok (.aload_n 0, 1) := by decide +kernel
theorem dX8_power_36 : decode cX8_power 36 = .ok (.iconst 1, 1) := by decide +kernel
theorem dX8_power_37 : decode cX8_power 37 = .ok (.aload_n 0, 1) := by decide +kernel
theorem dX8_power_38 : decode cX8_power 38 = .ok (.getfield 378, 3) := by decide +kernel
theorem dX8_power_41 : decode cX8_power 41 = .ok (.ishl, 1) := by decide +kernel
theorem dX8_power_42 : decode cX8_power 42 = .ok (.iconst 1, 1) := by decide +kernel
theorem dX8_power_43 : decode cX8_power 43 = .ok (.isub, 1) := by decide +kernel
theorem dX8_power_44 : decode cX8_power 44 = .ok (.invokevirtual 384, 3) := by decide +kernel
theorem dX8_power_47 : decode cX8_power 47 = .ok (.aload_n 0, 1) := by decide +kernel
theorem dX8_power_48 : decode cX8_power 48 = .ok (.getfield 23, 3) := by decide +kernel
theorem dX8_power_51 : decode cX8_power 51 = .ok (.if_icmp .ge 7, 3) := by decide +kernel
theorem dX8_power_54 : decode cX8_power 54 = .ok (.ldc2_w 394, 3) := by decide +kernel
theorem dX8_power_57 : decode cX8_power 57 = .ok (.lreturn, 1) := by decide +kernel
theorem dX8_power_58 : decode cX8_power 58 = .ok (.lconst 0, 1) := by decide +kernel
theorem dX8_power_59 : decode cX8_power 59 = .ok (.lstore_n 3, 1) := by decide +kernel
theorem dX8_power_60 : decode cX8_power 60 = .ok (.iconst 0, 1) := by decide +kernel
theorem dX8_power_61 : decode cX8_power 61 = .ok (.istore 5, 2) := by decide +kernel
theorem dX8_power_63 : decode cX8_power 63 = .ok (.iload 5, 2) := by decide +kernel
theorem dX8_power_65 : decode cX8_power 65 = .ok (.iconst 1, 1) := by decide +kernel
theorem dX8_power_66 : decode cX8_power 66 = .ok (.aload_n 0, 1) := by decide +kernel
theorem dX8_power_67 : decode cX8_power 67 = .ok (.getfield 378, 3) := by decide +kernel
theorem dX8_power_70 : decode cX8_power 70 = .ok (.ishl, 1) := by decide +kernel
theorem dX8_power_71 : decode cX8_power 71 = .ok (.if_icmp .ge 101, 3) := by decide +kernel
theorem dX8_power_74 : decode cX8_power 74 = .ok (.aload_n 0, 1) := by decide +kernel
theorem dX8_power_75 : decode cX8_power 75 = .ok (.iload 5, 2) := by decide +kernel
theorem dX8_power_77 : decode cX8_power 77 = .ok (.invokevirtual 384, 3) := by decide +kernel
theorem dX8_power_80 : decode cX8_power 80 = .ok (.istore 6, 2) := by decide +kernel
theorem dX8_power_82 : decode cX8_power 82 = .ok (.iload 5, 2) := by decide +kernel
theorem dX8_power_84 : decode cX8_power 84 = .ok (.aload_n 0, 1) := by decide +kernel
theorem dX8_power_85 : decode cX8_power 85 = .ok (.getfield 381, 3) := by decide +kernel
theorem dX8_power_88 : decode cX8_power 88 = .ok (.ishr, 1) := by decide +kernel
theorem dX8_power_89 : decode cX8_power 89 = .ok (.iconst 1, 1) := by decide +kernel
theorem dX8_power_90 : decode cX8_power 90 = .ok (.iand, 1) := by decide +kernel
theorem dX8_power_91 : decode cX8_power 91 = .ok (.iconst 1, 1) := by decide +kernel
theorem dX8_power_92 : decode cX8_power 92 = .ok (.if_icmp .ne 7, 3) := by decide +kernel
theorem dX8_power_95 : decode cX8_power 95 = .ok (.iconst 1, 1) := by decide +kernel
theorem dX8_power_96 : decode cX8_power 96 = .ok (.goto 4, 3) := by decide +kernel
theorem dX8_power_99 : decode cX8_power 99 = .ok (.iconst 0, 1) := by decide +kernel
theorem dX8_power_100 : decode cX8_power 100 = .ok (.istore 7, 2) := by decide +kernel
theorem dX8_power_102 : decode cX8_power 102 = .ok (.lload_n 3, 1) := by decide +kernel
theorem dX8_power_103 : decode cX8_power 103 = .ok (.iload 7, 2) := by decide +kernel
theorem dX8_power_105 : decode cX8_power 105 = .ok (.ifCond .eq 58, 3) := by decide +kernel
theorem dX8_power_108 : decode cX8_power 108 = .ok (.iload 6, 2) := by decide +kernel
theorem dX8_power_110 : decode cX8_power 110 = .ok (.aload_n 0, 1) := by decide +kernel
theorem dX8_power_111 : decode cX8_power 111 = .ok (.getfield 23, 3) := by decide +kernel
theorem dX8_power_114 : decode cX8_power 114 = .ok (.if_icmp .lt 49, 3) := by decide +kernel
theorem dX8_power_117 : decode cX8_power 117 = .ok (.iload 6, 2) := by decide +kernel
theorem dX8_power_119 : decode cX8_power 119 = .ok (.aload_n 0, 1) := by decide +kernel
theorem dX8_power_120 : decode cX8_power 120 = .ok (.getfield 35, 3) := by decide +kernel
theorem dX8_power_123 : decode cX8_power 123 = .ok (.aload_n 0, 1) := by decide +kernel
theorem dX8_power_124 : decode cX8_power 124 = .ok (.getfield 381, 3) := by decide +kernel
theorem dX8_power_127 : decode cX8_power 127 = .ok (.iaload, 1) := by decide +kernel
theorem dX8_power_128 : decode cX8_power 128 = .ok (.isub, 1) := by decide +kernel
theorem dX8_power_129 : decode cX8_power 129 = .ok (.aload_n 0, 1) := by decide +kernel
theorem dX8_power_130 : decode cX8_power 130 = .ok (.getfield 23, 3) := by decide +kernel
theorem dX8_power_133 : decode cX8_power 133 = .ok (.if_icmp .ge 30, 3) := by decide +kernel
theorem dX8_power_136 : decode cX8_power 136 = .ok (.iload 5, 2) := by decide +kernel
theorem dX8_power_138 : decode cX8_power 138 = .ok (.invokestatic 375, 3) := by decide +kernel
theorem dX8_power_141 : decode cX8_power 141 = .ok (.iconst 1, 1) := by decide +kernel
theorem dX8_power_142 : decode cX8_power 142 = .ok (.isub, 1) := by decide +kernel
theorem dX8_power_143 : decode cX8_power 143 = .ok (.invokestatic 396, 3) := by decide +kernel
theorem dX8_power_146 : decode cX8_power 146 = .ok (.aload_n 0, 1) := by decide +kernel
theorem dX8_power_147 : decode cX8_power 147 = .ok (.getfield 378, 3) := by decide +kernel
theorem dX8_power_150 : decode cX8_power 150 = .ok (.iload 5, 2) := by decide +kernel
theorem dX8_power_152 : decode cX8_power 152 = .ok (.invokestatic 375, 3) := by decide +kernel
theorem dX8_power_155 : decode cX8_power 155 = .ok (.isub, 1) := by decide +kernel
theorem dX8_power_156 : decode cX8_power 156 = .ok (.invokestatic 396, 3) := by decide +kernel
theorem dX8_power_159 : decode cX8_power 159 = .ok (.lmul, 1) := by decide +kernel
theorem dX8_power_160 : decode cX8_power 160 = .ok (.goto 4, 3) := by decide +kernel
theorem dX8_power_163 : decode cX8_power 163 = .ok (.lconst 0, 1) := by decide +kernel
theorem dX8_power_164 : decode cX8_power 164 = .ok (.ladd, 1) := by decide +kernel
theorem dX8_power_165 : decode cX8_power 165 = .ok (.lstore_n 3, 1) := by decide +kernel
theorem dX8_power_166 : decode cX8_power 166 = .ok (.iinc 5 1, 3) := by decide +kernel
theorem dX8_power_169 : decode cX8_power 169 = .ok (.goto (-106), 3) := by decide +kernel
theorem dX8_power_172 : decode cX8_power 172 = .ok (.lload_n 3, 1) := by decide +kernel
theorem dX8_power_173 : decode cX8_power 173 = .ok (.aload_n 0, 1) := by decide +kernel
theorem dX8_power_174 : decode cX8_power 174 = .ok (.getfield 378, 3) := by decide +kernel
theorem dX8_power_177 : decode cX8_power 177 = .ok (.invokestatic 396, 3) := by decide +kernel
theorem dX8_power_180 : decode cX8_power 180 = .ok (.iload_n 2, 1) := by decide +kernel
theorem dX8_power_181 : decode cX8_power 181 = .ok (.invokestatic 400, 3) := by decide +kernel
theorem dX8_power_184 : decode cX8_power 184 = .ok (.lreturn, 1) := by decide +kernel
set_option maxHeartbeats 4000000 in
set_option maxRecDepth 100000 in
theorem bb_X8_power_164 {p : Program} {l : Launch} {e : Env} {s : State} {m : MethodId} {args : Array Value} {below : List Frame} {meth : Method} {c : Code} {D : va_G} {cy : Nat → ClassId} {ad : Nat → Nat} {A : Nat → Prop} {Q : Int64 → Sg → Prop} (K : Kx p s m args meth c cX8_power 8 RX8 D cy) (hr : meth.sig.returnType = (some .long)) {rc63 : Int32 → Int64 → Int32 → Sg → Prop} (hrc63 : ∀ (x2 : Int32) (x3 : Int64) (x5 : Int32) (u : Sg) (H : Heap) (locs : List Loc) (ls : Array Slot), rc63 x2 x3 x5 u → Wd D A s.heap (wsM cy ad u) H locs → lv_has ls 8 [(0, .ref (ad 0)), (2, .int x2), (3, .long x3), (5, .int x5)] → W p l e (rmD 45) s m args below meth c H locs 0 0 (MQ below (va_Ql Q (PostG (wsM cy ad) D A) A) args s 0 0 A) (F0 m 63 ls [])) (x2 : Int32) (x5 : Int32) (t0 : Int64) (t1 : Int64) (g0 : Sg) (H : Heap) (locs : List Loc) (ls : Array Slot) (hd : vv_X8_power_J164 rc63 x2 x5 t0 t1 g0 Q) (hw : Wd D A s.heap (wsM cy ad g0) H locs) (hl : lv_has ls 8 [(0, .ref (ad 0)), (2, .int x2), (5, .int x5)]) : W p l e (rmD 45) s m args below meth c H locs 0 0 (MQ below (va_Ql Q (PostG (wsM cy ad) D A) A) args s 0 0 A) (F0 m 164 ls [.long t1, .long t0]) := by
  unfold vv_X8_power_J164 at hd
  refine lv_ladd K.1 K.2.1 dX8_power_164 ?_
  refine lv_topl (fun x3_28 ex3_28 => ?_)
  have hd := hd x3_28 ex3_28
  refine lv_lstore_n (lv' := [(3, .long x3_28), (0, .ref (ad 0)), (2, .int x2), (5, .int x5)]) K.1 K.2.1 dX8_power_165 rfl hl (by decide) rfl (fun ls hl => ?_)
  obtain ⟨x5_29, ex5_29⟩ : ∃ y : Int32, y = x5 + (1 : Int32) := ⟨_, rfl⟩
  have hd := hd x5_29 ex5_29
  refine lv_iinc (v := x5_29) (lv' := [(5, .int x5_29), (3, .long x3_28), (0, .ref (ad 0)), (2, .int x2)]) K.1 K.2.1 dX8_power_166 hl (k := 3) rfl (by rw [ex5_29]; rfl) (by decide) rfl (fun ls hl => ?_)
  refine lv_goto (tgt := 63) K.1 K.2.1 dX8_power_169 (by decide) ?_
  exact hrc63 x2 x3_28 x5_29 g0 _ _ _ hd hw (lv_sub hl [2, 3, 1, 0] rfl)
set_option maxHeartbeats 4000000 in
set_option maxRecDepth 100000 in
theorem bb_X8_power_163 {p : Program} {l : Launch} {e : Env} {s : State} {m : MethodId} {args : Array Value} {below : List Frame} {meth : Method} {c : Code} {D : va_G} {cy : Nat → ClassId} {ad : Nat → Nat} {A : Nat → Prop} {Q : Int64 → Sg → Prop} (K : Kx p s m args meth c cX8_power 8 RX8 D cy) (hr : meth.sig.returnType = (some .long)) {rc63 : Int32 → Int64 → Int32 → Sg → Prop} (hrc63 : ∀ (x2 : Int32) (x3 : Int64) (x5 : Int32) (u : Sg) (H : Heap) (locs : List Loc) (ls : Array Slot), rc63 x2 x3 x5 u → Wd D A s.heap (wsM cy ad u) H locs → lv_has ls 8 [(0, .ref (ad 0)), (2, .int x2), (3, .long x3), (5, .int x5)] → W p l e (rmD 45) s m args below meth c H locs 0 0 (MQ below (va_Ql Q (PostG (wsM cy ad) D A) A) args s 0 0 A) (F0 m 63 ls [])) (x2 : Int32) (x5 : Int32) (t0 : Int64) (g0 : Sg) (H : Heap) (locs : List Loc) (ls : Array Slot) (hd : vv_X8_power_J163 rc63 x2 x5 t0 g0 Q) (hw : Wd D A s.heap (wsM cy ad g0) H locs) (hl : lv_has ls 8 [(0, .ref (ad 0)), (2, .int x2), (5, .int x5)]) : W p l e (rmD 45) s m args below meth c H locs 0 0 (MQ below (va_Ql Q (PostG (wsM cy ad) D A) A) args s 0 0 A) (F0 m 163 ls [.long t0]) := by
  unfold vv_X8_power_J163 at hd
  refine lv_lconst (v := (0 : Int64)) K.1 K.2.1 dX8_power_163 rfl ?_
  exact bb_X8_power_164 K hr hrc63 x2 x5 t0 (0 : Int64) g0 _ _ _ hd hw (lv_sub hl [0, 1, 2] rfl)
set_option maxHeartbeats 4000000 in
set_option maxRecDepth 100000 in
theorem bb_X8_power_100 {p : Program} {l : Launch} {e : Env} {s : State} {m : MethodId} {args : Array Value} {below : List Frame} {meth : Method} {c : Code} {D : va_G} {cy : Nat → ClassId} {ad : Nat → Nat} {A : Nat → Prop} {Q : Int64 → Sg → Prop} (K : Kx p s m args meth c cX8_power 8 RX8 D cy) (hr : meth.sig.returnType = (some .long)) {rc63 : Int32 → Int64 → Int32 → Sg → Prop} (hrc63 : ∀ (x2 : Int32) (x3 : Int64) (x5 : Int32) (u : Sg) (H : Heap) (locs : List Loc) (ls : Array Slot), rc63 x2 x3 x5 u → Wd D A s.heap (wsM cy ad u) H locs → lv_has ls 8 [(0, .ref (ad 0)), (2, .int x2), (3, .long x3), (5, .int x5)] → W p l e (rmD 45) s m args below meth c H locs 0 0 (MQ below (va_Ql Q (PostG (wsM cy ad) D A) A) args s 0 0 A) (F0 m 63 ls [])) (x2 : Int32) (x3 : Int64) (x5 : Int32) (x6 : Int32) (t0 : Int32) (g0 : Sg) (H : Heap) (locs : List Loc) (ls : Array Slot) (hd : vv_X8_power_J100 rc63 x2 x3 x5 x6 t0 g0 Q) (hw : Wd D A s.heap (wsM cy ad g0) H locs) (hl : lv_has ls 8 [(0, .ref (ad 0)), (2, .int x2), (3, .long x3), (5, .int x5), (6, .int x6)]) : W p l e (rmD 45) s m args below meth c H locs 0 0 (MQ below (va_Ql Q (PostG (wsM cy ad) D A) A) args s 0 0 A) (F0 m 100 ls [.int t0]) := by
  unfold vv_X8_power_J100 at hd
  refine lv_topi (fun x7_26 ex7_26 => ?_)
  have hd := hd x7_26 ex7_26
  refine lv_istore (lv' := [(7, .int x7_26), (0, .ref (ad 0)), (2, .int x2), (3, .long x3), (5, .int x5), (6, .int x6)]) K.1 K.2.1 dX8_power_100 hl (by decide) rfl (fun ls hl => ?_)
  refine lv_lload_n K.1 K.2.1 dX8_power_102 rfl (lv_at hl 3 rfl) ?_
  refine lv_iload K.1 K.2.1 dX8_power_103 (lv_at hl 0 rfl) ?_
  refine lv_if_eq (tgt := 163) K.1 K.2.1 dX8_power_105 (by decide) (fun h_27 => ?_) (fun h_27 => ?_)
  · have hd := hd.1 h_27
    exact bb_X8_power_163 K hr hrc63 x2 x5 x3 g0 _ _ _ hd hw (lv_sub hl [1, 2, 4] rfl)
  · have hd := hd.2 h_27
    refine lv_iload K.1 K.2.1 dX8_power_108 (lv_at hl 5 rfl) ?_
    refine lv_aload_n K.1 K.2.1 dX8_power_110 rfl (lv_at hl 1 rfl) ?_
    refine rm_get 8 K hw (by decide) kf_X8_23 rfl dX8_power_111 ?_
    refine lv_icmp_lt (tgt := 163) K.1 K.2.1 dX8_power_114 (by decide) (fun h_30 => ?_) (fun h_30 => ?_)
    · have hd := hd.1 h_30
      exact bb_X8_power_163 K hr hrc63 x2 x5 x3 g0 _ _ _ hd hw (lv_sub hl [1, 2, 4] rfl)
    · have hd := hd.2 h_30
      refine lv_iload K.1 K.2.1 dX8_power_117 (lv_at hl 5 rfl) ?_
      refine lv_aload_n K.1 K.2.1 dX8_power_119 rfl (lv_at hl 1 rfl) ?_
      refine rm_get 28 K hw (by decide) kf_X8_35 rfl dX8_power_120 ?_
      refine lv_aload_n K.1 K.2.1 dX8_power_123 rfl (lv_at hl 1 rfl) ?_
      refine rm_get 30 K hw (by decide) kf_X8_381 rfl dX8_power_124 ?_
      have hb := hd.1
      have hd := hd.2
      refine rm_iald 7 K hw (by decide) hb dX8_power_127 ?_
      refine lv_isub K.1 K.2.1 dX8_power_128 ?_
      refine lv_aload_n K.1 K.2.1 dX8_power_129 rfl (lv_at hl 1 rfl) ?_
      refine rm_get 8 K hw (by decide) kf_X8_23 rfl dX8_power_130 ?_
      refine lv_icmp_ge (tgt := 163) K.1 K.2.1 dX8_power_133 (by decide) (fun h_31 => ?_) (fun h_31 => ?_)
      · have hd := hd.1 h_31
        exact bb_X8_power_163 K hr hrc63 x2 x5 x3 g0 _ _ _ hd hw (lv_sub hl [1, 2, 4] rfl)
      · have hd := hd.2 h_31
        refine lv_iload K.1 K.2.1 dX8_power_136 (lv_at hl 4 rfl) ?_
        refine rk_si (As := [.int x5]) (rest := [.long x3]) K hw (cc_X8_bitsOf l D cy ad A g0 _ x5 hd) lk_X8_375 ⟨Nat.le_of_ble_eq_true rfl, Nat.le_of_ble_eq_true rfl⟩ ⟨Nat.zero_le _, Nat.zero_le _⟩ rfl hl.1 (Nat.le_of_ble_eq_true rfl) rfl dX8_power_138 (fun r_33 g_32 H locs hd hw => ?_)
        refine lv_iconst (v := (1 : Int32)) K.1 K.2.1 dX8_power_141 (by decide) ?_
        refine lv_isub K.1 K.2.1 dX8_power_142 ?_
        refine rk_sl (As := [.int (r_33 - (1 : Int32))]) (rest := [.long x3]) K hw (cc_X8_orders l D cy ad A g_32 _ (r_33 - (1 : Int32)) hd) lk_X8_396 ⟨Nat.le_of_ble_eq_true rfl, Nat.le_of_ble_eq_true rfl⟩ ⟨Nat.zero_le _, Nat.zero_le _⟩ rfl hl.1 (Nat.le_of_ble_eq_true rfl) rfl dX8_power_143 (fun r_35 g_34 H locs hd hw => ?_)
        refine lv_aload_n K.1 K.2.1 dX8_power_146 rfl (lv_at hl 1 rfl) ?_
        refine rm_get 29 K hw (by decide) kf_X8_378 rfl dX8_power_147 ?_
        refine lv_iload K.1 K.2.1 dX8_power_150 (lv_at hl 4 rfl) ?_
        refine rk_si (As := [.int x5]) (rest := [.int (g_34 0 29), .long r_35, .long x3]) K hw (cc_X8_bitsOf l D cy ad A g_34 _ x5 hd) lk_X8_375 ⟨Nat.le_of_ble_eq_true rfl, Nat.le_of_ble_eq_true rfl⟩ ⟨Nat.zero_le _, Nat.zero_le _⟩ rfl hl.1 (Nat.le_of_ble_eq_true rfl) rfl dX8_power_152 (fun r_37 g_36 H locs hd hw => ?_)
        refine lv_isub K.1 K.2.1 dX8_power_155 ?_
        refine rk_sl (As := [.int ((g_34 0 29) - r_37)]) (rest := [.long r_35, .long x3]) K hw (cc_X8_orders l D cy ad A g_36 _ ((g_34 0 29) - r_37) hd) lk_X8_396 ⟨Nat.le_of_ble_eq_true rfl, Nat.le_of_ble_eq_true rfl⟩ ⟨Nat.zero_le _, Nat.zero_le _⟩ rfl hl.1 (Nat.le_of_ble_eq_true rfl) rfl dX8_power_156 (fun r_39 g_38 H locs hd hw => ?_)
        refine lv_lmul K.1 K.2.1 dX8_power_159 ?_
        refine lv_goto (tgt := 164) K.1 K.2.1 dX8_power_160 (by decide) ?_
        exact bb_X8_power_164 K hr hrc63 x2 x5 x3 (r_35 * r_39) g_38 _ _ _ hd hw (lv_sub hl [1, 2, 4] rfl)
set_option maxHeartbeats 4000000 in
set_option maxRecDepth 100000 in
theorem bb_X8_power_63 {p : Program} {l : Launch} {e : Env} {s : State} {m : MethodId} {args : Array Value} {below : List Frame} {meth : Method} {c : Code} {D : va_G} {cy : Nat → ClassId} {ad : Nat → Nat} {A : Nat → Prop} {Q : Int64 → Sg → Prop} (K : Kx p s m args meth c cX8_power 8 RX8 D cy) (hr : meth.sig.returnType = (some .long)) : ∀ (n : Nat) (x2 : Int32) (x3 : Int64) (x5 : Int32)  (g0 : Sg) (H : Heap) (locs : List Loc) (ls : Array Slot), vv_X8_power_L63 Q n x2 x3 x5 g0 → Wd D A s.heap (wsM cy ad g0) H locs → lv_has ls 8 [(0, .ref (ad 0)), (2, .int x2), (3, .long x3), (5, .int x5)] → W p l e (rmD 45) s m args below meth c H locs 0 0 (MQ below (va_Ql Q (PostG (wsM cy ad) D A) A) args s 0 0 A) (F0 m 63 ls []) := by
  intro n
  induction n with
  | zero => intro _ _ _ _ _ _ _ hd; exact hd.elim
  | succ n ih =>
    intro x2 x3 x5 g0 H locs ls hd hw hl
    unfold vv_X8_power_L63 at hd
    refine lv_iload K.1 K.2.1 dX8_power_63 (lv_at hl 3 rfl) ?_
    refine lv_iconst (v := (1 : Int32)) K.1 K.2.1 dX8_power_65 (by decide) ?_
    refine lv_aload_n K.1 K.2.1 dX8_power_66 rfl (lv_at hl 0 rfl) ?_
    refine rm_get 29 K hw (by decide) kf_X8_378 rfl dX8_power_67 ?_
    refine lv_ishl K.1 K.2.1 dX8_power_70 ?_
    refine lv_icmp_ge (tgt := 172) K.1 K.2.1 dX8_power_71 (by decide) (fun h_17 => ?_) (fun h_17 => ?_)
    · have hd := hd.1 h_17
      refine lv_lload_n K.1 K.2.1 dX8_power_172 rfl (lv_at hl 2 rfl) ?_
      refine lv_aload_n K.1 K.2.1 dX8_power_173 rfl (lv_at hl 0 rfl) ?_
      refine rm_get 29 K hw (by decide) kf_X8_378 rfl dX8_power_174 ?_
      refine rk_sl (As := [.int (g0 0 29)]) (rest := [.long x3]) K hw (cc_X8_orders l D cy ad A g0 _ (g0 0 29) hd) lk_X8_396 ⟨Nat.le_of_ble_eq_true rfl, Nat.le_of_ble_eq_true rfl⟩ ⟨Nat.zero_le _, Nat.zero_le _⟩ rfl hl.1 (Nat.le_of_ble_eq_true rfl) rfl dX8_power_177 (fun r_19 g_18 H locs hd hw => ?_)
      refine lv_iload_n K.1 K.2.1 dX8_power_180 rfl (lv_at hl 1 rfl) ?_
      refine rk_sl (As := [.long x3, .long r_19, .int x2]) (rest := []) K hw (cc_X8_lowest l D cy ad A g_18 _ x3 r_19 x2 hd) lk_X8_400 ⟨Nat.le_of_ble_eq_true rfl, Nat.le_of_ble_eq_true rfl⟩ ⟨Nat.zero_le _, Nat.zero_le _⟩ rfl hl.1 (Nat.le_of_ble_eq_true rfl) rfl dX8_power_181 (fun r_21 g_20 H locs hd hw => ?_)
      exact rk_lret K hw hr hd dX8_power_184
    · have hd := hd.2 h_17
      refine lv_aload_n K.1 K.2.1 dX8_power_74 rfl (lv_at hl 0 rfl) ?_
      refine lv_iload K.1 K.2.1 dX8_power_75 (lv_at hl 3 rfl) ?_
      refine rk_vi (As := [.int x5]) (rest := []) K hw (cc_X8_weightOf l D cy ad A g0 _ x5 hd) lk_X8_384 (ci := 8) rfl (q0 := 0) (wsM_at cy ad _ (by decide)) ⟨Nat.le_of_ble_eq_true rfl, Nat.le_of_ble_eq_true rfl⟩ ⟨Nat.zero_le _, Nat.zero_le _⟩ rfl hl.1 (Nat.le_of_ble_eq_true rfl) rfl dX8_power_77 (fun r_23 g_22 H locs hd hw => ?_)
      refine lv_topi (fun x6_24 ex6_24 => ?_)
      have hd := hd x6_24 ex6_24
      refine lv_istore (lv' := [(6, .int x6_24), (0, .ref (ad 0)), (2, .int x2), (3, .long x3), (5, .int x5)]) K.1 K.2.1 dX8_power_80 hl (by decide) rfl (fun ls hl => ?_)
      refine lv_iload K.1 K.2.1 dX8_power_82 (lv_at hl 4 rfl) ?_
      refine lv_aload_n K.1 K.2.1 dX8_power_84 rfl (lv_at hl 1 rfl) ?_
      refine rm_get 30 K hw (by decide) kf_X8_381 rfl dX8_power_85 ?_
      refine lv_ishr K.1 K.2.1 dX8_power_88 ?_
      refine lv_iconst (v := (1 : Int32)) K.1 K.2.1 dX8_power_89 (by decide) ?_
      refine lv_iand K.1 K.2.1 dX8_power_90 ?_
      refine lv_iconst (v := (1 : Int32)) K.1 K.2.1 dX8_power_91 (by decide) ?_
      refine lv_icmp_ne (tgt := 99) K.1 K.2.1 dX8_power_92 (by decide) (fun h_25 => ?_) (fun h_25 => ?_)
      · have hd := hd.1 h_25
        refine lv_iconst (v := (0 : Int32)) K.1 K.2.1 dX8_power_99 (by decide) ?_
        exact bb_X8_power_100 K hr ih x2 x3 x5 x6_24 (0 : Int32) g_22 _ _ _ hd hw (lv_sub hl [1, 2, 3, 4, 0] rfl)
      · have hd := hd.2 h_25
        refine lv_iconst (v := (1 : Int32)) K.1 K.2.1 dX8_power_95 (by decide) ?_
        refine lv_goto (tgt := 100) K.1 K.2.1 dX8_power_96 (by decide) ?_
        exact bb_X8_power_100 K hr ih x2 x3 x5 x6_24 (1 : Int32) g_22 _ _ _ hd hw (lv_sub hl [1, 2, 3, 4, 0] rfl)
set_option maxHeartbeats 4000000 in
set_option maxRecDepth 100000 in
theorem cc_X8_power (l : Launch) (D : va_G) (cy : Nat → ClassId) (ad : Nat → Nat) (A : Nat → Prop) (g0 : Sg) (Q : Int64 → Sg → Prop) (x1 : Int32) (x2 : Int32) (hd : vv_X8_power x1 x2 g0 Q) : Met l yX8_power (Cond.code yX8_power cX8_power 8 (some .long) :: TT) (rmD 45) (va_Pc [.ref (ad 0), .int x1, .int x2] (PreG (wsM cy ad) D cy A g0)) (va_Ql Q (PostG (wsM cy ad) D A) A) 0 0 A := by
  unfold vv_X8_power at hd
  refine Met.ofW (cc := cX8_power) (maxL := 8) (ret := (some .long)) (by decide) rfl ?_
  intro p e s m args below meth c s₁ B hml hv
  obtain ⟨rfl, hP, hK0, hD⟩ := hv
  have K : Kx p s m _ meth c cX8_power 8 RX8 D cy := ⟨B.exec, B.bytes, hml, findClass_of_methodNamed B.named, fun w h => atoms_spec (ws := Cond.code yX8_power cX8_power 8 (some .long) :: TT) B.pre w (List.mem_cons_of_mem _ h), hK0, B.notSynchronized⟩
  have hw : Wd D A s.heap (wsM cy ad g0) s.heap [] := ⟨hP, hD, va_S.rf⟩
  have hr := B.returns
  have hl := lv_entry ([.ref (ad 0), .int x1, .int x2]) (n := 8) (Nat.le_of_ble_eq_true rfl)
  rw [lg_entry_eq]
  generalize (lg_sl ([.ref (ad 0), .int x1, .int x2]) ++ List.replicate (8 - (lg_sl ([.ref (ad 0), .int x1, .int x2])).length) Slot.unset).toArray = ls at hl ⊢
  have hl : lv_has ls 8 [(0, .ref (ad 0)), (1, .int x1), (2, .int x2)] := hl
  refine lv_aload_n K.1 K.2.1 dX8_power_0 rfl (lv_at hl 0 rfl) ?_
  refine lv_iload_n K.1 K.2.1 dX8_power_1 rfl (lv_at hl 1 rfl) ?_
  refine rk_vi (As := [.int x1]) (rest := []) K hw (cc_X8_isOne l D cy ad A g0 _ x1 hd) lk_X8_73 (ci := 8) rfl (q0 := 0) (wsM_at cy ad _ (by decide)) ⟨Nat.le_of_ble_eq_true rfl, Nat.le_of_ble_eq_true rfl⟩ ⟨Nat.zero_le _, Nat.zero_le _⟩ rfl hl.1 (Nat.le_of_ble_eq_true rfl) rfl dX8_power_2 (fun r_2 g_1 H locs hd hw => ?_)
  refine lv_if_eq (tgt := 26) K.1 K.2.1 dX8_power_5 (by decide) (fun h_3 => ?_) (fun h_3 => ?_)
  · have hd := hd.1 h_3
    refine lv_ldc2 K.1 K.2.1 K.2.2.2.1 (K.2.2.2.2.1 _ kl_X8_394) dX8_power_26 ?_
    exact rk_lret K hw hr hd dX8_power_29
  · have hd := hd.2 h_3
    refine lv_aload_n K.1 K.2.1 dX8_power_8 rfl (lv_at hl 0 rfl) ?_
    refine lv_iload_n K.1 K.2.1 dX8_power_9 rfl (lv_at hl 1 rfl) ?_
    refine rk_vi (As := [.int x1]) (rest := []) K hw (cc_X8_isWhole l D cy ad A g_1 _ x1 hd) lk_X8_115 (ci := 8) rfl (q0 := 0) (wsM_at cy ad _ (by decide)) ⟨Nat.le_of_ble_eq_true rfl, Nat.le_of_ble_eq_true rfl⟩ ⟨Nat.zero_le _, Nat.zero_le _⟩ rfl hl.1 (Nat.le_of_ble_eq_true rfl) rfl dX8_power_10 (fun r_5 g_4 H locs hd hw => ?_)
    refine lv_if_eq (tgt := 26) K.1 K.2.1 dX8_power_13 (by decide) (fun h_6 => ?_) (fun h_6 => ?_)
    · have hd := hd.1 h_6
      refine lv_ldc2 K.1 K.2.1 K.2.2.2.1 (K.2.2.2.2.1 _ kl_X8_394) dX8_power_26 ?_
      exact rk_lret K hw hr hd dX8_power_29
    · have hd := hd.2 h_6
      refine lv_iload_n K.1 K.2.1 dX8_power_16 rfl (lv_at hl 2 rfl) ?_
      refine lv_i2l (v := x2.toInt64) K.1 K.2.1 dX8_power_17 rfl ?_
      refine lv_lconst (v := (0 : Int64)) K.1 K.2.1 dX8_power_18 rfl ?_
      refine lv_lconst (v := (1 : Int64)) K.1 K.2.1 dX8_power_19 rfl ?_
      refine rk_si (As := [.long x2.toInt64, .long (0 : Int64), .long (1 : Int64)]) (rest := []) K hw (cc_X8_in l D cy ad A g_4 _ (x2.toInt64) (0 : Int64) (1 : Int64) hd) lk_X8_67 ⟨Nat.le_of_ble_eq_true rfl, Nat.le_of_ble_eq_true rfl⟩ ⟨Nat.zero_le _, Nat.zero_le _⟩ rfl hl.1 (Nat.le_of_ble_eq_true rfl) rfl dX8_power_20 (fun r_8 g_7 H locs hd hw => ?_)
      refine lv_if_ne (tgt := 30) K.1 K.2.1 dX8_power_23 (by decide) (fun h_9 => ?_) (fun h_9 => ?_)
      · have hd := hd.1 h_9
        refine lv_aload_n K.1 K.2.1 dX8_power_30 rfl (lv_at hl 0 rfl) ?_
        refine lv_iload_n K.1 K.2.1 dX8_power_31 rfl (lv_at hl 1 rfl) ?_
        refine rk_vv (As := [.int x1]) (rest := []) K hw (cc_X8_lines l D cy ad A g_7 _ x1 hd) lk_X8_387 (ci := 8) rfl (q0 := 0) (wsM_at cy ad _ (by decide)) ⟨Nat.le_of_ble_eq_true rfl, Nat.le_of_ble_eq_true rfl⟩ ⟨Nat.zero_le _, Nat.zero_le _⟩ rfl hl.1 (Nat.le_of_ble_eq_true rfl) rfl dX8_power_32 (fun g_10 H locs hd hw => ?_)
        refine lv_aload_n K.1 K.2.1 dX8_power_35 rfl (lv_at hl 0 rfl) ?_
        refine lv_iconst (v := (1 : Int32)) K.1 K.2.1 dX8_power_36 (by decide) ?_
        refine lv_aload_n K.1 K.2.1 dX8_power_37 rfl (lv_at hl 0 rfl) ?_
        refine rm_get 29 K hw (by decide) kf_X8_378 rfl dX8_power_38 ?_
        refine lv_ishl K.1 K.2.1 dX8_power_41 ?_
        refine lv_iconst (v := (1 : Int32)) K.1 K.2.1 dX8_power_42 (by decide) ?_
        refine lv_isub K.1 K.2.1 dX8_power_43 ?_
        refine rk_vi (As := [.int (((1 : Int32) <<< ((g_10 0 29) &&& 31)) - (1 : Int32))]) (rest := []) K hw (cc_X8_weightOf l D cy ad A g_10 _ (((1 : Int32) <<< ((g_10 0 29) &&& 31)) - (1 : Int32)) hd) lk_X8_384 (ci := 8) rfl (q0 := 0) (wsM_at cy ad _ (by decide)) ⟨Nat.le_of_ble_eq_true rfl, Nat.le_of_ble_eq_true rfl⟩ ⟨Nat.zero_le _, Nat.zero_le _⟩ rfl hl.1 (Nat.le_of_ble_eq_true rfl) rfl dX8_power_44 (fun r_13 g_12 H locs hd hw => ?_)
        refine lv_aload_n K.1 K.2.1 dX8_power_47 rfl (lv_at hl 0 rfl) ?_
        refine rm_get 8 K hw (by decide) kf_X8_23 rfl dX8_power_48 ?_
        refine lv_icmp_ge (tgt := 58) K.1 K.2.1 dX8_power_51 (by decide) (fun h_14 => ?_) (fun h_14 => ?_)
        · have hd := hd.1 h_14
          refine lv_lconst (v := (0 : Int64)) K.1 K.2.1 dX8_power_58 rfl ?_
          refine lv_topl (fun x3_15 ex3_15 => ?_)
          have hd := hd x3_15 ex3_15
          refine lv_lstore_n (lv' := [(3, .long x3_15), (0, .ref (ad 0)), (1, .int x1), (2, .int x2)]) K.1 K.2.1 dX8_power_59 rfl hl (by decide) rfl (fun ls hl => ?_)
          refine lv_iconst (v := (0 : Int32)) K.1 K.2.1 dX8_power_60 (by decide) ?_
          refine lv_topi (fun x5_16 ex5_16 => ?_)
          have hd := hd x5_16 ex5_16
          refine lv_istore (lv' := [(5, .int x5_16), (3, .long x3_15), (0, .ref (ad 0)), (1, .int x1), (2, .int x2)]) K.1 K.2.1 dX8_power_61 hl (by decide) rfl (fun ls hl => ?_)
          obtain ⟨n9, hd⟩ := hd
          exact bb_X8_power_63 K hr  n9 x2 x3_15 x5_16 g_12 _ _ _ hd hw (lv_sub hl [2, 4, 1, 0] rfl)
        · have hd := hd.2 h_14
          refine lv_ldc2 K.1 K.2.1 K.2.2.2.1 (K.2.2.2.2.1 _ kl_X8_394) dX8_power_54 ?_
          exact rk_lret K hw hr hd dX8_power_57
      · have hd := hd.2 h_9
        refine lv_ldc2 K.1 K.2.1 K.2.2.2.1 (K.2.2.2.2.1 _ kl_X8_394) dX8_power_26 ?_
        exact rk_lret K hw hr hd dX8_power_29
theorem dX8_wholeSet_0 : decode cX8_wholeSet 0 = .ok (.iconst 0, 1) := by decide +kernel
theorem dX8_wholeSet_1 : decode cX8_wholeSet 1 = .ok (.istore_n 1, 1) := by decide +kernel
theorem dX8_wholeSet_2 : decode cX8_wholeSet 2 = .ok (.iconst 0, 1) := by decide +kernel
theorem dX8_wholeSet_3 : decode cX8_wholeSet 3 = .ok (.istore_n 2, 1) := by decide +kernel
theorem dX8_wholeSet_4 : decode cX8_wholeSet 4 = .ok (.iload_n 2, 1) := by decide +kernel
theorem dX8_wholeSet_5 : decode cX8_wholeSet 5 = .ok (.aload_n 0, 1) := by decide +kernel
theorem dX8_wholeSet_6 : decode cX8_wholeSet 6 = .ok (.getfield 64, 3) := by decide +kernel
theorem dX8_wholeSet_9 : decode cX8_wholeSet 9 = .ok (.if_icmp .ge 27, 3) := by decide +kernel
theorem dX8_wholeSet_12 : decode cX8_wholeSet 12 = .ok (.iload_n 1, 1) := by decide +kernel
theorem dX8_wholeSet_13 : decode cX8_wholeSet 13 = .ok (.aload_n 0, 1) := by decide +kernel
theorem dX8_wholeSet_14 : decode cX8_wholeSet 14 = .ok (.iload_n 2, 1) := by decide +kernel
theorem dX8_wholeSet_15 : decode cX8_wholeSet 15 = .ok (.invokevirtual 115, 3) := by decide +kernel
theorem dX8_wholeSet_18 : decode cX8_wholeSet 18 = .ok (.ifCond .eq 7, 3) := by decide +kernel
theorem dX8_wholeSet_21 : decode cX8_wholeSet 21 = .ok (.iconst 1, 1) := by decide +kernel
theorem dX8_wholeSet_22 : decode cX8_wholeSet 22 = .ok (.goto 4, 3) := by decide +kernel
theorem dX8_wholeSet_25 : decode cX8_wholeSet 25 = .ok (.iconst 0, 1) := by decide +kernel
theorem dX8_wholeSet_26 : decode cX8_wholeSet 26 = .ok (.iload_n 2, 1) := by decide +kernel
theorem dX8_wholeSet_27 : decode cX8_wholeSet 27 = .ok (.ishl, 1) := by decide +kernel
theorem dX8_wholeSet_28 : decode cX8_wholeSet 28 = .ok (.ior, 1) := by decide +kernel
theorem dX8_wholeSet_29 : decode cX8_wholeSet 29 = .ok (.istore_n 1, 1) := by decide +kernel
theorem dX8_wholeSet_30 : decode cX8_wholeSet 30 = .ok (.iinc 2 1, 3) := by decide +kernel
theorem dX8_wholeSet_33 : decode cX8_wholeSet 33 = .ok (.goto (-29), 3) := by decide +kernel
theorem dX8_wholeSet_36 : decode cX8_wholeSet 36 = .ok (.iload_n 1, 1) := by decide +kernel
theorem dX8_wholeSet_37 : decode cX8_wholeSet 37 = .ok (.ireturn, 1) := by decide +kernel
set_option maxHeartbeats 4000000 in
set_option maxRecDepth 100000 in
theorem bb_X8_wholeSet_26 {p : Program} {l : Launch} {e : Env} {s : State} {m : MethodId} {args : Array Value} {below : List Frame} {meth : Method} {c : Code} {D : va_G} {cy : Nat → ClassId} {ad : Nat → Nat} {A : Nat → Prop} {Q : Int32 → Sg → Prop} (K : Kx p s m args meth c cX8_wholeSet 3 RX8 D cy) (hr : meth.sig.returnType = (some .int)) {rc4 : Int32 → Int32 → Sg → Prop} (hrc4 : ∀ (x1 : Int32) (x2 : Int32) (u : Sg) (H : Heap) (locs : List Loc) (ls : Array Slot), rc4 x1 x2 u → Wd D A s.heap (wsM cy ad u) H locs → lv_has ls 3 [(0, .ref (ad 0)), (1, .int x1), (2, .int x2)] → W p l e (rmD 1) s m args below meth c H locs 0 0 (MQ below (va_Qi Q (PostG (wsM cy ad) D A) A) args s 0 0 A) (F0 m 4 ls [])) (x2 : Int32) (t0 : Int32) (t1 : Int32) (g0 : Sg) (H : Heap) (locs : List Loc) (ls : Array Slot) (hd : vv_X8_wholeSet_J26 rc4 x2 t0 t1 g0 Q) (hw : Wd D A s.heap (wsM cy ad g0) H locs) (hl : lv_has ls 3 [(0, .ref (ad 0)), (2, .int x2)]) : W p l e (rmD 1) s m args below meth c H locs 0 0 (MQ below (va_Qi Q (PostG (wsM cy ad) D A) A) args s 0 0 A) (F0 m 26 ls [.int t1, .int t0]) := by
  unfold vv_X8_wholeSet_J26 at hd
  refine lv_iload_n K.1 K.2.1 dX8_wholeSet_26 rfl (lv_at hl 1 rfl) ?_
  refine lv_ishl K.1 K.2.1 dX8_wholeSet_27 ?_
  refine lv_ior K.1 K.2.1 dX8_wholeSet_28 ?_
  refine lv_topi (fun x1_7 ex1_7 => ?_)
  have hd := hd x1_7 ex1_7
  refine lv_istore_n (lv' := [(1, .int x1_7), (0, .ref (ad 0)), (2, .int x2)]) K.1 K.2.1 dX8_wholeSet_29 rfl hl (by decide) rfl (fun ls hl => ?_)
  obtain ⟨x2_8, ex2_8⟩ : ∃ y : Int32, y = x2 + (1 : Int32) := ⟨_, rfl⟩
  have hd := hd x2_8 ex2_8
  refine lv_iinc (v := x2_8) (lv' := [(2, .int x2_8), (1, .int x1_7), (0, .ref (ad 0))]) K.1 K.2.1 dX8_wholeSet_30 hl (k := 2) rfl (by rw [ex2_8]; rfl) (by decide) rfl (fun ls hl => ?_)
  refine lv_goto (tgt := 4) K.1 K.2.1 dX8_wholeSet_33 (by decide) ?_
  exact hrc4 x1_7 x2_8 g0 _ _ _ hd hw (lv_sub hl [2, 1, 0] rfl)
set_option maxHeartbeats 4000000 in
set_option maxRecDepth 100000 in
theorem bb_X8_wholeSet_4 {p : Program} {l : Launch} {e : Env} {s : State} {m : MethodId} {args : Array Value} {below : List Frame} {meth : Method} {c : Code} {D : va_G} {cy : Nat → ClassId} {ad : Nat → Nat} {A : Nat → Prop} {Q : Int32 → Sg → Prop} (K : Kx p s m args meth c cX8_wholeSet 3 RX8 D cy) (hr : meth.sig.returnType = (some .int)) : ∀ (n : Nat) (x1 : Int32) (x2 : Int32)  (g0 : Sg) (H : Heap) (locs : List Loc) (ls : Array Slot), vv_X8_wholeSet_L4 Q n x1 x2 g0 → Wd D A s.heap (wsM cy ad g0) H locs → lv_has ls 3 [(0, .ref (ad 0)), (1, .int x1), (2, .int x2)] → W p l e (rmD 1) s m args below meth c H locs 0 0 (MQ below (va_Qi Q (PostG (wsM cy ad) D A) A) args s 0 0 A) (F0 m 4 ls []) := by
  intro n
  induction n with
  | zero => intro _ _ _ _ _ _ hd; exact hd.elim
  | succ n ih =>
    intro x1 x2 g0 H locs ls hd hw hl
    unfold vv_X8_wholeSet_L4 at hd
    refine lv_iload_n K.1 K.2.1 dX8_wholeSet_4 rfl (lv_at hl 2 rfl) ?_
    refine lv_aload_n K.1 K.2.1 dX8_wholeSet_5 rfl (lv_at hl 0 rfl) ?_
    refine rm_get 11 K hw (by decide) kf_X8_64 rfl dX8_wholeSet_6 ?_
    refine lv_icmp_ge (tgt := 36) K.1 K.2.1 dX8_wholeSet_9 (by decide) (fun h_3 => ?_) (fun h_3 => ?_)
    · have hd := hd.1 h_3
      refine lv_iload_n K.1 K.2.1 dX8_wholeSet_36 rfl (lv_at hl 1 rfl) ?_
      exact rk_iret K hw hr hd dX8_wholeSet_37
    · have hd := hd.2 h_3
      refine lv_iload_n K.1 K.2.1 dX8_wholeSet_12 rfl (lv_at hl 1 rfl) ?_
      refine lv_aload_n K.1 K.2.1 dX8_wholeSet_13 rfl (lv_at hl 0 rfl) ?_
      refine lv_iload_n K.1 K.2.1 dX8_wholeSet_14 rfl (lv_at hl 2 rfl) ?_
      refine rk_vi (As := [.int x2]) (rest := [.int x1]) K hw (cc_X8_isWhole l D cy ad A g0 _ x2 hd) lk_X8_115 (ci := 8) rfl (q0 := 0) (wsM_at cy ad _ (by decide)) ⟨Nat.le_of_ble_eq_true rfl, Nat.le_of_ble_eq_true rfl⟩ ⟨Nat.zero_le _, Nat.zero_le _⟩ rfl hl.1 (Nat.le_of_ble_eq_true rfl) rfl dX8_wholeSet_15 (fun r_5 g_4 H locs hd hw => ?_)
      refine lv_if_eq (tgt := 25) K.1 K.2.1 dX8_wholeSet_18 (by decide) (fun h_6 => ?_) (fun h_6 => ?_)
      · have hd := hd.1 h_6
        refine lv_iconst (v := (0 : Int32)) K.1 K.2.1 dX8_wholeSet_25 (by decide) ?_
        exact bb_X8_wholeSet_26 K hr ih x2 x1 (0 : Int32) g_4 _ _ _ hd hw (lv_sub hl [0, 2] rfl)
      · have hd := hd.2 h_6
        refine lv_iconst (v := (1 : Int32)) K.1 K.2.1 dX8_wholeSet_21 (by decide) ?_
        refine lv_goto (tgt := 26) K.1 K.2.1 dX8_wholeSet_22 (by decide) ?_
        exact bb_X8_wholeSet_26 K hr ih x2 x1 (1 : Int32) g_4 _ _ _ hd hw (lv_sub hl [0, 2] rfl)
set_option maxHeartbeats 4000000 in
set_option maxRecDepth 100000 in
theorem cc_X8_wholeSet (l : Launch) (D : va_G) (cy : Nat → ClassId) (ad : Nat → Nat) (A : Nat → Prop) (g0 : Sg) (Q : Int32 → Sg → Prop)  (hd : vv_X8_wholeSet  g0 Q) : Met l yX8_wholeSet (Cond.code yX8_wholeSet cX8_wholeSet 3 (some .int) :: TT) (rmD 1) (va_Pc [.ref (ad 0)] (PreG (wsM cy ad) D cy A g0)) (va_Qi Q (PostG (wsM cy ad) D A) A) 0 0 A := by
  unfold vv_X8_wholeSet at hd
  refine Met.ofW (cc := cX8_wholeSet) (maxL := 3) (ret := (some .int)) (by decide) rfl ?_
  intro p e s m args below meth c s₁ B hml hv
  obtain ⟨rfl, hP, hK0, hD⟩ := hv
  have K : Kx p s m _ meth c cX8_wholeSet 3 RX8 D cy := ⟨B.exec, B.bytes, hml, findClass_of_methodNamed B.named, fun w h => atoms_spec (ws := Cond.code yX8_wholeSet cX8_wholeSet 3 (some .int) :: TT) B.pre w (List.mem_cons_of_mem _ h), hK0, B.notSynchronized⟩
  have hw : Wd D A s.heap (wsM cy ad g0) s.heap [] := ⟨hP, hD, va_S.rf⟩
  have hr := B.returns
  have hl := lv_entry ([.ref (ad 0)]) (n := 3) (Nat.le_of_ble_eq_true rfl)
  rw [lg_entry_eq]
  generalize (lg_sl ([.ref (ad 0)]) ++ List.replicate (3 - (lg_sl ([.ref (ad 0)])).length) Slot.unset).toArray = ls at hl ⊢
  have hl : lv_has ls 3 [(0, .ref (ad 0))] := hl
  refine lv_iconst (v := (0 : Int32)) K.1 K.2.1 dX8_wholeSet_0 (by decide) ?_
  refine lv_topi (fun x1_1 ex1_1 => ?_)
  have hd := hd x1_1 ex1_1
  refine lv_istore_n (lv' := [(1, .int x1_1), (0, .ref (ad 0))]) K.1 K.2.1 dX8_wholeSet_1 rfl hl (by decide) rfl (fun ls hl => ?_)
  refine lv_iconst (v := (0 : Int32)) K.1 K.2.1 dX8_wholeSet_2 (by decide) ?_
  refine lv_topi (fun x2_2 ex2_2 => ?_)
  have hd := hd x2_2 ex2_2
  refine lv_istore_n (lv' := [(2, .int x2_2), (1, .int x1_1), (0, .ref (ad 0))]) K.1 K.2.1 dX8_wholeSet_3 rfl hl (by decide) rfl (fun ls hl => ?_)
  obtain ⟨n9, hd⟩ := hd
  exact bb_X8_wholeSet_4 K hr  n9 x1_1 x2_2 g0 _ _ _ hd hw (lv_sub hl [2, 1, 0] rfl)
theorem dX8_allWeights_0 : decode cX8_allWeights 0 = .ok (.iconst 0, 1) := by decide +kernel
theorem dX8_allWeights_1 : decode cX8_allWeights 1 = .ok (.istore_n 2, 1) := by decide +kernel
theorem dX8_allWeights_2 : decode cX8_allWeights 2 = .ok (.iconst 0, 1) := by decide +kernel
theorem dX8_allWeights_3 : decode cX8_allWeights 3 = .ok (.istore_n 3, 1) := by decide +kernel
theorem dX8_allWeights_4 : decode cX8_allWeights 4 = .ok (.iload_n 3, 1) := by decide +kernel
theorem dX8_allWeights_5 : decode cX8_allWeights 5 = .ok (.aload_n 0, 1) := by decide +kernel
theorem dX8_allWeights_6 : decode cX8_allWeights 6 = .ok (.getfield 64, 3) := by decide +kernel
theorem dX8_allWeights_9 : decode cX8_allWeights 9 = .ok (.if_icmp .ge 30, 3) := by decide +kernel
theorem dX8_allWeights_12 : decode cX8_allWeights 12 = .ok (.iload_n 2, 1) := by decide +kernel
theorem dX8_allWeights_13 : decode cX8_allWeights 13 = .ok (.iload_n 1, 1) := by decide +kernel
theorem dX8_allWeights_14 : decode cX8_allWeights 14 = .ok (.iload_n 3, 1) := by decide +kernel
theorem dX8_allWeights_15 : decode cX8_allWeights 15 = .ok (.ishr, 1) := by decide +kernel
theorem dX8_allWeights_16 : decode cX8_allWeights 16 = .ok (.iconst 1, 1) := by decide +kernel
theorem dX8_allWeights_17 : decode cX8_allWeights 17 = .ok (.iand, 1) := by decide +kernel
theorem dX8_allWeights_18 : decode cX8_allWeights 18 = .ok (.iconst 1, 1) := by decide +kernel
theorem dX8_allWeights_19 : decode cX8_allWeights 19 = .ok (.if_icmp .ne 11, 3) := by decide +kernel
theorem dX8_allWeights_22 : decode cX8_allWeights 22 = .ok (.aload_n 0, 1) := by decide +kernel
theorem dX8_allWeights_23 : decode cX8_allWeights 23 = .ok (.iload_n 3, 1) := by decide +kernel
theorem dX8_allWeights_24 : decode cX8_allWeights 24 = .ok (.invokevirtual 121, 3) := by decide +kernel
theorem dX8_allWeights_27 : decode cX8_allWeights 27 = .ok (.goto 4, 3) := by decide +kernel
theorem dX8_allWeights_30 : decode cX8_allWeights 30 = .ok (.iconst 0, 1) := by decide +kernel
theorem dX8_allWeights_31 : decode cX8_allWeights 31 = .ok (.iadd, 1) := by decide +kernel
theorem dX8_allWeights_32 : decode cX8_allWeights 32 = .ok (.istore_n 2, 1) := by decide +kernel
theorem dX8_allWeights_33 : decode cX8_allWeights 33 = .ok (.iinc 3 1, 3) := by decide +kernel
theorem dX8_allWeights_36 : decode cX8_allWeights 36 = .ok (.goto (-32), 3) := by decide +kernel
theorem dX8_allWeights_39 : decode cX8_allWeights 39 = .ok (.iload_n 2, 1) := by decide +kernel
theorem dX8_allWeights_40 : decode cX8_allWeights 40 = .ok (.ireturn, 1) := by decide +kernel
set_option maxHeartbeats 4000000 in
set_option maxRecDepth 100000 in
theorem bb_X8_allWeights_31 {p : Program} {l : Launch} {e : Env} {s : State} {m : MethodId} {args : Array Value} {below : List Frame} {meth : Method} {c : Code} {D : va_G} {cy : Nat → ClassId} {ad : Nat → Nat} {A : Nat → Prop} {Q : Int32 → Sg → Prop} (K : Kx p s m args meth c cX8_allWeights 4 RX8 D cy) (hr : meth.sig.returnType = (some .int)) {rc4 : Int32 → Int32 → Int32 → Sg → Prop} (hrc4 : ∀ (x1 : Int32) (x2 : Int32) (x3 : Int32) (u : Sg) (H : Heap) (locs : List Loc) (ls : Array Slot), rc4 x1 x2 x3 u → Wd D A s.heap (wsM cy ad u) H locs → lv_has ls 4 [(0, .ref (ad 0)), (1, .int x1), (2, .int x2), (3, .int x3)] → W p l e (rmD 44) s m args below meth c H locs 0 0 (MQ below (va_Qi Q (PostG (wsM cy ad) D A) A) args s 0 0 A) (F0 m 4 ls [])) (x1 : Int32) (x3 : Int32) (t0 : Int32) (t1 : Int32) (g0 : Sg) (H : Heap) (locs : List Loc) (ls : Array Slot) (hd : vv_X8_allWeights_J31 rc4 x1 x3 t0 t1 g0 Q) (hw : Wd D A s.heap (wsM cy ad g0) H locs) (hl : lv_has ls 4 [(0, .ref (ad 0)), (1, .int x1), (3, .int x3)]) : W p l e (rmD 44) s m args below meth c H locs 0 0 (MQ below (va_Qi Q (PostG (wsM cy ad) D A) A) args s 0 0 A) (F0 m 31 ls [.int t1, .int t0]) := by
  unfold vv_X8_allWeights_J31 at hd
  refine lv_iadd K.1 K.2.1 dX8_allWeights_31 ?_
  refine lv_topi (fun x2_5 ex2_5 => ?_)
  have hd := hd x2_5 ex2_5
  refine lv_istore_n (lv' := [(2, .int x2_5), (0, .ref (ad 0)), (1, .int x1), (3, .int x3)]) K.1 K.2.1 dX8_allWeights_32 rfl hl (by decide) rfl (fun ls hl => ?_)
  obtain ⟨x3_6, ex3_6⟩ : ∃ y : Int32, y = x3 + (1 : Int32) := ⟨_, rfl⟩
  have hd := hd x3_6 ex3_6
  refine lv_iinc (v := x3_6) (lv' := [(3, .int x3_6), (2, .int x2_5), (0, .ref (ad 0)), (1, .int x1)]) K.1 K.2.1 dX8_allWeights_33 hl (k := 3) rfl (by rw [ex3_6]; rfl) (by decide) rfl (fun ls hl => ?_)
  refine lv_goto (tgt := 4) K.1 K.2.1 dX8_allWeights_36 (by decide) ?_
  exact hrc4 x1 x2_5 x3_6 g0 _ _ _ hd hw (lv_sub hl [2, 3, 1, 0] rfl)
set_option maxHeartbeats 4000000 in
set_option maxRecDepth 100000 in
theorem bb_X8_allWeights_4 {p : Program} {l : Launch} {e : Env} {s : State} {m : MethodId} {args : Array Value} {below : List Frame} {meth : Method} {c : Code} {D : va_G} {cy : Nat → ClassId} {ad : Nat → Nat} {A : Nat → Prop} {Q : Int32 → Sg → Prop} (K : Kx p s m args meth c cX8_allWeights 4 RX8 D cy) (hr : meth.sig.returnType = (some .int)) : ∀ (n : Nat) (x1 : Int32) (x2 : Int32) (x3 : Int32)  (g0 : Sg) (H : Heap) (locs : List Loc) (ls : Array Slot), vv_X8_allWeights_L4 Q n x1 x2 x3 g0 → Wd D A s.heap (wsM cy ad g0) H locs → lv_has ls 4 [(0, .ref (ad 0)), (1, .int x1), (2, .int x2), (3, .int x3)] → W p l e (rmD 44) s m args below meth c H locs 0 0 (MQ below (va_Qi Q (PostG (wsM cy ad) D A) A) args s 0 0 A) (F0 m 4 ls []) := by
  intro n
  induction n with
  | zero => intro _ _ _ _ _ _ _ hd; exact hd.elim
  | succ n ih =>
    intro x1 x2 x3 g0 H locs ls hd hw hl
    unfold vv_X8_allWeights_L4 at hd
    refine lv_iload_n K.1 K.2.1 dX8_allWeights_4 rfl (lv_at hl 3 rfl) ?_
    refine lv_aload_n K.1 K.2.1 dX8_allWeights_5 rfl (lv_at hl 0 rfl) ?_
    refine rm_get 11 K hw (by decide) kf_X8_64 rfl dX8_allWeights_6 ?_
    refine lv_icmp_ge (tgt := 39) K.1 K.2.1 dX8_allWeights_9 (by decide) (fun h_3 => ?_) (fun h_3 => ?_)
    · have hd := hd.1 h_3
      refine lv_iload_n K.1 K.2.1 dX8_allWeights_39 rfl (lv_at hl 2 rfl) ?_
      exact rk_iret K hw hr hd dX8_allWeights_40
    · have hd := hd.2 h_3
      refine lv_iload_n K.1 K.2.1 dX8_allWeights_12 rfl (lv_at hl 2 rfl) ?_
      refine lv_iload_n K.1 K.2.1 dX8_allWeights_13 rfl (lv_at hl 1 rfl) ?_
      refine lv_iload_n K.1 K.2.1 dX8_allWeights_14 rfl (lv_at hl 3 rfl) ?_
      refine lv_ishr K.1 K.2.1 dX8_allWeights_15 ?_
      refine lv_iconst (v := (1 : Int32)) K.1 K.2.1 dX8_allWeights_16 (by decide) ?_
      refine lv_iand K.1 K.2.1 dX8_allWeights_17 ?_
      refine lv_iconst (v := (1 : Int32)) K.1 K.2.1 dX8_allWeights_18 (by decide) ?_
      refine lv_icmp_ne (tgt := 30) K.1 K.2.1 dX8_allWeights_19 (by decide) (fun h_4 => ?_) (fun h_4 => ?_)
      · have hd := hd.1 h_4
        refine lv_iconst (v := (0 : Int32)) K.1 K.2.1 dX8_allWeights_30 (by decide) ?_
        exact bb_X8_allWeights_31 K hr ih x1 x3 x2 (0 : Int32) g0 _ _ _ hd hw (lv_sub hl [0, 1, 3] rfl)
      · have hd := hd.2 h_4
        refine lv_aload_n K.1 K.2.1 dX8_allWeights_22 rfl (lv_at hl 0 rfl) ?_
        refine lv_iload_n K.1 K.2.1 dX8_allWeights_23 rfl (lv_at hl 3 rfl) ?_
        refine rk_vi (As := [.int x3]) (rest := [.int x2]) K hw (cc_X8_weighsOf l D cy ad A g0 _ x3 hd) lk_X8_121 (ci := 8) rfl (q0 := 0) (wsM_at cy ad _ (by decide)) ⟨Nat.le_of_ble_eq_true rfl, Nat.le_of_ble_eq_true rfl⟩ ⟨Nat.zero_le _, Nat.zero_le _⟩ rfl hl.1 (Nat.le_of_ble_eq_true rfl) rfl dX8_allWeights_24 (fun r_8 g_7 H locs hd hw => ?_)
        refine lv_goto (tgt := 31) K.1 K.2.1 dX8_allWeights_27 (by decide) ?_
        exact bb_X8_allWeights_31 K hr ih x1 x3 x2 r_8 g_7 _ _ _ hd hw (lv_sub hl [0, 1, 3] rfl)
set_option maxHeartbeats 4000000 in
set_option maxRecDepth 100000 in
theorem cc_X8_allWeights (l : Launch) (D : va_G) (cy : Nat → ClassId) (ad : Nat → Nat) (A : Nat → Prop) (g0 : Sg) (Q : Int32 → Sg → Prop) (x1 : Int32) (hd : vv_X8_allWeights x1 g0 Q) : Met l yX8_allWeights (Cond.code yX8_allWeights cX8_allWeights 4 (some .int) :: TT) (rmD 44) (va_Pc [.ref (ad 0), .int x1] (PreG (wsM cy ad) D cy A g0)) (va_Qi Q (PostG (wsM cy ad) D A) A) 0 0 A := by
  unfold vv_X8_allWeights at hd
  refine Met.ofW (cc := cX8_allWeights) (maxL := 4) (ret := (some .int)) (by decide) rfl ?_
  intro p e s m args below meth c s₁ B hml hv
  obtain ⟨rfl, hP, hK0, hD⟩ := hv
  have K : Kx p s m _ meth c cX8_allWeights 4 RX8 D cy := ⟨B.exec, B.bytes, hml, findClass_of_methodNamed B.named, fun w h => atoms_spec (ws := Cond.code yX8_allWeights cX8_allWeights 4 (some .int) :: TT) B.pre w (List.mem_cons_of_mem _ h), hK0, B.notSynchronized⟩
  have hw : Wd D A s.heap (wsM cy ad g0) s.heap [] := ⟨hP, hD, va_S.rf⟩
  have hr := B.returns
  have hl := lv_entry ([.ref (ad 0), .int x1]) (n := 4) (Nat.le_of_ble_eq_true rfl)
  rw [lg_entry_eq]
  generalize (lg_sl ([.ref (ad 0), .int x1]) ++ List.replicate (4 - (lg_sl ([.ref (ad 0), .int x1])).length) Slot.unset).toArray = ls at hl ⊢
  have hl : lv_has ls 4 [(0, .ref (ad 0)), (1, .int x1)] := hl
  refine lv_iconst (v := (0 : Int32)) K.1 K.2.1 dX8_allWeights_0 (by decide) ?_
  refine lv_topi (fun x2_1 ex2_1 => ?_)
  have hd := hd x2_1 ex2_1
  refine lv_istore_n (lv' := [(2, .int x2_1), (0, .ref (ad 0)), (1, .int x1)]) K.1 K.2.1 dX8_allWeights_1 rfl hl (by decide) rfl (fun ls hl => ?_)
  refine lv_iconst (v := (0 : Int32)) K.1 K.2.1 dX8_allWeights_2 (by decide) ?_
  refine lv_topi (fun x3_2 ex3_2 => ?_)
  have hd := hd x3_2 ex3_2
  refine lv_istore_n (lv' := [(3, .int x3_2), (2, .int x2_1), (0, .ref (ad 0)), (1, .int x1)]) K.1 K.2.1 dX8_allWeights_3 rfl hl (by decide) rfl (fun ls hl => ?_)
  obtain ⟨n9, hd⟩ := hd
  exact bb_X8_allWeights_4 K hr  n9 x1 x2_1 x3_2 g0 _ _ _ hd hw (lv_sub hl [2, 3, 1, 0] rfl)
theorem dX8_fewest_0 : decode cX8_fewest 0 = .ok (.iload_n 1, 1) := by decide +kernel
theorem dX8_fewest_1 : decode cX8_fewest 1 = .ok (.i2l, 1) := by decide +kernel
theorem dX8_fewest_2 : decode cX8_fewest 2 = .ok (.lconst 0, 1) := by decide +kernel
theorem dX8_fewest_3 : decode cX8_fewest 3 = .ok (.ldc2_w 360, 3) := by decide +kernel
theorem dX8_fewest_6 : decode cX8_fewest 6 = .ok (.invokestatic 67, 3) := by decide +kernel
theorem dX8_fewest_9 : decode cX8_fewest 9 = .ok (.ifCond .ne 6, 3) := by decide +kernel
theorem dX8_fewest_12 : decode cX8_fewest 12 = .ok (.bipush (-2), 2) := by decide +kernel
theorem dX8_fewest_14 : decode cX8_fewest 14 = .ok (.ireturn, 1) := by decide +kernel
theorem dX8_fewest_15 : decode cX8_fewest 15 = .ok (.aload_n 0, 1) := by decide +kernel
theorem dX8_fewest_16 : decode cX8_fewest 16 = .ok (.invokevirtual 404, 3) := by decide +kernel
theorem dX8_fewest_19 : decode cX8_fewest 19 = .ok (.istore_n 2, 1) := by decide +kernel
theorem dX8_fewest_20 : decode cX8_fewest 20 = .ok (.iconst (-1), 1) := by decide +kernel
theorem dX8_fewest_21 : decode cX8_fewest 21 = .ok (.istore_n 3, 1) := by decide +kernel
theorem dX8_fewest_22 : decode cX8_fewest 22 = .ok (.iconst 0, 1) := by decide +kernel
theorem dX8_fewest_23 : decode cX8_fewest 23 = .ok (.istore 4, 2) := by decide +kernel
theorem dX8_fewest_25 : decode cX8_fewest 25 = .ok (.iconst 0, 1) := by decide +kernel
theorem dX8_fewest_26 : decode cX8_fewest 26 = .ok (.istore 5, 2) := by decide +kernel
theorem dX8_fewest_28 : decode cX8_fewest 28 = .ok (.iload 5, 2) := by decide +kernel
theorem dX8_fewest_30 : decode cX8_fewest 30 = .ok (.iconst 1, 1) := by decide +kernel
theorem dX8_fewest_31 : decode cX8_fewest 31 = .ok (.aload_n 0, 1) := by decide +kernel
theorem dX8_fewest_32 : decode cX8_fewest 32 = .ok (.getfield 64, 3) := by decide +kernel
theorem dX8_fewest_35 : decode cX8_fewest 35 = .ok (.ishl, 1) := by decide +kernel
theorem dX8_fewest_36 : decode cX8_fewest 36 = .ok (.if_icmp .ge 58, 3) := by decide +kernel
theorem dX8_fewest_39 : decode cX8_fewest 39 = .ok (.iload 5, 2) := by decide +kernel
theorem dX8_fewest_41 : decode cX8_fewest 41 = .ok (.iload_n 2, 1) := by decide +kernel
theorem dX8_fewest_42 : decode cX8_fewest 42 = .ok (.iconst (-1), 1) := by decide +kernel
theorem dX8_fewest_43 : decode cX8_fewest 43 = .ok (.ixor, 1) := by decide +kernel
theorem dX8_fewest_44 : decode cX8_fewest 44 = .ok (.iand, 1) := by decide +kernel
theorem dX8_fewest_45 : decode cX8_fewest 45 = .ok (.ifCond .ne 43, 3) := by decide +kernel
theorem dX8_fewest_48 : decode cX8_fewest 48 = .ok (.aload_n 0, 1) := by decide +kernel
theorem dX8_fewest_49 : decode cX8_fewest 49 = .ok (.iload 5, 2) := by decide +kernel
theorem dX8_fewest_51 : decode cX8_fewest 51 = .ok (.invokevirtual 407, 3) := by decide +kernel
theorem dX8_fewest_54 : decode cX8_fewest 54 = .ok (.aload_n 0, 1) := by decide +kernel
theorem dX8_fewest_55 : decode cX8_fewest 55 = .ok (.getfield 23, 3) := by decide +kernel
theorem dX8_fewest_58 : decode cX8_fewest 58 = .ok (.if_icmp .lt 30, 3) := by decide +kernel
theorem dX8_fewest_61 : decode cX8_fewest 61 = .ok (.iinc 4 1, 3) := by decide +kernel
theorem dX8_fewest_64 : decode cX8_fewest 64 = .ok (.iload_n 3, 1) := by decide +kernel
theorem dX8_fewest_65 : decode cX8_fewest 65 = .ok (.iconst (-1), 1) := by decide +kernel
theorem dX8_fewest_66 : decode cX8_fewest 66 = .ok (.if_icmp .eq 15, 3) := by decide +kernel
theorem dX8_fewest_69 : decode cX8_fewest 69 = .ok (.iload 5, 2) := by decide +kernel
theorem dX8_fewest_71 : decode cX8_fewest 71 = .ok (.invokestatic 375, 3) := by decide +kernel
theorem dX8_fewest_74 : decode cX8_fewest 74 = .ok (.iload_n 3, 1) := by decide +kernel
theorem dX8_fewest_75 : decode cX8_fewest 75 = .ok (.invokestatic 375, 3) := by decide +kernel
theorem dX8_fewest_78 : decode cX8_fewest 78 = .ok (.if_icmp .ge 8, 3) := by decide +kernel
theorem dX8_fewest_81 : decode cX8_fewest 81 = .ok (.iload 5, 2) := by decide +kernel
theorem dX8_fewest_83 : decode cX8_fewest 83 = .ok (.goto 4, 3) := by decide +kernel
theorem dX8_fewest_86 : decode cX8_fewest 86 = .ok (.iload_n 3, 1) := by decide +kernel
theorem dX8_fewest_87 : decode cX8_fewest 87 = .ok (.istore_n 3, 1) := by decide +kernel
theorem dX8_fewest_88 : decode cX8_fewest 88 = .ok (.iinc 5 1, 3) := by decide +kernel
theorem dX8_fewest_91 : decode cX8_fewest 91 = .ok (.goto (-63), 3) := by decide +kernel
theorem dX8_fewest_94 : decode cX8_fewest 94 = .ok (.iload_n 1, 1) := by decide +kernel
theorem dX8_fewest_95 : decode cX8_fewest 95 = .ok (.iconst 2, 1) := by decide +kernel
theorem dX8_fewest_96 : decode cX8_fewest 96 = .ok (.if_icmp .ne 8, 3) := by decide +kernel
theorem dX8_fewest_99 : decode cX8_fewest 99 = .ok (.iload 4, 2) := by decide +kernel
theorem dX8_fewest_101 : decode cX8_fewest 101 = .ok (.goto 20, 3) := by decide +kernel
theorem dX8_fewest_104 : decode cX8_fewest 104 = .ok (.iload_n 3, 1) := by decide +kernel
theorem dX8_fewest_105 : decode cX8_fewest 105 = .ok (.iconst (-1), 1) := by decide +kernel
theorem dX8_fewest_106 : decode cX8_fewest 106 = .ok (.if_icmp .eq 7, 3) := by decide +kernel
theorem dX8_fewest_109 : decode cX8_fewest 109 = .ok (.iload_n 1, 1) := by decide +kernel
theorem dX8_fewest_110 : decode cX8_fewest 110 = .ok (.ifCond .ne 7, 3) := by decide +kernel
theorem dX8_fewest_113 : decode cX8_fewest 113 = .ok (.iload_n 3, 1) := by decide +kernel
theorem dX8_fewest_114 : decode cX8_fewest 114 = .ok (.goto 7, 3) := by decide +kernel
theorem dX8_fewest_117 : decode cX8_fewest 117 = .ok (.iload_n 3, 1) := by decide +kernel
theorem dX8_fewest_118 : decode cX8_fewest 118 = .ok (.invokestatic 375, 3) := by decide +kernel
theorem dX8_fewest_121 : decode cX8_fewest 121 = .ok (.ireturn, 1) := by decide +kernel
set_option maxHeartbeats 4000000 in
set_option maxRecDepth 100000 in
theorem bb_X8_fewest_113 {p : Program} {l : Launch} {e : Env} {s : State} {m : MethodId} {args : Array Value} {below : List Frame} {meth : Method} {c : Code} {D : va_G} {cy : Nat → ClassId} {ad : Nat → Nat} {A : Nat → Prop} {Q : Int32 → Sg → Prop} (K : Kx p s m args meth c cX8_fewest 6 RX8 D cy) (hr : meth.sig.returnType = (some .int)) (x3 : Int32)  (g0 : Sg) (H : Heap) (locs : List Loc) (ls : Array Slot) (hd : vv_X8_fewest_J113 x3 g0 Q) (hw : Wd D A s.heap (wsM cy ad g0) H locs) (hl : lv_has ls 6 [(3, .int x3)]) : W p l e (rmD 45) s m args below meth c H locs 0 0 (MQ below (va_Qi Q (PostG (wsM cy ad) D A) A) args s 0 0 A) (F0 m 113 ls []) := by
  unfold vv_X8_fewest_J113 at hd
  refine lv_iload_n K.1 K.2.1 dX8_fewest_113 rfl (lv_at hl 0 rfl) ?_
  refine lv_goto (tgt := 121) K.1 K.2.1 dX8_fewest_114 (by decide) ?_
  exact rk_iret K hw hr hd dX8_fewest_121
set_option maxHeartbeats 4000000 in
set_option maxRecDepth 100000 in
theorem bb_X8_fewest_88 {p : Program} {l : Launch} {e : Env} {s : State} {m : MethodId} {args : Array Value} {below : List Frame} {meth : Method} {c : Code} {D : va_G} {cy : Nat → ClassId} {ad : Nat → Nat} {A : Nat → Prop} {Q : Int32 → Sg → Prop} (K : Kx p s m args meth c cX8_fewest 6 RX8 D cy) (hr : meth.sig.returnType = (some .int)) {rc28 : Int32 → Int32 → Int32 → Int32 → Int32 → Sg → Prop} (hrc28 : ∀ (x1 : Int32) (x2 : Int32) (x3 : Int32) (x4 : Int32) (x5 : Int32) (u : Sg) (H : Heap) (locs : List Loc) (ls : Array Slot), rc28 x1 x2 x3 x4 x5 u → Wd D A s.heap (wsM cy ad u) H locs → lv_has ls 6 [(0, .ref (ad 0)), (1, .int x1), (2, .int x2), (3, .int x3), (4, .int x4), (5, .int x5)] → W p l e (rmD 45) s m args below meth c H locs 0 0 (MQ below (va_Qi Q (PostG (wsM cy ad) D A) A) args s 0 0 A) (F0 m 28 ls [])) (x1 : Int32) (x2 : Int32) (x3 : Int32) (x4 : Int32) (x5 : Int32)  (g0 : Sg) (H : Heap) (locs : List Loc) (ls : Array Slot) (hd : vv_X8_fewest_J88 rc28 x1 x2 x3 x4 x5 g0 Q) (hw : Wd D A s.heap (wsM cy ad g0) H locs) (hl : lv_has ls 6 [(0, .ref (ad 0)), (1, .int x1), (2, .int x2), (3, .int x3), (4, .int x4), (5, .int x5)]) : W p l e (rmD 45) s m args below meth c H locs 0 0 (MQ below (va_Qi Q (PostG (wsM cy ad) D A) A) args s 0 0 A) (F0 m 88 ls []) := by
  unfold vv_X8_fewest_J88 at hd
  obtain ⟨x5_17, ex5_17⟩ : ∃ y : Int32, y = x5 + (1 : Int32) := ⟨_, rfl⟩
  have hd := hd x5_17 ex5_17
  refine lv_iinc (v := x5_17) (lv' := [(5, .int x5_17), (0, .ref (ad 0)), (1, .int x1), (2, .int x2), (3, .int x3), (4, .int x4)]) K.1 K.2.1 dX8_fewest_88 hl (k := 5) rfl (by rw [ex5_17]; rfl) (by decide) rfl (fun ls hl => ?_)
  refine lv_goto (tgt := 28) K.1 K.2.1 dX8_fewest_91 (by decide) ?_
  exact hrc28 x1 x2 x3 x4 x5_17 g0 _ _ _ hd hw (lv_sub hl [1, 2, 3, 4, 5, 0] rfl)
set_option maxHeartbeats 4000000 in
set_option maxRecDepth 100000 in
theorem bb_X8_fewest_87 {p : Program} {l : Launch} {e : Env} {s : State} {m : MethodId} {args : Array Value} {below : List Frame} {meth : Method} {c : Code} {D : va_G} {cy : Nat → ClassId} {ad : Nat → Nat} {A : Nat → Prop} {Q : Int32 → Sg → Prop} (K : Kx p s m args meth c cX8_fewest 6 RX8 D cy) (hr : meth.sig.returnType = (some .int)) {rc28 : Int32 → Int32 → Int32 → Int32 → Int32 → Sg → Prop} (hrc28 : ∀ (x1 : Int32) (x2 : Int32) (x3 : Int32) (x4 : Int32) (x5 : Int32) (u : Sg) (H : Heap) (locs : List Loc) (ls : Array Slot), rc28 x1 x2 x3 x4 x5 u → Wd D A s.heap (wsM cy ad u) H locs → lv_has ls 6 [(0, .ref (ad 0)), (1, .int x1), (2, .int x2), (3, .int x3), (4, .int x4), (5, .int x5)] → W p l e (rmD 45) s m args below meth c H locs 0 0 (MQ below (va_Qi Q (PostG (wsM cy ad) D A) A) args s 0 0 A) (F0 m 28 ls [])) (x1 : Int32) (x2 : Int32) (x4 : Int32) (x5 : Int32) (t0 : Int32) (g0 : Sg) (H : Heap) (locs : List Loc) (ls : Array Slot) (hd : vv_X8_fewest_J87 rc28 x1 x2 x4 x5 t0 g0 Q) (hw : Wd D A s.heap (wsM cy ad g0) H locs) (hl : lv_has ls 6 [(0, .ref (ad 0)), (1, .int x1), (2, .int x2), (4, .int x4), (5, .int x5)]) : W p l e (rmD 45) s m args below meth c H locs 0 0 (MQ below (va_Qi Q (PostG (wsM cy ad) D A) A) args s 0 0 A) (F0 m 87 ls [.int t0]) := by
  unfold vv_X8_fewest_J87 at hd
  refine lv_topi (fun x3_23 ex3_23 => ?_)
  have hd := hd x3_23 ex3_23
  refine lv_istore_n (lv' := [(3, .int x3_23), (0, .ref (ad 0)), (1, .int x1), (2, .int x2), (4, .int x4), (5, .int x5)]) K.1 K.2.1 dX8_fewest_87 rfl hl (by decide) rfl (fun ls hl => ?_)
  exact bb_X8_fewest_88 K hr hrc28 x1 x2 x3_23 x4 x5 g0 _ _ _ hd hw (lv_sub hl [1, 2, 3, 0, 4, 5] rfl)
set_option maxHeartbeats 4000000 in
set_option maxRecDepth 100000 in
theorem bb_X8_fewest_81 {p : Program} {l : Launch} {e : Env} {s : State} {m : MethodId} {args : Array Value} {below : List Frame} {meth : Method} {c : Code} {D : va_G} {cy : Nat → ClassId} {ad : Nat → Nat} {A : Nat → Prop} {Q : Int32 → Sg → Prop} (K : Kx p s m args meth c cX8_fewest 6 RX8 D cy) (hr : meth.sig.returnType = (some .int)) {rc28 : Int32 → Int32 → Int32 → Int32 → Int32 → Sg → Prop} (hrc28 : ∀ (x1 : Int32) (x2 : Int32) (x3 : Int32) (x4 : Int32) (x5 : Int32) (u : Sg) (H : Heap) (locs : List Loc) (ls : Array Slot), rc28 x1 x2 x3 x4 x5 u → Wd D A s.heap (wsM cy ad u) H locs → lv_has ls 6 [(0, .ref (ad 0)), (1, .int x1), (2, .int x2), (3, .int x3), (4, .int x4), (5, .int x5)] → W p l e (rmD 45) s m args below meth c H locs 0 0 (MQ below (va_Qi Q (PostG (wsM cy ad) D A) A) args s 0 0 A) (F0 m 28 ls [])) (x1 : Int32) (x2 : Int32) (x4 : Int32) (x5 : Int32)  (g0 : Sg) (H : Heap) (locs : List Loc) (ls : Array Slot) (hd : vv_X8_fewest_J81 rc28 x1 x2 x4 x5 g0 Q) (hw : Wd D A s.heap (wsM cy ad g0) H locs) (hl : lv_has ls 6 [(0, .ref (ad 0)), (1, .int x1), (2, .int x2), (4, .int x4), (5, .int x5)]) : W p l e (rmD 45) s m args below meth c H locs 0 0 (MQ below (va_Qi Q (PostG (wsM cy ad) D A) A) args s 0 0 A) (F0 m 81 ls []) := by
  unfold vv_X8_fewest_J81 at hd
  refine lv_iload K.1 K.2.1 dX8_fewest_81 (lv_at hl 4 rfl) ?_
  refine lv_goto (tgt := 87) K.1 K.2.1 dX8_fewest_83 (by decide) ?_
  exact bb_X8_fewest_87 K hr hrc28 x1 x2 x4 x5 x5 g0 _ _ _ hd hw (lv_sub hl [0, 1, 2, 3, 4] rfl)
set_option maxHeartbeats 4000000 in
set_option maxRecDepth 100000 in
theorem bb_X8_fewest_28 {p : Program} {l : Launch} {e : Env} {s : State} {m : MethodId} {args : Array Value} {below : List Frame} {meth : Method} {c : Code} {D : va_G} {cy : Nat → ClassId} {ad : Nat → Nat} {A : Nat → Prop} {Q : Int32 → Sg → Prop} (K : Kx p s m args meth c cX8_fewest 6 RX8 D cy) (hr : meth.sig.returnType = (some .int)) : ∀ (n : Nat) (x1 : Int32) (x2 : Int32) (x3 : Int32) (x4 : Int32) (x5 : Int32)  (g0 : Sg) (H : Heap) (locs : List Loc) (ls : Array Slot), vv_X8_fewest_L28 Q n x1 x2 x3 x4 x5 g0 → Wd D A s.heap (wsM cy ad g0) H locs → lv_has ls 6 [(0, .ref (ad 0)), (1, .int x1), (2, .int x2), (3, .int x3), (4, .int x4), (5, .int x5)] → W p l e (rmD 45) s m args below meth c H locs 0 0 (MQ below (va_Qi Q (PostG (wsM cy ad) D A) A) args s 0 0 A) (F0 m 28 ls []) := by
  intro n
  induction n with
  | zero => intro _ _ _ _ _ _ _ _ _ hd; exact hd.elim
  | succ n ih =>
    intro x1 x2 x3 x4 x5 g0 H locs ls hd hw hl
    unfold vv_X8_fewest_L28 at hd
    refine lv_iload K.1 K.2.1 dX8_fewest_28 (lv_at hl 5 rfl) ?_
    refine lv_iconst (v := (1 : Int32)) K.1 K.2.1 dX8_fewest_30 (by decide) ?_
    refine lv_aload_n K.1 K.2.1 dX8_fewest_31 rfl (lv_at hl 0 rfl) ?_
    refine rm_get 11 K hw (by decide) kf_X8_64 rfl dX8_fewest_32 ?_
    refine lv_ishl K.1 K.2.1 dX8_fewest_35 ?_
    refine lv_icmp_ge (tgt := 94) K.1 K.2.1 dX8_fewest_36 (by decide) (fun h_10 => ?_) (fun h_10 => ?_)
    · have hd := hd.1 h_10
      refine lv_iload_n K.1 K.2.1 dX8_fewest_94 rfl (lv_at hl 1 rfl) ?_
      refine lv_iconst (v := (2 : Int32)) K.1 K.2.1 dX8_fewest_95 (by decide) ?_
      refine lv_icmp_ne (tgt := 104) K.1 K.2.1 dX8_fewest_96 (by decide) (fun h_11 => ?_) (fun h_11 => ?_)
      · have hd := hd.1 h_11
        refine lv_iload_n K.1 K.2.1 dX8_fewest_104 rfl (lv_at hl 3 rfl) ?_
        refine lv_iconst (v := (-1 : Int32)) K.1 K.2.1 dX8_fewest_105 (by decide) ?_
        refine lv_icmp_eq (tgt := 113) K.1 K.2.1 dX8_fewest_106 (by decide) (fun h_12 => ?_) (fun h_12 => ?_)
        · have hd := hd.1 h_12
          exact bb_X8_fewest_113 K hr  x3 g0 _ _ _ hd hw (lv_sub hl [3] rfl)
        · have hd := hd.2 h_12
          refine lv_iload_n K.1 K.2.1 dX8_fewest_109 rfl (lv_at hl 1 rfl) ?_
          refine lv_if_ne (tgt := 117) K.1 K.2.1 dX8_fewest_110 (by decide) (fun h_13 => ?_) (fun h_13 => ?_)
          · have hd := hd.1 h_13
            refine lv_iload_n K.1 K.2.1 dX8_fewest_117 rfl (lv_at hl 3 rfl) ?_
            refine rk_si (As := [.int x3]) (rest := []) K hw (cc_X8_bitsOf l D cy ad A g0 _ x3 hd) lk_X8_375 ⟨Nat.le_of_ble_eq_true rfl, Nat.le_of_ble_eq_true rfl⟩ ⟨Nat.zero_le _, Nat.zero_le _⟩ rfl hl.1 (Nat.le_of_ble_eq_true rfl) rfl dX8_fewest_118 (fun r_15 g_14 H locs hd hw => ?_)
            exact rk_iret K hw hr hd dX8_fewest_121
          · have hd := hd.2 h_13
            exact bb_X8_fewest_113 K hr  x3 g0 _ _ _ hd hw (lv_sub hl [3] rfl)
      · have hd := hd.2 h_11
        refine lv_iload K.1 K.2.1 dX8_fewest_99 (lv_at hl 4 rfl) ?_
        refine lv_goto (tgt := 121) K.1 K.2.1 dX8_fewest_101 (by decide) ?_
        exact rk_iret K hw hr hd dX8_fewest_121
    · have hd := hd.2 h_10
      refine lv_iload K.1 K.2.1 dX8_fewest_39 (lv_at hl 5 rfl) ?_
      refine lv_iload_n K.1 K.2.1 dX8_fewest_41 rfl (lv_at hl 2 rfl) ?_
      refine lv_iconst (v := (-1 : Int32)) K.1 K.2.1 dX8_fewest_42 (by decide) ?_
      refine lv_ixor K.1 K.2.1 dX8_fewest_43 ?_
      refine lv_iand K.1 K.2.1 dX8_fewest_44 ?_
      refine lv_if_ne (tgt := 88) K.1 K.2.1 dX8_fewest_45 (by decide) (fun h_16 => ?_) (fun h_16 => ?_)
      · have hd := hd.1 h_16
        exact bb_X8_fewest_88 K hr ih x1 x2 x3 x4 x5 g0 _ _ _ hd hw (lv_sub hl [0, 1, 2, 3, 4, 5] rfl)
      · have hd := hd.2 h_16
        refine lv_aload_n K.1 K.2.1 dX8_fewest_48 rfl (lv_at hl 0 rfl) ?_
        refine lv_iload K.1 K.2.1 dX8_fewest_49 (lv_at hl 5 rfl) ?_
        refine rk_vi (As := [.int x5]) (rest := []) K hw (cc_X8_allWeights l D cy ad A g0 _ x5 hd) lk_X8_407 (ci := 8) rfl (q0 := 0) (wsM_at cy ad _ (by decide)) ⟨Nat.le_of_ble_eq_true rfl, Nat.le_of_ble_eq_true rfl⟩ ⟨Nat.zero_le _, Nat.zero_le _⟩ rfl hl.1 (Nat.le_of_ble_eq_true rfl) rfl dX8_fewest_51 (fun r_19 g_18 H locs hd hw => ?_)
        refine lv_aload_n K.1 K.2.1 dX8_fewest_54 rfl (lv_at hl 0 rfl) ?_
        refine rm_get 8 K hw (by decide) kf_X8_23 rfl dX8_fewest_55 ?_
        refine lv_icmp_lt (tgt := 88) K.1 K.2.1 dX8_fewest_58 (by decide) (fun h_20 => ?_) (fun h_20 => ?_)
        · have hd := hd.1 h_20
          exact bb_X8_fewest_88 K hr ih x1 x2 x3 x4 x5 g_18 _ _ _ hd hw (lv_sub hl [0, 1, 2, 3, 4, 5] rfl)
        · have hd := hd.2 h_20
          obtain ⟨x4_21, ex4_21⟩ : ∃ y : Int32, y = x4 + (1 : Int32) := ⟨_, rfl⟩
          have hd := hd x4_21 ex4_21
          refine lv_iinc (v := x4_21) (lv' := [(4, .int x4_21), (0, .ref (ad 0)), (1, .int x1), (2, .int x2), (3, .int x3), (5, .int x5)]) K.1 K.2.1 dX8_fewest_61 hl (k := 4) rfl (by rw [ex4_21]; rfl) (by decide) rfl (fun ls hl => ?_)
          refine lv_iload_n K.1 K.2.1 dX8_fewest_64 rfl (lv_at hl 4 rfl) ?_
          refine lv_iconst (v := (-1 : Int32)) K.1 K.2.1 dX8_fewest_65 (by decide) ?_
          refine lv_icmp_eq (tgt := 81) K.1 K.2.1 dX8_fewest_66 (by decide) (fun h_22 => ?_) (fun h_22 => ?_)
          · have hd := hd.1 h_22
            exact bb_X8_fewest_81 K hr ih x1 x2 x4_21 x5 g_18 _ _ _ hd hw (lv_sub hl [1, 2, 3, 0, 5] rfl)
          · have hd := hd.2 h_22
            refine lv_iload K.1 K.2.1 dX8_fewest_69 (lv_at hl 5 rfl) ?_
            refine rk_si (As := [.int x5]) (rest := []) K hw (cc_X8_bitsOf l D cy ad A g_18 _ x5 hd) lk_X8_375 ⟨Nat.le_of_ble_eq_true rfl, Nat.le_of_ble_eq_true rfl⟩ ⟨Nat.zero_le _, Nat.zero_le _⟩ rfl hl.1 (Nat.le_of_ble_eq_true rfl) rfl dX8_fewest_71 (fun r_25 g_24 H locs hd hw => ?_)
            refine lv_iload_n K.1 K.2.1 dX8_fewest_74 rfl (lv_at hl 4 rfl) ?_
            refine rk_si (As := [.int x3]) (rest := [.int r_25]) K hw (cc_X8_bitsOf l D cy ad A g_24 _ x3 hd) lk_X8_375 ⟨Nat.le_of_ble_eq_true rfl, Nat.le_of_ble_eq_true rfl⟩ ⟨Nat.zero_le _, Nat.zero_le _⟩ rfl hl.1 (Nat.le_of_ble_eq_true rfl) rfl dX8_fewest_75 (fun r_27 g_26 H locs hd hw => ?_)
            refine lv_icmp_ge (tgt := 86) K.1 K.2.1 dX8_fewest_78 (by decide) (fun h_28 => ?_) (fun h_28 => ?_)
            · have hd := hd.1 h_28
              refine lv_iload_n K.1 K.2.1 dX8_fewest_86 rfl (lv_at hl 4 rfl) ?_
              exact bb_X8_fewest_87 K hr ih x1 x2 x4_21 x5 x3 g_26 _ _ _ hd hw (lv_sub hl [1, 2, 3, 0, 5] rfl)
            · have hd := hd.2 h_28
              exact bb_X8_fewest_81 K hr ih x1 x2 x4_21 x5 g_26 _ _ _ hd hw (lv_sub hl [1, 2, 3, 0, 5] rfl)
set_option maxHeartbeats 4000000 in
set_option maxRecDepth 100000 in
theorem cc_X8_fewest (l : Launch) (D : va_G) (cy : Nat → ClassId) (ad : Nat → Nat) (A : Nat → Prop) (g0 : Sg) (Q : Int32 → Sg → Prop) (x1 : Int32) (hd : vv_X8_fewest x1 g0 Q) : Met l yX8_fewest (Cond.code yX8_fewest cX8_fewest 6 (some .int) :: TT) (rmD 45) (va_Pc [.ref (ad 0), .int x1] (PreG (wsM cy ad) D cy A g0)) (va_Qi Q (PostG (wsM cy ad) D A) A) 0 0 A := by
  unfold vv_X8_fewest at hd
  refine Met.ofW (cc := cX8_fewest) (maxL := 6) (ret := (some .int)) (by decide) rfl ?_
  intro p e s m args below meth c s₁ B hml hv
  obtain ⟨rfl, hP, hK0, hD⟩ := hv
  have K : Kx p s m _ meth c cX8_fewest 6 RX8 D cy := ⟨B.exec, B.bytes, hml, findClass_of_methodNamed B.named, fun w h => atoms_spec (ws := Cond.code yX8_fewest cX8_fewest 6 (some .int) :: TT) B.pre w (List.mem_cons_of_mem _ h), hK0, B.notSynchronized⟩
  have hw : Wd D A s.heap (wsM cy ad g0) s.heap [] := ⟨hP, hD, va_S.rf⟩
  have hr := B.returns
  have hl := lv_entry ([.ref (ad 0), .int x1]) (n := 6) (Nat.le_of_ble_eq_true rfl)
  rw [lg_entry_eq]
  generalize (lg_sl ([.ref (ad 0), .int x1]) ++ List.replicate (6 - (lg_sl ([.ref (ad 0), .int x1])).length) Slot.unset).toArray = ls at hl ⊢
  have hl : lv_has ls 6 [(0, .ref (ad 0)), (1, .int x1)] := hl
  refine lv_iload_n K.1 K.2.1 dX8_fewest_0 rfl (lv_at hl 1 rfl) ?_
  refine lv_i2l (v := x1.toInt64) K.1 K.2.1 dX8_fewest_1 rfl ?_
  refine lv_lconst (v := (0 : Int64)) K.1 K.2.1 dX8_fewest_2 rfl ?_
  refine lv_ldc2 K.1 K.2.1 K.2.2.2.1 (K.2.2.2.2.1 _ kl_X8_360) dX8_fewest_3 ?_
  refine rk_si (As := [.long x1.toInt64, .long (0 : Int64), .long (2 : Int64)]) (rest := []) K hw (cc_X8_in l D cy ad A g0 _ (x1.toInt64) (0 : Int64) (2 : Int64) hd) lk_X8_67 ⟨Nat.le_of_ble_eq_true rfl, Nat.le_of_ble_eq_true rfl⟩ ⟨Nat.zero_le _, Nat.zero_le _⟩ rfl hl.1 (Nat.le_of_ble_eq_true rfl) rfl dX8_fewest_6 (fun r_2 g_1 H locs hd hw => ?_)
  refine lv_if_ne (tgt := 15) K.1 K.2.1 dX8_fewest_9 (by decide) (fun h_3 => ?_) (fun h_3 => ?_)
  · have hd := hd.1 h_3
    refine lv_aload_n K.1 K.2.1 dX8_fewest_15 rfl (lv_at hl 0 rfl) ?_
    refine rk_vi (As := []) (rest := []) K hw (cc_X8_wholeSet l D cy ad A g_1 _  hd) lk_X8_404 (ci := 8) rfl (q0 := 0) (wsM_at cy ad _ (by decide)) ⟨Nat.le_of_ble_eq_true rfl, Nat.le_of_ble_eq_true rfl⟩ ⟨Nat.zero_le _, Nat.zero_le _⟩ rfl hl.1 (Nat.le_of_ble_eq_true rfl) rfl dX8_fewest_16 (fun r_5 g_4 H locs hd hw => ?_)
    refine lv_topi (fun x2_6 ex2_6 => ?_)
    have hd := hd x2_6 ex2_6
    refine lv_istore_n (lv' := [(2, .int x2_6), (0, .ref (ad 0)), (1, .int x1)]) K.1 K.2.1 dX8_fewest_19 rfl hl (by decide) rfl (fun ls hl => ?_)
    refine lv_iconst (v := (-1 : Int32)) K.1 K.2.1 dX8_fewest_20 (by decide) ?_
    refine lv_topi (fun x3_7 ex3_7 => ?_)
    have hd := hd x3_7 ex3_7
    refine lv_istore_n (lv' := [(3, .int x3_7), (2, .int x2_6), (0, .ref (ad 0)), (1, .int x1)]) K.1 K.2.1 dX8_fewest_21 rfl hl (by decide) rfl (fun ls hl => ?_)
    refine lv_iconst (v := (0 : Int32)) K.1 K.2.1 dX8_fewest_22 (by decide) ?_
    refine lv_topi (fun x4_8 ex4_8 => ?_)
    have hd := hd x4_8 ex4_8
    refine lv_istore (lv' := [(4, .int x4_8), (3, .int x3_7), (2, .int x2_6), (0, .ref (ad 0)), (1, .int x1)]) K.1 K.2.1 dX8_fewest_23 hl (by decide) rfl (fun ls hl => ?_)
    refine lv_iconst (v := (0 : Int32)) K.1 K.2.1 dX8_fewest_25 (by decide) ?_
    refine lv_topi (fun x5_9 ex5_9 => ?_)
    have hd := hd x5_9 ex5_9
    refine lv_istore (lv' := [(5, .int x5_9), (4, .int x4_8), (3, .int x3_7), (2, .int x2_6), (0, .ref (ad 0)), (1, .int x1)]) K.1 K.2.1 dX8_fewest_26 hl (by decide) rfl (fun ls hl => ?_)
    obtain ⟨n9, hd⟩ := hd
    exact bb_X8_fewest_28 K hr  n9 x1 x2_6 x3_7 x4_8 x5_9 g_4 _ _ _ hd hw (lv_sub hl [4, 5, 3, 2, 1, 0] rfl)
  · have hd := hd.2 h_3
    refine lv_bipush (v := (-2 : Int32)) K.1 K.2.1 dX8_fewest_12 (by decide) ?_
    exact rk_iret K hw hr hd dX8_fewest_14
theorem dX8_stop_0 : decode cX8_stop 0 = .ok (.iload_n 1, 1) := by decide +kernel
theorem dX8_stop_1 : decode cX8_stop 1 = .ok (.i2l, 1) := by decide +kernel
theorem dX8_stop_2 : decode cX8_stop 2 = .ok (.lconst 0, 1) := by decide +kernel
theorem dX8_stop_3 : decode cX8_stop 3 = .ok (.ldc2_w 349, 3) := by decide +kernel
theorem dX8_stop_6 : decode cX8_stop 6 = .ok (.invokestatic 67, 3) := by decide +kernel
theorem dX8_stop_9 : decode cX8_stop 9 = .ok (.ifCond .eq 13, 3) := by decide +kernel
theorem dX8_stop_12 : decode cX8_stop 12 = .ok (.iload_n 2, 1) := by decide +kernel
theorem dX8_stop_13 : decode cX8_stop 13 = .ok (.i2l, 1) := by decide +kernel
theorem dX8_stop_14 : decode cX8_stop 14 = .ok (.lconst 0, 1) := by decide +kernel
theorem dX8_stop_15 : decode cX8_stop 15 = .ok (.lconst 1, 1) := by decide +kernel
theorem dX8_stop_16 : decode cX8_stop 16 = .ok (.invokestatic 67, 3) := by decide +kernel
theorem dX8_stop_19 : decode cX8_stop 19 = .ok (.ifCond .ne 6, 3) := by decide +kernel
theorem dX8_stop_22 : decode cX8_stop 22 = .ok (.bipush (-2), 2) := by decide +kernel
theorem dX8_stop_24 : decode cX8_stop 24 = .ok (.ireturn, 1) := by decide +kernel
theorem dX8_stop_25 : decode cX8_stop 25 = .ok (.iconst (-1), 1) := by decide +kernel
theorem dX8_stop_26 : decode cX8_stop 26 = .ok (.istore_n 3, 1) := by decide +kernel
theorem dX8_stop_27 : decode cX8_stop 27 = .ok (.iconst 0, 1) := by decide +kernel
theorem dX8_stop_28 : decode cX8_stop 28 = .ok (.istore 4, 2) := by decide +kernel
theorem dX8_stop_30 : decode cX8_stop 30 = .ok (.iload 4, 2) := by decide +kernel
theorem dX8_stop_32 : decode cX8_stop 32 = .ok (.iconst 1, 1) := by decide +kernel
theorem dX8_stop_33 : decode cX8_stop 33 = .ok (.aload_n 0, 1) := by decide +kernel
theorem dX8_stop_34 : decode cX8_stop 34 = .ok (.getfield 64, 3) := by decide +kernel
theorem dX8_stop_37 : decode cX8_stop 37 = .ok (.ishl, 1) := by decide +kernel
theorem dX8_stop_38 : decode cX8_stop 38 = .ok (.if_icmp .ge 52, 3) := by decide +kernel
theorem dX8_stop_41 : decode cX8_stop 41 = .ok (.iload_n 3, 1) := by decide +kernel
theorem dX8_stop_42 : decode cX8_stop 42 = .ok (.iconst (-1), 1) := by decide +kernel
theorem dX8_stop_43 : decode cX8_stop 43 = .ok (.if_icmp .eq 15, 3) := by decide +kernel
theorem dX8_stop_46 : decode cX8_stop 46 = .ok (.iload 4, 2) := by decide +kernel
theorem dX8_stop_48 : decode cX8_stop 48 = .ok (.invokestatic 375, 3) := by decide +kernel
theorem dX8_stop_51 : decode cX8_stop 51 = .ok (.iload_n 3, 1) := by decide +kernel
theorem dX8_stop_52 : decode cX8_stop 52 = .ok (.invokestatic 375, 3) := by decide +kernel
theorem dX8_stop_55 : decode cX8_stop 55 = .ok (.if_icmp .ge 29, 3) := by decide +kernel
theorem dX8_stop_58 : decode cX8_stop 58 = .ok (.aload_n 0, 1) := by decide +kernel
theorem dX8_stop_59 : decode cX8_stop 59 = .ok (.aload_n 0, 1) := by decide +kernel
theorem dX8_stop_60 : decode cX8_stop 60 = .ok (.iload_n 1, 1) := by decide +kernel
theorem dX8_stop_61 : decode cX8_stop 61 = .ok (.iconst 1, 1) := by decide +kernel
theorem dX8_stop_62 : decode cX8_stop 62 = .ok (.iload 4, 2) := by decide +kernel
theorem dX8_stop_64 : decode cX8_stop 64 = .ok (.invokevirtual 343, 3) := by decide +kernel
theorem dX8_stop_67 : decode cX8_stop 67 = .ok (.aload_n 0, 1) := by decide +kernel
theorem dX8_stop_68 : decode cX8_stop 68 = .ok (.iload_n 1, 1) := by decide +kernel
theorem dX8_stop_69 : decode cX8_stop 69 = .ok (.iconst (-1), 1) := by decide +kernel
theorem dX8_stop_70 : decode cX8_stop 70 = .ok (.iload 4, 2) := by decide +kernel
theorem dX8_stop_72 : decode cX8_stop 72 = .ok (.invokevirtual 343, 3) := by decide +kernel
theorem dX8_stop_75 : decode cX8_stop 75 = .ok (.invokevirtual 346, 3) := by decide +kernel
theorem dX8_stop_78 : decode cX8_stop 78 = .ok (.ifCond .ne 6, 3) := by decide +kernel
theorem dX8_stop_81 : decode cX8_stop 81 = .ok (.iload 4, 2) := by decide +kernel
theorem dX8_stop_83 : decode cX8_stop 83 = .ok (.istore_n 3, 1) := by decide +kernel
theorem dX8_stop_84 : decode cX8_stop 84 = .ok (.iinc 4 1, 3) := by decide +kernel
theorem dX8_stop_87 : decode cX8_stop 87 = .ok (.goto (-57), 3) := by decide +kernel
theorem dX8_stop_90 : decode cX8_stop 90 = .ok (.iload_n 2, 1) := by decide +kernel
theorem dX8_stop_91 : decode cX8_stop 91 = .ok (.ifCond .ne 7, 3) := by decide +kernel
theorem dX8_stop_94 : decode cX8_stop 94 = .ok (.iload_n 3, 1) := by decide +kernel
theorem dX8_stop_95 : decode cX8_stop 95 = .ok (.goto 7, 3) := by decide +kernel
theorem dX8_stop_98 : decode cX8_stop 98 = .ok (.iload_n 3, 1) := by decide +kernel
theorem dX8_stop_99 : decode cX8_stop 99 = .ok (.invokestatic 375, 3) := by decide +kernel
theorem dX8_stop_102 : decode cX8_stop 102 = .ok (.ireturn, 1) := by decide +kernel
set_option maxHeartbeats 4000000 in
set_option maxRecDepth 100000 in
theorem bb_X8_stop_84 {p : Program} {l : Launch} {e : Env} {s : State} {m : MethodId} {args : Array Value} {below : List Frame} {meth : Method} {c : Code} {D : va_G} {cy : Nat → ClassId} {ad : Nat → Nat} {A : Nat → Prop} {Q : Int32 → Sg → Prop} (K : Kx p s m args meth c cX8_stop 5 RX8 D cy) (hr : meth.sig.returnType = (some .int)) {rc30 : Int32 → Int32 → Int32 → Int32 → Sg → Prop} (hrc30 : ∀ (x1 : Int32) (x2 : Int32) (x3 : Int32) (x4 : Int32) (u : Sg) (H : Heap) (locs : List Loc) (ls : Array Slot), rc30 x1 x2 x3 x4 u → Wd D A s.heap (wsM cy ad u) H locs → lv_has ls 5 [(0, .ref (ad 0)), (1, .int x1), (2, .int x2), (3, .int x3), (4, .int x4)] → W p l e (rmD 46) s m args below meth c H locs 0 0 (MQ below (va_Qi Q (PostG (wsM cy ad) D A) A) args s 0 0 A) (F0 m 30 ls [])) (x1 : Int32) (x2 : Int32) (x3 : Int32) (x4 : Int32)  (g0 : Sg) (H : Heap) (locs : List Loc) (ls : Array Slot) (hd : vv_X8_stop_J84 rc30 x1 x2 x3 x4 g0 Q) (hw : Wd D A s.heap (wsM cy ad g0) H locs) (hl : lv_has ls 5 [(0, .ref (ad 0)), (1, .int x1), (2, .int x2), (3, .int x3), (4, .int x4)]) : W p l e (rmD 46) s m args below meth c H locs 0 0 (MQ below (va_Qi Q (PostG (wsM cy ad) D A) A) args s 0 0 A) (F0 m 84 ls []) := by
  unfold vv_X8_stop_J84 at hd
  obtain ⟨x4_21, ex4_21⟩ : ∃ y : Int32, y = x4 + (1 : Int32) := ⟨_, rfl⟩
  have hd := hd x4_21 ex4_21
  refine lv_iinc (v := x4_21) (lv' := [(4, .int x4_21), (0, .ref (ad 0)), (1, .int x1), (2, .int x2), (3, .int x3)]) K.1 K.2.1 dX8_stop_84 hl (k := 4) rfl (by rw [ex4_21]; rfl) (by decide) rfl (fun ls hl => ?_)
  refine lv_goto (tgt := 30) K.1 K.2.1 dX8_stop_87 (by decide) ?_
  exact hrc30 x1 x2 x3 x4_21 g0 _ _ _ hd hw (lv_sub hl [1, 2, 3, 4, 0] rfl)
set_option maxHeartbeats 4000000 in
set_option maxRecDepth 100000 in
theorem bb_X8_stop_58 {p : Program} {l : Launch} {e : Env} {s : State} {m : MethodId} {args : Array Value} {below : List Frame} {meth : Method} {c : Code} {D : va_G} {cy : Nat → ClassId} {ad : Nat → Nat} {A : Nat → Prop} {Q : Int32 → Sg → Prop} (K : Kx p s m args meth c cX8_stop 5 RX8 D cy) (hr : meth.sig.returnType = (some .int)) {rc30 : Int32 → Int32 → Int32 → Int32 → Sg → Prop} (hrc30 : ∀ (x1 : Int32) (x2 : Int32) (x3 : Int32) (x4 : Int32) (u : Sg) (H : Heap) (locs : List Loc) (ls : Array Slot), rc30 x1 x2 x3 x4 u → Wd D A s.heap (wsM cy ad u) H locs → lv_has ls 5 [(0, .ref (ad 0)), (1, .int x1), (2, .int x2), (3, .int x3), (4, .int x4)] → W p l e (rmD 46) s m args below meth c H locs 0 0 (MQ below (va_Qi Q (PostG (wsM cy ad) D A) A) args s 0 0 A) (F0 m 30 ls [])) (x1 : Int32) (x2 : Int32) (x3 : Int32) (x4 : Int32)  (g0 : Sg) (H : Heap) (locs : List Loc) (ls : Array Slot) (hd : vv_X8_stop_J58 rc30 x1 x2 x3 x4 g0 Q) (hw : Wd D A s.heap (wsM cy ad g0) H locs) (hl : lv_has ls 5 [(0, .ref (ad 0)), (1, .int x1), (2, .int x2), (3, .int x3), (4, .int x4)]) : W p l e (rmD 46) s m args below meth c H locs 0 0 (MQ below (va_Qi Q (PostG (wsM cy ad) D A) A) args s 0 0 A) (F0 m 58 ls []) := by
  unfold vv_X8_stop_J58 at hd
  refine lv_aload_n K.1 K.2.1 dX8_stop_58 rfl (lv_at hl 0 rfl) ?_
  refine lv_aload_n K.1 K.2.1 dX8_stop_59 rfl (lv_at hl 0 rfl) ?_
  refine lv_iload_n K.1 K.2.1 dX8_stop_60 rfl (lv_at hl 1 rfl) ?_
  refine lv_iconst (v := (1 : Int32)) K.1 K.2.1 dX8_stop_61 (by decide) ?_
  refine lv_iload K.1 K.2.1 dX8_stop_62 (lv_at hl 4 rfl) ?_
  refine rk_vi (As := [.int x1, .int (1 : Int32), .int x4]) (rest := [.ref (ad 0)]) K hw (cc_X8_sideOf l D cy ad A g0 _ x1 (1 : Int32) x4 hd) lk_X8_343 (ci := 8) rfl (q0 := 0) (wsM_at cy ad _ (by decide)) ⟨Nat.le_of_ble_eq_true rfl, Nat.le_of_ble_eq_true rfl⟩ ⟨Nat.zero_le _, Nat.zero_le _⟩ rfl hl.1 (Nat.le_of_ble_eq_true rfl) rfl dX8_stop_64 (fun r_15 g_14 H locs hd hw => ?_)
  refine lv_aload_n K.1 K.2.1 dX8_stop_67 rfl (lv_at hl 0 rfl) ?_
  refine lv_iload_n K.1 K.2.1 dX8_stop_68 rfl (lv_at hl 1 rfl) ?_
  refine lv_iconst (v := (-1 : Int32)) K.1 K.2.1 dX8_stop_69 (by decide) ?_
  refine lv_iload K.1 K.2.1 dX8_stop_70 (lv_at hl 4 rfl) ?_
  refine rk_vi (As := [.int x1, .int (-1 : Int32), .int x4]) (rest := [.int r_15, .ref (ad 0)]) K hw (cc_X8_sideOf l D cy ad A g_14 _ x1 (-1 : Int32) x4 hd) lk_X8_343 (ci := 8) rfl (q0 := 0) (wsM_at cy ad _ (by decide)) ⟨Nat.le_of_ble_eq_true rfl, Nat.le_of_ble_eq_true rfl⟩ ⟨Nat.zero_le _, Nat.zero_le _⟩ rfl hl.1 (Nat.le_of_ble_eq_true rfl) rfl dX8_stop_72 (fun r_17 g_16 H locs hd hw => ?_)
  refine rk_vi (As := [.int r_15, .int r_17]) (rest := []) K hw (cc_X8_isCarried l D cy ad A g_16 _ r_15 r_17 hd) lk_X8_346 (ci := 8) rfl (q0 := 0) (wsM_at cy ad _ (by decide)) ⟨Nat.le_of_ble_eq_true rfl, Nat.le_of_ble_eq_true rfl⟩ ⟨Nat.zero_le _, Nat.zero_le _⟩ rfl hl.1 (Nat.le_of_ble_eq_true rfl) rfl dX8_stop_75 (fun r_19 g_18 H locs hd hw => ?_)
  refine lv_if_ne (tgt := 84) K.1 K.2.1 dX8_stop_78 (by decide) (fun h_20 => ?_) (fun h_20 => ?_)
  · have hd := hd.1 h_20
    exact bb_X8_stop_84 K hr hrc30 x1 x2 x3 x4 g_18 _ _ _ hd hw (lv_sub hl [0, 1, 2, 3, 4] rfl)
  · have hd := hd.2 h_20
    refine lv_iload K.1 K.2.1 dX8_stop_81 (lv_at hl 4 rfl) ?_
    refine lv_topi (fun x3_22 ex3_22 => ?_)
    have hd := hd x3_22 ex3_22
    refine lv_istore_n (lv' := [(3, .int x3_22), (0, .ref (ad 0)), (1, .int x1), (2, .int x2), (4, .int x4)]) K.1 K.2.1 dX8_stop_83 rfl hl (by decide) rfl (fun ls hl => ?_)
    exact bb_X8_stop_84 K hr hrc30 x1 x2 x3_22 x4 g_18 _ _ _ hd hw (lv_sub hl [1, 2, 3, 0, 4] rfl)
set_option maxHeartbeats 4000000 in
set_option maxRecDepth 100000 in
theorem bb_X8_stop_30 {p : Program} {l : Launch} {e : Env} {s : State} {m : MethodId} {args : Array Value} {below : List Frame} {meth : Method} {c : Code} {D : va_G} {cy : Nat → ClassId} {ad : Nat → Nat} {A : Nat → Prop} {Q : Int32 → Sg → Prop} (K : Kx p s m args meth c cX8_stop 5 RX8 D cy) (hr : meth.sig.returnType = (some .int)) : ∀ (n : Nat) (x1 : Int32) (x2 : Int32) (x3 : Int32) (x4 : Int32)  (g0 : Sg) (H : Heap) (locs : List Loc) (ls : Array Slot), vv_X8_stop_L30 Q n x1 x2 x3 x4 g0 → Wd D A s.heap (wsM cy ad g0) H locs → lv_has ls 5 [(0, .ref (ad 0)), (1, .int x1), (2, .int x2), (3, .int x3), (4, .int x4)] → W p l e (rmD 46) s m args below meth c H locs 0 0 (MQ below (va_Qi Q (PostG (wsM cy ad) D A) A) args s 0 0 A) (F0 m 30 ls []) := by
  intro n
  induction n with
  | zero => intro _ _ _ _ _ _ _ _ hd; exact hd.elim
  | succ n ih =>
    intro x1 x2 x3 x4 g0 H locs ls hd hw hl
    unfold vv_X8_stop_L30 at hd
    refine lv_iload K.1 K.2.1 dX8_stop_30 (lv_at hl 4 rfl) ?_
    refine lv_iconst (v := (1 : Int32)) K.1 K.2.1 dX8_stop_32 (by decide) ?_
    refine lv_aload_n K.1 K.2.1 dX8_stop_33 rfl (lv_at hl 0 rfl) ?_
    refine rm_get 11 K hw (by decide) kf_X8_64 rfl dX8_stop_34 ?_
    refine lv_ishl K.1 K.2.1 dX8_stop_37 ?_
    refine lv_icmp_ge (tgt := 90) K.1 K.2.1 dX8_stop_38 (by decide) (fun h_9 => ?_) (fun h_9 => ?_)
    · have hd := hd.1 h_9
      refine lv_iload_n K.1 K.2.1 dX8_stop_90 rfl (lv_at hl 2 rfl) ?_
      refine lv_if_ne (tgt := 98) K.1 K.2.1 dX8_stop_91 (by decide) (fun h_10 => ?_) (fun h_10 => ?_)
      · have hd := hd.1 h_10
        refine lv_iload_n K.1 K.2.1 dX8_stop_98 rfl (lv_at hl 3 rfl) ?_
        refine rk_si (As := [.int x3]) (rest := []) K hw (cc_X8_bitsOf l D cy ad A g0 _ x3 hd) lk_X8_375 ⟨Nat.le_of_ble_eq_true rfl, Nat.le_of_ble_eq_true rfl⟩ ⟨Nat.zero_le _, Nat.zero_le _⟩ rfl hl.1 (Nat.le_of_ble_eq_true rfl) rfl dX8_stop_99 (fun r_12 g_11 H locs hd hw => ?_)
        exact rk_iret K hw hr hd dX8_stop_102
      · have hd := hd.2 h_10
        refine lv_iload_n K.1 K.2.1 dX8_stop_94 rfl (lv_at hl 3 rfl) ?_
        refine lv_goto (tgt := 102) K.1 K.2.1 dX8_stop_95 (by decide) ?_
        exact rk_iret K hw hr hd dX8_stop_102
    · have hd := hd.2 h_9
      refine lv_iload_n K.1 K.2.1 dX8_stop_41 rfl (lv_at hl 3 rfl) ?_
      refine lv_iconst (v := (-1 : Int32)) K.1 K.2.1 dX8_stop_42 (by decide) ?_
      refine lv_icmp_eq (tgt := 58) K.1 K.2.1 dX8_stop_43 (by decide) (fun h_13 => ?_) (fun h_13 => ?_)
      · have hd := hd.1 h_13
        exact bb_X8_stop_58 K hr ih x1 x2 x3 x4 g0 _ _ _ hd hw (lv_sub hl [0, 1, 2, 3, 4] rfl)
      · have hd := hd.2 h_13
        refine lv_iload K.1 K.2.1 dX8_stop_46 (lv_at hl 4 rfl) ?_
        refine rk_si (As := [.int x4]) (rest := []) K hw (cc_X8_bitsOf l D cy ad A g0 _ x4 hd) lk_X8_375 ⟨Nat.le_of_ble_eq_true rfl, Nat.le_of_ble_eq_true rfl⟩ ⟨Nat.zero_le _, Nat.zero_le _⟩ rfl hl.1 (Nat.le_of_ble_eq_true rfl) rfl dX8_stop_48 (fun r_24 g_23 H locs hd hw => ?_)
        refine lv_iload_n K.1 K.2.1 dX8_stop_51 rfl (lv_at hl 3 rfl) ?_
        refine rk_si (As := [.int x3]) (rest := [.int r_24]) K hw (cc_X8_bitsOf l D cy ad A g_23 _ x3 hd) lk_X8_375 ⟨Nat.le_of_ble_eq_true rfl, Nat.le_of_ble_eq_true rfl⟩ ⟨Nat.zero_le _, Nat.zero_le _⟩ rfl hl.1 (Nat.le_of_ble_eq_true rfl) rfl dX8_stop_52 (fun r_26 g_25 H locs hd hw => ?_)
        refine lv_icmp_ge (tgt := 84) K.1 K.2.1 dX8_stop_55 (by decide) (fun h_27 => ?_) (fun h_27 => ?_)
        · have hd := hd.1 h_27
          exact bb_X8_stop_84 K hr ih x1 x2 x3 x4 g_25 _ _ _ hd hw (lv_sub hl [0, 1, 2, 3, 4] rfl)
        · have hd := hd.2 h_27
          exact bb_X8_stop_58 K hr ih x1 x2 x3 x4 g_25 _ _ _ hd hw (lv_sub hl [0, 1, 2, 3, 4] rfl)
set_option maxHeartbeats 4000000 in
set_option maxRecDepth 100000 in
theorem cc_X8_stop (l : Launch) (D : va_G) (cy : Nat → ClassId) (ad : Nat → Nat) (A : Nat → Prop) (g0 : Sg) (Q : Int32 → Sg → Prop) (x1 : Int32) (x2 : Int32) (hd : vv_X8_stop x1 x2 g0 Q) : Met l yX8_stop (Cond.code yX8_stop cX8_stop 5 (some .int) :: TT) (rmD 46) (va_Pc [.ref (ad 0), .int x1, .int x2] (PreG (wsM cy ad) D cy A g0)) (va_Qi Q (PostG (wsM cy ad) D A) A) 0 0 A := by
  unfold vv_X8_stop at hd
  refine Met.ofW (cc := cX8_stop) (maxL := 5) (ret := (some .int)) (by decide) rfl ?_
  intro p e s m args below meth c s₁ B hml hv
  obtain ⟨rfl, hP, hK0, hD⟩ := hv
  have K : Kx p s m _ meth c cX8_stop 5 RX8 D cy := ⟨B.exec, B.bytes, hml, findClass_of_methodNamed B.named, fun w h => atoms_spec (ws := Cond.code yX8_stop cX8_stop 5 (some .int) :: TT) B.pre w (List.mem_cons_of_mem _ h), hK0, B.notSynchronized⟩
  have hw : Wd D A s.heap (wsM cy ad g0) s.heap [] := ⟨hP, hD, va_S.rf⟩
  have hr := B.returns
  have hl := lv_entry ([.ref (ad 0), .int x1, .int x2]) (n := 5) (Nat.le_of_ble_eq_true rfl)
  rw [lg_entry_eq]
  generalize (lg_sl ([.ref (ad 0), .int x1, .int x2]) ++ List.replicate (5 - (lg_sl ([.ref (ad 0), .int x1, .int x2])).length) Slot.unset).toArray = ls at hl ⊢
  have hl : lv_has ls 5 [(0, .ref (ad 0)), (1, .int x1), (2, .int x2)] := hl
  refine lv_iload_n K.1 K.2.1 dX8_stop_0 rfl (lv_at hl 1 rfl) ?_
  refine lv_i2l (v := x1.toInt64) K.1 K.2.1 dX8_stop_1 rfl ?_
  refine lv_lconst (v := (0 : Int64)) K.1 K.2.1 dX8_stop_2 rfl ?_
  refine lv_ldc2 K.1 K.2.1 K.2.2.2.1 (K.2.2.2.2.1 _ kl_X8_349) dX8_stop_3 ?_
  refine rk_si (As := [.long x1.toInt64, .long (0 : Int64), .long (7 : Int64)]) (rest := []) K hw (cc_X8_in l D cy ad A g0 _ (x1.toInt64) (0 : Int64) (7 : Int64) hd) lk_X8_67 ⟨Nat.le_of_ble_eq_true rfl, Nat.le_of_ble_eq_true rfl⟩ ⟨Nat.zero_le _, Nat.zero_le _⟩ rfl hl.1 (Nat.le_of_ble_eq_true rfl) rfl dX8_stop_6 (fun r_2 g_1 H locs hd hw => ?_)
  refine lv_if_eq (tgt := 22) K.1 K.2.1 dX8_stop_9 (by decide) (fun h_3 => ?_) (fun h_3 => ?_)
  · have hd := hd.1 h_3
    refine lv_bipush (v := (-2 : Int32)) K.1 K.2.1 dX8_stop_22 (by decide) ?_
    exact rk_iret K hw hr hd dX8_stop_24
  · have hd := hd.2 h_3
    refine lv_iload_n K.1 K.2.1 dX8_stop_12 rfl (lv_at hl 2 rfl) ?_
    refine lv_i2l (v := x2.toInt64) K.1 K.2.1 dX8_stop_13 rfl ?_
    refine lv_lconst (v := (0 : Int64)) K.1 K.2.1 dX8_stop_14 rfl ?_
    refine lv_lconst (v := (1 : Int64)) K.1 K.2.1 dX8_stop_15 rfl ?_
    refine rk_si (As := [.long x2.toInt64, .long (0 : Int64), .long (1 : Int64)]) (rest := []) K hw (cc_X8_in l D cy ad A g_1 _ (x2.toInt64) (0 : Int64) (1 : Int64) hd) lk_X8_67 ⟨Nat.le_of_ble_eq_true rfl, Nat.le_of_ble_eq_true rfl⟩ ⟨Nat.zero_le _, Nat.zero_le _⟩ rfl hl.1 (Nat.le_of_ble_eq_true rfl) rfl dX8_stop_16 (fun r_5 g_4 H locs hd hw => ?_)
    refine lv_if_ne (tgt := 25) K.1 K.2.1 dX8_stop_19 (by decide) (fun h_6 => ?_) (fun h_6 => ?_)
    · have hd := hd.1 h_6
      refine lv_iconst (v := (-1 : Int32)) K.1 K.2.1 dX8_stop_25 (by decide) ?_
      refine lv_topi (fun x3_7 ex3_7 => ?_)
      have hd := hd x3_7 ex3_7
      refine lv_istore_n (lv' := [(3, .int x3_7), (0, .ref (ad 0)), (1, .int x1), (2, .int x2)]) K.1 K.2.1 dX8_stop_26 rfl hl (by decide) rfl (fun ls hl => ?_)
      refine lv_iconst (v := (0 : Int32)) K.1 K.2.1 dX8_stop_27 (by decide) ?_
      refine lv_topi (fun x4_8 ex4_8 => ?_)
      have hd := hd x4_8 ex4_8
      refine lv_istore (lv' := [(4, .int x4_8), (3, .int x3_7), (0, .ref (ad 0)), (1, .int x1), (2, .int x2)]) K.1 K.2.1 dX8_stop_28 hl (by decide) rfl (fun ls hl => ?_)
      obtain ⟨n9, hd⟩ := hd
      exact bb_X8_stop_30 K hr  n9 x1 x2 x3_7 x4_8 g_4 _ _ _ hd hw (lv_sub hl [2, 3, 4, 1, 0] rfl)
    · have hd := hd.2 h_6
      refine lv_bipush (v := (-2 : Int32)) K.1 K.2.1 dX8_stop_22 (by decide) ?_
      exact rk_iret K hw hr hd dX8_stop_24
theorem dX8_goesWith_0 : decode cX8_goesWith 0 = .ok (.aload_n 0, 1) := by decide +kernel
theorem dX8_goesWith_1 : decode cX8_goesWith 1 = .ok (.iload_n 1, 1) := by decide +kernel
theorem dX8_goesWith_2 : decode cX8_goesWith 2 = .ok (.invokevirtual 73, 3) := by decide +kernel
theorem dX8_goesWith_5 : decode cX8_goesWith 5 = .ok (.ifCond .eq 13, 3) := by decide +kernel
theorem dX8_goesWith_8 : decode cX8_goesWith 8 = .ok (.iload_n 2, 1) := by decide +kernel
theorem dX8_goesWith_9 : decode cX8_goesWith 9 = .ok (.i2l, 1) := by decide +kernel
theorem dX8_goesWith_10 : decode cX8_goesWith 10 = .ok (.lconst 0, 1) := by decide +kernel
theorem dX8_goesWith_11 : decode cX8_goesWith 11 = .ok (.lconst 1, 1) := by decide +kernel
theorem dX8_goesWith_12 : decode cX8_goesWith 12 = .ok (.invokestatic 67, 3) := by decide +kernel
theorem dX8_goesWith_15 : decode cX8_goesWith 15 = .ok (.ifCond .ne 6, 3) := by decide +kernel
theorem dX8_goesWith_18 : decode cX8_goesWith 18 = .ok (.bipush (-2), 2) := by decide +kernel
theorem dX8_goesWith_20 : decode cX8_goesWith 20 = .ok (.ireturn, 1) := by decide +kernel
theorem dX8_goesWith_21 : decode cX8_goesWith 21 = .ok (.iconst (-1), 1) := by decide +kernel
theorem dX8_goesWith_22 : decode cX8_goesWith 22 = .ok (.istore_n 3, 1) := by decide +kernel
theorem dX8_goesWith_23 : decode cX8_goesWith 23 = .ok (.iconst (-1), 1) := by decide +kernel
theorem dX8_goesWith_24 : decode cX8_goesWith 24 = .ok (.istore 4, 2) := by decide +kernel
theorem dX8_goesWith_26 : decode cX8_goesWith 26 = .ok (.iconst 0, 1) := by decide +kernel
theorem dX8_goesWith_27 : decode cX8_goesWith 27 = .ok (.istore 5, 2) := by decide +kernel
theorem dX8_goesWith_29 : decode cX8_goesWith 29 = .ok (.iload 5, 2) := by decide +kernel
theorem dX8_goesWith_31 : decode cX8_goesWith 31 = .ok (.aload_n 0, 1) := by decide +kernel
theorem dX8_goesWith_32 : decode cX8_goesWith 32 = .ok (.getfield 64, 3) := by decide +kernel
theorem dX8_goesWith_35 : decode cX8_goesWith 35 = .ok (.if_icmp .ge 88, 3) := by decide +kernel
theorem dX8_goesWith_38 : decode cX8_goesWith 38 = .ok (.iload 5, 2) := by decide +kernel
theorem dX8_goesWith_40 : decode cX8_goesWith 40 = .ok (.iload_n 1, 1) := by decide +kernel
theorem dX8_goesWith_41 : decode cX8_goesWith 41 = .ok (.if_icmp .eq 76, 3) := by decide +kernel
theorem dX8_goesWith_44 : decode cX8_goesWith 44 = .ok (.aload_n 0, 1) := by decide +kernel
theorem dX8_goesWith_45 : decode cX8_goesWith 45 = .ok (.iload 5, 2) := by decide +kernel
theorem dX8_goesWith_47 : decode cX8_goesWith 47 = .ok (.invokevirtual 115, 3) := by decide +kernel
theorem dX8_goesWith_50 : decode cX8_goesWith 50 = .ok (.ifCond .eq 67, 3) := by decide +kernel
theorem dX8_goesWith_53 : decode cX8_goesWith 53 = .ok (.iconst 0, 1) := by decide +kernel
theorem dX8_goesWith_54 : decode cX8_goesWith 54 = .ok (.istore 6, 2) := by decide +kernel
theorem dX8_goesWith_56 : decode cX8_goesWith 56 = .ok (.iconst 0, 1) := by decide +kernel
theorem dX8_goesWith_57 : decode cX8_goesWith 57 = .ok (.istore 7, 2) := by decide +kernel
theorem dX8_goesWith_59 : decode cX8_goesWith 59 = .ok (.iload 7, 2) := by decide +kernel
theorem dX8_goesWith_61 : decode cX8_goesWith 61 = .ok (.bipush 8, 2) := by decide +kernel
theorem dX8_goesWith_63 : decode cX8_goesWith 63 = .ok (.if_icmp .ge 40, 3) := by decide +kernel
theorem dX8_goesWith_66 : decode cX8_goesWith 66 = .ok (.iload 6, 2) := by decide +kernel
theorem dX8_goesWith_68 : decode cX8_goesWith 68 = .ok (.aload_n 0, 1) := by decide +kernel
theorem dX8_goesWith_69 : decode cX8_goesWith 69 = .ok (.iload 5, 2) := by decide +kernel
theorem dX8_goesWith_71 : decode cX8_goesWith 71 = .ok (.iload 7, 2) := by decide +kernel
theorem dX8_goesWith_73 : decode cX8_goesWith 73 = .ok (.invokevirtual 118, 3) := by decide +kernel
theorem dX8_goesWith_76 : decode cX8_goesWith 76 = .ok (.aload_n 0, 1) := by decide +kernel
theorem dX8_goesWith_77 : decode cX8_goesWith 77 = .ok (.iload_n 1, 1) := by decide +kernel
theorem dX8_goesWith_78 : decode cX8_goesWith 78 = .ok (.bipush 20, 2) := by decide +kernel
theorem dX8_goesWith_80 : decode cX8_goesWith 80 = .ok (.iload 7, 2) := by decide +kernel
theorem dX8_goesWith_82 : decode cX8_goesWith 82 = .ok (.iadd, 1) := by decide +kernel
theorem dX8_goesWith_83 : decode cX8_goesWith 83 = .ok (.invokevirtual 84, 3) := by decide +kernel
theorem dX8_goesWith_86 : decode cX8_goesWith 86 = .ok (.if_icmp .ne 7, 3) := by decide +kernel
theorem dX8_goesWith_89 : decode cX8_goesWith 89 = .ok (.iconst 1, 1) := by decide +kernel
theorem dX8_goesWith_90 : decode cX8_goesWith 90 = .ok (.goto 4, 3) := by decide +kernel
theorem dX8_goesWith_93 : decode cX8_goesWith 93 = .ok (.iconst 0, 1) := by decide +kernel
theorem dX8_goesWith_94 : decode cX8_goesWith 94 = .ok (.iadd, 1) := by decide +kernel
theorem dX8_goesWith_95 : decode cX8_goesWith 95 = .ok (.istore 6, 2) := by decide +kernel
theorem dX8_goesWith_97 : decode cX8_goesWith 97 = .ok (.iinc 7 1, 3) := by decide +kernel
theorem dX8_goesWith_100 : decode cX8_goesWith 100 = .ok (.goto (-41), 3) := by decide +kernel
theorem dX8_goesWith_103 : decode cX8_goesWith 103 = .ok (.iload 6, 2) := by decide +kernel
theorem dX8_goesWith_105 : decode cX8_goesWith 105 = .ok (.iload 4, 2) := by decide +kernel
theorem dX8_goesWith_107 : decode cX8_goesWith 107 = .ok (.if_icmp .le 10, 3) := by decide +kernel
theorem dX8_goesWith_110 : decode cX8_goesWith 110 = .ok (.iload 5, 2) := by decide +kernel
theorem dX8_goesWith_112 : decode cX8_goesWith 112 = .ok (.istore_n 3, 1) := by decide +kernel
theorem dX8_goesWith_113 : decode cX8_goesWith 113 = .ok (.iload 6, 2) := by decide +kernel
theorem dX8_goesWith_115 : decode cX8_goesWith 115 = .ok (.istore 4, 2) := by decide +kernel
theorem dX8_goesWith_117 : decode cX8_goesWith 117 = .ok (.iinc 5 1, 3) := by decide +kernel
theorem dX8_goesWith_120 : decode cX8_goesWith 120 = .ok (.goto (-91), 3) := by decide +kernel
theorem dX8_goesWith_123 : decode cX8_goesWith 123 = .ok (.iload_n 2, 1) := by decide +kernel
theorem dX8_goesWith_124 : decode cX8_goesWith 124 = .ok (.ifCond .ne 7, 3) := by decide +kernel
theorem dX8_goesWith_127 : decode cX8_goesWith 127 = .ok (.iload_n 3, 1) := by decide +kernel
theorem dX8_goesWith_128 : decode cX8_goesWith 128 = .ok (.goto 5, 3) := by decide +kernel
theorem dX8_goesWith_131 : decode cX8_goesWith 131 = .ok (.iload 4, 2) := by decide +kernel
theorem dX8_goesWith_133 : decode cX8_goesWith 133 = .ok (.ireturn, 1) := by decide +kernel
set_option maxHeartbeats 4000000 in
set_option maxRecDepth 100000 in
theorem bb_X8_goesWith_117 {p : Program} {l : Launch} {e : Env} {s : State} {m : MethodId} {args : Array Value} {below : List Frame} {meth : Method} {c : Code} {D : va_G} {cy : Nat → ClassId} {ad : Nat → Nat} {A : Nat → Prop} {Q : Int32 → Sg → Prop} (K : Kx p s m args meth c cX8_goesWith 8 RX8 D cy) (hr : meth.sig.returnType = (some .int)) {rc29 : Int32 → Int32 → Int32 → Int32 → Int32 → Sg → Prop} (hrc29 : ∀ (x1 : Int32) (x2 : Int32) (x3 : Int32) (x4 : Int32) (x5 : Int32) (u : Sg) (H : Heap) (locs : List Loc) (ls : Array Slot), rc29 x1 x2 x3 x4 x5 u → Wd D A s.heap (wsM cy ad u) H locs → lv_has ls 8 [(0, .ref (ad 0)), (1, .int x1), (2, .int x2), (3, .int x3), (4, .int x4), (5, .int x5)] → W p l e (rmD 46) s m args below meth c H locs 0 0 (MQ below (va_Qi Q (PostG (wsM cy ad) D A) A) args s 0 0 A) (F0 m 29 ls [])) (x1 : Int32) (x2 : Int32) (x3 : Int32) (x4 : Int32) (x5 : Int32)  (g0 : Sg) (H : Heap) (locs : List Loc) (ls : Array Slot) (hd : vv_X8_goesWith_J117 rc29 x1 x2 x3 x4 x5 g0 Q) (hw : Wd D A s.heap (wsM cy ad g0) H locs) (hl : lv_has ls 8 [(0, .ref (ad 0)), (1, .int x1), (2, .int x2), (3, .int x3), (4, .int x4), (5, .int x5)]) : W p l e (rmD 46) s m args below meth c H locs 0 0 (MQ below (va_Qi Q (PostG (wsM cy ad) D A) A) args s 0 0 A) (F0 m 117 ls []) := by
  unfold vv_X8_goesWith_J117 at hd
  obtain ⟨x5_13, ex5_13⟩ : ∃ y : Int32, y = x5 + (1 : Int32) := ⟨_, rfl⟩
  have hd := hd x5_13 ex5_13
  refine lv_iinc (v := x5_13) (lv' := [(5, .int x5_13), (0, .ref (ad 0)), (1, .int x1), (2, .int x2), (3, .int x3), (4, .int x4)]) K.1 K.2.1 dX8_goesWith_117 hl (k := 5) rfl (by rw [ex5_13]; rfl) (by decide) rfl (fun ls hl => ?_)
  refine lv_goto (tgt := 29) K.1 K.2.1 dX8_goesWith_120 (by decide) ?_
  exact hrc29 x1 x2 x3 x4 x5_13 g0 _ _ _ hd hw (lv_sub hl [1, 2, 3, 4, 5, 0] rfl)
set_option maxHeartbeats 4000000 in
set_option maxRecDepth 100000 in
theorem bb_X8_goesWith_94 {p : Program} {l : Launch} {e : Env} {s : State} {m : MethodId} {args : Array Value} {below : List Frame} {meth : Method} {c : Code} {D : va_G} {cy : Nat → ClassId} {ad : Nat → Nat} {A : Nat → Prop} {Q : Int32 → Sg → Prop} (K : Kx p s m args meth c cX8_goesWith 8 RX8 D cy) (hr : meth.sig.returnType = (some .int)) {rc29 : Int32 → Int32 → Int32 → Int32 → Int32 → Sg → Prop} (hrc29 : ∀ (x1 : Int32) (x2 : Int32) (x3 : Int32) (x4 : Int32) (x5 : Int32) (u : Sg) (H : Heap) (locs : List Loc) (ls : Array Slot), rc29 x1 x2 x3 x4 x5 u → Wd D A s.heap (wsM cy ad u) H locs → lv_has ls 8 [(0, .ref (ad 0)), (1, .int x1), (2, .int x2), (3, .int x3), (4, .int x4), (5, .int x5)] → W p l e (rmD 46) s m args below meth c H locs 0 0 (MQ below (va_Qi Q (PostG (wsM cy ad) D A) A) args s 0 0 A) (F0 m 29 ls [])) {rc59 : Int32 → Int32 → Int32 → Int32 → Int32 → Int32 → Int32 → Sg → Prop} (hrc59 : ∀ (x1 : Int32) (x2 : Int32) (x3 : Int32) (x4 : Int32) (x5 : Int32) (x6 : Int32) (x7 : Int32) (u : Sg) (H : Heap) (locs : List Loc) (ls : Array Slot), rc59 x1 x2 x3 x4 x5 x6 x7 u → Wd D A s.heap (wsM cy ad u) H locs → lv_has ls 8 [(0, .ref (ad 0)), (1, .int x1), (2, .int x2), (3, .int x3), (4, .int x4), (5, .int x5), (6, .int x6), (7, .int x7)] → W p l e (rmD 46) s m args below meth c H locs 0 0 (MQ below (va_Qi Q (PostG (wsM cy ad) D A) A) args s 0 0 A) (F0 m 59 ls [])) (x1 : Int32) (x2 : Int32) (x3 : Int32) (x4 : Int32) (x5 : Int32) (x7 : Int32) (t0 : Int32) (t1 : Int32) (g0 : Sg) (H : Heap) (locs : List Loc) (ls : Array Slot) (hd : vv_X8_goesWith_J94 rc29 rc59 x1 x2 x3 x4 x5 x7 t0 t1 g0 Q) (hw : Wd D A s.heap (wsM cy ad g0) H locs) (hl : lv_has ls 8 [(0, .ref (ad 0)), (1, .int x1), (2, .int x2), (3, .int x3), (4, .int x4), (5, .int x5), (7, .int x7)]) : W p l e (rmD 46) s m args below meth c H locs 0 0 (MQ below (va_Qi Q (PostG (wsM cy ad) D A) A) args s 0 0 A) (F0 m 94 ls [.int t1, .int t0]) := by
  unfold vv_X8_goesWith_J94 at hd
  refine lv_iadd K.1 K.2.1 dX8_goesWith_94 ?_
  refine lv_topi (fun x6_28 ex6_28 => ?_)
  have hd := hd x6_28 ex6_28
  refine lv_istore (lv' := [(6, .int x6_28), (0, .ref (ad 0)), (1, .int x1), (2, .int x2), (3, .int x3), (4, .int x4), (5, .int x5), (7, .int x7)]) K.1 K.2.1 dX8_goesWith_95 hl (by decide) rfl (fun ls hl => ?_)
  obtain ⟨x7_29, ex7_29⟩ : ∃ y : Int32, y = x7 + (1 : Int32) := ⟨_, rfl⟩
  have hd := hd x7_29 ex7_29
  refine lv_iinc (v := x7_29) (lv' := [(7, .int x7_29), (6, .int x6_28), (0, .ref (ad 0)), (1, .int x1), (2, .int x2), (3, .int x3), (4, .int x4), (5, .int x5)]) K.1 K.2.1 dX8_goesWith_97 hl (k := 7) rfl (by rw [ex7_29]; rfl) (by decide) rfl (fun ls hl => ?_)
  refine lv_goto (tgt := 59) K.1 K.2.1 dX8_goesWith_100 (by decide) ?_
  exact hrc59 x1 x2 x3 x4 x5 x6_28 x7_29 g0 _ _ _ hd hw (lv_sub hl [2, 3, 4, 5, 6, 7, 1, 0] rfl)
set_option maxHeartbeats 4000000 in
set_option maxRecDepth 100000 in
theorem bb_X8_goesWith_59 {p : Program} {l : Launch} {e : Env} {s : State} {m : MethodId} {args : Array Value} {below : List Frame} {meth : Method} {c : Code} {D : va_G} {cy : Nat → ClassId} {ad : Nat → Nat} {A : Nat → Prop} {Q : Int32 → Sg → Prop} (K : Kx p s m args meth c cX8_goesWith 8 RX8 D cy) (hr : meth.sig.returnType = (some .int)) {rc29 : Int32 → Int32 → Int32 → Int32 → Int32 → Sg → Prop} (hrc29 : ∀ (x1 : Int32) (x2 : Int32) (x3 : Int32) (x4 : Int32) (x5 : Int32) (u : Sg) (H : Heap) (locs : List Loc) (ls : Array Slot), rc29 x1 x2 x3 x4 x5 u → Wd D A s.heap (wsM cy ad u) H locs → lv_has ls 8 [(0, .ref (ad 0)), (1, .int x1), (2, .int x2), (3, .int x3), (4, .int x4), (5, .int x5)] → W p l e (rmD 46) s m args below meth c H locs 0 0 (MQ below (va_Qi Q (PostG (wsM cy ad) D A) A) args s 0 0 A) (F0 m 29 ls [])) : ∀ (n : Nat) (x1 : Int32) (x2 : Int32) (x3 : Int32) (x4 : Int32) (x5 : Int32) (x6 : Int32) (x7 : Int32)  (g0 : Sg) (H : Heap) (locs : List Loc) (ls : Array Slot), vv_X8_goesWith_L59 rc29 Q n x1 x2 x3 x4 x5 x6 x7 g0 → Wd D A s.heap (wsM cy ad g0) H locs → lv_has ls 8 [(0, .ref (ad 0)), (1, .int x1), (2, .int x2), (3, .int x3), (4, .int x4), (5, .int x5), (6, .int x6), (7, .int x7)] → W p l e (rmD 46) s m args below meth c H locs 0 0 (MQ below (va_Qi Q (PostG (wsM cy ad) D A) A) args s 0 0 A) (F0 m 59 ls []) := by
  intro n
  induction n with
  | zero => intro _ _ _ _ _ _ _ _ _ _ _ hd; exact hd.elim
  | succ n ih =>
    intro x1 x2 x3 x4 x5 x6 x7 g0 H locs ls hd hw hl
    unfold vv_X8_goesWith_L59 at hd
    refine lv_iload K.1 K.2.1 dX8_goesWith_59 (lv_at hl 7 rfl) ?_
    refine lv_bipush (v := (8 : Int32)) K.1 K.2.1 dX8_goesWith_61 (by decide) ?_
    refine lv_icmp_ge (tgt := 103) K.1 K.2.1 dX8_goesWith_63 (by decide) (fun h_19 => ?_) (fun h_19 => ?_)
    · have hd := hd.1 h_19
      refine lv_iload K.1 K.2.1 dX8_goesWith_103 (lv_at hl 6 rfl) ?_
      refine lv_iload K.1 K.2.1 dX8_goesWith_105 (lv_at hl 4 rfl) ?_
      refine lv_icmp_le (tgt := 117) K.1 K.2.1 dX8_goesWith_107 (by decide) (fun h_20 => ?_) (fun h_20 => ?_)
      · have hd := hd.1 h_20
        exact bb_X8_goesWith_117 K hr hrc29 x1 x2 x3 x4 x5 g0 _ _ _ hd hw (lv_sub hl [0, 1, 2, 3, 4, 5] rfl)
      · have hd := hd.2 h_20
        refine lv_iload K.1 K.2.1 dX8_goesWith_110 (lv_at hl 5 rfl) ?_
        refine lv_topi (fun x3_21 ex3_21 => ?_)
        have hd := hd x3_21 ex3_21
        refine lv_istore_n (lv' := [(3, .int x3_21), (0, .ref (ad 0)), (1, .int x1), (2, .int x2), (4, .int x4), (5, .int x5), (6, .int x6), (7, .int x7)]) K.1 K.2.1 dX8_goesWith_112 rfl hl (by decide) rfl (fun ls hl => ?_)
        refine lv_iload K.1 K.2.1 dX8_goesWith_113 (lv_at hl 6 rfl) ?_
        refine lv_topi (fun x4_22 ex4_22 => ?_)
        have hd := hd x4_22 ex4_22
        refine lv_istore (lv' := [(4, .int x4_22), (3, .int x3_21), (0, .ref (ad 0)), (1, .int x1), (2, .int x2), (5, .int x5), (6, .int x6), (7, .int x7)]) K.1 K.2.1 dX8_goesWith_115 hl (by decide) rfl (fun ls hl => ?_)
        exact bb_X8_goesWith_117 K hr hrc29 x1 x2 x3_21 x4_22 x5 g0 _ _ _ hd hw (lv_sub hl [2, 3, 4, 1, 0, 5] rfl)
    · have hd := hd.2 h_19
      refine lv_iload K.1 K.2.1 dX8_goesWith_66 (lv_at hl 6 rfl) ?_
      refine lv_aload_n K.1 K.2.1 dX8_goesWith_68 rfl (lv_at hl 0 rfl) ?_
      refine lv_iload K.1 K.2.1 dX8_goesWith_69 (lv_at hl 5 rfl) ?_
      refine lv_iload K.1 K.2.1 dX8_goesWith_71 (lv_at hl 7 rfl) ?_
      refine rk_vi (As := [.int x5, .int x7]) (rest := [.int x6]) K hw (cc_X8_voteOf l D cy ad A g0 _ x5 x7 hd) lk_X8_118 (ci := 8) rfl (q0 := 0) (wsM_at cy ad _ (by decide)) ⟨Nat.le_of_ble_eq_true rfl, Nat.le_of_ble_eq_true rfl⟩ ⟨Nat.zero_le _, Nat.zero_le _⟩ rfl hl.1 (Nat.le_of_ble_eq_true rfl) rfl dX8_goesWith_73 (fun r_24 g_23 H locs hd hw => ?_)
      refine lv_aload_n K.1 K.2.1 dX8_goesWith_76 rfl (lv_at hl 0 rfl) ?_
      refine lv_iload_n K.1 K.2.1 dX8_goesWith_77 rfl (lv_at hl 1 rfl) ?_
      refine lv_bipush (v := (20 : Int32)) K.1 K.2.1 dX8_goesWith_78 (by decide) ?_
      refine lv_iload K.1 K.2.1 dX8_goesWith_80 (lv_at hl 7 rfl) ?_
      refine lv_iadd K.1 K.2.1 dX8_goesWith_82 ?_
      refine rk_vi (As := [.int x1, .int ((20 : Int32) + x7)]) (rest := [.int r_24, .int x6]) K hw (cc_X8_told l D cy ad A g_23 _ x1 ((20 : Int32) + x7) hd) lk_X8_84 (ci := 8) rfl (q0 := 0) (wsM_at cy ad _ (by decide)) ⟨Nat.le_of_ble_eq_true rfl, Nat.le_of_ble_eq_true rfl⟩ ⟨Nat.zero_le _, Nat.zero_le _⟩ rfl hl.1 (Nat.le_of_ble_eq_true rfl) rfl dX8_goesWith_83 (fun r_26 g_25 H locs hd hw => ?_)
      refine lv_icmp_ne (tgt := 93) K.1 K.2.1 dX8_goesWith_86 (by decide) (fun h_27 => ?_) (fun h_27 => ?_)
      · have hd := hd.1 h_27
        refine lv_iconst (v := (0 : Int32)) K.1 K.2.1 dX8_goesWith_93 (by decide) ?_
        exact bb_X8_goesWith_94 K hr hrc29 ih x1 x2 x3 x4 x5 x7 x6 (0 : Int32) g_25 _ _ _ hd hw (lv_sub hl [0, 1, 2, 3, 4, 5, 7] rfl)
      · have hd := hd.2 h_27
        refine lv_iconst (v := (1 : Int32)) K.1 K.2.1 dX8_goesWith_89 (by decide) ?_
        refine lv_goto (tgt := 94) K.1 K.2.1 dX8_goesWith_90 (by decide) ?_
        exact bb_X8_goesWith_94 K hr hrc29 ih x1 x2 x3 x4 x5 x7 x6 (1 : Int32) g_25 _ _ _ hd hw (lv_sub hl [0, 1, 2, 3, 4, 5, 7] rfl)
set_option maxHeartbeats 4000000 in
set_option maxRecDepth 100000 in
theorem bb_X8_goesWith_29 {p : Program} {l : Launch} {e : Env} {s : State} {m : MethodId} {args : Array Value} {below : List Frame} {meth : Method} {c : Code} {D : va_G} {cy : Nat → ClassId} {ad : Nat → Nat} {A : Nat → Prop} {Q : Int32 → Sg → Prop} (K : Kx p s m args meth c cX8_goesWith 8 RX8 D cy) (hr : meth.sig.returnType = (some .int)) : ∀ (n : Nat) (x1 : Int32) (x2 : Int32) (x3 : Int32) (x4 : Int32) (x5 : Int32)  (g0 : Sg) (H : Heap) (locs : List Loc) (ls : Array Slot), vv_X8_goesWith_L29 Q n x1 x2 x3 x4 x5 g0 → Wd D A s.heap (wsM cy ad g0) H locs → lv_has ls 8 [(0, .ref (ad 0)), (1, .int x1), (2, .int x2), (3, .int x3), (4, .int x4), (5, .int x5)] → W p l e (rmD 46) s m args below meth c H locs 0 0 (MQ below (va_Qi Q (PostG (wsM cy ad) D A) A) args s 0 0 A) (F0 m 29 ls []) := by
  intro n
  induction n with
  | zero => intro _ _ _ _ _ _ _ _ _ hd; exact hd.elim
  | succ n ih =>
    intro x1 x2 x3 x4 x5 g0 H locs ls hd hw hl
    unfold vv_X8_goesWith_L29 at hd
    refine lv_iload K.1 K.2.1 dX8_goesWith_29 (lv_at hl 5 rfl) ?_
    refine lv_aload_n K.1 K.2.1 dX8_goesWith_31 rfl (lv_at hl 0 rfl) ?_
    refine rm_get 11 K hw (by decide) kf_X8_64 rfl dX8_goesWith_32 ?_
    refine lv_icmp_ge (tgt := 123) K.1 K.2.1 dX8_goesWith_35 (by decide) (fun h_10 => ?_) (fun h_10 => ?_)
    · have hd := hd.1 h_10
      refine lv_iload_n K.1 K.2.1 dX8_goesWith_123 rfl (lv_at hl 2 rfl) ?_
      refine lv_if_ne (tgt := 131) K.1 K.2.1 dX8_goesWith_124 (by decide) (fun h_11 => ?_) (fun h_11 => ?_)
      · have hd := hd.1 h_11
        refine lv_iload K.1 K.2.1 dX8_goesWith_131 (lv_at hl 4 rfl) ?_
        exact rk_iret K hw hr hd dX8_goesWith_133
      · have hd := hd.2 h_11
        refine lv_iload_n K.1 K.2.1 dX8_goesWith_127 rfl (lv_at hl 3 rfl) ?_
        refine lv_goto (tgt := 133) K.1 K.2.1 dX8_goesWith_128 (by decide) ?_
        exact rk_iret K hw hr hd dX8_goesWith_133
    · have hd := hd.2 h_10
      refine lv_iload K.1 K.2.1 dX8_goesWith_38 (lv_at hl 5 rfl) ?_
      refine lv_iload_n K.1 K.2.1 dX8_goesWith_40 rfl (lv_at hl 1 rfl) ?_
      refine lv_icmp_eq (tgt := 117) K.1 K.2.1 dX8_goesWith_41 (by decide) (fun h_12 => ?_) (fun h_12 => ?_)
      · have hd := hd.1 h_12
        exact bb_X8_goesWith_117 K hr ih x1 x2 x3 x4 x5 g0 _ _ _ hd hw (lv_sub hl [0, 1, 2, 3, 4, 5] rfl)
      · have hd := hd.2 h_12
        refine lv_aload_n K.1 K.2.1 dX8_goesWith_44 rfl (lv_at hl 0 rfl) ?_
        refine lv_iload K.1 K.2.1 dX8_goesWith_45 (lv_at hl 5 rfl) ?_
        refine rk_vi (As := [.int x5]) (rest := []) K hw (cc_X8_isWhole l D cy ad A g0 _ x5 hd) lk_X8_115 (ci := 8) rfl (q0 := 0) (wsM_at cy ad _ (by decide)) ⟨Nat.le_of_ble_eq_true rfl, Nat.le_of_ble_eq_true rfl⟩ ⟨Nat.zero_le _, Nat.zero_le _⟩ rfl hl.1 (Nat.le_of_ble_eq_true rfl) rfl dX8_goesWith_47 (fun r_15 g_14 H locs hd hw => ?_)
        refine lv_if_eq (tgt := 117) K.1 K.2.1 dX8_goesWith_50 (by decide) (fun h_16 => ?_) (fun h_16 => ?_)
        · have hd := hd.1 h_16
          exact bb_X8_goesWith_117 K hr ih x1 x2 x3 x4 x5 g_14 _ _ _ hd hw (lv_sub hl [0, 1, 2, 3, 4, 5] rfl)
        · have hd := hd.2 h_16
          refine lv_iconst (v := (0 : Int32)) K.1 K.2.1 dX8_goesWith_53 (by decide) ?_
          refine lv_topi (fun x6_17 ex6_17 => ?_)
          have hd := hd x6_17 ex6_17
          refine lv_istore (lv' := [(6, .int x6_17), (0, .ref (ad 0)), (1, .int x1), (2, .int x2), (3, .int x3), (4, .int x4), (5, .int x5)]) K.1 K.2.1 dX8_goesWith_54 hl (by decide) rfl (fun ls hl => ?_)
          refine lv_iconst (v := (0 : Int32)) K.1 K.2.1 dX8_goesWith_56 (by decide) ?_
          refine lv_topi (fun x7_18 ex7_18 => ?_)
          have hd := hd x7_18 ex7_18
          refine lv_istore (lv' := [(7, .int x7_18), (6, .int x6_17), (0, .ref (ad 0)), (1, .int x1), (2, .int x2), (3, .int x3), (4, .int x4), (5, .int x5)]) K.1 K.2.1 dX8_goesWith_57 hl (by decide) rfl (fun ls hl => ?_)
          obtain ⟨n9, hd⟩ := hd
          exact bb_X8_goesWith_59 K hr ih n9 x1 x2 x3 x4 x5 x6_17 x7_18 g_14 _ _ _ hd hw (lv_sub hl [2, 3, 4, 5, 6, 7, 1, 0] rfl)
set_option maxHeartbeats 4000000 in
set_option maxRecDepth 100000 in
theorem cc_X8_goesWith (l : Launch) (D : va_G) (cy : Nat → ClassId) (ad : Nat → Nat) (A : Nat → Prop) (g0 : Sg) (Q : Int32 → Sg → Prop) (x1 : Int32) (x2 : Int32) (hd : vv_X8_goesWith x1 x2 g0 Q) : Met l yX8_goesWith (Cond.code yX8_goesWith cX8_goesWith 8 (some .int) :: TT) (rmD 46) (va_Pc [.ref (ad 0), .int x1, .int x2] (PreG (wsM cy ad) D cy A g0)) (va_Qi Q (PostG (wsM cy ad) D A) A) 0 0 A := by
  unfold vv_X8_goesWith at hd
  refine Met.ofW (cc := cX8_goesWith) (maxL := 8) (ret := (some .int)) (by decide) rfl ?_
  intro p e s m args below meth c s₁ B hml hv
  obtain ⟨rfl, hP, hK0, hD⟩ := hv
  have K : Kx p s m _ meth c cX8_goesWith 8 RX8 D cy := ⟨B.exec, B.bytes, hml, findClass_of_methodNamed B.named, fun w h => atoms_spec (ws := Cond.code yX8_goesWith cX8_goesWith 8 (some .int) :: TT) B.pre w (List.mem_cons_of_mem _ h), hK0, B.notSynchronized⟩
  have hw : Wd D A s.heap (wsM cy ad g0) s.heap [] := ⟨hP, hD, va_S.rf⟩
  have hr := B.returns
  have hl := lv_entry ([.ref (ad 0), .int x1, .int x2]) (n := 8) (Nat.le_of_ble_eq_true rfl)
  rw [lg_entry_eq]
  generalize (lg_sl ([.ref (ad 0), .int x1, .int x2]) ++ List.replicate (8 - (lg_sl ([.ref (ad 0), .int x1, .int x2])).length) Slot.unset).toArray = ls at hl ⊢
  have hl : lv_has ls 8 [(0, .ref (ad 0)), (1, .int x1), (2, .int x2)] := hl
  refine lv_aload_n K.1 K.2.1 dX8_goesWith_0 rfl (lv_at hl 0 rfl) ?_
  refine lv_iload_n K.1 K.2.1 dX8_goesWith_1 rfl (lv_at hl 1 rfl) ?_
  refine rk_vi (As := [.int x1]) (rest := []) K hw (cc_X8_isOne l D cy ad A g0 _ x1 hd) lk_X8_73 (ci := 8) rfl (q0 := 0) (wsM_at cy ad _ (by decide)) ⟨Nat.le_of_ble_eq_true rfl, Nat.le_of_ble_eq_true rfl⟩ ⟨Nat.zero_le _, Nat.zero_le _⟩ rfl hl.1 (Nat.le_of_ble_eq_true rfl) rfl dX8_goesWith_2 (fun r_2 g_1 H locs hd hw => ?_)
  refine lv_if_eq (tgt := 18) K.1 K.2.1 dX8_goesWith_5 (by decide) (fun h_3 => ?_) (fun h_3 => ?_)
  · have hd := hd.1 h_3
    refine lv_bipush (v := (-2 : Int32)) K.1 K.2.1 dX8_goesWith_18 (by decide) ?_
    exact rk_iret K hw hr hd dX8_goesWith_20
  · have hd := hd.2 h_3
    refine lv_iload_n K.1 K.2.1 dX8_goesWith_8 rfl (lv_at hl 2 rfl) ?_
    refine lv_i2l (v := x2.toInt64) K.1 K.2.1 dX8_goesWith_9 rfl ?_
    refine lv_lconst (v := (0 : Int64)) K.1 K.2.1 dX8_goesWith_10 rfl ?_
    refine lv_lconst (v := (1 : Int64)) K.1 K.2.1 dX8_goesWith_11 rfl ?_
    refine rk_si (As := [.long x2.toInt64, .long (0 : Int64), .long (1 : Int64)]) (rest := []) K hw (cc_X8_in l D cy ad A g_1 _ (x2.toInt64) (0 : Int64) (1 : Int64) hd) lk_X8_67 ⟨Nat.le_of_ble_eq_true rfl, Nat.le_of_ble_eq_true rfl⟩ ⟨Nat.zero_le _, Nat.zero_le _⟩ rfl hl.1 (Nat.le_of_ble_eq_true rfl) rfl dX8_goesWith_12 (fun r_5 g_4 H locs hd hw => ?_)
    refine lv_if_ne (tgt := 21) K.1 K.2.1 dX8_goesWith_15 (by decide) (fun h_6 => ?_) (fun h_6 => ?_)
    · have hd := hd.1 h_6
      refine lv_iconst (v := (-1 : Int32)) K.1 K.2.1 dX8_goesWith_21 (by decide) ?_
      refine lv_topi (fun x3_7 ex3_7 => ?_)
      have hd := hd x3_7 ex3_7
      refine lv_istore_n (lv' := [(3, .int x3_7), (0, .ref (ad 0)), (1, .int x1), (2, .int x2)]) K.1 K.2.1 dX8_goesWith_22 rfl hl (by decide) rfl (fun ls hl => ?_)
      refine lv_iconst (v := (-1 : Int32)) K.1 K.2.1 dX8_goesWith_23 (by decide) ?_
      refine lv_topi (fun x4_8 ex4_8 => ?_)
      have hd := hd x4_8 ex4_8
      refine lv_istore (lv' := [(4, .int x4_8), (3, .int x3_7), (0, .ref (ad 0)), (1, .int x1), (2, .int x2)]) K.1 K.2.1 dX8_goesWith_24 hl (by decide) rfl (fun ls hl => ?_)
      refine lv_iconst (v := (0 : Int32)) K.1 K.2.1 dX8_goesWith_26 (by decide) ?_
      refine lv_topi (fun x5_9 ex5_9 => ?_)
      have hd := hd x5_9 ex5_9
      refine lv_istore (lv' := [(5, .int x5_9), (4, .int x4_8), (3, .int x3_7), (0, .ref (ad 0)), (1, .int x1), (2, .int x2)]) K.1 K.2.1 dX8_goesWith_27 hl (by decide) rfl (fun ls hl => ?_)
      obtain ⟨n9, hd⟩ := hd
      exact bb_X8_goesWith_29 K hr  n9 x1 x2 x3_7 x4_8 x5_9 g_4 _ _ _ hd hw (lv_sub hl [3, 4, 5, 2, 1, 0] rfl)
    · have hd := hd.2 h_6
      refine lv_bipush (v := (-2 : Int32)) K.1 K.2.1 dX8_goesWith_18 (by decide) ?_
      exact rk_iret K hw hr hd dX8_goesWith_20
theorem dX8_firstOther_0 : decode cX8_firstOther 0 = .ok (.iconst 0, 1) := by decide +kernel
theorem dX8_firstOther_1 : decode cX8_firstOther 1 = .ok (.istore_n 3, 1) := by decide +kernel
theorem dX8_firstOther_2 : decode cX8_firstOther 2 = .ok (.iload_n 3, 1) := by decide +kernel
theorem dX8_firstOther_3 : decode cX8_firstOther 3 = .ok (.bipush 8, 2) := by decide +kernel
theorem dX8_firstOther_5 : decode cX8_firstOther 5 = .ok (.if_icmp .ge 31, 3) := by decide +kernel
theorem dX8_firstOther_8 : decode cX8_firstOther 8 = .ok (.aload_n 0, 1) := by decide +kernel
theorem dX8_firstOther_9 : decode cX8_firstOther 9 = .ok (.iload_n 2, 1) := by decide +kernel
theorem dX8_firstOther_10 : decode cX8_firstOther 10 = .ok (.iload_n 3, 1) := by decide +kernel
theorem dX8_firstOther_11 : decode cX8_firstOther 11 = .ok (.invokevirtual 118, 3) := by decide +kernel
theorem dX8_firstOther_14 : decode cX8_firstOther 14 = .ok (.aload_n 0, 1) := by decide +kernel
theorem dX8_firstOther_15 : decode cX8_firstOther 15 = .ok (.getfield 54, 3) := by decide +kernel
theorem dX8_firstOther_18 : decode cX8_firstOther 18 = .ok (.bipush 40, 2) := by decide +kernel
theorem dX8_firstOther_20 : decode cX8_firstOther 20 = .ok (.iload_n 1, 1) := by decide +kernel
theorem dX8_firstOther_21 : decode cX8_firstOther 21 = .ok (.imul, 1) := by decide +kernel
theorem dX8_firstOther_22 : decode cX8_firstOther 22 = .ok (.iload_n 3, 1) := by decide +kernel
theorem dX8_firstOther_23 : decode cX8_firstOther 23 = .ok (.iadd, 1) := by decide +kernel
theorem dX8_firstOther_24 : decode cX8_firstOther 24 = .ok (.iaload, 1) := by decide +kernel
theorem dX8_firstOther_25 : decode cX8_firstOther 25 = .ok (.if_icmp .eq 5, 3) := by decide +kernel
theorem dX8_firstOther_28 : decode cX8_firstOther 28 = .ok (.iload_n 3, 1) := by decide +kernel
theorem dX8_firstOther_29 : decode cX8_firstOther 29 = .ok (.ireturn, 1) := by decide +kernel
theorem dX8_firstOther_30 : decode cX8_firstOther 30 = .ok (.iinc 3 1, 3) := by decide +kernel
theorem dX8_firstOther_33 : decode cX8_firstOther 33 = .ok (.goto (-31), 3) := by decide +kernel
theorem dX8_firstOther_36 : decode cX8_firstOther 36 = .ok (.iconst (-1), 1) := by decide +kernel
theorem dX8_firstOther_37 : decode cX8_firstOther 37 = .ok (.ireturn, 1) := by decide +kernel
set_option maxHeartbeats 4000000 in
set_option maxRecDepth 100000 in
theorem bb_X8_firstOther_2 {p : Program} {l : Launch} {e : Env} {s : State} {m : MethodId} {args : Array Value} {below : List Frame} {meth : Method} {c : Code} {D : va_G} {cy : Nat → ClassId} {ad : Nat → Nat} {A : Nat → Prop} {Q : Int32 → Sg → Prop} (K : Kx p s m args meth c cX8_firstOther 4 RX8 D cy) (hr : meth.sig.returnType = (some .int)) : ∀ (n : Nat) (x1 : Int32) (x2 : Int32) (x3 : Int32)  (g0 : Sg) (H : Heap) (locs : List Loc) (ls : Array Slot), vv_X8_firstOther_L2 Q n x1 x2 x3 g0 → Wd D A s.heap (wsM cy ad g0) H locs → lv_has ls 4 [(0, .ref (ad 0)), (1, .int x1), (2, .int x2), (3, .int x3)] → W p l e (rmD 45) s m args below meth c H locs 0 0 (MQ below (va_Qi Q (PostG (wsM cy ad) D A) A) args s 0 0 A) (F0 m 2 ls []) := by
  intro n
  induction n with
  | zero => intro _ _ _ _ _ _ _ hd; exact hd.elim
  | succ n ih =>
    intro x1 x2 x3 g0 H locs ls hd hw hl
    unfold vv_X8_firstOther_L2 at hd
    refine lv_iload_n K.1 K.2.1 dX8_firstOther_2 rfl (lv_at hl 3 rfl) ?_
    refine lv_bipush (v := (8 : Int32)) K.1 K.2.1 dX8_firstOther_3 (by decide) ?_
    refine lv_icmp_ge (tgt := 36) K.1 K.2.1 dX8_firstOther_5 (by decide) (fun h_2 => ?_) (fun h_2 => ?_)
    · have hd := hd.1 h_2
      refine lv_iconst (v := (-1 : Int32)) K.1 K.2.1 dX8_firstOther_36 (by decide) ?_
      exact rk_iret K hw hr hd dX8_firstOther_37
    · have hd := hd.2 h_2
      refine lv_aload_n K.1 K.2.1 dX8_firstOther_8 rfl (lv_at hl 0 rfl) ?_
      refine lv_iload_n K.1 K.2.1 dX8_firstOther_9 rfl (lv_at hl 2 rfl) ?_
      refine lv_iload_n K.1 K.2.1 dX8_firstOther_10 rfl (lv_at hl 3 rfl) ?_
      refine rk_vi (As := [.int x2, .int x3]) (rest := []) K hw (cc_X8_voteOf l D cy ad A g0 _ x2 x3 hd) lk_X8_118 (ci := 8) rfl (q0 := 0) (wsM_at cy ad _ (by decide)) ⟨Nat.le_of_ble_eq_true rfl, Nat.le_of_ble_eq_true rfl⟩ ⟨Nat.zero_le _, Nat.zero_le _⟩ rfl hl.1 (Nat.le_of_ble_eq_true rfl) rfl dX8_firstOther_11 (fun r_4 g_3 H locs hd hw => ?_)
      refine lv_aload_n K.1 K.2.1 dX8_firstOther_14 rfl (lv_at hl 0 rfl) ?_
      refine rm_get 39 K hw (by decide) kf_X8_54 rfl dX8_firstOther_15 ?_
      refine lv_bipush (v := (40 : Int32)) K.1 K.2.1 dX8_firstOther_18 (by decide) ?_
      refine lv_iload_n K.1 K.2.1 dX8_firstOther_20 rfl (lv_at hl 1 rfl) ?_
      refine lv_imul K.1 K.2.1 dX8_firstOther_21 ?_
      refine lv_iload_n K.1 K.2.1 dX8_firstOther_22 rfl (lv_at hl 3 rfl) ?_
      refine lv_iadd K.1 K.2.1 dX8_firstOther_23 ?_
      have hb := hd.1
      have hd := hd.2
      refine rm_iald 12 K hw (by decide) hb dX8_firstOther_24 ?_
      refine lv_icmp_eq (tgt := 30) K.1 K.2.1 dX8_firstOther_25 (by decide) (fun h_5 => ?_) (fun h_5 => ?_)
      · have hd := hd.1 h_5
        obtain ⟨x3_6, ex3_6⟩ : ∃ y : Int32, y = x3 + (1 : Int32) := ⟨_, rfl⟩
        have hd := hd x3_6 ex3_6
        refine lv_iinc (v := x3_6) (lv' := [(3, .int x3_6), (0, .ref (ad 0)), (1, .int x1), (2, .int x2)]) K.1 K.2.1 dX8_firstOther_30 hl (k := 3) rfl (by rw [ex3_6]; rfl) (by decide) rfl (fun ls hl => ?_)
        refine lv_goto (tgt := 2) K.1 K.2.1 dX8_firstOther_33 (by decide) ?_
        exact ih x1 x2 x3_6 g_3 _ _ _ hd hw (lv_sub hl [1, 2, 3, 0] rfl)
      · have hd := hd.2 h_5
        refine lv_iload_n K.1 K.2.1 dX8_firstOther_28 rfl (lv_at hl 3 rfl) ?_
        exact rk_iret K hw hr hd dX8_firstOther_29
set_option maxHeartbeats 4000000 in
set_option maxRecDepth 100000 in
theorem cc_X8_firstOther (l : Launch) (D : va_G) (cy : Nat → ClassId) (ad : Nat → Nat) (A : Nat → Prop) (g0 : Sg) (Q : Int32 → Sg → Prop) (x1 : Int32) (x2 : Int32) (hd : vv_X8_firstOther x1 x2 g0 Q) : Met l yX8_firstOther (Cond.code yX8_firstOther cX8_firstOther 4 (some .int) :: TT) (rmD 45) (va_Pc [.ref (ad 0), .int x1, .int x2] (PreG (wsM cy ad) D cy A g0)) (va_Qi Q (PostG (wsM cy ad) D A) A) 0 0 A := by
  unfold vv_X8_firstOther at hd
  refine Met.ofW (cc := cX8_firstOther) (maxL := 4) (ret := (some .int)) (by decide) rfl ?_
  intro p e s m args below meth c s₁ B hml hv
  obtain ⟨rfl, hP, hK0, hD⟩ := hv
  have K : Kx p s m _ meth c cX8_firstOther 4 RX8 D cy := ⟨B.exec, B.bytes, hml, findClass_of_methodNamed B.named, fun w h => atoms_spec (ws := Cond.code yX8_firstOther cX8_firstOther 4 (some .int) :: TT) B.pre w (List.mem_cons_of_mem _ h), hK0, B.notSynchronized⟩
  have hw : Wd D A s.heap (wsM cy ad g0) s.heap [] := ⟨hP, hD, va_S.rf⟩
  have hr := B.returns
  have hl := lv_entry ([.ref (ad 0), .int x1, .int x2]) (n := 4) (Nat.le_of_ble_eq_true rfl)
  rw [lg_entry_eq]
  generalize (lg_sl ([.ref (ad 0), .int x1, .int x2]) ++ List.replicate (4 - (lg_sl ([.ref (ad 0), .int x1, .int x2])).length) Slot.unset).toArray = ls at hl ⊢
  have hl : lv_has ls 4 [(0, .ref (ad 0)), (1, .int x1), (2, .int x2)] := hl
  refine lv_iconst (v := (0 : Int32)) K.1 K.2.1 dX8_firstOther_0 (by decide) ?_
  refine lv_topi (fun x3_1 ex3_1 => ?_)
  have hd := hd x3_1 ex3_1
  refine lv_istore_n (lv' := [(3, .int x3_1), (0, .ref (ad 0)), (1, .int x1), (2, .int x2)]) K.1 K.2.1 dX8_firstOther_1 rfl hl (by decide) rfl (fun ls hl => ?_)
  obtain ⟨n9, hd⟩ := hd
  exact bb_X8_firstOther_2 K hr  n9 x1 x2 x3_1 g0 _ _ _ hd hw (lv_sub hl [1, 2, 3, 0] rfl)
theorem dX8_likeSet_0 : decode cX8_likeSet 0 = .ok (.iconst 0, 1) := by decide +kernel
theorem dX8_likeSet_1 : decode cX8_likeSet 1 = .ok (.istore_n 2, 1) := by decide +kernel
theorem dX8_likeSet_2 : decode cX8_likeSet 2 = .ok (.iconst 0, 1) := by decide +kernel
theorem dX8_likeSet_3 : decode cX8_likeSet 3 = .ok (.istore_n 3, 1) := by decide +kernel
theorem dX8_likeSet_4 : decode cX8_likeSet 4 = .ok (.iload_n 3, 1) := by decide +kernel
theorem dX8_likeSet_5 : decode cX8_likeSet 5 = .ok (.aload_n 0, 1) := by decide +kernel
theorem dX8_likeSet_6 : decode cX8_likeSet 6 = .ok (.getfield 64, 3) := by decide +kernel
theorem dX8_likeSet_9 : decode cX8_likeSet 9 = .ok (.if_icmp .ge 29, 3) := by decide +kernel
theorem dX8_likeSet_12 : decode cX8_likeSet 12 = .ok (.iload_n 2, 1) := by decide +kernel
theorem dX8_likeSet_13 : decode cX8_likeSet 13 = .ok (.aload_n 0, 1) := by decide +kernel
theorem dX8_likeSet_14 : decode cX8_likeSet 14 = .ok (.iload_n 1, 1) := by decide +kernel
theorem dX8_likeSet_15 : decode cX8_likeSet 15 = .ok (.iload_n 3, 1) := by decide +kernel
theorem dX8_likeSet_16 : decode cX8_likeSet 16 = .ok (.invokevirtual 410, 3) := by decide +kernel
theorem dX8_likeSet_19 : decode cX8_likeSet 19 = .ok (.iconst (-1), 1) := by decide +kernel
theorem dX8_likeSet_20 : decode cX8_likeSet 20 = .ok (.if_icmp .ne 7, 3) := by decide +kernel
theorem dX8_likeSet_23 : decode cX8_likeSet 23 = .ok (.iconst 1, 1) := by decide +kernel
theorem dX8_likeSet_24 : decode cX8_likeSet 24 = .ok (.goto 4, 3) := by decide +kernel
theorem dX8_likeSet_27 : decode cX8_likeSet 27 = .ok (.iconst 0, 1) := by decide +kernel
theorem dX8_likeSet_28 : decode cX8_likeSet 28 = .ok (.iload_n 3, 1) := by decide +kernel
theorem dX8_likeSet_29 : decode cX8_likeSet 29 = .ok (.ishl, 1) := by decide +kernel
theorem dX8_likeSet_30 : decode cX8_likeSet 30 = .ok (.ior, 1) := by decide +kernel
theorem dX8_likeSet_31 : decode cX8_likeSet 31 = .ok (.istore_n 2, 1) := by decide +kernel
theorem dX8_likeSet_32 : decode cX8_likeSet 32 = .ok (.iinc 3 1, 3) := by decide +kernel
theorem dX8_likeSet_35 : decode cX8_likeSet 35 = .ok (.goto (-31), 3) := by decide +kernel
theorem dX8_likeSet_38 : decode cX8_likeSet 38 = .ok (.iload_n 2, 1) := by decide +kernel
theorem dX8_likeSet_39 : decode cX8_likeSet 39 = .ok (.ireturn, 1) := by decide +kernel
set_option maxHeartbeats 4000000 in
set_option maxRecDepth 100000 in
theorem bb_X8_likeSet_28 {p : Program} {l : Launch} {e : Env} {s : State} {m : MethodId} {args : Array Value} {below : List Frame} {meth : Method} {c : Code} {D : va_G} {cy : Nat → ClassId} {ad : Nat → Nat} {A : Nat → Prop} {Q : Int32 → Sg → Prop} (K : Kx p s m args meth c cX8_likeSet 4 RX8 D cy) (hr : meth.sig.returnType = (some .int)) {rc4 : Int32 → Int32 → Int32 → Sg → Prop} (hrc4 : ∀ (x1 : Int32) (x2 : Int32) (x3 : Int32) (u : Sg) (H : Heap) (locs : List Loc) (ls : Array Slot), rc4 x1 x2 x3 u → Wd D A s.heap (wsM cy ad u) H locs → lv_has ls 4 [(0, .ref (ad 0)), (1, .int x1), (2, .int x2), (3, .int x3)] → W p l e (rmD 46) s m args below meth c H locs 0 0 (MQ below (va_Qi Q (PostG (wsM cy ad) D A) A) args s 0 0 A) (F0 m 4 ls [])) (x1 : Int32) (x3 : Int32) (t0 : Int32) (t1 : Int32) (g0 : Sg) (H : Heap) (locs : List Loc) (ls : Array Slot) (hd : vv_X8_likeSet_J28 rc4 x1 x3 t0 t1 g0 Q) (hw : Wd D A s.heap (wsM cy ad g0) H locs) (hl : lv_has ls 4 [(0, .ref (ad 0)), (1, .int x1), (3, .int x3)]) : W p l e (rmD 46) s m args below meth c H locs 0 0 (MQ below (va_Qi Q (PostG (wsM cy ad) D A) A) args s 0 0 A) (F0 m 28 ls [.int t1, .int t0]) := by
  unfold vv_X8_likeSet_J28 at hd
  refine lv_iload_n K.1 K.2.1 dX8_likeSet_28 rfl (lv_at hl 2 rfl) ?_
  refine lv_ishl K.1 K.2.1 dX8_likeSet_29 ?_
  refine lv_ior K.1 K.2.1 dX8_likeSet_30 ?_
  refine lv_topi (fun x2_7 ex2_7 => ?_)
  have hd := hd x2_7 ex2_7
  refine lv_istore_n (lv' := [(2, .int x2_7), (0, .ref (ad 0)), (1, .int x1), (3, .int x3)]) K.1 K.2.1 dX8_likeSet_31 rfl hl (by decide) rfl (fun ls hl => ?_)
  obtain ⟨x3_8, ex3_8⟩ : ∃ y : Int32, y = x3 + (1 : Int32) := ⟨_, rfl⟩
  have hd := hd x3_8 ex3_8
  refine lv_iinc (v := x3_8) (lv' := [(3, .int x3_8), (2, .int x2_7), (0, .ref (ad 0)), (1, .int x1)]) K.1 K.2.1 dX8_likeSet_32 hl (k := 3) rfl (by rw [ex3_8]; rfl) (by decide) rfl (fun ls hl => ?_)
  refine lv_goto (tgt := 4) K.1 K.2.1 dX8_likeSet_35 (by decide) ?_
  exact hrc4 x1 x2_7 x3_8 g0 _ _ _ hd hw (lv_sub hl [2, 3, 1, 0] rfl)
set_option maxHeartbeats 4000000 in
set_option maxRecDepth 100000 in
theorem bb_X8_likeSet_4 {p : Program} {l : Launch} {e : Env} {s : State} {m : MethodId} {args : Array Value} {below : List Frame} {meth : Method} {c : Code} {D : va_G} {cy : Nat → ClassId} {ad : Nat → Nat} {A : Nat → Prop} {Q : Int32 → Sg → Prop} (K : Kx p s m args meth c cX8_likeSet 4 RX8 D cy) (hr : meth.sig.returnType = (some .int)) : ∀ (n : Nat) (x1 : Int32) (x2 : Int32) (x3 : Int32)  (g0 : Sg) (H : Heap) (locs : List Loc) (ls : Array Slot), vv_X8_likeSet_L4 Q n x1 x2 x3 g0 → Wd D A s.heap (wsM cy ad g0) H locs → lv_has ls 4 [(0, .ref (ad 0)), (1, .int x1), (2, .int x2), (3, .int x3)] → W p l e (rmD 46) s m args below meth c H locs 0 0 (MQ below (va_Qi Q (PostG (wsM cy ad) D A) A) args s 0 0 A) (F0 m 4 ls []) := by
  intro n
  induction n with
  | zero => intro _ _ _ _ _ _ _ hd; exact hd.elim
  | succ n ih =>
    intro x1 x2 x3 g0 H locs ls hd hw hl
    unfold vv_X8_likeSet_L4 at hd
    refine lv_iload_n K.1 K.2.1 dX8_likeSet_4 rfl (lv_at hl 3 rfl) ?_
    refine lv_aload_n K.1 K.2.1 dX8_likeSet_5 rfl (lv_at hl 0 rfl) ?_
    refine rm_get 11 K hw (by decide) kf_X8_64 rfl dX8_likeSet_6 ?_
    refine lv_icmp_ge (tgt := 38) K.1 K.2.1 dX8_likeSet_9 (by decide) (fun h_3 => ?_) (fun h_3 => ?_)
    · have hd := hd.1 h_3
      refine lv_iload_n K.1 K.2.1 dX8_likeSet_38 rfl (lv_at hl 2 rfl) ?_
      exact rk_iret K hw hr hd dX8_likeSet_39
    · have hd := hd.2 h_3
      refine lv_iload_n K.1 K.2.1 dX8_likeSet_12 rfl (lv_at hl 2 rfl) ?_
      refine lv_aload_n K.1 K.2.1 dX8_likeSet_13 rfl (lv_at hl 0 rfl) ?_
      refine lv_iload_n K.1 K.2.1 dX8_likeSet_14 rfl (lv_at hl 1 rfl) ?_
      refine lv_iload_n K.1 K.2.1 dX8_likeSet_15 rfl (lv_at hl 3 rfl) ?_
      refine rk_vi (As := [.int x1, .int x3]) (rest := [.int x2]) K hw (cc_X8_firstOther l D cy ad A g0 _ x1 x3 hd) lk_X8_410 (ci := 8) rfl (q0 := 0) (wsM_at cy ad _ (by decide)) ⟨Nat.le_of_ble_eq_true rfl, Nat.le_of_ble_eq_true rfl⟩ ⟨Nat.zero_le _, Nat.zero_le _⟩ rfl hl.1 (Nat.le_of_ble_eq_true rfl) rfl dX8_likeSet_16 (fun r_5 g_4 H locs hd hw => ?_)
      refine lv_iconst (v := (-1 : Int32)) K.1 K.2.1 dX8_likeSet_19 (by decide) ?_
      refine lv_icmp_ne (tgt := 27) K.1 K.2.1 dX8_likeSet_20 (by decide) (fun h_6 => ?_) (fun h_6 => ?_)
      · have hd := hd.1 h_6
        refine lv_iconst (v := (0 : Int32)) K.1 K.2.1 dX8_likeSet_27 (by decide) ?_
        exact bb_X8_likeSet_28 K hr ih x1 x3 x2 (0 : Int32) g_4 _ _ _ hd hw (lv_sub hl [0, 1, 3] rfl)
      · have hd := hd.2 h_6
        refine lv_iconst (v := (1 : Int32)) K.1 K.2.1 dX8_likeSet_23 (by decide) ?_
        refine lv_goto (tgt := 28) K.1 K.2.1 dX8_likeSet_24 (by decide) ?_
        exact bb_X8_likeSet_28 K hr ih x1 x3 x2 (1 : Int32) g_4 _ _ _ hd hw (lv_sub hl [0, 1, 3] rfl)
set_option maxHeartbeats 4000000 in
set_option maxRecDepth 100000 in
theorem cc_X8_likeSet (l : Launch) (D : va_G) (cy : Nat → ClassId) (ad : Nat → Nat) (A : Nat → Prop) (g0 : Sg) (Q : Int32 → Sg → Prop) (x1 : Int32) (hd : vv_X8_likeSet x1 g0 Q) : Met l yX8_likeSet (Cond.code yX8_likeSet cX8_likeSet 4 (some .int) :: TT) (rmD 46) (va_Pc [.ref (ad 0), .int x1] (PreG (wsM cy ad) D cy A g0)) (va_Qi Q (PostG (wsM cy ad) D A) A) 0 0 A := by
  unfold vv_X8_likeSet at hd
  refine Met.ofW (cc := cX8_likeSet) (maxL := 4) (ret := (some .int)) (by decide) rfl ?_
  intro p e s m args below meth c s₁ B hml hv
  obtain ⟨rfl, hP, hK0, hD⟩ := hv
  have K : Kx p s m _ meth c cX8_likeSet 4 RX8 D cy := ⟨B.exec, B.bytes, hml, findClass_of_methodNamed B.named, fun w h => atoms_spec (ws := Cond.code yX8_likeSet cX8_likeSet 4 (some .int) :: TT) B.pre w (List.mem_cons_of_mem _ h), hK0, B.notSynchronized⟩
  have hw : Wd D A s.heap (wsM cy ad g0) s.heap [] := ⟨hP, hD, va_S.rf⟩
  have hr := B.returns
  have hl := lv_entry ([.ref (ad 0), .int x1]) (n := 4) (Nat.le_of_ble_eq_true rfl)
  rw [lg_entry_eq]
  generalize (lg_sl ([.ref (ad 0), .int x1]) ++ List.replicate (4 - (lg_sl ([.ref (ad 0), .int x1])).length) Slot.unset).toArray = ls at hl ⊢
  have hl : lv_has ls 4 [(0, .ref (ad 0)), (1, .int x1)] := hl
  refine lv_iconst (v := (0 : Int32)) K.1 K.2.1 dX8_likeSet_0 (by decide) ?_
  refine lv_topi (fun x2_1 ex2_1 => ?_)
  have hd := hd x2_1 ex2_1
  refine lv_istore_n (lv' := [(2, .int x2_1), (0, .ref (ad 0)), (1, .int x1)]) K.1 K.2.1 dX8_likeSet_1 rfl hl (by decide) rfl (fun ls hl => ?_)
  refine lv_iconst (v := (0 : Int32)) K.1 K.2.1 dX8_likeSet_2 (by decide) ?_
  refine lv_topi (fun x3_2 ex3_2 => ?_)
  have hd := hd x3_2 ex3_2
  refine lv_istore_n (lv' := [(3, .int x3_2), (2, .int x2_1), (0, .ref (ad 0)), (1, .int x1)]) K.1 K.2.1 dX8_likeSet_3 rfl hl (by decide) rfl (fun ls hl => ?_)
  obtain ⟨n9, hd⟩ := hd
  exact bb_X8_likeSet_4 K hr  n9 x1 x2_1 x3_2 g0 _ _ _ hd hw (lv_sub hl [2, 3, 1, 0] rfl)
theorem dX8_isSheet_0 : decode cX8_isSheet 0 = .ok (.iload_n 0, 1) := by decide +kernel
theorem dX8_isSheet_1 : decode cX8_isSheet 1 = .ok (.i2l, 1) := by decide +kernel
theorem dX8_isSheet_2 : decode cX8_isSheet 2 = .ok (.lconst 0, 1) := by decide +kernel
theorem dX8_isSheet_3 : decode cX8_isSheet 3 = .ok (.ldc2_w 127, 3) := by decide +kernel
theorem dX8_isSheet_6 : decode cX8_isSheet 6 = .ok (.invokestatic 67, 3) := by decide +kernel
theorem dX8_isSheet_9 : decode cX8_isSheet 9 = .ok (.ireturn, 1) := by decide +kernel
set_option maxHeartbeats 4000000 in
set_option maxRecDepth 100000 in
theorem cc_X8_isSheet (l : Launch) (D : va_G) (cy : Nat → ClassId) (ad : Nat → Nat) (A : Nat → Prop) (g0 : Sg) (Q : Int32 → Sg → Prop) (x0 : Int32) (hd : vv_X8_isSheet x0 g0 Q) : Met l yX8_isSheet (Cond.code yX8_isSheet cX8_isSheet 1 (some .boolean) :: TT) (rmD 1) (va_Pc [.int x0] (PreG (wsM cy ad) D cy A g0)) (va_Qi Q (PostG (wsM cy ad) D A) A) 0 0 A := by
  unfold vv_X8_isSheet at hd
  refine Met.ofW (cc := cX8_isSheet) (maxL := 1) (ret := (some .boolean)) (by decide) rfl ?_
  intro p e s m args below meth c s₁ B hml hv
  obtain ⟨rfl, hP, hK0, hD⟩ := hv
  have K : Kx p s m _ meth c cX8_isSheet 1 RX8 D cy := ⟨B.exec, B.bytes, hml, findClass_of_methodNamed B.named, fun w h => atoms_spec (ws := Cond.code yX8_isSheet cX8_isSheet 1 (some .boolean) :: TT) B.pre w (List.mem_cons_of_mem _ h), hK0, B.notSynchronized⟩
  have hw : Wd D A s.heap (wsM cy ad g0) s.heap [] := ⟨hP, hD, va_S.rf⟩
  have hr := B.returns
  have hl := lv_entry ([.int x0]) (n := 1) (Nat.le_of_ble_eq_true rfl)
  rw [lg_entry_eq]
  generalize (lg_sl ([.int x0]) ++ List.replicate (1 - (lg_sl ([.int x0])).length) Slot.unset).toArray = ls at hl ⊢
  have hl : lv_has ls 1 [(0, .int x0)] := hl
  refine lv_iload_n K.1 K.2.1 dX8_isSheet_0 rfl (lv_at hl 0 rfl) ?_
  refine lv_i2l (v := x0.toInt64) K.1 K.2.1 dX8_isSheet_1 rfl ?_
  refine lv_lconst (v := (0 : Int64)) K.1 K.2.1 dX8_isSheet_2 rfl ?_
  refine lv_ldc2 K.1 K.2.1 K.2.2.2.1 (K.2.2.2.2.1 _ kl_X8_127) dX8_isSheet_3 ?_
  refine rk_si (As := [.long x0.toInt64, .long (0 : Int64), .long (3 : Int64)]) (rest := []) K hw (cc_X8_in l D cy ad A g0 _ (x0.toInt64) (0 : Int64) (3 : Int64) hd) lk_X8_67 ⟨Nat.le_of_ble_eq_true rfl, Nat.le_of_ble_eq_true rfl⟩ ⟨Nat.zero_le _, Nat.zero_le _⟩ rfl hl.1 (Nat.le_of_ble_eq_true rfl) rfl dX8_isSheet_6 (fun r_2 g_1 H locs hd hw => ?_)
  exact rk_zret K hw hr hd.1 hd.2 dX8_isSheet_9
theorem dX8_tells_0 : decode cX8_tells 0 = .ok (.iload_n 1, 1) := by decide +kernel
theorem dX8_tells_1 : decode cX8_tells 1 = .ok (.invokestatic 413, 3) := by decide +kernel
theorem dX8_tells_4 : decode cX8_tells 4 = .ok (.ifCond .eq 23, 3) := by decide +kernel
theorem dX8_tells_7 : decode cX8_tells 7 = .ok (.aload_n 0, 1) := by decide +kernel
theorem dX8_tells_8 : decode cX8_tells 8 = .ok (.iload_n 2, 1) := by decide +kernel
theorem dX8_tells_9 : decode cX8_tells 9 = .ok (.invokevirtual 73, 3) := by decide +kernel
theorem dX8_tells_12 : decode cX8_tells 12 = .ok (.ifCond .eq 15, 3) := by decide +kernel
theorem dX8_tells_15 : decode cX8_tells 15 = .ok (.iload_n 3, 1) := by decide +kernel
theorem dX8_tells_16 : decode cX8_tells 16 = .ok (.i2l, 1) := by decide +kernel
theorem dX8_tells_17 : decode cX8_tells 17 = .ok (.lconst 0, 1) := by decide +kernel
theorem dX8_tells_18 : decode cX8_tells 18 = .ok (.ldc2_w 349, 3) := by decide +kernel
theorem dX8_tells_21 : decode cX8_tells 21 = .ok (.invokestatic 67, 3) := by decide +kernel
theorem dX8_tells_24 : decode cX8_tells 24 = .ok (.ifCond .ne 6, 3) := by decide +kernel
theorem dX8_tells_27 : decode cX8_tells 27 = .ok (.bipush (-2), 2) := by decide +kernel
theorem dX8_tells_29 : decode cX8_tells 29 = .ok (.ireturn, 1) := by decide +kernel
theorem dX8_tells_30 : decode cX8_tells 30 = .ok (.aload_n 0, 1) := by decide +kernel
theorem dX8_tells_31 : decode cX8_tells 31 = .ok (.getfield 44, 3) := by decide +kernel
theorem dX8_tells_34 : decode cX8_tells 34 = .ok (.iload_n 1, 1) := by decide +kernel
theorem dX8_tells_35 : decode cX8_tells 35 = .ok (.baload, 1) := by decide +kernel
theorem dX8_tells_36 : decode cX8_tells 36 = .ok (.ifCond .ne 6, 3) := by decide +kernel
theorem dX8_tells_39 : decode cX8_tells 39 = .ok (.bipush (-11), 2) := by decide +kernel
theorem dX8_tells_41 : decode cX8_tells 41 = .ok (.ireturn, 1) := by decide +kernel
theorem dX8_tells_42 : decode cX8_tells 42 = .ok (.aload_n 0, 1) := by decide +kernel
theorem dX8_tells_43 : decode cX8_tells 43 = .ok (.getfield 51, 3) := by decide +kernel
theorem dX8_tells_46 : decode cX8_tells 46 = .ok (.iload_n 1, 1) := by decide +kernel
theorem dX8_tells_47 : decode cX8_tells 47 = .ok (.iaload, 1) := by decide +kernel
theorem dX8_tells_48 : decode cX8_tells 48 = .ok (.bipush 8, 2) := by decide +kernel
theorem dX8_tells_50 : decode cX8_tells 50 = .ok (.if_icmp .eq 6, 3) := by decide +kernel
theorem dX8_tells_53 : decode cX8_tells 53 = .ok (.bipush (-2), 2) := by decide +kernel
theorem dX8_tells_55 : decode cX8_tells 55 = .ok (.ireturn, 1) := by decide +kernel
theorem dX8_tells_56 : decode cX8_tells 56 = .ok (.iload_n 3, 1) := by decide +kernel
theorem dX8_tells_57 : decode cX8_tells 57 = .ok (.ifCond .eq 9, 3) := by decide +kernel
theorem dX8_tells_60 : decode cX8_tells 60 = .ok (.iload_n 3, 1) := by decide +kernel
theorem dX8_tells_61 : decode cX8_tells 61 = .ok (.bipush 7, 2) := by decide +kernel
theorem dX8_tells_63 : decode cX8_tells 63 = .ok (.if_icmp .ne 22, 3) := by decide +kernel
theorem dX8_tells_66 : decode cX8_tells 66 = .ok (.iload_n 3, 1) := by decide +kernel
theorem dX8_tells_67 : decode cX8_tells 67 = .ok (.ifCond .ne 12, 3) := by decide +kernel
theorem dX8_tells_70 : decode cX8_tells 70 = .ok (.aload_n 0, 1) := by decide +kernel
theorem dX8_tells_71 : decode cX8_tells 71 = .ok (.iload_n 1, 1) := by decide +kernel
theorem dX8_tells_72 : decode cX8_tells 72 = .ok (.iload_n 2, 1) := by decide +kernel
theorem dX8_tells_73 : decode cX8_tells 73 = .ok (.invokevirtual 410, 3) := by decide +kernel
theorem dX8_tells_76 : decode cX8_tells 76 = .ok (.goto 8, 3) := by decide +kernel
theorem dX8_tells_79 : decode cX8_tells 79 = .ok (.aload_n 0, 1) := by decide +kernel
theorem dX8_tells_80 : decode cX8_tells 80 = .ok (.iload_n 1, 1) := by decide +kernel
theorem dX8_tells_81 : decode cX8_tells 81 = .ok (.invokevirtual 416, 3) := by decide +kernel
theorem dX8_tells_84 : decode cX8_tells 84 = .ok (.ireturn, 1) := by decide +kernel
theorem dX8_tells_85 : decode cX8_tells 85 = .ok (.iload_n 3, 1) := by decide +kernel
theorem dX8_tells_86 : decode cX8_tells 86 = .ok (.iconst 1, 1) := by decide +kernel
theorem dX8_tells_87 : decode cX8_tells 87 = .ok (.if_icmp .ne 8, 3) := by decide +kernel
theorem dX8_tells_90 : decode cX8_tells 90 = .ok (.bipush 7, 2) := by decide +kernel
theorem dX8_tells_92 : decode cX8_tells 92 = .ok (.goto 24, 3) := by decide +kernel
theorem dX8_tells_95 : decode cX8_tells 95 = .ok (.iload_n 3, 1) := by decide +kernel
theorem dX8_tells_96 : decode cX8_tells 96 = .ok (.iconst 4, 1) := by decide +kernel
theorem dX8_tells_97 : decode cX8_tells 97 = .ok (.if_icmp .ge 7, 3) := by decide +kernel
theorem dX8_tells_100 : decode cX8_tells 100 = .ok (.iload_n 3, 1) := by decide +kernel
theorem dX8_tells_101 : decode cX8_tells 101 = .ok (.goto 15, 3) := by decide +kernel
theorem dX8_tells_104 : decode cX8_tells 104 = .ok (.iload_n 3, 1) := by decide +kernel
theorem dX8_tells_105 : decode cX8_tells 105 = .ok (.bipush 6, 2) := by decide +kernel
theorem dX8_tells_107 : decode cX8_tells 107 = .ok (.if_icmp .ne 8, 3) := by decide +kernel
theorem dX8_tells_110 : decode cX8_tells 110 = .ok (.bipush 8, 2) := by decide +kernel
theorem dX8_tells_112 : decode cX8_tells 112 = .ok (.goto 4, 3) := by decide +kernel
theorem dX8_tells_115 : decode cX8_tells 115 = .ok (.iconst 5, 1) := by decide +kernel
theorem dX8_tells_116 : decode cX8_tells 116 = .ok (.istore 4, 2) := by decide +kernel
theorem dX8_tells_118 : decode cX8_tells 118 = .ok (.iload 4, 2) := by decide +kernel
theorem dX8_tells_120 : decode cX8_tells 120 = .ok (.bipush 8, 2) := by decide +kernel
theorem dX8_tells_122 : decode cX8_tells 122 = .ok (.if_icmp .ne 10, 3) := by decide +kernel
theorem dX8_tells_125 : decode cX8_tells 125 = .ok (.aload_n 0, 1) := by decide +kernel
theorem dX8_tells_126 : decode cX8_tells 126 = .ok (.getfield 95, 3) := by decide +kernel
theorem dX8_tells_129 : decode cX8_tells 129 = .ok (.goto 10, 3) := by decide +kernel
theorem dX8_tells_132 : decode cX8_tells 132 = .ok (.aload_n 0, 1) := by decide +kernel
theorem dX8_tells_133 : decode cX8_tells 133 = .ok (.iload_n 2, 1) := by decide +kernel
theorem dX8_tells_134 : decode cX8_tells 134 = .ok (.iload 4, 2) := by decide +kernel
theorem dX8_tells_136 : decode cX8_tells 136 = .ok (.invokevirtual 84, 3) := by decide +kernel
theorem dX8_tells_139 : decode cX8_tells 139 = .ok (.istore 5, 2) := by decide +kernel
theorem dX8_tells_141 : decode cX8_tells 141 = .ok (.iload 4, 2) := by decide +kernel
theorem dX8_tells_143 : decode cX8_tells 143 = .ok (.bipush 8, 2) := by decide +kernel
theorem dX8_tells_145 : decode cX8_tells 145 = .ok (.if_icmp .ne 12, 3) := by decide +kernel
theorem dX8_tells_148 : decode cX8_tells 148 = .ok (.aload_n 0, 1) := by decide +kernel
theorem dX8_tells_149 : decode cX8_tells 149 = .ok (.getfield 61, 3) := by decide +kernel
theorem dX8_tells_152 : decode cX8_tells 152 = .ok (.iconst 1, 1) := by decide +kernel
theorem dX8_tells_153 : decode cX8_tells 153 = .ok (.isub, 1) := by decide +kernel
theorem dX8_tells_154 : decode cX8_tells 154 = .ok (.goto 19, 3) := by decide +kernel
theorem dX8_tells_157 : decode cX8_tells 157 = .ok (.iload 4, 2) := by decide +kernel
theorem dX8_tells_159 : decode cX8_tells 159 = .ok (.bipush 7, 2) := by decide +kernel
theorem dX8_tells_161 : decode cX8_tells 161 = .ok (.if_icmp .ne 7, 3) := by decide +kernel
theorem dX8_tells_164 : decode cX8_tells 164 = .ok (.iconst 5, 1) := by decide +kernel
theorem dX8_tells_165 : decode cX8_tells 165 = .ok (.goto 8, 3) := by decide +kernel
theorem dX8_tells_168 : decode cX8_tells 168 = .ok (.iload 4, 2) := by decide +kernel
theorem dX8_tells_170 : decode cX8_tells 170 = .ok (.invokestatic 81, 3) := by decide +kernel
theorem dX8_tells_173 : decode cX8_tells 173 = .ok (.istore 6, 2) := by decide +kernel
theorem dX8_tells_175 : decode cX8_tells 175 = .ok (.iload 4, 2) := by decide +kernel
theorem dX8_tells_177 : decode cX8_tells 177 = .ok (.iconst 3, 1) := by decide +kernel
theorem dX8_tells_178 : decode cX8_tells 178 = .ok (.if_icmp .ne 8, 3) := by decide +kernel
theorem dX8_tells_181 : decode cX8_tells 181 = .ok (.bipush (-9), 2) := by decide +kernel
theorem dX8_tells_183 : decode cX8_tells 183 = .ok (.goto 4, 3) := by decide +kernel
theorem dX8_tells_186 : decode cX8_tells 186 = .ok (.iconst 0, 1) := by decide +kernel
theorem dX8_tells_187 : decode cX8_tells 187 = .ok (.istore 7, 2) := by decide +kernel
theorem dX8_tells_189 : decode cX8_tells 189 = .ok (.iconst 0, 1) := by decide +kernel
theorem dX8_tells_190 : decode cX8_tells 190 = .ok (.istore 8, 2) := by decide +kernel
theorem dX8_tells_192 : decode cX8_tells 192 = .ok (.iconst 0, 1) := by decide +kernel
theorem dX8_tells_193 : decode cX8_tells 193 = .ok (.istore 9, 2) := by decide +kernel
theorem dX8_tells_195 : decode cX8_tells 195 = .ok (.iconst (-1), 1) := by decide +kernel
theorem dX8_tells_196 : decode cX8_tells 196 = .ok (.istore 10, 2) := by decide +kernel
theorem dX8_tells_198 : decode cX8_tells 198 = .ok (.iload 6, 2) := by decide +kernel
theorem dX8_tells_200 : decode cX8_tells 200 = .ok (.istore 11, 2) := by decide +kernel
theorem dX8_tells_202 : decode cX8_tells 202 = .ok (.iload 11, 2) := by decide +kernel
theorem dX8_tells_204 : decode cX8_tells 204 = .ok (.iload 7, 2) := by decide +kernel
theorem dX8_tells_206 : decode cX8_tells 206 = .ok (.if_icmp .lt 61, 3) := by decide +kernel
theorem dX8_tells_209 : decode cX8_tells 209 = .ok (.aload_n 0, 1) := by decide +kernel
theorem dX8_tells_210 : decode cX8_tells 210 = .ok (.iload 4, 2) := by decide +kernel
theorem dX8_tells_212 : decode cX8_tells 212 = .ok (.iload_n 2, 1) := by decide +kernel
theorem dX8_tells_213 : decode cX8_tells 213 = .ok (.iload 11, 2) := by decide +kernel
theorem dX8_tells_215 : decode cX8_tells 215 = .ok (.invokevirtual 88, 3) := by decide +kernel
theorem dX8_tells_218 : decode cX8_tells 218 = .ok (.aload_n 0, 1) := by decide +kernel
theorem dX8_tells_219 : decode cX8_tells 219 = .ok (.iload_n 1, 1) := by decide +kernel
theorem dX8_tells_220 : decode cX8_tells 220 = .ok (.iload_n 2, 1) := by decide +kernel
theorem dX8_tells_221 : decode cX8_tells 221 = .ok (.invokevirtual 410, 3) := by decide +kernel
theorem dX8_tells_224 : decode cX8_tells 224 = .ok (.iconst (-1), 1) := by decide +kernel
theorem dX8_tells_225 : decode cX8_tells 225 = .ok (.if_icmp .ne 36, 3) := by decide +kernel
theorem dX8_tells_228 : decode cX8_tells 228 = .ok (.iload 8, 2) := by decide +kernel
theorem dX8_tells_230 : decode cX8_tells 230 = .ok (.iload 11, 2) := by decide +kernel
theorem dX8_tells_232 : decode cX8_tells 232 = .ok (.iload 7, 2) := by decide +kernel
theorem dX8_tells_234 : decode cX8_tells 234 = .ok (.isub, 1) := by decide +kernel
theorem dX8_tells_235 : decode cX8_tells 235 = .ok (.bipush 20, 2) := by decide +kernel
theorem dX8_tells_237 : decode cX8_tells 237 = .ok (.if_icmp .ge 13, 3) := by decide +kernel
theorem dX8_tells_240 : decode cX8_tells 240 = .ok (.iconst 1, 1) := by decide +kernel
theorem dX8_tells_241 : decode cX8_tells 241 = .ok (.iload 11, 2) := by decide +kernel
theorem dX8_tells_243 : decode cX8_tells 243 = .ok (.iload 7, 2) := by decide +kernel
theorem dX8_tells_245 : decode cX8_tells 245 = .ok (.isub, 1) := by decide +kernel
theorem dX8_tells_246 : decode cX8_tells 246 = .ok (.ishl, 1) := by decide +kernel
theorem dX8_tells_247 : decode cX8_tells 247 = .ok (.goto 4, 3) := by decide +kernel
theorem dX8_tells_250 : decode cX8_tells 250 = .ok (.iconst 0, 1) := by decide +kernel
theorem dX8_tells_251 : decode cX8_tells 251 = .ok (.ior, 1) := by decide +kernel
theorem dX8_tells_252 : decode cX8_tells 252 = .ok (.istore 8, 2) := by decide +kernel
theorem dX8_tells_254 : decode cX8_tells 254 = .ok (.iinc 9 1, 3) := by decide +kernel
theorem dX8_tells_257 : decode cX8_tells 257 = .ok (.iload 11, 2) := by decide +kernel
theorem dX8_tells_259 : decode cX8_tells 259 = .ok (.istore 10, 2) := by decide +kernel
theorem dX8_tells_261 : decode cX8_tells 261 = .ok (.iinc 11 (-1), 3) := by decide +kernel
theorem dX8_tells_264 : decode cX8_tells 264 = .ok (.goto (-62), 3) := by decide +kernel
theorem dX8_tells_267 : decode cX8_tells 267 = .ok (.aload_n 0, 1) := by decide +kernel
theorem dX8_tells_268 : decode cX8_tells 268 = .ok (.iload 4, 2) := by decide +kernel
theorem dX8_tells_270 : decode cX8_tells 270 = .ok (.iload_n 2, 1) := by decide +kernel
theorem dX8_tells_271 : decode cX8_tells 271 = .ok (.iload 5, 2) := by decide +kernel
theorem dX8_tells_273 : decode cX8_tells 273 = .ok (.invokevirtual 88, 3) := by decide +kernel
theorem dX8_tells_276 : decode cX8_tells 276 = .ok (.iload_n 3, 1) := by decide +kernel
theorem dX8_tells_277 : decode cX8_tells 277 = .ok (.iconst 4, 1) := by decide +kernel
theorem dX8_tells_278 : decode cX8_tells 278 = .ok (.if_icmp .ne 8, 3) := by decide +kernel
theorem dX8_tells_281 : decode cX8_tells 281 = .ok (.iload 9, 2) := by decide +kernel
theorem dX8_tells_283 : decode cX8_tells 283 = .ok (.goto 15, 3) := by decide +kernel
theorem dX8_tells_286 : decode cX8_tells 286 = .ok (.iload_n 3, 1) := by decide +kernel
theorem dX8_tells_287 : decode cX8_tells 287 = .ok (.iconst 5, 1) := by decide +kernel
theorem dX8_tells_288 : decode cX8_tells 288 = .ok (.if_icmp .ne 8, 3) := by decide +kernel
theorem dX8_tells_291 : decode cX8_tells 291 = .ok (.iload 10, 2) := by decide +kernel
theorem dX8_tells_293 : decode cX8_tells 293 = .ok (.goto 5, 3) := by decide +kernel
theorem dX8_tells_296 : decode cX8_tells 296 = .ok (.iload 8, 2) := by decide +kernel
theorem dX8_tells_298 : decode cX8_tells 298 = .ok (.ireturn, 1) := by decide +kernel
set_option maxHeartbeats 4000000 in
set_option maxRecDepth 100000 in
theorem bb_X8_tells_66 {p : Program} {l : Launch} {e : Env} {s : State} {m : MethodId} {args : Array Value} {below : List Frame} {meth : Method} {c : Code} {D : va_G} {cy : Nat → ClassId} {ad : Nat → Nat} {A : Nat → Prop} {Q : Int32 → Sg → Prop} (K : Kx p s m args meth c cX8_tells 12 RX8 D cy) (hr : meth.sig.returnType = (some .int)) (x1 : Int32) (x2 : Int32) (x3 : Int32)  (g0 : Sg) (H : Heap) (locs : List Loc) (ls : Array Slot) (hd : vv_X8_tells_J66 x1 x2 x3 g0 Q) (hw : Wd D A s.heap (wsM cy ad g0) H locs) (hl : lv_has ls 12 [(0, .ref (ad 0)), (1, .int x1), (2, .int x2), (3, .int x3)]) : W p l e (rmD 47) s m args below meth c H locs 0 0 (MQ below (va_Qi Q (PostG (wsM cy ad) D A) A) args s 0 0 A) (F0 m 66 ls []) := by
  unfold vv_X8_tells_J66 at hd
  refine lv_iload_n K.1 K.2.1 dX8_tells_66 rfl (lv_at hl 3 rfl) ?_
  refine lv_if_ne (tgt := 79) K.1 K.2.1 dX8_tells_67 (by decide) (fun h_13 => ?_) (fun h_13 => ?_)
  · have hd := hd.1 h_13
    refine lv_aload_n K.1 K.2.1 dX8_tells_79 rfl (lv_at hl 0 rfl) ?_
    refine lv_iload_n K.1 K.2.1 dX8_tells_80 rfl (lv_at hl 1 rfl) ?_
    refine rk_vi (As := [.int x1]) (rest := []) K hw (cc_X8_likeSet l D cy ad A g0 _ x1 hd) lk_X8_416 (ci := 8) rfl (q0 := 0) (wsM_at cy ad _ (by decide)) ⟨Nat.le_of_ble_eq_true rfl, Nat.le_of_ble_eq_true rfl⟩ ⟨Nat.zero_le _, Nat.zero_le _⟩ rfl hl.1 (Nat.le_of_ble_eq_true rfl) rfl dX8_tells_81 (fun r_15 g_14 H locs hd hw => ?_)
    exact rk_iret K hw hr hd dX8_tells_84
  · have hd := hd.2 h_13
    refine lv_aload_n K.1 K.2.1 dX8_tells_70 rfl (lv_at hl 0 rfl) ?_
    refine lv_iload_n K.1 K.2.1 dX8_tells_71 rfl (lv_at hl 1 rfl) ?_
    refine lv_iload_n K.1 K.2.1 dX8_tells_72 rfl (lv_at hl 2 rfl) ?_
    refine rk_vi (As := [.int x1, .int x2]) (rest := []) K hw (cc_X8_firstOther l D cy ad A g0 _ x1 x2 hd) lk_X8_410 (ci := 8) rfl (q0 := 0) (wsM_at cy ad _ (by decide)) ⟨Nat.le_of_ble_eq_true rfl, Nat.le_of_ble_eq_true rfl⟩ ⟨Nat.zero_le _, Nat.zero_le _⟩ rfl hl.1 (Nat.le_of_ble_eq_true rfl) rfl dX8_tells_73 (fun r_17 g_16 H locs hd hw => ?_)
    refine lv_goto (tgt := 84) K.1 K.2.1 dX8_tells_76 (by decide) ?_
    exact rk_iret K hw hr hd dX8_tells_84
set_option maxHeartbeats 4000000 in
set_option maxRecDepth 100000 in
theorem bb_X8_tells_261 {p : Program} {l : Launch} {e : Env} {s : State} {m : MethodId} {args : Array Value} {below : List Frame} {meth : Method} {c : Code} {D : va_G} {cy : Nat → ClassId} {ad : Nat → Nat} {A : Nat → Prop} {Q : Int32 → Sg → Prop} (K : Kx p s m args meth c cX8_tells 12 RX8 D cy) (hr : meth.sig.returnType = (some .int)) {rc202 : Int32 → Int32 → Int32 → Int32 → Int32 → Int32 → Int32 → Int32 → Int32 → Int32 → Sg → Prop} (hrc202 : ∀ (x1 : Int32) (x2 : Int32) (x3 : Int32) (x4 : Int32) (x5 : Int32) (x7 : Int32) (x8 : Int32) (x9 : Int32) (x10 : Int32) (x11 : Int32) (u : Sg) (H : Heap) (locs : List Loc) (ls : Array Slot), rc202 x1 x2 x3 x4 x5 x7 x8 x9 x10 x11 u → Wd D A s.heap (wsM cy ad u) H locs → lv_has ls 12 [(0, .ref (ad 0)), (1, .int x1), (2, .int x2), (3, .int x3), (4, .int x4), (5, .int x5), (7, .int x7), (8, .int x8), (9, .int x9), (10, .int x10), (11, .int x11)] → W p l e (rmD 47) s m args below meth c H locs 0 0 (MQ below (va_Qi Q (PostG (wsM cy ad) D A) A) args s 0 0 A) (F0 m 202 ls [])) (x1 : Int32) (x2 : Int32) (x3 : Int32) (x4 : Int32) (x5 : Int32) (x7 : Int32) (x8 : Int32) (x9 : Int32) (x10 : Int32) (x11 : Int32)  (g0 : Sg) (H : Heap) (locs : List Loc) (ls : Array Slot) (hd : vv_X8_tells_J261 rc202 x1 x2 x3 x4 x5 x7 x8 x9 x10 x11 g0 Q) (hw : Wd D A s.heap (wsM cy ad g0) H locs) (hl : lv_has ls 12 [(0, .ref (ad 0)), (1, .int x1), (2, .int x2), (3, .int x3), (4, .int x4), (5, .int x5), (7, .int x7), (8, .int x8), (9, .int x9), (10, .int x10), (11, .int x11)]) : W p l e (rmD 47) s m args below meth c H locs 0 0 (MQ below (va_Qi Q (PostG (wsM cy ad) D A) A) args s 0 0 A) (F0 m 261 ls []) := by
  unfold vv_X8_tells_J261 at hd
  obtain ⟨x11_48, ex11_48⟩ : ∃ y : Int32, y = x11 + (-1 : Int32) := ⟨_, rfl⟩
  have hd := hd x11_48 ex11_48
  refine lv_iinc (v := x11_48) (lv' := [(11, .int x11_48), (0, .ref (ad 0)), (1, .int x1), (2, .int x2), (3, .int x3), (4, .int x4), (5, .int x5), (7, .int x7), (8, .int x8), (9, .int x9), (10, .int x10)]) K.1 K.2.1 dX8_tells_261 hl (k := 10) rfl (by rw [ex11_48]; rfl) (by decide) rfl (fun ls hl => ?_)
  refine lv_goto (tgt := 202) K.1 K.2.1 dX8_tells_264 (by decide) ?_
  exact hrc202 x1 x2 x3 x4 x5 x7 x8 x9 x10 x11_48 g0 _ _ _ hd hw (lv_sub hl [1, 2, 3, 4, 5, 6, 7, 8, 9, 10, 0] rfl)
set_option maxHeartbeats 4000000 in
set_option maxRecDepth 100000 in
theorem bb_X8_tells_251 {p : Program} {l : Launch} {e : Env} {s : State} {m : MethodId} {args : Array Value} {below : List Frame} {meth : Method} {c : Code} {D : va_G} {cy : Nat → ClassId} {ad : Nat → Nat} {A : Nat → Prop} {Q : Int32 → Sg → Prop} (K : Kx p s m args meth c cX8_tells 12 RX8 D cy) (hr : meth.sig.returnType = (some .int)) {rc202 : Int32 → Int32 → Int32 → Int32 → Int32 → Int32 → Int32 → Int32 → Int32 → Int32 → Sg → Prop} (hrc202 : ∀ (x1 : Int32) (x2 : Int32) (x3 : Int32) (x4 : Int32) (x5 : Int32) (x7 : Int32) (x8 : Int32) (x9 : Int32) (x10 : Int32) (x11 : Int32) (u : Sg) (H : Heap) (locs : List Loc) (ls : Array Slot), rc202 x1 x2 x3 x4 x5 x7 x8 x9 x10 x11 u → Wd D A s.heap (wsM cy ad u) H locs → lv_has ls 12 [(0, .ref (ad 0)), (1, .int x1), (2, .int x2), (3, .int x3), (4, .int x4), (5, .int x5), (7, .int x7), (8, .int x8), (9, .int x9), (10, .int x10), (11, .int x11)] → W p l e (rmD 47) s m args below meth c H locs 0 0 (MQ below (va_Qi Q (PostG (wsM cy ad) D A) A) args s 0 0 A) (F0 m 202 ls [])) (x1 : Int32) (x2 : Int32) (x3 : Int32) (x4 : Int32) (x5 : Int32) (x7 : Int32) (x9 : Int32) (x11 : Int32) (t0 : Int32) (t1 : Int32) (g0 : Sg) (H : Heap) (locs : List Loc) (ls : Array Slot) (hd : vv_X8_tells_J251 rc202 x1 x2 x3 x4 x5 x7 x9 x11 t0 t1 g0 Q) (hw : Wd D A s.heap (wsM cy ad g0) H locs) (hl : lv_has ls 12 [(0, .ref (ad 0)), (1, .int x1), (2, .int x2), (3, .int x3), (4, .int x4), (5, .int x5), (7, .int x7), (9, .int x9), (11, .int x11)]) : W p l e (rmD 47) s m args below meth c H locs 0 0 (MQ below (va_Qi Q (PostG (wsM cy ad) D A) A) args s 0 0 A) (F0 m 251 ls [.int t1, .int t0]) := by
  unfold vv_X8_tells_J251 at hd
  refine lv_ior K.1 K.2.1 dX8_tells_251 ?_
  refine lv_topi (fun x8_50 ex8_50 => ?_)
  have hd := hd x8_50 ex8_50
  refine lv_istore (lv' := [(8, .int x8_50), (0, .ref (ad 0)), (1, .int x1), (2, .int x2), (3, .int x3), (4, .int x4), (5, .int x5), (7, .int x7), (9, .int x9), (11, .int x11)]) K.1 K.2.1 dX8_tells_252 hl (by decide) rfl (fun ls hl => ?_)
  obtain ⟨x9_51, ex9_51⟩ : ∃ y : Int32, y = x9 + (1 : Int32) := ⟨_, rfl⟩
  have hd := hd x9_51 ex9_51
  refine lv_iinc (v := x9_51) (lv' := [(9, .int x9_51), (8, .int x8_50), (0, .ref (ad 0)), (1, .int x1), (2, .int x2), (3, .int x3), (4, .int x4), (5, .int x5), (7, .int x7), (11, .int x11)]) K.1 K.2.1 dX8_tells_254 hl (k := 8) rfl (by rw [ex9_51]; rfl) (by decide) rfl (fun ls hl => ?_)
  refine lv_iload K.1 K.2.1 dX8_tells_257 (lv_at hl 9 rfl) ?_
  refine lv_topi (fun x10_52 ex10_52 => ?_)
  have hd := hd x10_52 ex10_52
  refine lv_istore (lv' := [(10, .int x10_52), (9, .int x9_51), (8, .int x8_50), (0, .ref (ad 0)), (1, .int x1), (2, .int x2), (3, .int x3), (4, .int x4), (5, .int x5), (7, .int x7), (11, .int x11)]) K.1 K.2.1 dX8_tells_259 hl (by decide) rfl (fun ls hl => ?_)
  exact bb_X8_tells_261 K hr hrc202 x1 x2 x3 x4 x5 x7 x8_50 x9_51 x10_52 x11 g0 _ _ _ hd hw (lv_sub hl [3, 4, 5, 6, 7, 8, 9, 2, 1, 0, 10] rfl)
set_option maxHeartbeats 4000000 in
set_option maxRecDepth 100000 in
theorem bb_X8_tells_202 {p : Program} {l : Launch} {e : Env} {s : State} {m : MethodId} {args : Array Value} {below : List Frame} {meth : Method} {c : Code} {D : va_G} {cy : Nat → ClassId} {ad : Nat → Nat} {A : Nat → Prop} {Q : Int32 → Sg → Prop} (K : Kx p s m args meth c cX8_tells 12 RX8 D cy) (hr : meth.sig.returnType = (some .int)) : ∀ (n : Nat) (x1 : Int32) (x2 : Int32) (x3 : Int32) (x4 : Int32) (x5 : Int32) (x7 : Int32) (x8 : Int32) (x9 : Int32) (x10 : Int32) (x11 : Int32)  (g0 : Sg) (H : Heap) (locs : List Loc) (ls : Array Slot), vv_X8_tells_L202 Q n x1 x2 x3 x4 x5 x7 x8 x9 x10 x11 g0 → Wd D A s.heap (wsM cy ad g0) H locs → lv_has ls 12 [(0, .ref (ad 0)), (1, .int x1), (2, .int x2), (3, .int x3), (4, .int x4), (5, .int x5), (7, .int x7), (8, .int x8), (9, .int x9), (10, .int x10), (11, .int x11)] → W p l e (rmD 47) s m args below meth c H locs 0 0 (MQ below (va_Qi Q (PostG (wsM cy ad) D A) A) args s 0 0 A) (F0 m 202 ls []) := by
  intro n
  induction n with
  | zero => intro _ _ _ _ _ _ _ _ _ _ _ _ _ _ hd; exact hd.elim
  | succ n ih =>
    intro x1 x2 x3 x4 x5 x7 x8 x9 x10 x11 g0 H locs ls hd hw hl
    unfold vv_X8_tells_L202 at hd
    refine lv_iload K.1 K.2.1 dX8_tells_202 (lv_at hl 10 rfl) ?_
    refine lv_iload K.1 K.2.1 dX8_tells_204 (lv_at hl 6 rfl) ?_
    refine lv_icmp_lt (tgt := 267) K.1 K.2.1 dX8_tells_206 (by decide) (fun h_38 => ?_) (fun h_38 => ?_)
    · have hd := hd.1 h_38
      refine lv_aload_n K.1 K.2.1 dX8_tells_267 rfl (lv_at hl 0 rfl) ?_
      refine lv_iload K.1 K.2.1 dX8_tells_268 (lv_at hl 4 rfl) ?_
      refine lv_iload_n K.1 K.2.1 dX8_tells_270 rfl (lv_at hl 2 rfl) ?_
      refine lv_iload K.1 K.2.1 dX8_tells_271 (lv_at hl 5 rfl) ?_
      refine rk_vv (As := [.int x4, .int x2, .int x5]) (rest := []) K hw (cc_X8_lays l D cy ad A g0 _ x4 x2 x5 hd) lk_X8_88 (ci := 8) rfl (q0 := 0) (wsM_at cy ad _ (by decide)) ⟨Nat.le_of_ble_eq_true rfl, Nat.le_of_ble_eq_true rfl⟩ ⟨Nat.zero_le _, Nat.zero_le _⟩ rfl hl.1 (Nat.le_of_ble_eq_true rfl) rfl dX8_tells_273 (fun g_39 H locs hd hw => ?_)
      refine lv_iload_n K.1 K.2.1 dX8_tells_276 rfl (lv_at hl 3 rfl) ?_
      refine lv_iconst (v := (4 : Int32)) K.1 K.2.1 dX8_tells_277 (by decide) ?_
      refine lv_icmp_ne (tgt := 286) K.1 K.2.1 dX8_tells_278 (by decide) (fun h_41 => ?_) (fun h_41 => ?_)
      · have hd := hd.1 h_41
        refine lv_iload_n K.1 K.2.1 dX8_tells_286 rfl (lv_at hl 3 rfl) ?_
        refine lv_iconst (v := (5 : Int32)) K.1 K.2.1 dX8_tells_287 (by decide) ?_
        refine lv_icmp_ne (tgt := 296) K.1 K.2.1 dX8_tells_288 (by decide) (fun h_42 => ?_) (fun h_42 => ?_)
        · have hd := hd.1 h_42
          refine lv_iload K.1 K.2.1 dX8_tells_296 (lv_at hl 7 rfl) ?_
          exact rk_iret K hw hr hd dX8_tells_298
        · have hd := hd.2 h_42
          refine lv_iload K.1 K.2.1 dX8_tells_291 (lv_at hl 9 rfl) ?_
          refine lv_goto (tgt := 298) K.1 K.2.1 dX8_tells_293 (by decide) ?_
          exact rk_iret K hw hr hd dX8_tells_298
      · have hd := hd.2 h_41
        refine lv_iload K.1 K.2.1 dX8_tells_281 (lv_at hl 8 rfl) ?_
        refine lv_goto (tgt := 298) K.1 K.2.1 dX8_tells_283 (by decide) ?_
        exact rk_iret K hw hr hd dX8_tells_298
    · have hd := hd.2 h_38
      refine lv_aload_n K.1 K.2.1 dX8_tells_209 rfl (lv_at hl 0 rfl) ?_
      refine lv_iload K.1 K.2.1 dX8_tells_210 (lv_at hl 4 rfl) ?_
      refine lv_iload_n K.1 K.2.1 dX8_tells_212 rfl (lv_at hl 2 rfl) ?_
      refine lv_iload K.1 K.2.1 dX8_tells_213 (lv_at hl 10 rfl) ?_
      refine rk_vv (As := [.int x4, .int x2, .int x11]) (rest := []) K hw (cc_X8_lays l D cy ad A g0 _ x4 x2 x11 hd) lk_X8_88 (ci := 8) rfl (q0 := 0) (wsM_at cy ad _ (by decide)) ⟨Nat.le_of_ble_eq_true rfl, Nat.le_of_ble_eq_true rfl⟩ ⟨Nat.zero_le _, Nat.zero_le _⟩ rfl hl.1 (Nat.le_of_ble_eq_true rfl) rfl dX8_tells_215 (fun g_43 H locs hd hw => ?_)
      refine lv_aload_n K.1 K.2.1 dX8_tells_218 rfl (lv_at hl 0 rfl) ?_
      refine lv_iload_n K.1 K.2.1 dX8_tells_219 rfl (lv_at hl 1 rfl) ?_
      refine lv_iload_n K.1 K.2.1 dX8_tells_220 rfl (lv_at hl 2 rfl) ?_
      refine rk_vi (As := [.int x1, .int x2]) (rest := []) K hw (cc_X8_firstOther l D cy ad A g_43 _ x1 x2 hd) lk_X8_410 (ci := 8) rfl (q0 := 0) (wsM_at cy ad _ (by decide)) ⟨Nat.le_of_ble_eq_true rfl, Nat.le_of_ble_eq_true rfl⟩ ⟨Nat.zero_le _, Nat.zero_le _⟩ rfl hl.1 (Nat.le_of_ble_eq_true rfl) rfl dX8_tells_221 (fun r_46 g_45 H locs hd hw => ?_)
      refine lv_iconst (v := (-1 : Int32)) K.1 K.2.1 dX8_tells_224 (by decide) ?_
      refine lv_icmp_ne (tgt := 261) K.1 K.2.1 dX8_tells_225 (by decide) (fun h_47 => ?_) (fun h_47 => ?_)
      · have hd := hd.1 h_47
        exact bb_X8_tells_261 K hr ih x1 x2 x3 x4 x5 x7 x8 x9 x10 x11 g_45 _ _ _ hd hw (lv_sub hl [0, 1, 2, 3, 4, 5, 6, 7, 8, 9, 10] rfl)
      · have hd := hd.2 h_47
        refine lv_iload K.1 K.2.1 dX8_tells_228 (lv_at hl 7 rfl) ?_
        refine lv_iload K.1 K.2.1 dX8_tells_230 (lv_at hl 10 rfl) ?_
        refine lv_iload K.1 K.2.1 dX8_tells_232 (lv_at hl 6 rfl) ?_
        refine lv_isub K.1 K.2.1 dX8_tells_234 ?_
        refine lv_bipush (v := (20 : Int32)) K.1 K.2.1 dX8_tells_235 (by decide) ?_
        refine lv_icmp_ge (tgt := 250) K.1 K.2.1 dX8_tells_237 (by decide) (fun h_49 => ?_) (fun h_49 => ?_)
        · have hd := hd.1 h_49
          refine lv_iconst (v := (0 : Int32)) K.1 K.2.1 dX8_tells_250 (by decide) ?_
          exact bb_X8_tells_251 K hr ih x1 x2 x3 x4 x5 x7 x9 x11 x8 (0 : Int32) g_45 _ _ _ hd hw (lv_sub hl [0, 1, 2, 3, 4, 5, 6, 8, 10] rfl)
        · have hd := hd.2 h_49
          refine lv_iconst (v := (1 : Int32)) K.1 K.2.1 dX8_tells_240 (by decide) ?_
          refine lv_iload K.1 K.2.1 dX8_tells_241 (lv_at hl 10 rfl) ?_
          refine lv_iload K.1 K.2.1 dX8_tells_243 (lv_at hl 6 rfl) ?_
          refine lv_isub K.1 K.2.1 dX8_tells_245 ?_
          refine lv_ishl K.1 K.2.1 dX8_tells_246 ?_
          refine lv_goto (tgt := 251) K.1 K.2.1 dX8_tells_247 (by decide) ?_
          exact bb_X8_tells_251 K hr ih x1 x2 x3 x4 x5 x7 x9 x11 x8 ((1 : Int32) <<< ((x11 - x7) &&& 31)) g_45 _ _ _ hd hw (lv_sub hl [0, 1, 2, 3, 4, 5, 6, 8, 10] rfl)
set_option maxHeartbeats 4000000 in
set_option maxRecDepth 100000 in
theorem bb_X8_tells_187 {p : Program} {l : Launch} {e : Env} {s : State} {m : MethodId} {args : Array Value} {below : List Frame} {meth : Method} {c : Code} {D : va_G} {cy : Nat → ClassId} {ad : Nat → Nat} {A : Nat → Prop} {Q : Int32 → Sg → Prop} (K : Kx p s m args meth c cX8_tells 12 RX8 D cy) (hr : meth.sig.returnType = (some .int)) (x1 : Int32) (x2 : Int32) (x3 : Int32) (x4 : Int32) (x5 : Int32) (x6 : Int32) (t0 : Int32) (g0 : Sg) (H : Heap) (locs : List Loc) (ls : Array Slot) (hd : vv_X8_tells_J187 x1 x2 x3 x4 x5 x6 t0 g0 Q) (hw : Wd D A s.heap (wsM cy ad g0) H locs) (hl : lv_has ls 12 [(0, .ref (ad 0)), (1, .int x1), (2, .int x2), (3, .int x3), (4, .int x4), (5, .int x5), (6, .int x6)]) : W p l e (rmD 47) s m args below meth c H locs 0 0 (MQ below (va_Qi Q (PostG (wsM cy ad) D A) A) args s 0 0 A) (F0 m 187 ls [.int t0]) := by
  unfold vv_X8_tells_J187 at hd
  refine lv_topi (fun x7_33 ex7_33 => ?_)
  have hd := hd x7_33 ex7_33
  refine lv_istore (lv' := [(7, .int x7_33), (0, .ref (ad 0)), (1, .int x1), (2, .int x2), (3, .int x3), (4, .int x4), (5, .int x5), (6, .int x6)]) K.1 K.2.1 dX8_tells_187 hl (by decide) rfl (fun ls hl => ?_)
  refine lv_iconst (v := (0 : Int32)) K.1 K.2.1 dX8_tells_189 (by decide) ?_
  refine lv_topi (fun x8_34 ex8_34 => ?_)
  have hd := hd x8_34 ex8_34
  refine lv_istore (lv' := [(8, .int x8_34), (7, .int x7_33), (0, .ref (ad 0)), (1, .int x1), (2, .int x2), (3, .int x3), (4, .int x4), (5, .int x5), (6, .int x6)]) K.1 K.2.1 dX8_tells_190 hl (by decide) rfl (fun ls hl => ?_)
  refine lv_iconst (v := (0 : Int32)) K.1 K.2.1 dX8_tells_192 (by decide) ?_
  refine lv_topi (fun x9_35 ex9_35 => ?_)
  have hd := hd x9_35 ex9_35
  refine lv_istore (lv' := [(9, .int x9_35), (8, .int x8_34), (7, .int x7_33), (0, .ref (ad 0)), (1, .int x1), (2, .int x2), (3, .int x3), (4, .int x4), (5, .int x5), (6, .int x6)]) K.1 K.2.1 dX8_tells_193 hl (by decide) rfl (fun ls hl => ?_)
  refine lv_iconst (v := (-1 : Int32)) K.1 K.2.1 dX8_tells_195 (by decide) ?_
  refine lv_topi (fun x10_36 ex10_36 => ?_)
  have hd := hd x10_36 ex10_36
  refine lv_istore (lv' := [(10, .int x10_36), (9, .int x9_35), (8, .int x8_34), (7, .int x7_33), (0, .ref (ad 0)), (1, .int x1), (2, .int x2), (3, .int x3), (4, .int x4), (5, .int x5), (6, .int x6)]) K.1 K.2.1 dX8_tells_196 hl (by decide) rfl (fun ls hl => ?_)
  refine lv_iload K.1 K.2.1 dX8_tells_198 (lv_at hl 10 rfl) ?_
  refine lv_topi (fun x11_37 ex11_37 => ?_)
  have hd := hd x11_37 ex11_37
  refine lv_istore (lv' := [(11, .int x11_37), (10, .int x10_36), (9, .int x9_35), (8, .int x8_34), (7, .int x7_33), (0, .ref (ad 0)), (1, .int x1), (2, .int x2), (3, .int x3), (4, .int x4), (5, .int x5), (6, .int x6)]) K.1 K.2.1 dX8_tells_200 hl (by decide) rfl (fun ls hl => ?_)
  obtain ⟨n9, hd⟩ := hd
  exact bb_X8_tells_202 K hr  n9 x1 x2 x3 x4 x5 x7_33 x8_34 x9_35 x10_36 x11_37 g0 _ _ _ hd hw (lv_sub hl [5, 6, 7, 8, 9, 10, 4, 3, 2, 1, 0] rfl)
set_option maxHeartbeats 4000000 in
set_option maxRecDepth 100000 in
theorem bb_X8_tells_173 {p : Program} {l : Launch} {e : Env} {s : State} {m : MethodId} {args : Array Value} {below : List Frame} {meth : Method} {c : Code} {D : va_G} {cy : Nat → ClassId} {ad : Nat → Nat} {A : Nat → Prop} {Q : Int32 → Sg → Prop} (K : Kx p s m args meth c cX8_tells 12 RX8 D cy) (hr : meth.sig.returnType = (some .int)) (x1 : Int32) (x2 : Int32) (x3 : Int32) (x4 : Int32) (x5 : Int32) (t0 : Int32) (g0 : Sg) (H : Heap) (locs : List Loc) (ls : Array Slot) (hd : vv_X8_tells_J173 x1 x2 x3 x4 x5 t0 g0 Q) (hw : Wd D A s.heap (wsM cy ad g0) H locs) (hl : lv_has ls 12 [(0, .ref (ad 0)), (1, .int x1), (2, .int x2), (3, .int x3), (4, .int x4), (5, .int x5)]) : W p l e (rmD 47) s m args below meth c H locs 0 0 (MQ below (va_Qi Q (PostG (wsM cy ad) D A) A) args s 0 0 A) (F0 m 173 ls [.int t0]) := by
  unfold vv_X8_tells_J173 at hd
  refine lv_topi (fun x6_31 ex6_31 => ?_)
  have hd := hd x6_31 ex6_31
  refine lv_istore (lv' := [(6, .int x6_31), (0, .ref (ad 0)), (1, .int x1), (2, .int x2), (3, .int x3), (4, .int x4), (5, .int x5)]) K.1 K.2.1 dX8_tells_173 hl (by decide) rfl (fun ls hl => ?_)
  refine lv_iload K.1 K.2.1 dX8_tells_175 (lv_at hl 5 rfl) ?_
  refine lv_iconst (v := (3 : Int32)) K.1 K.2.1 dX8_tells_177 (by decide) ?_
  refine lv_icmp_ne (tgt := 186) K.1 K.2.1 dX8_tells_178 (by decide) (fun h_32 => ?_) (fun h_32 => ?_)
  · have hd := hd.1 h_32
    refine lv_iconst (v := (0 : Int32)) K.1 K.2.1 dX8_tells_186 (by decide) ?_
    exact bb_X8_tells_187 K hr  x1 x2 x3 x4 x5 x6_31 (0 : Int32) g0 _ _ _ hd hw (lv_sub hl [1, 2, 3, 4, 5, 6, 0] rfl)
  · have hd := hd.2 h_32
    refine lv_bipush (v := (-9 : Int32)) K.1 K.2.1 dX8_tells_181 (by decide) ?_
    refine lv_goto (tgt := 187) K.1 K.2.1 dX8_tells_183 (by decide) ?_
    exact bb_X8_tells_187 K hr  x1 x2 x3 x4 x5 x6_31 (-9 : Int32) g0 _ _ _ hd hw (lv_sub hl [1, 2, 3, 4, 5, 6, 0] rfl)
set_option maxHeartbeats 4000000 in
set_option maxRecDepth 100000 in
theorem bb_X8_tells_139 {p : Program} {l : Launch} {e : Env} {s : State} {m : MethodId} {args : Array Value} {below : List Frame} {meth : Method} {c : Code} {D : va_G} {cy : Nat → ClassId} {ad : Nat → Nat} {A : Nat → Prop} {Q : Int32 → Sg → Prop} (K : Kx p s m args meth c cX8_tells 12 RX8 D cy) (hr : meth.sig.returnType = (some .int)) (x1 : Int32) (x2 : Int32) (x3 : Int32) (x4 : Int32) (t0 : Int32) (g0 : Sg) (H : Heap) (locs : List Loc) (ls : Array Slot) (hd : vv_X8_tells_J139 x1 x2 x3 x4 t0 g0 Q) (hw : Wd D A s.heap (wsM cy ad g0) H locs) (hl : lv_has ls 12 [(0, .ref (ad 0)), (1, .int x1), (2, .int x2), (3, .int x3), (4, .int x4)]) : W p l e (rmD 47) s m args below meth c H locs 0 0 (MQ below (va_Qi Q (PostG (wsM cy ad) D A) A) args s 0 0 A) (F0 m 139 ls [.int t0]) := by
  unfold vv_X8_tells_J139 at hd
  refine lv_topi (fun x5_26 ex5_26 => ?_)
  have hd := hd x5_26 ex5_26
  refine lv_istore (lv' := [(5, .int x5_26), (0, .ref (ad 0)), (1, .int x1), (2, .int x2), (3, .int x3), (4, .int x4)]) K.1 K.2.1 dX8_tells_139 hl (by decide) rfl (fun ls hl => ?_)
  refine lv_iload K.1 K.2.1 dX8_tells_141 (lv_at hl 5 rfl) ?_
  refine lv_bipush (v := (8 : Int32)) K.1 K.2.1 dX8_tells_143 (by decide) ?_
  refine lv_icmp_ne (tgt := 157) K.1 K.2.1 dX8_tells_145 (by decide) (fun h_27 => ?_) (fun h_27 => ?_)
  · have hd := hd.1 h_27
    refine lv_iload K.1 K.2.1 dX8_tells_157 (lv_at hl 5 rfl) ?_
    refine lv_bipush (v := (7 : Int32)) K.1 K.2.1 dX8_tells_159 (by decide) ?_
    refine lv_icmp_ne (tgt := 168) K.1 K.2.1 dX8_tells_161 (by decide) (fun h_28 => ?_) (fun h_28 => ?_)
    · have hd := hd.1 h_28
      refine lv_iload K.1 K.2.1 dX8_tells_168 (lv_at hl 5 rfl) ?_
      refine rk_si (As := [.int x4]) (rest := []) K hw (cc_X8_mostOf l D cy ad A g0 _ x4 hd) lk_X8_81 ⟨Nat.le_of_ble_eq_true rfl, Nat.le_of_ble_eq_true rfl⟩ ⟨Nat.zero_le _, Nat.zero_le _⟩ rfl hl.1 (Nat.le_of_ble_eq_true rfl) rfl dX8_tells_170 (fun r_30 g_29 H locs hd hw => ?_)
      exact bb_X8_tells_173 K hr  x1 x2 x3 x4 x5_26 r_30 g_29 _ _ _ hd hw (lv_sub hl [1, 2, 3, 4, 5, 0] rfl)
    · have hd := hd.2 h_28
      refine lv_iconst (v := (5 : Int32)) K.1 K.2.1 dX8_tells_164 (by decide) ?_
      refine lv_goto (tgt := 173) K.1 K.2.1 dX8_tells_165 (by decide) ?_
      exact bb_X8_tells_173 K hr  x1 x2 x3 x4 x5_26 (5 : Int32) g0 _ _ _ hd hw (lv_sub hl [1, 2, 3, 4, 5, 0] rfl)
  · have hd := hd.2 h_27
    refine lv_aload_n K.1 K.2.1 dX8_tells_148 rfl (lv_at hl 1 rfl) ?_
    refine rm_get 3 K hw (by decide) kf_X8_61 rfl dX8_tells_149 ?_
    refine lv_iconst (v := (1 : Int32)) K.1 K.2.1 dX8_tells_152 (by decide) ?_
    refine lv_isub K.1 K.2.1 dX8_tells_153 ?_
    refine lv_goto (tgt := 173) K.1 K.2.1 dX8_tells_154 (by decide) ?_
    exact bb_X8_tells_173 K hr  x1 x2 x3 x4 x5_26 ((g0 0 3) - (1 : Int32)) g0 _ _ _ hd hw (lv_sub hl [1, 2, 3, 4, 5, 0] rfl)
set_option maxHeartbeats 4000000 in
set_option maxRecDepth 100000 in
theorem bb_X8_tells_116 {p : Program} {l : Launch} {e : Env} {s : State} {m : MethodId} {args : Array Value} {below : List Frame} {meth : Method} {c : Code} {D : va_G} {cy : Nat → ClassId} {ad : Nat → Nat} {A : Nat → Prop} {Q : Int32 → Sg → Prop} (K : Kx p s m args meth c cX8_tells 12 RX8 D cy) (hr : meth.sig.returnType = (some .int)) (x1 : Int32) (x2 : Int32) (x3 : Int32) (t0 : Int32) (g0 : Sg) (H : Heap) (locs : List Loc) (ls : Array Slot) (hd : vv_X8_tells_J116 x1 x2 x3 t0 g0 Q) (hw : Wd D A s.heap (wsM cy ad g0) H locs) (hl : lv_has ls 12 [(0, .ref (ad 0)), (1, .int x1), (2, .int x2), (3, .int x3)]) : W p l e (rmD 47) s m args below meth c H locs 0 0 (MQ below (va_Qi Q (PostG (wsM cy ad) D A) A) args s 0 0 A) (F0 m 116 ls [.int t0]) := by
  unfold vv_X8_tells_J116 at hd
  refine lv_topi (fun x4_22 ex4_22 => ?_)
  have hd := hd x4_22 ex4_22
  refine lv_istore (lv' := [(4, .int x4_22), (0, .ref (ad 0)), (1, .int x1), (2, .int x2), (3, .int x3)]) K.1 K.2.1 dX8_tells_116 hl (by decide) rfl (fun ls hl => ?_)
  refine lv_iload K.1 K.2.1 dX8_tells_118 (lv_at hl 0 rfl) ?_
  refine lv_bipush (v := (8 : Int32)) K.1 K.2.1 dX8_tells_120 (by decide) ?_
  refine lv_icmp_ne (tgt := 132) K.1 K.2.1 dX8_tells_122 (by decide) (fun h_23 => ?_) (fun h_23 => ?_)
  · have hd := hd.1 h_23
    refine lv_aload_n K.1 K.2.1 dX8_tells_132 rfl (lv_at hl 1 rfl) ?_
    refine lv_iload_n K.1 K.2.1 dX8_tells_133 rfl (lv_at hl 3 rfl) ?_
    refine lv_iload K.1 K.2.1 dX8_tells_134 (lv_at hl 0 rfl) ?_
    refine rk_vi (As := [.int x2, .int x4_22]) (rest := []) K hw (cc_X8_told l D cy ad A g0 _ x2 x4_22 hd) lk_X8_84 (ci := 8) rfl (q0 := 0) (wsM_at cy ad _ (by decide)) ⟨Nat.le_of_ble_eq_true rfl, Nat.le_of_ble_eq_true rfl⟩ ⟨Nat.zero_le _, Nat.zero_le _⟩ rfl hl.1 (Nat.le_of_ble_eq_true rfl) rfl dX8_tells_136 (fun r_25 g_24 H locs hd hw => ?_)
    exact bb_X8_tells_139 K hr  x1 x2 x3 x4_22 r_25 g_24 _ _ _ hd hw (lv_sub hl [1, 2, 3, 4, 0] rfl)
  · have hd := hd.2 h_23
    refine lv_aload_n K.1 K.2.1 dX8_tells_125 rfl (lv_at hl 1 rfl) ?_
    refine rm_get 4 K hw (by decide) kf_X8_95 rfl dX8_tells_126 ?_
    refine lv_goto (tgt := 139) K.1 K.2.1 dX8_tells_129 (by decide) ?_
    exact bb_X8_tells_139 K hr  x1 x2 x3 x4_22 (g0 0 4) g0 _ _ _ hd hw (lv_sub hl [1, 2, 3, 4, 0] rfl)
set_option maxHeartbeats 4000000 in
set_option maxRecDepth 100000 in
theorem cc_X8_tells (l : Launch) (D : va_G) (cy : Nat → ClassId) (ad : Nat → Nat) (A : Nat → Prop) (g0 : Sg) (Q : Int32 → Sg → Prop) (x1 : Int32) (x2 : Int32) (x3 : Int32) (hd : vv_X8_tells x1 x2 x3 g0 Q) : Met l yX8_tells (Cond.code yX8_tells cX8_tells 12 (some .int) :: TT) (rmD 47) (va_Pc [.ref (ad 0), .int x1, .int x2, .int x3] (PreG (wsM cy ad) D cy A g0)) (va_Qi Q (PostG (wsM cy ad) D A) A) 0 0 A := by
  unfold vv_X8_tells at hd
  refine Met.ofW (cc := cX8_tells) (maxL := 12) (ret := (some .int)) (by decide) rfl ?_
  intro p e s m args below meth c s₁ B hml hv
  obtain ⟨rfl, hP, hK0, hD⟩ := hv
  have K : Kx p s m _ meth c cX8_tells 12 RX8 D cy := ⟨B.exec, B.bytes, hml, findClass_of_methodNamed B.named, fun w h => atoms_spec (ws := Cond.code yX8_tells cX8_tells 12 (some .int) :: TT) B.pre w (List.mem_cons_of_mem _ h), hK0, B.notSynchronized⟩
  have hw : Wd D A s.heap (wsM cy ad g0) s.heap [] := ⟨hP, hD, va_S.rf⟩
  have hr := B.returns
  have hl := lv_entry ([.ref (ad 0), .int x1, .int x2, .int x3]) (n := 12) (Nat.le_of_ble_eq_true rfl)
  rw [lg_entry_eq]
  generalize (lg_sl ([.ref (ad 0), .int x1, .int x2, .int x3]) ++ List.replicate (12 - (lg_sl ([.ref (ad 0), .int x1, .int x2, .int x3])).length) Slot.unset).toArray = ls at hl ⊢
  have hl : lv_has ls 12 [(0, .ref (ad 0)), (1, .int x1), (2, .int x2), (3, .int x3)] := hl
  refine lv_iload_n K.1 K.2.1 dX8_tells_0 rfl (lv_at hl 1 rfl) ?_
  refine rk_si (As := [.int x1]) (rest := []) K hw (cc_X8_isSheet l D cy ad A g0 _ x1 hd) lk_X8_413 ⟨Nat.le_of_ble_eq_true rfl, Nat.le_of_ble_eq_true rfl⟩ ⟨Nat.zero_le _, Nat.zero_le _⟩ rfl hl.1 (Nat.le_of_ble_eq_true rfl) rfl dX8_tells_1 (fun r_2 g_1 H locs hd hw => ?_)
  refine lv_if_eq (tgt := 27) K.1 K.2.1 dX8_tells_4 (by decide) (fun h_3 => ?_) (fun h_3 => ?_)
  · have hd := hd.1 h_3
    refine lv_bipush (v := (-2 : Int32)) K.1 K.2.1 dX8_tells_27 (by decide) ?_
    exact rk_iret K hw hr hd dX8_tells_29
  · have hd := hd.2 h_3
    refine lv_aload_n K.1 K.2.1 dX8_tells_7 rfl (lv_at hl 0 rfl) ?_
    refine lv_iload_n K.1 K.2.1 dX8_tells_8 rfl (lv_at hl 2 rfl) ?_
    refine rk_vi (As := [.int x2]) (rest := []) K hw (cc_X8_isOne l D cy ad A g_1 _ x2 hd) lk_X8_73 (ci := 8) rfl (q0 := 0) (wsM_at cy ad _ (by decide)) ⟨Nat.le_of_ble_eq_true rfl, Nat.le_of_ble_eq_true rfl⟩ ⟨Nat.zero_le _, Nat.zero_le _⟩ rfl hl.1 (Nat.le_of_ble_eq_true rfl) rfl dX8_tells_9 (fun r_5 g_4 H locs hd hw => ?_)
    refine lv_if_eq (tgt := 27) K.1 K.2.1 dX8_tells_12 (by decide) (fun h_6 => ?_) (fun h_6 => ?_)
    · have hd := hd.1 h_6
      refine lv_bipush (v := (-2 : Int32)) K.1 K.2.1 dX8_tells_27 (by decide) ?_
      exact rk_iret K hw hr hd dX8_tells_29
    · have hd := hd.2 h_6
      refine lv_iload_n K.1 K.2.1 dX8_tells_15 rfl (lv_at hl 3 rfl) ?_
      refine lv_i2l (v := x3.toInt64) K.1 K.2.1 dX8_tells_16 rfl ?_
      refine lv_lconst (v := (0 : Int64)) K.1 K.2.1 dX8_tells_17 rfl ?_
      refine lv_ldc2 K.1 K.2.1 K.2.2.2.1 (K.2.2.2.2.1 _ kl_X8_349) dX8_tells_18 ?_
      refine rk_si (As := [.long x3.toInt64, .long (0 : Int64), .long (7 : Int64)]) (rest := []) K hw (cc_X8_in l D cy ad A g_4 _ (x3.toInt64) (0 : Int64) (7 : Int64) hd) lk_X8_67 ⟨Nat.le_of_ble_eq_true rfl, Nat.le_of_ble_eq_true rfl⟩ ⟨Nat.zero_le _, Nat.zero_le _⟩ rfl hl.1 (Nat.le_of_ble_eq_true rfl) rfl dX8_tells_21 (fun r_8 g_7 H locs hd hw => ?_)
      refine lv_if_ne (tgt := 30) K.1 K.2.1 dX8_tells_24 (by decide) (fun h_9 => ?_) (fun h_9 => ?_)
      · have hd := hd.1 h_9
        refine lv_aload_n K.1 K.2.1 dX8_tells_30 rfl (lv_at hl 0 rfl) ?_
        refine rm_get 36 K hw (by decide) kf_X8_44 rfl dX8_tells_31 ?_
        refine lv_iload_n K.1 K.2.1 dX8_tells_34 rfl (lv_at hl 1 rfl) ?_
        have hb := hd.1
        have hd := hd.2
        refine rm_zald K hw hb dX8_tells_35 ?_
        refine lv_if_ne (tgt := 42) K.1 K.2.1 dX8_tells_36 (by decide) (fun h_10 => ?_) (fun h_10 => ?_)
        · have hd := hd.1 h_10
          refine lv_aload_n K.1 K.2.1 dX8_tells_42 rfl (lv_at hl 0 rfl) ?_
          refine rm_get 38 K hw (by decide) kf_X8_51 rfl dX8_tells_43 ?_
          refine lv_iload_n K.1 K.2.1 dX8_tells_46 rfl (lv_at hl 1 rfl) ?_
          have hb := hd.1
          have hd := hd.2
          refine rm_iald 11 K hw (by decide) hb dX8_tells_47 ?_
          refine lv_bipush (v := (8 : Int32)) K.1 K.2.1 dX8_tells_48 (by decide) ?_
          refine lv_icmp_eq (tgt := 56) K.1 K.2.1 dX8_tells_50 (by decide) (fun h_11 => ?_) (fun h_11 => ?_)
          · have hd := hd.1 h_11
            refine lv_iload_n K.1 K.2.1 dX8_tells_56 rfl (lv_at hl 3 rfl) ?_
            refine lv_if_eq (tgt := 66) K.1 K.2.1 dX8_tells_57 (by decide) (fun h_12 => ?_) (fun h_12 => ?_)
            · have hd := hd.1 h_12
              exact bb_X8_tells_66 K hr  x1 x2 x3 g_7 _ _ _ hd hw (lv_sub hl [0, 1, 2, 3] rfl)
            · have hd := hd.2 h_12
              refine lv_iload_n K.1 K.2.1 dX8_tells_60 rfl (lv_at hl 3 rfl) ?_
              refine lv_bipush (v := (7 : Int32)) K.1 K.2.1 dX8_tells_61 (by decide) ?_
              refine lv_icmp_ne (tgt := 85) K.1 K.2.1 dX8_tells_63 (by decide) (fun h_18 => ?_) (fun h_18 => ?_)
              · have hd := hd.1 h_18
                refine lv_iload_n K.1 K.2.1 dX8_tells_85 rfl (lv_at hl 3 rfl) ?_
                refine lv_iconst (v := (1 : Int32)) K.1 K.2.1 dX8_tells_86 (by decide) ?_
                refine lv_icmp_ne (tgt := 95) K.1 K.2.1 dX8_tells_87 (by decide) (fun h_19 => ?_) (fun h_19 => ?_)
                · have hd := hd.1 h_19
                  refine lv_iload_n K.1 K.2.1 dX8_tells_95 rfl (lv_at hl 3 rfl) ?_
                  refine lv_iconst (v := (4 : Int32)) K.1 K.2.1 dX8_tells_96 (by decide) ?_
                  refine lv_icmp_ge (tgt := 104) K.1 K.2.1 dX8_tells_97 (by decide) (fun h_20 => ?_) (fun h_20 => ?_)
                  · have hd := hd.1 h_20
                    refine lv_iload_n K.1 K.2.1 dX8_tells_104 rfl (lv_at hl 3 rfl) ?_
                    refine lv_bipush (v := (6 : Int32)) K.1 K.2.1 dX8_tells_105 (by decide) ?_
                    refine lv_icmp_ne (tgt := 115) K.1 K.2.1 dX8_tells_107 (by decide) (fun h_21 => ?_) (fun h_21 => ?_)
                    · have hd := hd.1 h_21
                      refine lv_iconst (v := (5 : Int32)) K.1 K.2.1 dX8_tells_115 (by decide) ?_
                      exact bb_X8_tells_116 K hr  x1 x2 x3 (5 : Int32) g_7 _ _ _ hd hw (lv_sub hl [0, 1, 2, 3] rfl)
                    · have hd := hd.2 h_21
                      refine lv_bipush (v := (8 : Int32)) K.1 K.2.1 dX8_tells_110 (by decide) ?_
                      refine lv_goto (tgt := 116) K.1 K.2.1 dX8_tells_112 (by decide) ?_
                      exact bb_X8_tells_116 K hr  x1 x2 x3 (8 : Int32) g_7 _ _ _ hd hw (lv_sub hl [0, 1, 2, 3] rfl)
                  · have hd := hd.2 h_20
                    refine lv_iload_n K.1 K.2.1 dX8_tells_100 rfl (lv_at hl 3 rfl) ?_
                    refine lv_goto (tgt := 116) K.1 K.2.1 dX8_tells_101 (by decide) ?_
                    exact bb_X8_tells_116 K hr  x1 x2 x3 x3 g_7 _ _ _ hd hw (lv_sub hl [0, 1, 2, 3] rfl)
                · have hd := hd.2 h_19
                  refine lv_bipush (v := (7 : Int32)) K.1 K.2.1 dX8_tells_90 (by decide) ?_
                  refine lv_goto (tgt := 116) K.1 K.2.1 dX8_tells_92 (by decide) ?_
                  exact bb_X8_tells_116 K hr  x1 x2 x3 (7 : Int32) g_7 _ _ _ hd hw (lv_sub hl [0, 1, 2, 3] rfl)
              · have hd := hd.2 h_18
                exact bb_X8_tells_66 K hr  x1 x2 x3 g_7 _ _ _ hd hw (lv_sub hl [0, 1, 2, 3] rfl)
          · have hd := hd.2 h_11
            refine lv_bipush (v := (-2 : Int32)) K.1 K.2.1 dX8_tells_53 (by decide) ?_
            exact rk_iret K hw hr hd dX8_tells_55
        · have hd := hd.2 h_10
          refine lv_bipush (v := (-11 : Int32)) K.1 K.2.1 dX8_tells_39 (by decide) ?_
          exact rk_iret K hw hr hd dX8_tells_41
      · have hd := hd.2 h_9
        refine lv_bipush (v := (-2 : Int32)) K.1 K.2.1 dX8_tells_27 (by decide) ?_
        exact rk_iret K hw hr hd dX8_tells_29
theorem dX8_sheet_0 : decode cX8_sheet 0 = .ok (.iload_n 1, 1) := by decide +kernel
theorem dX8_sheet_1 : decode cX8_sheet 1 = .ok (.invokestatic 413, 3) := by decide +kernel
theorem dX8_sheet_4 : decode cX8_sheet 4 = .ok (.ifCond .eq 27, 3) := by decide +kernel
theorem dX8_sheet_7 : decode cX8_sheet 7 = .ok (.iload_n 2, 1) := by decide +kernel
theorem dX8_sheet_8 : decode cX8_sheet 8 = .ok (.i2l, 1) := by decide +kernel
theorem dX8_sheet_9 : decode cX8_sheet 9 = .ok (.ldc2_w 437, 3) := by decide +kernel
theorem dX8_sheet_12 : decode cX8_sheet 12 = .ok (.ldc2_w 360, 3) := by decide +kernel
theorem dX8_sheet_15 : decode cX8_sheet 15 = .ok (.invokestatic 67, 3) := by decide +kernel
theorem dX8_sheet_18 : decode cX8_sheet 18 = .ok (.ifCond .eq 13, 3) := by decide +kernel
theorem dX8_sheet_21 : decode cX8_sheet 21 = .ok (.iload_n 2, 1) := by decide +kernel
theorem dX8_sheet_22 : decode cX8_sheet 22 = .ok (.ifCond .lt 12, 3) := by decide +kernel
theorem dX8_sheet_25 : decode cX8_sheet 25 = .ok (.iload_n 3, 1) := by decide +kernel
theorem dX8_sheet_26 : decode cX8_sheet 26 = .ok (.bipush 40, 2) := by decide +kernel
theorem dX8_sheet_28 : decode cX8_sheet 28 = .ok (.if_icmp .le 6, 3) := by decide +kernel
theorem dX8_sheet_31 : decode cX8_sheet 31 = .ok (.bipush (-2), 2) := by decide +kernel
theorem dX8_sheet_33 : decode cX8_sheet 33 = .ok (.ireturn, 1) := by decide +kernel
theorem dX8_sheet_34 : decode cX8_sheet 34 = .ok (.iload_n 2, 1) := by decide +kernel
theorem dX8_sheet_35 : decode cX8_sheet 35 = .ok (.ifCond .lt 10, 3) := by decide +kernel
theorem dX8_sheet_38 : decode cX8_sheet 38 = .ok (.iload_n 3, 1) := by decide +kernel
theorem dX8_sheet_39 : decode cX8_sheet 39 = .ok (.ifCond .ge 6, 3) := by decide +kernel
theorem dX8_sheet_42 : decode cX8_sheet 42 = .ok (.bipush (-14), 2) := by decide +kernel
theorem dX8_sheet_44 : decode cX8_sheet 44 = .ok (.ireturn, 1) := by decide +kernel
theorem dX8_sheet_45 : decode cX8_sheet 45 = .ok (.aload_n 0, 1) := by decide +kernel
theorem dX8_sheet_46 : decode cX8_sheet 46 = .ok (.getfield 44, 3) := by decide +kernel
theorem dX8_sheet_49 : decode cX8_sheet 49 = .ok (.iload_n 1, 1) := by decide +kernel
theorem dX8_sheet_50 : decode cX8_sheet 50 = .ok (.iload_n 2, 1) := by decide +kernel
theorem dX8_sheet_51 : decode cX8_sheet 51 = .ok (.ifCond .lt 7, 3) := by decide +kernel
theorem dX8_sheet_54 : decode cX8_sheet 54 = .ok (.iconst 1, 1) := by decide +kernel
theorem dX8_sheet_55 : decode cX8_sheet 55 = .ok (.goto 4, 3) := by decide +kernel
theorem dX8_sheet_58 : decode cX8_sheet 58 = .ok (.iconst 0, 1) := by decide +kernel
theorem dX8_sheet_59 : decode cX8_sheet 59 = .ok (.bastore, 1) := by decide +kernel
theorem dX8_sheet_60 : decode cX8_sheet 60 = .ok (.aload_n 0, 1) := by decide +kernel
theorem dX8_sheet_61 : decode cX8_sheet 61 = .ok (.getfield 48, 3) := by decide +kernel
theorem dX8_sheet_64 : decode cX8_sheet 64 = .ok (.iload_n 1, 1) := by decide +kernel
theorem dX8_sheet_65 : decode cX8_sheet 65 = .ok (.iload_n 2, 1) := by decide +kernel
theorem dX8_sheet_66 : decode cX8_sheet 66 = .ok (.iastore, 1) := by decide +kernel
theorem dX8_sheet_67 : decode cX8_sheet 67 = .ok (.aload_n 0, 1) := by decide +kernel
theorem dX8_sheet_68 : decode cX8_sheet 68 = .ok (.getfield 51, 3) := by decide +kernel
theorem dX8_sheet_71 : decode cX8_sheet 71 = .ok (.iload_n 1, 1) := by decide +kernel
theorem dX8_sheet_72 : decode cX8_sheet 72 = .ok (.iload_n 3, 1) := by decide +kernel
theorem dX8_sheet_73 : decode cX8_sheet 73 = .ok (.iastore, 1) := by decide +kernel
theorem dX8_sheet_74 : decode cX8_sheet 74 = .ok (.iconst 0, 1) := by decide +kernel
theorem dX8_sheet_75 : decode cX8_sheet 75 = .ok (.istore 4, 2) := by decide +kernel
theorem dX8_sheet_77 : decode cX8_sheet 77 = .ok (.iload 4, 2) := by decide +kernel
theorem dX8_sheet_79 : decode cX8_sheet 79 = .ok (.iload_n 3, 1) := by decide +kernel
theorem dX8_sheet_80 : decode cX8_sheet 80 = .ok (.if_icmp .ge 26, 3) := by decide +kernel
theorem dX8_sheet_83 : decode cX8_sheet 83 = .ok (.iload_n 2, 1) := by decide +kernel
theorem dX8_sheet_84 : decode cX8_sheet 84 = .ok (.ifCond .lt 22, 3) := by decide +kernel
theorem dX8_sheet_87 : decode cX8_sheet 87 = .ok (.aload_n 0, 1) := by decide +kernel
theorem dX8_sheet_88 : decode cX8_sheet 88 = .ok (.getfield 54, 3) := by decide +kernel
theorem dX8_sheet_91 : decode cX8_sheet 91 = .ok (.bipush 40, 2) := by decide +kernel
theorem dX8_sheet_93 : decode cX8_sheet 93 = .ok (.iload_n 1, 1) := by decide +kernel
theorem dX8_sheet_94 : decode cX8_sheet 94 = .ok (.imul, 1) := by decide +kernel
theorem dX8_sheet_95 : decode cX8_sheet 95 = .ok (.iload 4, 2) := by decide +kernel
theorem dX8_sheet_97 : decode cX8_sheet 97 = .ok (.iadd, 1) := by decide +kernel
theorem dX8_sheet_98 : decode cX8_sheet 98 = .ok (.iconst 0, 1) := by decide +kernel
theorem dX8_sheet_99 : decode cX8_sheet 99 = .ok (.iastore, 1) := by decide +kernel
theorem dX8_sheet_100 : decode cX8_sheet 100 = .ok (.iinc 4 1, 3) := by decide +kernel
theorem dX8_sheet_103 : decode cX8_sheet 103 = .ok (.goto (-26), 3) := by decide +kernel
theorem dX8_sheet_106 : decode cX8_sheet 106 = .ok (.iconst 1, 1) := by decide +kernel
theorem dX8_sheet_107 : decode cX8_sheet 107 = .ok (.ireturn, 1) := by decide +kernel
set_option maxHeartbeats 4000000 in
set_option maxRecDepth 100000 in
theorem bb_X8_sheet_77 {p : Program} {l : Launch} {e : Env} {s : State} {m : MethodId} {args : Array Value} {below : List Frame} {meth : Method} {c : Code} {D : va_G} {cy : Nat → ClassId} {ad : Nat → Nat} {A : Nat → Prop} {Q : Int32 → Sg → Prop} (K : Kx p s m args meth c cX8_sheet 5 RX8 D cy) (hr : meth.sig.returnType = (some .int)) : ∀ (n : Nat) (x1 : Int32) (x2 : Int32) (x3 : Int32) (x4 : Int32)  (g0 : Sg) (H : Heap) (locs : List Loc) (ls : Array Slot), vv_X8_sheet_L77 Q n x1 x2 x3 x4 g0 → Wd D A s.heap (wsM cy ad g0) H locs → lv_has ls 5 [(0, .ref (ad 0)), (1, .int x1), (2, .int x2), (3, .int x3), (4, .int x4)] → W p l e (rmD 2) s m args below meth c H locs 0 0 (MQ below (va_Qi Q (PostG (wsM cy ad) D A) A) args s 0 0 A) (F0 m 77 ls []) := by
  intro n
  induction n with
  | zero => intro _ _ _ _ _ _ _ _ hd; exact hd.elim
  | succ n ih =>
    intro x1 x2 x3 x4 g0 H locs ls hd hw hl
    unfold vv_X8_sheet_L77 at hd
    refine lv_iload K.1 K.2.1 dX8_sheet_77 (lv_at hl 4 rfl) ?_
    refine lv_iload_n K.1 K.2.1 dX8_sheet_79 rfl (lv_at hl 3 rfl) ?_
    refine lv_icmp_ge (tgt := 106) K.1 K.2.1 dX8_sheet_80 (by decide) (fun h_14 => ?_) (fun h_14 => ?_)
    · have hd := hd.1 h_14
      refine lv_iconst (v := (1 : Int32)) K.1 K.2.1 dX8_sheet_106 (by decide) ?_
      exact rk_iret K hw hr hd dX8_sheet_107
    · have hd := hd.2 h_14
      refine lv_iload_n K.1 K.2.1 dX8_sheet_83 rfl (lv_at hl 2 rfl) ?_
      refine lv_if_lt (tgt := 106) K.1 K.2.1 dX8_sheet_84 (by decide) (fun h_15 => ?_) (fun h_15 => ?_)
      · have hd := hd.1 h_15
        refine lv_iconst (v := (1 : Int32)) K.1 K.2.1 dX8_sheet_106 (by decide) ?_
        exact rk_iret K hw hr hd dX8_sheet_107
      · have hd := hd.2 h_15
        refine lv_aload_n K.1 K.2.1 dX8_sheet_87 rfl (lv_at hl 0 rfl) ?_
        refine rm_get 39 K hw (by decide) kf_X8_54 rfl dX8_sheet_88 ?_
        refine lv_bipush (v := (40 : Int32)) K.1 K.2.1 dX8_sheet_91 (by decide) ?_
        refine lv_iload_n K.1 K.2.1 dX8_sheet_93 rfl (lv_at hl 1 rfl) ?_
        refine lv_imul K.1 K.2.1 dX8_sheet_94 ?_
        refine lv_iload K.1 K.2.1 dX8_sheet_95 (lv_at hl 4 rfl) ?_
        refine lv_iadd K.1 K.2.1 dX8_sheet_97 ?_
        refine lv_iconst (v := (0 : Int32)) K.1 K.2.1 dX8_sheet_98 (by decide) ?_
        have hb := hd.1
        have hd := hd.2
        refine rm_iast 12 K hw (by decide) hb dX8_sheet_99 (fun g_16 eg_16 H locs hw => ?_)
        have hd := hd g_16 eg_16
        obtain ⟨x4_17, ex4_17⟩ : ∃ y : Int32, y = x4 + (1 : Int32) := ⟨_, rfl⟩
        have hd := hd x4_17 ex4_17
        refine lv_iinc (v := x4_17) (lv' := [(4, .int x4_17), (0, .ref (ad 0)), (1, .int x1), (2, .int x2), (3, .int x3)]) K.1 K.2.1 dX8_sheet_100 hl (k := 4) rfl (by rw [ex4_17]; rfl) (by decide) rfl (fun ls hl => ?_)
        refine lv_goto (tgt := 77) K.1 K.2.1 dX8_sheet_103 (by decide) ?_
        exact ih x1 x2 x3 x4_17 g_16 _ _ _ hd hw (lv_sub hl [1, 2, 3, 4, 0] rfl)
set_option maxHeartbeats 4000000 in
set_option maxRecDepth 100000 in
theorem bb_X8_sheet_59 {p : Program} {l : Launch} {e : Env} {s : State} {m : MethodId} {args : Array Value} {below : List Frame} {meth : Method} {c : Code} {D : va_G} {cy : Nat → ClassId} {ad : Nat → Nat} {A : Nat → Prop} {Q : Int32 → Sg → Prop} (K : Kx p s m args meth c cX8_sheet 5 RX8 D cy) (hr : meth.sig.returnType = (some .int)) (x1 : Int32) (x2 : Int32) (x3 : Int32) (t1 : Int32) (t2 : Int32) (g0 : Sg) (H : Heap) (locs : List Loc) (ls : Array Slot) (hd : vv_X8_sheet_J59 x1 x2 x3 t1 t2 g0 Q) (hw : Wd D A s.heap (wsM cy ad g0) H locs) (hl : lv_has ls 5 [(0, .ref (ad 0)), (1, .int x1), (2, .int x2), (3, .int x3)]) : W p l e (rmD 2) s m args below meth c H locs 0 0 (MQ below (va_Qi Q (PostG (wsM cy ad) D A) A) args s 0 0 A) (F0 m 59 ls [.int t2, .int t1, .ref (ad 9)]) := by
  unfold vv_X8_sheet_J59 at hd
  have hb := hd.1
  have hd := hd.2
  have hz := hd.1
  have hd := hd.2
  refine rm_zast K hw hb hz dX8_sheet_59 (fun g_10 eg_10 H locs hw => ?_)
  have hd := hd g_10 eg_10
  refine lv_aload_n K.1 K.2.1 dX8_sheet_60 rfl (lv_at hl 0 rfl) ?_
  refine rm_get 37 K hw (by decide) kf_X8_48 rfl dX8_sheet_61 ?_
  refine lv_iload_n K.1 K.2.1 dX8_sheet_64 rfl (lv_at hl 1 rfl) ?_
  refine lv_iload_n K.1 K.2.1 dX8_sheet_65 rfl (lv_at hl 2 rfl) ?_
  have hb := hd.1
  have hd := hd.2
  refine rm_iast 10 K hw (by decide) hb dX8_sheet_66 (fun g_11 eg_11 H locs hw => ?_)
  have hd := hd g_11 eg_11
  refine lv_aload_n K.1 K.2.1 dX8_sheet_67 rfl (lv_at hl 0 rfl) ?_
  refine rm_get 38 K hw (by decide) kf_X8_51 rfl dX8_sheet_68 ?_
  refine lv_iload_n K.1 K.2.1 dX8_sheet_71 rfl (lv_at hl 1 rfl) ?_
  refine lv_iload_n K.1 K.2.1 dX8_sheet_72 rfl (lv_at hl 3 rfl) ?_
  have hb := hd.1
  have hd := hd.2
  refine rm_iast 11 K hw (by decide) hb dX8_sheet_73 (fun g_12 eg_12 H locs hw => ?_)
  have hd := hd g_12 eg_12
  refine lv_iconst (v := (0 : Int32)) K.1 K.2.1 dX8_sheet_74 (by decide) ?_
  refine lv_topi (fun x4_13 ex4_13 => ?_)
  have hd := hd x4_13 ex4_13
  refine lv_istore (lv' := [(4, .int x4_13), (0, .ref (ad 0)), (1, .int x1), (2, .int x2), (3, .int x3)]) K.1 K.2.1 dX8_sheet_75 hl (by decide) rfl (fun ls hl => ?_)
  obtain ⟨n9, hd⟩ := hd
  exact bb_X8_sheet_77 K hr  n9 x1 x2 x3 x4_13 g_12 _ _ _ hd hw (lv_sub hl [1, 2, 3, 4, 0] rfl)
set_option maxHeartbeats 4000000 in
set_option maxRecDepth 100000 in
theorem bb_X8_sheet_45 {p : Program} {l : Launch} {e : Env} {s : State} {m : MethodId} {args : Array Value} {below : List Frame} {meth : Method} {c : Code} {D : va_G} {cy : Nat → ClassId} {ad : Nat → Nat} {A : Nat → Prop} {Q : Int32 → Sg → Prop} (K : Kx p s m args meth c cX8_sheet 5 RX8 D cy) (hr : meth.sig.returnType = (some .int)) (x1 : Int32) (x2 : Int32) (x3 : Int32)  (g0 : Sg) (H : Heap) (locs : List Loc) (ls : Array Slot) (hd : vv_X8_sheet_J45 x1 x2 x3 g0 Q) (hw : Wd D A s.heap (wsM cy ad g0) H locs) (hl : lv_has ls 5 [(0, .ref (ad 0)), (1, .int x1), (2, .int x2), (3, .int x3)]) : W p l e (rmD 2) s m args below meth c H locs 0 0 (MQ below (va_Qi Q (PostG (wsM cy ad) D A) A) args s 0 0 A) (F0 m 45 ls []) := by
  unfold vv_X8_sheet_J45 at hd
  refine lv_aload_n K.1 K.2.1 dX8_sheet_45 rfl (lv_at hl 0 rfl) ?_
  refine rm_get 36 K hw (by decide) kf_X8_44 rfl dX8_sheet_46 ?_
  refine lv_iload_n K.1 K.2.1 dX8_sheet_49 rfl (lv_at hl 1 rfl) ?_
  refine lv_iload_n K.1 K.2.1 dX8_sheet_50 rfl (lv_at hl 2 rfl) ?_
  refine lv_if_lt (tgt := 58) K.1 K.2.1 dX8_sheet_51 (by decide) (fun h_9 => ?_) (fun h_9 => ?_)
  · have hd := hd.1 h_9
    refine lv_iconst (v := (0 : Int32)) K.1 K.2.1 dX8_sheet_58 (by decide) ?_
    exact bb_X8_sheet_59 K hr  x1 x2 x3 x1 (0 : Int32) g0 _ _ _ hd hw (lv_sub hl [0, 1, 2, 3] rfl)
  · have hd := hd.2 h_9
    refine lv_iconst (v := (1 : Int32)) K.1 K.2.1 dX8_sheet_54 (by decide) ?_
    refine lv_goto (tgt := 59) K.1 K.2.1 dX8_sheet_55 (by decide) ?_
    exact bb_X8_sheet_59 K hr  x1 x2 x3 x1 (1 : Int32) g0 _ _ _ hd hw (lv_sub hl [0, 1, 2, 3] rfl)
set_option maxHeartbeats 4000000 in
set_option maxRecDepth 100000 in
theorem bb_X8_sheet_34 {p : Program} {l : Launch} {e : Env} {s : State} {m : MethodId} {args : Array Value} {below : List Frame} {meth : Method} {c : Code} {D : va_G} {cy : Nat → ClassId} {ad : Nat → Nat} {A : Nat → Prop} {Q : Int32 → Sg → Prop} (K : Kx p s m args meth c cX8_sheet 5 RX8 D cy) (hr : meth.sig.returnType = (some .int)) (x1 : Int32) (x2 : Int32) (x3 : Int32)  (g0 : Sg) (H : Heap) (locs : List Loc) (ls : Array Slot) (hd : vv_X8_sheet_J34 x1 x2 x3 g0 Q) (hw : Wd D A s.heap (wsM cy ad g0) H locs) (hl : lv_has ls 5 [(0, .ref (ad 0)), (1, .int x1), (2, .int x2), (3, .int x3)]) : W p l e (rmD 2) s m args below meth c H locs 0 0 (MQ below (va_Qi Q (PostG (wsM cy ad) D A) A) args s 0 0 A) (F0 m 34 ls []) := by
  unfold vv_X8_sheet_J34 at hd
  refine lv_iload_n K.1 K.2.1 dX8_sheet_34 rfl (lv_at hl 2 rfl) ?_
  refine lv_if_lt (tgt := 45) K.1 K.2.1 dX8_sheet_35 (by decide) (fun h_8 => ?_) (fun h_8 => ?_)
  · have hd := hd.1 h_8
    exact bb_X8_sheet_45 K hr  x1 x2 x3 g0 _ _ _ hd hw (lv_sub hl [0, 1, 2, 3] rfl)
  · have hd := hd.2 h_8
    refine lv_iload_n K.1 K.2.1 dX8_sheet_38 rfl (lv_at hl 3 rfl) ?_
    refine lv_if_ge (tgt := 45) K.1 K.2.1 dX8_sheet_39 (by decide) (fun h_18 => ?_) (fun h_18 => ?_)
    · have hd := hd.1 h_18
      exact bb_X8_sheet_45 K hr  x1 x2 x3 g0 _ _ _ hd hw (lv_sub hl [0, 1, 2, 3] rfl)
    · have hd := hd.2 h_18
      refine lv_bipush (v := (-14 : Int32)) K.1 K.2.1 dX8_sheet_42 (by decide) ?_
      exact rk_iret K hw hr hd dX8_sheet_44
set_option maxHeartbeats 4000000 in
set_option maxRecDepth 100000 in
theorem cc_X8_sheet (l : Launch) (D : va_G) (cy : Nat → ClassId) (ad : Nat → Nat) (A : Nat → Prop) (g0 : Sg) (Q : Int32 → Sg → Prop) (x1 : Int32) (x2 : Int32) (x3 : Int32) (hd : vv_X8_sheet x1 x2 x3 g0 Q) : Met l yX8_sheet (Cond.code yX8_sheet cX8_sheet 5 (some .int) :: TT) (rmD 2) (va_Pc [.ref (ad 0), .int x1, .int x2, .int x3] (PreG (wsM cy ad) D cy A g0)) (va_Qi Q (PostG (wsM cy ad) D A) A) 0 0 A := by
  unfold vv_X8_sheet at hd
  refine Met.ofW (cc := cX8_sheet) (maxL := 5) (ret := (some .int)) (by decide) rfl ?_
  intro p e s m args below meth c s₁ B hml hv
  obtain ⟨rfl, hP, hK0, hD⟩ := hv
  have K : Kx p s m _ meth c cX8_sheet 5 RX8 D cy := ⟨B.exec, B.bytes, hml, findClass_of_methodNamed B.named, fun w h => atoms_spec (ws := Cond.code yX8_sheet cX8_sheet 5 (some .int) :: TT) B.pre w (List.mem_cons_of_mem _ h), hK0, B.notSynchronized⟩
  have hw : Wd D A s.heap (wsM cy ad g0) s.heap [] := ⟨hP, hD, va_S.rf⟩
  have hr := B.returns
  have hl := lv_entry ([.ref (ad 0), .int x1, .int x2, .int x3]) (n := 5) (Nat.le_of_ble_eq_true rfl)
  rw [lg_entry_eq]
  generalize (lg_sl ([.ref (ad 0), .int x1, .int x2, .int x3]) ++ List.replicate (5 - (lg_sl ([.ref (ad 0), .int x1, .int x2, .int x3])).length) Slot.unset).toArray = ls at hl ⊢
  have hl : lv_has ls 5 [(0, .ref (ad 0)), (1, .int x1), (2, .int x2), (3, .int x3)] := hl
  refine lv_iload_n K.1 K.2.1 dX8_sheet_0 rfl (lv_at hl 1 rfl) ?_
  refine rk_si (As := [.int x1]) (rest := []) K hw (cc_X8_isSheet l D cy ad A g0 _ x1 hd) lk_X8_413 ⟨Nat.le_of_ble_eq_true rfl, Nat.le_of_ble_eq_true rfl⟩ ⟨Nat.zero_le _, Nat.zero_le _⟩ rfl hl.1 (Nat.le_of_ble_eq_true rfl) rfl dX8_sheet_1 (fun r_2 g_1 H locs hd hw => ?_)
  refine lv_if_eq (tgt := 31) K.1 K.2.1 dX8_sheet_4 (by decide) (fun h_3 => ?_) (fun h_3 => ?_)
  · have hd := hd.1 h_3
    refine lv_bipush (v := (-2 : Int32)) K.1 K.2.1 dX8_sheet_31 (by decide) ?_
    exact rk_iret K hw hr hd dX8_sheet_33
  · have hd := hd.2 h_3
    refine lv_iload_n K.1 K.2.1 dX8_sheet_7 rfl (lv_at hl 2 rfl) ?_
    refine lv_i2l (v := x2.toInt64) K.1 K.2.1 dX8_sheet_8 rfl ?_
    refine lv_ldc2 K.1 K.2.1 K.2.2.2.1 (K.2.2.2.2.1 _ kl_X8_437) dX8_sheet_9 ?_
    refine lv_ldc2 K.1 K.2.1 K.2.2.2.1 (K.2.2.2.2.1 _ kl_X8_360) dX8_sheet_12 ?_
    refine rk_si (As := [.long x2.toInt64, .long (-1 : Int64), .long (2 : Int64)]) (rest := []) K hw (cc_X8_in l D cy ad A g_1 _ (x2.toInt64) (-1 : Int64) (2 : Int64) hd) lk_X8_67 ⟨Nat.le_of_ble_eq_true rfl, Nat.le_of_ble_eq_true rfl⟩ ⟨Nat.zero_le _, Nat.zero_le _⟩ rfl hl.1 (Nat.le_of_ble_eq_true rfl) rfl dX8_sheet_15 (fun r_5 g_4 H locs hd hw => ?_)
    refine lv_if_eq (tgt := 31) K.1 K.2.1 dX8_sheet_18 (by decide) (fun h_6 => ?_) (fun h_6 => ?_)
    · have hd := hd.1 h_6
      refine lv_bipush (v := (-2 : Int32)) K.1 K.2.1 dX8_sheet_31 (by decide) ?_
      exact rk_iret K hw hr hd dX8_sheet_33
    · have hd := hd.2 h_6
      refine lv_iload_n K.1 K.2.1 dX8_sheet_21 rfl (lv_at hl 2 rfl) ?_
      refine lv_if_lt (tgt := 34) K.1 K.2.1 dX8_sheet_22 (by decide) (fun h_7 => ?_) (fun h_7 => ?_)
      · have hd := hd.1 h_7
        exact bb_X8_sheet_34 K hr  x1 x2 x3 g_4 _ _ _ hd hw (lv_sub hl [0, 1, 2, 3] rfl)
      · have hd := hd.2 h_7
        refine lv_iload_n K.1 K.2.1 dX8_sheet_25 rfl (lv_at hl 3 rfl) ?_
        refine lv_bipush (v := (40 : Int32)) K.1 K.2.1 dX8_sheet_26 (by decide) ?_
        refine lv_icmp_le (tgt := 34) K.1 K.2.1 dX8_sheet_28 (by decide) (fun h_19 => ?_) (fun h_19 => ?_)
        · have hd := hd.1 h_19
          exact bb_X8_sheet_34 K hr  x1 x2 x3 g_4 _ _ _ hd hw (lv_sub hl [0, 1, 2, 3] rfl)
        · have hd := hd.2 h_19
          refine lv_bipush (v := (-2 : Int32)) K.1 K.2.1 dX8_sheet_31 (by decide) ?_
          exact rk_iret K hw hr hd dX8_sheet_33
