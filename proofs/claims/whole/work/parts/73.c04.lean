theorem dX7_carried_0 : decode cX7_carried 0 = .ok (.iload_n 0, 1) := by decide +kernel
theorem dX7_carried_1 : decode cX7_carried 1 = .ok (.iload_n 2, 1) := by decide +kernel
theorem dX7_carried_2 : decode cX7_carried 2 = .ok (.if_icmp .lt 12, 3) := by decide +kernel
theorem dX7_carried_5 : decode cX7_carried 5 = .ok (.iload_n 0, 1) := by decide +kernel
theorem dX7_carried_6 : decode cX7_carried 6 = .ok (.iload_n 1, 1) := by decide +kernel
theorem dX7_carried_7 : decode cX7_carried 7 = .ok (.if_icmp .le 7, 3) := by decide +kernel
theorem dX7_carried_10 : decode cX7_carried 10 = .ok (.iconst 1, 1) := by decide +kernel
theorem dX7_carried_11 : decode cX7_carried 11 = .ok (.goto 4, 3) := by decide +kernel
theorem dX7_carried_14 : decode cX7_carried 14 = .ok (.iconst 0, 1) := by decide +kernel
theorem dX7_carried_15 : decode cX7_carried 15 = .ok (.ireturn, 1) := by decide +kernel
set_option maxHeartbeats 4000000 in
set_option maxRecDepth 100000 in
theorem cc_X7_carried (l : Launch) (D : va_G) (cy : Nat → ClassId) (nt : Nat) (ad : Nat → Nat) (A : Nat → Prop) (X : Nat → Nat)  (g0 : Sg) (Q : Int32 → Sg → Prop) (x0 : Int32) (x1 : Int32) (x2 : Int32) (hd : vv_X7_carried nt x0 x1 x2 g0 Q) : Met l yX7_carried (Cond.code yX7_carried cX7_carried 3 (some .boolean) :: TT) (rmD 1) (va_Pc [.int x0, .int x1, .int x2] (PreC (wsC cy nt ad) D cy A X g0)) (va_Qi Q (PostG (wsC cy nt ad) D A) A) 0 0 A := by
  unfold vv_X7_carried at hd
  refine Met.ofW (cc := cX7_carried) (maxL := 3) (ret := (some .boolean)) (by decide) rfl ?_
  intro p e s m args below meth c s₁ B hml hv
  obtain ⟨rfl, ⟨hP, hK0, hD⟩, KX⟩ := hv
  have K : Kx p s m _ meth c cX7_carried 3 RX7 D cy := ⟨B.exec, B.bytes, hml, findClass_of_methodNamed B.named, fun w h => atoms_spec (ws := Cond.code yX7_carried cX7_carried 3 (some .boolean) :: TT) B.pre w (List.mem_cons_of_mem _ h), hK0, B.notSynchronized⟩
  have hw : Wd D A s.heap (wsC cy nt ad g0) s.heap [] := ⟨hP, hD, va_S.rf⟩
  have hr := B.returns
  have hl := lv_entry ([.int x0, .int x1, .int x2]) (n := 3) (Nat.le_of_ble_eq_true rfl)
  rw [lg_entry_eq]
  generalize (lg_sl ([.int x0, .int x1, .int x2]) ++ List.replicate (3 - (lg_sl ([.int x0, .int x1, .int x2])).length) Slot.unset).toArray = ls at hl ⊢
  have hl : lv_has ls 3 [(0, .int x0), (1, .int x1), (2, .int x2)] := hl
  refine lv_iload_n K.1 K.2.1 dX7_carried_0 rfl (lv_at hl 0 rfl) ?_
  refine lv_iload_n K.1 K.2.1 dX7_carried_1 rfl (lv_at hl 2 rfl) ?_
  refine lv_icmp_lt (tgt := 14) K.1 K.2.1 dX7_carried_2 (by decide) (fun h_1 => ?_) (fun h_1 => ?_)
  · have hd := hd.1 h_1
    refine lv_iconst (v := (0 : Int32)) K.1 K.2.1 dX7_carried_14 (by decide) ?_
    exact rk_zret K hw hr (by decide) hd dX7_carried_15
  · have hd := hd.2 h_1
    refine lv_iload_n K.1 K.2.1 dX7_carried_5 rfl (lv_at hl 0 rfl) ?_
    refine lv_iload_n K.1 K.2.1 dX7_carried_6 rfl (lv_at hl 1 rfl) ?_
    refine lv_icmp_le (tgt := 14) K.1 K.2.1 dX7_carried_7 (by decide) (fun h_2 => ?_) (fun h_2 => ?_)
    · have hd := hd.1 h_2
      refine lv_iconst (v := (0 : Int32)) K.1 K.2.1 dX7_carried_14 (by decide) ?_
      exact rk_zret K hw hr (by decide) hd dX7_carried_15
    · have hd := hd.2 h_2
      refine lv_iconst (v := (1 : Int32)) K.1 K.2.1 dX7_carried_10 (by decide) ?_
      refine lv_goto (tgt := 15) K.1 K.2.1 dX7_carried_11 (by decide) ?_
      exact rk_zret K hw hr (by decide) hd dX7_carried_15
theorem dX7_balance_0 : decode cX7_balance 0 = .ok (.aload_n 0, 1) := by decide +kernel
theorem dX7_balance_1 : decode cX7_balance 1 = .ok (.getfield 60, 3) := by decide +kernel
theorem dX7_balance_4 : decode cX7_balance 4 = .ok (.getfield 172, 3) := by decide +kernel
theorem dX7_balance_7 : decode cX7_balance 7 = .ok (.aload_n 0, 1) := by decide +kernel
theorem dX7_balance_8 : decode cX7_balance 8 = .ok (.getfield 60, 3) := by decide +kernel
theorem dX7_balance_11 : decode cX7_balance 11 = .ok (.getfield 175, 3) := by decide +kernel
theorem dX7_balance_14 : decode cX7_balance 14 = .ok (.aload_n 0, 1) := by decide +kernel
theorem dX7_balance_15 : decode cX7_balance 15 = .ok (.getfield 10, 3) := by decide +kernel
theorem dX7_balance_18 : decode cX7_balance 18 = .ok (.getfield 103, 3) := by decide +kernel
theorem dX7_balance_21 : decode cX7_balance 21 = .ok (.invokestatic 178, 3) := by decide +kernel
theorem dX7_balance_24 : decode cX7_balance 24 = .ok (.istore_n 1, 1) := by decide +kernel
theorem dX7_balance_25 : decode cX7_balance 25 = .ok (.iconst 0, 1) := by decide +kernel
theorem dX7_balance_26 : decode cX7_balance 26 = .ok (.istore_n 2, 1) := by decide +kernel
theorem dX7_balance_27 : decode cX7_balance 27 = .ok (.iconst 0, 1) := by decide +kernel
theorem dX7_balance_28 : decode cX7_balance 28 = .ok (.istore_n 3, 1) := by decide +kernel
theorem dX7_balance_29 : decode cX7_balance 29 = .ok (.iload_n 3, 1) := by decide +kernel
theorem dX7_balance_30 : decode cX7_balance 30 = .ok (.bipush 8, 2) := by decide +kernel
theorem dX7_balance_32 : decode cX7_balance 32 = .ok (.if_icmp .ge 70, 3) := by decide +kernel
theorem dX7_balance_35 : decode cX7_balance 35 = .ok (.aload_n 0, 1) := by decide +kernel
theorem dX7_balance_36 : decode cX7_balance 36 = .ok (.getfield 60, 3) := by decide +kernel
theorem dX7_balance_39 : decode cX7_balance 39 = .ok (.getfield 345, 3) := by decide +kernel
theorem dX7_balance_42 : decode cX7_balance 42 = .ok (.iload_n 3, 1) := by decide +kernel
theorem dX7_balance_43 : decode cX7_balance 43 = .ok (.iaload, 1) := by decide +kernel
theorem dX7_balance_44 : decode cX7_balance 44 = .ok (.aload_n 0, 1) := by decide +kernel
theorem dX7_balance_45 : decode cX7_balance 45 = .ok (.getfield 60, 3) := by decide +kernel
theorem dX7_balance_48 : decode cX7_balance 48 = .ok (.getfield 224, 3) := by decide +kernel
theorem dX7_balance_51 : decode cX7_balance 51 = .ok (.iload_n 3, 1) := by decide +kernel
theorem dX7_balance_52 : decode cX7_balance 52 = .ok (.iaload, 1) := by decide +kernel
theorem dX7_balance_53 : decode cX7_balance 53 = .ok (.imul, 1) := by decide +kernel
theorem dX7_balance_54 : decode cX7_balance 54 = .ok (.istore 4, 2) := by decide +kernel
theorem dX7_balance_56 : decode cX7_balance 56 = .ok (.aload_n 0, 1) := by decide +kernel
theorem dX7_balance_57 : decode cX7_balance 57 = .ok (.getfield 60, 3) := by decide +kernel
theorem dX7_balance_60 : decode cX7_balance 60 = .ok (.getfield 172, 3) := by decide +kernel
theorem dX7_balance_63 : decode cX7_balance 63 = .ok (.iload 4, 2) := by decide +kernel
theorem dX7_balance_65 : decode cX7_balance 65 = .ok (.isub, 1) := by decide +kernel
theorem dX7_balance_66 : decode cX7_balance 66 = .ok (.aload_n 0, 1) := by decide +kernel
theorem dX7_balance_67 : decode cX7_balance 67 = .ok (.getfield 60, 3) := by decide +kernel
theorem dX7_balance_70 : decode cX7_balance 70 = .ok (.getfield 175, 3) := by decide +kernel
theorem dX7_balance_73 : decode cX7_balance 73 = .ok (.iload 4, 2) := by decide +kernel
theorem dX7_balance_75 : decode cX7_balance 75 = .ok (.iadd, 1) := by decide +kernel
theorem dX7_balance_76 : decode cX7_balance 76 = .ok (.aload_n 0, 1) := by decide +kernel
theorem dX7_balance_77 : decode cX7_balance 77 = .ok (.getfield 10, 3) := by decide +kernel
theorem dX7_balance_80 : decode cX7_balance 80 = .ok (.getfield 103, 3) := by decide +kernel
theorem dX7_balance_83 : decode cX7_balance 83 = .ok (.invokestatic 178, 3) := by decide +kernel
theorem dX7_balance_86 : decode cX7_balance 86 = .ok (.iload_n 1, 1) := by decide +kernel
theorem dX7_balance_87 : decode cX7_balance 87 = .ok (.if_icmp .eq 9, 3) := by decide +kernel
theorem dX7_balance_90 : decode cX7_balance 90 = .ok (.iload_n 2, 1) := by decide +kernel
theorem dX7_balance_91 : decode cX7_balance 91 = .ok (.iconst 1, 1) := by decide +kernel
theorem dX7_balance_92 : decode cX7_balance 92 = .ok (.iload_n 3, 1) := by decide +kernel
theorem dX7_balance_93 : decode cX7_balance 93 = .ok (.ishl, 1) := by decide +kernel
theorem dX7_balance_94 : decode cX7_balance 94 = .ok (.ior, 1) := by decide +kernel
theorem dX7_balance_95 : decode cX7_balance 95 = .ok (.istore_n 2, 1) := by decide +kernel
theorem dX7_balance_96 : decode cX7_balance 96 = .ok (.iinc 3 1, 3) := by decide +kernel
theorem dX7_balance_99 : decode cX7_balance 99 = .ok (.goto (-70), 3) := by decide +kernel
theorem dX7_balance_102 : decode cX7_balance 102 = .ok (.iload_n 2, 1) := by decide +kernel
theorem dX7_balance_103 : decode cX7_balance 103 = .ok (.ireturn, 1) := by decide +kernel
set_option maxHeartbeats 4000000 in
set_option maxRecDepth 100000 in
theorem bb_X7_balance_96 {p : Program} {l : Launch} {e : Env} {s : State} {m : MethodId} {args : Array Value} {below : List Frame} {meth : Method} {c : Code} {D : va_G} {cy : Nat → ClassId} {nt : Nat} {ad : Nat → Nat} {A : Nat → Prop} {X : Nat → Nat} {Q : Int32 → Sg → Prop} (K : Kx p s m args meth c cX7_balance 5 RX7 D cy) (KX : XC X A s s.heap) (hr : meth.sig.returnType = (some .int))  {rc29 : Int32 → Int32 → Int32 → Sg → Prop} (hrc29 : ∀ (x1 : Int32) (x2 : Int32) (x3 : Int32) (u : Sg) (H : Heap) (locs : List Loc) (ls : Array Slot), rc29 x1 x2 x3 u → Wd D A s.heap (wsC cy nt ad u) H locs → lv_has ls 5 [(0, .ref (ad 0)), (1, .int x1), (2, .int x2), (3, .int x3)] → W p l e (rmD 2) s m args below meth c H locs 0 0 (MQ below (va_Qi Q (PostG (wsC cy nt ad) D A) A) args s 0 0 A) (F0 m 29 ls [])) (x1 : Int32) (x2 : Int32) (x3 : Int32)  (g0 : Sg) (H : Heap) (locs : List Loc) (ls : Array Slot) (hd : vv_X7_balance_J96 nt rc29 x1 x2 x3 g0 Q) (hw : Wd D A s.heap (wsC cy nt ad g0) H locs) (hl : lv_has ls 5 [(0, .ref (ad 0)), (1, .int x1), (2, .int x2), (3, .int x3)]) : W p l e (rmD 2) s m args below meth c H locs 0 0 (MQ below (va_Qi Q (PostG (wsC cy nt ad) D A) A) args s 0 0 A) (F0 m 96 ls []) := by
  unfold vv_X7_balance_J96 at hd
  obtain ⟨x3_11, ex3_11⟩ : ∃ y : Int32, y = x3 + (1 : Int32) := ⟨_, rfl⟩
  have hd := hd x3_11 ex3_11
  refine lv_iinc (v := x3_11) (lv' := [(3, .int x3_11), (0, .ref (ad 0)), (1, .int x1), (2, .int x2)]) K.1 K.2.1 dX7_balance_96 hl (k := 3) rfl (by rw [ex3_11]; rfl) (by decide) rfl (fun ls hl => ?_)
  refine lv_goto (tgt := 29) K.1 K.2.1 dX7_balance_99 (by decide) ?_
  exact hrc29 x1 x2 x3_11 g0 _ _ _  hd hw (lv_sub hl [1, 2, 3, 0] rfl)
set_option maxHeartbeats 4000000 in
set_option maxRecDepth 100000 in
theorem bb_X7_balance_29 {p : Program} {l : Launch} {e : Env} {s : State} {m : MethodId} {args : Array Value} {below : List Frame} {meth : Method} {c : Code} {D : va_G} {cy : Nat → ClassId} {nt : Nat} {ad : Nat → Nat} {A : Nat → Prop} {X : Nat → Nat} {Q : Int32 → Sg → Prop} (K : Kx p s m args meth c cX7_balance 5 RX7 D cy) (KX : XC X A s s.heap) (hr : meth.sig.returnType = (some .int))  : ∀ (n : Nat) (x1 : Int32) (x2 : Int32) (x3 : Int32)  (g0 : Sg) (H : Heap) (locs : List Loc) (ls : Array Slot), vv_X7_balance_L29 nt Q n x1 x2 x3 g0 → Wd D A s.heap (wsC cy nt ad g0) H locs → lv_has ls 5 [(0, .ref (ad 0)), (1, .int x1), (2, .int x2), (3, .int x3)] → W p l e (rmD 2) s m args below meth c H locs 0 0 (MQ below (va_Qi Q (PostG (wsC cy nt ad) D A) A) args s 0 0 A) (F0 m 29 ls []) := by
  intro n
  induction n with
  | zero => intro _ _ _ _ _ _ _ hd; exact hd.elim
  | succ n ih =>
    intro x1 x2 x3 g0 H locs ls  hd hw hl
    unfold vv_X7_balance_L29 at hd
    refine lv_iload_n K.1 K.2.1 dX7_balance_29 rfl (lv_at hl 3 rfl) ?_
    refine lv_bipush (v := (8 : Int32)) K.1 K.2.1 dX7_balance_30 (by decide) ?_
    refine lv_icmp_ge (tgt := 102) K.1 K.2.1 dX7_balance_32 (by decide) (fun h_6 => ?_) (fun h_6 => ?_)
    · have hd := hd.1 h_6
      refine lv_iload_n K.1 K.2.1 dX7_balance_102 rfl (lv_at hl 2 rfl) ?_
      exact rk_iret K hw hr hd dX7_balance_103
    · have hd := hd.2 h_6
      refine lv_aload_n K.1 K.2.1 dX7_balance_35 rfl (lv_at hl 0 rfl) ?_
      refine rc_get layX7 (ci := 7) rfl 10 (by decide) (v := .ref (ad 22)) K hw (wc_O cy nt ad _) kf_X7_60 rfl dX7_balance_36 ?_
      refine rc_get layX4 (ci := 4) rfl 4 (by decide) (v := .ref (ad 24)) K hw (wc_Ta cy nt ad _) kf_X7_345 rfl dX7_balance_39 ?_
      refine lv_iload_n K.1 K.2.1 dX7_balance_42 rfl (lv_at hl 3 rfl) ?_
      have hb := hd.1
      have hd := hd.2
      refine rc_iald K hw (wc_24 cy nt ad _) hb dX7_balance_43 ?_
      refine lv_aload_n K.1 K.2.1 dX7_balance_44 rfl (lv_at hl 0 rfl) ?_
      refine rc_get layX7 (ci := 7) rfl 10 (by decide) (v := .ref (ad 22)) K hw (wc_O cy nt ad _) kf_X7_60 rfl dX7_balance_45 ?_
      refine rc_get layX4 (ci := 4) rfl 3 (by decide) (v := .ref (ad 23)) K hw (wc_Ta cy nt ad _) kf_X7_224 rfl dX7_balance_48 ?_
      refine lv_iload_n K.1 K.2.1 dX7_balance_51 rfl (lv_at hl 3 rfl) ?_
      have hb := hd.1
      have hd := hd.2
      refine rc_iald K hw (wc_23 cy nt ad _) hb dX7_balance_52 ?_
      refine lv_imul K.1 K.2.1 dX7_balance_53 ?_
      refine lv_topi (fun x4_7 ex4_7 => ?_)
      have hd := hd x4_7 ex4_7
      refine lv_istore (lv' := [(4, .int x4_7), (0, .ref (ad 0)), (1, .int x1), (2, .int x2), (3, .int x3)]) K.1 K.2.1 dX7_balance_54 hl (by decide) rfl (fun ls hl => ?_)
      refine lv_aload_n K.1 K.2.1 dX7_balance_56 rfl (lv_at hl 1 rfl) ?_
      refine rc_get layX7 (ci := 7) rfl 10 (by decide) (v := .ref (ad 22)) K hw (wc_O cy nt ad _) kf_X7_60 rfl dX7_balance_57 ?_
      refine rc_get layX4 (ci := 4) rfl 0 (by decide) (v := .int (g0 22 0)) K hw (wc_Ta cy nt ad _) kf_X7_172 rfl dX7_balance_60 ?_
      refine lv_iload K.1 K.2.1 dX7_balance_63 (lv_at hl 0 rfl) ?_
      refine lv_isub K.1 K.2.1 dX7_balance_65 ?_
      refine lv_aload_n K.1 K.2.1 dX7_balance_66 rfl (lv_at hl 1 rfl) ?_
      refine rc_get layX7 (ci := 7) rfl 10 (by decide) (v := .ref (ad 22)) K hw (wc_O cy nt ad _) kf_X7_60 rfl dX7_balance_67 ?_
      refine rc_get layX4 (ci := 4) rfl 1 (by decide) (v := .int (g0 22 1)) K hw (wc_Ta cy nt ad _) kf_X7_175 rfl dX7_balance_70 ?_
      refine lv_iload K.1 K.2.1 dX7_balance_73 (lv_at hl 0 rfl) ?_
      refine lv_iadd K.1 K.2.1 dX7_balance_75 ?_
      refine lv_aload_n K.1 K.2.1 dX7_balance_76 rfl (lv_at hl 1 rfl) ?_
      refine rc_get layX7 (ci := 7) rfl 0 (by decide) (v := .ref (ad 1)) K hw (wc_O cy nt ad _) kf_X7_10 rfl dX7_balance_77 ?_
      refine rc_get layX0 (ci := 0) rfl 3 (by decide) (v := .int (g0 1 3)) K hw (wc_B cy nt ad _ ⟨by decide, by decide⟩) kf_X7_103 rfl dX7_balance_80 ?_
      refine rkc_si (As := [.int ((g0 22 0) - x4_7), .int ((g0 22 1) + x4_7), .int (g0 1 3)]) (rest := []) K KX hw (cc_X7_carried l D cy nt ad A X g0 _ ((g0 22 0) - x4_7) ((g0 22 1) + x4_7) (g0 1 3) hd) lk_X7_178 ⟨Nat.le_of_ble_eq_true rfl, Nat.le_of_ble_eq_true rfl⟩ ⟨Nat.zero_le _, Nat.zero_le _⟩ rfl hl.1 (Nat.le_of_ble_eq_true rfl) rfl dX7_balance_83 (fun r_9 g_8 H locs hd hw => ?_)
      refine lv_iload_n K.1 K.2.1 dX7_balance_86 rfl (lv_at hl 2 rfl) ?_
      refine lv_icmp_eq (tgt := 96) K.1 K.2.1 dX7_balance_87 (by decide) (fun h_10 => ?_) (fun h_10 => ?_)
      · have hd := hd.1 h_10
        exact bb_X7_balance_96 K KX hr  ih x1 x2 x3 g_8 _ _ _  hd hw (lv_sub hl [1, 2, 3, 4] rfl)
      · have hd := hd.2 h_10
        refine lv_iload_n K.1 K.2.1 dX7_balance_90 rfl (lv_at hl 3 rfl) ?_
        refine lv_iconst (v := (1 : Int32)) K.1 K.2.1 dX7_balance_91 (by decide) ?_
        refine lv_iload_n K.1 K.2.1 dX7_balance_92 rfl (lv_at hl 4 rfl) ?_
        refine lv_ishl K.1 K.2.1 dX7_balance_93 ?_
        refine lv_ior K.1 K.2.1 dX7_balance_94 ?_
        refine lv_topi (fun x2_12 ex2_12 => ?_)
        have hd := hd x2_12 ex2_12
        refine lv_istore_n (lv' := [(2, .int x2_12), (4, .int x4_7), (0, .ref (ad 0)), (1, .int x1), (3, .int x3)]) K.1 K.2.1 dX7_balance_95 rfl hl (by decide) rfl (fun ls hl => ?_)
        exact bb_X7_balance_96 K KX hr  ih x1 x2_12 x3 g_8 _ _ _  hd hw (lv_sub hl [2, 3, 0, 4] rfl)
set_option maxHeartbeats 4000000 in
set_option maxRecDepth 100000 in
theorem cc_X7_balance (l : Launch) (D : va_G) (cy : Nat → ClassId) (nt : Nat) (ad : Nat → Nat) (A : Nat → Prop) (X : Nat → Nat)  (g0 : Sg) (Q : Int32 → Sg → Prop)  (hd : vv_X7_balance nt  g0 Q) : Met l yX7_balance (Cond.code yX7_balance cX7_balance 5 (some .int) :: TT) (rmD 2) (va_Pc [.ref (ad 0)] (PreC (wsC cy nt ad) D cy A X g0)) (va_Qi Q (PostG (wsC cy nt ad) D A) A) 0 0 A := by
  unfold vv_X7_balance at hd
  refine Met.ofW (cc := cX7_balance) (maxL := 5) (ret := (some .int)) (by decide) rfl ?_
  intro p e s m args below meth c s₁ B hml hv
  obtain ⟨rfl, ⟨hP, hK0, hD⟩, KX⟩ := hv
  have K : Kx p s m _ meth c cX7_balance 5 RX7 D cy := ⟨B.exec, B.bytes, hml, findClass_of_methodNamed B.named, fun w h => atoms_spec (ws := Cond.code yX7_balance cX7_balance 5 (some .int) :: TT) B.pre w (List.mem_cons_of_mem _ h), hK0, B.notSynchronized⟩
  have hw : Wd D A s.heap (wsC cy nt ad g0) s.heap [] := ⟨hP, hD, va_S.rf⟩
  have hr := B.returns
  have hl := lv_entry ([.ref (ad 0)]) (n := 5) (Nat.le_of_ble_eq_true rfl)
  rw [lg_entry_eq]
  generalize (lg_sl ([.ref (ad 0)]) ++ List.replicate (5 - (lg_sl ([.ref (ad 0)])).length) Slot.unset).toArray = ls at hl ⊢
  have hl : lv_has ls 5 [(0, .ref (ad 0))] := hl
  refine lv_aload_n K.1 K.2.1 dX7_balance_0 rfl (lv_at hl 0 rfl) ?_
  refine rc_get layX7 (ci := 7) rfl 10 (by decide) (v := .ref (ad 22)) K hw (wc_O cy nt ad _) kf_X7_60 rfl dX7_balance_1 ?_
  refine rc_get layX4 (ci := 4) rfl 0 (by decide) (v := .int (g0 22 0)) K hw (wc_Ta cy nt ad _) kf_X7_172 rfl dX7_balance_4 ?_
  refine lv_aload_n K.1 K.2.1 dX7_balance_7 rfl (lv_at hl 0 rfl) ?_
  refine rc_get layX7 (ci := 7) rfl 10 (by decide) (v := .ref (ad 22)) K hw (wc_O cy nt ad _) kf_X7_60 rfl dX7_balance_8 ?_
  refine rc_get layX4 (ci := 4) rfl 1 (by decide) (v := .int (g0 22 1)) K hw (wc_Ta cy nt ad _) kf_X7_175 rfl dX7_balance_11 ?_
  refine lv_aload_n K.1 K.2.1 dX7_balance_14 rfl (lv_at hl 0 rfl) ?_
  refine rc_get layX7 (ci := 7) rfl 0 (by decide) (v := .ref (ad 1)) K hw (wc_O cy nt ad _) kf_X7_10 rfl dX7_balance_15 ?_
  refine rc_get layX0 (ci := 0) rfl 3 (by decide) (v := .int (g0 1 3)) K hw (wc_B cy nt ad _ ⟨by decide, by decide⟩) kf_X7_103 rfl dX7_balance_18 ?_
  refine rkc_si (As := [.int (g0 22 0), .int (g0 22 1), .int (g0 1 3)]) (rest := []) K KX hw (cc_X7_carried l D cy nt ad A X g0 _ (g0 22 0) (g0 22 1) (g0 1 3) hd) lk_X7_178 ⟨Nat.le_of_ble_eq_true rfl, Nat.le_of_ble_eq_true rfl⟩ ⟨Nat.zero_le _, Nat.zero_le _⟩ rfl hl.1 (Nat.le_of_ble_eq_true rfl) rfl dX7_balance_21 (fun r_2 g_1 H locs hd hw => ?_)
  refine lv_topi (fun x1_3 ex1_3 => ?_)
  have hd := hd x1_3 ex1_3
  refine lv_istore_n (lv' := [(1, .int x1_3), (0, .ref (ad 0))]) K.1 K.2.1 dX7_balance_24 rfl hl (by decide) rfl (fun ls hl => ?_)
  refine lv_iconst (v := (0 : Int32)) K.1 K.2.1 dX7_balance_25 (by decide) ?_
  refine lv_topi (fun x2_4 ex2_4 => ?_)
  have hd := hd x2_4 ex2_4
  refine lv_istore_n (lv' := [(2, .int x2_4), (1, .int x1_3), (0, .ref (ad 0))]) K.1 K.2.1 dX7_balance_26 rfl hl (by decide) rfl (fun ls hl => ?_)
  refine lv_iconst (v := (0 : Int32)) K.1 K.2.1 dX7_balance_27 (by decide) ?_
  refine lv_topi (fun x3_5 ex3_5 => ?_)
  have hd := hd x3_5 ex3_5
  refine lv_istore_n (lv' := [(3, .int x3_5), (2, .int x2_4), (1, .int x1_3), (0, .ref (ad 0))]) K.1 K.2.1 dX7_balance_28 rfl hl (by decide) rfl (fun ls hl => ?_)
  obtain ⟨n9, hd⟩ := hd
  exact bb_X7_balance_29 K KX hr   n9 x1_3 x2_4 x3_5 g_1 _ _ _  hd hw (lv_sub hl [3, 2, 1, 0] rfl)
theorem dX7_division_0 : decode cX7_division 0 = .ok (.iload_n 1, 1) := by decide +kernel
theorem dX7_division_1 : decode cX7_division 1 = .ok (.invokestatic 161, 3) := by decide +kernel
theorem dX7_division_4 : decode cX7_division 4 = .ok (.ifCond .eq 12, 3) := by decide +kernel
theorem dX7_division_7 : decode cX7_division 7 = .ok (.iload_n 2, 1) := by decide +kernel
theorem dX7_division_8 : decode cX7_division 8 = .ok (.ifCond .lt 8, 3) := by decide +kernel
theorem dX7_division_11 : decode cX7_division 11 = .ok (.iload_n 2, 1) := by decide +kernel
theorem dX7_division_12 : decode cX7_division 12 = .ok (.iconst 5, 1) := by decide +kernel
theorem dX7_division_13 : decode cX7_division 13 = .ok (.if_icmp .le 6, 3) := by decide +kernel
theorem dX7_division_16 : decode cX7_division 16 = .ok (.bipush (-2), 2) := by decide +kernel
theorem dX7_division_18 : decode cX7_division 18 = .ok (.ireturn, 1) := by decide +kernel
theorem dX7_division_19 : decode cX7_division 19 = .ok (.aload_n 0, 1) := by decide +kernel
theorem dX7_division_20 : decode cX7_division 20 = .ok (.aload_n 0, 1) := by decide +kernel
theorem dX7_division_21 : decode cX7_division 21 = .ok (.getfield 10, 3) := by decide +kernel
theorem dX7_division_24 : decode cX7_division 24 = .ok (.invokevirtual 164, 3) := by decide +kernel
theorem dX7_division_27 : decode cX7_division 27 = .ok (.aload_n 0, 1) := by decide +kernel
theorem dX7_division_28 : decode cX7_division 28 = .ok (.aload_n 0, 1) := by decide +kernel
theorem dX7_division_29 : decode cX7_division 29 = .ok (.getfield 10, 3) := by decide +kernel
theorem dX7_division_32 : decode cX7_division 32 = .ok (.iload_n 1, 1) := by decide +kernel
theorem dX7_division_33 : decode cX7_division 33 = .ok (.invokevirtual 168, 3) := by decide +kernel
theorem dX7_division_36 : decode cX7_division 36 = .ok (.iload_n 2, 1) := by decide +kernel
theorem dX7_division_37 : decode cX7_division 37 = .ok (.tableswitch 102 0 4 #[35, 43, 51, 84, 93], 35) := by decide +kernel
theorem dX7_division_72 : decode cX7_division 72 = .ok (.aload_n 0, 1) := by decide +kernel
theorem dX7_division_73 : decode cX7_division 73 = .ok (.getfield 60, 3) := by decide +kernel
theorem dX7_division_76 : decode cX7_division 76 = .ok (.getfield 172, 3) := by decide +kernel
theorem dX7_division_79 : decode cX7_division 79 = .ok (.ireturn, 1) := by decide +kernel
theorem dX7_division_80 : decode cX7_division 80 = .ok (.aload_n 0, 1) := by decide +kernel
theorem dX7_division_81 : decode cX7_division 81 = .ok (.getfield 60, 3) := by decide +kernel
theorem dX7_division_84 : decode cX7_division 84 = .ok (.getfield 175, 3) := by decide +kernel
theorem dX7_division_87 : decode cX7_division 87 = .ok (.ireturn, 1) := by decide +kernel
theorem dX7_division_88 : decode cX7_division 88 = .ok (.aload_n 0, 1) := by decide +kernel
theorem dX7_division_89 : decode cX7_division 89 = .ok (.getfield 60, 3) := by decide +kernel
theorem dX7_division_92 : decode cX7_division 92 = .ok (.getfield 172, 3) := by decide +kernel
theorem dX7_division_95 : decode cX7_division 95 = .ok (.aload_n 0, 1) := by decide +kernel
theorem dX7_division_96 : decode cX7_division 96 = .ok (.getfield 60, 3) := by decide +kernel
theorem dX7_division_99 : decode cX7_division 99 = .ok (.getfield 175, 3) := by decide +kernel
theorem dX7_division_102 : decode cX7_division 102 = .ok (.aload_n 0, 1) := by decide +kernel
theorem dX7_division_103 : decode cX7_division 103 = .ok (.getfield 10, 3) := by decide +kernel
theorem dX7_division_106 : decode cX7_division 106 = .ok (.getfield 103, 3) := by decide +kernel
theorem dX7_division_109 : decode cX7_division 109 = .ok (.invokestatic 178, 3) := by decide +kernel
theorem dX7_division_112 : decode cX7_division 112 = .ok (.ifCond .eq 7, 3) := by decide +kernel
theorem dX7_division_115 : decode cX7_division 115 = .ok (.iconst 1, 1) := by decide +kernel
theorem dX7_division_116 : decode cX7_division 116 = .ok (.goto 4, 3) := by decide +kernel
theorem dX7_division_119 : decode cX7_division 119 = .ok (.iconst 0, 1) := by decide +kernel
theorem dX7_division_120 : decode cX7_division 120 = .ok (.ireturn, 1) := by decide +kernel
theorem dX7_division_121 : decode cX7_division 121 = .ok (.aload_n 0, 1) := by decide +kernel
theorem dX7_division_122 : decode cX7_division 122 = .ok (.getfield 60, 3) := by decide +kernel
theorem dX7_division_125 : decode cX7_division 125 = .ok (.iconst 1, 1) := by decide +kernel
theorem dX7_division_126 : decode cX7_division 126 = .ok (.invokevirtual 182, 3) := by decide +kernel
theorem dX7_division_129 : decode cX7_division 129 = .ok (.ireturn, 1) := by decide +kernel
theorem dX7_division_130 : decode cX7_division 130 = .ok (.aload_n 0, 1) := by decide +kernel
theorem dX7_division_131 : decode cX7_division 131 = .ok (.getfield 60, 3) := by decide +kernel
theorem dX7_division_134 : decode cX7_division 134 = .ok (.iconst (-1), 1) := by decide +kernel
theorem dX7_division_135 : decode cX7_division 135 = .ok (.invokevirtual 182, 3) := by decide +kernel
theorem dX7_division_138 : decode cX7_division 138 = .ok (.ireturn, 1) := by decide +kernel
theorem dX7_division_139 : decode cX7_division 139 = .ok (.aload_n 0, 1) := by decide +kernel
theorem dX7_division_140 : decode cX7_division 140 = .ok (.invokevirtual 185, 3) := by decide +kernel
theorem dX7_division_143 : decode cX7_division 143 = .ok (.ireturn, 1) := by decide +kernel
set_option maxHeartbeats 4000000 in
set_option maxRecDepth 100000 in
theorem cc_X7_division (l : Launch) (D : va_G) (cy : Nat → ClassId) (nt : Nat) (ad : Nat → Nat) (A : Nat → Prop) (X : Nat → Nat)  (g0 : Sg) (Q : Int32 → Sg → Prop) (x1 : Int32) (x2 : Int32) (hd : vv_X7_division nt x1 x2 g0 Q) : Met l yX7_division (Cond.code yX7_division cX7_division 3 (some .int) :: TT) (rmD 7) (va_Pc [.ref (ad 0), .int x1, .int x2] (PreC (wsC cy nt ad) D cy A X g0)) (va_Qi Q (PostG (wsC cy nt ad) D A) A) 0 0 A := by
  unfold vv_X7_division at hd
  refine Met.ofW (cc := cX7_division) (maxL := 3) (ret := (some .int)) (by decide) rfl ?_
  intro p e s m args below meth c s₁ B hml hv
  obtain ⟨rfl, ⟨hP, hK0, hD⟩, KX⟩ := hv
  have K : Kx p s m _ meth c cX7_division 3 RX7 D cy := ⟨B.exec, B.bytes, hml, findClass_of_methodNamed B.named, fun w h => atoms_spec (ws := Cond.code yX7_division cX7_division 3 (some .int) :: TT) B.pre w (List.mem_cons_of_mem _ h), hK0, B.notSynchronized⟩
  have hw : Wd D A s.heap (wsC cy nt ad g0) s.heap [] := ⟨hP, hD, va_S.rf⟩
  have hr := B.returns
  have hl := lv_entry ([.ref (ad 0), .int x1, .int x2]) (n := 3) (Nat.le_of_ble_eq_true rfl)
  rw [lg_entry_eq]
  generalize (lg_sl ([.ref (ad 0), .int x1, .int x2]) ++ List.replicate (3 - (lg_sl ([.ref (ad 0), .int x1, .int x2])).length) Slot.unset).toArray = ls at hl ⊢
  have hl : lv_has ls 3 [(0, .ref (ad 0)), (1, .int x1), (2, .int x2)] := hl
  refine lv_iload_n K.1 K.2.1 dX7_division_0 rfl (lv_at hl 1 rfl) ?_
  refine rkc_si (As := [.int x1]) (rest := []) K KX hw (cc_X7_isTopic l D cy nt ad A X g0 _ x1 hd) lk_X7_161 ⟨Nat.le_of_ble_eq_true rfl, Nat.le_of_ble_eq_true rfl⟩ ⟨Nat.zero_le _, Nat.zero_le _⟩ rfl hl.1 (Nat.le_of_ble_eq_true rfl) rfl dX7_division_1 (fun r_2 g_1 H locs hd hw => ?_)
  refine lv_if_eq (tgt := 16) K.1 K.2.1 dX7_division_4 (by decide) (fun h_3 => ?_) (fun h_3 => ?_)
  · have hd := hd.1 h_3
    refine lv_bipush (v := (-2 : Int32)) K.1 K.2.1 dX7_division_16 (by decide) ?_
    exact rk_iret K hw hr hd dX7_division_18
  · have hd := hd.2 h_3
    refine lv_iload_n K.1 K.2.1 dX7_division_7 rfl (lv_at hl 2 rfl) ?_
    refine lv_if_lt (tgt := 16) K.1 K.2.1 dX7_division_8 (by decide) (fun h_4 => ?_) (fun h_4 => ?_)
    · have hd := hd.1 h_4
      refine lv_bipush (v := (-2 : Int32)) K.1 K.2.1 dX7_division_16 (by decide) ?_
      exact rk_iret K hw hr hd dX7_division_18
    · have hd := hd.2 h_4
      refine lv_iload_n K.1 K.2.1 dX7_division_11 rfl (lv_at hl 2 rfl) ?_
      refine lv_iconst (v := (5 : Int32)) K.1 K.2.1 dX7_division_12 (by decide) ?_
      refine lv_icmp_le (tgt := 19) K.1 K.2.1 dX7_division_13 (by decide) (fun h_5 => ?_) (fun h_5 => ?_)
      · have hd := hd.1 h_5
        refine lv_aload_n K.1 K.2.1 dX7_division_19 rfl (lv_at hl 0 rfl) ?_
        refine lv_aload_n K.1 K.2.1 dX7_division_20 rfl (lv_at hl 0 rfl) ?_
        refine rc_get layX7 (ci := 7) rfl 0 (by decide) (v := .ref (ad 1)) K hw (wc_O cy nt ad _) kf_X7_10 rfl dX7_division_21 ?_
        refine rkc_vv (As := [.ref (ad 1)]) (rest := []) K KX hw (cc_X7_weighAll l D cy nt ad A X g_1 _ 1 hd) lk_X7_164 (ci := 7) rfl (wc_O cy nt ad _) ⟨Nat.le_of_ble_eq_true rfl, Nat.le_of_ble_eq_true rfl⟩ ⟨Nat.zero_le _, Nat.zero_le _⟩ rfl hl.1 (Nat.le_of_ble_eq_true rfl) rfl dX7_division_24 (fun g_6 H locs hd hw => ?_)
        refine lv_aload_n K.1 K.2.1 dX7_division_27 rfl (lv_at hl 0 rfl) ?_
        refine lv_aload_n K.1 K.2.1 dX7_division_28 rfl (lv_at hl 0 rfl) ?_
        refine rc_get layX7 (ci := 7) rfl 0 (by decide) (v := .ref (ad 1)) K hw (wc_O cy nt ad _) kf_X7_10 rfl dX7_division_29 ?_
        refine lv_iload_n K.1 K.2.1 dX7_division_32 rfl (lv_at hl 1 rfl) ?_
        refine rkc_vv (As := [.ref (ad 1), .int x1]) (rest := []) K KX hw (cc_X7_divide l D cy nt ad A X g_6 _ 1 x1 hd) lk_X7_168 (ci := 7) rfl (wc_O cy nt ad _) ⟨Nat.le_of_ble_eq_true rfl, Nat.le_of_ble_eq_true rfl⟩ ⟨Nat.zero_le _, Nat.zero_le _⟩ rfl hl.1 (Nat.le_of_ble_eq_true rfl) rfl dX7_division_33 (fun g_8 H locs hd hw => ?_)
        refine lv_iload_n K.1 K.2.1 dX7_division_36 rfl (lv_at hl 2 rfl) ?_
        rcases Classical.em (x2 = (0 : Int32)) with h_11 | h_11
        · have hd := hd.1 h_11
          refine lv_tableIn (tgt := 72) K.1 K.2.1 dX7_division_37 (by rw [h_11]; decide) (by rw [h_11]; decide) (off := 35) (by rw [h_11]; rfl) (by decide) ?_
          refine lv_aload_n K.1 K.2.1 dX7_division_72 rfl (lv_at hl 0 rfl) ?_
          refine rc_get layX7 (ci := 7) rfl 10 (by decide) (v := .ref (ad 22)) K hw (wc_O cy nt ad _) kf_X7_60 rfl dX7_division_73 ?_
          refine rc_get layX4 (ci := 4) rfl 0 (by decide) (v := .int (g_8 22 0)) K hw (wc_Ta cy nt ad _) kf_X7_172 rfl dX7_division_76 ?_
          exact rk_iret K hw hr hd dX7_division_79
        rcases Classical.em (x2 = (1 : Int32)) with h_12 | h_12
        · have hd := hd.2.1 h_12
          refine lv_tableIn (tgt := 80) K.1 K.2.1 dX7_division_37 (by rw [h_12]; decide) (by rw [h_12]; decide) (off := 43) (by rw [h_12]; rfl) (by decide) ?_
          refine lv_aload_n K.1 K.2.1 dX7_division_80 rfl (lv_at hl 0 rfl) ?_
          refine rc_get layX7 (ci := 7) rfl 10 (by decide) (v := .ref (ad 22)) K hw (wc_O cy nt ad _) kf_X7_60 rfl dX7_division_81 ?_
          refine rc_get layX4 (ci := 4) rfl 1 (by decide) (v := .int (g_8 22 1)) K hw (wc_Ta cy nt ad _) kf_X7_175 rfl dX7_division_84 ?_
          exact rk_iret K hw hr hd dX7_division_87
        rcases Classical.em (x2 = (2 : Int32)) with h_13 | h_13
        · have hd := hd.2.2.1 h_13
          refine lv_tableIn (tgt := 88) K.1 K.2.1 dX7_division_37 (by rw [h_13]; decide) (by rw [h_13]; decide) (off := 51) (by rw [h_13]; rfl) (by decide) ?_
          refine lv_aload_n K.1 K.2.1 dX7_division_88 rfl (lv_at hl 0 rfl) ?_
          refine rc_get layX7 (ci := 7) rfl 10 (by decide) (v := .ref (ad 22)) K hw (wc_O cy nt ad _) kf_X7_60 rfl dX7_division_89 ?_
          refine rc_get layX4 (ci := 4) rfl 0 (by decide) (v := .int (g_8 22 0)) K hw (wc_Ta cy nt ad _) kf_X7_172 rfl dX7_division_92 ?_
          refine lv_aload_n K.1 K.2.1 dX7_division_95 rfl (lv_at hl 0 rfl) ?_
          refine rc_get layX7 (ci := 7) rfl 10 (by decide) (v := .ref (ad 22)) K hw (wc_O cy nt ad _) kf_X7_60 rfl dX7_division_96 ?_
          refine rc_get layX4 (ci := 4) rfl 1 (by decide) (v := .int (g_8 22 1)) K hw (wc_Ta cy nt ad _) kf_X7_175 rfl dX7_division_99 ?_
          refine lv_aload_n K.1 K.2.1 dX7_division_102 rfl (lv_at hl 0 rfl) ?_
          refine rc_get layX7 (ci := 7) rfl 0 (by decide) (v := .ref (ad 1)) K hw (wc_O cy nt ad _) kf_X7_10 rfl dX7_division_103 ?_
          refine rc_get layX0 (ci := 0) rfl 3 (by decide) (v := .int (g_8 1 3)) K hw (wc_B cy nt ad _ ⟨by decide, by decide⟩) kf_X7_103 rfl dX7_division_106 ?_
          refine rkc_si (As := [.int (g_8 22 0), .int (g_8 22 1), .int (g_8 1 3)]) (rest := []) K KX hw (cc_X7_carried l D cy nt ad A X g_8 _ (g_8 22 0) (g_8 22 1) (g_8 1 3) hd) lk_X7_178 ⟨Nat.le_of_ble_eq_true rfl, Nat.le_of_ble_eq_true rfl⟩ ⟨Nat.zero_le _, Nat.zero_le _⟩ rfl hl.1 (Nat.le_of_ble_eq_true rfl) rfl dX7_division_109 (fun r_15 g_14 H locs hd hw => ?_)
          refine lv_if_eq (tgt := 119) K.1 K.2.1 dX7_division_112 (by decide) (fun h_16 => ?_) (fun h_16 => ?_)
          · have hd := hd.1 h_16
            refine lv_iconst (v := (0 : Int32)) K.1 K.2.1 dX7_division_119 (by decide) ?_
            exact rk_iret K hw hr hd dX7_division_120
          · have hd := hd.2 h_16
            refine lv_iconst (v := (1 : Int32)) K.1 K.2.1 dX7_division_115 (by decide) ?_
            refine lv_goto (tgt := 120) K.1 K.2.1 dX7_division_116 (by decide) ?_
            exact rk_iret K hw hr hd dX7_division_120
        rcases Classical.em (x2 = (3 : Int32)) with h_17 | h_17
        · have hd := hd.2.2.2.1 h_17
          refine lv_tableIn (tgt := 121) K.1 K.2.1 dX7_division_37 (by rw [h_17]; decide) (by rw [h_17]; decide) (off := 84) (by rw [h_17]; rfl) (by decide) ?_
          refine lv_aload_n K.1 K.2.1 dX7_division_121 rfl (lv_at hl 0 rfl) ?_
          refine rc_get layX7 (ci := 7) rfl 10 (by decide) (v := .ref (ad 22)) K hw (wc_O cy nt ad _) kf_X7_60 rfl dX7_division_122 ?_
          refine lv_iconst (v := (1 : Int32)) K.1 K.2.1 dX7_division_125 (by decide) ?_
          refine rkc_vi (As := [.int (1 : Int32)]) (rest := []) K KX hw (cc_X4_bitsOf l D cy nt ad A X g_8 _ (1 : Int32) hd) lk_X7_182 (ci := 4) rfl (wc_Ta cy nt ad _) ⟨Nat.le_of_ble_eq_true rfl, Nat.le_of_ble_eq_true rfl⟩ ⟨Nat.zero_le _, Nat.zero_le _⟩ rfl hl.1 (Nat.le_of_ble_eq_true rfl) rfl dX7_division_126 (fun r_19 g_18 H locs hd hw => ?_)
          exact rk_iret K hw hr hd dX7_division_129
        rcases Classical.em (x2 = (4 : Int32)) with h_20 | h_20
        · have hd := hd.2.2.2.2.1 h_20
          refine lv_tableIn (tgt := 130) K.1 K.2.1 dX7_division_37 (by rw [h_20]; decide) (by rw [h_20]; decide) (off := 93) (by rw [h_20]; rfl) (by decide) ?_
          refine lv_aload_n K.1 K.2.1 dX7_division_130 rfl (lv_at hl 0 rfl) ?_
          refine rc_get layX7 (ci := 7) rfl 10 (by decide) (v := .ref (ad 22)) K hw (wc_O cy nt ad _) kf_X7_60 rfl dX7_division_131 ?_
          refine lv_iconst (v := (-1 : Int32)) K.1 K.2.1 dX7_division_134 (by decide) ?_
          refine rkc_vi (As := [.int (-1 : Int32)]) (rest := []) K KX hw (cc_X4_bitsOf l D cy nt ad A X g_8 _ (-1 : Int32) hd) lk_X7_182 (ci := 4) rfl (wc_Ta cy nt ad _) ⟨Nat.le_of_ble_eq_true rfl, Nat.le_of_ble_eq_true rfl⟩ ⟨Nat.zero_le _, Nat.zero_le _⟩ rfl hl.1 (Nat.le_of_ble_eq_true rfl) rfl dX7_division_135 (fun r_22 g_21 H locs hd hw => ?_)
          exact rk_iret K hw hr hd dX7_division_138
        have hd := hd.2.2.2.2.2 h_11 h_12 h_13 h_17 h_20
        have qh_11 := lv_neT (k := (0 : Int32)) (a := 0) h_11 (by decide)
        have qh_12 := lv_neT (k := (1 : Int32)) (a := 1) h_12 (by decide)
        have qh_13 := lv_neT (k := (2 : Int32)) (a := 2) h_13 (by decide)
        have qh_17 := lv_neT (k := (3 : Int32)) (a := 3) h_17 (by decide)
        have qh_20 := lv_neT (k := (4 : Int32)) (a := 4) h_20 (by decide)
        refine lv_tableOut (tgt := 139) K.1 K.2.1 dX7_division_37 (by omega) (by decide) ?_
        refine lv_aload_n K.1 K.2.1 dX7_division_139 rfl (lv_at hl 0 rfl) ?_
        refine rkc_vi (As := []) (rest := []) K KX hw (cc_X7_balance l D cy nt ad A X g_8 _  hd) lk_X7_185 (ci := 7) rfl (wc_O cy nt ad _) ⟨Nat.le_of_ble_eq_true rfl, Nat.le_of_ble_eq_true rfl⟩ ⟨Nat.zero_le _, Nat.zero_le _⟩ rfl hl.1 (Nat.le_of_ble_eq_true rfl) rfl dX7_division_140 (fun r_24 g_23 H locs hd hw => ?_)
        exact rk_iret K hw hr hd dX7_division_143
      · have hd := hd.2 h_5
        refine lv_bipush (v := (-2 : Int32)) K.1 K.2.1 dX7_division_16 (by decide) ?_
        exact rk_iret K hw hr hd dX7_division_18
theorem dX7_carriedTopics_0 : decode cX7_carriedTopics 0 = .ok (.iconst 0, 1) := by decide +kernel
theorem dX7_carriedTopics_1 : decode cX7_carriedTopics 1 = .ok (.istore_n 2, 1) := by decide +kernel
theorem dX7_carriedTopics_2 : decode cX7_carriedTopics 2 = .ok (.aload_n 0, 1) := by decide +kernel
theorem dX7_carriedTopics_3 : decode cX7_carriedTopics 3 = .ok (.aload_n 1, 1) := by decide +kernel
theorem dX7_carriedTopics_4 : decode cX7_carriedTopics 4 = .ok (.invokevirtual 164, 3) := by decide +kernel
theorem dX7_carriedTopics_7 : decode cX7_carriedTopics 7 = .ok (.iconst 0, 1) := by decide +kernel
theorem dX7_carriedTopics_8 : decode cX7_carriedTopics 8 = .ok (.istore_n 3, 1) := by decide +kernel
theorem dX7_carriedTopics_9 : decode cX7_carriedTopics 9 = .ok (.iload_n 3, 1) := by decide +kernel
theorem dX7_carriedTopics_10 : decode cX7_carriedTopics 10 = .ok (.bipush 8, 2) := by decide +kernel
theorem dX7_carriedTopics_12 : decode cX7_carriedTopics 12 = .ok (.if_icmp .ge 45, 3) := by decide +kernel
theorem dX7_carriedTopics_15 : decode cX7_carriedTopics 15 = .ok (.aload_n 0, 1) := by decide +kernel
theorem dX7_carriedTopics_16 : decode cX7_carriedTopics 16 = .ok (.aload_n 1, 1) := by decide +kernel
theorem dX7_carriedTopics_17 : decode cX7_carriedTopics 17 = .ok (.iload_n 3, 1) := by decide +kernel
theorem dX7_carriedTopics_18 : decode cX7_carriedTopics 18 = .ok (.invokevirtual 168, 3) := by decide +kernel
theorem dX7_carriedTopics_21 : decode cX7_carriedTopics 21 = .ok (.aload_n 0, 1) := by decide +kernel
theorem dX7_carriedTopics_22 : decode cX7_carriedTopics 22 = .ok (.getfield 60, 3) := by decide +kernel
theorem dX7_carriedTopics_25 : decode cX7_carriedTopics 25 = .ok (.getfield 172, 3) := by decide +kernel
theorem dX7_carriedTopics_28 : decode cX7_carriedTopics 28 = .ok (.aload_n 0, 1) := by decide +kernel
theorem dX7_carriedTopics_29 : decode cX7_carriedTopics 29 = .ok (.getfield 60, 3) := by decide +kernel
theorem dX7_carriedTopics_32 : decode cX7_carriedTopics 32 = .ok (.getfield 175, 3) := by decide +kernel
theorem dX7_carriedTopics_35 : decode cX7_carriedTopics 35 = .ok (.aload_n 1, 1) := by decide +kernel
theorem dX7_carriedTopics_36 : decode cX7_carriedTopics 36 = .ok (.getfield 103, 3) := by decide +kernel
theorem dX7_carriedTopics_39 : decode cX7_carriedTopics 39 = .ok (.invokestatic 178, 3) := by decide +kernel
theorem dX7_carriedTopics_42 : decode cX7_carriedTopics 42 = .ok (.ifCond .eq 9, 3) := by decide +kernel
theorem dX7_carriedTopics_45 : decode cX7_carriedTopics 45 = .ok (.iload_n 2, 1) := by decide +kernel
theorem dX7_carriedTopics_46 : decode cX7_carriedTopics 46 = .ok (.iconst 1, 1) := by decide +kernel
theorem dX7_carriedTopics_47 : decode cX7_carriedTopics 47 = .ok (.iload_n 3, 1) := by decide +kernel
theorem dX7_carriedTopics_48 : decode cX7_carriedTopics 48 = .ok (.ishl, 1) := by decide +kernel
theorem dX7_carriedTopics_49 : decode cX7_carriedTopics 49 = .ok (.ior, 1) := by decide +kernel
theorem dX7_carriedTopics_50 : decode cX7_carriedTopics 50 = .ok (.istore_n 2, 1) := by decide +kernel
theorem dX7_carriedTopics_51 : decode cX7_carriedTopics 51 = .ok (.iinc 3 1, 3) := by decide +kernel
theorem dX7_carriedTopics_54 : decode cX7_carriedTopics 54 = .ok (.goto (-45), 3) := by decide +kernel
theorem dX7_carriedTopics_57 : decode cX7_carriedTopics 57 = .ok (.iload_n 2, 1) := by decide +kernel
theorem dX7_carriedTopics_58 : decode cX7_carriedTopics 58 = .ok (.ireturn, 1) := by decide +kernel
set_option maxHeartbeats 4000000 in
set_option maxRecDepth 100000 in
theorem bb_X7_carriedTopics_51 {p : Program} {l : Launch} {e : Env} {s : State} {m : MethodId} {args : Array Value} {below : List Frame} {meth : Method} {c : Code} {D : va_G} {cy : Nat → ClassId} {nt : Nat} {ad : Nat → Nat} {A : Nat → Prop} {X : Nat → Nat} {Q : Int32 → Sg → Prop} (K : Kx p s m args meth c cX7_carriedTopics 4 RX7 D cy) (KX : XC X A s s.heap) (hr : meth.sig.returnType = (some .int))  {rc9 : Nat → Int32 → Int32 → Sg → Prop} (hrc9 : ∀ (x1 : Nat) (x2 : Int32) (x3 : Int32) (u : Sg) (H : Heap) (locs : List Loc) (ls : Array Slot), isB x1 → rc9 x1 x2 x3 u → Wd D A s.heap (wsC cy nt ad u) H locs → lv_has ls 4 [(0, .ref (ad 0)), (1, .ref (ad x1)), (2, .int x2), (3, .int x3)] → W p l e (rmD 7) s m args below meth c H locs 0 0 (MQ below (va_Qi Q (PostG (wsC cy nt ad) D A) A) args s 0 0 A) (F0 m 9 ls [])) (x1 : Nat) (x2 : Int32) (x3 : Int32)  (g0 : Sg) (H : Heap) (locs : List Loc) (ls : Array Slot) (hq_x1 : isB x1) (hd : vv_X7_carriedTopics_J51 nt rc9 x1 x2 x3 g0 Q) (hw : Wd D A s.heap (wsC cy nt ad g0) H locs) (hl : lv_has ls 4 [(0, .ref (ad 0)), (1, .ref (ad x1)), (2, .int x2), (3, .int x3)]) : W p l e (rmD 7) s m args below meth c H locs 0 0 (MQ below (va_Qi Q (PostG (wsC cy nt ad) D A) A) args s 0 0 A) (F0 m 51 ls []) := by
  unfold vv_X7_carriedTopics_J51 at hd
  obtain ⟨x3_11, ex3_11⟩ : ∃ y : Int32, y = x3 + (1 : Int32) := ⟨_, rfl⟩
  have hd := hd x3_11 ex3_11
  refine lv_iinc (v := x3_11) (lv' := [(3, .int x3_11), (0, .ref (ad 0)), (1, .ref (ad x1)), (2, .int x2)]) K.1 K.2.1 dX7_carriedTopics_51 hl (k := 3) rfl (by rw [ex3_11]; rfl) (by decide) rfl (fun ls hl => ?_)
  refine lv_goto (tgt := 9) K.1 K.2.1 dX7_carriedTopics_54 (by decide) ?_
  exact hrc9 x1 x2 x3_11 g0 _ _ _ hq_x1 hd hw (lv_sub hl [1, 2, 3, 0] rfl)
set_option maxHeartbeats 4000000 in
set_option maxRecDepth 100000 in
theorem bb_X7_carriedTopics_9 {p : Program} {l : Launch} {e : Env} {s : State} {m : MethodId} {args : Array Value} {below : List Frame} {meth : Method} {c : Code} {D : va_G} {cy : Nat → ClassId} {nt : Nat} {ad : Nat → Nat} {A : Nat → Prop} {X : Nat → Nat} {Q : Int32 → Sg → Prop} (K : Kx p s m args meth c cX7_carriedTopics 4 RX7 D cy) (KX : XC X A s s.heap) (hr : meth.sig.returnType = (some .int))  : ∀ (n : Nat) (x1 : Nat) (x2 : Int32) (x3 : Int32)  (g0 : Sg) (H : Heap) (locs : List Loc) (ls : Array Slot), isB x1 → vv_X7_carriedTopics_L9 nt Q n x1 x2 x3 g0 → Wd D A s.heap (wsC cy nt ad g0) H locs → lv_has ls 4 [(0, .ref (ad 0)), (1, .ref (ad x1)), (2, .int x2), (3, .int x3)] → W p l e (rmD 7) s m args below meth c H locs 0 0 (MQ below (va_Qi Q (PostG (wsC cy nt ad) D A) A) args s 0 0 A) (F0 m 9 ls []) := by
  intro n
  induction n with
  | zero => intro _ _ _ _ _ _ _ _ hd; exact hd.elim
  | succ n ih =>
    intro x1 x2 x3 g0 H locs ls hq_x1 hd hw hl
    unfold vv_X7_carriedTopics_L9 at hd
    refine lv_iload_n K.1 K.2.1 dX7_carriedTopics_9 rfl (lv_at hl 3 rfl) ?_
    refine lv_bipush (v := (8 : Int32)) K.1 K.2.1 dX7_carriedTopics_10 (by decide) ?_
    refine lv_icmp_ge (tgt := 57) K.1 K.2.1 dX7_carriedTopics_12 (by decide) (fun h_5 => ?_) (fun h_5 => ?_)
    · have hd := hd.1 h_5
      refine lv_iload_n K.1 K.2.1 dX7_carriedTopics_57 rfl (lv_at hl 2 rfl) ?_
      exact rk_iret K hw hr hd dX7_carriedTopics_58
    · have hd := hd.2 h_5
      refine lv_aload_n K.1 K.2.1 dX7_carriedTopics_15 rfl (lv_at hl 0 rfl) ?_
      refine lv_aload_n K.1 K.2.1 dX7_carriedTopics_16 rfl (lv_at hl 1 rfl) ?_
      refine lv_iload_n K.1 K.2.1 dX7_carriedTopics_17 rfl (lv_at hl 3 rfl) ?_
      refine rkc_vv (As := [.ref (ad x1), .int x3]) (rest := []) K KX hw (cc_X7_divide l D cy nt ad A X g0 _ x1 x3 hd) lk_X7_168 (ci := 7) rfl (wc_O cy nt ad _) ⟨Nat.le_of_ble_eq_true rfl, Nat.le_of_ble_eq_true rfl⟩ ⟨Nat.zero_le _, Nat.zero_le _⟩ rfl hl.1 (Nat.le_of_ble_eq_true rfl) rfl dX7_carriedTopics_18 (fun g_6 H locs hd hw => ?_)
      refine lv_aload_n K.1 K.2.1 dX7_carriedTopics_21 rfl (lv_at hl 0 rfl) ?_
      refine rc_get layX7 (ci := 7) rfl 10 (by decide) (v := .ref (ad 22)) K hw (wc_O cy nt ad _) kf_X7_60 rfl dX7_carriedTopics_22 ?_
      refine rc_get layX4 (ci := 4) rfl 0 (by decide) (v := .int (g_6 22 0)) K hw (wc_Ta cy nt ad _) kf_X7_172 rfl dX7_carriedTopics_25 ?_
      refine lv_aload_n K.1 K.2.1 dX7_carriedTopics_28 rfl (lv_at hl 0 rfl) ?_
      refine rc_get layX7 (ci := 7) rfl 10 (by decide) (v := .ref (ad 22)) K hw (wc_O cy nt ad _) kf_X7_60 rfl dX7_carriedTopics_29 ?_
      refine rc_get layX4 (ci := 4) rfl 1 (by decide) (v := .int (g_6 22 1)) K hw (wc_Ta cy nt ad _) kf_X7_175 rfl dX7_carriedTopics_32 ?_
      refine lv_aload_n K.1 K.2.1 dX7_carriedTopics_35 rfl (lv_at hl 1 rfl) ?_
      refine rc_get layX0 (ci := 0) rfl 3 (by decide) (v := .int (g_6 x1 3)) K hw (wc_B cy nt ad _ hq_x1) kf_X7_103 rfl dX7_carriedTopics_36 ?_
      refine rkc_si (As := [.int (g_6 22 0), .int (g_6 22 1), .int (g_6 x1 3)]) (rest := []) K KX hw (cc_X7_carried l D cy nt ad A X g_6 _ (g_6 22 0) (g_6 22 1) (g_6 x1 3) hd) lk_X7_178 ⟨Nat.le_of_ble_eq_true rfl, Nat.le_of_ble_eq_true rfl⟩ ⟨Nat.zero_le _, Nat.zero_le _⟩ rfl hl.1 (Nat.le_of_ble_eq_true rfl) rfl dX7_carriedTopics_39 (fun r_9 g_8 H locs hd hw => ?_)
      refine lv_if_eq (tgt := 51) K.1 K.2.1 dX7_carriedTopics_42 (by decide) (fun h_10 => ?_) (fun h_10 => ?_)
      · have hd := hd.1 h_10
        exact bb_X7_carriedTopics_51 K KX hr  ih x1 x2 x3 g_8 _ _ _ hq_x1 hd hw (lv_sub hl [0, 1, 2, 3] rfl)
      · have hd := hd.2 h_10
        refine lv_iload_n K.1 K.2.1 dX7_carriedTopics_45 rfl (lv_at hl 2 rfl) ?_
        refine lv_iconst (v := (1 : Int32)) K.1 K.2.1 dX7_carriedTopics_46 (by decide) ?_
        refine lv_iload_n K.1 K.2.1 dX7_carriedTopics_47 rfl (lv_at hl 3 rfl) ?_
        refine lv_ishl K.1 K.2.1 dX7_carriedTopics_48 ?_
        refine lv_ior K.1 K.2.1 dX7_carriedTopics_49 ?_
        refine lv_topi (fun x2_12 ex2_12 => ?_)
        have hd := hd x2_12 ex2_12
        refine lv_istore_n (lv' := [(2, .int x2_12), (0, .ref (ad 0)), (1, .ref (ad x1)), (3, .int x3)]) K.1 K.2.1 dX7_carriedTopics_50 rfl hl (by decide) rfl (fun ls hl => ?_)
        exact bb_X7_carriedTopics_51 K KX hr  ih x1 x2_12 x3 g_8 _ _ _ hq_x1 hd hw (lv_sub hl [1, 2, 0, 3] rfl)
set_option maxHeartbeats 4000000 in
set_option maxRecDepth 100000 in
theorem cc_X7_carriedTopics (l : Launch) (D : va_G) (cy : Nat → ClassId) (nt : Nat) (ad : Nat → Nat) (A : Nat → Prop) (X : Nat → Nat)  (g0 : Sg) (Q : Int32 → Sg → Prop) (x1 : Nat) (hd : vv_X7_carriedTopics nt x1 g0 Q) : Met l yX7_carriedTopics (Cond.code yX7_carriedTopics cX7_carriedTopics 4 (some .int) :: TT) (rmD 7) (va_Pc [.ref (ad 0), .ref (ad x1)] (PreC (wsC cy nt ad) D cy A X g0)) (va_Qi Q (PostG (wsC cy nt ad) D A) A) 0 0 A := by
  unfold vv_X7_carriedTopics at hd
  refine Met.ofW (cc := cX7_carriedTopics) (maxL := 4) (ret := (some .int)) (by decide) rfl ?_
  intro p e s m args below meth c s₁ B hml hv
  obtain ⟨rfl, ⟨hP, hK0, hD⟩, KX⟩ := hv
  have K : Kx p s m _ meth c cX7_carriedTopics 4 RX7 D cy := ⟨B.exec, B.bytes, hml, findClass_of_methodNamed B.named, fun w h => atoms_spec (ws := Cond.code yX7_carriedTopics cX7_carriedTopics 4 (some .int) :: TT) B.pre w (List.mem_cons_of_mem _ h), hK0, B.notSynchronized⟩
  have hw : Wd D A s.heap (wsC cy nt ad g0) s.heap [] := ⟨hP, hD, va_S.rf⟩
  have hr := B.returns
  have hl := lv_entry ([.ref (ad 0), .ref (ad x1)]) (n := 4) (Nat.le_of_ble_eq_true rfl)
  rw [lg_entry_eq]
  generalize (lg_sl ([.ref (ad 0), .ref (ad x1)]) ++ List.replicate (4 - (lg_sl ([.ref (ad 0), .ref (ad x1)])).length) Slot.unset).toArray = ls at hl ⊢
  have hl : lv_has ls 4 [(0, .ref (ad 0)), (1, .ref (ad x1))] := hl
  have hq_x1 := hd.1
  have hd := hd.2
  refine lv_iconst (v := (0 : Int32)) K.1 K.2.1 dX7_carriedTopics_0 (by decide) ?_
  refine lv_topi (fun x2_1 ex2_1 => ?_)
  have hd := hd x2_1 ex2_1
  refine lv_istore_n (lv' := [(2, .int x2_1), (0, .ref (ad 0)), (1, .ref (ad x1))]) K.1 K.2.1 dX7_carriedTopics_1 rfl hl (by decide) rfl (fun ls hl => ?_)
  refine lv_aload_n K.1 K.2.1 dX7_carriedTopics_2 rfl (lv_at hl 1 rfl) ?_
  refine lv_aload_n K.1 K.2.1 dX7_carriedTopics_3 rfl (lv_at hl 2 rfl) ?_
  refine rkc_vv (As := [.ref (ad x1)]) (rest := []) K KX hw (cc_X7_weighAll l D cy nt ad A X g0 _ x1 hd) lk_X7_164 (ci := 7) rfl (wc_O cy nt ad _) ⟨Nat.le_of_ble_eq_true rfl, Nat.le_of_ble_eq_true rfl⟩ ⟨Nat.zero_le _, Nat.zero_le _⟩ rfl hl.1 (Nat.le_of_ble_eq_true rfl) rfl dX7_carriedTopics_4 (fun g_2 H locs hd hw => ?_)
  refine lv_iconst (v := (0 : Int32)) K.1 K.2.1 dX7_carriedTopics_7 (by decide) ?_
  refine lv_topi (fun x3_4 ex3_4 => ?_)
  have hd := hd x3_4 ex3_4
  refine lv_istore_n (lv' := [(3, .int x3_4), (2, .int x2_1), (0, .ref (ad 0)), (1, .ref (ad x1))]) K.1 K.2.1 dX7_carriedTopics_8 rfl hl (by decide) rfl (fun ls hl => ?_)
  obtain ⟨n9, hd⟩ := hd
  exact bb_X7_carriedTopics_9 K KX hr   n9 x1 x2_1 x3_4 g_2 _ _ _ hq_x1 hd hw (lv_sub hl [2, 3, 1, 0] rfl)
theorem dX7_topics_0 : decode cX7_topics 0 = .ok (.iload_n 1, 1) := by decide +kernel
theorem dX7_topics_1 : decode cX7_topics 1 = .ok (.ifCond .lt 8, 3) := by decide +kernel
theorem dX7_topics_4 : decode cX7_topics 4 = .ok (.iload_n 1, 1) := by decide +kernel
theorem dX7_topics_5 : decode cX7_topics 5 = .ok (.iconst 2, 1) := by decide +kernel
theorem dX7_topics_6 : decode cX7_topics 6 = .ok (.if_icmp .le 6, 3) := by decide +kernel
theorem dX7_topics_9 : decode cX7_topics 9 = .ok (.bipush (-2), 2) := by decide +kernel
theorem dX7_topics_11 : decode cX7_topics 11 = .ok (.ireturn, 1) := by decide +kernel
theorem dX7_topics_12 : decode cX7_topics 12 = .ok (.iload_n 1, 1) := by decide +kernel
theorem dX7_topics_13 : decode cX7_topics 13 = .ok (.ifCond .ne 12, 3) := by decide +kernel
theorem dX7_topics_16 : decode cX7_topics 16 = .ok (.aload_n 0, 1) := by decide +kernel
theorem dX7_topics_17 : decode cX7_topics 17 = .ok (.aload_n 0, 1) := by decide +kernel
theorem dX7_topics_18 : decode cX7_topics 18 = .ok (.getfield 10, 3) := by decide +kernel
theorem dX7_topics_21 : decode cX7_topics 21 = .ok (.invokevirtual 189, 3) := by decide +kernel
theorem dX7_topics_24 : decode cX7_topics 24 = .ok (.ireturn, 1) := by decide +kernel
theorem dX7_topics_25 : decode cX7_topics 25 = .ok (.iconst 0, 1) := by decide +kernel
theorem dX7_topics_26 : decode cX7_topics 26 = .ok (.istore_n 2, 1) := by decide +kernel
theorem dX7_topics_27 : decode cX7_topics 27 = .ok (.iconst (-1), 1) := by decide +kernel
theorem dX7_topics_28 : decode cX7_topics 28 = .ok (.istore_n 3, 1) := by decide +kernel
theorem dX7_topics_29 : decode cX7_topics 29 = .ok (.aload_n 0, 1) := by decide +kernel
theorem dX7_topics_30 : decode cX7_topics 30 = .ok (.aload_n 0, 1) := by decide +kernel
theorem dX7_topics_31 : decode cX7_topics 31 = .ok (.getfield 10, 3) := by decide +kernel
theorem dX7_topics_34 : decode cX7_topics 34 = .ok (.invokevirtual 164, 3) := by decide +kernel
theorem dX7_topics_37 : decode cX7_topics 37 = .ok (.iconst 0, 1) := by decide +kernel
theorem dX7_topics_38 : decode cX7_topics 38 = .ok (.istore 4, 2) := by decide +kernel
theorem dX7_topics_40 : decode cX7_topics 40 = .ok (.iload 4, 2) := by decide +kernel
theorem dX7_topics_42 : decode cX7_topics 42 = .ok (.bipush 8, 2) := by decide +kernel
theorem dX7_topics_44 : decode cX7_topics 44 = .ok (.if_icmp .ge 51, 3) := by decide +kernel
theorem dX7_topics_47 : decode cX7_topics 47 = .ok (.aload_n 0, 1) := by decide +kernel
theorem dX7_topics_48 : decode cX7_topics 48 = .ok (.aload_n 0, 1) := by decide +kernel
theorem dX7_topics_49 : decode cX7_topics 49 = .ok (.getfield 10, 3) := by decide +kernel
theorem dX7_topics_52 : decode cX7_topics 52 = .ok (.iload 4, 2) := by decide +kernel
theorem dX7_topics_54 : decode cX7_topics 54 = .ok (.invokevirtual 168, 3) := by decide +kernel
theorem dX7_topics_57 : decode cX7_topics 57 = .ok (.aload_n 0, 1) := by decide +kernel
theorem dX7_topics_58 : decode cX7_topics 58 = .ok (.getfield 60, 3) := by decide +kernel
theorem dX7_topics_61 : decode cX7_topics 61 = .ok (.getfield 172, 3) := by decide +kernel
theorem dX7_topics_64 : decode cX7_topics 64 = .ok (.aload_n 0, 1) := by decide +kernel
theorem dX7_topics_65 : decode cX7_topics 65 = .ok (.getfield 60, 3) := by decide +kernel
theorem dX7_topics_68 : decode cX7_topics 68 = .ok (.getfield 175, 3) := by decide +kernel
theorem dX7_topics_71 : decode cX7_topics 71 = .ok (.isub, 1) := by decide +kernel
theorem dX7_topics_72 : decode cX7_topics 72 = .ok (.invokestatic 193, 3) := by decide +kernel
theorem dX7_topics_75 : decode cX7_topics 75 = .ok (.istore 5, 2) := by decide +kernel
theorem dX7_topics_77 : decode cX7_topics 77 = .ok (.iload 5, 2) := by decide +kernel
theorem dX7_topics_79 : decode cX7_topics 79 = .ok (.iload_n 3, 1) := by decide +kernel
theorem dX7_topics_80 : decode cX7_topics 80 = .ok (.if_icmp .le 9, 3) := by decide +kernel
theorem dX7_topics_83 : decode cX7_topics 83 = .ok (.iload 5, 2) := by decide +kernel
theorem dX7_topics_85 : decode cX7_topics 85 = .ok (.istore_n 3, 1) := by decide +kernel
theorem dX7_topics_86 : decode cX7_topics 86 = .ok (.iload 4, 2) := by decide +kernel
theorem dX7_topics_88 : decode cX7_topics 88 = .ok (.istore_n 2, 1) := by decide +kernel
theorem dX7_topics_89 : decode cX7_topics 89 = .ok (.iinc 4 1, 3) := by decide +kernel
theorem dX7_topics_92 : decode cX7_topics 92 = .ok (.goto (-52), 3) := by decide +kernel
theorem dX7_topics_95 : decode cX7_topics 95 = .ok (.iload_n 1, 1) := by decide +kernel
theorem dX7_topics_96 : decode cX7_topics 96 = .ok (.iconst 1, 1) := by decide +kernel
theorem dX7_topics_97 : decode cX7_topics 97 = .ok (.if_icmp .ne 7, 3) := by decide +kernel
theorem dX7_topics_100 : decode cX7_topics 100 = .ok (.iload_n 2, 1) := by decide +kernel
theorem dX7_topics_101 : decode cX7_topics 101 = .ok (.goto 4, 3) := by decide +kernel
theorem dX7_topics_104 : decode cX7_topics 104 = .ok (.iload_n 3, 1) := by decide +kernel
theorem dX7_topics_105 : decode cX7_topics 105 = .ok (.ireturn, 1) := by decide +kernel
set_option maxHeartbeats 4000000 in
set_option maxRecDepth 100000 in
theorem bb_X7_topics_89 {p : Program} {l : Launch} {e : Env} {s : State} {m : MethodId} {args : Array Value} {below : List Frame} {meth : Method} {c : Code} {D : va_G} {cy : Nat → ClassId} {nt : Nat} {ad : Nat → Nat} {A : Nat → Prop} {X : Nat → Nat} {Q : Int32 → Sg → Prop} (K : Kx p s m args meth c cX7_topics 6 RX7 D cy) (KX : XC X A s s.heap) (hr : meth.sig.returnType = (some .int))  {rc40 : Int32 → Int32 → Int32 → Int32 → Sg → Prop} (hrc40 : ∀ (x1 : Int32) (x2 : Int32) (x3 : Int32) (x4 : Int32) (u : Sg) (H : Heap) (locs : List Loc) (ls : Array Slot), rc40 x1 x2 x3 x4 u → Wd D A s.heap (wsC cy nt ad u) H locs → lv_has ls 6 [(0, .ref (ad 0)), (1, .int x1), (2, .int x2), (3, .int x3), (4, .int x4)] → W p l e (rmD 8) s m args below meth c H locs 0 0 (MQ below (va_Qi Q (PostG (wsC cy nt ad) D A) A) args s 0 0 A) (F0 m 40 ls [])) (x1 : Int32) (x2 : Int32) (x3 : Int32) (x4 : Int32)  (g0 : Sg) (H : Heap) (locs : List Loc) (ls : Array Slot) (hd : vv_X7_topics_J89 nt rc40 x1 x2 x3 x4 g0 Q) (hw : Wd D A s.heap (wsC cy nt ad g0) H locs) (hl : lv_has ls 6 [(0, .ref (ad 0)), (1, .int x1), (2, .int x2), (3, .int x3), (4, .int x4)]) : W p l e (rmD 8) s m args below meth c H locs 0 0 (MQ below (va_Qi Q (PostG (wsC cy nt ad) D A) A) args s 0 0 A) (F0 m 89 ls []) := by
  unfold vv_X7_topics_J89 at hd
  obtain ⟨x4_15, ex4_15⟩ : ∃ y : Int32, y = x4 + (1 : Int32) := ⟨_, rfl⟩
  have hd := hd x4_15 ex4_15
  refine lv_iinc (v := x4_15) (lv' := [(4, .int x4_15), (0, .ref (ad 0)), (1, .int x1), (2, .int x2), (3, .int x3)]) K.1 K.2.1 dX7_topics_89 hl (k := 4) rfl (by rw [ex4_15]; rfl) (by decide) rfl (fun ls hl => ?_)
  refine lv_goto (tgt := 40) K.1 K.2.1 dX7_topics_92 (by decide) ?_
  exact hrc40 x1 x2 x3 x4_15 g0 _ _ _  hd hw (lv_sub hl [1, 2, 3, 4, 0] rfl)
set_option maxHeartbeats 4000000 in
set_option maxRecDepth 100000 in
theorem bb_X7_topics_40 {p : Program} {l : Launch} {e : Env} {s : State} {m : MethodId} {args : Array Value} {below : List Frame} {meth : Method} {c : Code} {D : va_G} {cy : Nat → ClassId} {nt : Nat} {ad : Nat → Nat} {A : Nat → Prop} {X : Nat → Nat} {Q : Int32 → Sg → Prop} (K : Kx p s m args meth c cX7_topics 6 RX7 D cy) (KX : XC X A s s.heap) (hr : meth.sig.returnType = (some .int))  : ∀ (n : Nat) (x1 : Int32) (x2 : Int32) (x3 : Int32) (x4 : Int32)  (g0 : Sg) (H : Heap) (locs : List Loc) (ls : Array Slot), vv_X7_topics_L40 nt Q n x1 x2 x3 x4 g0 → Wd D A s.heap (wsC cy nt ad g0) H locs → lv_has ls 6 [(0, .ref (ad 0)), (1, .int x1), (2, .int x2), (3, .int x3), (4, .int x4)] → W p l e (rmD 8) s m args below meth c H locs 0 0 (MQ below (va_Qi Q (PostG (wsC cy nt ad) D A) A) args s 0 0 A) (F0 m 40 ls []) := by
  intro n
  induction n with
  | zero => intro _ _ _ _ _ _ _ _ hd; exact hd.elim
  | succ n ih =>
    intro x1 x2 x3 x4 g0 H locs ls  hd hw hl
    unfold vv_X7_topics_L40 at hd
    refine lv_iload K.1 K.2.1 dX7_topics_40 (lv_at hl 4 rfl) ?_
    refine lv_bipush (v := (8 : Int32)) K.1 K.2.1 dX7_topics_42 (by decide) ?_
    refine lv_icmp_ge (tgt := 95) K.1 K.2.1 dX7_topics_44 (by decide) (fun h_9 => ?_) (fun h_9 => ?_)
    · have hd := hd.1 h_9
      refine lv_iload_n K.1 K.2.1 dX7_topics_95 rfl (lv_at hl 1 rfl) ?_
      refine lv_iconst (v := (1 : Int32)) K.1 K.2.1 dX7_topics_96 (by decide) ?_
      refine lv_icmp_ne (tgt := 104) K.1 K.2.1 dX7_topics_97 (by decide) (fun h_10 => ?_) (fun h_10 => ?_)
      · have hd := hd.1 h_10
        refine lv_iload_n K.1 K.2.1 dX7_topics_104 rfl (lv_at hl 3 rfl) ?_
        exact rk_iret K hw hr hd dX7_topics_105
      · have hd := hd.2 h_10
        refine lv_iload_n K.1 K.2.1 dX7_topics_100 rfl (lv_at hl 2 rfl) ?_
        refine lv_goto (tgt := 105) K.1 K.2.1 dX7_topics_101 (by decide) ?_
        exact rk_iret K hw hr hd dX7_topics_105
    · have hd := hd.2 h_9
      refine lv_aload_n K.1 K.2.1 dX7_topics_47 rfl (lv_at hl 0 rfl) ?_
      refine lv_aload_n K.1 K.2.1 dX7_topics_48 rfl (lv_at hl 0 rfl) ?_
      refine rc_get layX7 (ci := 7) rfl 0 (by decide) (v := .ref (ad 1)) K hw (wc_O cy nt ad _) kf_X7_10 rfl dX7_topics_49 ?_
      refine lv_iload K.1 K.2.1 dX7_topics_52 (lv_at hl 4 rfl) ?_
      refine rkc_vv (As := [.ref (ad 1), .int x4]) (rest := []) K KX hw (cc_X7_divide l D cy nt ad A X g0 _ 1 x4 hd) lk_X7_168 (ci := 7) rfl (wc_O cy nt ad _) ⟨Nat.le_of_ble_eq_true rfl, Nat.le_of_ble_eq_true rfl⟩ ⟨Nat.zero_le _, Nat.zero_le _⟩ rfl hl.1 (Nat.le_of_ble_eq_true rfl) rfl dX7_topics_54 (fun g_11 H locs hd hw => ?_)
      refine lv_aload_n K.1 K.2.1 dX7_topics_57 rfl (lv_at hl 0 rfl) ?_
      refine rc_get layX7 (ci := 7) rfl 10 (by decide) (v := .ref (ad 22)) K hw (wc_O cy nt ad _) kf_X7_60 rfl dX7_topics_58 ?_
      refine rc_get layX4 (ci := 4) rfl 0 (by decide) (v := .int (g_11 22 0)) K hw (wc_Ta cy nt ad _) kf_X7_172 rfl dX7_topics_61 ?_
      refine lv_aload_n K.1 K.2.1 dX7_topics_64 rfl (lv_at hl 0 rfl) ?_
      refine rc_get layX7 (ci := 7) rfl 10 (by decide) (v := .ref (ad 22)) K hw (wc_O cy nt ad _) kf_X7_60 rfl dX7_topics_65 ?_
      refine rc_get layX4 (ci := 4) rfl 1 (by decide) (v := .int (g_11 22 1)) K hw (wc_Ta cy nt ad _) kf_X7_175 rfl dX7_topics_68 ?_
      refine lv_isub K.1 K.2.1 dX7_topics_71 ?_
      refine va_mabs K.1 K.2.1 (K.2.2.1.trans hl.1.symm) K.2.2.2.1 (K.2.2.2.2.1 _ lkm_X7_193.1) (K.2.2.2.2.1 _ lkm_X7_193.2.1) (K.2.2.2.2.1 _ lkm_X7_193.2.2.1) (K.2.2.2.2.1 _ lkm_X7_193.2.2.2) (Nat.le_of_ble_eq_true rfl) (Nat.le_of_ble_eq_true rfl) (Nat.zero_le _) (Nat.zero_le _) dX7_topics_72 ?_
      refine lv_topi (fun x5_13 ex5_13 => ?_)
      have hd := hd x5_13 ex5_13
      refine lv_istore (lv' := [(5, .int x5_13), (0, .ref (ad 0)), (1, .int x1), (2, .int x2), (3, .int x3), (4, .int x4)]) K.1 K.2.1 dX7_topics_75 hl (by decide) rfl (fun ls hl => ?_)
      refine lv_iload K.1 K.2.1 dX7_topics_77 (lv_at hl 0 rfl) ?_
      refine lv_iload_n K.1 K.2.1 dX7_topics_79 rfl (lv_at hl 4 rfl) ?_
      refine lv_icmp_le (tgt := 89) K.1 K.2.1 dX7_topics_80 (by decide) (fun h_14 => ?_) (fun h_14 => ?_)
      · have hd := hd.1 h_14
        exact bb_X7_topics_89 K KX hr  ih x1 x2 x3 x4 g_11 _ _ _  hd hw (lv_sub hl [1, 2, 3, 4, 5] rfl)
      · have hd := hd.2 h_14
        refine lv_iload K.1 K.2.1 dX7_topics_83 (lv_at hl 0 rfl) ?_
        refine lv_topi (fun x3_16 ex3_16 => ?_)
        have hd := hd x3_16 ex3_16
        refine lv_istore_n (lv' := [(3, .int x3_16), (5, .int x5_13), (0, .ref (ad 0)), (1, .int x1), (2, .int x2), (4, .int x4)]) K.1 K.2.1 dX7_topics_85 rfl hl (by decide) rfl (fun ls hl => ?_)
        refine lv_iload K.1 K.2.1 dX7_topics_86 (lv_at hl 5 rfl) ?_
        refine lv_topi (fun x2_17 ex2_17 => ?_)
        have hd := hd x2_17 ex2_17
        refine lv_istore_n (lv' := [(2, .int x2_17), (3, .int x3_16), (5, .int x5_13), (0, .ref (ad 0)), (1, .int x1), (4, .int x4)]) K.1 K.2.1 dX7_topics_88 rfl hl (by decide) rfl (fun ls hl => ?_)
        exact bb_X7_topics_89 K KX hr  ih x1 x2_17 x3_16 x4 g_11 _ _ _  hd hw (lv_sub hl [3, 4, 0, 1, 5] rfl)
set_option maxHeartbeats 4000000 in
set_option maxRecDepth 100000 in
theorem cc_X7_topics (l : Launch) (D : va_G) (cy : Nat → ClassId) (nt : Nat) (ad : Nat → Nat) (A : Nat → Prop) (X : Nat → Nat)  (g0 : Sg) (Q : Int32 → Sg → Prop) (x1 : Int32) (hd : vv_X7_topics nt x1 g0 Q) : Met l yX7_topics (Cond.code yX7_topics cX7_topics 6 (some .int) :: TT) (rmD 8) (va_Pc [.ref (ad 0), .int x1] (PreC (wsC cy nt ad) D cy A X g0)) (va_Qi Q (PostG (wsC cy nt ad) D A) A) 0 0 A := by
  unfold vv_X7_topics at hd
  refine Met.ofW (cc := cX7_topics) (maxL := 6) (ret := (some .int)) (by decide) rfl ?_
  intro p e s m args below meth c s₁ B hml hv
  obtain ⟨rfl, ⟨hP, hK0, hD⟩, KX⟩ := hv
  have K : Kx p s m _ meth c cX7_topics 6 RX7 D cy := ⟨B.exec, B.bytes, hml, findClass_of_methodNamed B.named, fun w h => atoms_spec (ws := Cond.code yX7_topics cX7_topics 6 (some .int) :: TT) B.pre w (List.mem_cons_of_mem _ h), hK0, B.notSynchronized⟩
  have hw : Wd D A s.heap (wsC cy nt ad g0) s.heap [] := ⟨hP, hD, va_S.rf⟩
  have hr := B.returns
  have hl := lv_entry ([.ref (ad 0), .int x1]) (n := 6) (Nat.le_of_ble_eq_true rfl)
  rw [lg_entry_eq]
  generalize (lg_sl ([.ref (ad 0), .int x1]) ++ List.replicate (6 - (lg_sl ([.ref (ad 0), .int x1])).length) Slot.unset).toArray = ls at hl ⊢
  have hl : lv_has ls 6 [(0, .ref (ad 0)), (1, .int x1)] := hl
  refine lv_iload_n K.1 K.2.1 dX7_topics_0 rfl (lv_at hl 1 rfl) ?_
  refine lv_if_lt (tgt := 9) K.1 K.2.1 dX7_topics_1 (by decide) (fun h_1 => ?_) (fun h_1 => ?_)
  · have hd := hd.1 h_1
    refine lv_bipush (v := (-2 : Int32)) K.1 K.2.1 dX7_topics_9 (by decide) ?_
    exact rk_iret K hw hr hd dX7_topics_11
  · have hd := hd.2 h_1
    refine lv_iload_n K.1 K.2.1 dX7_topics_4 rfl (lv_at hl 1 rfl) ?_
    refine lv_iconst (v := (2 : Int32)) K.1 K.2.1 dX7_topics_5 (by decide) ?_
    refine lv_icmp_le (tgt := 12) K.1 K.2.1 dX7_topics_6 (by decide) (fun h_2 => ?_) (fun h_2 => ?_)
    · have hd := hd.1 h_2
      refine lv_iload_n K.1 K.2.1 dX7_topics_12 rfl (lv_at hl 1 rfl) ?_
      refine lv_if_ne (tgt := 25) K.1 K.2.1 dX7_topics_13 (by decide) (fun h_3 => ?_) (fun h_3 => ?_)
      · have hd := hd.1 h_3
        refine lv_iconst (v := (0 : Int32)) K.1 K.2.1 dX7_topics_25 (by decide) ?_
        refine lv_topi (fun x2_4 ex2_4 => ?_)
        have hd := hd x2_4 ex2_4
        refine lv_istore_n (lv' := [(2, .int x2_4), (0, .ref (ad 0)), (1, .int x1)]) K.1 K.2.1 dX7_topics_26 rfl hl (by decide) rfl (fun ls hl => ?_)
        refine lv_iconst (v := (-1 : Int32)) K.1 K.2.1 dX7_topics_27 (by decide) ?_
        refine lv_topi (fun x3_5 ex3_5 => ?_)
        have hd := hd x3_5 ex3_5
        refine lv_istore_n (lv' := [(3, .int x3_5), (2, .int x2_4), (0, .ref (ad 0)), (1, .int x1)]) K.1 K.2.1 dX7_topics_28 rfl hl (by decide) rfl (fun ls hl => ?_)
        refine lv_aload_n K.1 K.2.1 dX7_topics_29 rfl (lv_at hl 2 rfl) ?_
        refine lv_aload_n K.1 K.2.1 dX7_topics_30 rfl (lv_at hl 2 rfl) ?_
        refine rc_get layX7 (ci := 7) rfl 0 (by decide) (v := .ref (ad 1)) K hw (wc_O cy nt ad _) kf_X7_10 rfl dX7_topics_31 ?_
        refine rkc_vv (As := [.ref (ad 1)]) (rest := []) K KX hw (cc_X7_weighAll l D cy nt ad A X g0 _ 1 hd) lk_X7_164 (ci := 7) rfl (wc_O cy nt ad _) ⟨Nat.le_of_ble_eq_true rfl, Nat.le_of_ble_eq_true rfl⟩ ⟨Nat.zero_le _, Nat.zero_le _⟩ rfl hl.1 (Nat.le_of_ble_eq_true rfl) rfl dX7_topics_34 (fun g_6 H locs hd hw => ?_)
        refine lv_iconst (v := (0 : Int32)) K.1 K.2.1 dX7_topics_37 (by decide) ?_
        refine lv_topi (fun x4_8 ex4_8 => ?_)
        have hd := hd x4_8 ex4_8
        refine lv_istore (lv' := [(4, .int x4_8), (3, .int x3_5), (2, .int x2_4), (0, .ref (ad 0)), (1, .int x1)]) K.1 K.2.1 dX7_topics_38 hl (by decide) rfl (fun ls hl => ?_)
        obtain ⟨n9, hd⟩ := hd
        exact bb_X7_topics_40 K KX hr   n9 x1 x2_4 x3_5 x4_8 g_6 _ _ _  hd hw (lv_sub hl [3, 4, 2, 1, 0] rfl)
      · have hd := hd.2 h_3
        refine lv_aload_n K.1 K.2.1 dX7_topics_16 rfl (lv_at hl 0 rfl) ?_
        refine lv_aload_n K.1 K.2.1 dX7_topics_17 rfl (lv_at hl 0 rfl) ?_
        refine rc_get layX7 (ci := 7) rfl 0 (by decide) (v := .ref (ad 1)) K hw (wc_O cy nt ad _) kf_X7_10 rfl dX7_topics_18 ?_
        refine rkc_vi (As := [.ref (ad 1)]) (rest := []) K KX hw (cc_X7_carriedTopics l D cy nt ad A X g0 _ 1 hd) lk_X7_189 (ci := 7) rfl (wc_O cy nt ad _) ⟨Nat.le_of_ble_eq_true rfl, Nat.le_of_ble_eq_true rfl⟩ ⟨Nat.zero_le _, Nat.zero_le _⟩ rfl hl.1 (Nat.le_of_ble_eq_true rfl) rfl dX7_topics_21 (fun r_19 g_18 H locs hd hw => ?_)
        exact rk_iret K hw hr hd dX7_topics_24
    · have hd := hd.2 h_2
      refine lv_bipush (v := (-2 : Int32)) K.1 K.2.1 dX7_topics_9 (by decide) ?_
      exact rk_iret K hw hr hd dX7_topics_11
theorem dX7_passDay_0 : decode cX7_passDay 0 = .ok (.iconst 0, 1) := by decide +kernel
theorem dX7_passDay_1 : decode cX7_passDay 1 = .ok (.istore_n 2, 1) := by decide +kernel
theorem dX7_passDay_2 : decode cX7_passDay 2 = .ok (.iload_n 2, 1) := by decide +kernel
theorem dX7_passDay_3 : decode cX7_passDay 3 = .ok (.aload_n 1, 1) := by decide +kernel
theorem dX7_passDay_4 : decode cX7_passDay 4 = .ok (.getfield 117, 3) := by decide +kernel
theorem dX7_passDay_7 : decode cX7_passDay 7 = .ok (.if_icmp .ge 42, 3) := by decide +kernel
theorem dX7_passDay_10 : decode cX7_passDay 10 = .ok (.aload_n 1, 1) := by decide +kernel
theorem dX7_passDay_11 : decode cX7_passDay 11 = .ok (.getfield 106, 3) := by decide +kernel
theorem dX7_passDay_14 : decode cX7_passDay 14 = .ok (.iload_n 2, 1) := by decide +kernel
theorem dX7_passDay_15 : decode cX7_passDay 15 = .ok (.aaload, 1) := by decide +kernel
theorem dX7_passDay_16 : decode cX7_passDay 16 = .ok (.astore_n 3, 1) := by decide +kernel
theorem dX7_passDay_17 : decode cX7_passDay 17 = .ok (.aload_n 3, 1) := by decide +kernel
theorem dX7_passDay_18 : decode cX7_passDay 18 = .ok (.getfield 151, 3) := by decide +kernel
theorem dX7_passDay_21 : decode cX7_passDay 21 = .ok (.ifCond .ne 22, 3) := by decide +kernel
theorem dX7_passDay_24 : decode cX7_passDay 24 = .ok (.aload_n 3, 1) := by decide +kernel
theorem dX7_passDay_25 : decode cX7_passDay 25 = .ok (.iconst 0, 1) := by decide +kernel
theorem dX7_passDay_26 : decode cX7_passDay 26 = .ok (.aload_n 3, 1) := by decide +kernel
theorem dX7_passDay_27 : decode cX7_passDay 27 = .ok (.getfield 201, 3) := by decide +kernel
theorem dX7_passDay_30 : decode cX7_passDay 30 = .ok (.aload_n 0, 1) := by decide +kernel
theorem dX7_passDay_31 : decode cX7_passDay 31 = .ok (.aload_n 1, 1) := by decide +kernel
theorem dX7_passDay_32 : decode cX7_passDay 32 = .ok (.aload_n 3, 1) := by decide +kernel
theorem dX7_passDay_33 : decode cX7_passDay 33 = .ok (.invokevirtual 130, 3) := by decide +kernel
theorem dX7_passDay_36 : decode cX7_passDay 36 = .ok (.isub, 1) := by decide +kernel
theorem dX7_passDay_37 : decode cX7_passDay 37 = .ok (.invokestatic 319, 3) := by decide +kernel
theorem dX7_passDay_40 : decode cX7_passDay 40 = .ok (.putfield 201, 3) := by decide +kernel
theorem dX7_passDay_43 : decode cX7_passDay 43 = .ok (.iinc 2 1, 3) := by decide +kernel
theorem dX7_passDay_46 : decode cX7_passDay 46 = .ok (.goto (-44), 3) := by decide +kernel
theorem dX7_passDay_49 : decode cX7_passDay 49 = .ok (.aload_n 1, 1) := by decide +kernel
theorem dX7_passDay_50 : decode cX7_passDay 50 = .ok (.dup, 1) := by decide +kernel
theorem dX7_passDay_51 : decode cX7_passDay 51 = .ok (.getfield 100, 3) := by decide +kernel
theorem dX7_passDay_54 : decode cX7_passDay 54 = .ok (.iconst 1, 1) := by decide +kernel
theorem dX7_passDay_55 : decode cX7_passDay 55 = .ok (.iadd, 1) := by decide +kernel
theorem dX7_passDay_56 : decode cX7_passDay 56 = .ok (.putfield 100, 3) := by decide +kernel
theorem dX7_passDay_59 : decode cX7_passDay 59 = .ok (.return_, 1) := by decide +kernel
set_option maxHeartbeats 4000000 in
set_option maxRecDepth 100000 in
theorem bb_X7_passDay_43 {p : Program} {l : Launch} {e : Env} {s : State} {m : MethodId} {args : Array Value} {below : List Frame} {meth : Method} {c : Code} {D : va_G} {cy : Nat → ClassId} {nt : Nat} {ad : Nat → Nat} {A : Nat → Prop} {X : Nat → Nat} {Q : Sg → Prop} (K : Kx p s m args meth c cX7_passDay 4 RX7 D cy) (KX : XC X A s s.heap) (hr : meth.sig.returnType = none)  {rc2 : Nat → Int32 → Sg → Prop} (hrc2 : ∀ (x1 : Nat) (x2 : Int32) (u : Sg) (H : Heap) (locs : List Loc) (ls : Array Slot), isB x1 → rc2 x1 x2 u → Wd D A s.heap (wsC cy nt ad u) H locs → lv_has ls 4 [(0, .ref (ad 0)), (1, .ref (ad x1)), (2, .int x2)] → W p l e (rmD 4) s m args below meth c H locs 0 0 (MQ below (va_Qv Q (PostG (wsC cy nt ad) D A) A) args s 0 0 A) (F0 m 2 ls [])) (x1 : Nat) (x2 : Int32)  (g0 : Sg) (H : Heap) (locs : List Loc) (ls : Array Slot) (hq_x1 : isB x1) (hd : vv_X7_passDay_J43 nt rc2 x1 x2 g0 Q) (hw : Wd D A s.heap (wsC cy nt ad g0) H locs) (hl : lv_has ls 4 [(0, .ref (ad 0)), (1, .ref (ad x1)), (2, .int x2)]) : W p l e (rmD 4) s m args below meth c H locs 0 0 (MQ below (va_Qv Q (PostG (wsC cy nt ad) D A) A) args s 0 0 A) (F0 m 43 ls []) := by
  unfold vv_X7_passDay_J43 at hd
  obtain ⟨x2_6, ex2_6⟩ : ∃ y : Int32, y = x2 + (1 : Int32) := ⟨_, rfl⟩
  have hd := hd x2_6 ex2_6
  refine lv_iinc (v := x2_6) (lv' := [(2, .int x2_6), (0, .ref (ad 0)), (1, .ref (ad x1))]) K.1 K.2.1 dX7_passDay_43 hl (k := 2) rfl (by rw [ex2_6]; rfl) (by decide) rfl (fun ls hl => ?_)
  refine lv_goto (tgt := 2) K.1 K.2.1 dX7_passDay_46 (by decide) ?_
  exact hrc2 x1 x2_6 g0 _ _ _ hq_x1 hd hw (lv_sub hl [1, 2, 0] rfl)
set_option maxHeartbeats 4000000 in
set_option maxRecDepth 100000 in
theorem bb_X7_passDay_2 {p : Program} {l : Launch} {e : Env} {s : State} {m : MethodId} {args : Array Value} {below : List Frame} {meth : Method} {c : Code} {D : va_G} {cy : Nat → ClassId} {nt : Nat} {ad : Nat → Nat} {A : Nat → Prop} {X : Nat → Nat} {Q : Sg → Prop} (K : Kx p s m args meth c cX7_passDay 4 RX7 D cy) (KX : XC X A s s.heap) (hr : meth.sig.returnType = none)  : ∀ (n : Nat) (x1 : Nat) (x2 : Int32)  (g0 : Sg) (H : Heap) (locs : List Loc) (ls : Array Slot), isB x1 → vv_X7_passDay_L2 nt Q n x1 x2 g0 → Wd D A s.heap (wsC cy nt ad g0) H locs → lv_has ls 4 [(0, .ref (ad 0)), (1, .ref (ad x1)), (2, .int x2)] → W p l e (rmD 4) s m args below meth c H locs 0 0 (MQ below (va_Qv Q (PostG (wsC cy nt ad) D A) A) args s 0 0 A) (F0 m 2 ls []) := by
  intro n
  induction n with
  | zero => intro _ _ _ _ _ _ _ hd; exact hd.elim
  | succ n ih =>
    intro x1 x2 g0 H locs ls hq_x1 hd hw hl
    unfold vv_X7_passDay_L2 at hd
    refine lv_iload_n K.1 K.2.1 dX7_passDay_2 rfl (lv_at hl 2 rfl) ?_
    refine lv_aload_n K.1 K.2.1 dX7_passDay_3 rfl (lv_at hl 1 rfl) ?_
    refine rc_get layX0 (ci := 0) rfl 2 (by decide) (v := .int (g0 x1 2)) K hw (wc_B cy nt ad _ hq_x1) kf_X7_117 rfl dX7_passDay_4 ?_
    refine lv_icmp_ge (tgt := 49) K.1 K.2.1 dX7_passDay_7 (by decide) (fun h_2 => ?_) (fun h_2 => ?_)
    · have hd := hd.1 h_2
      refine lv_aload_n K.1 K.2.1 dX7_passDay_49 rfl (lv_at hl 1 rfl) ?_
      refine lv_dup K.1 K.2.1 dX7_passDay_50 rfl ?_
      refine rc_get layX0 (ci := 0) rfl 0 (by decide) (v := .int (g0 x1 0)) K hw (wc_B cy nt ad _ hq_x1) kf_X7_100 rfl dX7_passDay_51 ?_
      refine lv_iconst (v := (1 : Int32)) K.1 K.2.1 dX7_passDay_54 (by decide) ?_
      refine lv_iadd K.1 K.2.1 dX7_passDay_55 ?_
      refine rc_put layX0 (ci := 0) rfl tyX0_ok nmX0 0 (by decide) K hw (wc_B cy nt ad _ hq_x1) kf_X7_100 rfl rfl rfl rfl (Nat.le_of_ble_eq_true rfl) (wp_B_0 cy nt ad _ _ hq_x1) dX7_passDay_56 (fun g_3 eg_3 H locs hw => ?_)
      have hd := hd g_3 eg_3
      exact rk_vret K hw hr hd dX7_passDay_59
    · have hd := hd.2 h_2
      refine lv_aload_n K.1 K.2.1 dX7_passDay_10 rfl (lv_at hl 1 rfl) ?_
      refine rc_get layX0 (ci := 0) rfl 4 (by decide) (v := .ref (ad (x1 + 3))) K hw (wc_B cy nt ad _ hq_x1) kf_X7_106 rfl dX7_passDay_11 ?_
      refine lv_iload_n K.1 K.2.1 dX7_passDay_14 rfl (lv_at hl 2 rfl) ?_
      have hb_4 := hd.1
      have hd := hd.2
      refine rc_aald (t0 := 2) (b := ad (pp (x1 + 3) x2)) K hw (wc_R cy nt ad _ (tB_R hq_x1)) rfl rfl hb_4 dX7_passDay_15 ?_
      refine lv_astore_n (lv' := [(3, .ref (ad (pp (x1 + 3) x2))), (0, .ref (ad 0)), (1, .ref (ad x1)), (2, .int x2)]) K.1 K.2.1 dX7_passDay_16 rfl hl (by decide) rfl (fun ls hl => ?_)
      refine lv_aload_n K.1 K.2.1 dX7_passDay_17 rfl (lv_at hl 0 rfl) ?_
      refine rc_get layX1 (ci := 1) rfl 5 (by decide) (v := .int (g0 (pp (x1 + 3) x2) 5)) K hw (wc_P cy nt ad _ (tR_P (tB_R hq_x1) hb_4)) kf_X7_151 rfl dX7_passDay_18 ?_
      refine lv_if_ne (tgt := 43) K.1 K.2.1 dX7_passDay_21 (by decide) (fun h_5 => ?_) (fun h_5 => ?_)
      · have hd := hd.1 h_5
        exact bb_X7_passDay_43 K KX hr  ih x1 x2 g0 _ _ _ hq_x1 hd hw (lv_sub hl [1, 2, 3] rfl)
      · have hd := hd.2 h_5
        refine lv_aload_n K.1 K.2.1 dX7_passDay_24 rfl (lv_at hl 0 rfl) ?_
        refine lv_iconst (v := (0 : Int32)) K.1 K.2.1 dX7_passDay_25 (by decide) ?_
        refine lv_aload_n K.1 K.2.1 dX7_passDay_26 rfl (lv_at hl 0 rfl) ?_
        refine rc_get layX1 (ci := 1) rfl 4 (by decide) (v := .int (g0 (pp (x1 + 3) x2) 4)) K hw (wc_P cy nt ad _ (tR_P (tB_R hq_x1) hb_4)) kf_X7_201 rfl dX7_passDay_27 ?_
        refine lv_aload_n K.1 K.2.1 dX7_passDay_30 rfl (lv_at hl 1 rfl) ?_
        refine lv_aload_n K.1 K.2.1 dX7_passDay_31 rfl (lv_at hl 2 rfl) ?_
        refine lv_aload_n K.1 K.2.1 dX7_passDay_32 rfl (lv_at hl 0 rfl) ?_
        refine rkc_vi (As := [.ref (ad x1), .ref (ad (pp (x1 + 3) x2))]) (rest := [.int (g0 (pp (x1 + 3) x2) 4), .int (0 : Int32), .ref (ad (pp (x1 + 3) x2))]) K KX hw (cc_X7_smoothingOf l D cy nt ad A X g0 _ x1 (pp (x1 + 3) x2) hd) lk_X7_130 (ci := 7) rfl (wc_O cy nt ad _) ⟨Nat.le_of_ble_eq_true rfl, Nat.le_of_ble_eq_true rfl⟩ ⟨Nat.zero_le _, Nat.zero_le _⟩ rfl hl.1 (Nat.le_of_ble_eq_true rfl) rfl dX7_passDay_33 (fun r_8 g_7 H locs hd hw => ?_)
        refine lv_isub K.1 K.2.1 dX7_passDay_36 ?_
        refine va_mmax K.1 K.2.1 (K.2.2.1.trans hl.1.symm) K.2.2.2.1 (K.2.2.2.2.1 _ lkm_X7_319.1) (K.2.2.2.2.1 _ lkm_X7_319.2.1) (K.2.2.2.2.1 _ lkm_X7_319.2.2.1) (K.2.2.2.2.1 _ lkm_X7_319.2.2.2) (Nat.le_of_ble_eq_true rfl) (Nat.le_of_ble_eq_true rfl) (Nat.zero_le _) (Nat.zero_le _) dX7_passDay_37 ?_
        refine rc_put layX1 (ci := 1) rfl tyX1_ok nmX1 4 (by decide) K hw (wc_P cy nt ad _ (tR_P (tB_R hq_x1) hb_4)) kf_X7_201 rfl rfl rfl rfl (Nat.le_of_ble_eq_true rfl) (wp_P_4 cy nt ad _ _ (tR_P (tB_R hq_x1) hb_4)) dX7_passDay_40 (fun g_9 eg_9 H locs hw => ?_)
        have hd := hd g_9 eg_9
        exact bb_X7_passDay_43 K KX hr  ih x1 x2 g_9 _ _ _ hq_x1 hd hw (lv_sub hl [1, 2, 3] rfl)
set_option maxHeartbeats 4000000 in
set_option maxRecDepth 100000 in
theorem cc_X7_passDay (l : Launch) (D : va_G) (cy : Nat → ClassId) (nt : Nat) (ad : Nat → Nat) (A : Nat → Prop) (X : Nat → Nat)  (g0 : Sg) (Q : Sg → Prop) (x1 : Nat) (hd : vv_X7_passDay nt x1 g0 Q) : Met l yX7_passDay (Cond.code yX7_passDay cX7_passDay 4 none :: TT) (rmD 4) (va_Pc [.ref (ad 0), .ref (ad x1)] (PreC (wsC cy nt ad) D cy A X g0)) (va_Qv Q (PostG (wsC cy nt ad) D A) A) 0 0 A := by
  unfold vv_X7_passDay at hd
  refine Met.ofW (cc := cX7_passDay) (maxL := 4) (ret := none) (by decide) rfl ?_
  intro p e s m args below meth c s₁ B hml hv
  obtain ⟨rfl, ⟨hP, hK0, hD⟩, KX⟩ := hv
  have K : Kx p s m _ meth c cX7_passDay 4 RX7 D cy := ⟨B.exec, B.bytes, hml, findClass_of_methodNamed B.named, fun w h => atoms_spec (ws := Cond.code yX7_passDay cX7_passDay 4 none :: TT) B.pre w (List.mem_cons_of_mem _ h), hK0, B.notSynchronized⟩
  have hw : Wd D A s.heap (wsC cy nt ad g0) s.heap [] := ⟨hP, hD, va_S.rf⟩
  have hr := B.returns
  have hl := lv_entry ([.ref (ad 0), .ref (ad x1)]) (n := 4) (Nat.le_of_ble_eq_true rfl)
  rw [lg_entry_eq]
  generalize (lg_sl ([.ref (ad 0), .ref (ad x1)]) ++ List.replicate (4 - (lg_sl ([.ref (ad 0), .ref (ad x1)])).length) Slot.unset).toArray = ls at hl ⊢
  have hl : lv_has ls 4 [(0, .ref (ad 0)), (1, .ref (ad x1))] := hl
  have hq_x1 := hd.1
  have hd := hd.2
  refine lv_iconst (v := (0 : Int32)) K.1 K.2.1 dX7_passDay_0 (by decide) ?_
  refine lv_topi (fun x2_1 ex2_1 => ?_)
  have hd := hd x2_1 ex2_1
  refine lv_istore_n (lv' := [(2, .int x2_1), (0, .ref (ad 0)), (1, .ref (ad x1))]) K.1 K.2.1 dX7_passDay_1 rfl hl (by decide) rfl (fun ls hl => ?_)
  obtain ⟨n9, hd⟩ := hd
  exact bb_X7_passDay_2 K KX hr   n9 x1 x2_1 g0 _ _ _ hq_x1 hd hw (lv_sub hl [1, 2, 0] rfl)
theorem dX7_day_0 : decode cX7_day 0 = .ok (.aload_n 0, 1) := by decide +kernel
theorem dX7_day_1 : decode cX7_day 1 = .ok (.getfield 10, 3) := by decide +kernel
theorem dX7_day_4 : decode cX7_day 4 = .ok (.getfield 100, 3) := by decide +kernel
theorem dX7_day_7 : decode cX7_day 7 = .ok (.sipush 999, 3) := by decide +kernel
theorem dX7_day_10 : decode cX7_day 10 = .ok (.if_icmp .lt 6, 3) := by decide +kernel
theorem dX7_day_13 : decode cX7_day 13 = .ok (.bipush (-3), 2) := by decide +kernel
theorem dX7_day_15 : decode cX7_day 15 = .ok (.ireturn, 1) := by decide +kernel
theorem dX7_day_16 : decode cX7_day 16 = .ok (.aload_n 0, 1) := by decide +kernel
theorem dX7_day_17 : decode cX7_day 17 = .ok (.aload_n 0, 1) := by decide +kernel
theorem dX7_day_18 : decode cX7_day 18 = .ok (.getfield 10, 3) := by decide +kernel
theorem dX7_day_21 : decode cX7_day 21 = .ok (.invokevirtual 198, 3) := by decide +kernel
theorem dX7_day_24 : decode cX7_day 24 = .ok (.iconst 0, 1) := by decide +kernel
theorem dX7_day_25 : decode cX7_day 25 = .ok (.istore_n 1, 1) := by decide +kernel
theorem dX7_day_26 : decode cX7_day 26 = .ok (.iconst 0, 1) := by decide +kernel
theorem dX7_day_27 : decode cX7_day 27 = .ok (.istore_n 2, 1) := by decide +kernel
theorem dX7_day_28 : decode cX7_day 28 = .ok (.iload_n 2, 1) := by decide +kernel
theorem dX7_day_29 : decode cX7_day 29 = .ok (.aload_n 0, 1) := by decide +kernel
theorem dX7_day_30 : decode cX7_day 30 = .ok (.getfield 10, 3) := by decide +kernel
theorem dX7_day_33 : decode cX7_day 33 = .ok (.getfield 117, 3) := by decide +kernel
theorem dX7_day_36 : decode cX7_day 36 = .ok (.if_icmp .ge 42, 3) := by decide +kernel
theorem dX7_day_39 : decode cX7_day 39 = .ok (.aload_n 0, 1) := by decide +kernel
theorem dX7_day_40 : decode cX7_day 40 = .ok (.getfield 10, 3) := by decide +kernel
theorem dX7_day_43 : decode cX7_day 43 = .ok (.getfield 106, 3) := by decide +kernel
theorem dX7_day_46 : decode cX7_day 46 = .ok (.iload_n 2, 1) := by decide +kernel
theorem dX7_day_47 : decode cX7_day 47 = .ok (.aaload, 1) := by decide +kernel
theorem dX7_day_48 : decode cX7_day 48 = .ok (.getfield 201, 3) := by decide +kernel
theorem dX7_day_51 : decode cX7_day 51 = .ok (.ifCond .ne 21, 3) := by decide +kernel
theorem dX7_day_54 : decode cX7_day 54 = .ok (.aload_n 0, 1) := by decide +kernel
theorem dX7_day_55 : decode cX7_day 55 = .ok (.getfield 10, 3) := by decide +kernel
theorem dX7_day_58 : decode cX7_day 58 = .ok (.getfield 106, 3) := by decide +kernel
theorem dX7_day_61 : decode cX7_day 61 = .ok (.iload_n 2, 1) := by decide +kernel
theorem dX7_day_62 : decode cX7_day 62 = .ok (.aaload, 1) := by decide +kernel
theorem dX7_day_63 : decode cX7_day 63 = .ok (.getfield 151, 3) := by decide +kernel
theorem dX7_day_66 : decode cX7_day 66 = .ok (.ifCond .ne 6, 3) := by decide +kernel
theorem dX7_day_69 : decode cX7_day 69 = .ok (.iinc 1 1, 3) := by decide +kernel
theorem dX7_day_72 : decode cX7_day 72 = .ok (.iinc 2 1, 3) := by decide +kernel
theorem dX7_day_75 : decode cX7_day 75 = .ok (.goto (-47), 3) := by decide +kernel
theorem dX7_day_78 : decode cX7_day 78 = .ok (.iload_n 1, 1) := by decide +kernel
theorem dX7_day_79 : decode cX7_day 79 = .ok (.ireturn, 1) := by decide +kernel
set_option maxHeartbeats 4000000 in
set_option maxRecDepth 100000 in
theorem bb_X7_day_72 {p : Program} {l : Launch} {e : Env} {s : State} {m : MethodId} {args : Array Value} {below : List Frame} {meth : Method} {c : Code} {D : va_G} {cy : Nat → ClassId} {nt : Nat} {ad : Nat → Nat} {A : Nat → Prop} {X : Nat → Nat} {Q : Int32 → Sg → Prop} (K : Kx p s m args meth c cX7_day 3 RX7 D cy) (KX : XC X A s s.heap) (hr : meth.sig.returnType = (some .int))  {rc28 : Int32 → Int32 → Sg → Prop} (hrc28 : ∀ (x1 : Int32) (x2 : Int32) (u : Sg) (H : Heap) (locs : List Loc) (ls : Array Slot), rc28 x1 x2 u → Wd D A s.heap (wsC cy nt ad u) H locs → lv_has ls 3 [(0, .ref (ad 0)), (1, .int x1), (2, .int x2)] → W p l e (rmD 5) s m args below meth c H locs 0 0 (MQ below (va_Qi Q (PostG (wsC cy nt ad) D A) A) args s 0 0 A) (F0 m 28 ls [])) (x1 : Int32) (x2 : Int32)  (g0 : Sg) (H : Heap) (locs : List Loc) (ls : Array Slot) (hd : vv_X7_day_J72 nt rc28 x1 x2 g0 Q) (hw : Wd D A s.heap (wsC cy nt ad g0) H locs) (hl : lv_has ls 3 [(0, .ref (ad 0)), (1, .int x1), (2, .int x2)]) : W p l e (rmD 5) s m args below meth c H locs 0 0 (MQ below (va_Qi Q (PostG (wsC cy nt ad) D A) A) args s 0 0 A) (F0 m 72 ls []) := by
  unfold vv_X7_day_J72 at hd
  obtain ⟨x2_9, ex2_9⟩ : ∃ y : Int32, y = x2 + (1 : Int32) := ⟨_, rfl⟩
  have hd := hd x2_9 ex2_9
  refine lv_iinc (v := x2_9) (lv' := [(2, .int x2_9), (0, .ref (ad 0)), (1, .int x1)]) K.1 K.2.1 dX7_day_72 hl (k := 2) rfl (by rw [ex2_9]; rfl) (by decide) rfl (fun ls hl => ?_)
  refine lv_goto (tgt := 28) K.1 K.2.1 dX7_day_75 (by decide) ?_
  exact hrc28 x1 x2_9 g0 _ _ _  hd hw (lv_sub hl [1, 2, 0] rfl)
set_option maxHeartbeats 4000000 in
set_option maxRecDepth 100000 in
theorem bb_X7_day_28 {p : Program} {l : Launch} {e : Env} {s : State} {m : MethodId} {args : Array Value} {below : List Frame} {meth : Method} {c : Code} {D : va_G} {cy : Nat → ClassId} {nt : Nat} {ad : Nat → Nat} {A : Nat → Prop} {X : Nat → Nat} {Q : Int32 → Sg → Prop} (K : Kx p s m args meth c cX7_day 3 RX7 D cy) (KX : XC X A s s.heap) (hr : meth.sig.returnType = (some .int))  : ∀ (n : Nat) (x1 : Int32) (x2 : Int32)  (g0 : Sg) (H : Heap) (locs : List Loc) (ls : Array Slot), vv_X7_day_L28 nt Q n x1 x2 g0 → Wd D A s.heap (wsC cy nt ad g0) H locs → lv_has ls 3 [(0, .ref (ad 0)), (1, .int x1), (2, .int x2)] → W p l e (rmD 5) s m args below meth c H locs 0 0 (MQ below (va_Qi Q (PostG (wsC cy nt ad) D A) A) args s 0 0 A) (F0 m 28 ls []) := by
  intro n
  induction n with
  | zero => intro _ _ _ _ _ _ hd; exact hd.elim
  | succ n ih =>
    intro x1 x2 g0 H locs ls  hd hw hl
    unfold vv_X7_day_L28 at hd
    refine lv_iload_n K.1 K.2.1 dX7_day_28 rfl (lv_at hl 2 rfl) ?_
    refine lv_aload_n K.1 K.2.1 dX7_day_29 rfl (lv_at hl 0 rfl) ?_
    refine rc_get layX7 (ci := 7) rfl 0 (by decide) (v := .ref (ad 1)) K hw (wc_O cy nt ad _) kf_X7_10 rfl dX7_day_30 ?_
    refine rc_get layX0 (ci := 0) rfl 2 (by decide) (v := .int (g0 1 2)) K hw (wc_B cy nt ad _ ⟨by decide, by decide⟩) kf_X7_117 rfl dX7_day_33 ?_
    refine lv_icmp_ge (tgt := 78) K.1 K.2.1 dX7_day_36 (by decide) (fun h_6 => ?_) (fun h_6 => ?_)
    · have hd := hd.1 h_6
      refine lv_iload_n K.1 K.2.1 dX7_day_78 rfl (lv_at hl 1 rfl) ?_
      exact rk_iret K hw hr hd dX7_day_79
    · have hd := hd.2 h_6
      refine lv_aload_n K.1 K.2.1 dX7_day_39 rfl (lv_at hl 0 rfl) ?_
      refine rc_get layX7 (ci := 7) rfl 0 (by decide) (v := .ref (ad 1)) K hw (wc_O cy nt ad _) kf_X7_10 rfl dX7_day_40 ?_
      refine rc_get layX0 (ci := 0) rfl 4 (by decide) (v := .ref (ad 4)) K hw (wc_B cy nt ad _ ⟨by decide, by decide⟩) kf_X7_106 rfl dX7_day_43 ?_
      refine lv_iload_n K.1 K.2.1 dX7_day_46 rfl (lv_at hl 2 rfl) ?_
      have hb_7 := hd.1
      have hd := hd.2
      refine rc_aald (t0 := 2) (b := ad (pp 4 x2)) K hw (wc_R cy nt ad _ ⟨by decide, by decide⟩) rfl rfl hb_7 dX7_day_47 ?_
      refine rc_get layX1 (ci := 1) rfl 4 (by decide) (v := .int (g0 (pp 4 x2) 4)) K hw (wc_P cy nt ad _ (tR_P ⟨by decide, by decide⟩ hb_7)) kf_X7_201 rfl dX7_day_48 ?_
      refine lv_if_ne (tgt := 72) K.1 K.2.1 dX7_day_51 (by decide) (fun h_8 => ?_) (fun h_8 => ?_)
      · have hd := hd.1 h_8
        exact bb_X7_day_72 K KX hr  ih x1 x2 g0 _ _ _  hd hw (lv_sub hl [0, 1, 2] rfl)
      · have hd := hd.2 h_8
        refine lv_aload_n K.1 K.2.1 dX7_day_54 rfl (lv_at hl 0 rfl) ?_
        refine rc_get layX7 (ci := 7) rfl 0 (by decide) (v := .ref (ad 1)) K hw (wc_O cy nt ad _) kf_X7_10 rfl dX7_day_55 ?_
        refine rc_get layX0 (ci := 0) rfl 4 (by decide) (v := .ref (ad 4)) K hw (wc_B cy nt ad _ ⟨by decide, by decide⟩) kf_X7_106 rfl dX7_day_58 ?_
        refine lv_iload_n K.1 K.2.1 dX7_day_61 rfl (lv_at hl 2 rfl) ?_
        have hb_10 := hd.1
        have hd := hd.2
        refine rc_aald (t0 := 2) (b := ad (pp 4 x2)) K hw (wc_R cy nt ad _ ⟨by decide, by decide⟩) rfl rfl hb_10 dX7_day_62 ?_
        refine rc_get layX1 (ci := 1) rfl 5 (by decide) (v := .int (g0 (pp 4 x2) 5)) K hw (wc_P cy nt ad _ (tR_P ⟨by decide, by decide⟩ hb_10)) kf_X7_151 rfl dX7_day_63 ?_
        refine lv_if_ne (tgt := 72) K.1 K.2.1 dX7_day_66 (by decide) (fun h_11 => ?_) (fun h_11 => ?_)
        · have hd := hd.1 h_11
          exact bb_X7_day_72 K KX hr  ih x1 x2 g0 _ _ _  hd hw (lv_sub hl [0, 1, 2] rfl)
        · have hd := hd.2 h_11
          obtain ⟨x1_12, ex1_12⟩ : ∃ y : Int32, y = x1 + (1 : Int32) := ⟨_, rfl⟩
          have hd := hd x1_12 ex1_12
          refine lv_iinc (v := x1_12) (lv' := [(1, .int x1_12), (0, .ref (ad 0)), (2, .int x2)]) K.1 K.2.1 dX7_day_69 hl (k := 1) rfl (by rw [ex1_12]; rfl) (by decide) rfl (fun ls hl => ?_)
          exact bb_X7_day_72 K KX hr  ih x1_12 x2 g0 _ _ _  hd hw (lv_sub hl [1, 0, 2] rfl)
set_option maxHeartbeats 4000000 in
set_option maxRecDepth 100000 in
theorem cc_X7_day (l : Launch) (D : va_G) (cy : Nat → ClassId) (nt : Nat) (ad : Nat → Nat) (A : Nat → Prop) (X : Nat → Nat)  (g0 : Sg) (Q : Int32 → Sg → Prop)  (hd : vv_X7_day nt  g0 Q) : Met l yX7_day (Cond.code yX7_day cX7_day 3 (some .int) :: TT) (rmD 5) (va_Pc [.ref (ad 0)] (PreC (wsC cy nt ad) D cy A X g0)) (va_Qi Q (PostG (wsC cy nt ad) D A) A) 0 0 A := by
  unfold vv_X7_day at hd
  refine Met.ofW (cc := cX7_day) (maxL := 3) (ret := (some .int)) (by decide) rfl ?_
  intro p e s m args below meth c s₁ B hml hv
  obtain ⟨rfl, ⟨hP, hK0, hD⟩, KX⟩ := hv
  have K : Kx p s m _ meth c cX7_day 3 RX7 D cy := ⟨B.exec, B.bytes, hml, findClass_of_methodNamed B.named, fun w h => atoms_spec (ws := Cond.code yX7_day cX7_day 3 (some .int) :: TT) B.pre w (List.mem_cons_of_mem _ h), hK0, B.notSynchronized⟩
  have hw : Wd D A s.heap (wsC cy nt ad g0) s.heap [] := ⟨hP, hD, va_S.rf⟩
  have hr := B.returns
  have hl := lv_entry ([.ref (ad 0)]) (n := 3) (Nat.le_of_ble_eq_true rfl)
  rw [lg_entry_eq]
  generalize (lg_sl ([.ref (ad 0)]) ++ List.replicate (3 - (lg_sl ([.ref (ad 0)])).length) Slot.unset).toArray = ls at hl ⊢
  have hl : lv_has ls 3 [(0, .ref (ad 0))] := hl
  refine lv_aload_n K.1 K.2.1 dX7_day_0 rfl (lv_at hl 0 rfl) ?_
  refine rc_get layX7 (ci := 7) rfl 0 (by decide) (v := .ref (ad 1)) K hw (wc_O cy nt ad _) kf_X7_10 rfl dX7_day_1 ?_
  refine rc_get layX0 (ci := 0) rfl 0 (by decide) (v := .int (g0 1 0)) K hw (wc_B cy nt ad _ ⟨by decide, by decide⟩) kf_X7_100 rfl dX7_day_4 ?_
  refine lv_sipush (v := (999 : Int32)) K.1 K.2.1 dX7_day_7 (by decide) ?_
  refine lv_icmp_lt (tgt := 16) K.1 K.2.1 dX7_day_10 (by decide) (fun h_1 => ?_) (fun h_1 => ?_)
  · have hd := hd.1 h_1
    refine lv_aload_n K.1 K.2.1 dX7_day_16 rfl (lv_at hl 0 rfl) ?_
    refine lv_aload_n K.1 K.2.1 dX7_day_17 rfl (lv_at hl 0 rfl) ?_
    refine rc_get layX7 (ci := 7) rfl 0 (by decide) (v := .ref (ad 1)) K hw (wc_O cy nt ad _) kf_X7_10 rfl dX7_day_18 ?_
    refine rkc_vv (As := [.ref (ad 1)]) (rest := []) K KX hw (cc_X7_passDay l D cy nt ad A X g0 _ 1 hd) lk_X7_198 (ci := 7) rfl (wc_O cy nt ad _) ⟨Nat.le_of_ble_eq_true rfl, Nat.le_of_ble_eq_true rfl⟩ ⟨Nat.zero_le _, Nat.zero_le _⟩ rfl hl.1 (Nat.le_of_ble_eq_true rfl) rfl dX7_day_21 (fun g_2 H locs hd hw => ?_)
    refine lv_iconst (v := (0 : Int32)) K.1 K.2.1 dX7_day_24 (by decide) ?_
    refine lv_topi (fun x1_4 ex1_4 => ?_)
    have hd := hd x1_4 ex1_4
    refine lv_istore_n (lv' := [(1, .int x1_4), (0, .ref (ad 0))]) K.1 K.2.1 dX7_day_25 rfl hl (by decide) rfl (fun ls hl => ?_)
    refine lv_iconst (v := (0 : Int32)) K.1 K.2.1 dX7_day_26 (by decide) ?_
    refine lv_topi (fun x2_5 ex2_5 => ?_)
    have hd := hd x2_5 ex2_5
    refine lv_istore_n (lv' := [(2, .int x2_5), (1, .int x1_4), (0, .ref (ad 0))]) K.1 K.2.1 dX7_day_27 rfl hl (by decide) rfl (fun ls hl => ?_)
    obtain ⟨n9, hd⟩ := hd
    exact bb_X7_day_28 K KX hr   n9 x1_4 x2_5 g_2 _ _ _  hd hw (lv_sub hl [2, 1, 0] rfl)
  · have hd := hd.2 h_1
    refine lv_bipush (v := (-3 : Int32)) K.1 K.2.1 dX7_day_13 (by decide) ?_
    exact rk_iret K hw hr hd dX7_day_15
theorem dJ6_bitCount_0f7a4_0 : decode cJ6_bitCount_0f7a4 0 = .ok (.iload_n 0, 1) := by decide +kernel
theorem dJ6_bitCount_0f7a4_1 : decode cJ6_bitCount_0f7a4 1 = .ok (.iload_n 0, 1) := by decide +kernel
theorem dJ6_bitCount_0f7a4_2 : decode cJ6_bitCount_0f7a4 2 = .ok (.iconst 1, 1) := by decide +kernel
theorem dJ6_bitCount_0f7a4_3 : decode cJ6_bitCount_0f7a4 3 = .ok (.iushr, 1) := by decide +kernel
theorem dJ6_bitCount_0f7a4_4 : decode cJ6_bitCount_0f7a4 4 = .ok (.ldc_w 265, 3) := by decide +kernel
theorem dJ6_bitCount_0f7a4_7 : decode cJ6_bitCount_0f7a4 7 = .ok (.iand, 1) := by decide +kernel
theorem dJ6_bitCount_0f7a4_8 : decode cJ6_bitCount_0f7a4 8 = .ok (.isub, 1) := by decide +kernel
theorem dJ6_bitCount_0f7a4_9 : decode cJ6_bitCount_0f7a4 9 = .ok (.istore_n 0, 1) := by decide +kernel
theorem dJ6_bitCount_0f7a4_10 : decode cJ6_bitCount_0f7a4 10 = .ok (.iload_n 0, 1) := by decide +kernel
theorem dJ6_bitCount_0f7a4_11 : decode cJ6_bitCount_0f7a4 11 = .ok (.ldc_w 266, 3) := by decide +kernel
theorem dJ6_bitCount_0f7a4_14 : decode cJ6_bitCount_0f7a4 14 = .ok (.iand, 1) := by decide +kernel
theorem dJ6_bitCount_0f7a4_15 : decode cJ6_bitCount_0f7a4 15 = .ok (.iload_n 0, 1) := by decide +kernel
theorem dJ6_bitCount_0f7a4_16 : decode cJ6_bitCount_0f7a4 16 = .ok (.iconst 2, 1) := by decide +kernel
theorem dJ6_bitCount_0f7a4_17 : decode cJ6_bitCount_0f7a4 17 = .ok (.iushr, 1) := by decide +kernel
theorem dJ6_bitCount_0f7a4_18 : decode cJ6_bitCount_0f7a4 18 = .ok (.ldc_w 266, 3) := by decide +kernel
theorem dJ6_bitCount_0f7a4_21 : decode cJ6_bitCount_0f7a4 21 = .ok (.iand, 1) := by decide +kernel
theorem dJ6_bitCount_0f7a4_22 : decode cJ6_bitCount_0f7a4 22 = .ok (.iadd, 1) := by decide +kernel
theorem dJ6_bitCount_0f7a4_23 : decode cJ6_bitCount_0f7a4 23 = .ok (.istore_n 0, 1) := by decide +kernel
theorem dJ6_bitCount_0f7a4_24 : decode cJ6_bitCount_0f7a4 24 = .ok (.iload_n 0, 1) := by decide +kernel
theorem dJ6_bitCount_0f7a4_25 : decode cJ6_bitCount_0f7a4 25 = .ok (.iload_n 0, 1) := by decide +kernel
theorem dJ6_bitCount_0f7a4_26 : decode cJ6_bitCount_0f7a4 26 = .ok (.iconst 4, 1) := by decide +kernel
theorem dJ6_bitCount_0f7a4_27 : decode cJ6_bitCount_0f7a4 27 = .ok (.iushr, 1) := by decide +kernel
theorem dJ6_bitCount_0f7a4_28 : decode cJ6_bitCount_0f7a4 28 = .ok (.iadd, 1) := by decide +kernel
theorem dJ6_bitCount_0f7a4_29 : decode cJ6_bitCount_0f7a4 29 = .ok (.ldc_w 267, 3) := by decide +kernel
theorem dJ6_bitCount_0f7a4_32 : decode cJ6_bitCount_0f7a4 32 = .ok (.iand, 1) := by decide +kernel
theorem dJ6_bitCount_0f7a4_33 : decode cJ6_bitCount_0f7a4 33 = .ok (.istore_n 0, 1) := by decide +kernel
theorem dJ6_bitCount_0f7a4_34 : decode cJ6_bitCount_0f7a4 34 = .ok (.iload_n 0, 1) := by decide +kernel
theorem dJ6_bitCount_0f7a4_35 : decode cJ6_bitCount_0f7a4 35 = .ok (.iload_n 0, 1) := by decide +kernel
theorem dJ6_bitCount_0f7a4_36 : decode cJ6_bitCount_0f7a4 36 = .ok (.bipush 8, 2) := by decide +kernel
theorem dJ6_bitCount_0f7a4_38 : decode cJ6_bitCount_0f7a4 38 = .ok (.iushr, 1) := by decide +kernel
theorem dJ6_bitCount_0f7a4_39 : decode cJ6_bitCount_0f7a4 39 = .ok (.iadd, 1) := by decide +kernel
theorem dJ6_bitCount_0f7a4_40 : decode cJ6_bitCount_0f7a4 40 = .ok (.istore_n 0, 1) := by decide +kernel
theorem dJ6_bitCount_0f7a4_41 : decode cJ6_bitCount_0f7a4 41 = .ok (.iload_n 0, 1) := by decide +kernel
theorem dJ6_bitCount_0f7a4_42 : decode cJ6_bitCount_0f7a4 42 = .ok (.iload_n 0, 1) := by decide +kernel
theorem dJ6_bitCount_0f7a4_43 : decode cJ6_bitCount_0f7a4 43 = .ok (.bipush 16, 2) := by decide +kernel
theorem dJ6_bitCount_0f7a4_45 : decode cJ6_bitCount_0f7a4 45 = .ok (.iushr, 1) := by decide +kernel
theorem dJ6_bitCount_0f7a4_46 : decode cJ6_bitCount_0f7a4 46 = .ok (.iadd, 1) := by decide +kernel
theorem dJ6_bitCount_0f7a4_47 : decode cJ6_bitCount_0f7a4 47 = .ok (.istore_n 0, 1) := by decide +kernel
theorem dJ6_bitCount_0f7a4_48 : decode cJ6_bitCount_0f7a4 48 = .ok (.iload_n 0, 1) := by decide +kernel
theorem dJ6_bitCount_0f7a4_49 : decode cJ6_bitCount_0f7a4 49 = .ok (.bipush 63, 2) := by decide +kernel
theorem dJ6_bitCount_0f7a4_51 : decode cJ6_bitCount_0f7a4 51 = .ok (.iand, 1) := by decide +kernel
theorem dJ6_bitCount_0f7a4_52 : decode cJ6_bitCount_0f7a4 52 = .ok (.ireturn, 1) := by decide +kernel
set_option maxHeartbeats 4000000 in
set_option maxRecDepth 100000 in
theorem cc_J6_bitCount_0f7a4 (l : Launch) (D : va_G) (cy : Nat → ClassId) (nt : Nat) (ad : Nat → Nat) (A : Nat → Prop) (X : Nat → Nat)  (g0 : Sg) (Q : Int32 → Sg → Prop) (x0 : Int32) (hd : vv_J6_bitCount_0f7a4 nt x0 g0 Q) : Met l yJ6_bitCount_0f7a4 (Cond.code yJ6_bitCount_0f7a4 cJ6_bitCount_0f7a4 1 (some .int) :: TT) (rmD 1) (va_Pc [.int x0] (PreC (wsC cy nt ad) D cy A X g0)) (va_Qi Q (PostG (wsC cy nt ad) D A) A) 0 0 A := by
  unfold vv_J6_bitCount_0f7a4 at hd
  refine Met.ofW (cc := cJ6_bitCount_0f7a4) (maxL := 1) (ret := (some .int)) (by decide) rfl ?_
  intro p e s m args below meth c s₁ B hml hv
  obtain ⟨rfl, ⟨hP, hK0, hD⟩, KX⟩ := hv
  have K : Kx p s m _ meth c cJ6_bitCount_0f7a4 1 RJ6 D cy := ⟨B.exec, B.bytes, hml, findClass_of_methodNamed B.named, fun w h => atoms_spec (ws := Cond.code yJ6_bitCount_0f7a4 cJ6_bitCount_0f7a4 1 (some .int) :: TT) B.pre w (List.mem_cons_of_mem _ h), hK0, B.notSynchronized⟩
  have hw : Wd D A s.heap (wsC cy nt ad g0) s.heap [] := ⟨hP, hD, va_S.rf⟩
  have hr := B.returns
  have hl := lv_entry ([.int x0]) (n := 1) (Nat.le_of_ble_eq_true rfl)
  rw [lg_entry_eq]
  generalize (lg_sl ([.int x0]) ++ List.replicate (1 - (lg_sl ([.int x0])).length) Slot.unset).toArray = ls at hl ⊢
  have hl : lv_has ls 1 [(0, .int x0)] := hl
  refine lv_iload_n K.1 K.2.1 dJ6_bitCount_0f7a4_0 rfl (lv_at hl 0 rfl) ?_
  refine lv_iload_n K.1 K.2.1 dJ6_bitCount_0f7a4_1 rfl (lv_at hl 0 rfl) ?_
  refine lv_iconst (v := (1 : Int32)) K.1 K.2.1 dJ6_bitCount_0f7a4_2 (by decide) ?_
  refine lv_iushr (v := (x0.toUInt32 >>> ((1 : Int32).toUInt32 &&& Int32.toUInt32 31)).toInt32) K.1 K.2.1 dJ6_bitCount_0f7a4_3 rfl ?_
  refine lv_ldcw K.1 K.2.1 K.2.2.2.1 (K.2.2.2.2.1 _ ki_J6_265) dJ6_bitCount_0f7a4_4 ?_
  refine lv_iand K.1 K.2.1 dJ6_bitCount_0f7a4_7 ?_
  refine lv_isub K.1 K.2.1 dJ6_bitCount_0f7a4_8 ?_
  refine lv_topi (fun x0_1 ex0_1 => ?_)
  have hd := hd x0_1 ex0_1
  refine lv_istore_n (lv' := [(0, .int x0_1)]) K.1 K.2.1 dJ6_bitCount_0f7a4_9 rfl hl (by decide) rfl (fun ls hl => ?_)
  refine lv_iload_n K.1 K.2.1 dJ6_bitCount_0f7a4_10 rfl (lv_at hl 0 rfl) ?_
  refine lv_ldcw K.1 K.2.1 K.2.2.2.1 (K.2.2.2.2.1 _ ki_J6_266) dJ6_bitCount_0f7a4_11 ?_
  refine lv_iand K.1 K.2.1 dJ6_bitCount_0f7a4_14 ?_
  refine lv_iload_n K.1 K.2.1 dJ6_bitCount_0f7a4_15 rfl (lv_at hl 0 rfl) ?_
  refine lv_iconst (v := (2 : Int32)) K.1 K.2.1 dJ6_bitCount_0f7a4_16 (by decide) ?_
  refine lv_iushr (v := (x0_1.toUInt32 >>> ((2 : Int32).toUInt32 &&& Int32.toUInt32 31)).toInt32) K.1 K.2.1 dJ6_bitCount_0f7a4_17 rfl ?_
  refine lv_ldcw K.1 K.2.1 K.2.2.2.1 (K.2.2.2.2.1 _ ki_J6_266) dJ6_bitCount_0f7a4_18 ?_
  refine lv_iand K.1 K.2.1 dJ6_bitCount_0f7a4_21 ?_
  refine lv_iadd K.1 K.2.1 dJ6_bitCount_0f7a4_22 ?_
  refine lv_topi (fun x0_2 ex0_2 => ?_)
  have hd := hd x0_2 ex0_2
  refine lv_istore_n (lv' := [(0, .int x0_2)]) K.1 K.2.1 dJ6_bitCount_0f7a4_23 rfl hl (by decide) rfl (fun ls hl => ?_)
  refine lv_iload_n K.1 K.2.1 dJ6_bitCount_0f7a4_24 rfl (lv_at hl 0 rfl) ?_
  refine lv_iload_n K.1 K.2.1 dJ6_bitCount_0f7a4_25 rfl (lv_at hl 0 rfl) ?_
  refine lv_iconst (v := (4 : Int32)) K.1 K.2.1 dJ6_bitCount_0f7a4_26 (by decide) ?_
  refine lv_iushr (v := (x0_2.toUInt32 >>> ((4 : Int32).toUInt32 &&& Int32.toUInt32 31)).toInt32) K.1 K.2.1 dJ6_bitCount_0f7a4_27 rfl ?_
  refine lv_iadd K.1 K.2.1 dJ6_bitCount_0f7a4_28 ?_
  refine lv_ldcw K.1 K.2.1 K.2.2.2.1 (K.2.2.2.2.1 _ ki_J6_267) dJ6_bitCount_0f7a4_29 ?_
  refine lv_iand K.1 K.2.1 dJ6_bitCount_0f7a4_32 ?_
  refine lv_topi (fun x0_3 ex0_3 => ?_)
  have hd := hd x0_3 ex0_3
  refine lv_istore_n (lv' := [(0, .int x0_3)]) K.1 K.2.1 dJ6_bitCount_0f7a4_33 rfl hl (by decide) rfl (fun ls hl => ?_)
  refine lv_iload_n K.1 K.2.1 dJ6_bitCount_0f7a4_34 rfl (lv_at hl 0 rfl) ?_
  refine lv_iload_n K.1 K.2.1 dJ6_bitCount_0f7a4_35 rfl (lv_at hl 0 rfl) ?_
  refine lv_bipush (v := (8 : Int32)) K.1 K.2.1 dJ6_bitCount_0f7a4_36 (by decide) ?_
  refine lv_iushr (v := (x0_3.toUInt32 >>> ((8 : Int32).toUInt32 &&& Int32.toUInt32 31)).toInt32) K.1 K.2.1 dJ6_bitCount_0f7a4_38 rfl ?_
  refine lv_iadd K.1 K.2.1 dJ6_bitCount_0f7a4_39 ?_
  refine lv_topi (fun x0_4 ex0_4 => ?_)
  have hd := hd x0_4 ex0_4
  refine lv_istore_n (lv' := [(0, .int x0_4)]) K.1 K.2.1 dJ6_bitCount_0f7a4_40 rfl hl (by decide) rfl (fun ls hl => ?_)
  refine lv_iload_n K.1 K.2.1 dJ6_bitCount_0f7a4_41 rfl (lv_at hl 0 rfl) ?_
  refine lv_iload_n K.1 K.2.1 dJ6_bitCount_0f7a4_42 rfl (lv_at hl 0 rfl) ?_
  refine lv_bipush (v := (16 : Int32)) K.1 K.2.1 dJ6_bitCount_0f7a4_43 (by decide) ?_
  refine lv_iushr (v := (x0_4.toUInt32 >>> ((16 : Int32).toUInt32 &&& Int32.toUInt32 31)).toInt32) K.1 K.2.1 dJ6_bitCount_0f7a4_45 rfl ?_
  refine lv_iadd K.1 K.2.1 dJ6_bitCount_0f7a4_46 ?_
  refine lv_topi (fun x0_5 ex0_5 => ?_)
  have hd := hd x0_5 ex0_5
  refine lv_istore_n (lv' := [(0, .int x0_5)]) K.1 K.2.1 dJ6_bitCount_0f7a4_47 rfl hl (by decide) rfl (fun ls hl => ?_)
  refine lv_iload_n K.1 K.2.1 dJ6_bitCount_0f7a4_48 rfl (lv_at hl 0 rfl) ?_
  refine lv_bipush (v := (63 : Int32)) K.1 K.2.1 dJ6_bitCount_0f7a4_49 (by decide) ?_
  refine lv_iand K.1 K.2.1 dJ6_bitCount_0f7a4_51 ?_
  exact rk_iret K hw hr hd dJ6_bitCount_0f7a4_52
theorem dX7_run_0 : decode cX7_run 0 = .ok (.iload_n 1, 1) := by decide +kernel
theorem dX7_run_1 : decode cX7_run 1 = .ok (.ifCond .lt 19, 3) := by decide +kernel
theorem dX7_run_4 : decode cX7_run 4 = .ok (.iload_n 1, 1) := by decide +kernel
theorem dX7_run_5 : decode cX7_run 5 = .ok (.bipush 40, 2) := by decide +kernel
theorem dX7_run_7 : decode cX7_run 7 = .ok (.if_icmp .gt 13, 3) := by decide +kernel
theorem dX7_run_10 : decode cX7_run 10 = .ok (.iload_n 2, 1) := by decide +kernel
theorem dX7_run_11 : decode cX7_run 11 = .ok (.ifCond .lt 9, 3) := by decide +kernel
theorem dX7_run_14 : decode cX7_run 14 = .ok (.iload_n 2, 1) := by decide +kernel
theorem dX7_run_15 : decode cX7_run 15 = .ok (.bipush 8, 2) := by decide +kernel
theorem dX7_run_17 : decode cX7_run 17 = .ok (.if_icmp .le 6, 3) := by decide +kernel
theorem dX7_run_20 : decode cX7_run 20 = .ok (.bipush (-2), 2) := by decide +kernel
theorem dX7_run_22 : decode cX7_run 22 = .ok (.ireturn, 1) := by decide +kernel
theorem dX7_run_23 : decode cX7_run 23 = .ok (.aload_n 0, 1) := by decide +kernel
theorem dX7_run_24 : decode cX7_run 24 = .ok (.getfield 19, 3) := by decide +kernel
theorem dX7_run_27 : decode cX7_run 27 = .ok (.aload_n 0, 1) := by decide +kernel
theorem dX7_run_28 : decode cX7_run 28 = .ok (.getfield 10, 3) := by decide +kernel
theorem dX7_run_31 : decode cX7_run 31 = .ok (.invokevirtual 204, 3) := by decide +kernel
theorem dX7_run_34 : decode cX7_run 34 = .ok (.iconst 0, 1) := by decide +kernel
theorem dX7_run_35 : decode cX7_run 35 = .ok (.istore_n 3, 1) := by decide +kernel
theorem dX7_run_36 : decode cX7_run 36 = .ok (.iload_n 3, 1) := by decide +kernel
theorem dX7_run_37 : decode cX7_run 37 = .ok (.iload_n 1, 1) := by decide +kernel
theorem dX7_run_38 : decode cX7_run 38 = .ok (.if_icmp .ge 17, 3) := by decide +kernel
theorem dX7_run_41 : decode cX7_run 41 = .ok (.aload_n 0, 1) := by decide +kernel
theorem dX7_run_42 : decode cX7_run 42 = .ok (.aload_n 0, 1) := by decide +kernel
theorem dX7_run_43 : decode cX7_run 43 = .ok (.getfield 19, 3) := by decide +kernel
theorem dX7_run_46 : decode cX7_run 46 = .ok (.invokevirtual 198, 3) := by decide +kernel
theorem dX7_run_49 : decode cX7_run 49 = .ok (.iinc 3 1, 3) := by decide +kernel
theorem dX7_run_52 : decode cX7_run 52 = .ok (.goto (-16), 3) := by decide +kernel
theorem dX7_run_55 : decode cX7_run 55 = .ok (.iload_n 2, 1) := by decide +kernel
theorem dX7_run_56 : decode cX7_run 56 = .ok (.bipush 8, 2) := by decide +kernel
theorem dX7_run_58 : decode cX7_run 58 = .ok (.if_icmp .ne 15, 3) := by decide +kernel
theorem dX7_run_61 : decode cX7_run 61 = .ok (.aload_n 0, 1) := by decide +kernel
theorem dX7_run_62 : decode cX7_run 62 = .ok (.aload_n 0, 1) := by decide +kernel
theorem dX7_run_63 : decode cX7_run 63 = .ok (.getfield 19, 3) := by decide +kernel
theorem dX7_run_66 : decode cX7_run 66 = .ok (.invokevirtual 189, 3) := by decide +kernel
theorem dX7_run_69 : decode cX7_run 69 = .ok (.invokestatic 207, 3) := by decide +kernel
theorem dX7_run_72 : decode cX7_run 72 = .ok (.ireturn, 1) := by decide +kernel
theorem dX7_run_73 : decode cX7_run 73 = .ok (.aload_n 0, 1) := by decide +kernel
theorem dX7_run_74 : decode cX7_run 74 = .ok (.aload_n 0, 1) := by decide +kernel
theorem dX7_run_75 : decode cX7_run 75 = .ok (.getfield 19, 3) := by decide +kernel
theorem dX7_run_78 : decode cX7_run 78 = .ok (.invokevirtual 164, 3) := by decide +kernel
theorem dX7_run_81 : decode cX7_run 81 = .ok (.aload_n 0, 1) := by decide +kernel
theorem dX7_run_82 : decode cX7_run 82 = .ok (.aload_n 0, 1) := by decide +kernel
theorem dX7_run_83 : decode cX7_run 83 = .ok (.getfield 19, 3) := by decide +kernel
theorem dX7_run_86 : decode cX7_run 86 = .ok (.iload_n 2, 1) := by decide +kernel
theorem dX7_run_87 : decode cX7_run 87 = .ok (.invokevirtual 168, 3) := by decide +kernel
theorem dX7_run_90 : decode cX7_run 90 = .ok (.aload_n 0, 1) := by decide +kernel
theorem dX7_run_91 : decode cX7_run 91 = .ok (.getfield 60, 3) := by decide +kernel
theorem dX7_run_94 : decode cX7_run 94 = .ok (.getfield 172, 3) := by decide +kernel
theorem dX7_run_97 : decode cX7_run 97 = .ok (.ireturn, 1) := by decide +kernel
set_option maxHeartbeats 4000000 in
set_option maxRecDepth 100000 in
theorem bb_X7_run_36 {p : Program} {l : Launch} {e : Env} {s : State} {m : MethodId} {args : Array Value} {below : List Frame} {meth : Method} {c : Code} {D : va_G} {cy : Nat → ClassId} {nt : Nat} {ad : Nat → Nat} {A : Nat → Prop} {X : Nat → Nat} {Q : Int32 → Sg → Prop} (K : Kx p s m args meth c cX7_run 4 RX7 D cy) (KX : XC X A s s.heap) (hr : meth.sig.returnType = (some .int))  : ∀ (n : Nat) (x1 : Int32) (x2 : Int32) (x3 : Int32)  (g0 : Sg) (H : Heap) (locs : List Loc) (ls : Array Slot), vv_X7_run_L36 nt Q n x1 x2 x3 g0 → Wd D A s.heap (wsC cy nt ad g0) H locs → lv_has ls 4 [(0, .ref (ad 0)), (1, .int x1), (2, .int x2), (3, .int x3)] → W p l e (rmD 8) s m args below meth c H locs 0 0 (MQ below (va_Qi Q (PostG (wsC cy nt ad) D A) A) args s 0 0 A) (F0 m 36 ls []) := by
  intro n
  induction n with
  | zero => intro _ _ _ _ _ _ _ hd; exact hd.elim
  | succ n ih =>
    intro x1 x2 x3 g0 H locs ls  hd hw hl
    unfold vv_X7_run_L36 at hd
    refine lv_iload_n K.1 K.2.1 dX7_run_36 rfl (lv_at hl 3 rfl) ?_
    refine lv_iload_n K.1 K.2.1 dX7_run_37 rfl (lv_at hl 1 rfl) ?_
    refine lv_icmp_ge (tgt := 55) K.1 K.2.1 dX7_run_38 (by decide) (fun h_8 => ?_) (fun h_8 => ?_)
    · have hd := hd.1 h_8
      refine lv_iload_n K.1 K.2.1 dX7_run_55 rfl (lv_at hl 2 rfl) ?_
      refine lv_bipush (v := (8 : Int32)) K.1 K.2.1 dX7_run_56 (by decide) ?_
      refine lv_icmp_ne (tgt := 73) K.1 K.2.1 dX7_run_58 (by decide) (fun h_9 => ?_) (fun h_9 => ?_)
      · have hd := hd.1 h_9
        refine lv_aload_n K.1 K.2.1 dX7_run_73 rfl (lv_at hl 0 rfl) ?_
        refine lv_aload_n K.1 K.2.1 dX7_run_74 rfl (lv_at hl 0 rfl) ?_
        refine rc_get layX7 (ci := 7) rfl 2 (by decide) (v := .ref (ad 3)) K hw (wc_O cy nt ad _) kf_X7_19 rfl dX7_run_75 ?_
        refine rkc_vv (As := [.ref (ad 3)]) (rest := []) K KX hw (cc_X7_weighAll l D cy nt ad A X g0 _ 3 hd) lk_X7_164 (ci := 7) rfl (wc_O cy nt ad _) ⟨Nat.le_of_ble_eq_true rfl, Nat.le_of_ble_eq_true rfl⟩ ⟨Nat.zero_le _, Nat.zero_le _⟩ rfl hl.1 (Nat.le_of_ble_eq_true rfl) rfl dX7_run_78 (fun g_10 H locs hd hw => ?_)
        refine lv_aload_n K.1 K.2.1 dX7_run_81 rfl (lv_at hl 0 rfl) ?_
        refine lv_aload_n K.1 K.2.1 dX7_run_82 rfl (lv_at hl 0 rfl) ?_
        refine rc_get layX7 (ci := 7) rfl 2 (by decide) (v := .ref (ad 3)) K hw (wc_O cy nt ad _) kf_X7_19 rfl dX7_run_83 ?_
        refine lv_iload_n K.1 K.2.1 dX7_run_86 rfl (lv_at hl 2 rfl) ?_
        refine rkc_vv (As := [.ref (ad 3), .int x2]) (rest := []) K KX hw (cc_X7_divide l D cy nt ad A X g_10 _ 3 x2 hd) lk_X7_168 (ci := 7) rfl (wc_O cy nt ad _) ⟨Nat.le_of_ble_eq_true rfl, Nat.le_of_ble_eq_true rfl⟩ ⟨Nat.zero_le _, Nat.zero_le _⟩ rfl hl.1 (Nat.le_of_ble_eq_true rfl) rfl dX7_run_87 (fun g_12 H locs hd hw => ?_)
        refine lv_aload_n K.1 K.2.1 dX7_run_90 rfl (lv_at hl 0 rfl) ?_
        refine rc_get layX7 (ci := 7) rfl 10 (by decide) (v := .ref (ad 22)) K hw (wc_O cy nt ad _) kf_X7_60 rfl dX7_run_91 ?_
        refine rc_get layX4 (ci := 4) rfl 0 (by decide) (v := .int (g_12 22 0)) K hw (wc_Ta cy nt ad _) kf_X7_172 rfl dX7_run_94 ?_
        exact rk_iret K hw hr hd dX7_run_97
      · have hd := hd.2 h_9
        refine lv_aload_n K.1 K.2.1 dX7_run_61 rfl (lv_at hl 0 rfl) ?_
        refine lv_aload_n K.1 K.2.1 dX7_run_62 rfl (lv_at hl 0 rfl) ?_
        refine rc_get layX7 (ci := 7) rfl 2 (by decide) (v := .ref (ad 3)) K hw (wc_O cy nt ad _) kf_X7_19 rfl dX7_run_63 ?_
        refine rkc_vi (As := [.ref (ad 3)]) (rest := []) K KX hw (cc_X7_carriedTopics l D cy nt ad A X g0 _ 3 hd) lk_X7_189 (ci := 7) rfl (wc_O cy nt ad _) ⟨Nat.le_of_ble_eq_true rfl, Nat.le_of_ble_eq_true rfl⟩ ⟨Nat.zero_le _, Nat.zero_le _⟩ rfl hl.1 (Nat.le_of_ble_eq_true rfl) rfl dX7_run_66 (fun r_15 g_14 H locs hd hw => ?_)
        refine rkc_si (As := [.int r_15]) (rest := []) K KX hw (cc_J6_bitCount_0f7a4 l D cy nt ad A X g_14 _ r_15 hd) lk_X7_207 ⟨Nat.le_of_ble_eq_true rfl, Nat.le_of_ble_eq_true rfl⟩ ⟨Nat.zero_le _, Nat.zero_le _⟩ rfl hl.1 (Nat.le_of_ble_eq_true rfl) rfl dX7_run_69 (fun r_17 g_16 H locs hd hw => ?_)
        exact rk_iret K hw hr hd dX7_run_72
    · have hd := hd.2 h_8
      refine lv_aload_n K.1 K.2.1 dX7_run_41 rfl (lv_at hl 0 rfl) ?_
      refine lv_aload_n K.1 K.2.1 dX7_run_42 rfl (lv_at hl 0 rfl) ?_
      refine rc_get layX7 (ci := 7) rfl 2 (by decide) (v := .ref (ad 3)) K hw (wc_O cy nt ad _) kf_X7_19 rfl dX7_run_43 ?_
      refine rkc_vv (As := [.ref (ad 3)]) (rest := []) K KX hw (cc_X7_passDay l D cy nt ad A X g0 _ 3 hd) lk_X7_198 (ci := 7) rfl (wc_O cy nt ad _) ⟨Nat.le_of_ble_eq_true rfl, Nat.le_of_ble_eq_true rfl⟩ ⟨Nat.zero_le _, Nat.zero_le _⟩ rfl hl.1 (Nat.le_of_ble_eq_true rfl) rfl dX7_run_46 (fun g_18 H locs hd hw => ?_)
      obtain ⟨x3_20, ex3_20⟩ : ∃ y : Int32, y = x3 + (1 : Int32) := ⟨_, rfl⟩
      have hd := hd x3_20 ex3_20
      refine lv_iinc (v := x3_20) (lv' := [(3, .int x3_20), (0, .ref (ad 0)), (1, .int x1), (2, .int x2)]) K.1 K.2.1 dX7_run_49 hl (k := 3) rfl (by rw [ex3_20]; rfl) (by decide) rfl (fun ls hl => ?_)
      refine lv_goto (tgt := 36) K.1 K.2.1 dX7_run_52 (by decide) ?_
      exact ih x1 x2 x3_20 g_18 _ _ _  hd hw (lv_sub hl [1, 2, 3, 0] rfl)
set_option maxHeartbeats 4000000 in
set_option maxRecDepth 100000 in
theorem cc_X7_run (l : Launch) (D : va_G) (cy : Nat → ClassId) (nt : Nat) (ad : Nat → Nat) (A : Nat → Prop) (X : Nat → Nat)  (g0 : Sg) (Q : Int32 → Sg → Prop) (x1 : Int32) (x2 : Int32) (hd : vv_X7_run nt x1 x2 g0 Q) : Met l yX7_run (Cond.code yX7_run cX7_run 4 (some .int) :: TT) (rmD 8) (va_Pc [.ref (ad 0), .int x1, .int x2] (PreC (wsC cy nt ad) D cy A X g0)) (va_Qi Q (PostG (wsC cy nt ad) D A) A) 0 0 A := by
  unfold vv_X7_run at hd
  refine Met.ofW (cc := cX7_run) (maxL := 4) (ret := (some .int)) (by decide) rfl ?_
  intro p e s m args below meth c s₁ B hml hv
  obtain ⟨rfl, ⟨hP, hK0, hD⟩, KX⟩ := hv
  have K : Kx p s m _ meth c cX7_run 4 RX7 D cy := ⟨B.exec, B.bytes, hml, findClass_of_methodNamed B.named, fun w h => atoms_spec (ws := Cond.code yX7_run cX7_run 4 (some .int) :: TT) B.pre w (List.mem_cons_of_mem _ h), hK0, B.notSynchronized⟩
  have hw : Wd D A s.heap (wsC cy nt ad g0) s.heap [] := ⟨hP, hD, va_S.rf⟩
  have hr := B.returns
  have hl := lv_entry ([.ref (ad 0), .int x1, .int x2]) (n := 4) (Nat.le_of_ble_eq_true rfl)
  rw [lg_entry_eq]
  generalize (lg_sl ([.ref (ad 0), .int x1, .int x2]) ++ List.replicate (4 - (lg_sl ([.ref (ad 0), .int x1, .int x2])).length) Slot.unset).toArray = ls at hl ⊢
  have hl : lv_has ls 4 [(0, .ref (ad 0)), (1, .int x1), (2, .int x2)] := hl
  refine lv_iload_n K.1 K.2.1 dX7_run_0 rfl (lv_at hl 1 rfl) ?_
  refine lv_if_lt (tgt := 20) K.1 K.2.1 dX7_run_1 (by decide) (fun h_1 => ?_) (fun h_1 => ?_)
  · have hd := hd.1 h_1
    refine lv_bipush (v := (-2 : Int32)) K.1 K.2.1 dX7_run_20 (by decide) ?_
    exact rk_iret K hw hr hd dX7_run_22
  · have hd := hd.2 h_1
    refine lv_iload_n K.1 K.2.1 dX7_run_4 rfl (lv_at hl 1 rfl) ?_
    refine lv_bipush (v := (40 : Int32)) K.1 K.2.1 dX7_run_5 (by decide) ?_
    refine lv_icmp_gt (tgt := 20) K.1 K.2.1 dX7_run_7 (by decide) (fun h_2 => ?_) (fun h_2 => ?_)
    · have hd := hd.1 h_2
      refine lv_bipush (v := (-2 : Int32)) K.1 K.2.1 dX7_run_20 (by decide) ?_
      exact rk_iret K hw hr hd dX7_run_22
    · have hd := hd.2 h_2
      refine lv_iload_n K.1 K.2.1 dX7_run_10 rfl (lv_at hl 2 rfl) ?_
      refine lv_if_lt (tgt := 20) K.1 K.2.1 dX7_run_11 (by decide) (fun h_3 => ?_) (fun h_3 => ?_)
      · have hd := hd.1 h_3
        refine lv_bipush (v := (-2 : Int32)) K.1 K.2.1 dX7_run_20 (by decide) ?_
        exact rk_iret K hw hr hd dX7_run_22
      · have hd := hd.2 h_3
        refine lv_iload_n K.1 K.2.1 dX7_run_14 rfl (lv_at hl 2 rfl) ?_
        refine lv_bipush (v := (8 : Int32)) K.1 K.2.1 dX7_run_15 (by decide) ?_
        refine lv_icmp_le (tgt := 23) K.1 K.2.1 dX7_run_17 (by decide) (fun h_4 => ?_) (fun h_4 => ?_)
        · have hd := hd.1 h_4
          refine lv_aload_n K.1 K.2.1 dX7_run_23 rfl (lv_at hl 0 rfl) ?_
          refine rc_get layX7 (ci := 7) rfl 2 (by decide) (v := .ref (ad 3)) K hw (wc_O cy nt ad _) kf_X7_19 rfl dX7_run_24 ?_
          refine lv_aload_n K.1 K.2.1 dX7_run_27 rfl (lv_at hl 0 rfl) ?_
          refine rc_get layX7 (ci := 7) rfl 0 (by decide) (v := .ref (ad 1)) K hw (wc_O cy nt ad _) kf_X7_10 rfl dX7_run_28 ?_
          refine rkc_vv (As := [.ref (ad 1)]) (rest := []) K KX hw (cc_X0_become l D cy nt ad A X g0 _ 3 1 hd) lk_X7_204 (ci := 0) rfl (wc_B cy nt ad _ ⟨by decide, by decide⟩) ⟨Nat.le_of_ble_eq_true rfl, Nat.le_of_ble_eq_true rfl⟩ ⟨Nat.zero_le _, Nat.zero_le _⟩ rfl hl.1 (Nat.le_of_ble_eq_true rfl) rfl dX7_run_31 (fun g_5 H locs hd hw => ?_)
          refine lv_iconst (v := (0 : Int32)) K.1 K.2.1 dX7_run_34 (by decide) ?_
          refine lv_topi (fun x3_7 ex3_7 => ?_)
          have hd := hd x3_7 ex3_7
          refine lv_istore_n (lv' := [(3, .int x3_7), (0, .ref (ad 0)), (1, .int x1), (2, .int x2)]) K.1 K.2.1 dX7_run_35 rfl hl (by decide) rfl (fun ls hl => ?_)
          obtain ⟨n9, hd⟩ := hd
          exact bb_X7_run_36 K KX hr   n9 x1 x2 x3_7 g_5 _ _ _  hd hw (lv_sub hl [1, 2, 3, 0] rfl)
        · have hd := hd.2 h_4
          refine lv_bipush (v := (-2 : Int32)) K.1 K.2.1 dX7_run_20 (by decide) ?_
          exact rk_iret K hw hr hd dX7_run_22
theorem dX7_stands_0 : decode cX7_stands 0 = .ok (.aload_n 0, 1) := by decide +kernel
theorem dX7_stands_1 : decode cX7_stands 1 = .ok (.iload_n 1, 1) := by decide +kernel
theorem dX7_stands_2 : decode cX7_stands 2 = .ok (.invokevirtual 85, 3) := by decide +kernel
theorem dX7_stands_5 : decode cX7_stands 5 = .ok (.ifCond .eq 22, 3) := by decide +kernel
theorem dX7_stands_8 : decode cX7_stands 8 = .ok (.aload_n 0, 1) := by decide +kernel
theorem dX7_stands_9 : decode cX7_stands 9 = .ok (.getfield 10, 3) := by decide +kernel
theorem dX7_stands_12 : decode cX7_stands 12 = .ok (.getfield 106, 3) := by decide +kernel
theorem dX7_stands_15 : decode cX7_stands 15 = .ok (.iload_n 1, 1) := by decide +kernel
theorem dX7_stands_16 : decode cX7_stands 16 = .ok (.aaload, 1) := by decide +kernel
theorem dX7_stands_17 : decode cX7_stands 17 = .ok (.getfield 151, 3) := by decide +kernel
theorem dX7_stands_20 : decode cX7_stands 20 = .ok (.ifCond .ne 7, 3) := by decide +kernel
theorem dX7_stands_23 : decode cX7_stands 23 = .ok (.iconst 1, 1) := by decide +kernel
theorem dX7_stands_24 : decode cX7_stands 24 = .ok (.goto 4, 3) := by decide +kernel
theorem dX7_stands_27 : decode cX7_stands 27 = .ok (.iconst 0, 1) := by decide +kernel
theorem dX7_stands_28 : decode cX7_stands 28 = .ok (.ireturn, 1) := by decide +kernel
set_option maxHeartbeats 4000000 in
set_option maxRecDepth 100000 in
theorem cc_X7_stands (l : Launch) (D : va_G) (cy : Nat → ClassId) (nt : Nat) (ad : Nat → Nat) (A : Nat → Prop) (X : Nat → Nat)  (g0 : Sg) (Q : Int32 → Sg → Prop) (x1 : Int32) (hd : vv_X7_stands nt x1 g0 Q) : Met l yX7_stands (Cond.code yX7_stands cX7_stands 2 (some .boolean) :: TT) (rmD 2) (va_Pc [.ref (ad 0), .int x1] (PreC (wsC cy nt ad) D cy A X g0)) (va_Qi Q (PostG (wsC cy nt ad) D A) A) 0 0 A := by
  unfold vv_X7_stands at hd
  refine Met.ofW (cc := cX7_stands) (maxL := 2) (ret := (some .boolean)) (by decide) rfl ?_
  intro p e s m args below meth c s₁ B hml hv
  obtain ⟨rfl, ⟨hP, hK0, hD⟩, KX⟩ := hv
  have K : Kx p s m _ meth c cX7_stands 2 RX7 D cy := ⟨B.exec, B.bytes, hml, findClass_of_methodNamed B.named, fun w h => atoms_spec (ws := Cond.code yX7_stands cX7_stands 2 (some .boolean) :: TT) B.pre w (List.mem_cons_of_mem _ h), hK0, B.notSynchronized⟩
  have hw : Wd D A s.heap (wsC cy nt ad g0) s.heap [] := ⟨hP, hD, va_S.rf⟩
  have hr := B.returns
  have hl := lv_entry ([.ref (ad 0), .int x1]) (n := 2) (Nat.le_of_ble_eq_true rfl)
  rw [lg_entry_eq]
  generalize (lg_sl ([.ref (ad 0), .int x1]) ++ List.replicate (2 - (lg_sl ([.ref (ad 0), .int x1])).length) Slot.unset).toArray = ls at hl ⊢
  have hl : lv_has ls 2 [(0, .ref (ad 0)), (1, .int x1)] := hl
  refine lv_aload_n K.1 K.2.1 dX7_stands_0 rfl (lv_at hl 0 rfl) ?_
  refine lv_iload_n K.1 K.2.1 dX7_stands_1 rfl (lv_at hl 1 rfl) ?_
  refine rkc_vi (As := [.int x1]) (rest := []) K KX hw (cc_X7_isPaper l D cy nt ad A X g0 _ x1 hd) lk_X7_85 (ci := 7) rfl (wc_O cy nt ad _) ⟨Nat.le_of_ble_eq_true rfl, Nat.le_of_ble_eq_true rfl⟩ ⟨Nat.zero_le _, Nat.zero_le _⟩ rfl hl.1 (Nat.le_of_ble_eq_true rfl) rfl dX7_stands_2 (fun r_2 g_1 H locs hd hw => ?_)
  refine lv_if_eq (tgt := 27) K.1 K.2.1 dX7_stands_5 (by decide) (fun h_3 => ?_) (fun h_3 => ?_)
  · have hd := hd.1 h_3
    refine lv_iconst (v := (0 : Int32)) K.1 K.2.1 dX7_stands_27 (by decide) ?_
    exact rk_zret K hw hr (by decide) hd dX7_stands_28
  · have hd := hd.2 h_3
    refine lv_aload_n K.1 K.2.1 dX7_stands_8 rfl (lv_at hl 0 rfl) ?_
    refine rc_get layX7 (ci := 7) rfl 0 (by decide) (v := .ref (ad 1)) K hw (wc_O cy nt ad _) kf_X7_10 rfl dX7_stands_9 ?_
    refine rc_get layX0 (ci := 0) rfl 4 (by decide) (v := .ref (ad 4)) K hw (wc_B cy nt ad _ ⟨by decide, by decide⟩) kf_X7_106 rfl dX7_stands_12 ?_
    refine lv_iload_n K.1 K.2.1 dX7_stands_15 rfl (lv_at hl 1 rfl) ?_
    have hb_4 := hd.1
    have hd := hd.2
    refine rc_aald (t0 := 2) (b := ad (pp 4 x1)) K hw (wc_R cy nt ad _ ⟨by decide, by decide⟩) rfl rfl hb_4 dX7_stands_16 ?_
    refine rc_get layX1 (ci := 1) rfl 5 (by decide) (v := .int (g_1 (pp 4 x1) 5)) K hw (wc_P cy nt ad _ (tR_P ⟨by decide, by decide⟩ hb_4)) kf_X7_151 rfl dX7_stands_17 ?_
    refine lv_if_ne (tgt := 27) K.1 K.2.1 dX7_stands_20 (by decide) (fun h_5 => ?_) (fun h_5 => ?_)
    · have hd := hd.1 h_5
      refine lv_iconst (v := (0 : Int32)) K.1 K.2.1 dX7_stands_27 (by decide) ?_
      exact rk_zret K hw hr (by decide) hd dX7_stands_28
    · have hd := hd.2 h_5
      refine lv_iconst (v := (1 : Int32)) K.1 K.2.1 dX7_stands_23 (by decide) ?_
      refine lv_goto (tgt := 28) K.1 K.2.1 dX7_stands_24 (by decide) ?_
      exact rk_zret K hw hr (by decide) hd dX7_stands_28
theorem dX7_weighCoalitions_0 : decode cX7_weighCoalitions 0 = .ok (.aload_n 0, 1) := by decide +kernel
theorem dX7_weighCoalitions_1 : decode cX7_weighCoalitions 1 = .ok (.aload_n 0, 1) := by decide +kernel
theorem dX7_weighCoalitions_2 : decode cX7_weighCoalitions 2 = .ok (.getfield 10, 3) := by decide +kernel
theorem dX7_weighCoalitions_5 : decode cX7_weighCoalitions 5 = .ok (.invokevirtual 164, 3) := by decide +kernel
theorem dX7_weighCoalitions_8 : decode cX7_weighCoalitions 8 = .ok (.aload_n 0, 1) := by decide +kernel
theorem dX7_weighCoalitions_9 : decode cX7_weighCoalitions 9 = .ok (.getfield 60, 3) := by decide +kernel
theorem dX7_weighCoalitions_12 : decode cX7_weighCoalitions 12 = .ok (.invokevirtual 342, 3) := by decide +kernel
theorem dX7_weighCoalitions_15 : decode cX7_weighCoalitions 15 = .ok (.return_, 1) := by decide +kernel
set_option maxHeartbeats 4000000 in
set_option maxRecDepth 100000 in
theorem cc_X7_weighCoalitions (l : Launch) (D : va_G) (cy : Nat → ClassId) (nt : Nat) (ad : Nat → Nat) (A : Nat → Prop) (X : Nat → Nat)  (g0 : Sg) (Q : Sg → Prop)  (hd : vv_X7_weighCoalitions nt  g0 Q) : Met l yX7_weighCoalitions (Cond.code yX7_weighCoalitions cX7_weighCoalitions 1 none :: TT) (rmD 5) (va_Pc [.ref (ad 0)] (PreC (wsC cy nt ad) D cy A X g0)) (va_Qv Q (PostG (wsC cy nt ad) D A) A) 0 0 A := by
  unfold vv_X7_weighCoalitions at hd
  refine Met.ofW (cc := cX7_weighCoalitions) (maxL := 1) (ret := none) (by decide) rfl ?_
  intro p e s m args below meth c s₁ B hml hv
  obtain ⟨rfl, ⟨hP, hK0, hD⟩, KX⟩ := hv
  have K : Kx p s m _ meth c cX7_weighCoalitions 1 RX7 D cy := ⟨B.exec, B.bytes, hml, findClass_of_methodNamed B.named, fun w h => atoms_spec (ws := Cond.code yX7_weighCoalitions cX7_weighCoalitions 1 none :: TT) B.pre w (List.mem_cons_of_mem _ h), hK0, B.notSynchronized⟩
  have hw : Wd D A s.heap (wsC cy nt ad g0) s.heap [] := ⟨hP, hD, va_S.rf⟩
  have hr := B.returns
  have hl := lv_entry ([.ref (ad 0)]) (n := 1) (Nat.le_of_ble_eq_true rfl)
  rw [lg_entry_eq]
  generalize (lg_sl ([.ref (ad 0)]) ++ List.replicate (1 - (lg_sl ([.ref (ad 0)])).length) Slot.unset).toArray = ls at hl ⊢
  have hl : lv_has ls 1 [(0, .ref (ad 0))] := hl
  refine lv_aload_n K.1 K.2.1 dX7_weighCoalitions_0 rfl (lv_at hl 0 rfl) ?_
  refine lv_aload_n K.1 K.2.1 dX7_weighCoalitions_1 rfl (lv_at hl 0 rfl) ?_
  refine rc_get layX7 (ci := 7) rfl 0 (by decide) (v := .ref (ad 1)) K hw (wc_O cy nt ad _) kf_X7_10 rfl dX7_weighCoalitions_2 ?_
  refine rkc_vv (As := [.ref (ad 1)]) (rest := []) K KX hw (cc_X7_weighAll l D cy nt ad A X g0 _ 1 hd) lk_X7_164 (ci := 7) rfl (wc_O cy nt ad _) ⟨Nat.le_of_ble_eq_true rfl, Nat.le_of_ble_eq_true rfl⟩ ⟨Nat.zero_le _, Nat.zero_le _⟩ rfl hl.1 (Nat.le_of_ble_eq_true rfl) rfl dX7_weighCoalitions_5 (fun g_1 H locs hd hw => ?_)
  refine lv_aload_n K.1 K.2.1 dX7_weighCoalitions_8 rfl (lv_at hl 0 rfl) ?_
  refine rc_get layX7 (ci := 7) rfl 10 (by decide) (v := .ref (ad 22)) K hw (wc_O cy nt ad _) kf_X7_60 rfl dX7_weighCoalitions_9 ?_
  refine rkc_vv (As := []) (rest := []) K KX hw (cc_X4_addUp l D cy nt ad A X g_1 _  hd) lk_X7_342 (ci := 4) rfl (wc_Ta cy nt ad _) ⟨Nat.le_of_ble_eq_true rfl, Nat.le_of_ble_eq_true rfl⟩ ⟨Nat.zero_le _, Nat.zero_le _⟩ rfl hl.1 (Nat.le_of_ble_eq_true rfl) rfl dX7_weighCoalitions_12 (fun g_3 H locs hd hw => ?_)
  exact rk_vret K hw hr hd dX7_weighCoalitions_15
theorem dX7_decides_0 : decode cX7_decides 0 = .ok (.iload_n 1, 1) := by decide +kernel
theorem dX7_decides_1 : decode cX7_decides 1 = .ok (.aload_n 0, 1) := by decide +kernel
theorem dX7_decides_2 : decode cX7_decides 2 = .ok (.getfield 10, 3) := by decide +kernel
theorem dX7_decides_5 : decode cX7_decides 5 = .ok (.getfield 103, 3) := by decide +kernel
theorem dX7_decides_8 : decode cX7_decides 8 = .ok (.if_icmp .ge 20, 3) := by decide +kernel
theorem dX7_decides_11 : decode cX7_decides 11 = .ok (.iload_n 1, 1) := by decide +kernel
theorem dX7_decides_12 : decode cX7_decides 12 = .ok (.iload_n 2, 1) := by decide +kernel
theorem dX7_decides_13 : decode cX7_decides 13 = .ok (.iadd, 1) := by decide +kernel
theorem dX7_decides_14 : decode cX7_decides 14 = .ok (.aload_n 0, 1) := by decide +kernel
theorem dX7_decides_15 : decode cX7_decides 15 = .ok (.getfield 10, 3) := by decide +kernel
theorem dX7_decides_18 : decode cX7_decides 18 = .ok (.getfield 103, 3) := by decide +kernel
theorem dX7_decides_21 : decode cX7_decides 21 = .ok (.if_icmp .lt 7, 3) := by decide +kernel
theorem dX7_decides_24 : decode cX7_decides 24 = .ok (.iconst 1, 1) := by decide +kernel
theorem dX7_decides_25 : decode cX7_decides 25 = .ok (.goto 4, 3) := by decide +kernel
theorem dX7_decides_28 : decode cX7_decides 28 = .ok (.iconst 0, 1) := by decide +kernel
theorem dX7_decides_29 : decode cX7_decides 29 = .ok (.ireturn, 1) := by decide +kernel
set_option maxHeartbeats 4000000 in
set_option maxRecDepth 100000 in
theorem cc_X7_decides (l : Launch) (D : va_G) (cy : Nat → ClassId) (nt : Nat) (ad : Nat → Nat) (A : Nat → Prop) (X : Nat → Nat)  (g0 : Sg) (Q : Int32 → Sg → Prop) (x1 : Int32) (x2 : Int32) (hd : vv_X7_decides nt x1 x2 g0 Q) : Met l yX7_decides (Cond.code yX7_decides cX7_decides 3 (some .boolean) :: TT) (rmD 1) (va_Pc [.ref (ad 0), .int x1, .int x2] (PreC (wsC cy nt ad) D cy A X g0)) (va_Qi Q (PostG (wsC cy nt ad) D A) A) 0 0 A := by
  unfold vv_X7_decides at hd
  refine Met.ofW (cc := cX7_decides) (maxL := 3) (ret := (some .boolean)) (by decide) rfl ?_
  intro p e s m args below meth c s₁ B hml hv
  obtain ⟨rfl, ⟨hP, hK0, hD⟩, KX⟩ := hv
  have K : Kx p s m _ meth c cX7_decides 3 RX7 D cy := ⟨B.exec, B.bytes, hml, findClass_of_methodNamed B.named, fun w h => atoms_spec (ws := Cond.code yX7_decides cX7_decides 3 (some .boolean) :: TT) B.pre w (List.mem_cons_of_mem _ h), hK0, B.notSynchronized⟩
  have hw : Wd D A s.heap (wsC cy nt ad g0) s.heap [] := ⟨hP, hD, va_S.rf⟩
  have hr := B.returns
  have hl := lv_entry ([.ref (ad 0), .int x1, .int x2]) (n := 3) (Nat.le_of_ble_eq_true rfl)
  rw [lg_entry_eq]
  generalize (lg_sl ([.ref (ad 0), .int x1, .int x2]) ++ List.replicate (3 - (lg_sl ([.ref (ad 0), .int x1, .int x2])).length) Slot.unset).toArray = ls at hl ⊢
  have hl : lv_has ls 3 [(0, .ref (ad 0)), (1, .int x1), (2, .int x2)] := hl
  refine lv_iload_n K.1 K.2.1 dX7_decides_0 rfl (lv_at hl 1 rfl) ?_
  refine lv_aload_n K.1 K.2.1 dX7_decides_1 rfl (lv_at hl 0 rfl) ?_
  refine rc_get layX7 (ci := 7) rfl 0 (by decide) (v := .ref (ad 1)) K hw (wc_O cy nt ad _) kf_X7_10 rfl dX7_decides_2 ?_
  refine rc_get layX0 (ci := 0) rfl 3 (by decide) (v := .int (g0 1 3)) K hw (wc_B cy nt ad _ ⟨by decide, by decide⟩) kf_X7_103 rfl dX7_decides_5 ?_
  refine lv_icmp_ge (tgt := 28) K.1 K.2.1 dX7_decides_8 (by decide) (fun h_1 => ?_) (fun h_1 => ?_)
  · have hd := hd.1 h_1
    refine lv_iconst (v := (0 : Int32)) K.1 K.2.1 dX7_decides_28 (by decide) ?_
    exact rk_zret K hw hr (by decide) hd dX7_decides_29
  · have hd := hd.2 h_1
    refine lv_iload_n K.1 K.2.1 dX7_decides_11 rfl (lv_at hl 1 rfl) ?_
    refine lv_iload_n K.1 K.2.1 dX7_decides_12 rfl (lv_at hl 2 rfl) ?_
    refine lv_iadd K.1 K.2.1 dX7_decides_13 ?_
    refine lv_aload_n K.1 K.2.1 dX7_decides_14 rfl (lv_at hl 0 rfl) ?_
    refine rc_get layX7 (ci := 7) rfl 0 (by decide) (v := .ref (ad 1)) K hw (wc_O cy nt ad _) kf_X7_10 rfl dX7_decides_15 ?_
    refine rc_get layX0 (ci := 0) rfl 3 (by decide) (v := .int (g0 1 3)) K hw (wc_B cy nt ad _ ⟨by decide, by decide⟩) kf_X7_103 rfl dX7_decides_18 ?_
    refine lv_icmp_lt (tgt := 28) K.1 K.2.1 dX7_decides_21 (by decide) (fun h_2 => ?_) (fun h_2 => ?_)
    · have hd := hd.1 h_2
      refine lv_iconst (v := (0 : Int32)) K.1 K.2.1 dX7_decides_28 (by decide) ?_
      exact rk_zret K hw hr (by decide) hd dX7_decides_29
    · have hd := hd.2 h_2
      refine lv_iconst (v := (1 : Int32)) K.1 K.2.1 dX7_decides_24 (by decide) ?_
      refine lv_goto (tgt := 29) K.1 K.2.1 dX7_decides_25 (by decide) ?_
      exact rk_zret K hw hr (by decide) hd dX7_decides_29
theorem dX7_often_0 : decode cX7_often 0 = .ok (.aload_n 0, 1) := by decide +kernel
theorem dX7_often_1 : decode cX7_often 1 = .ok (.iload_n 1, 1) := by decide +kernel
theorem dX7_often_2 : decode cX7_often 2 = .ok (.invokevirtual 212, 3) := by decide +kernel
theorem dX7_often_5 : decode cX7_often 5 = .ok (.ifCond .ne 6, 3) := by decide +kernel
theorem dX7_often_8 : decode cX7_often 8 = .ok (.bipush (-2), 2) := by decide +kernel
theorem dX7_often_10 : decode cX7_often 10 = .ok (.ireturn, 1) := by decide +kernel
theorem dX7_often_11 : decode cX7_often 11 = .ok (.aload_n 0, 1) := by decide +kernel
theorem dX7_often_12 : decode cX7_often 12 = .ok (.invokevirtual 215, 3) := by decide +kernel
theorem dX7_often_15 : decode cX7_often 15 = .ok (.aload_n 0, 1) := by decide +kernel
theorem dX7_often_16 : decode cX7_often 16 = .ok (.getfield 60, 3) := by decide +kernel
theorem dX7_often_19 : decode cX7_often 19 = .ok (.getfield 218, 3) := by decide +kernel
theorem dX7_often_22 : decode cX7_often 22 = .ok (.iconst 1, 1) := by decide +kernel
theorem dX7_often_23 : decode cX7_often 23 = .ok (.iload_n 1, 1) := by decide +kernel
theorem dX7_often_24 : decode cX7_often 24 = .ok (.ishl, 1) := by decide +kernel
theorem dX7_often_25 : decode cX7_often 25 = .ok (.iconst (-1), 1) := by decide +kernel
theorem dX7_often_26 : decode cX7_often 26 = .ok (.ixor, 1) := by decide +kernel
theorem dX7_often_27 : decode cX7_often 27 = .ok (.iand, 1) := by decide +kernel
theorem dX7_often_28 : decode cX7_often 28 = .ok (.istore_n 2, 1) := by decide +kernel
theorem dX7_often_29 : decode cX7_often 29 = .ok (.iconst 0, 1) := by decide +kernel
theorem dX7_often_30 : decode cX7_often 30 = .ok (.istore_n 3, 1) := by decide +kernel
theorem dX7_often_31 : decode cX7_often 31 = .ok (.iconst 0, 1) := by decide +kernel
theorem dX7_often_32 : decode cX7_often 32 = .ok (.istore 4, 2) := by decide +kernel
theorem dX7_often_34 : decode cX7_often 34 = .ok (.iload 4, 2) := by decide +kernel
theorem dX7_often_36 : decode cX7_often 36 = .ok (.iload_n 2, 1) := by decide +kernel
theorem dX7_often_37 : decode cX7_often 37 = .ok (.if_icmp .gt 46, 3) := by decide +kernel
theorem dX7_often_40 : decode cX7_often 40 = .ok (.iload 4, 2) := by decide +kernel
theorem dX7_often_42 : decode cX7_often 42 = .ok (.iload_n 2, 1) := by decide +kernel
theorem dX7_often_43 : decode cX7_often 43 = .ok (.iconst (-1), 1) := by decide +kernel
theorem dX7_often_44 : decode cX7_often 44 = .ok (.ixor, 1) := by decide +kernel
theorem dX7_often_45 : decode cX7_often 45 = .ok (.iand, 1) := by decide +kernel
theorem dX7_often_46 : decode cX7_often 46 = .ok (.ifCond .ne 31, 3) := by decide +kernel
theorem dX7_often_49 : decode cX7_often 49 = .ok (.aload_n 0, 1) := by decide +kernel
theorem dX7_often_50 : decode cX7_often 50 = .ok (.aload_n 0, 1) := by decide +kernel
theorem dX7_often_51 : decode cX7_often 51 = .ok (.getfield 60, 3) := by decide +kernel
theorem dX7_often_54 : decode cX7_often 54 = .ok (.iload 4, 2) := by decide +kernel
theorem dX7_often_56 : decode cX7_often 56 = .ok (.invokevirtual 221, 3) := by decide +kernel
theorem dX7_often_59 : decode cX7_often 59 = .ok (.aload_n 0, 1) := by decide +kernel
theorem dX7_often_60 : decode cX7_often 60 = .ok (.getfield 60, 3) := by decide +kernel
theorem dX7_often_63 : decode cX7_often 63 = .ok (.getfield 224, 3) := by decide +kernel
theorem dX7_often_66 : decode cX7_often 66 = .ok (.iload_n 1, 1) := by decide +kernel
theorem dX7_often_67 : decode cX7_often 67 = .ok (.iaload, 1) := by decide +kernel
theorem dX7_often_68 : decode cX7_often 68 = .ok (.invokevirtual 227, 3) := by decide +kernel
theorem dX7_often_71 : decode cX7_often 71 = .ok (.ifCond .eq 6, 3) := by decide +kernel
theorem dX7_often_74 : decode cX7_often 74 = .ok (.iinc 3 1, 3) := by decide +kernel
theorem dX7_often_77 : decode cX7_often 77 = .ok (.iinc 4 1, 3) := by decide +kernel
theorem dX7_often_80 : decode cX7_often 80 = .ok (.goto (-46), 3) := by decide +kernel
theorem dX7_often_83 : decode cX7_often 83 = .ok (.iload_n 3, 1) := by decide +kernel
theorem dX7_often_84 : decode cX7_often 84 = .ok (.ireturn, 1) := by decide +kernel
set_option maxHeartbeats 4000000 in
set_option maxRecDepth 100000 in
theorem bb_X7_often_77 {p : Program} {l : Launch} {e : Env} {s : State} {m : MethodId} {args : Array Value} {below : List Frame} {meth : Method} {c : Code} {D : va_G} {cy : Nat → ClassId} {nt : Nat} {ad : Nat → Nat} {A : Nat → Prop} {X : Nat → Nat} {Q : Int32 → Sg → Prop} (K : Kx p s m args meth c cX7_often 5 RX7 D cy) (KX : XC X A s s.heap) (hr : meth.sig.returnType = (some .int))  {rc34 : Int32 → Int32 → Int32 → Int32 → Sg → Prop} (hrc34 : ∀ (x1 : Int32) (x2 : Int32) (x3 : Int32) (x4 : Int32) (u : Sg) (H : Heap) (locs : List Loc) (ls : Array Slot), rc34 x1 x2 x3 x4 u → Wd D A s.heap (wsC cy nt ad u) H locs → lv_has ls 5 [(0, .ref (ad 0)), (1, .int x1), (2, .int x2), (3, .int x3), (4, .int x4)] → W p l e (rmD 6) s m args below meth c H locs 0 0 (MQ below (va_Qi Q (PostG (wsC cy nt ad) D A) A) args s 0 0 A) (F0 m 34 ls [])) (x1 : Int32) (x2 : Int32) (x3 : Int32) (x4 : Int32)  (g0 : Sg) (H : Heap) (locs : List Loc) (ls : Array Slot) (hd : vv_X7_often_J77 nt rc34 x1 x2 x3 x4 g0 Q) (hw : Wd D A s.heap (wsC cy nt ad g0) H locs) (hl : lv_has ls 5 [(0, .ref (ad 0)), (1, .int x1), (2, .int x2), (3, .int x3), (4, .int x4)]) : W p l e (rmD 6) s m args below meth c H locs 0 0 (MQ below (va_Qi Q (PostG (wsC cy nt ad) D A) A) args s 0 0 A) (F0 m 77 ls []) := by
  unfold vv_X7_often_J77 at hd
  obtain ⟨x4_11, ex4_11⟩ : ∃ y : Int32, y = x4 + (1 : Int32) := ⟨_, rfl⟩
  have hd := hd x4_11 ex4_11
  refine lv_iinc (v := x4_11) (lv' := [(4, .int x4_11), (0, .ref (ad 0)), (1, .int x1), (2, .int x2), (3, .int x3)]) K.1 K.2.1 dX7_often_77 hl (k := 4) rfl (by rw [ex4_11]; rfl) (by decide) rfl (fun ls hl => ?_)
  refine lv_goto (tgt := 34) K.1 K.2.1 dX7_often_80 (by decide) ?_
  exact hrc34 x1 x2 x3 x4_11 g0 _ _ _  hd hw (lv_sub hl [1, 2, 3, 4, 0] rfl)
set_option maxHeartbeats 4000000 in
set_option maxRecDepth 100000 in
theorem bb_X7_often_34 {p : Program} {l : Launch} {e : Env} {s : State} {m : MethodId} {args : Array Value} {below : List Frame} {meth : Method} {c : Code} {D : va_G} {cy : Nat → ClassId} {nt : Nat} {ad : Nat → Nat} {A : Nat → Prop} {X : Nat → Nat} {Q : Int32 → Sg → Prop} (K : Kx p s m args meth c cX7_often 5 RX7 D cy) (KX : XC X A s s.heap) (hr : meth.sig.returnType = (some .int))  : ∀ (n : Nat) (x1 : Int32) (x2 : Int32) (x3 : Int32) (x4 : Int32)  (g0 : Sg) (H : Heap) (locs : List Loc) (ls : Array Slot), vv_X7_often_L34 nt Q n x1 x2 x3 x4 g0 → Wd D A s.heap (wsC cy nt ad g0) H locs → lv_has ls 5 [(0, .ref (ad 0)), (1, .int x1), (2, .int x2), (3, .int x3), (4, .int x4)] → W p l e (rmD 6) s m args below meth c H locs 0 0 (MQ below (va_Qi Q (PostG (wsC cy nt ad) D A) A) args s 0 0 A) (F0 m 34 ls []) := by
  intro n
  induction n with
  | zero => intro _ _ _ _ _ _ _ _ hd; exact hd.elim
  | succ n ih =>
    intro x1 x2 x3 x4 g0 H locs ls  hd hw hl
    unfold vv_X7_often_L34 at hd
    refine lv_iload K.1 K.2.1 dX7_often_34 (lv_at hl 4 rfl) ?_
    refine lv_iload_n K.1 K.2.1 dX7_often_36 rfl (lv_at hl 2 rfl) ?_
    refine lv_icmp_gt (tgt := 83) K.1 K.2.1 dX7_often_37 (by decide) (fun h_9 => ?_) (fun h_9 => ?_)
    · have hd := hd.1 h_9
      refine lv_iload_n K.1 K.2.1 dX7_often_83 rfl (lv_at hl 3 rfl) ?_
      exact rk_iret K hw hr hd dX7_often_84
    · have hd := hd.2 h_9
      refine lv_iload K.1 K.2.1 dX7_often_40 (lv_at hl 4 rfl) ?_
      refine lv_iload_n K.1 K.2.1 dX7_often_42 rfl (lv_at hl 2 rfl) ?_
      refine lv_iconst (v := (-1 : Int32)) K.1 K.2.1 dX7_often_43 (by decide) ?_
      refine lv_ixor K.1 K.2.1 dX7_often_44 ?_
      refine lv_iand K.1 K.2.1 dX7_often_45 ?_
      refine lv_if_ne (tgt := 77) K.1 K.2.1 dX7_often_46 (by decide) (fun h_10 => ?_) (fun h_10 => ?_)
      · have hd := hd.1 h_10
        exact bb_X7_often_77 K KX hr  ih x1 x2 x3 x4 g0 _ _ _  hd hw (lv_sub hl [0, 1, 2, 3, 4] rfl)
      · have hd := hd.2 h_10
        refine lv_aload_n K.1 K.2.1 dX7_often_49 rfl (lv_at hl 0 rfl) ?_
        refine lv_aload_n K.1 K.2.1 dX7_often_50 rfl (lv_at hl 0 rfl) ?_
        refine rc_get layX7 (ci := 7) rfl 10 (by decide) (v := .ref (ad 22)) K hw (wc_O cy nt ad _) kf_X7_60 rfl dX7_often_51 ?_
        refine lv_iload K.1 K.2.1 dX7_often_54 (lv_at hl 4 rfl) ?_
        refine rkc_vi (As := [.int x4]) (rest := [.ref (ad 0)]) K KX hw (cc_X4_weightOfSet l D cy nt ad A X g0 _ x4 hd) lk_X7_221 (ci := 4) rfl (wc_Ta cy nt ad _) ⟨Nat.le_of_ble_eq_true rfl, Nat.le_of_ble_eq_true rfl⟩ ⟨Nat.zero_le _, Nat.zero_le _⟩ rfl hl.1 (Nat.le_of_ble_eq_true rfl) rfl dX7_often_56 (fun r_13 g_12 H locs hd hw => ?_)
        refine lv_aload_n K.1 K.2.1 dX7_often_59 rfl (lv_at hl 0 rfl) ?_
        refine rc_get layX7 (ci := 7) rfl 10 (by decide) (v := .ref (ad 22)) K hw (wc_O cy nt ad _) kf_X7_60 rfl dX7_often_60 ?_
        refine rc_get layX4 (ci := 4) rfl 3 (by decide) (v := .ref (ad 23)) K hw (wc_Ta cy nt ad _) kf_X7_224 rfl dX7_often_63 ?_
        refine lv_iload_n K.1 K.2.1 dX7_often_66 rfl (lv_at hl 1 rfl) ?_
        have hb := hd.1
        have hd := hd.2
        refine rc_iald K hw (wc_23 cy nt ad _) hb dX7_often_67 ?_
        refine rkc_vi (As := [.int r_13, .int (g_12 23 x1.toNatClampNeg)]) (rest := []) K KX hw (cc_X7_decides l D cy nt ad A X g_12 _ r_13 (g_12 23 x1.toNatClampNeg) hd) lk_X7_227 (ci := 7) rfl (wc_O cy nt ad _) ⟨Nat.le_of_ble_eq_true rfl, Nat.le_of_ble_eq_true rfl⟩ ⟨Nat.zero_le _, Nat.zero_le _⟩ rfl hl.1 (Nat.le_of_ble_eq_true rfl) rfl dX7_often_68 (fun r_15 g_14 H locs hd hw => ?_)
        refine lv_if_eq (tgt := 77) K.1 K.2.1 dX7_often_71 (by decide) (fun h_16 => ?_) (fun h_16 => ?_)
        · have hd := hd.1 h_16
          exact bb_X7_often_77 K KX hr  ih x1 x2 x3 x4 g_14 _ _ _  hd hw (lv_sub hl [0, 1, 2, 3, 4] rfl)
        · have hd := hd.2 h_16
          obtain ⟨x3_17, ex3_17⟩ : ∃ y : Int32, y = x3 + (1 : Int32) := ⟨_, rfl⟩
          have hd := hd x3_17 ex3_17
          refine lv_iinc (v := x3_17) (lv' := [(3, .int x3_17), (0, .ref (ad 0)), (1, .int x1), (2, .int x2), (4, .int x4)]) K.1 K.2.1 dX7_often_74 hl (k := 3) rfl (by rw [ex3_17]; rfl) (by decide) rfl (fun ls hl => ?_)
          exact bb_X7_often_77 K KX hr  ih x1 x2 x3_17 x4 g_14 _ _ _  hd hw (lv_sub hl [1, 2, 3, 0, 4] rfl)
set_option maxHeartbeats 4000000 in
set_option maxRecDepth 100000 in
theorem cc_X7_often (l : Launch) (D : va_G) (cy : Nat → ClassId) (nt : Nat) (ad : Nat → Nat) (A : Nat → Prop) (X : Nat → Nat)  (g0 : Sg) (Q : Int32 → Sg → Prop) (x1 : Int32) (hd : vv_X7_often nt x1 g0 Q) : Met l yX7_often (Cond.code yX7_often cX7_often 5 (some .int) :: TT) (rmD 6) (va_Pc [.ref (ad 0), .int x1] (PreC (wsC cy nt ad) D cy A X g0)) (va_Qi Q (PostG (wsC cy nt ad) D A) A) 0 0 A := by
  unfold vv_X7_often at hd
  refine Met.ofW (cc := cX7_often) (maxL := 5) (ret := (some .int)) (by decide) rfl ?_
  intro p e s m args below meth c s₁ B hml hv
  obtain ⟨rfl, ⟨hP, hK0, hD⟩, KX⟩ := hv
  have K : Kx p s m _ meth c cX7_often 5 RX7 D cy := ⟨B.exec, B.bytes, hml, findClass_of_methodNamed B.named, fun w h => atoms_spec (ws := Cond.code yX7_often cX7_often 5 (some .int) :: TT) B.pre w (List.mem_cons_of_mem _ h), hK0, B.notSynchronized⟩
  have hw : Wd D A s.heap (wsC cy nt ad g0) s.heap [] := ⟨hP, hD, va_S.rf⟩
  have hr := B.returns
  have hl := lv_entry ([.ref (ad 0), .int x1]) (n := 5) (Nat.le_of_ble_eq_true rfl)
  rw [lg_entry_eq]
  generalize (lg_sl ([.ref (ad 0), .int x1]) ++ List.replicate (5 - (lg_sl ([.ref (ad 0), .int x1])).length) Slot.unset).toArray = ls at hl ⊢
  have hl : lv_has ls 5 [(0, .ref (ad 0)), (1, .int x1)] := hl
  refine lv_aload_n K.1 K.2.1 dX7_often_0 rfl (lv_at hl 0 rfl) ?_
  refine lv_iload_n K.1 K.2.1 dX7_often_1 rfl (lv_at hl 1 rfl) ?_
  refine rkc_vi (As := [.int x1]) (rest := []) K KX hw (cc_X7_stands l D cy nt ad A X g0 _ x1 hd) lk_X7_212 (ci := 7) rfl (wc_O cy nt ad _) ⟨Nat.le_of_ble_eq_true rfl, Nat.le_of_ble_eq_true rfl⟩ ⟨Nat.zero_le _, Nat.zero_le _⟩ rfl hl.1 (Nat.le_of_ble_eq_true rfl) rfl dX7_often_2 (fun r_2 g_1 H locs hd hw => ?_)
  refine lv_if_ne (tgt := 11) K.1 K.2.1 dX7_often_5 (by decide) (fun h_3 => ?_) (fun h_3 => ?_)
  · have hd := hd.1 h_3
    refine lv_aload_n K.1 K.2.1 dX7_often_11 rfl (lv_at hl 0 rfl) ?_
    refine rkc_vv (As := []) (rest := []) K KX hw (cc_X7_weighCoalitions l D cy nt ad A X g_1 _  hd) lk_X7_215 (ci := 7) rfl (wc_O cy nt ad _) ⟨Nat.le_of_ble_eq_true rfl, Nat.le_of_ble_eq_true rfl⟩ ⟨Nat.zero_le _, Nat.zero_le _⟩ rfl hl.1 (Nat.le_of_ble_eq_true rfl) rfl dX7_often_12 (fun g_4 H locs hd hw => ?_)
    refine lv_aload_n K.1 K.2.1 dX7_often_15 rfl (lv_at hl 0 rfl) ?_
    refine rc_get layX7 (ci := 7) rfl 10 (by decide) (v := .ref (ad 22)) K hw (wc_O cy nt ad _) kf_X7_60 rfl dX7_often_16 ?_
    refine rc_get layX4 (ci := 4) rfl 2 (by decide) (v := .int (g_4 22 2)) K hw (wc_Ta cy nt ad _) kf_X7_218 rfl dX7_often_19 ?_
    refine lv_iconst (v := (1 : Int32)) K.1 K.2.1 dX7_often_22 (by decide) ?_
    refine lv_iload_n K.1 K.2.1 dX7_often_23 rfl (lv_at hl 1 rfl) ?_
    refine lv_ishl K.1 K.2.1 dX7_often_24 ?_
    refine lv_iconst (v := (-1 : Int32)) K.1 K.2.1 dX7_often_25 (by decide) ?_
    refine lv_ixor K.1 K.2.1 dX7_often_26 ?_
    refine lv_iand K.1 K.2.1 dX7_often_27 ?_
    refine lv_topi (fun x2_6 ex2_6 => ?_)
    have hd := hd x2_6 ex2_6
    refine lv_istore_n (lv' := [(2, .int x2_6), (0, .ref (ad 0)), (1, .int x1)]) K.1 K.2.1 dX7_often_28 rfl hl (by decide) rfl (fun ls hl => ?_)
    refine lv_iconst (v := (0 : Int32)) K.1 K.2.1 dX7_often_29 (by decide) ?_
    refine lv_topi (fun x3_7 ex3_7 => ?_)
    have hd := hd x3_7 ex3_7
    refine lv_istore_n (lv' := [(3, .int x3_7), (2, .int x2_6), (0, .ref (ad 0)), (1, .int x1)]) K.1 K.2.1 dX7_often_30 rfl hl (by decide) rfl (fun ls hl => ?_)
    refine lv_iconst (v := (0 : Int32)) K.1 K.2.1 dX7_often_31 (by decide) ?_
    refine lv_topi (fun x4_8 ex4_8 => ?_)
    have hd := hd x4_8 ex4_8
    refine lv_istore (lv' := [(4, .int x4_8), (3, .int x3_7), (2, .int x2_6), (0, .ref (ad 0)), (1, .int x1)]) K.1 K.2.1 dX7_often_32 hl (by decide) rfl (fun ls hl => ?_)
    obtain ⟨n9, hd⟩ := hd
    exact bb_X7_often_34 K KX hr   n9 x1 x2_6 x3_7 x4_8 g_4 _ _ _  hd hw (lv_sub hl [3, 4, 2, 1, 0] rfl)
  · have hd := hd.2 h_3
    refine lv_bipush (v := (-2 : Int32)) K.1 K.2.1 dX7_often_8 (by decide) ?_
    exact rk_iret K hw hr hd dX7_often_10
theorem dX7_factorial_0 : decode cX7_factorial 0 = .ok (.lconst 1, 1) := by decide +kernel
theorem dX7_factorial_1 : decode cX7_factorial 1 = .ok (.lstore_n 1, 1) := by decide +kernel
theorem dX7_factorial_2 : decode cX7_factorial 2 = .ok (.iconst 2, 1) := by decide +kernel
theorem dX7_factorial_3 : decode cX7_factorial 3 = .ok (.istore_n 3, 1) := by decide +kernel
theorem dX7_factorial_4 : decode cX7_factorial 4 = .ok (.iload_n 3, 1) := by decide +kernel
theorem dX7_factorial_5 : decode cX7_factorial 5 = .ok (.iload_n 0, 1) := by decide +kernel
theorem dX7_factorial_6 : decode cX7_factorial 6 = .ok (.if_icmp .gt 14, 3) := by decide +kernel
theorem dX7_factorial_9 : decode cX7_factorial 9 = .ok (.lload_n 1, 1) := by decide +kernel
theorem dX7_factorial_10 : decode cX7_factorial 10 = .ok (.iload_n 3, 1) := by decide +kernel
theorem dX7_factorial_11 : decode cX7_factorial 11 = .ok (.i2l, 1) := by decide +kernel
theorem dX7_factorial_12 : decode cX7_factorial 12 = .ok (.lmul, 1) := by decide +kernel
theorem dX7_factorial_13 : decode cX7_factorial 13 = .ok (.lstore_n 1, 1) := by decide +kernel
theorem dX7_factorial_14 : decode cX7_factorial 14 = .ok (.iinc 3 1, 3) := by decide +kernel
theorem dX7_factorial_17 : decode cX7_factorial 17 = .ok (.goto (-13), 3) := by decide +kernel
theorem dX7_factorial_20 : decode cX7_factorial 20 = .ok (.lload_n 1, 1) := by decide +kernel
theorem dX7_factorial_21 : decode cX7_factorial 21 = .ok (.lreturn, 1) := by decide +kernel
set_option maxHeartbeats 4000000 in
set_option maxRecDepth 100000 in
theorem bb_X7_factorial_4 {p : Program} {l : Launch} {e : Env} {s : State} {m : MethodId} {args : Array Value} {below : List Frame} {meth : Method} {c : Code} {D : va_G} {cy : Nat → ClassId} {nt : Nat} {ad : Nat → Nat} {A : Nat → Prop} {X : Nat → Nat} {Q : Int64 → Sg → Prop} (K : Kx p s m args meth c cX7_factorial 4 RX7 D cy) (KX : XC X A s s.heap) (hr : meth.sig.returnType = (some .long))  : ∀ (n : Nat) (x0 : Int32) (x1 : Int64) (x3 : Int32)  (g0 : Sg) (H : Heap) (locs : List Loc) (ls : Array Slot), vv_X7_factorial_L4 nt Q n x0 x1 x3 g0 → Wd D A s.heap (wsC cy nt ad g0) H locs → lv_has ls 4 [(0, .int x0), (1, .long x1), (3, .int x3)] → W p l e (rmD 1) s m args below meth c H locs 0 0 (MQ below (va_Ql Q (PostG (wsC cy nt ad) D A) A) args s 0 0 A) (F0 m 4 ls []) := by
  intro n
  induction n with
  | zero => intro _ _ _ _ _ _ _ hd; exact hd.elim
  | succ n ih =>
    intro x0 x1 x3 g0 H locs ls  hd hw hl
    unfold vv_X7_factorial_L4 at hd
    refine lv_iload_n K.1 K.2.1 dX7_factorial_4 rfl (lv_at hl 2 rfl) ?_
    refine lv_iload_n K.1 K.2.1 dX7_factorial_5 rfl (lv_at hl 0 rfl) ?_
    refine lv_icmp_gt (tgt := 20) K.1 K.2.1 dX7_factorial_6 (by decide) (fun h_3 => ?_) (fun h_3 => ?_)
    · have hd := hd.1 h_3
      refine lv_lload_n K.1 K.2.1 dX7_factorial_20 rfl (lv_at hl 1 rfl) ?_
      exact rk_lret K hw hr hd dX7_factorial_21
    · have hd := hd.2 h_3
      refine lv_lload_n K.1 K.2.1 dX7_factorial_9 rfl (lv_at hl 1 rfl) ?_
      refine lv_iload_n K.1 K.2.1 dX7_factorial_10 rfl (lv_at hl 2 rfl) ?_
      refine lv_i2l (v := x3.toInt64) K.1 K.2.1 dX7_factorial_11 rfl ?_
      refine lv_lmul K.1 K.2.1 dX7_factorial_12 ?_
      refine lv_topl (fun x1_4 ex1_4 => ?_)
      have hd := hd x1_4 ex1_4
      refine lv_lstore_n (lv' := [(1, .long x1_4), (0, .int x0), (3, .int x3)]) K.1 K.2.1 dX7_factorial_13 rfl hl (by decide) rfl (fun ls hl => ?_)
      obtain ⟨x3_5, ex3_5⟩ : ∃ y : Int32, y = x3 + (1 : Int32) := ⟨_, rfl⟩
      have hd := hd x3_5 ex3_5
      refine lv_iinc (v := x3_5) (lv' := [(3, .int x3_5), (1, .long x1_4), (0, .int x0)]) K.1 K.2.1 dX7_factorial_14 hl (k := 2) rfl (by rw [ex3_5]; rfl) (by decide) rfl (fun ls hl => ?_)
      refine lv_goto (tgt := 4) K.1 K.2.1 dX7_factorial_17 (by decide) ?_
      exact ih x0 x1_4 x3_5 g0 _ _ _  hd hw (lv_sub hl [2, 1, 0] rfl)
set_option maxHeartbeats 4000000 in
set_option maxRecDepth 100000 in
theorem cc_X7_factorial (l : Launch) (D : va_G) (cy : Nat → ClassId) (nt : Nat) (ad : Nat → Nat) (A : Nat → Prop) (X : Nat → Nat)  (g0 : Sg) (Q : Int64 → Sg → Prop) (x0 : Int32) (hd : vv_X7_factorial nt x0 g0 Q) : Met l yX7_factorial (Cond.code yX7_factorial cX7_factorial 4 (some .long) :: TT) (rmD 1) (va_Pc [.int x0] (PreC (wsC cy nt ad) D cy A X g0)) (va_Ql Q (PostG (wsC cy nt ad) D A) A) 0 0 A := by
  unfold vv_X7_factorial at hd
  refine Met.ofW (cc := cX7_factorial) (maxL := 4) (ret := (some .long)) (by decide) rfl ?_
  intro p e s m args below meth c s₁ B hml hv
  obtain ⟨rfl, ⟨hP, hK0, hD⟩, KX⟩ := hv
  have K : Kx p s m _ meth c cX7_factorial 4 RX7 D cy := ⟨B.exec, B.bytes, hml, findClass_of_methodNamed B.named, fun w h => atoms_spec (ws := Cond.code yX7_factorial cX7_factorial 4 (some .long) :: TT) B.pre w (List.mem_cons_of_mem _ h), hK0, B.notSynchronized⟩
  have hw : Wd D A s.heap (wsC cy nt ad g0) s.heap [] := ⟨hP, hD, va_S.rf⟩
  have hr := B.returns
  have hl := lv_entry ([.int x0]) (n := 4) (Nat.le_of_ble_eq_true rfl)
  rw [lg_entry_eq]
  generalize (lg_sl ([.int x0]) ++ List.replicate (4 - (lg_sl ([.int x0])).length) Slot.unset).toArray = ls at hl ⊢
  have hl : lv_has ls 4 [(0, .int x0)] := hl
  refine lv_lconst (v := (1 : Int64)) K.1 K.2.1 dX7_factorial_0 rfl ?_
  refine lv_topl (fun x1_1 ex1_1 => ?_)
  have hd := hd x1_1 ex1_1
  refine lv_lstore_n (lv' := [(1, .long x1_1), (0, .int x0)]) K.1 K.2.1 dX7_factorial_1 rfl hl (by decide) rfl (fun ls hl => ?_)
  refine lv_iconst (v := (2 : Int32)) K.1 K.2.1 dX7_factorial_2 (by decide) ?_
  refine lv_topi (fun x3_2 ex3_2 => ?_)
  have hd := hd x3_2 ex3_2
  refine lv_istore_n (lv' := [(3, .int x3_2), (1, .long x1_1), (0, .int x0)]) K.1 K.2.1 dX7_factorial_3 rfl hl (by decide) rfl (fun ls hl => ?_)
  obtain ⟨n9, hd⟩ := hd
  exact bb_X7_factorial_4 K KX hr   n9 x0 x1_1 x3_2 g0 _ _ _  hd hw (lv_sub hl [2, 1, 0] rfl)
theorem dX7_fraction_0 : decode cX7_fraction 0 = .ok (.lload_n 0, 1) := by decide +kernel
theorem dX7_fraction_1 : decode cX7_fraction 1 = .ok (.lstore 5, 2) := by decide +kernel
theorem dX7_fraction_3 : decode cX7_fraction 3 = .ok (.lload_n 2, 1) := by decide +kernel
theorem dX7_fraction_4 : decode cX7_fraction 4 = .ok (.lstore 7, 2) := by decide +kernel
theorem dX7_fraction_6 : decode cX7_fraction 6 = .ok (.iconst 0, 1) := by decide +kernel
theorem dX7_fraction_7 : decode cX7_fraction 7 = .ok (.istore 9, 2) := by decide +kernel
theorem dX7_fraction_9 : decode cX7_fraction 9 = .ok (.iload 9, 2) := by decide +kernel
theorem dX7_fraction_11 : decode cX7_fraction 11 = .ok (.bipush 100, 2) := by decide +kernel
theorem dX7_fraction_13 : decode cX7_fraction 13 = .ok (.if_icmp .ge 31, 3) := by decide +kernel
theorem dX7_fraction_16 : decode cX7_fraction 16 = .ok (.lload 7, 2) := by decide +kernel
theorem dX7_fraction_18 : decode cX7_fraction 18 = .ok (.lconst 0, 1) := by decide +kernel
theorem dX7_fraction_19 : decode cX7_fraction 19 = .ok (.lcmp, 1) := by decide +kernel
theorem dX7_fraction_20 : decode cX7_fraction 20 = .ok (.ifCond .eq 24, 3) := by decide +kernel
theorem dX7_fraction_23 : decode cX7_fraction 23 = .ok (.lload 5, 2) := by decide +kernel
theorem dX7_fraction_25 : decode cX7_fraction 25 = .ok (.lload 7, 2) := by decide +kernel
theorem dX7_fraction_27 : decode cX7_fraction 27 = .ok (.lrem, 1) := by decide +kernel
theorem dX7_fraction_28 : decode cX7_fraction 28 = .ok (.lstore 10, 2) := by decide +kernel
theorem dX7_fraction_30 : decode cX7_fraction 30 = .ok (.lload 7, 2) := by decide +kernel
theorem dX7_fraction_32 : decode cX7_fraction 32 = .ok (.lstore 5, 2) := by decide +kernel
theorem dX7_fraction_34 : decode cX7_fraction 34 = .ok (.lload 10, 2) := by decide +kernel
theorem dX7_fraction_36 : decode cX7_fraction 36 = .ok (.lstore 7, 2) := by decide +kernel
theorem dX7_fraction_38 : decode cX7_fraction 38 = .ok (.iinc 9 1, 3) := by decide +kernel
theorem dX7_fraction_41 : decode cX7_fraction 41 = .ok (.goto (-32), 3) := by decide +kernel
theorem dX7_fraction_44 : decode cX7_fraction 44 = .ok (.lload 5, 2) := by decide +kernel
theorem dX7_fraction_46 : decode cX7_fraction 46 = .ok (.lconst 0, 1) := by decide +kernel
theorem dX7_fraction_47 : decode cX7_fraction 47 = .ok (.lcmp, 1) := by decide +kernel
theorem dX7_fraction_48 : decode cX7_fraction 48 = .ok (.ifCond .ne 7, 3) := by decide +kernel
theorem dX7_fraction_51 : decode cX7_fraction 51 = .ok (.ldc2_w 230, 3) := by decide +kernel
theorem dX7_fraction_54 : decode cX7_fraction 54 = .ok (.lreturn, 1) := by decide +kernel
theorem dX7_fraction_55 : decode cX7_fraction 55 = .ok (.iload 4, 2) := by decide +kernel
theorem dX7_fraction_57 : decode cX7_fraction 57 = .ok (.ifCond .ne 10, 3) := by decide +kernel
theorem dX7_fraction_60 : decode cX7_fraction 60 = .ok (.lload_n 0, 1) := by decide +kernel
theorem dX7_fraction_61 : decode cX7_fraction 61 = .ok (.lload 5, 2) := by decide +kernel
theorem dX7_fraction_63 : decode cX7_fraction 63 = .ok (.ldiv, 1) := by decide +kernel
theorem dX7_fraction_64 : decode cX7_fraction 64 = .ok (.goto 7, 3) := by decide +kernel
theorem dX7_fraction_67 : decode cX7_fraction 67 = .ok (.lload_n 2, 1) := by decide +kernel
theorem dX7_fraction_68 : decode cX7_fraction 68 = .ok (.lload 5, 2) := by decide +kernel
theorem dX7_fraction_70 : decode cX7_fraction 70 = .ok (.ldiv, 1) := by decide +kernel
theorem dX7_fraction_71 : decode cX7_fraction 71 = .ok (.lreturn, 1) := by decide +kernel
set_option maxHeartbeats 4000000 in
set_option maxRecDepth 100000 in
theorem bb_X7_fraction_44 {p : Program} {l : Launch} {e : Env} {s : State} {m : MethodId} {args : Array Value} {below : List Frame} {meth : Method} {c : Code} {D : va_G} {cy : Nat → ClassId} {nt : Nat} {ad : Nat → Nat} {A : Nat → Prop} {X : Nat → Nat} {Q : Int64 → Sg → Prop} (K : Kx p s m args meth c cX7_fraction 12 RX7 D cy) (KX : XC X A s s.heap) (hr : meth.sig.returnType = (some .long))  (x0 : Int64) (x2 : Int64) (x4 : Int32) (x5 : Int64)  (g0 : Sg) (H : Heap) (locs : List Loc) (ls : Array Slot) (hd : vv_X7_fraction_J44 nt x0 x2 x4 x5 g0 Q) (hw : Wd D A s.heap (wsC cy nt ad g0) H locs) (hl : lv_has ls 12 [(0, .long x0), (2, .long x2), (4, .int x4), (5, .long x5)]) : W p l e (rmD 1) s m args below meth c H locs 0 0 (MQ below (va_Ql Q (PostG (wsC cy nt ad) D A) A) args s 0 0 A) (F0 m 44 ls []) := by
  unfold vv_X7_fraction_J44 at hd
  refine lv_lload K.1 K.2.1 dX7_fraction_44 (lv_at hl 3 rfl) ?_
  refine lv_lconst (v := (0 : Int64)) K.1 K.2.1 dX7_fraction_46 rfl ?_
  refine W.lcmp K.1 K.2.1 dX7_fraction_47 ?_
  refine lv_if_ne (tgt := 55) K.1 K.2.1 dX7_fraction_48 (by decide) (fun h_5 => ?_) (fun h_5 => ?_)
  · have hd := hd.1 h_5
    refine lv_iload K.1 K.2.1 dX7_fraction_55 (lv_at hl 2 rfl) ?_
    refine lv_if_ne (tgt := 67) K.1 K.2.1 dX7_fraction_57 (by decide) (fun h_6 => ?_) (fun h_6 => ?_)
    · have hd := hd.1 h_6
      refine lv_lload_n K.1 K.2.1 dX7_fraction_67 rfl (lv_at hl 1 rfl) ?_
      refine lv_lload K.1 K.2.1 dX7_fraction_68 (lv_at hl 3 rfl) ?_
      have hb := hd.1
      have hd := hd.2
      refine lv_ldiv K.1 K.2.1 dX7_fraction_70 hb ?_
      exact rk_lret K hw hr hd dX7_fraction_71
    · have hd := hd.2 h_6
      refine lv_lload_n K.1 K.2.1 dX7_fraction_60 rfl (lv_at hl 0 rfl) ?_
      refine lv_lload K.1 K.2.1 dX7_fraction_61 (lv_at hl 3 rfl) ?_
      have hb := hd.1
      have hd := hd.2
      refine lv_ldiv K.1 K.2.1 dX7_fraction_63 hb ?_
      refine lv_goto (tgt := 71) K.1 K.2.1 dX7_fraction_64 (by decide) ?_
      exact rk_lret K hw hr hd dX7_fraction_71
  · have hd := hd.2 h_5
    refine lv_ldc2 K.1 K.2.1 K.2.2.2.1 (K.2.2.2.2.1 _ kl_X7_230) dX7_fraction_51 ?_
    exact rk_lret K hw hr hd dX7_fraction_54
set_option maxHeartbeats 4000000 in
set_option maxRecDepth 100000 in
theorem bb_X7_fraction_9 {p : Program} {l : Launch} {e : Env} {s : State} {m : MethodId} {args : Array Value} {below : List Frame} {meth : Method} {c : Code} {D : va_G} {cy : Nat → ClassId} {nt : Nat} {ad : Nat → Nat} {A : Nat → Prop} {X : Nat → Nat} {Q : Int64 → Sg → Prop} (K : Kx p s m args meth c cX7_fraction 12 RX7 D cy) (KX : XC X A s s.heap) (hr : meth.sig.returnType = (some .long))  : ∀ (n : Nat) (x0 : Int64) (x2 : Int64) (x4 : Int32) (x5 : Int64) (x7 : Int64) (x9 : Int32)  (g0 : Sg) (H : Heap) (locs : List Loc) (ls : Array Slot), vv_X7_fraction_L9 nt Q n x0 x2 x4 x5 x7 x9 g0 → Wd D A s.heap (wsC cy nt ad g0) H locs → lv_has ls 12 [(0, .long x0), (2, .long x2), (4, .int x4), (5, .long x5), (7, .long x7), (9, .int x9)] → W p l e (rmD 1) s m args below meth c H locs 0 0 (MQ below (va_Ql Q (PostG (wsC cy nt ad) D A) A) args s 0 0 A) (F0 m 9 ls []) := by
  intro n
  induction n with
  | zero => intro _ _ _ _ _ _ _ _ _ _ hd; exact hd.elim
  | succ n ih =>
    intro x0 x2 x4 x5 x7 x9 g0 H locs ls  hd hw hl
    unfold vv_X7_fraction_L9 at hd
    refine lv_iload K.1 K.2.1 dX7_fraction_9 (lv_at hl 5 rfl) ?_
    refine lv_bipush (v := (100 : Int32)) K.1 K.2.1 dX7_fraction_11 (by decide) ?_
    refine lv_icmp_ge (tgt := 44) K.1 K.2.1 dX7_fraction_13 (by decide) (fun h_4 => ?_) (fun h_4 => ?_)
    · have hd := hd.1 h_4
      exact bb_X7_fraction_44 K KX hr   x0 x2 x4 x5 g0 _ _ _  hd hw (lv_sub hl [0, 1, 2, 3] rfl)
    · have hd := hd.2 h_4
      refine lv_lload K.1 K.2.1 dX7_fraction_16 (lv_at hl 4 rfl) ?_
      refine lv_lconst (v := (0 : Int64)) K.1 K.2.1 dX7_fraction_18 rfl ?_
      refine W.lcmp K.1 K.2.1 dX7_fraction_19 ?_
      refine lv_if_eq (tgt := 44) K.1 K.2.1 dX7_fraction_20 (by decide) (fun h_7 => ?_) (fun h_7 => ?_)
      · have hd := hd.1 h_7
        exact bb_X7_fraction_44 K KX hr   x0 x2 x4 x5 g0 _ _ _  hd hw (lv_sub hl [0, 1, 2, 3] rfl)
      · have hd := hd.2 h_7
        refine lv_lload K.1 K.2.1 dX7_fraction_23 (lv_at hl 3 rfl) ?_
        refine lv_lload K.1 K.2.1 dX7_fraction_25 (lv_at hl 4 rfl) ?_
        have hb := hd.1
        have hd := hd.2
        refine lv_lrem K.1 K.2.1 dX7_fraction_27 hb ?_
        refine lv_topl (fun x10_8 ex10_8 => ?_)
        have hd := hd x10_8 ex10_8
        refine lv_lstore (lv' := [(10, .long x10_8), (0, .long x0), (2, .long x2), (4, .int x4), (5, .long x5), (7, .long x7), (9, .int x9)]) K.1 K.2.1 dX7_fraction_28 hl (by decide) rfl (fun ls hl => ?_)
        refine lv_lload K.1 K.2.1 dX7_fraction_30 (lv_at hl 5 rfl) ?_
        refine lv_topl (fun x5_9 ex5_9 => ?_)
        have hd := hd x5_9 ex5_9
        refine lv_lstore (lv' := [(5, .long x5_9), (10, .long x10_8), (0, .long x0), (2, .long x2), (4, .int x4), (7, .long x7), (9, .int x9)]) K.1 K.2.1 dX7_fraction_32 hl (by decide) rfl (fun ls hl => ?_)
        refine lv_lload K.1 K.2.1 dX7_fraction_34 (lv_at hl 1 rfl) ?_
        refine lv_topl (fun x7_10 ex7_10 => ?_)
        have hd := hd x7_10 ex7_10
        refine lv_lstore (lv' := [(7, .long x7_10), (5, .long x5_9), (10, .long x10_8), (0, .long x0), (2, .long x2), (4, .int x4), (9, .int x9)]) K.1 K.2.1 dX7_fraction_36 hl (by decide) rfl (fun ls hl => ?_)
        obtain ⟨x9_11, ex9_11⟩ : ∃ y : Int32, y = x9 + (1 : Int32) := ⟨_, rfl⟩
        have hd := hd x9_11 ex9_11
        refine lv_iinc (v := x9_11) (lv' := [(9, .int x9_11), (7, .long x7_10), (5, .long x5_9), (10, .long x10_8), (0, .long x0), (2, .long x2), (4, .int x4)]) K.1 K.2.1 dX7_fraction_38 hl (k := 6) rfl (by rw [ex9_11]; rfl) (by decide) rfl (fun ls hl => ?_)
        refine lv_goto (tgt := 9) K.1 K.2.1 dX7_fraction_41 (by decide) ?_
        exact ih x0 x2 x4 x5_9 x7_10 x9_11 g0 _ _ _  hd hw (lv_sub hl [4, 5, 6, 2, 1, 0] rfl)
set_option maxHeartbeats 4000000 in
set_option maxRecDepth 100000 in
theorem cc_X7_fraction (l : Launch) (D : va_G) (cy : Nat → ClassId) (nt : Nat) (ad : Nat → Nat) (A : Nat → Prop) (X : Nat → Nat)  (g0 : Sg) (Q : Int64 → Sg → Prop) (x0 : Int64) (x2 : Int64) (x4 : Int32) (hd : vv_X7_fraction nt x0 x2 x4 g0 Q) : Met l yX7_fraction (Cond.code yX7_fraction cX7_fraction 12 (some .long) :: TT) (rmD 1) (va_Pc [.long x0, .long x2, .int x4] (PreC (wsC cy nt ad) D cy A X g0)) (va_Ql Q (PostG (wsC cy nt ad) D A) A) 0 0 A := by
  unfold vv_X7_fraction at hd
  refine Met.ofW (cc := cX7_fraction) (maxL := 12) (ret := (some .long)) (by decide) rfl ?_
  intro p e s m args below meth c s₁ B hml hv
  obtain ⟨rfl, ⟨hP, hK0, hD⟩, KX⟩ := hv
  have K : Kx p s m _ meth c cX7_fraction 12 RX7 D cy := ⟨B.exec, B.bytes, hml, findClass_of_methodNamed B.named, fun w h => atoms_spec (ws := Cond.code yX7_fraction cX7_fraction 12 (some .long) :: TT) B.pre w (List.mem_cons_of_mem _ h), hK0, B.notSynchronized⟩
  have hw : Wd D A s.heap (wsC cy nt ad g0) s.heap [] := ⟨hP, hD, va_S.rf⟩
  have hr := B.returns
  have hl := lv_entry ([.long x0, .long x2, .int x4]) (n := 12) (Nat.le_of_ble_eq_true rfl)
  rw [lg_entry_eq]
  generalize (lg_sl ([.long x0, .long x2, .int x4]) ++ List.replicate (12 - (lg_sl ([.long x0, .long x2, .int x4])).length) Slot.unset).toArray = ls at hl ⊢
  have hl : lv_has ls 12 [(0, .long x0), (2, .long x2), (4, .int x4)] := hl
  refine lv_lload_n K.1 K.2.1 dX7_fraction_0 rfl (lv_at hl 0 rfl) ?_
  refine lv_topl (fun x5_1 ex5_1 => ?_)
  have hd := hd x5_1 ex5_1
  refine lv_lstore (lv' := [(5, .long x5_1), (0, .long x0), (2, .long x2), (4, .int x4)]) K.1 K.2.1 dX7_fraction_1 hl (by decide) rfl (fun ls hl => ?_)
  refine lv_lload_n K.1 K.2.1 dX7_fraction_3 rfl (lv_at hl 2 rfl) ?_
  refine lv_topl (fun x7_2 ex7_2 => ?_)
  have hd := hd x7_2 ex7_2
  refine lv_lstore (lv' := [(7, .long x7_2), (5, .long x5_1), (0, .long x0), (2, .long x2), (4, .int x4)]) K.1 K.2.1 dX7_fraction_4 hl (by decide) rfl (fun ls hl => ?_)
  refine lv_iconst (v := (0 : Int32)) K.1 K.2.1 dX7_fraction_6 (by decide) ?_
  refine lv_topi (fun x9_3 ex9_3 => ?_)
  have hd := hd x9_3 ex9_3
  refine lv_istore (lv' := [(9, .int x9_3), (7, .long x7_2), (5, .long x5_1), (0, .long x0), (2, .long x2), (4, .int x4)]) K.1 K.2.1 dX7_fraction_7 hl (by decide) rfl (fun ls hl => ?_)
  obtain ⟨n9, hd⟩ := hd
  exact bb_X7_fraction_9 K KX hr   n9 x0 x2 x4 x5_1 x7_2 x9_3 g0 _ _ _  hd hw (lv_sub hl [3, 4, 5, 2, 1, 0] rfl)
theorem dX7_power_0 : decode cX7_power 0 = .ok (.aload_n 0, 1) := by decide +kernel
theorem dX7_power_1 : decode cX7_power 1 = .ok (.iload_n 1, 1) := by decide +kernel
theorem dX7_power_2 : decode cX7_power 2 = .ok (.invokevirtual 212, 3) := by decide +kernel
theorem dX7_power_5 : decode cX7_power 5 = .ok (.ifCond .eq 12, 3) := by decide +kernel
theorem dX7_power_8 : decode cX7_power 8 = .ok (.iload_n 2, 1) := by decide +kernel
theorem dX7_power_9 : decode cX7_power 9 = .ok (.ifCond .lt 8, 3) := by decide +kernel
theorem dX7_power_12 : decode cX7_power 12 = .ok (.iload_n 2, 1) := by decide +kernel
theorem dX7_power_13 : decode cX7_power 13 = .ok (.iconst 1, 1) := by decide +kernel
theorem dX7_power_14 : decode cX7_power 14 = .ok (.if_icmp .le 7, 3) := by decide +kernel
theorem dX7_power_17 : decode cX7_power 17 = .ok (.ldc2_w 230, 3) := by decide +kernel
theorem dX7_power_20 : decode cX7_power 20 = .ok (.lreturn, 1) := by decide +kernel
theorem dX7_power_21 : decode cX7_power 21 = .ok (.aload_n 0, 1) := by decide +kernel
theorem dX7_power_22 : decode cX7_power 22 = .ok (.invokevirtual 215, 3) := by decide +kernel
theorem dX7_power_25 : decode cX7_power 25 = .ok (.aload_n 0, 1) := by decide +kernel
theorem dX7_power_26 : decode cX7_power 26 = .ok (.getfield 60, 3) := by decide +kernel
theorem dX7_power_29 : decode cX7_power 29 = .ok (.aload_n 0, 1) := by decide +kernel
theorem dX7_power_30 : decode cX7_power 30 = .ok (.getfield 60, 3) := by decide +kernel
theorem dX7_power_33 : decode cX7_power 33 = .ok (.getfield 218, 3) := by decide +kernel
theorem dX7_power_36 : decode cX7_power 36 = .ok (.invokevirtual 221, 3) := by decide +kernel
theorem dX7_power_39 : decode cX7_power 39 = .ok (.aload_n 0, 1) := by decide +kernel
theorem dX7_power_40 : decode cX7_power 40 = .ok (.getfield 10, 3) := by decide +kernel
theorem dX7_power_43 : decode cX7_power 43 = .ok (.getfield 103, 3) := by decide +kernel
theorem dX7_power_46 : decode cX7_power 46 = .ok (.if_icmp .ge 7, 3) := by decide +kernel
theorem dX7_power_49 : decode cX7_power 49 = .ok (.ldc2_w 230, 3) := by decide +kernel
theorem dX7_power_52 : decode cX7_power 52 = .ok (.lreturn, 1) := by decide +kernel
theorem dX7_power_53 : decode cX7_power 53 = .ok (.aload_n 0, 1) := by decide +kernel
theorem dX7_power_54 : decode cX7_power 54 = .ok (.getfield 60, 3) := by decide +kernel
theorem dX7_power_57 : decode cX7_power 57 = .ok (.getfield 218, 3) := by decide +kernel
theorem dX7_power_60 : decode cX7_power 60 = .ok (.iconst 1, 1) := by decide +kernel
theorem dX7_power_61 : decode cX7_power 61 = .ok (.iload_n 1, 1) := by decide +kernel
theorem dX7_power_62 : decode cX7_power 62 = .ok (.ishl, 1) := by decide +kernel
theorem dX7_power_63 : decode cX7_power 63 = .ok (.iconst (-1), 1) := by decide +kernel
theorem dX7_power_64 : decode cX7_power 64 = .ok (.ixor, 1) := by decide +kernel
theorem dX7_power_65 : decode cX7_power 65 = .ok (.iand, 1) := by decide +kernel
theorem dX7_power_66 : decode cX7_power 66 = .ok (.istore_n 3, 1) := by decide +kernel
theorem dX7_power_67 : decode cX7_power 67 = .ok (.iload_n 3, 1) := by decide +kernel
theorem dX7_power_68 : decode cX7_power 68 = .ok (.invokestatic 207, 3) := by decide +kernel
theorem dX7_power_71 : decode cX7_power 71 = .ok (.istore 4, 2) := by decide +kernel
theorem dX7_power_73 : decode cX7_power 73 = .ok (.lconst 0, 1) := by decide +kernel
theorem dX7_power_74 : decode cX7_power 74 = .ok (.lstore 5, 2) := by decide +kernel
theorem dX7_power_76 : decode cX7_power 76 = .ok (.iconst 0, 1) := by decide +kernel
theorem dX7_power_77 : decode cX7_power 77 = .ok (.istore 7, 2) := by decide +kernel
theorem dX7_power_79 : decode cX7_power 79 = .ok (.iload 7, 2) := by decide +kernel
theorem dX7_power_81 : decode cX7_power 81 = .ok (.iload_n 3, 1) := by decide +kernel
theorem dX7_power_82 : decode cX7_power 82 = .ok (.if_icmp .gt 69, 3) := by decide +kernel
theorem dX7_power_85 : decode cX7_power 85 = .ok (.iload 7, 2) := by decide +kernel
theorem dX7_power_87 : decode cX7_power 87 = .ok (.iload_n 3, 1) := by decide +kernel
theorem dX7_power_88 : decode cX7_power 88 = .ok (.iconst (-1), 1) := by decide +kernel
theorem dX7_power_89 : decode cX7_power 89 = .ok (.ixor, 1) := by decide +kernel
theorem dX7_power_90 : decode cX7_power 90 = .ok (.iand, 1) := by decide +kernel
theorem dX7_power_91 : decode cX7_power 91 = .ok (.ifCond .ne 54, 3) := by decide +kernel
theorem dX7_power_94 : decode cX7_power 94 = .ok (.aload_n 0, 1) := by decide +kernel
theorem dX7_power_95 : decode cX7_power 95 = .ok (.aload_n 0, 1) := by decide +kernel
theorem dX7_power_96 : decode cX7_power 96 = .ok (.getfield 60, 3) := by decide +kernel
theorem dX7_power_99 : decode cX7_power 99 = .ok (.iload 7, 2) := by decide +kernel
theorem dX7_power_101 : decode cX7_power 101 = .ok (.invokevirtual 221, 3) := by decide +kernel
theorem dX7_power_104 : decode cX7_power 104 = .ok (.aload_n 0, 1) := by decide +kernel
theorem dX7_power_105 : decode cX7_power 105 = .ok (.getfield 60, 3) := by decide +kernel
theorem dX7_power_108 : decode cX7_power 108 = .ok (.getfield 224, 3) := by decide +kernel
theorem dX7_power_111 : decode cX7_power 111 = .ok (.iload_n 1, 1) := by decide +kernel
theorem dX7_power_112 : decode cX7_power 112 = .ok (.iaload, 1) := by decide +kernel
theorem dX7_power_113 : decode cX7_power 113 = .ok (.invokevirtual 227, 3) := by decide +kernel
theorem dX7_power_116 : decode cX7_power 116 = .ok (.ifCond .eq 29, 3) := by decide +kernel
theorem dX7_power_119 : decode cX7_power 119 = .ok (.iload 7, 2) := by decide +kernel
theorem dX7_power_121 : decode cX7_power 121 = .ok (.invokestatic 207, 3) := by decide +kernel
theorem dX7_power_124 : decode cX7_power 124 = .ok (.istore 8, 2) := by decide +kernel
theorem dX7_power_126 : decode cX7_power 126 = .ok (.lload 5, 2) := by decide +kernel
theorem dX7_power_128 : decode cX7_power 128 = .ok (.iload 8, 2) := by decide +kernel
theorem dX7_power_130 : decode cX7_power 130 = .ok (.invokestatic 232, 3) := by decide +kernel
theorem dX7_power_133 : decode cX7_power 133 = .ok (.iload 4, 2) := by decide +kernel
theorem dX7_power_135 : decode cX7_power 135 = .ok (.iload 8, 2) := by decide +kernel
theorem dX7_power_137 : decode cX7_power 137 = .ok (.isub, 1) := by decide +kernel
theorem dX7_power_138 : decode cX7_power 138 = .ok (.invokestatic 232, 3) := by decide +kernel
theorem dX7_power_141 : decode cX7_power 141 = .ok (.lmul, 1) := by decide +kernel
theorem dX7_power_142 : decode cX7_power 142 = .ok (.ladd, 1) := by decide +kernel
theorem dX7_power_143 : decode cX7_power 143 = .ok (.lstore 5, 2) := by decide +kernel
theorem dX7_power_145 : decode cX7_power 145 = .ok (.iinc 7 1, 3) := by decide +kernel
theorem dX7_power_148 : decode cX7_power 148 = .ok (.goto (-69), 3) := by decide +kernel
theorem dX7_power_151 : decode cX7_power 151 = .ok (.lload 5, 2) := by decide +kernel
theorem dX7_power_153 : decode cX7_power 153 = .ok (.iload 4, 2) := by decide +kernel
theorem dX7_power_155 : decode cX7_power 155 = .ok (.iconst 1, 1) := by decide +kernel
theorem dX7_power_156 : decode cX7_power 156 = .ok (.iadd, 1) := by decide +kernel
theorem dX7_power_157 : decode cX7_power 157 = .ok (.invokestatic 232, 3) := by decide +kernel
theorem dX7_power_160 : decode cX7_power 160 = .ok (.iload_n 2, 1) := by decide +kernel
theorem dX7_power_161 : decode cX7_power 161 = .ok (.invokestatic 236, 3) := by decide +kernel
theorem dX7_power_164 : decode cX7_power 164 = .ok (.lreturn, 1) := by decide +kernel
set_option maxHeartbeats 4000000 in
set_option maxRecDepth 100000 in
theorem bb_X7_power_145 {p : Program} {l : Launch} {e : Env} {s : State} {m : MethodId} {args : Array Value} {below : List Frame} {meth : Method} {c : Code} {D : va_G} {cy : Nat → ClassId} {nt : Nat} {ad : Nat → Nat} {A : Nat → Prop} {X : Nat → Nat} {Q : Int64 → Sg → Prop} (K : Kx p s m args meth c cX7_power 9 RX7 D cy) (KX : XC X A s s.heap) (hr : meth.sig.returnType = (some .long))  {rc79 : Int32 → Int32 → Int32 → Int32 → Int64 → Int32 → Sg → Prop} (hrc79 : ∀ (x1 : Int32) (x2 : Int32) (x3 : Int32) (x4 : Int32) (x5 : Int64) (x7 : Int32) (u : Sg) (H : Heap) (locs : List Loc) (ls : Array Slot), rc79 x1 x2 x3 x4 x5 x7 u → Wd D A s.heap (wsC cy nt ad u) H locs → lv_has ls 9 [(0, .ref (ad 0)), (1, .int x1), (2, .int x2), (3, .int x3), (4, .int x4), (5, .long x5), (7, .int x7)] → W p l e (rmD 6) s m args below meth c H locs 0 0 (MQ below (va_Ql Q (PostG (wsC cy nt ad) D A) A) args s 0 0 A) (F0 m 79 ls [])) (x1 : Int32) (x2 : Int32) (x3 : Int32) (x4 : Int32) (x5 : Int64) (x7 : Int32)  (g0 : Sg) (H : Heap) (locs : List Loc) (ls : Array Slot) (hd : vv_X7_power_J145 nt rc79 x1 x2 x3 x4 x5 x7 g0 Q) (hw : Wd D A s.heap (wsC cy nt ad g0) H locs) (hl : lv_has ls 9 [(0, .ref (ad 0)), (1, .int x1), (2, .int x2), (3, .int x3), (4, .int x4), (5, .long x5), (7, .int x7)]) : W p l e (rmD 6) s m args below meth c H locs 0 0 (MQ below (va_Ql Q (PostG (wsC cy nt ad) D A) A) args s 0 0 A) (F0 m 145 ls []) := by
  unfold vv_X7_power_J145 at hd
  obtain ⟨x7_23, ex7_23⟩ : ∃ y : Int32, y = x7 + (1 : Int32) := ⟨_, rfl⟩
  have hd := hd x7_23 ex7_23
  refine lv_iinc (v := x7_23) (lv' := [(7, .int x7_23), (0, .ref (ad 0)), (1, .int x1), (2, .int x2), (3, .int x3), (4, .int x4), (5, .long x5)]) K.1 K.2.1 dX7_power_145 hl (k := 6) rfl (by rw [ex7_23]; rfl) (by decide) rfl (fun ls hl => ?_)
  refine lv_goto (tgt := 79) K.1 K.2.1 dX7_power_148 (by decide) ?_
  exact hrc79 x1 x2 x3 x4 x5 x7_23 g0 _ _ _  hd hw (lv_sub hl [1, 2, 3, 4, 5, 6, 0] rfl)
set_option maxHeartbeats 4000000 in
set_option maxRecDepth 100000 in
theorem bb_X7_power_79 {p : Program} {l : Launch} {e : Env} {s : State} {m : MethodId} {args : Array Value} {below : List Frame} {meth : Method} {c : Code} {D : va_G} {cy : Nat → ClassId} {nt : Nat} {ad : Nat → Nat} {A : Nat → Prop} {X : Nat → Nat} {Q : Int64 → Sg → Prop} (K : Kx p s m args meth c cX7_power 9 RX7 D cy) (KX : XC X A s s.heap) (hr : meth.sig.returnType = (some .long))  : ∀ (n : Nat) (x1 : Int32) (x2 : Int32) (x3 : Int32) (x4 : Int32) (x5 : Int64) (x7 : Int32)  (g0 : Sg) (H : Heap) (locs : List Loc) (ls : Array Slot), vv_X7_power_L79 nt Q n x1 x2 x3 x4 x5 x7 g0 → Wd D A s.heap (wsC cy nt ad g0) H locs → lv_has ls 9 [(0, .ref (ad 0)), (1, .int x1), (2, .int x2), (3, .int x3), (4, .int x4), (5, .long x5), (7, .int x7)] → W p l e (rmD 6) s m args below meth c H locs 0 0 (MQ below (va_Ql Q (PostG (wsC cy nt ad) D A) A) args s 0 0 A) (F0 m 79 ls []) := by
  intro n
  induction n with
  | zero => intro _ _ _ _ _ _ _ _ _ _ hd; exact hd.elim
  | succ n ih =>
    intro x1 x2 x3 x4 x5 x7 g0 H locs ls  hd hw hl
    unfold vv_X7_power_L79 at hd
    refine lv_iload K.1 K.2.1 dX7_power_79 (lv_at hl 6 rfl) ?_
    refine lv_iload_n K.1 K.2.1 dX7_power_81 rfl (lv_at hl 3 rfl) ?_
    refine lv_icmp_gt (tgt := 151) K.1 K.2.1 dX7_power_82 (by decide) (fun h_17 => ?_) (fun h_17 => ?_)
    · have hd := hd.1 h_17
      refine lv_lload K.1 K.2.1 dX7_power_151 (lv_at hl 5 rfl) ?_
      refine lv_iload K.1 K.2.1 dX7_power_153 (lv_at hl 4 rfl) ?_
      refine lv_iconst (v := (1 : Int32)) K.1 K.2.1 dX7_power_155 (by decide) ?_
      refine lv_iadd K.1 K.2.1 dX7_power_156 ?_
      refine rkc_sl (As := [.int (x4 + (1 : Int32))]) (rest := [.long x5]) K KX hw (cc_X7_factorial l D cy nt ad A X g0 _ (x4 + (1 : Int32)) hd) lk_X7_232 ⟨Nat.le_of_ble_eq_true rfl, Nat.le_of_ble_eq_true rfl⟩ ⟨Nat.zero_le _, Nat.zero_le _⟩ rfl hl.1 (Nat.le_of_ble_eq_true rfl) rfl dX7_power_157 (fun r_19 g_18 H locs hd hw => ?_)
      refine lv_iload_n K.1 K.2.1 dX7_power_160 rfl (lv_at hl 2 rfl) ?_
      refine rkc_sl (As := [.long x5, .long r_19, .int x2]) (rest := []) K KX hw (cc_X7_fraction l D cy nt ad A X g_18 _ x5 r_19 x2 hd) lk_X7_236 ⟨Nat.le_of_ble_eq_true rfl, Nat.le_of_ble_eq_true rfl⟩ ⟨Nat.zero_le _, Nat.zero_le _⟩ rfl hl.1 (Nat.le_of_ble_eq_true rfl) rfl dX7_power_161 (fun r_21 g_20 H locs hd hw => ?_)
      exact rk_lret K hw hr hd dX7_power_164
    · have hd := hd.2 h_17
      refine lv_iload K.1 K.2.1 dX7_power_85 (lv_at hl 6 rfl) ?_
      refine lv_iload_n K.1 K.2.1 dX7_power_87 rfl (lv_at hl 3 rfl) ?_
      refine lv_iconst (v := (-1 : Int32)) K.1 K.2.1 dX7_power_88 (by decide) ?_
      refine lv_ixor K.1 K.2.1 dX7_power_89 ?_
      refine lv_iand K.1 K.2.1 dX7_power_90 ?_
      refine lv_if_ne (tgt := 145) K.1 K.2.1 dX7_power_91 (by decide) (fun h_22 => ?_) (fun h_22 => ?_)
      · have hd := hd.1 h_22
        exact bb_X7_power_145 K KX hr  ih x1 x2 x3 x4 x5 x7 g0 _ _ _  hd hw (lv_sub hl [0, 1, 2, 3, 4, 5, 6] rfl)
      · have hd := hd.2 h_22
        refine lv_aload_n K.1 K.2.1 dX7_power_94 rfl (lv_at hl 0 rfl) ?_
        refine lv_aload_n K.1 K.2.1 dX7_power_95 rfl (lv_at hl 0 rfl) ?_
        refine rc_get layX7 (ci := 7) rfl 10 (by decide) (v := .ref (ad 22)) K hw (wc_O cy nt ad _) kf_X7_60 rfl dX7_power_96 ?_
        refine lv_iload K.1 K.2.1 dX7_power_99 (lv_at hl 6 rfl) ?_
        refine rkc_vi (As := [.int x7]) (rest := [.ref (ad 0)]) K KX hw (cc_X4_weightOfSet l D cy nt ad A X g0 _ x7 hd) lk_X7_221 (ci := 4) rfl (wc_Ta cy nt ad _) ⟨Nat.le_of_ble_eq_true rfl, Nat.le_of_ble_eq_true rfl⟩ ⟨Nat.zero_le _, Nat.zero_le _⟩ rfl hl.1 (Nat.le_of_ble_eq_true rfl) rfl dX7_power_101 (fun r_25 g_24 H locs hd hw => ?_)
        refine lv_aload_n K.1 K.2.1 dX7_power_104 rfl (lv_at hl 0 rfl) ?_
        refine rc_get layX7 (ci := 7) rfl 10 (by decide) (v := .ref (ad 22)) K hw (wc_O cy nt ad _) kf_X7_60 rfl dX7_power_105 ?_
        refine rc_get layX4 (ci := 4) rfl 3 (by decide) (v := .ref (ad 23)) K hw (wc_Ta cy nt ad _) kf_X7_224 rfl dX7_power_108 ?_
        refine lv_iload_n K.1 K.2.1 dX7_power_111 rfl (lv_at hl 1 rfl) ?_
        have hb := hd.1
        have hd := hd.2
        refine rc_iald K hw (wc_23 cy nt ad _) hb dX7_power_112 ?_
        refine rkc_vi (As := [.int r_25, .int (g_24 23 x1.toNatClampNeg)]) (rest := []) K KX hw (cc_X7_decides l D cy nt ad A X g_24 _ r_25 (g_24 23 x1.toNatClampNeg) hd) lk_X7_227 (ci := 7) rfl (wc_O cy nt ad _) ⟨Nat.le_of_ble_eq_true rfl, Nat.le_of_ble_eq_true rfl⟩ ⟨Nat.zero_le _, Nat.zero_le _⟩ rfl hl.1 (Nat.le_of_ble_eq_true rfl) rfl dX7_power_113 (fun r_27 g_26 H locs hd hw => ?_)
        refine lv_if_eq (tgt := 145) K.1 K.2.1 dX7_power_116 (by decide) (fun h_28 => ?_) (fun h_28 => ?_)
        · have hd := hd.1 h_28
          exact bb_X7_power_145 K KX hr  ih x1 x2 x3 x4 x5 x7 g_26 _ _ _  hd hw (lv_sub hl [0, 1, 2, 3, 4, 5, 6] rfl)
        · have hd := hd.2 h_28
          refine lv_iload K.1 K.2.1 dX7_power_119 (lv_at hl 6 rfl) ?_
          refine rkc_si (As := [.int x7]) (rest := []) K KX hw (cc_J6_bitCount_0f7a4 l D cy nt ad A X g_26 _ x7 hd) lk_X7_207 ⟨Nat.le_of_ble_eq_true rfl, Nat.le_of_ble_eq_true rfl⟩ ⟨Nat.zero_le _, Nat.zero_le _⟩ rfl hl.1 (Nat.le_of_ble_eq_true rfl) rfl dX7_power_121 (fun r_30 g_29 H locs hd hw => ?_)
          refine lv_topi (fun x8_31 ex8_31 => ?_)
          have hd := hd x8_31 ex8_31
          refine lv_istore (lv' := [(8, .int x8_31), (0, .ref (ad 0)), (1, .int x1), (2, .int x2), (3, .int x3), (4, .int x4), (5, .long x5), (7, .int x7)]) K.1 K.2.1 dX7_power_124 hl (by decide) rfl (fun ls hl => ?_)
          refine lv_lload K.1 K.2.1 dX7_power_126 (lv_at hl 6 rfl) ?_
          refine lv_iload K.1 K.2.1 dX7_power_128 (lv_at hl 0 rfl) ?_
          refine rkc_sl (As := [.int x8_31]) (rest := [.long x5]) K KX hw (cc_X7_factorial l D cy nt ad A X g_29 _ x8_31 hd) lk_X7_232 ⟨Nat.le_of_ble_eq_true rfl, Nat.le_of_ble_eq_true rfl⟩ ⟨Nat.zero_le _, Nat.zero_le _⟩ rfl hl.1 (Nat.le_of_ble_eq_true rfl) rfl dX7_power_130 (fun r_33 g_32 H locs hd hw => ?_)
          refine lv_iload K.1 K.2.1 dX7_power_133 (lv_at hl 5 rfl) ?_
          refine lv_iload K.1 K.2.1 dX7_power_135 (lv_at hl 0 rfl) ?_
          refine lv_isub K.1 K.2.1 dX7_power_137 ?_
          refine rkc_sl (As := [.int (x4 - x8_31)]) (rest := [.long r_33, .long x5]) K KX hw (cc_X7_factorial l D cy nt ad A X g_32 _ (x4 - x8_31) hd) lk_X7_232 ⟨Nat.le_of_ble_eq_true rfl, Nat.le_of_ble_eq_true rfl⟩ ⟨Nat.zero_le _, Nat.zero_le _⟩ rfl hl.1 (Nat.le_of_ble_eq_true rfl) rfl dX7_power_138 (fun r_35 g_34 H locs hd hw => ?_)
          refine lv_lmul K.1 K.2.1 dX7_power_141 ?_
          refine lv_ladd K.1 K.2.1 dX7_power_142 ?_
          refine lv_topl (fun x5_36 ex5_36 => ?_)
          have hd := hd x5_36 ex5_36
          refine lv_lstore (lv' := [(5, .long x5_36), (8, .int x8_31), (0, .ref (ad 0)), (1, .int x1), (2, .int x2), (3, .int x3), (4, .int x4), (7, .int x7)]) K.1 K.2.1 dX7_power_143 hl (by decide) rfl (fun ls hl => ?_)
          exact bb_X7_power_145 K KX hr  ih x1 x2 x3 x4 x5_36 x7 g_34 _ _ _  hd hw (lv_sub hl [2, 3, 4, 5, 6, 0, 7] rfl)
set_option maxHeartbeats 4000000 in
set_option maxRecDepth 100000 in
theorem cc_X7_power (l : Launch) (D : va_G) (cy : Nat → ClassId) (nt : Nat) (ad : Nat → Nat) (A : Nat → Prop) (X : Nat → Nat)  (g0 : Sg) (Q : Int64 → Sg → Prop) (x1 : Int32) (x2 : Int32) (hd : vv_X7_power nt x1 x2 g0 Q) : Met l yX7_power (Cond.code yX7_power cX7_power 9 (some .long) :: TT) (rmD 6) (va_Pc [.ref (ad 0), .int x1, .int x2] (PreC (wsC cy nt ad) D cy A X g0)) (va_Ql Q (PostG (wsC cy nt ad) D A) A) 0 0 A := by
  unfold vv_X7_power at hd
  refine Met.ofW (cc := cX7_power) (maxL := 9) (ret := (some .long)) (by decide) rfl ?_
  intro p e s m args below meth c s₁ B hml hv
  obtain ⟨rfl, ⟨hP, hK0, hD⟩, KX⟩ := hv
  have K : Kx p s m _ meth c cX7_power 9 RX7 D cy := ⟨B.exec, B.bytes, hml, findClass_of_methodNamed B.named, fun w h => atoms_spec (ws := Cond.code yX7_power cX7_power 9 (some .long) :: TT) B.pre w (List.mem_cons_of_mem _ h), hK0, B.notSynchronized⟩
  have hw : Wd D A s.heap (wsC cy nt ad g0) s.heap [] := ⟨hP, hD, va_S.rf⟩
  have hr := B.returns
  have hl := lv_entry ([.ref (ad 0), .int x1, .int x2]) (n := 9) (Nat.le_of_ble_eq_true rfl)
  rw [lg_entry_eq]
  generalize (lg_sl ([.ref (ad 0), .int x1, .int x2]) ++ List.replicate (9 - (lg_sl ([.ref (ad 0), .int x1, .int x2])).length) Slot.unset).toArray = ls at hl ⊢
  have hl : lv_has ls 9 [(0, .ref (ad 0)), (1, .int x1), (2, .int x2)] := hl
  refine lv_aload_n K.1 K.2.1 dX7_power_0 rfl (lv_at hl 0 rfl) ?_
  refine lv_iload_n K.1 K.2.1 dX7_power_1 rfl (lv_at hl 1 rfl) ?_
  refine rkc_vi (As := [.int x1]) (rest := []) K KX hw (cc_X7_stands l D cy nt ad A X g0 _ x1 hd) lk_X7_212 (ci := 7) rfl (wc_O cy nt ad _) ⟨Nat.le_of_ble_eq_true rfl, Nat.le_of_ble_eq_true rfl⟩ ⟨Nat.zero_le _, Nat.zero_le _⟩ rfl hl.1 (Nat.le_of_ble_eq_true rfl) rfl dX7_power_2 (fun r_2 g_1 H locs hd hw => ?_)
  refine lv_if_eq (tgt := 17) K.1 K.2.1 dX7_power_5 (by decide) (fun h_3 => ?_) (fun h_3 => ?_)
  · have hd := hd.1 h_3
    refine lv_ldc2 K.1 K.2.1 K.2.2.2.1 (K.2.2.2.2.1 _ kl_X7_230) dX7_power_17 ?_
    exact rk_lret K hw hr hd dX7_power_20
  · have hd := hd.2 h_3
    refine lv_iload_n K.1 K.2.1 dX7_power_8 rfl (lv_at hl 2 rfl) ?_
    refine lv_if_lt (tgt := 17) K.1 K.2.1 dX7_power_9 (by decide) (fun h_4 => ?_) (fun h_4 => ?_)
    · have hd := hd.1 h_4
      refine lv_ldc2 K.1 K.2.1 K.2.2.2.1 (K.2.2.2.2.1 _ kl_X7_230) dX7_power_17 ?_
      exact rk_lret K hw hr hd dX7_power_20
    · have hd := hd.2 h_4
      refine lv_iload_n K.1 K.2.1 dX7_power_12 rfl (lv_at hl 2 rfl) ?_
      refine lv_iconst (v := (1 : Int32)) K.1 K.2.1 dX7_power_13 (by decide) ?_
      refine lv_icmp_le (tgt := 21) K.1 K.2.1 dX7_power_14 (by decide) (fun h_5 => ?_) (fun h_5 => ?_)
      · have hd := hd.1 h_5
        refine lv_aload_n K.1 K.2.1 dX7_power_21 rfl (lv_at hl 0 rfl) ?_
        refine rkc_vv (As := []) (rest := []) K KX hw (cc_X7_weighCoalitions l D cy nt ad A X g_1 _  hd) lk_X7_215 (ci := 7) rfl (wc_O cy nt ad _) ⟨Nat.le_of_ble_eq_true rfl, Nat.le_of_ble_eq_true rfl⟩ ⟨Nat.zero_le _, Nat.zero_le _⟩ rfl hl.1 (Nat.le_of_ble_eq_true rfl) rfl dX7_power_22 (fun g_6 H locs hd hw => ?_)
        refine lv_aload_n K.1 K.2.1 dX7_power_25 rfl (lv_at hl 0 rfl) ?_
        refine rc_get layX7 (ci := 7) rfl 10 (by decide) (v := .ref (ad 22)) K hw (wc_O cy nt ad _) kf_X7_60 rfl dX7_power_26 ?_
        refine lv_aload_n K.1 K.2.1 dX7_power_29 rfl (lv_at hl 0 rfl) ?_
        refine rc_get layX7 (ci := 7) rfl 10 (by decide) (v := .ref (ad 22)) K hw (wc_O cy nt ad _) kf_X7_60 rfl dX7_power_30 ?_
        refine rc_get layX4 (ci := 4) rfl 2 (by decide) (v := .int (g_6 22 2)) K hw (wc_Ta cy nt ad _) kf_X7_218 rfl dX7_power_33 ?_
        refine rkc_vi (As := [.int (g_6 22 2)]) (rest := []) K KX hw (cc_X4_weightOfSet l D cy nt ad A X g_6 _ (g_6 22 2) hd) lk_X7_221 (ci := 4) rfl (wc_Ta cy nt ad _) ⟨Nat.le_of_ble_eq_true rfl, Nat.le_of_ble_eq_true rfl⟩ ⟨Nat.zero_le _, Nat.zero_le _⟩ rfl hl.1 (Nat.le_of_ble_eq_true rfl) rfl dX7_power_36 (fun r_9 g_8 H locs hd hw => ?_)
        refine lv_aload_n K.1 K.2.1 dX7_power_39 rfl (lv_at hl 0 rfl) ?_
        refine rc_get layX7 (ci := 7) rfl 0 (by decide) (v := .ref (ad 1)) K hw (wc_O cy nt ad _) kf_X7_10 rfl dX7_power_40 ?_
        refine rc_get layX0 (ci := 0) rfl 3 (by decide) (v := .int (g_8 1 3)) K hw (wc_B cy nt ad _ ⟨by decide, by decide⟩) kf_X7_103 rfl dX7_power_43 ?_
        refine lv_icmp_ge (tgt := 53) K.1 K.2.1 dX7_power_46 (by decide) (fun h_10 => ?_) (fun h_10 => ?_)
        · have hd := hd.1 h_10
          refine lv_aload_n K.1 K.2.1 dX7_power_53 rfl (lv_at hl 0 rfl) ?_
          refine rc_get layX7 (ci := 7) rfl 10 (by decide) (v := .ref (ad 22)) K hw (wc_O cy nt ad _) kf_X7_60 rfl dX7_power_54 ?_
          refine rc_get layX4 (ci := 4) rfl 2 (by decide) (v := .int (g_8 22 2)) K hw (wc_Ta cy nt ad _) kf_X7_218 rfl dX7_power_57 ?_
          refine lv_iconst (v := (1 : Int32)) K.1 K.2.1 dX7_power_60 (by decide) ?_
          refine lv_iload_n K.1 K.2.1 dX7_power_61 rfl (lv_at hl 1 rfl) ?_
          refine lv_ishl K.1 K.2.1 dX7_power_62 ?_
          refine lv_iconst (v := (-1 : Int32)) K.1 K.2.1 dX7_power_63 (by decide) ?_
          refine lv_ixor K.1 K.2.1 dX7_power_64 ?_
          refine lv_iand K.1 K.2.1 dX7_power_65 ?_
          refine lv_topi (fun x3_11 ex3_11 => ?_)
          have hd := hd x3_11 ex3_11
          refine lv_istore_n (lv' := [(3, .int x3_11), (0, .ref (ad 0)), (1, .int x1), (2, .int x2)]) K.1 K.2.1 dX7_power_66 rfl hl (by decide) rfl (fun ls hl => ?_)
          refine lv_iload_n K.1 K.2.1 dX7_power_67 rfl (lv_at hl 0 rfl) ?_
          refine rkc_si (As := [.int x3_11]) (rest := []) K KX hw (cc_J6_bitCount_0f7a4 l D cy nt ad A X g_8 _ x3_11 hd) lk_X7_207 ⟨Nat.le_of_ble_eq_true rfl, Nat.le_of_ble_eq_true rfl⟩ ⟨Nat.zero_le _, Nat.zero_le _⟩ rfl hl.1 (Nat.le_of_ble_eq_true rfl) rfl dX7_power_68 (fun r_13 g_12 H locs hd hw => ?_)
          refine lv_topi (fun x4_14 ex4_14 => ?_)
          have hd := hd x4_14 ex4_14
          refine lv_istore (lv' := [(4, .int x4_14), (3, .int x3_11), (0, .ref (ad 0)), (1, .int x1), (2, .int x2)]) K.1 K.2.1 dX7_power_71 hl (by decide) rfl (fun ls hl => ?_)
          refine lv_lconst (v := (0 : Int64)) K.1 K.2.1 dX7_power_73 rfl ?_
          refine lv_topl (fun x5_15 ex5_15 => ?_)
          have hd := hd x5_15 ex5_15
          refine lv_lstore (lv' := [(5, .long x5_15), (4, .int x4_14), (3, .int x3_11), (0, .ref (ad 0)), (1, .int x1), (2, .int x2)]) K.1 K.2.1 dX7_power_74 hl (by decide) rfl (fun ls hl => ?_)
          refine lv_iconst (v := (0 : Int32)) K.1 K.2.1 dX7_power_76 (by decide) ?_
          refine lv_topi (fun x7_16 ex7_16 => ?_)
          have hd := hd x7_16 ex7_16
          refine lv_istore (lv' := [(7, .int x7_16), (5, .long x5_15), (4, .int x4_14), (3, .int x3_11), (0, .ref (ad 0)), (1, .int x1), (2, .int x2)]) K.1 K.2.1 dX7_power_77 hl (by decide) rfl (fun ls hl => ?_)
          obtain ⟨n9, hd⟩ := hd
          exact bb_X7_power_79 K KX hr   n9 x1 x2 x3_11 x4_14 x5_15 x7_16 g_12 _ _ _  hd hw (lv_sub hl [4, 5, 6, 3, 2, 1, 0] rfl)
        · have hd := hd.2 h_10
          refine lv_ldc2 K.1 K.2.1 K.2.2.2.1 (K.2.2.2.2.1 _ kl_X7_230) dX7_power_49 ?_
          exact rk_lret K hw hr hd dX7_power_52
      · have hd := hd.2 h_5
        refine lv_ldc2 K.1 K.2.1 K.2.2.2.1 (K.2.2.2.2.1 _ kl_X7_230) dX7_power_17 ?_
        exact rk_lret K hw hr hd dX7_power_20
