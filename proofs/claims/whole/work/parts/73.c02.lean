theorem dX2_either_0 : decode cX2_either 0 = .ok (.aload_n 0, 1) := by decide +kernel
theorem dX2_either_1 : decode cX2_either 1 = .ok (.iload_n 1, 1) := by decide +kernel
theorem dX2_either_2 : decode cX2_either 2 = .ok (.invokevirtual 55, 3) := by decide +kernel
theorem dX2_either_5 : decode cX2_either 5 = .ok (.ifCond .ne 5, 3) := by decide +kernel
theorem dX2_either_8 : decode cX2_either 8 = .ok (.iconst 0, 1) := by decide +kernel
theorem dX2_either_9 : decode cX2_either 9 = .ok (.ireturn, 1) := by decide +kernel
theorem dX2_either_10 : decode cX2_either 10 = .ok (.iconst 0, 1) := by decide +kernel
theorem dX2_either_11 : decode cX2_either 11 = .ok (.istore_n 2, 1) := by decide +kernel
theorem dX2_either_12 : decode cX2_either 12 = .ok (.iload_n 2, 1) := by decide +kernel
theorem dX2_either_13 : decode cX2_either 13 = .ok (.sipush 160, 3) := by decide +kernel
theorem dX2_either_16 : decode cX2_either 16 = .ok (.if_icmp .ge 45, 3) := by decide +kernel
theorem dX2_either_19 : decode cX2_either 19 = .ok (.aload_n 0, 1) := by decide +kernel
theorem dX2_either_20 : decode cX2_either 20 = .ok (.getfield 15, 3) := by decide +kernel
theorem dX2_either_23 : decode cX2_either 23 = .ok (.getfield 32, 3) := by decide +kernel
theorem dX2_either_26 : decode cX2_either 26 = .ok (.bipush 7, 2) := by decide +kernel
theorem dX2_either_28 : decode cX2_either 28 = .ok (.if_icmp .ne 33, 3) := by decide +kernel
theorem dX2_either_31 : decode cX2_either 31 = .ok (.aload_n 0, 1) := by decide +kernel
theorem dX2_either_32 : decode cX2_either 32 = .ok (.getfield 15, 3) := by decide +kernel
theorem dX2_either_35 : decode cX2_either 35 = .ok (.invokevirtual 52, 3) := by decide +kernel
theorem dX2_either_38 : decode cX2_either 38 = .ok (.aload_n 0, 1) := by decide +kernel
theorem dX2_either_39 : decode cX2_either 39 = .ok (.iload_n 1, 1) := by decide +kernel
theorem dX2_either_40 : decode cX2_either 40 = .ok (.invokevirtual 55, 3) := by decide +kernel
theorem dX2_either_43 : decode cX2_either 43 = .ok (.ifCond .ne 5, 3) := by decide +kernel
theorem dX2_either_46 : decode cX2_either 46 = .ok (.iconst 0, 1) := by decide +kernel
theorem dX2_either_47 : decode cX2_either 47 = .ok (.ireturn, 1) := by decide +kernel
theorem dX2_either_48 : decode cX2_either 48 = .ok (.aload_n 0, 1) := by decide +kernel
theorem dX2_either_49 : decode cX2_either 49 = .ok (.sipush 20000, 3) := by decide +kernel
theorem dX2_either_52 : decode cX2_either 52 = .ok (.invokevirtual 58, 3) := by decide +kernel
theorem dX2_either_55 : decode cX2_either 55 = .ok (.iinc 2 1, 3) := by decide +kernel
theorem dX2_either_58 : decode cX2_either 58 = .ok (.goto (-46), 3) := by decide +kernel
theorem dX2_either_61 : decode cX2_either 61 = .ok (.iconst 1, 1) := by decide +kernel
theorem dX2_either_62 : decode cX2_either 62 = .ok (.ireturn, 1) := by decide +kernel
set_option maxHeartbeats 4000000 in
set_option maxRecDepth 100000 in
theorem bb_X2_either_12 {p : Program} {l : Launch} {e : Env} {s : State} {m : MethodId} {args : Array Value} {below : List Frame} {meth : Method} {c : Code} {D : va_G} {cy : Nat → ClassId} {nt : Nat} {ad : Nat → Nat} {A : Nat → Prop} {X : Nat → Nat} {Q : Int32 → Sg → Prop} (K : Kx p s m args meth c cX2_either 3 RX2 D cy) (KX : XC X A s s.heap) (hr : meth.sig.returnType = (some .boolean)) (r : Nat) (h5 : 10 ≤ r) (rec : RT) (hrec : HrecP l D cy nt ad A X rec r) : ∀ (n : Nat) (x1 : Int32) (x2 : Int32)  (g0 : Sg) (H : Heap) (locs : List Loc) (ls : Array Slot), vb_X2_either_L12 rec nt Q n x1 x2 g0 → Wd D A s.heap (wsC cy nt ad g0) H locs → lv_has ls 3 [(0, .ref (ad 10)), (1, .int x1), (2, .int x2)] → W p l e (rmD (r + 1)) s m args below meth c H locs 0 0 (MQ below (va_Qi Q (PostG (wsC cy nt ad) D A) A) args s 0 0 A) (F0 m 12 ls []) := by
  intro n
  induction n with
  | zero => intro _ _ _ _ _ _ hd; exact hd.elim
  | succ n ih =>
    intro x1 x2 g0 H locs ls  hd hw hl
    unfold vb_X2_either_L12 at hd
    refine lv_iload_n K.1 K.2.1 dX2_either_12 rfl (lv_at hl 2 rfl) ?_
    refine lv_sipush (v := (160 : Int32)) K.1 K.2.1 dX2_either_13 (by decide) ?_
    refine lv_icmp_ge (tgt := 61) K.1 K.2.1 dX2_either_16 (by decide) (fun h_5 => ?_) (fun h_5 => ?_)
    · have hd := hd.1 h_5
      refine lv_iconst (v := (1 : Int32)) K.1 K.2.1 dX2_either_61 (by decide) ?_
      exact rk_zret K hw hr (by decide) hd dX2_either_62
    · have hd := hd.2 h_5
      refine lv_aload_n K.1 K.2.1 dX2_either_19 rfl (lv_at hl 0 rfl) ?_
      refine rc_get layX2 (ci := 2) rfl 0 (by decide) (v := .ref (ad 8)) K hw (wc_Pr cy nt ad _) kf_X2_15 rfl dX2_either_20 ?_
      refine rc_get layX5 (ci := 5) rfl 3 (by decide) (v := .int (g0 8 3)) K hw (wc_Tp cy nt ad _) kf_X2_32 rfl dX2_either_23 ?_
      refine lv_bipush (v := (7 : Int32)) K.1 K.2.1 dX2_either_26 (by decide) ?_
      refine lv_icmp_ne (tgt := 61) K.1 K.2.1 dX2_either_28 (by decide) (fun h_6 => ?_) (fun h_6 => ?_)
      · have hd := hd.1 h_6
        refine lv_iconst (v := (1 : Int32)) K.1 K.2.1 dX2_either_61 (by decide) ?_
        exact rk_zret K hw hr (by decide) hd dX2_either_62
      · have hd := hd.2 h_6
        refine lv_aload_n K.1 K.2.1 dX2_either_31 rfl (lv_at hl 0 rfl) ?_
        refine rc_get layX2 (ci := 2) rfl 0 (by decide) (v := .ref (ad 8)) K hw (wc_Pr cy nt ad _) kf_X2_15 rfl dX2_either_32 ?_
        refine rkc_vv (As := []) (rest := []) K KX hw (cc_X5_advance l D cy nt ad A X g0 _  hd) lk_X2_52 (ci := 5) rfl (wc_Tp cy nt ad _) ⟨by show 7 + 1 ≤ r + 1; omega, by show 8 + (2 + 11) + 60 * 7 ≤ 60 * (r + 1); omega⟩ ⟨Nat.zero_le _, Nat.zero_le _⟩ rfl hl.1 (Nat.le_of_ble_eq_true rfl) rfl dX2_either_35 (fun g_7 H locs hd hw => ?_)
        refine lv_aload_n K.1 K.2.1 dX2_either_38 rfl (lv_at hl 0 rfl) ?_
        refine lv_iload_n K.1 K.2.1 dX2_either_39 rfl (lv_at hl 1 rfl) ?_
        refine rkc_vi (As := [.int x1]) (rest := []) K KX hw (hrec.2.1 g_7 _ x1 hd) lk_X2_55 (ci := 2) rfl (wc_Pr cy nt ad _) ⟨by show r + 1 ≤ r + 1; omega, by show 8 + (3 + 11) + 60 * r ≤ 60 * (r + 1); omega⟩ ⟨Nat.zero_le _, Nat.zero_le _⟩ rfl hl.1 (Nat.le_of_ble_eq_true rfl) rfl dX2_either_40 (fun r_10 g_9 H locs hd hw => ?_)
        refine lv_if_ne (tgt := 48) K.1 K.2.1 dX2_either_43 (by decide) (fun h_11 => ?_) (fun h_11 => ?_)
        · have hd := hd.1 h_11
          refine lv_aload_n K.1 K.2.1 dX2_either_48 rfl (lv_at hl 0 rfl) ?_
          refine lv_sipush (v := (20000 : Int32)) K.1 K.2.1 dX2_either_49 (by decide) ?_
          refine rkc_vv (As := [.int (20000 : Int32)]) (rest := []) K KX hw (cc_X2_emit l D cy nt ad A X g_9 _ (20000 : Int32) hd) lk_X2_58 (ci := 2) rfl (wc_Pr cy nt ad _) ⟨by show 1 + 1 ≤ r + 1; omega, by show 8 + (2 + 11) + 60 * 1 ≤ 60 * (r + 1); omega⟩ ⟨Nat.zero_le _, Nat.zero_le _⟩ rfl hl.1 (Nat.le_of_ble_eq_true rfl) rfl dX2_either_52 (fun g_12 H locs hd hw => ?_)
          obtain ⟨x2_14, ex2_14⟩ : ∃ y : Int32, y = x2 + (1 : Int32) := ⟨_, rfl⟩
          have hd := hd x2_14 ex2_14
          refine lv_iinc (v := x2_14) (lv' := [(2, .int x2_14), (0, .ref (ad 10)), (1, .int x1)]) K.1 K.2.1 dX2_either_55 hl (k := 2) rfl (by rw [ex2_14]; rfl) (by decide) rfl (fun ls hl => ?_)
          refine lv_goto (tgt := 12) K.1 K.2.1 dX2_either_58 (by decide) ?_
          exact ih x1 x2_14 g_12 _ _ _  hd hw (lv_sub hl [1, 2, 0] rfl)
        · have hd := hd.2 h_11
          refine lv_iconst (v := (0 : Int32)) K.1 K.2.1 dX2_either_46 (by decide) ?_
          exact rk_zret K hw hr (by decide) hd dX2_either_47
set_option maxHeartbeats 4000000 in
set_option maxRecDepth 100000 in
theorem cb_X2_either (l : Launch) (D : va_G) (cy : Nat → ClassId) (nt : Nat) (ad : Nat → Nat) (A : Nat → Prop) (X : Nat → Nat) (r : Nat) (h5 : 10 ≤ r) (rec : RT) (hrec : HrecP l D cy nt ad A X rec r) (g0 : Sg) (Q : Int32 → Sg → Prop) (x1 : Int32) (hd : vb_X2_either rec nt x1 g0 Q) : Met l yX2_either (Cond.code yX2_either cX2_either 3 (some .boolean) :: TT) (rmD (r + 1)) (va_Pc [.ref (ad 10), .int x1] (PreC (wsC cy nt ad) D cy A X g0)) (va_Qi Q (PostG (wsC cy nt ad) D A) A) 0 0 A := by
  unfold vb_X2_either at hd
  refine Met.ofW (cc := cX2_either) (maxL := 3) (ret := (some .boolean)) (by decide) rfl ?_
  intro p e s m args below meth c s₁ B hml hv
  obtain ⟨rfl, ⟨hP, hK0, hD⟩, KX⟩ := hv
  have K : Kx p s m _ meth c cX2_either 3 RX2 D cy := ⟨B.exec, B.bytes, hml, findClass_of_methodNamed B.named, fun w h => atoms_spec (ws := Cond.code yX2_either cX2_either 3 (some .boolean) :: TT) B.pre w (List.mem_cons_of_mem _ h), hK0, B.notSynchronized⟩
  have hw : Wd D A s.heap (wsC cy nt ad g0) s.heap [] := ⟨hP, hD, va_S.rf⟩
  have hr := B.returns
  have hl := lv_entry ([.ref (ad 10), .int x1]) (n := 3) (Nat.le_of_ble_eq_true rfl)
  rw [lg_entry_eq]
  generalize (lg_sl ([.ref (ad 10), .int x1]) ++ List.replicate (3 - (lg_sl ([.ref (ad 10), .int x1])).length) Slot.unset).toArray = ls at hl ⊢
  have hl : lv_has ls 3 [(0, .ref (ad 10)), (1, .int x1)] := hl
  refine lv_aload_n K.1 K.2.1 dX2_either_0 rfl (lv_at hl 0 rfl) ?_
  refine lv_iload_n K.1 K.2.1 dX2_either_1 rfl (lv_at hl 1 rfl) ?_
  refine rkc_vi (As := [.int x1]) (rest := []) K KX hw (hrec.2.1 g0 _ x1 hd) lk_X2_55 (ci := 2) rfl (wc_Pr cy nt ad _) ⟨by show r + 1 ≤ r + 1; omega, by show 8 + (3 + 11) + 60 * r ≤ 60 * (r + 1); omega⟩ ⟨Nat.zero_le _, Nat.zero_le _⟩ rfl hl.1 (Nat.le_of_ble_eq_true rfl) rfl dX2_either_2 (fun r_2 g_1 H locs hd hw => ?_)
  refine lv_if_ne (tgt := 10) K.1 K.2.1 dX2_either_5 (by decide) (fun h_3 => ?_) (fun h_3 => ?_)
  · have hd := hd.1 h_3
    refine lv_iconst (v := (0 : Int32)) K.1 K.2.1 dX2_either_10 (by decide) ?_
    refine lv_topi (fun x2_4 ex2_4 => ?_)
    have hd := hd x2_4 ex2_4
    refine lv_istore_n (lv' := [(2, .int x2_4), (0, .ref (ad 10)), (1, .int x1)]) K.1 K.2.1 dX2_either_11 rfl hl (by decide) rfl (fun ls hl => ?_)
    obtain ⟨n9, hd⟩ := hd
    exact bb_X2_either_12 K KX hr r h5 rec hrec  n9 x1 x2_4 g_1 _ _ _  hd hw (lv_sub hl [1, 2, 0] rfl)
  · have hd := hd.2 h_3
    refine lv_iconst (v := (0 : Int32)) K.1 K.2.1 dX2_either_8 (by decide) ?_
    exact rk_zret K hw hr (by decide) hd dX2_either_9
theorem dX2_both_0 : decode cX2_both 0 = .ok (.aload_n 0, 1) := by decide +kernel
theorem dX2_both_1 : decode cX2_both 1 = .ok (.iload_n 1, 1) := by decide +kernel
theorem dX2_both_2 : decode cX2_both 2 = .ok (.invokevirtual 62, 3) := by decide +kernel
theorem dX2_both_5 : decode cX2_both 5 = .ok (.ifCond .ne 5, 3) := by decide +kernel
theorem dX2_both_8 : decode cX2_both 8 = .ok (.iconst 0, 1) := by decide +kernel
theorem dX2_both_9 : decode cX2_both 9 = .ok (.ireturn, 1) := by decide +kernel
theorem dX2_both_10 : decode cX2_both 10 = .ok (.iconst 0, 1) := by decide +kernel
theorem dX2_both_11 : decode cX2_both 11 = .ok (.istore_n 2, 1) := by decide +kernel
theorem dX2_both_12 : decode cX2_both 12 = .ok (.iload_n 2, 1) := by decide +kernel
theorem dX2_both_13 : decode cX2_both 13 = .ok (.sipush 160, 3) := by decide +kernel
theorem dX2_both_16 : decode cX2_both 16 = .ok (.if_icmp .ge 45, 3) := by decide +kernel
theorem dX2_both_19 : decode cX2_both 19 = .ok (.aload_n 0, 1) := by decide +kernel
theorem dX2_both_20 : decode cX2_both 20 = .ok (.getfield 15, 3) := by decide +kernel
theorem dX2_both_23 : decode cX2_both 23 = .ok (.getfield 32, 3) := by decide +kernel
theorem dX2_both_26 : decode cX2_both 26 = .ok (.bipush 8, 2) := by decide +kernel
theorem dX2_both_28 : decode cX2_both 28 = .ok (.if_icmp .ne 33, 3) := by decide +kernel
theorem dX2_both_31 : decode cX2_both 31 = .ok (.aload_n 0, 1) := by decide +kernel
theorem dX2_both_32 : decode cX2_both 32 = .ok (.getfield 15, 3) := by decide +kernel
theorem dX2_both_35 : decode cX2_both 35 = .ok (.invokevirtual 52, 3) := by decide +kernel
theorem dX2_both_38 : decode cX2_both 38 = .ok (.aload_n 0, 1) := by decide +kernel
theorem dX2_both_39 : decode cX2_both 39 = .ok (.iload_n 1, 1) := by decide +kernel
theorem dX2_both_40 : decode cX2_both 40 = .ok (.invokevirtual 62, 3) := by decide +kernel
theorem dX2_both_43 : decode cX2_both 43 = .ok (.ifCond .ne 5, 3) := by decide +kernel
theorem dX2_both_46 : decode cX2_both 46 = .ok (.iconst 0, 1) := by decide +kernel
theorem dX2_both_47 : decode cX2_both 47 = .ok (.ireturn, 1) := by decide +kernel
theorem dX2_both_48 : decode cX2_both 48 = .ok (.aload_n 0, 1) := by decide +kernel
theorem dX2_both_49 : decode cX2_both 49 = .ok (.sipush 20001, 3) := by decide +kernel
theorem dX2_both_52 : decode cX2_both 52 = .ok (.invokevirtual 58, 3) := by decide +kernel
theorem dX2_both_55 : decode cX2_both 55 = .ok (.iinc 2 1, 3) := by decide +kernel
theorem dX2_both_58 : decode cX2_both 58 = .ok (.goto (-46), 3) := by decide +kernel
theorem dX2_both_61 : decode cX2_both 61 = .ok (.iconst 1, 1) := by decide +kernel
theorem dX2_both_62 : decode cX2_both 62 = .ok (.ireturn, 1) := by decide +kernel
set_option maxHeartbeats 4000000 in
set_option maxRecDepth 100000 in
theorem bb_X2_both_12 {p : Program} {l : Launch} {e : Env} {s : State} {m : MethodId} {args : Array Value} {below : List Frame} {meth : Method} {c : Code} {D : va_G} {cy : Nat → ClassId} {nt : Nat} {ad : Nat → Nat} {A : Nat → Prop} {X : Nat → Nat} {Q : Int32 → Sg → Prop} (K : Kx p s m args meth c cX2_both 3 RX2 D cy) (KX : XC X A s s.heap) (hr : meth.sig.returnType = (some .boolean)) (r : Nat) (h5 : 10 ≤ r) (rec : RT) (hrec : HrecP l D cy nt ad A X rec r) : ∀ (n : Nat) (x1 : Int32) (x2 : Int32)  (g0 : Sg) (H : Heap) (locs : List Loc) (ls : Array Slot), vb_X2_both_L12 rec nt Q n x1 x2 g0 → Wd D A s.heap (wsC cy nt ad g0) H locs → lv_has ls 3 [(0, .ref (ad 10)), (1, .int x1), (2, .int x2)] → W p l e (rmD (r + 1)) s m args below meth c H locs 0 0 (MQ below (va_Qi Q (PostG (wsC cy nt ad) D A) A) args s 0 0 A) (F0 m 12 ls []) := by
  intro n
  induction n with
  | zero => intro _ _ _ _ _ _ hd; exact hd.elim
  | succ n ih =>
    intro x1 x2 g0 H locs ls  hd hw hl
    unfold vb_X2_both_L12 at hd
    refine lv_iload_n K.1 K.2.1 dX2_both_12 rfl (lv_at hl 2 rfl) ?_
    refine lv_sipush (v := (160 : Int32)) K.1 K.2.1 dX2_both_13 (by decide) ?_
    refine lv_icmp_ge (tgt := 61) K.1 K.2.1 dX2_both_16 (by decide) (fun h_5 => ?_) (fun h_5 => ?_)
    · have hd := hd.1 h_5
      refine lv_iconst (v := (1 : Int32)) K.1 K.2.1 dX2_both_61 (by decide) ?_
      exact rk_zret K hw hr (by decide) hd dX2_both_62
    · have hd := hd.2 h_5
      refine lv_aload_n K.1 K.2.1 dX2_both_19 rfl (lv_at hl 0 rfl) ?_
      refine rc_get layX2 (ci := 2) rfl 0 (by decide) (v := .ref (ad 8)) K hw (wc_Pr cy nt ad _) kf_X2_15 rfl dX2_both_20 ?_
      refine rc_get layX5 (ci := 5) rfl 3 (by decide) (v := .int (g0 8 3)) K hw (wc_Tp cy nt ad _) kf_X2_32 rfl dX2_both_23 ?_
      refine lv_bipush (v := (8 : Int32)) K.1 K.2.1 dX2_both_26 (by decide) ?_
      refine lv_icmp_ne (tgt := 61) K.1 K.2.1 dX2_both_28 (by decide) (fun h_6 => ?_) (fun h_6 => ?_)
      · have hd := hd.1 h_6
        refine lv_iconst (v := (1 : Int32)) K.1 K.2.1 dX2_both_61 (by decide) ?_
        exact rk_zret K hw hr (by decide) hd dX2_both_62
      · have hd := hd.2 h_6
        refine lv_aload_n K.1 K.2.1 dX2_both_31 rfl (lv_at hl 0 rfl) ?_
        refine rc_get layX2 (ci := 2) rfl 0 (by decide) (v := .ref (ad 8)) K hw (wc_Pr cy nt ad _) kf_X2_15 rfl dX2_both_32 ?_
        refine rkc_vv (As := []) (rest := []) K KX hw (cc_X5_advance l D cy nt ad A X g0 _  hd) lk_X2_52 (ci := 5) rfl (wc_Tp cy nt ad _) ⟨by show 7 + 1 ≤ r + 1; omega, by show 8 + (2 + 11) + 60 * 7 ≤ 60 * (r + 1); omega⟩ ⟨Nat.zero_le _, Nat.zero_le _⟩ rfl hl.1 (Nat.le_of_ble_eq_true rfl) rfl dX2_both_35 (fun g_7 H locs hd hw => ?_)
        refine lv_aload_n K.1 K.2.1 dX2_both_38 rfl (lv_at hl 0 rfl) ?_
        refine lv_iload_n K.1 K.2.1 dX2_both_39 rfl (lv_at hl 1 rfl) ?_
        refine rkc_vi (As := [.int x1]) (rest := []) K KX hw (hrec.2.2.1 g_7 _ x1 hd) lk_X2_62 (ci := 2) rfl (wc_Pr cy nt ad _) ⟨by show r + 1 ≤ r + 1; omega, by show 8 + (3 + 11) + 60 * r ≤ 60 * (r + 1); omega⟩ ⟨Nat.zero_le _, Nat.zero_le _⟩ rfl hl.1 (Nat.le_of_ble_eq_true rfl) rfl dX2_both_40 (fun r_10 g_9 H locs hd hw => ?_)
        refine lv_if_ne (tgt := 48) K.1 K.2.1 dX2_both_43 (by decide) (fun h_11 => ?_) (fun h_11 => ?_)
        · have hd := hd.1 h_11
          refine lv_aload_n K.1 K.2.1 dX2_both_48 rfl (lv_at hl 0 rfl) ?_
          refine lv_sipush (v := (20001 : Int32)) K.1 K.2.1 dX2_both_49 (by decide) ?_
          refine rkc_vv (As := [.int (20001 : Int32)]) (rest := []) K KX hw (cc_X2_emit l D cy nt ad A X g_9 _ (20001 : Int32) hd) lk_X2_58 (ci := 2) rfl (wc_Pr cy nt ad _) ⟨by show 1 + 1 ≤ r + 1; omega, by show 8 + (2 + 11) + 60 * 1 ≤ 60 * (r + 1); omega⟩ ⟨Nat.zero_le _, Nat.zero_le _⟩ rfl hl.1 (Nat.le_of_ble_eq_true rfl) rfl dX2_both_52 (fun g_12 H locs hd hw => ?_)
          obtain ⟨x2_14, ex2_14⟩ : ∃ y : Int32, y = x2 + (1 : Int32) := ⟨_, rfl⟩
          have hd := hd x2_14 ex2_14
          refine lv_iinc (v := x2_14) (lv' := [(2, .int x2_14), (0, .ref (ad 10)), (1, .int x1)]) K.1 K.2.1 dX2_both_55 hl (k := 2) rfl (by rw [ex2_14]; rfl) (by decide) rfl (fun ls hl => ?_)
          refine lv_goto (tgt := 12) K.1 K.2.1 dX2_both_58 (by decide) ?_
          exact ih x1 x2_14 g_12 _ _ _  hd hw (lv_sub hl [1, 2, 0] rfl)
        · have hd := hd.2 h_11
          refine lv_iconst (v := (0 : Int32)) K.1 K.2.1 dX2_both_46 (by decide) ?_
          exact rk_zret K hw hr (by decide) hd dX2_both_47
set_option maxHeartbeats 4000000 in
set_option maxRecDepth 100000 in
theorem cb_X2_both (l : Launch) (D : va_G) (cy : Nat → ClassId) (nt : Nat) (ad : Nat → Nat) (A : Nat → Prop) (X : Nat → Nat) (r : Nat) (h5 : 10 ≤ r) (rec : RT) (hrec : HrecP l D cy nt ad A X rec r) (g0 : Sg) (Q : Int32 → Sg → Prop) (x1 : Int32) (hd : vb_X2_both rec nt x1 g0 Q) : Met l yX2_both (Cond.code yX2_both cX2_both 3 (some .boolean) :: TT) (rmD (r + 1)) (va_Pc [.ref (ad 10), .int x1] (PreC (wsC cy nt ad) D cy A X g0)) (va_Qi Q (PostG (wsC cy nt ad) D A) A) 0 0 A := by
  unfold vb_X2_both at hd
  refine Met.ofW (cc := cX2_both) (maxL := 3) (ret := (some .boolean)) (by decide) rfl ?_
  intro p e s m args below meth c s₁ B hml hv
  obtain ⟨rfl, ⟨hP, hK0, hD⟩, KX⟩ := hv
  have K : Kx p s m _ meth c cX2_both 3 RX2 D cy := ⟨B.exec, B.bytes, hml, findClass_of_methodNamed B.named, fun w h => atoms_spec (ws := Cond.code yX2_both cX2_both 3 (some .boolean) :: TT) B.pre w (List.mem_cons_of_mem _ h), hK0, B.notSynchronized⟩
  have hw : Wd D A s.heap (wsC cy nt ad g0) s.heap [] := ⟨hP, hD, va_S.rf⟩
  have hr := B.returns
  have hl := lv_entry ([.ref (ad 10), .int x1]) (n := 3) (Nat.le_of_ble_eq_true rfl)
  rw [lg_entry_eq]
  generalize (lg_sl ([.ref (ad 10), .int x1]) ++ List.replicate (3 - (lg_sl ([.ref (ad 10), .int x1])).length) Slot.unset).toArray = ls at hl ⊢
  have hl : lv_has ls 3 [(0, .ref (ad 10)), (1, .int x1)] := hl
  refine lv_aload_n K.1 K.2.1 dX2_both_0 rfl (lv_at hl 0 rfl) ?_
  refine lv_iload_n K.1 K.2.1 dX2_both_1 rfl (lv_at hl 1 rfl) ?_
  refine rkc_vi (As := [.int x1]) (rest := []) K KX hw (hrec.2.2.1 g0 _ x1 hd) lk_X2_62 (ci := 2) rfl (wc_Pr cy nt ad _) ⟨by show r + 1 ≤ r + 1; omega, by show 8 + (3 + 11) + 60 * r ≤ 60 * (r + 1); omega⟩ ⟨Nat.zero_le _, Nat.zero_le _⟩ rfl hl.1 (Nat.le_of_ble_eq_true rfl) rfl dX2_both_2 (fun r_2 g_1 H locs hd hw => ?_)
  refine lv_if_ne (tgt := 10) K.1 K.2.1 dX2_both_5 (by decide) (fun h_3 => ?_) (fun h_3 => ?_)
  · have hd := hd.1 h_3
    refine lv_iconst (v := (0 : Int32)) K.1 K.2.1 dX2_both_10 (by decide) ?_
    refine lv_topi (fun x2_4 ex2_4 => ?_)
    have hd := hd x2_4 ex2_4
    refine lv_istore_n (lv' := [(2, .int x2_4), (0, .ref (ad 10)), (1, .int x1)]) K.1 K.2.1 dX2_both_11 rfl hl (by decide) rfl (fun ls hl => ?_)
    obtain ⟨n9, hd⟩ := hd
    exact bb_X2_both_12 K KX hr r h5 rec hrec  n9 x1 x2_4 g_1 _ _ _  hd hw (lv_sub hl [1, 2, 0] rfl)
  · have hd := hd.2 h_3
    refine lv_iconst (v := (0 : Int32)) K.1 K.2.1 dX2_both_8 (by decide) ?_
    exact rk_zret K hw hr (by decide) hd dX2_both_9
theorem dX2_negation_0 : decode cX2_negation 0 = .ok (.aload_n 0, 1) := by decide +kernel
theorem dX2_negation_1 : decode cX2_negation 1 = .ok (.getfield 15, 3) := by decide +kernel
theorem dX2_negation_4 : decode cX2_negation 4 = .ok (.getfield 32, 3) := by decide +kernel
theorem dX2_negation_7 : decode cX2_negation 7 = .ok (.bipush 9, 2) := by decide +kernel
theorem dX2_negation_9 : decode cX2_negation 9 = .ok (.if_icmp .ne 38, 3) := by decide +kernel
theorem dX2_negation_12 : decode cX2_negation 12 = .ok (.iload_n 1, 1) := by decide +kernel
theorem dX2_negation_13 : decode cX2_negation 13 = .ok (.iconst 5, 1) := by decide +kernel
theorem dX2_negation_14 : decode cX2_negation 14 = .ok (.if_icmp .lt 5, 3) := by decide +kernel
theorem dX2_negation_17 : decode cX2_negation 17 = .ok (.iconst 0, 1) := by decide +kernel
theorem dX2_negation_18 : decode cX2_negation 18 = .ok (.ireturn, 1) := by decide +kernel
theorem dX2_negation_19 : decode cX2_negation 19 = .ok (.aload_n 0, 1) := by decide +kernel
theorem dX2_negation_20 : decode cX2_negation 20 = .ok (.getfield 15, 3) := by decide +kernel
theorem dX2_negation_23 : decode cX2_negation 23 = .ok (.invokevirtual 52, 3) := by decide +kernel
theorem dX2_negation_26 : decode cX2_negation 26 = .ok (.aload_n 0, 1) := by decide +kernel
theorem dX2_negation_27 : decode cX2_negation 27 = .ok (.iload_n 1, 1) := by decide +kernel
theorem dX2_negation_28 : decode cX2_negation 28 = .ok (.iconst 1, 1) := by decide +kernel
theorem dX2_negation_29 : decode cX2_negation 29 = .ok (.iadd, 1) := by decide +kernel
theorem dX2_negation_30 : decode cX2_negation 30 = .ok (.invokevirtual 62, 3) := by decide +kernel
theorem dX2_negation_33 : decode cX2_negation 33 = .ok (.ifCond .ne 5, 3) := by decide +kernel
theorem dX2_negation_36 : decode cX2_negation 36 = .ok (.iconst 0, 1) := by decide +kernel
theorem dX2_negation_37 : decode cX2_negation 37 = .ok (.ireturn, 1) := by decide +kernel
theorem dX2_negation_38 : decode cX2_negation 38 = .ok (.aload_n 0, 1) := by decide +kernel
theorem dX2_negation_39 : decode cX2_negation 39 = .ok (.sipush 20007, 3) := by decide +kernel
theorem dX2_negation_42 : decode cX2_negation 42 = .ok (.invokevirtual 58, 3) := by decide +kernel
theorem dX2_negation_45 : decode cX2_negation 45 = .ok (.iconst 1, 1) := by decide +kernel
theorem dX2_negation_46 : decode cX2_negation 46 = .ok (.ireturn, 1) := by decide +kernel
theorem dX2_negation_47 : decode cX2_negation 47 = .ok (.aload_n 0, 1) := by decide +kernel
theorem dX2_negation_48 : decode cX2_negation 48 = .ok (.iload_n 1, 1) := by decide +kernel
theorem dX2_negation_49 : decode cX2_negation 49 = .ok (.invokevirtual 65, 3) := by decide +kernel
theorem dX2_negation_52 : decode cX2_negation 52 = .ok (.ifCond .ne 5, 3) := by decide +kernel
theorem dX2_negation_55 : decode cX2_negation 55 = .ok (.iconst 0, 1) := by decide +kernel
theorem dX2_negation_56 : decode cX2_negation 56 = .ok (.ireturn, 1) := by decide +kernel
theorem dX2_negation_57 : decode cX2_negation 57 = .ok (.aload_n 0, 1) := by decide +kernel
theorem dX2_negation_58 : decode cX2_negation 58 = .ok (.getfield 15, 3) := by decide +kernel
theorem dX2_negation_61 : decode cX2_negation 61 = .ok (.getfield 32, 3) := by decide +kernel
theorem dX2_negation_64 : decode cX2_negation 64 = .ok (.istore_n 2, 1) := by decide +kernel
theorem dX2_negation_65 : decode cX2_negation 65 = .ok (.iload_n 2, 1) := by decide +kernel
theorem dX2_negation_66 : decode cX2_negation 66 = .ok (.bipush 60, 2) := by decide +kernel
theorem dX2_negation_68 : decode cX2_negation 68 = .ok (.if_icmp .eq 9, 3) := by decide +kernel
theorem dX2_negation_71 : decode cX2_negation 71 = .ok (.iload_n 2, 1) := by decide +kernel
theorem dX2_negation_72 : decode cX2_negation 72 = .ok (.bipush 61, 2) := by decide +kernel
theorem dX2_negation_74 : decode cX2_negation 74 = .ok (.if_icmp .ne 39, 3) := by decide +kernel
theorem dX2_negation_77 : decode cX2_negation 77 = .ok (.aload_n 0, 1) := by decide +kernel
theorem dX2_negation_78 : decode cX2_negation 78 = .ok (.getfield 15, 3) := by decide +kernel
theorem dX2_negation_81 : decode cX2_negation 81 = .ok (.invokevirtual 52, 3) := by decide +kernel
theorem dX2_negation_84 : decode cX2_negation 84 = .ok (.aload_n 0, 1) := by decide +kernel
theorem dX2_negation_85 : decode cX2_negation 85 = .ok (.iload_n 1, 1) := by decide +kernel
theorem dX2_negation_86 : decode cX2_negation 86 = .ok (.invokevirtual 65, 3) := by decide +kernel
theorem dX2_negation_89 : decode cX2_negation 89 = .ok (.ifCond .ne 5, 3) := by decide +kernel
theorem dX2_negation_92 : decode cX2_negation 92 = .ok (.iconst 0, 1) := by decide +kernel
theorem dX2_negation_93 : decode cX2_negation 93 = .ok (.ireturn, 1) := by decide +kernel
theorem dX2_negation_94 : decode cX2_negation 94 = .ok (.aload_n 0, 1) := by decide +kernel
theorem dX2_negation_95 : decode cX2_negation 95 = .ok (.iload_n 2, 1) := by decide +kernel
theorem dX2_negation_96 : decode cX2_negation 96 = .ok (.bipush 60, 2) := by decide +kernel
theorem dX2_negation_98 : decode cX2_negation 98 = .ok (.if_icmp .ne 9, 3) := by decide +kernel
theorem dX2_negation_101 : decode cX2_negation 101 = .ok (.sipush 20002, 3) := by decide +kernel
theorem dX2_negation_104 : decode cX2_negation 104 = .ok (.goto 6, 3) := by decide +kernel
theorem dX2_negation_107 : decode cX2_negation 107 = .ok (.sipush 20003, 3) := by decide +kernel
theorem dX2_negation_110 : decode cX2_negation 110 = .ok (.invokevirtual 58, 3) := by decide +kernel
theorem dX2_negation_113 : decode cX2_negation 113 = .ok (.iconst 1, 1) := by decide +kernel
theorem dX2_negation_114 : decode cX2_negation 114 = .ok (.ireturn, 1) := by decide +kernel
set_option maxHeartbeats 4000000 in
set_option maxRecDepth 100000 in
theorem bb_X2_negation_110 {p : Program} {l : Launch} {e : Env} {s : State} {m : MethodId} {args : Array Value} {below : List Frame} {meth : Method} {c : Code} {D : va_G} {cy : Nat → ClassId} {nt : Nat} {ad : Nat → Nat} {A : Nat → Prop} {X : Nat → Nat} {Q : Int32 → Sg → Prop} (K : Kx p s m args meth c cX2_negation 3 RX2 D cy) (KX : XC X A s s.heap) (hr : meth.sig.returnType = (some .boolean)) (r : Nat) (h5 : 10 ≤ r) (rec : RT) (hrec : HrecP l D cy nt ad A X rec r)  (t1 : Int32) (g0 : Sg) (H : Heap) (locs : List Loc) (ls : Array Slot) (hd : vb_X2_negation_J110 rec nt t1 g0 Q) (hw : Wd D A s.heap (wsC cy nt ad g0) H locs) (hl : lv_has ls 3 []) : W p l e (rmD (r + 1)) s m args below meth c H locs 0 0 (MQ below (va_Qi Q (PostG (wsC cy nt ad) D A) A) args s 0 0 A) (F0 m 110 ls [.int t1, .ref (ad 10)]) := by
  unfold vb_X2_negation_J110 at hd
  refine rkc_vv (As := [.int t1]) (rest := []) K KX hw (cc_X2_emit l D cy nt ad A X g0 _ t1 hd) lk_X2_58 (ci := 2) rfl (wc_Pr cy nt ad _) ⟨by show 1 + 1 ≤ r + 1; omega, by show 8 + (2 + 11) + 60 * 1 ≤ 60 * (r + 1); omega⟩ ⟨Nat.zero_le _, Nat.zero_le _⟩ rfl hl.1 (Nat.le_of_ble_eq_true rfl) rfl dX2_negation_110 (fun g_13 H locs hd hw => ?_)
  refine lv_iconst (v := (1 : Int32)) K.1 K.2.1 dX2_negation_113 (by decide) ?_
  exact rk_zret K hw hr (by decide) hd dX2_negation_114
set_option maxHeartbeats 4000000 in
set_option maxRecDepth 100000 in
theorem bb_X2_negation_77 {p : Program} {l : Launch} {e : Env} {s : State} {m : MethodId} {args : Array Value} {below : List Frame} {meth : Method} {c : Code} {D : va_G} {cy : Nat → ClassId} {nt : Nat} {ad : Nat → Nat} {A : Nat → Prop} {X : Nat → Nat} {Q : Int32 → Sg → Prop} (K : Kx p s m args meth c cX2_negation 3 RX2 D cy) (KX : XC X A s s.heap) (hr : meth.sig.returnType = (some .boolean)) (r : Nat) (h5 : 10 ≤ r) (rec : RT) (hrec : HrecP l D cy nt ad A X rec r) (x1 : Int32) (x2 : Int32)  (g0 : Sg) (H : Heap) (locs : List Loc) (ls : Array Slot) (hd : vb_X2_negation_J77 rec nt x1 x2 g0 Q) (hw : Wd D A s.heap (wsC cy nt ad g0) H locs) (hl : lv_has ls 3 [(0, .ref (ad 10)), (1, .int x1), (2, .int x2)]) : W p l e (rmD (r + 1)) s m args below meth c H locs 0 0 (MQ below (va_Qi Q (PostG (wsC cy nt ad) D A) A) args s 0 0 A) (F0 m 77 ls []) := by
  unfold vb_X2_negation_J77 at hd
  refine lv_aload_n K.1 K.2.1 dX2_negation_77 rfl (lv_at hl 0 rfl) ?_
  refine rc_get layX2 (ci := 2) rfl 0 (by decide) (v := .ref (ad 8)) K hw (wc_Pr cy nt ad _) kf_X2_15 rfl dX2_negation_78 ?_
  refine rkc_vv (As := []) (rest := []) K KX hw (cc_X5_advance l D cy nt ad A X g0 _  hd) lk_X2_52 (ci := 5) rfl (wc_Tp cy nt ad _) ⟨by show 7 + 1 ≤ r + 1; omega, by show 8 + (2 + 11) + 60 * 7 ≤ 60 * (r + 1); omega⟩ ⟨Nat.zero_le _, Nat.zero_le _⟩ rfl hl.1 (Nat.le_of_ble_eq_true rfl) rfl dX2_negation_81 (fun g_7 H locs hd hw => ?_)
  refine lv_aload_n K.1 K.2.1 dX2_negation_84 rfl (lv_at hl 0 rfl) ?_
  refine lv_iload_n K.1 K.2.1 dX2_negation_85 rfl (lv_at hl 1 rfl) ?_
  refine rkc_vi (As := [.int x1]) (rest := []) K KX hw (hrec.2.2.2.1 g_7 _ x1 hd) lk_X2_65 (ci := 2) rfl (wc_Pr cy nt ad _) ⟨by show r + 1 ≤ r + 1; omega, by show 8 + (4 + 11) + 60 * r ≤ 60 * (r + 1); omega⟩ ⟨Nat.zero_le _, Nat.zero_le _⟩ rfl hl.1 (Nat.le_of_ble_eq_true rfl) rfl dX2_negation_86 (fun r_10 g_9 H locs hd hw => ?_)
  refine lv_if_ne (tgt := 94) K.1 K.2.1 dX2_negation_89 (by decide) (fun h_11 => ?_) (fun h_11 => ?_)
  · have hd := hd.1 h_11
    refine lv_aload_n K.1 K.2.1 dX2_negation_94 rfl (lv_at hl 0 rfl) ?_
    refine lv_iload_n K.1 K.2.1 dX2_negation_95 rfl (lv_at hl 2 rfl) ?_
    refine lv_bipush (v := (60 : Int32)) K.1 K.2.1 dX2_negation_96 (by decide) ?_
    refine lv_icmp_ne (tgt := 107) K.1 K.2.1 dX2_negation_98 (by decide) (fun h_12 => ?_) (fun h_12 => ?_)
    · have hd := hd.1 h_12
      refine lv_sipush (v := (20003 : Int32)) K.1 K.2.1 dX2_negation_107 (by decide) ?_
      exact bb_X2_negation_110 K KX hr r h5 rec hrec  (20003 : Int32) g_9 _ _ _  hd hw (lv_sub hl [] rfl)
    · have hd := hd.2 h_12
      refine lv_sipush (v := (20002 : Int32)) K.1 K.2.1 dX2_negation_101 (by decide) ?_
      refine lv_goto (tgt := 110) K.1 K.2.1 dX2_negation_104 (by decide) ?_
      exact bb_X2_negation_110 K KX hr r h5 rec hrec  (20002 : Int32) g_9 _ _ _  hd hw (lv_sub hl [] rfl)
  · have hd := hd.2 h_11
    refine lv_iconst (v := (0 : Int32)) K.1 K.2.1 dX2_negation_92 (by decide) ?_
    exact rk_zret K hw hr (by decide) hd dX2_negation_93
set_option maxHeartbeats 4000000 in
set_option maxRecDepth 100000 in
theorem cb_X2_negation (l : Launch) (D : va_G) (cy : Nat → ClassId) (nt : Nat) (ad : Nat → Nat) (A : Nat → Prop) (X : Nat → Nat) (r : Nat) (h5 : 10 ≤ r) (rec : RT) (hrec : HrecP l D cy nt ad A X rec r) (g0 : Sg) (Q : Int32 → Sg → Prop) (x1 : Int32) (hd : vb_X2_negation rec nt x1 g0 Q) : Met l yX2_negation (Cond.code yX2_negation cX2_negation 3 (some .boolean) :: TT) (rmD (r + 1)) (va_Pc [.ref (ad 10), .int x1] (PreC (wsC cy nt ad) D cy A X g0)) (va_Qi Q (PostG (wsC cy nt ad) D A) A) 0 0 A := by
  unfold vb_X2_negation at hd
  refine Met.ofW (cc := cX2_negation) (maxL := 3) (ret := (some .boolean)) (by decide) rfl ?_
  intro p e s m args below meth c s₁ B hml hv
  obtain ⟨rfl, ⟨hP, hK0, hD⟩, KX⟩ := hv
  have K : Kx p s m _ meth c cX2_negation 3 RX2 D cy := ⟨B.exec, B.bytes, hml, findClass_of_methodNamed B.named, fun w h => atoms_spec (ws := Cond.code yX2_negation cX2_negation 3 (some .boolean) :: TT) B.pre w (List.mem_cons_of_mem _ h), hK0, B.notSynchronized⟩
  have hw : Wd D A s.heap (wsC cy nt ad g0) s.heap [] := ⟨hP, hD, va_S.rf⟩
  have hr := B.returns
  have hl := lv_entry ([.ref (ad 10), .int x1]) (n := 3) (Nat.le_of_ble_eq_true rfl)
  rw [lg_entry_eq]
  generalize (lg_sl ([.ref (ad 10), .int x1]) ++ List.replicate (3 - (lg_sl ([.ref (ad 10), .int x1])).length) Slot.unset).toArray = ls at hl ⊢
  have hl : lv_has ls 3 [(0, .ref (ad 10)), (1, .int x1)] := hl
  refine lv_aload_n K.1 K.2.1 dX2_negation_0 rfl (lv_at hl 0 rfl) ?_
  refine rc_get layX2 (ci := 2) rfl 0 (by decide) (v := .ref (ad 8)) K hw (wc_Pr cy nt ad _) kf_X2_15 rfl dX2_negation_1 ?_
  refine rc_get layX5 (ci := 5) rfl 3 (by decide) (v := .int (g0 8 3)) K hw (wc_Tp cy nt ad _) kf_X2_32 rfl dX2_negation_4 ?_
  refine lv_bipush (v := (9 : Int32)) K.1 K.2.1 dX2_negation_7 (by decide) ?_
  refine lv_icmp_ne (tgt := 47) K.1 K.2.1 dX2_negation_9 (by decide) (fun h_1 => ?_) (fun h_1 => ?_)
  · have hd := hd.1 h_1
    refine lv_aload_n K.1 K.2.1 dX2_negation_47 rfl (lv_at hl 0 rfl) ?_
    refine lv_iload_n K.1 K.2.1 dX2_negation_48 rfl (lv_at hl 1 rfl) ?_
    refine rkc_vi (As := [.int x1]) (rest := []) K KX hw (hrec.2.2.2.1 g0 _ x1 hd) lk_X2_65 (ci := 2) rfl (wc_Pr cy nt ad _) ⟨by show r + 1 ≤ r + 1; omega, by show 8 + (4 + 11) + 60 * r ≤ 60 * (r + 1); omega⟩ ⟨Nat.zero_le _, Nat.zero_le _⟩ rfl hl.1 (Nat.le_of_ble_eq_true rfl) rfl dX2_negation_49 (fun r_3 g_2 H locs hd hw => ?_)
    refine lv_if_ne (tgt := 57) K.1 K.2.1 dX2_negation_52 (by decide) (fun h_4 => ?_) (fun h_4 => ?_)
    · have hd := hd.1 h_4
      refine lv_aload_n K.1 K.2.1 dX2_negation_57 rfl (lv_at hl 0 rfl) ?_
      refine rc_get layX2 (ci := 2) rfl 0 (by decide) (v := .ref (ad 8)) K hw (wc_Pr cy nt ad _) kf_X2_15 rfl dX2_negation_58 ?_
      refine rc_get layX5 (ci := 5) rfl 3 (by decide) (v := .int (g_2 8 3)) K hw (wc_Tp cy nt ad _) kf_X2_32 rfl dX2_negation_61 ?_
      refine lv_topi (fun x2_5 ex2_5 => ?_)
      have hd := hd x2_5 ex2_5
      refine lv_istore_n (lv' := [(2, .int x2_5), (0, .ref (ad 10)), (1, .int x1)]) K.1 K.2.1 dX2_negation_64 rfl hl (by decide) rfl (fun ls hl => ?_)
      refine lv_iload_n K.1 K.2.1 dX2_negation_65 rfl (lv_at hl 0 rfl) ?_
      refine lv_bipush (v := (60 : Int32)) K.1 K.2.1 dX2_negation_66 (by decide) ?_
      refine lv_icmp_eq (tgt := 77) K.1 K.2.1 dX2_negation_68 (by decide) (fun h_6 => ?_) (fun h_6 => ?_)
      · have hd := hd.1 h_6
        exact bb_X2_negation_77 K KX hr r h5 rec hrec  x1 x2_5 g_2 _ _ _  hd hw (lv_sub hl [1, 2, 0] rfl)
      · have hd := hd.2 h_6
        refine lv_iload_n K.1 K.2.1 dX2_negation_71 rfl (lv_at hl 0 rfl) ?_
        refine lv_bipush (v := (61 : Int32)) K.1 K.2.1 dX2_negation_72 (by decide) ?_
        refine lv_icmp_ne (tgt := 113) K.1 K.2.1 dX2_negation_74 (by decide) (fun h_15 => ?_) (fun h_15 => ?_)
        · have hd := hd.1 h_15
          refine lv_iconst (v := (1 : Int32)) K.1 K.2.1 dX2_negation_113 (by decide) ?_
          exact rk_zret K hw hr (by decide) hd dX2_negation_114
        · have hd := hd.2 h_15
          exact bb_X2_negation_77 K KX hr r h5 rec hrec  x1 x2_5 g_2 _ _ _  hd hw (lv_sub hl [1, 2, 0] rfl)
    · have hd := hd.2 h_4
      refine lv_iconst (v := (0 : Int32)) K.1 K.2.1 dX2_negation_55 (by decide) ?_
      exact rk_zret K hw hr (by decide) hd dX2_negation_56
  · have hd := hd.2 h_1
    refine lv_iload_n K.1 K.2.1 dX2_negation_12 rfl (lv_at hl 1 rfl) ?_
    refine lv_iconst (v := (5 : Int32)) K.1 K.2.1 dX2_negation_13 (by decide) ?_
    refine lv_icmp_lt (tgt := 19) K.1 K.2.1 dX2_negation_14 (by decide) (fun h_16 => ?_) (fun h_16 => ?_)
    · have hd := hd.1 h_16
      refine lv_aload_n K.1 K.2.1 dX2_negation_19 rfl (lv_at hl 0 rfl) ?_
      refine rc_get layX2 (ci := 2) rfl 0 (by decide) (v := .ref (ad 8)) K hw (wc_Pr cy nt ad _) kf_X2_15 rfl dX2_negation_20 ?_
      refine rkc_vv (As := []) (rest := []) K KX hw (cc_X5_advance l D cy nt ad A X g0 _  hd) lk_X2_52 (ci := 5) rfl (wc_Tp cy nt ad _) ⟨by show 7 + 1 ≤ r + 1; omega, by show 8 + (2 + 11) + 60 * 7 ≤ 60 * (r + 1); omega⟩ ⟨Nat.zero_le _, Nat.zero_le _⟩ rfl hl.1 (Nat.le_of_ble_eq_true rfl) rfl dX2_negation_23 (fun g_17 H locs hd hw => ?_)
      refine lv_aload_n K.1 K.2.1 dX2_negation_26 rfl (lv_at hl 0 rfl) ?_
      refine lv_iload_n K.1 K.2.1 dX2_negation_27 rfl (lv_at hl 1 rfl) ?_
      refine lv_iconst (v := (1 : Int32)) K.1 K.2.1 dX2_negation_28 (by decide) ?_
      refine lv_iadd K.1 K.2.1 dX2_negation_29 ?_
      refine rkc_vi (As := [.int (x1 + (1 : Int32))]) (rest := []) K KX hw (hrec.2.2.1 g_17 _ (x1 + (1 : Int32)) hd) lk_X2_62 (ci := 2) rfl (wc_Pr cy nt ad _) ⟨by show r + 1 ≤ r + 1; omega, by show 8 + (3 + 11) + 60 * r ≤ 60 * (r + 1); omega⟩ ⟨Nat.zero_le _, Nat.zero_le _⟩ rfl hl.1 (Nat.le_of_ble_eq_true rfl) rfl dX2_negation_30 (fun r_20 g_19 H locs hd hw => ?_)
      refine lv_if_ne (tgt := 38) K.1 K.2.1 dX2_negation_33 (by decide) (fun h_21 => ?_) (fun h_21 => ?_)
      · have hd := hd.1 h_21
        refine lv_aload_n K.1 K.2.1 dX2_negation_38 rfl (lv_at hl 0 rfl) ?_
        refine lv_sipush (v := (20007 : Int32)) K.1 K.2.1 dX2_negation_39 (by decide) ?_
        refine rkc_vv (As := [.int (20007 : Int32)]) (rest := []) K KX hw (cc_X2_emit l D cy nt ad A X g_19 _ (20007 : Int32) hd) lk_X2_58 (ci := 2) rfl (wc_Pr cy nt ad _) ⟨by show 1 + 1 ≤ r + 1; omega, by show 8 + (2 + 11) + 60 * 1 ≤ 60 * (r + 1); omega⟩ ⟨Nat.zero_le _, Nat.zero_le _⟩ rfl hl.1 (Nat.le_of_ble_eq_true rfl) rfl dX2_negation_42 (fun g_22 H locs hd hw => ?_)
        refine lv_iconst (v := (1 : Int32)) K.1 K.2.1 dX2_negation_45 (by decide) ?_
        exact rk_zret K hw hr (by decide) hd dX2_negation_46
      · have hd := hd.2 h_21
        refine lv_iconst (v := (0 : Int32)) K.1 K.2.1 dX2_negation_36 (by decide) ?_
        exact rk_zret K hw hr (by decide) hd dX2_negation_37
    · have hd := hd.2 h_16
      refine lv_iconst (v := (0 : Int32)) K.1 K.2.1 dX2_negation_17 (by decide) ?_
      exact rk_zret K hw hr (by decide) hd dX2_negation_18
theorem dX2_sum_0 : decode cX2_sum 0 = .ok (.aload_n 0, 1) := by decide +kernel
theorem dX2_sum_1 : decode cX2_sum 1 = .ok (.iload_n 1, 1) := by decide +kernel
theorem dX2_sum_2 : decode cX2_sum 2 = .ok (.invokevirtual 68, 3) := by decide +kernel
theorem dX2_sum_5 : decode cX2_sum 5 = .ok (.ifCond .ne 5, 3) := by decide +kernel
theorem dX2_sum_8 : decode cX2_sum 8 = .ok (.iconst 0, 1) := by decide +kernel
theorem dX2_sum_9 : decode cX2_sum 9 = .ok (.ireturn, 1) := by decide +kernel
theorem dX2_sum_10 : decode cX2_sum 10 = .ok (.iconst 0, 1) := by decide +kernel
theorem dX2_sum_11 : decode cX2_sum 11 = .ok (.istore_n 2, 1) := by decide +kernel
theorem dX2_sum_12 : decode cX2_sum 12 = .ok (.iload_n 2, 1) := by decide +kernel
theorem dX2_sum_13 : decode cX2_sum 13 = .ok (.sipush 160, 3) := by decide +kernel
theorem dX2_sum_16 : decode cX2_sum 16 = .ok (.if_icmp .ge 77, 3) := by decide +kernel
theorem dX2_sum_19 : decode cX2_sum 19 = .ok (.aload_n 0, 1) := by decide +kernel
theorem dX2_sum_20 : decode cX2_sum 20 = .ok (.getfield 15, 3) := by decide +kernel
theorem dX2_sum_23 : decode cX2_sum 23 = .ok (.getfield 32, 3) := by decide +kernel
theorem dX2_sum_26 : decode cX2_sum 26 = .ok (.bipush 43, 2) := by decide +kernel
theorem dX2_sum_28 : decode cX2_sum 28 = .ok (.if_icmp .eq 15, 3) := by decide +kernel
theorem dX2_sum_31 : decode cX2_sum 31 = .ok (.aload_n 0, 1) := by decide +kernel
theorem dX2_sum_32 : decode cX2_sum 32 = .ok (.getfield 15, 3) := by decide +kernel
theorem dX2_sum_35 : decode cX2_sum 35 = .ok (.getfield 32, 3) := by decide +kernel
theorem dX2_sum_38 : decode cX2_sum 38 = .ok (.bipush 45, 2) := by decide +kernel
theorem dX2_sum_40 : decode cX2_sum 40 = .ok (.if_icmp .ne 53, 3) := by decide +kernel
theorem dX2_sum_43 : decode cX2_sum 43 = .ok (.aload_n 0, 1) := by decide +kernel
theorem dX2_sum_44 : decode cX2_sum 44 = .ok (.getfield 15, 3) := by decide +kernel
theorem dX2_sum_47 : decode cX2_sum 47 = .ok (.getfield 32, 3) := by decide +kernel
theorem dX2_sum_50 : decode cX2_sum 50 = .ok (.istore_n 3, 1) := by decide +kernel
theorem dX2_sum_51 : decode cX2_sum 51 = .ok (.aload_n 0, 1) := by decide +kernel
theorem dX2_sum_52 : decode cX2_sum 52 = .ok (.getfield 15, 3) := by decide +kernel
theorem dX2_sum_55 : decode cX2_sum 55 = .ok (.invokevirtual 52, 3) := by decide +kernel
theorem dX2_sum_58 : decode cX2_sum 58 = .ok (.aload_n 0, 1) := by decide +kernel
theorem dX2_sum_59 : decode cX2_sum 59 = .ok (.iload_n 1, 1) := by decide +kernel
theorem dX2_sum_60 : decode cX2_sum 60 = .ok (.invokevirtual 68, 3) := by decide +kernel
theorem dX2_sum_63 : decode cX2_sum 63 = .ok (.ifCond .ne 5, 3) := by decide +kernel
theorem dX2_sum_66 : decode cX2_sum 66 = .ok (.iconst 0, 1) := by decide +kernel
theorem dX2_sum_67 : decode cX2_sum 67 = .ok (.ireturn, 1) := by decide +kernel
theorem dX2_sum_68 : decode cX2_sum 68 = .ok (.aload_n 0, 1) := by decide +kernel
theorem dX2_sum_69 : decode cX2_sum 69 = .ok (.iload_n 3, 1) := by decide +kernel
theorem dX2_sum_70 : decode cX2_sum 70 = .ok (.bipush 43, 2) := by decide +kernel
theorem dX2_sum_72 : decode cX2_sum 72 = .ok (.if_icmp .ne 9, 3) := by decide +kernel
theorem dX2_sum_75 : decode cX2_sum 75 = .ok (.sipush 20004, 3) := by decide +kernel
theorem dX2_sum_78 : decode cX2_sum 78 = .ok (.goto 6, 3) := by decide +kernel
theorem dX2_sum_81 : decode cX2_sum 81 = .ok (.sipush 20005, 3) := by decide +kernel
theorem dX2_sum_84 : decode cX2_sum 84 = .ok (.invokevirtual 58, 3) := by decide +kernel
theorem dX2_sum_87 : decode cX2_sum 87 = .ok (.iinc 2 1, 3) := by decide +kernel
theorem dX2_sum_90 : decode cX2_sum 90 = .ok (.goto (-78), 3) := by decide +kernel
theorem dX2_sum_93 : decode cX2_sum 93 = .ok (.iconst 1, 1) := by decide +kernel
theorem dX2_sum_94 : decode cX2_sum 94 = .ok (.ireturn, 1) := by decide +kernel
set_option maxHeartbeats 4000000 in
set_option maxRecDepth 100000 in
theorem bb_X2_sum_84 {p : Program} {l : Launch} {e : Env} {s : State} {m : MethodId} {args : Array Value} {below : List Frame} {meth : Method} {c : Code} {D : va_G} {cy : Nat → ClassId} {nt : Nat} {ad : Nat → Nat} {A : Nat → Prop} {X : Nat → Nat} {Q : Int32 → Sg → Prop} (K : Kx p s m args meth c cX2_sum 4 RX2 D cy) (KX : XC X A s s.heap) (hr : meth.sig.returnType = (some .boolean)) (r : Nat) (h5 : 10 ≤ r) (rec : RT) (hrec : HrecP l D cy nt ad A X rec r) {rc12 : Int32 → Int32 → Sg → Prop} (hrc12 : ∀ (x1 : Int32) (x2 : Int32) (u : Sg) (H : Heap) (locs : List Loc) (ls : Array Slot), rc12 x1 x2 u → Wd D A s.heap (wsC cy nt ad u) H locs → lv_has ls 4 [(0, .ref (ad 10)), (1, .int x1), (2, .int x2)] → W p l e (rmD (r + 1)) s m args below meth c H locs 0 0 (MQ below (va_Qi Q (PostG (wsC cy nt ad) D A) A) args s 0 0 A) (F0 m 12 ls [])) (x1 : Int32) (x2 : Int32) (t1 : Int32) (g0 : Sg) (H : Heap) (locs : List Loc) (ls : Array Slot) (hd : vb_X2_sum_J84 rec nt rc12 x1 x2 t1 g0 Q) (hw : Wd D A s.heap (wsC cy nt ad g0) H locs) (hl : lv_has ls 4 [(0, .ref (ad 10)), (1, .int x1), (2, .int x2)]) : W p l e (rmD (r + 1)) s m args below meth c H locs 0 0 (MQ below (va_Qi Q (PostG (wsC cy nt ad) D A) A) args s 0 0 A) (F0 m 84 ls [.int t1, .ref (ad 10)]) := by
  unfold vb_X2_sum_J84 at hd
  refine rkc_vv (As := [.int t1]) (rest := []) K KX hw (cc_X2_emit l D cy nt ad A X g0 _ t1 hd) lk_X2_58 (ci := 2) rfl (wc_Pr cy nt ad _) ⟨by show 1 + 1 ≤ r + 1; omega, by show 8 + (2 + 11) + 60 * 1 ≤ 60 * (r + 1); omega⟩ ⟨Nat.zero_le _, Nat.zero_le _⟩ rfl hl.1 (Nat.le_of_ble_eq_true rfl) rfl dX2_sum_84 (fun g_14 H locs hd hw => ?_)
  obtain ⟨x2_16, ex2_16⟩ : ∃ y : Int32, y = x2 + (1 : Int32) := ⟨_, rfl⟩
  have hd := hd x2_16 ex2_16
  refine lv_iinc (v := x2_16) (lv' := [(2, .int x2_16), (0, .ref (ad 10)), (1, .int x1)]) K.1 K.2.1 dX2_sum_87 hl (k := 2) rfl (by rw [ex2_16]; rfl) (by decide) rfl (fun ls hl => ?_)
  refine lv_goto (tgt := 12) K.1 K.2.1 dX2_sum_90 (by decide) ?_
  exact hrc12 x1 x2_16 g_14 _ _ _  hd hw (lv_sub hl [1, 2, 0] rfl)
set_option maxHeartbeats 4000000 in
set_option maxRecDepth 100000 in
theorem bb_X2_sum_43 {p : Program} {l : Launch} {e : Env} {s : State} {m : MethodId} {args : Array Value} {below : List Frame} {meth : Method} {c : Code} {D : va_G} {cy : Nat → ClassId} {nt : Nat} {ad : Nat → Nat} {A : Nat → Prop} {X : Nat → Nat} {Q : Int32 → Sg → Prop} (K : Kx p s m args meth c cX2_sum 4 RX2 D cy) (KX : XC X A s s.heap) (hr : meth.sig.returnType = (some .boolean)) (r : Nat) (h5 : 10 ≤ r) (rec : RT) (hrec : HrecP l D cy nt ad A X rec r) {rc12 : Int32 → Int32 → Sg → Prop} (hrc12 : ∀ (x1 : Int32) (x2 : Int32) (u : Sg) (H : Heap) (locs : List Loc) (ls : Array Slot), rc12 x1 x2 u → Wd D A s.heap (wsC cy nt ad u) H locs → lv_has ls 4 [(0, .ref (ad 10)), (1, .int x1), (2, .int x2)] → W p l e (rmD (r + 1)) s m args below meth c H locs 0 0 (MQ below (va_Qi Q (PostG (wsC cy nt ad) D A) A) args s 0 0 A) (F0 m 12 ls [])) (x1 : Int32) (x2 : Int32)  (g0 : Sg) (H : Heap) (locs : List Loc) (ls : Array Slot) (hd : vb_X2_sum_J43 rec nt rc12 x1 x2 g0 Q) (hw : Wd D A s.heap (wsC cy nt ad g0) H locs) (hl : lv_has ls 4 [(0, .ref (ad 10)), (1, .int x1), (2, .int x2)]) : W p l e (rmD (r + 1)) s m args below meth c H locs 0 0 (MQ below (va_Qi Q (PostG (wsC cy nt ad) D A) A) args s 0 0 A) (F0 m 43 ls []) := by
  unfold vb_X2_sum_J43 at hd
  refine lv_aload_n K.1 K.2.1 dX2_sum_43 rfl (lv_at hl 0 rfl) ?_
  refine rc_get layX2 (ci := 2) rfl 0 (by decide) (v := .ref (ad 8)) K hw (wc_Pr cy nt ad _) kf_X2_15 rfl dX2_sum_44 ?_
  refine rc_get layX5 (ci := 5) rfl 3 (by decide) (v := .int (g0 8 3)) K hw (wc_Tp cy nt ad _) kf_X2_32 rfl dX2_sum_47 ?_
  refine lv_topi (fun x3_7 ex3_7 => ?_)
  have hd := hd x3_7 ex3_7
  refine lv_istore_n (lv' := [(3, .int x3_7), (0, .ref (ad 10)), (1, .int x1), (2, .int x2)]) K.1 K.2.1 dX2_sum_50 rfl hl (by decide) rfl (fun ls hl => ?_)
  refine lv_aload_n K.1 K.2.1 dX2_sum_51 rfl (lv_at hl 1 rfl) ?_
  refine rc_get layX2 (ci := 2) rfl 0 (by decide) (v := .ref (ad 8)) K hw (wc_Pr cy nt ad _) kf_X2_15 rfl dX2_sum_52 ?_
  refine rkc_vv (As := []) (rest := []) K KX hw (cc_X5_advance l D cy nt ad A X g0 _  hd) lk_X2_52 (ci := 5) rfl (wc_Tp cy nt ad _) ⟨by show 7 + 1 ≤ r + 1; omega, by show 8 + (2 + 11) + 60 * 7 ≤ 60 * (r + 1); omega⟩ ⟨Nat.zero_le _, Nat.zero_le _⟩ rfl hl.1 (Nat.le_of_ble_eq_true rfl) rfl dX2_sum_55 (fun g_8 H locs hd hw => ?_)
  refine lv_aload_n K.1 K.2.1 dX2_sum_58 rfl (lv_at hl 1 rfl) ?_
  refine lv_iload_n K.1 K.2.1 dX2_sum_59 rfl (lv_at hl 2 rfl) ?_
  refine rkc_vi (As := [.int x1]) (rest := []) K KX hw (hrec.2.2.2.2.1 g_8 _ x1 hd) lk_X2_68 (ci := 2) rfl (wc_Pr cy nt ad _) ⟨by show r + 1 ≤ r + 1; omega, by show 8 + (3 + 11) + 60 * r ≤ 60 * (r + 1); omega⟩ ⟨Nat.zero_le _, Nat.zero_le _⟩ rfl hl.1 (Nat.le_of_ble_eq_true rfl) rfl dX2_sum_60 (fun r_11 g_10 H locs hd hw => ?_)
  refine lv_if_ne (tgt := 68) K.1 K.2.1 dX2_sum_63 (by decide) (fun h_12 => ?_) (fun h_12 => ?_)
  · have hd := hd.1 h_12
    refine lv_aload_n K.1 K.2.1 dX2_sum_68 rfl (lv_at hl 1 rfl) ?_
    refine lv_iload_n K.1 K.2.1 dX2_sum_69 rfl (lv_at hl 0 rfl) ?_
    refine lv_bipush (v := (43 : Int32)) K.1 K.2.1 dX2_sum_70 (by decide) ?_
    refine lv_icmp_ne (tgt := 81) K.1 K.2.1 dX2_sum_72 (by decide) (fun h_13 => ?_) (fun h_13 => ?_)
    · have hd := hd.1 h_13
      refine lv_sipush (v := (20005 : Int32)) K.1 K.2.1 dX2_sum_81 (by decide) ?_
      exact bb_X2_sum_84 K KX hr r h5 rec hrec hrc12 x1 x2 (20005 : Int32) g_10 _ _ _  hd hw (lv_sub hl [1, 2, 3] rfl)
    · have hd := hd.2 h_13
      refine lv_sipush (v := (20004 : Int32)) K.1 K.2.1 dX2_sum_75 (by decide) ?_
      refine lv_goto (tgt := 84) K.1 K.2.1 dX2_sum_78 (by decide) ?_
      exact bb_X2_sum_84 K KX hr r h5 rec hrec hrc12 x1 x2 (20004 : Int32) g_10 _ _ _  hd hw (lv_sub hl [1, 2, 3] rfl)
  · have hd := hd.2 h_12
    refine lv_iconst (v := (0 : Int32)) K.1 K.2.1 dX2_sum_66 (by decide) ?_
    exact rk_zret K hw hr (by decide) hd dX2_sum_67
set_option maxHeartbeats 4000000 in
set_option maxRecDepth 100000 in
theorem bb_X2_sum_12 {p : Program} {l : Launch} {e : Env} {s : State} {m : MethodId} {args : Array Value} {below : List Frame} {meth : Method} {c : Code} {D : va_G} {cy : Nat → ClassId} {nt : Nat} {ad : Nat → Nat} {A : Nat → Prop} {X : Nat → Nat} {Q : Int32 → Sg → Prop} (K : Kx p s m args meth c cX2_sum 4 RX2 D cy) (KX : XC X A s s.heap) (hr : meth.sig.returnType = (some .boolean)) (r : Nat) (h5 : 10 ≤ r) (rec : RT) (hrec : HrecP l D cy nt ad A X rec r) : ∀ (n : Nat) (x1 : Int32) (x2 : Int32)  (g0 : Sg) (H : Heap) (locs : List Loc) (ls : Array Slot), vb_X2_sum_L12 rec nt Q n x1 x2 g0 → Wd D A s.heap (wsC cy nt ad g0) H locs → lv_has ls 4 [(0, .ref (ad 10)), (1, .int x1), (2, .int x2)] → W p l e (rmD (r + 1)) s m args below meth c H locs 0 0 (MQ below (va_Qi Q (PostG (wsC cy nt ad) D A) A) args s 0 0 A) (F0 m 12 ls []) := by
  intro n
  induction n with
  | zero => intro _ _ _ _ _ _ hd; exact hd.elim
  | succ n ih =>
    intro x1 x2 g0 H locs ls  hd hw hl
    unfold vb_X2_sum_L12 at hd
    refine lv_iload_n K.1 K.2.1 dX2_sum_12 rfl (lv_at hl 2 rfl) ?_
    refine lv_sipush (v := (160 : Int32)) K.1 K.2.1 dX2_sum_13 (by decide) ?_
    refine lv_icmp_ge (tgt := 93) K.1 K.2.1 dX2_sum_16 (by decide) (fun h_5 => ?_) (fun h_5 => ?_)
    · have hd := hd.1 h_5
      refine lv_iconst (v := (1 : Int32)) K.1 K.2.1 dX2_sum_93 (by decide) ?_
      exact rk_zret K hw hr (by decide) hd dX2_sum_94
    · have hd := hd.2 h_5
      refine lv_aload_n K.1 K.2.1 dX2_sum_19 rfl (lv_at hl 0 rfl) ?_
      refine rc_get layX2 (ci := 2) rfl 0 (by decide) (v := .ref (ad 8)) K hw (wc_Pr cy nt ad _) kf_X2_15 rfl dX2_sum_20 ?_
      refine rc_get layX5 (ci := 5) rfl 3 (by decide) (v := .int (g0 8 3)) K hw (wc_Tp cy nt ad _) kf_X2_32 rfl dX2_sum_23 ?_
      refine lv_bipush (v := (43 : Int32)) K.1 K.2.1 dX2_sum_26 (by decide) ?_
      refine lv_icmp_eq (tgt := 43) K.1 K.2.1 dX2_sum_28 (by decide) (fun h_6 => ?_) (fun h_6 => ?_)
      · have hd := hd.1 h_6
        exact bb_X2_sum_43 K KX hr r h5 rec hrec ih x1 x2 g0 _ _ _  hd hw (lv_sub hl [0, 1, 2] rfl)
      · have hd := hd.2 h_6
        refine lv_aload_n K.1 K.2.1 dX2_sum_31 rfl (lv_at hl 0 rfl) ?_
        refine rc_get layX2 (ci := 2) rfl 0 (by decide) (v := .ref (ad 8)) K hw (wc_Pr cy nt ad _) kf_X2_15 rfl dX2_sum_32 ?_
        refine rc_get layX5 (ci := 5) rfl 3 (by decide) (v := .int (g0 8 3)) K hw (wc_Tp cy nt ad _) kf_X2_32 rfl dX2_sum_35 ?_
        refine lv_bipush (v := (45 : Int32)) K.1 K.2.1 dX2_sum_38 (by decide) ?_
        refine lv_icmp_ne (tgt := 93) K.1 K.2.1 dX2_sum_40 (by decide) (fun h_17 => ?_) (fun h_17 => ?_)
        · have hd := hd.1 h_17
          refine lv_iconst (v := (1 : Int32)) K.1 K.2.1 dX2_sum_93 (by decide) ?_
          exact rk_zret K hw hr (by decide) hd dX2_sum_94
        · have hd := hd.2 h_17
          exact bb_X2_sum_43 K KX hr r h5 rec hrec ih x1 x2 g0 _ _ _  hd hw (lv_sub hl [0, 1, 2] rfl)
set_option maxHeartbeats 4000000 in
set_option maxRecDepth 100000 in
theorem cb_X2_sum (l : Launch) (D : va_G) (cy : Nat → ClassId) (nt : Nat) (ad : Nat → Nat) (A : Nat → Prop) (X : Nat → Nat) (r : Nat) (h5 : 10 ≤ r) (rec : RT) (hrec : HrecP l D cy nt ad A X rec r) (g0 : Sg) (Q : Int32 → Sg → Prop) (x1 : Int32) (hd : vb_X2_sum rec nt x1 g0 Q) : Met l yX2_sum (Cond.code yX2_sum cX2_sum 4 (some .boolean) :: TT) (rmD (r + 1)) (va_Pc [.ref (ad 10), .int x1] (PreC (wsC cy nt ad) D cy A X g0)) (va_Qi Q (PostG (wsC cy nt ad) D A) A) 0 0 A := by
  unfold vb_X2_sum at hd
  refine Met.ofW (cc := cX2_sum) (maxL := 4) (ret := (some .boolean)) (by decide) rfl ?_
  intro p e s m args below meth c s₁ B hml hv
  obtain ⟨rfl, ⟨hP, hK0, hD⟩, KX⟩ := hv
  have K : Kx p s m _ meth c cX2_sum 4 RX2 D cy := ⟨B.exec, B.bytes, hml, findClass_of_methodNamed B.named, fun w h => atoms_spec (ws := Cond.code yX2_sum cX2_sum 4 (some .boolean) :: TT) B.pre w (List.mem_cons_of_mem _ h), hK0, B.notSynchronized⟩
  have hw : Wd D A s.heap (wsC cy nt ad g0) s.heap [] := ⟨hP, hD, va_S.rf⟩
  have hr := B.returns
  have hl := lv_entry ([.ref (ad 10), .int x1]) (n := 4) (Nat.le_of_ble_eq_true rfl)
  rw [lg_entry_eq]
  generalize (lg_sl ([.ref (ad 10), .int x1]) ++ List.replicate (4 - (lg_sl ([.ref (ad 10), .int x1])).length) Slot.unset).toArray = ls at hl ⊢
  have hl : lv_has ls 4 [(0, .ref (ad 10)), (1, .int x1)] := hl
  refine lv_aload_n K.1 K.2.1 dX2_sum_0 rfl (lv_at hl 0 rfl) ?_
  refine lv_iload_n K.1 K.2.1 dX2_sum_1 rfl (lv_at hl 1 rfl) ?_
  refine rkc_vi (As := [.int x1]) (rest := []) K KX hw (hrec.2.2.2.2.1 g0 _ x1 hd) lk_X2_68 (ci := 2) rfl (wc_Pr cy nt ad _) ⟨by show r + 1 ≤ r + 1; omega, by show 8 + (3 + 11) + 60 * r ≤ 60 * (r + 1); omega⟩ ⟨Nat.zero_le _, Nat.zero_le _⟩ rfl hl.1 (Nat.le_of_ble_eq_true rfl) rfl dX2_sum_2 (fun r_2 g_1 H locs hd hw => ?_)
  refine lv_if_ne (tgt := 10) K.1 K.2.1 dX2_sum_5 (by decide) (fun h_3 => ?_) (fun h_3 => ?_)
  · have hd := hd.1 h_3
    refine lv_iconst (v := (0 : Int32)) K.1 K.2.1 dX2_sum_10 (by decide) ?_
    refine lv_topi (fun x2_4 ex2_4 => ?_)
    have hd := hd x2_4 ex2_4
    refine lv_istore_n (lv' := [(2, .int x2_4), (0, .ref (ad 10)), (1, .int x1)]) K.1 K.2.1 dX2_sum_11 rfl hl (by decide) rfl (fun ls hl => ?_)
    obtain ⟨n9, hd⟩ := hd
    exact bb_X2_sum_12 K KX hr r h5 rec hrec  n9 x1 x2_4 g_1 _ _ _  hd hw (lv_sub hl [1, 2, 0] rfl)
  · have hd := hd.2 h_3
    refine lv_iconst (v := (0 : Int32)) K.1 K.2.1 dX2_sum_8 (by decide) ?_
    exact rk_zret K hw hr (by decide) hd dX2_sum_9
theorem dX2_term_0 : decode cX2_term 0 = .ok (.aload_n 0, 1) := by decide +kernel
theorem dX2_term_1 : decode cX2_term 1 = .ok (.iload_n 1, 1) := by decide +kernel
theorem dX2_term_2 : decode cX2_term 2 = .ok (.invokevirtual 71, 3) := by decide +kernel
theorem dX2_term_5 : decode cX2_term 5 = .ok (.ifCond .ne 5, 3) := by decide +kernel
theorem dX2_term_8 : decode cX2_term 8 = .ok (.iconst 0, 1) := by decide +kernel
theorem dX2_term_9 : decode cX2_term 9 = .ok (.ireturn, 1) := by decide +kernel
theorem dX2_term_10 : decode cX2_term 10 = .ok (.iconst 0, 1) := by decide +kernel
theorem dX2_term_11 : decode cX2_term 11 = .ok (.istore_n 2, 1) := by decide +kernel
theorem dX2_term_12 : decode cX2_term 12 = .ok (.iload_n 2, 1) := by decide +kernel
theorem dX2_term_13 : decode cX2_term 13 = .ok (.sipush 160, 3) := by decide +kernel
theorem dX2_term_16 : decode cX2_term 16 = .ok (.if_icmp .ge 45, 3) := by decide +kernel
theorem dX2_term_19 : decode cX2_term 19 = .ok (.aload_n 0, 1) := by decide +kernel
theorem dX2_term_20 : decode cX2_term 20 = .ok (.getfield 15, 3) := by decide +kernel
theorem dX2_term_23 : decode cX2_term 23 = .ok (.getfield 32, 3) := by decide +kernel
theorem dX2_term_26 : decode cX2_term 26 = .ok (.bipush 42, 2) := by decide +kernel
theorem dX2_term_28 : decode cX2_term 28 = .ok (.if_icmp .ne 33, 3) := by decide +kernel
theorem dX2_term_31 : decode cX2_term 31 = .ok (.aload_n 0, 1) := by decide +kernel
theorem dX2_term_32 : decode cX2_term 32 = .ok (.getfield 15, 3) := by decide +kernel
theorem dX2_term_35 : decode cX2_term 35 = .ok (.invokevirtual 52, 3) := by decide +kernel
theorem dX2_term_38 : decode cX2_term 38 = .ok (.aload_n 0, 1) := by decide +kernel
theorem dX2_term_39 : decode cX2_term 39 = .ok (.iload_n 1, 1) := by decide +kernel
theorem dX2_term_40 : decode cX2_term 40 = .ok (.invokevirtual 71, 3) := by decide +kernel
theorem dX2_term_43 : decode cX2_term 43 = .ok (.ifCond .ne 5, 3) := by decide +kernel
theorem dX2_term_46 : decode cX2_term 46 = .ok (.iconst 0, 1) := by decide +kernel
theorem dX2_term_47 : decode cX2_term 47 = .ok (.ireturn, 1) := by decide +kernel
theorem dX2_term_48 : decode cX2_term 48 = .ok (.aload_n 0, 1) := by decide +kernel
theorem dX2_term_49 : decode cX2_term 49 = .ok (.sipush 20006, 3) := by decide +kernel
theorem dX2_term_52 : decode cX2_term 52 = .ok (.invokevirtual 58, 3) := by decide +kernel
theorem dX2_term_55 : decode cX2_term 55 = .ok (.iinc 2 1, 3) := by decide +kernel
theorem dX2_term_58 : decode cX2_term 58 = .ok (.goto (-46), 3) := by decide +kernel
theorem dX2_term_61 : decode cX2_term 61 = .ok (.iconst 1, 1) := by decide +kernel
theorem dX2_term_62 : decode cX2_term 62 = .ok (.ireturn, 1) := by decide +kernel
set_option maxHeartbeats 4000000 in
set_option maxRecDepth 100000 in
theorem bb_X2_term_12 {p : Program} {l : Launch} {e : Env} {s : State} {m : MethodId} {args : Array Value} {below : List Frame} {meth : Method} {c : Code} {D : va_G} {cy : Nat → ClassId} {nt : Nat} {ad : Nat → Nat} {A : Nat → Prop} {X : Nat → Nat} {Q : Int32 → Sg → Prop} (K : Kx p s m args meth c cX2_term 3 RX2 D cy) (KX : XC X A s s.heap) (hr : meth.sig.returnType = (some .boolean)) (r : Nat) (h5 : 10 ≤ r) (rec : RT) (hrec : HrecP l D cy nt ad A X rec r) : ∀ (n : Nat) (x1 : Int32) (x2 : Int32)  (g0 : Sg) (H : Heap) (locs : List Loc) (ls : Array Slot), vb_X2_term_L12 rec nt Q n x1 x2 g0 → Wd D A s.heap (wsC cy nt ad g0) H locs → lv_has ls 3 [(0, .ref (ad 10)), (1, .int x1), (2, .int x2)] → W p l e (rmD (r + 1)) s m args below meth c H locs 0 0 (MQ below (va_Qi Q (PostG (wsC cy nt ad) D A) A) args s 0 0 A) (F0 m 12 ls []) := by
  intro n
  induction n with
  | zero => intro _ _ _ _ _ _ hd; exact hd.elim
  | succ n ih =>
    intro x1 x2 g0 H locs ls  hd hw hl
    unfold vb_X2_term_L12 at hd
    refine lv_iload_n K.1 K.2.1 dX2_term_12 rfl (lv_at hl 2 rfl) ?_
    refine lv_sipush (v := (160 : Int32)) K.1 K.2.1 dX2_term_13 (by decide) ?_
    refine lv_icmp_ge (tgt := 61) K.1 K.2.1 dX2_term_16 (by decide) (fun h_5 => ?_) (fun h_5 => ?_)
    · have hd := hd.1 h_5
      refine lv_iconst (v := (1 : Int32)) K.1 K.2.1 dX2_term_61 (by decide) ?_
      exact rk_zret K hw hr (by decide) hd dX2_term_62
    · have hd := hd.2 h_5
      refine lv_aload_n K.1 K.2.1 dX2_term_19 rfl (lv_at hl 0 rfl) ?_
      refine rc_get layX2 (ci := 2) rfl 0 (by decide) (v := .ref (ad 8)) K hw (wc_Pr cy nt ad _) kf_X2_15 rfl dX2_term_20 ?_
      refine rc_get layX5 (ci := 5) rfl 3 (by decide) (v := .int (g0 8 3)) K hw (wc_Tp cy nt ad _) kf_X2_32 rfl dX2_term_23 ?_
      refine lv_bipush (v := (42 : Int32)) K.1 K.2.1 dX2_term_26 (by decide) ?_
      refine lv_icmp_ne (tgt := 61) K.1 K.2.1 dX2_term_28 (by decide) (fun h_6 => ?_) (fun h_6 => ?_)
      · have hd := hd.1 h_6
        refine lv_iconst (v := (1 : Int32)) K.1 K.2.1 dX2_term_61 (by decide) ?_
        exact rk_zret K hw hr (by decide) hd dX2_term_62
      · have hd := hd.2 h_6
        refine lv_aload_n K.1 K.2.1 dX2_term_31 rfl (lv_at hl 0 rfl) ?_
        refine rc_get layX2 (ci := 2) rfl 0 (by decide) (v := .ref (ad 8)) K hw (wc_Pr cy nt ad _) kf_X2_15 rfl dX2_term_32 ?_
        refine rkc_vv (As := []) (rest := []) K KX hw (cc_X5_advance l D cy nt ad A X g0 _  hd) lk_X2_52 (ci := 5) rfl (wc_Tp cy nt ad _) ⟨by show 7 + 1 ≤ r + 1; omega, by show 8 + (2 + 11) + 60 * 7 ≤ 60 * (r + 1); omega⟩ ⟨Nat.zero_le _, Nat.zero_le _⟩ rfl hl.1 (Nat.le_of_ble_eq_true rfl) rfl dX2_term_35 (fun g_7 H locs hd hw => ?_)
        refine lv_aload_n K.1 K.2.1 dX2_term_38 rfl (lv_at hl 0 rfl) ?_
        refine lv_iload_n K.1 K.2.1 dX2_term_39 rfl (lv_at hl 1 rfl) ?_
        refine rkc_vi (As := [.int x1]) (rest := []) K KX hw (hrec.2.2.2.2.2 g_7 _ x1 hd) lk_X2_71 (ci := 2) rfl (wc_Pr cy nt ad _) ⟨by show r + 1 ≤ r + 1; omega, by show 8 + (3 + 11) + 60 * r ≤ 60 * (r + 1); omega⟩ ⟨Nat.zero_le _, Nat.zero_le _⟩ rfl hl.1 (Nat.le_of_ble_eq_true rfl) rfl dX2_term_40 (fun r_10 g_9 H locs hd hw => ?_)
        refine lv_if_ne (tgt := 48) K.1 K.2.1 dX2_term_43 (by decide) (fun h_11 => ?_) (fun h_11 => ?_)
        · have hd := hd.1 h_11
          refine lv_aload_n K.1 K.2.1 dX2_term_48 rfl (lv_at hl 0 rfl) ?_
          refine lv_sipush (v := (20006 : Int32)) K.1 K.2.1 dX2_term_49 (by decide) ?_
          refine rkc_vv (As := [.int (20006 : Int32)]) (rest := []) K KX hw (cc_X2_emit l D cy nt ad A X g_9 _ (20006 : Int32) hd) lk_X2_58 (ci := 2) rfl (wc_Pr cy nt ad _) ⟨by show 1 + 1 ≤ r + 1; omega, by show 8 + (2 + 11) + 60 * 1 ≤ 60 * (r + 1); omega⟩ ⟨Nat.zero_le _, Nat.zero_le _⟩ rfl hl.1 (Nat.le_of_ble_eq_true rfl) rfl dX2_term_52 (fun g_12 H locs hd hw => ?_)
          obtain ⟨x2_14, ex2_14⟩ : ∃ y : Int32, y = x2 + (1 : Int32) := ⟨_, rfl⟩
          have hd := hd x2_14 ex2_14
          refine lv_iinc (v := x2_14) (lv' := [(2, .int x2_14), (0, .ref (ad 10)), (1, .int x1)]) K.1 K.2.1 dX2_term_55 hl (k := 2) rfl (by rw [ex2_14]; rfl) (by decide) rfl (fun ls hl => ?_)
          refine lv_goto (tgt := 12) K.1 K.2.1 dX2_term_58 (by decide) ?_
          exact ih x1 x2_14 g_12 _ _ _  hd hw (lv_sub hl [1, 2, 0] rfl)
        · have hd := hd.2 h_11
          refine lv_iconst (v := (0 : Int32)) K.1 K.2.1 dX2_term_46 (by decide) ?_
          exact rk_zret K hw hr (by decide) hd dX2_term_47
set_option maxHeartbeats 4000000 in
set_option maxRecDepth 100000 in
theorem cb_X2_term (l : Launch) (D : va_G) (cy : Nat → ClassId) (nt : Nat) (ad : Nat → Nat) (A : Nat → Prop) (X : Nat → Nat) (r : Nat) (h5 : 10 ≤ r) (rec : RT) (hrec : HrecP l D cy nt ad A X rec r) (g0 : Sg) (Q : Int32 → Sg → Prop) (x1 : Int32) (hd : vb_X2_term rec nt x1 g0 Q) : Met l yX2_term (Cond.code yX2_term cX2_term 3 (some .boolean) :: TT) (rmD (r + 1)) (va_Pc [.ref (ad 10), .int x1] (PreC (wsC cy nt ad) D cy A X g0)) (va_Qi Q (PostG (wsC cy nt ad) D A) A) 0 0 A := by
  unfold vb_X2_term at hd
  refine Met.ofW (cc := cX2_term) (maxL := 3) (ret := (some .boolean)) (by decide) rfl ?_
  intro p e s m args below meth c s₁ B hml hv
  obtain ⟨rfl, ⟨hP, hK0, hD⟩, KX⟩ := hv
  have K : Kx p s m _ meth c cX2_term 3 RX2 D cy := ⟨B.exec, B.bytes, hml, findClass_of_methodNamed B.named, fun w h => atoms_spec (ws := Cond.code yX2_term cX2_term 3 (some .boolean) :: TT) B.pre w (List.mem_cons_of_mem _ h), hK0, B.notSynchronized⟩
  have hw : Wd D A s.heap (wsC cy nt ad g0) s.heap [] := ⟨hP, hD, va_S.rf⟩
  have hr := B.returns
  have hl := lv_entry ([.ref (ad 10), .int x1]) (n := 3) (Nat.le_of_ble_eq_true rfl)
  rw [lg_entry_eq]
  generalize (lg_sl ([.ref (ad 10), .int x1]) ++ List.replicate (3 - (lg_sl ([.ref (ad 10), .int x1])).length) Slot.unset).toArray = ls at hl ⊢
  have hl : lv_has ls 3 [(0, .ref (ad 10)), (1, .int x1)] := hl
  refine lv_aload_n K.1 K.2.1 dX2_term_0 rfl (lv_at hl 0 rfl) ?_
  refine lv_iload_n K.1 K.2.1 dX2_term_1 rfl (lv_at hl 1 rfl) ?_
  refine rkc_vi (As := [.int x1]) (rest := []) K KX hw (hrec.2.2.2.2.2 g0 _ x1 hd) lk_X2_71 (ci := 2) rfl (wc_Pr cy nt ad _) ⟨by show r + 1 ≤ r + 1; omega, by show 8 + (3 + 11) + 60 * r ≤ 60 * (r + 1); omega⟩ ⟨Nat.zero_le _, Nat.zero_le _⟩ rfl hl.1 (Nat.le_of_ble_eq_true rfl) rfl dX2_term_2 (fun r_2 g_1 H locs hd hw => ?_)
  refine lv_if_ne (tgt := 10) K.1 K.2.1 dX2_term_5 (by decide) (fun h_3 => ?_) (fun h_3 => ?_)
  · have hd := hd.1 h_3
    refine lv_iconst (v := (0 : Int32)) K.1 K.2.1 dX2_term_10 (by decide) ?_
    refine lv_topi (fun x2_4 ex2_4 => ?_)
    have hd := hd x2_4 ex2_4
    refine lv_istore_n (lv' := [(2, .int x2_4), (0, .ref (ad 10)), (1, .int x1)]) K.1 K.2.1 dX2_term_11 rfl hl (by decide) rfl (fun ls hl => ?_)
    obtain ⟨n9, hd⟩ := hd
    exact bb_X2_term_12 K KX hr r h5 rec hrec  n9 x1 x2_4 g_1 _ _ _  hd hw (lv_sub hl [1, 2, 0] rfl)
  · have hd := hd.2 h_3
    refine lv_iconst (v := (0 : Int32)) K.1 K.2.1 dX2_term_8 (by decide) ?_
    exact rk_zret K hw hr (by decide) hd dX2_term_9
theorem dX2_one_0 : decode cX2_one 0 = .ok (.aload_n 0, 1) := by decide +kernel
theorem dX2_one_1 : decode cX2_one 1 = .ok (.getfield 15, 3) := by decide +kernel
theorem dX2_one_4 : decode cX2_one 4 = .ok (.getfield 32, 3) := by decide +kernel
theorem dX2_one_7 : decode cX2_one 7 = .ok (.istore_n 2, 1) := by decide +kernel
theorem dX2_one_8 : decode cX2_one 8 = .ok (.iload_n 2, 1) := by decide +kernel
theorem dX2_one_9 : decode cX2_one 9 = .ok (.iconst 2, 1) := by decide +kernel
theorem dX2_one_10 : decode cX2_one 10 = .ok (.if_icmp .eq 8, 3) := by decide +kernel
theorem dX2_one_13 : decode cX2_one 13 = .ok (.iload_n 2, 1) := by decide +kernel
theorem dX2_one_14 : decode cX2_one 14 = .ok (.iconst 3, 1) := by decide +kernel
theorem dX2_one_15 : decode cX2_one 15 = .ok (.if_icmp .ne 23, 3) := by decide +kernel
theorem dX2_one_18 : decode cX2_one 18 = .ok (.aload_n 0, 1) := by decide +kernel
theorem dX2_one_19 : decode cX2_one 19 = .ok (.aload_n 0, 1) := by decide +kernel
theorem dX2_one_20 : decode cX2_one 20 = .ok (.getfield 15, 3) := by decide +kernel
theorem dX2_one_23 : decode cX2_one 23 = .ok (.getfield 74, 3) := by decide +kernel
theorem dX2_one_26 : decode cX2_one 26 = .ok (.invokevirtual 58, 3) := by decide +kernel
theorem dX2_one_29 : decode cX2_one 29 = .ok (.aload_n 0, 1) := by decide +kernel
theorem dX2_one_30 : decode cX2_one 30 = .ok (.getfield 15, 3) := by decide +kernel
theorem dX2_one_33 : decode cX2_one 33 = .ok (.invokevirtual 52, 3) := by decide +kernel
theorem dX2_one_36 : decode cX2_one 36 = .ok (.iconst 1, 1) := by decide +kernel
theorem dX2_one_37 : decode cX2_one 37 = .ok (.ireturn, 1) := by decide +kernel
theorem dX2_one_38 : decode cX2_one 38 = .ok (.iload_n 2, 1) := by decide +kernel
theorem dX2_one_39 : decode cX2_one 39 = .ok (.bipush 45, 2) := by decide +kernel
theorem dX2_one_41 : decode cX2_one 41 = .ok (.if_icmp .eq 9, 3) := by decide +kernel
theorem dX2_one_44 : decode cX2_one 44 = .ok (.iload_n 2, 1) := by decide +kernel
theorem dX2_one_45 : decode cX2_one 45 = .ok (.bipush 40, 2) := by decide +kernel
theorem dX2_one_47 : decode cX2_one 47 = .ok (.if_icmp .ne 8, 3) := by decide +kernel
theorem dX2_one_50 : decode cX2_one 50 = .ok (.iload_n 1, 1) := by decide +kernel
theorem dX2_one_51 : decode cX2_one 51 = .ok (.iconst 5, 1) := by decide +kernel
theorem dX2_one_52 : decode cX2_one 52 = .ok (.if_icmp .lt 5, 3) := by decide +kernel
theorem dX2_one_55 : decode cX2_one 55 = .ok (.iconst 0, 1) := by decide +kernel
theorem dX2_one_56 : decode cX2_one 56 = .ok (.ireturn, 1) := by decide +kernel
theorem dX2_one_57 : decode cX2_one 57 = .ok (.aload_n 0, 1) := by decide +kernel
theorem dX2_one_58 : decode cX2_one 58 = .ok (.getfield 15, 3) := by decide +kernel
theorem dX2_one_61 : decode cX2_one 61 = .ok (.invokevirtual 52, 3) := by decide +kernel
theorem dX2_one_64 : decode cX2_one 64 = .ok (.iload_n 2, 1) := by decide +kernel
theorem dX2_one_65 : decode cX2_one 65 = .ok (.bipush 40, 2) := by decide +kernel
theorem dX2_one_67 : decode cX2_one 67 = .ok (.if_icmp .ne 28, 3) := by decide +kernel
theorem dX2_one_70 : decode cX2_one 70 = .ok (.aload_n 0, 1) := by decide +kernel
theorem dX2_one_71 : decode cX2_one 71 = .ok (.iload_n 1, 1) := by decide +kernel
theorem dX2_one_72 : decode cX2_one 72 = .ok (.iconst 1, 1) := by decide +kernel
theorem dX2_one_73 : decode cX2_one 73 = .ok (.iadd, 1) := by decide +kernel
theorem dX2_one_74 : decode cX2_one 74 = .ok (.invokevirtual 49, 3) := by decide +kernel
theorem dX2_one_77 : decode cX2_one 77 = .ok (.ifCond .eq 16, 3) := by decide +kernel
theorem dX2_one_80 : decode cX2_one 80 = .ok (.aload_n 0, 1) := by decide +kernel
theorem dX2_one_81 : decode cX2_one 81 = .ok (.bipush 41, 2) := by decide +kernel
theorem dX2_one_83 : decode cX2_one 83 = .ok (.invokevirtual 46, 3) := by decide +kernel
theorem dX2_one_86 : decode cX2_one 86 = .ok (.ifCond .eq 7, 3) := by decide +kernel
theorem dX2_one_89 : decode cX2_one 89 = .ok (.iconst 1, 1) := by decide +kernel
theorem dX2_one_90 : decode cX2_one 90 = .ok (.goto 4, 3) := by decide +kernel
theorem dX2_one_93 : decode cX2_one 93 = .ok (.iconst 0, 1) := by decide +kernel
theorem dX2_one_94 : decode cX2_one 94 = .ok (.ireturn, 1) := by decide +kernel
theorem dX2_one_95 : decode cX2_one 95 = .ok (.aload_n 0, 1) := by decide +kernel
theorem dX2_one_96 : decode cX2_one 96 = .ok (.iload_n 1, 1) := by decide +kernel
theorem dX2_one_97 : decode cX2_one 97 = .ok (.iconst 1, 1) := by decide +kernel
theorem dX2_one_98 : decode cX2_one 98 = .ok (.iadd, 1) := by decide +kernel
theorem dX2_one_99 : decode cX2_one 99 = .ok (.invokevirtual 71, 3) := by decide +kernel
theorem dX2_one_102 : decode cX2_one 102 = .ok (.ifCond .ne 5, 3) := by decide +kernel
theorem dX2_one_105 : decode cX2_one 105 = .ok (.iconst 0, 1) := by decide +kernel
theorem dX2_one_106 : decode cX2_one 106 = .ok (.ireturn, 1) := by decide +kernel
theorem dX2_one_107 : decode cX2_one 107 = .ok (.aload_n 0, 1) := by decide +kernel
theorem dX2_one_108 : decode cX2_one 108 = .ok (.sipush 20008, 3) := by decide +kernel
theorem dX2_one_111 : decode cX2_one 111 = .ok (.invokevirtual 58, 3) := by decide +kernel
theorem dX2_one_114 : decode cX2_one 114 = .ok (.iconst 1, 1) := by decide +kernel
theorem dX2_one_115 : decode cX2_one 115 = .ok (.ireturn, 1) := by decide +kernel
set_option maxHeartbeats 4000000 in
set_option maxRecDepth 100000 in
theorem bb_X2_one_18 {p : Program} {l : Launch} {e : Env} {s : State} {m : MethodId} {args : Array Value} {below : List Frame} {meth : Method} {c : Code} {D : va_G} {cy : Nat → ClassId} {nt : Nat} {ad : Nat → Nat} {A : Nat → Prop} {X : Nat → Nat} {Q : Int32 → Sg → Prop} (K : Kx p s m args meth c cX2_one 3 RX2 D cy) (KX : XC X A s s.heap) (hr : meth.sig.returnType = (some .boolean)) (r : Nat) (h5 : 10 ≤ r) (rec : RT) (hrec : HrecP l D cy nt ad A X rec r)   (g0 : Sg) (H : Heap) (locs : List Loc) (ls : Array Slot) (hd : vb_X2_one_J18 rec nt g0 Q) (hw : Wd D A s.heap (wsC cy nt ad g0) H locs) (hl : lv_has ls 3 [(0, .ref (ad 10))]) : W p l e (rmD (r + 1)) s m args below meth c H locs 0 0 (MQ below (va_Qi Q (PostG (wsC cy nt ad) D A) A) args s 0 0 A) (F0 m 18 ls []) := by
  unfold vb_X2_one_J18 at hd
  refine lv_aload_n K.1 K.2.1 dX2_one_18 rfl (lv_at hl 0 rfl) ?_
  refine lv_aload_n K.1 K.2.1 dX2_one_19 rfl (lv_at hl 0 rfl) ?_
  refine rc_get layX2 (ci := 2) rfl 0 (by decide) (v := .ref (ad 8)) K hw (wc_Pr cy nt ad _) kf_X2_15 rfl dX2_one_20 ?_
  refine rc_get layX5 (ci := 5) rfl 4 (by decide) (v := .int (g0 8 4)) K hw (wc_Tp cy nt ad _) kf_X2_74 rfl dX2_one_23 ?_
  refine rkc_vv (As := [.int (g0 8 4)]) (rest := []) K KX hw (cc_X2_emit l D cy nt ad A X g0 _ (g0 8 4) hd) lk_X2_58 (ci := 2) rfl (wc_Pr cy nt ad _) ⟨by show 1 + 1 ≤ r + 1; omega, by show 8 + (2 + 11) + 60 * 1 ≤ 60 * (r + 1); omega⟩ ⟨Nat.zero_le _, Nat.zero_le _⟩ rfl hl.1 (Nat.le_of_ble_eq_true rfl) rfl dX2_one_26 (fun g_3 H locs hd hw => ?_)
  refine lv_aload_n K.1 K.2.1 dX2_one_29 rfl (lv_at hl 0 rfl) ?_
  refine rc_get layX2 (ci := 2) rfl 0 (by decide) (v := .ref (ad 8)) K hw (wc_Pr cy nt ad _) kf_X2_15 rfl dX2_one_30 ?_
  refine rkc_vv (As := []) (rest := []) K KX hw (cc_X5_advance l D cy nt ad A X g_3 _  hd) lk_X2_52 (ci := 5) rfl (wc_Tp cy nt ad _) ⟨by show 7 + 1 ≤ r + 1; omega, by show 8 + (2 + 11) + 60 * 7 ≤ 60 * (r + 1); omega⟩ ⟨Nat.zero_le _, Nat.zero_le _⟩ rfl hl.1 (Nat.le_of_ble_eq_true rfl) rfl dX2_one_33 (fun g_5 H locs hd hw => ?_)
  refine lv_iconst (v := (1 : Int32)) K.1 K.2.1 dX2_one_36 (by decide) ?_
  exact rk_zret K hw hr (by decide) hd dX2_one_37
set_option maxHeartbeats 4000000 in
set_option maxRecDepth 100000 in
theorem bb_X2_one_50 {p : Program} {l : Launch} {e : Env} {s : State} {m : MethodId} {args : Array Value} {below : List Frame} {meth : Method} {c : Code} {D : va_G} {cy : Nat → ClassId} {nt : Nat} {ad : Nat → Nat} {A : Nat → Prop} {X : Nat → Nat} {Q : Int32 → Sg → Prop} (K : Kx p s m args meth c cX2_one 3 RX2 D cy) (KX : XC X A s s.heap) (hr : meth.sig.returnType = (some .boolean)) (r : Nat) (h5 : 10 ≤ r) (rec : RT) (hrec : HrecP l D cy nt ad A X rec r) (x1 : Int32) (x2 : Int32)  (g0 : Sg) (H : Heap) (locs : List Loc) (ls : Array Slot) (hd : vb_X2_one_J50 rec nt x1 x2 g0 Q) (hw : Wd D A s.heap (wsC cy nt ad g0) H locs) (hl : lv_has ls 3 [(0, .ref (ad 10)), (1, .int x1), (2, .int x2)]) : W p l e (rmD (r + 1)) s m args below meth c H locs 0 0 (MQ below (va_Qi Q (PostG (wsC cy nt ad) D A) A) args s 0 0 A) (F0 m 50 ls []) := by
  unfold vb_X2_one_J50 at hd
  refine lv_iload_n K.1 K.2.1 dX2_one_50 rfl (lv_at hl 1 rfl) ?_
  refine lv_iconst (v := (5 : Int32)) K.1 K.2.1 dX2_one_51 (by decide) ?_
  refine lv_icmp_lt (tgt := 57) K.1 K.2.1 dX2_one_52 (by decide) (fun h_9 => ?_) (fun h_9 => ?_)
  · have hd := hd.1 h_9
    refine lv_aload_n K.1 K.2.1 dX2_one_57 rfl (lv_at hl 0 rfl) ?_
    refine rc_get layX2 (ci := 2) rfl 0 (by decide) (v := .ref (ad 8)) K hw (wc_Pr cy nt ad _) kf_X2_15 rfl dX2_one_58 ?_
    refine rkc_vv (As := []) (rest := []) K KX hw (cc_X5_advance l D cy nt ad A X g0 _  hd) lk_X2_52 (ci := 5) rfl (wc_Tp cy nt ad _) ⟨by show 7 + 1 ≤ r + 1; omega, by show 8 + (2 + 11) + 60 * 7 ≤ 60 * (r + 1); omega⟩ ⟨Nat.zero_le _, Nat.zero_le _⟩ rfl hl.1 (Nat.le_of_ble_eq_true rfl) rfl dX2_one_61 (fun g_10 H locs hd hw => ?_)
    refine lv_iload_n K.1 K.2.1 dX2_one_64 rfl (lv_at hl 2 rfl) ?_
    refine lv_bipush (v := (40 : Int32)) K.1 K.2.1 dX2_one_65 (by decide) ?_
    refine lv_icmp_ne (tgt := 95) K.1 K.2.1 dX2_one_67 (by decide) (fun h_12 => ?_) (fun h_12 => ?_)
    · have hd := hd.1 h_12
      refine lv_aload_n K.1 K.2.1 dX2_one_95 rfl (lv_at hl 0 rfl) ?_
      refine lv_iload_n K.1 K.2.1 dX2_one_96 rfl (lv_at hl 1 rfl) ?_
      refine lv_iconst (v := (1 : Int32)) K.1 K.2.1 dX2_one_97 (by decide) ?_
      refine lv_iadd K.1 K.2.1 dX2_one_98 ?_
      refine rkc_vi (As := [.int (x1 + (1 : Int32))]) (rest := []) K KX hw (hrec.2.2.2.2.2 g_10 _ (x1 + (1 : Int32)) hd) lk_X2_71 (ci := 2) rfl (wc_Pr cy nt ad _) ⟨by show r + 1 ≤ r + 1; omega, by show 8 + (3 + 11) + 60 * r ≤ 60 * (r + 1); omega⟩ ⟨Nat.zero_le _, Nat.zero_le _⟩ rfl hl.1 (Nat.le_of_ble_eq_true rfl) rfl dX2_one_99 (fun r_14 g_13 H locs hd hw => ?_)
      refine lv_if_ne (tgt := 107) K.1 K.2.1 dX2_one_102 (by decide) (fun h_15 => ?_) (fun h_15 => ?_)
      · have hd := hd.1 h_15
        refine lv_aload_n K.1 K.2.1 dX2_one_107 rfl (lv_at hl 0 rfl) ?_
        refine lv_sipush (v := (20008 : Int32)) K.1 K.2.1 dX2_one_108 (by decide) ?_
        refine rkc_vv (As := [.int (20008 : Int32)]) (rest := []) K KX hw (cc_X2_emit l D cy nt ad A X g_13 _ (20008 : Int32) hd) lk_X2_58 (ci := 2) rfl (wc_Pr cy nt ad _) ⟨by show 1 + 1 ≤ r + 1; omega, by show 8 + (2 + 11) + 60 * 1 ≤ 60 * (r + 1); omega⟩ ⟨Nat.zero_le _, Nat.zero_le _⟩ rfl hl.1 (Nat.le_of_ble_eq_true rfl) rfl dX2_one_111 (fun g_16 H locs hd hw => ?_)
        refine lv_iconst (v := (1 : Int32)) K.1 K.2.1 dX2_one_114 (by decide) ?_
        exact rk_zret K hw hr (by decide) hd dX2_one_115
      · have hd := hd.2 h_15
        refine lv_iconst (v := (0 : Int32)) K.1 K.2.1 dX2_one_105 (by decide) ?_
        exact rk_zret K hw hr (by decide) hd dX2_one_106
    · have hd := hd.2 h_12
      refine lv_aload_n K.1 K.2.1 dX2_one_70 rfl (lv_at hl 0 rfl) ?_
      refine lv_iload_n K.1 K.2.1 dX2_one_71 rfl (lv_at hl 1 rfl) ?_
      refine lv_iconst (v := (1 : Int32)) K.1 K.2.1 dX2_one_72 (by decide) ?_
      refine lv_iadd K.1 K.2.1 dX2_one_73 ?_
      refine rkc_vi (As := [.int (x1 + (1 : Int32))]) (rest := []) K KX hw (hrec.1 g_10 _ (x1 + (1 : Int32)) hd) lk_X2_49 (ci := 2) rfl (wc_Pr cy nt ad _) ⟨by show r + 1 ≤ r + 1; omega, by show 8 + (3 + 11) + 60 * r ≤ 60 * (r + 1); omega⟩ ⟨Nat.zero_le _, Nat.zero_le _⟩ rfl hl.1 (Nat.le_of_ble_eq_true rfl) rfl dX2_one_74 (fun r_19 g_18 H locs hd hw => ?_)
      refine lv_if_eq (tgt := 93) K.1 K.2.1 dX2_one_77 (by decide) (fun h_20 => ?_) (fun h_20 => ?_)
      · have hd := hd.1 h_20
        refine lv_iconst (v := (0 : Int32)) K.1 K.2.1 dX2_one_93 (by decide) ?_
        exact rk_zret K hw hr (by decide) hd dX2_one_94
      · have hd := hd.2 h_20
        refine lv_aload_n K.1 K.2.1 dX2_one_80 rfl (lv_at hl 0 rfl) ?_
        refine lv_bipush (v := (41 : Int32)) K.1 K.2.1 dX2_one_81 (by decide) ?_
        refine rkc_vi (As := [.int (41 : Int32)]) (rest := []) K KX hw (cc_X2_accept l D cy nt ad A X g_18 _ (41 : Int32) hd) lk_X2_46 (ci := 2) rfl (wc_Pr cy nt ad _) ⟨by show 8 + 1 ≤ r + 1; omega, by show 8 + (2 + 11) + 60 * 8 ≤ 60 * (r + 1); omega⟩ ⟨Nat.zero_le _, Nat.zero_le _⟩ rfl hl.1 (Nat.le_of_ble_eq_true rfl) rfl dX2_one_83 (fun r_22 g_21 H locs hd hw => ?_)
        refine lv_if_eq (tgt := 93) K.1 K.2.1 dX2_one_86 (by decide) (fun h_23 => ?_) (fun h_23 => ?_)
        · have hd := hd.1 h_23
          refine lv_iconst (v := (0 : Int32)) K.1 K.2.1 dX2_one_93 (by decide) ?_
          exact rk_zret K hw hr (by decide) hd dX2_one_94
        · have hd := hd.2 h_23
          refine lv_iconst (v := (1 : Int32)) K.1 K.2.1 dX2_one_89 (by decide) ?_
          refine lv_goto (tgt := 94) K.1 K.2.1 dX2_one_90 (by decide) ?_
          exact rk_zret K hw hr (by decide) hd dX2_one_94
  · have hd := hd.2 h_9
    refine lv_iconst (v := (0 : Int32)) K.1 K.2.1 dX2_one_55 (by decide) ?_
    exact rk_zret K hw hr (by decide) hd dX2_one_56
set_option maxHeartbeats 4000000 in
set_option maxRecDepth 100000 in
theorem cb_X2_one (l : Launch) (D : va_G) (cy : Nat → ClassId) (nt : Nat) (ad : Nat → Nat) (A : Nat → Prop) (X : Nat → Nat) (r : Nat) (h5 : 10 ≤ r) (rec : RT) (hrec : HrecP l D cy nt ad A X rec r) (g0 : Sg) (Q : Int32 → Sg → Prop) (x1 : Int32) (hd : vb_X2_one rec nt x1 g0 Q) : Met l yX2_one (Cond.code yX2_one cX2_one 3 (some .boolean) :: TT) (rmD (r + 1)) (va_Pc [.ref (ad 10), .int x1] (PreC (wsC cy nt ad) D cy A X g0)) (va_Qi Q (PostG (wsC cy nt ad) D A) A) 0 0 A := by
  unfold vb_X2_one at hd
  refine Met.ofW (cc := cX2_one) (maxL := 3) (ret := (some .boolean)) (by decide) rfl ?_
  intro p e s m args below meth c s₁ B hml hv
  obtain ⟨rfl, ⟨hP, hK0, hD⟩, KX⟩ := hv
  have K : Kx p s m _ meth c cX2_one 3 RX2 D cy := ⟨B.exec, B.bytes, hml, findClass_of_methodNamed B.named, fun w h => atoms_spec (ws := Cond.code yX2_one cX2_one 3 (some .boolean) :: TT) B.pre w (List.mem_cons_of_mem _ h), hK0, B.notSynchronized⟩
  have hw : Wd D A s.heap (wsC cy nt ad g0) s.heap [] := ⟨hP, hD, va_S.rf⟩
  have hr := B.returns
  have hl := lv_entry ([.ref (ad 10), .int x1]) (n := 3) (Nat.le_of_ble_eq_true rfl)
  rw [lg_entry_eq]
  generalize (lg_sl ([.ref (ad 10), .int x1]) ++ List.replicate (3 - (lg_sl ([.ref (ad 10), .int x1])).length) Slot.unset).toArray = ls at hl ⊢
  have hl : lv_has ls 3 [(0, .ref (ad 10)), (1, .int x1)] := hl
  refine lv_aload_n K.1 K.2.1 dX2_one_0 rfl (lv_at hl 0 rfl) ?_
  refine rc_get layX2 (ci := 2) rfl 0 (by decide) (v := .ref (ad 8)) K hw (wc_Pr cy nt ad _) kf_X2_15 rfl dX2_one_1 ?_
  refine rc_get layX5 (ci := 5) rfl 3 (by decide) (v := .int (g0 8 3)) K hw (wc_Tp cy nt ad _) kf_X2_32 rfl dX2_one_4 ?_
  refine lv_topi (fun x2_1 ex2_1 => ?_)
  have hd := hd x2_1 ex2_1
  refine lv_istore_n (lv' := [(2, .int x2_1), (0, .ref (ad 10)), (1, .int x1)]) K.1 K.2.1 dX2_one_7 rfl hl (by decide) rfl (fun ls hl => ?_)
  refine lv_iload_n K.1 K.2.1 dX2_one_8 rfl (lv_at hl 0 rfl) ?_
  refine lv_iconst (v := (2 : Int32)) K.1 K.2.1 dX2_one_9 (by decide) ?_
  refine lv_icmp_eq (tgt := 18) K.1 K.2.1 dX2_one_10 (by decide) (fun h_2 => ?_) (fun h_2 => ?_)
  · have hd := hd.1 h_2
    exact bb_X2_one_18 K KX hr r h5 rec hrec   g0 _ _ _  hd hw (lv_sub hl [1] rfl)
  · have hd := hd.2 h_2
    refine lv_iload_n K.1 K.2.1 dX2_one_13 rfl (lv_at hl 0 rfl) ?_
    refine lv_iconst (v := (3 : Int32)) K.1 K.2.1 dX2_one_14 (by decide) ?_
    refine lv_icmp_ne (tgt := 38) K.1 K.2.1 dX2_one_15 (by decide) (fun h_7 => ?_) (fun h_7 => ?_)
    · have hd := hd.1 h_7
      refine lv_iload_n K.1 K.2.1 dX2_one_38 rfl (lv_at hl 0 rfl) ?_
      refine lv_bipush (v := (45 : Int32)) K.1 K.2.1 dX2_one_39 (by decide) ?_
      refine lv_icmp_eq (tgt := 50) K.1 K.2.1 dX2_one_41 (by decide) (fun h_8 => ?_) (fun h_8 => ?_)
      · have hd := hd.1 h_8
        exact bb_X2_one_50 K KX hr r h5 rec hrec  x1 x2_1 g0 _ _ _  hd hw (lv_sub hl [1, 2, 0] rfl)
      · have hd := hd.2 h_8
        refine lv_iload_n K.1 K.2.1 dX2_one_44 rfl (lv_at hl 0 rfl) ?_
        refine lv_bipush (v := (40 : Int32)) K.1 K.2.1 dX2_one_45 (by decide) ?_
        refine lv_icmp_ne (tgt := 55) K.1 K.2.1 dX2_one_47 (by decide) (fun h_24 => ?_) (fun h_24 => ?_)
        · have hd := hd.1 h_24
          refine lv_iconst (v := (0 : Int32)) K.1 K.2.1 dX2_one_55 (by decide) ?_
          exact rk_zret K hw hr (by decide) hd dX2_one_56
        · have hd := hd.2 h_24
          exact bb_X2_one_50 K KX hr r h5 rec hrec  x1 x2_1 g0 _ _ _  hd hw (lv_sub hl [1, 2, 0] rfl)
    · have hd := hd.2 h_7
      exact bb_X2_one_18 K KX hr r h5 rec hrec   g0 _ _ _  hd hw (lv_sub hl [1] rfl)
theorem cr_X2 (l : Launch) (D : va_G) (cy : Nat → ClassId) (nt : Nat) (ad : Nat → Nat) (A : Nat → Prop) (X : Nat → Nat) : ∀ d : Nat, HrecP l D cy nt ad A X (vr_X2 nt d) (10 + d) := by
  intro d
  induction d with
  | zero => exact ⟨fun _ _ _ h => h.elim, fun _ _ _ h => h.elim, fun _ _ _ h => h.elim, fun _ _ _ h => h.elim, fun _ _ _ h => h.elim, fun _ _ _ h => h.elim⟩
  | succ d ih => exact ⟨fun g Q x h => cb_X2_either l D cy nt ad A X (10 + d) (by omega) (vr_X2 nt d) ih g Q x h, fun g Q x h => cb_X2_both l D cy nt ad A X (10 + d) (by omega) (vr_X2 nt d) ih g Q x h, fun g Q x h => cb_X2_negation l D cy nt ad A X (10 + d) (by omega) (vr_X2 nt d) ih g Q x h, fun g Q x h => cb_X2_sum l D cy nt ad A X (10 + d) (by omega) (vr_X2 nt d) ih g Q x h, fun g Q x h => cb_X2_term l D cy nt ad A X (10 + d) (by omega) (vr_X2 nt d) ih g Q x h, fun g Q x h => cb_X2_one l D cy nt ad A X (10 + d) (by omega) (vr_X2 nt d) ih g Q x h⟩
theorem dX2_readPart_0 : decode cX2_readPart 0 = .ok (.aload_n 0, 1) := by decide +kernel
theorem dX2_readPart_1 : decode cX2_readPart 1 = .ok (.iload_n 1, 1) := by decide +kernel
theorem dX2_readPart_2 : decode cX2_readPart 2 = .ok (.invokevirtual 46, 3) := by decide +kernel
theorem dX2_readPart_5 : decode cX2_readPart 5 = .ok (.ifCond .eq 24, 3) := by decide +kernel
theorem dX2_readPart_8 : decode cX2_readPart 8 = .ok (.aload_n 0, 1) := by decide +kernel
theorem dX2_readPart_9 : decode cX2_readPart 9 = .ok (.iconst 0, 1) := by decide +kernel
theorem dX2_readPart_10 : decode cX2_readPart 10 = .ok (.invokevirtual 49, 3) := by decide +kernel
theorem dX2_readPart_13 : decode cX2_readPart 13 = .ok (.ifCond .eq 16, 3) := by decide +kernel
theorem dX2_readPart_16 : decode cX2_readPart 16 = .ok (.aload_n 0, 1) := by decide +kernel
theorem dX2_readPart_17 : decode cX2_readPart 17 = .ok (.bipush 59, 2) := by decide +kernel
theorem dX2_readPart_19 : decode cX2_readPart 19 = .ok (.invokevirtual 46, 3) := by decide +kernel
theorem dX2_readPart_22 : decode cX2_readPart 22 = .ok (.ifCond .eq 7, 3) := by decide +kernel
theorem dX2_readPart_25 : decode cX2_readPart 25 = .ok (.iconst 1, 1) := by decide +kernel
theorem dX2_readPart_26 : decode cX2_readPart 26 = .ok (.goto 4, 3) := by decide +kernel
theorem dX2_readPart_29 : decode cX2_readPart 29 = .ok (.iconst 0, 1) := by decide +kernel
theorem dX2_readPart_30 : decode cX2_readPart 30 = .ok (.ireturn, 1) := by decide +kernel
set_option maxHeartbeats 4000000 in
set_option maxRecDepth 100000 in
theorem cc_X2_readPart (l : Launch) (D : va_G) (cy : Nat → ClassId) (nt : Nat) (ad : Nat → Nat) (A : Nat → Prop) (X : Nat → Nat)  (g0 : Sg) (Q : Int32 → Sg → Prop) (x1 : Int32) (hd : vv_X2_readPart nt x1 g0 Q) : Met l yX2_readPart (Cond.code yX2_readPart cX2_readPart 2 (some .boolean) :: TT) (rmD 69) (va_Pc [.ref (ad 10), .int x1] (PreC (wsC cy nt ad) D cy A X g0)) (va_Qi Q (PostG (wsC cy nt ad) D A) A) 0 0 A := by
  unfold vv_X2_readPart at hd
  refine Met.ofW (cc := cX2_readPart) (maxL := 2) (ret := (some .boolean)) (by decide) rfl ?_
  intro p e s m args below meth c s₁ B hml hv
  obtain ⟨rfl, ⟨hP, hK0, hD⟩, KX⟩ := hv
  have K : Kx p s m _ meth c cX2_readPart 2 RX2 D cy := ⟨B.exec, B.bytes, hml, findClass_of_methodNamed B.named, fun w h => atoms_spec (ws := Cond.code yX2_readPart cX2_readPart 2 (some .boolean) :: TT) B.pre w (List.mem_cons_of_mem _ h), hK0, B.notSynchronized⟩
  have hw : Wd D A s.heap (wsC cy nt ad g0) s.heap [] := ⟨hP, hD, va_S.rf⟩
  have hr := B.returns
  have hl := lv_entry ([.ref (ad 10), .int x1]) (n := 2) (Nat.le_of_ble_eq_true rfl)
  rw [lg_entry_eq]
  generalize (lg_sl ([.ref (ad 10), .int x1]) ++ List.replicate (2 - (lg_sl ([.ref (ad 10), .int x1])).length) Slot.unset).toArray = ls at hl ⊢
  have hl : lv_has ls 2 [(0, .ref (ad 10)), (1, .int x1)] := hl
  refine lv_aload_n K.1 K.2.1 dX2_readPart_0 rfl (lv_at hl 0 rfl) ?_
  refine lv_iload_n K.1 K.2.1 dX2_readPart_1 rfl (lv_at hl 1 rfl) ?_
  refine rkc_vi (As := [.int x1]) (rest := []) K KX hw (cc_X2_accept l D cy nt ad A X g0 _ x1 hd) lk_X2_46 (ci := 2) rfl (wc_Pr cy nt ad _) ⟨Nat.le_of_ble_eq_true rfl, Nat.le_of_ble_eq_true rfl⟩ ⟨Nat.zero_le _, Nat.zero_le _⟩ rfl hl.1 (Nat.le_of_ble_eq_true rfl) rfl dX2_readPart_2 (fun r_2 g_1 H locs hd hw => ?_)
  refine lv_if_eq (tgt := 29) K.1 K.2.1 dX2_readPart_5 (by decide) (fun h_3 => ?_) (fun h_3 => ?_)
  · have hd := hd.1 h_3
    refine lv_iconst (v := (0 : Int32)) K.1 K.2.1 dX2_readPart_29 (by decide) ?_
    exact rk_zret K hw hr (by decide) hd dX2_readPart_30
  · have hd := hd.2 h_3
    refine lv_aload_n K.1 K.2.1 dX2_readPart_8 rfl (lv_at hl 0 rfl) ?_
    refine lv_iconst (v := (0 : Int32)) K.1 K.2.1 dX2_readPart_9 (by decide) ?_
    refine rkc_vi (As := [.int (0 : Int32)]) (rest := []) K KX hw ((cr_X2 l D cy nt ad A X 50).1 g_1 _ (0 : Int32) hd) lk_X2_49 (ci := 2) rfl (wc_Pr cy nt ad _) ⟨Nat.le_of_ble_eq_true rfl, Nat.le_of_ble_eq_true rfl⟩ ⟨Nat.zero_le _, Nat.zero_le _⟩ rfl hl.1 (Nat.le_of_ble_eq_true rfl) rfl dX2_readPart_10 (fun r_5 g_4 H locs hd hw => ?_)
    refine lv_if_eq (tgt := 29) K.1 K.2.1 dX2_readPart_13 (by decide) (fun h_6 => ?_) (fun h_6 => ?_)
    · have hd := hd.1 h_6
      refine lv_iconst (v := (0 : Int32)) K.1 K.2.1 dX2_readPart_29 (by decide) ?_
      exact rk_zret K hw hr (by decide) hd dX2_readPart_30
    · have hd := hd.2 h_6
      refine lv_aload_n K.1 K.2.1 dX2_readPart_16 rfl (lv_at hl 0 rfl) ?_
      refine lv_bipush (v := (59 : Int32)) K.1 K.2.1 dX2_readPart_17 (by decide) ?_
      refine rkc_vi (As := [.int (59 : Int32)]) (rest := []) K KX hw (cc_X2_accept l D cy nt ad A X g_4 _ (59 : Int32) hd) lk_X2_46 (ci := 2) rfl (wc_Pr cy nt ad _) ⟨Nat.le_of_ble_eq_true rfl, Nat.le_of_ble_eq_true rfl⟩ ⟨Nat.zero_le _, Nat.zero_le _⟩ rfl hl.1 (Nat.le_of_ble_eq_true rfl) rfl dX2_readPart_19 (fun r_8 g_7 H locs hd hw => ?_)
      refine lv_if_eq (tgt := 29) K.1 K.2.1 dX2_readPart_22 (by decide) (fun h_9 => ?_) (fun h_9 => ?_)
      · have hd := hd.1 h_9
        refine lv_iconst (v := (0 : Int32)) K.1 K.2.1 dX2_readPart_29 (by decide) ?_
        exact rk_zret K hw hr (by decide) hd dX2_readPart_30
      · have hd := hd.2 h_9
        refine lv_iconst (v := (1 : Int32)) K.1 K.2.1 dX2_readPart_25 (by decide) ?_
        refine lv_goto (tgt := 30) K.1 K.2.1 dX2_readPart_26 (by decide) ?_
        exact rk_zret K hw hr (by decide) hd dX2_readPart_30
theorem dJ7_fill_53178_0 : decode cJ7_fill_53178 0 = .ok (.iconst 0, 1) := by decide +kernel
theorem dJ7_fill_53178_1 : decode cJ7_fill_53178 1 = .ok (.istore_n 2, 1) := by decide +kernel
theorem dJ7_fill_53178_2 : decode cJ7_fill_53178 2 = .ok (.aload_n 0, 1) := by decide +kernel
theorem dJ7_fill_53178_3 : decode cJ7_fill_53178 3 = .ok (.arraylength, 1) := by decide +kernel
theorem dJ7_fill_53178_4 : decode cJ7_fill_53178 4 = .ok (.istore_n 3, 1) := by decide +kernel
theorem dJ7_fill_53178_5 : decode cJ7_fill_53178 5 = .ok (.iload_n 2, 1) := by decide +kernel
theorem dJ7_fill_53178_6 : decode cJ7_fill_53178 6 = .ok (.iload_n 3, 1) := by decide +kernel
theorem dJ7_fill_53178_7 : decode cJ7_fill_53178 7 = .ok (.if_icmp .ge 13, 3) := by decide +kernel
theorem dJ7_fill_53178_10 : decode cJ7_fill_53178 10 = .ok (.aload_n 0, 1) := by decide +kernel
theorem dJ7_fill_53178_11 : decode cJ7_fill_53178 11 = .ok (.iload_n 2, 1) := by decide +kernel
theorem dJ7_fill_53178_12 : decode cJ7_fill_53178 12 = .ok (.iload_n 1, 1) := by decide +kernel
theorem dJ7_fill_53178_13 : decode cJ7_fill_53178 13 = .ok (.iastore, 1) := by decide +kernel
theorem dJ7_fill_53178_14 : decode cJ7_fill_53178 14 = .ok (.iinc 2 1, 3) := by decide +kernel
theorem dJ7_fill_53178_17 : decode cJ7_fill_53178 17 = .ok (.goto (-12), 3) := by decide +kernel
theorem dJ7_fill_53178_20 : decode cJ7_fill_53178 20 = .ok (.return_, 1) := by decide +kernel
set_option maxHeartbeats 4000000 in
set_option maxRecDepth 100000 in
theorem bb_J7_fill_53178_5 {p : Program} {l : Launch} {e : Env} {s : State} {m : MethodId} {args : Array Value} {below : List Frame} {meth : Method} {c : Code} {D : va_G} {cy : Nat → ClassId} {nt : Nat} {ad : Nat → Nat} {A : Nat → Prop} {X : Nat → Nat} {Q : Sg → Prop} (K : Kx p s m args meth c cJ7_fill_53178 4 RJ7 D cy) (KX : XC X A s s.heap) (hr : meth.sig.returnType = none)  : ∀ (n : Nat) (x0 : Nat) (x1 : Int32) (x2 : Int32) (x3 : Int32)  (g0 : Sg) (H : Heap) (locs : List Loc) (ls : Array Slot), isI x0 → vv_J7_fill_53178_L5 nt Q n x0 x1 x2 x3 g0 → Wd D A s.heap (wsC cy nt ad g0) H locs → lv_has ls 4 [(0, .ref (ad x0)), (1, .int x1), (2, .int x2), (3, .int x3)] → W p l e (rmD 1) s m args below meth c H locs 0 0 (MQ below (va_Qv Q (PostG (wsC cy nt ad) D A) A) args s 0 0 A) (F0 m 5 ls []) := by
  intro n
  induction n with
  | zero => intro _ _ _ _ _ _ _ _ _ hd; exact hd.elim
  | succ n ih =>
    intro x0 x1 x2 x3 g0 H locs ls hq_x0 hd hw hl
    unfold vv_J7_fill_53178_L5 at hd
    refine lv_iload_n K.1 K.2.1 dJ7_fill_53178_5 rfl (lv_at hl 2 rfl) ?_
    refine lv_iload_n K.1 K.2.1 dJ7_fill_53178_6 rfl (lv_at hl 3 rfl) ?_
    refine lv_icmp_ge (tgt := 20) K.1 K.2.1 dJ7_fill_53178_7 (by decide) (fun h_3 => ?_) (fun h_3 => ?_)
    · have hd := hd.1 h_3
      exact rk_vret K hw hr hd dJ7_fill_53178_20
    · have hd := hd.2 h_3
      refine lv_aload_n K.1 K.2.1 dJ7_fill_53178_10 rfl (lv_at hl 0 rfl) ?_
      refine lv_iload_n K.1 K.2.1 dJ7_fill_53178_11 rfl (lv_at hl 2 rfl) ?_
      refine lv_iload_n K.1 K.2.1 dJ7_fill_53178_12 rfl (lv_at hl 1 rfl) ?_
      have hb := hd.1
      have hd := hd.2
      refine rc_iast K hw (wc_I cy nt ad _ hq_x0) (wa_I cy nt ad _ _ _ hq_x0) hb dJ7_fill_53178_13 (fun g_4 eg_4 H locs hw => ?_)
      have hd := hd g_4 eg_4
      obtain ⟨x2_5, ex2_5⟩ : ∃ y : Int32, y = x2 + (1 : Int32) := ⟨_, rfl⟩
      have hd := hd x2_5 ex2_5
      refine lv_iinc (v := x2_5) (lv' := [(2, .int x2_5), (0, .ref (ad x0)), (1, .int x1), (3, .int x3)]) K.1 K.2.1 dJ7_fill_53178_14 hl (k := 2) rfl (by rw [ex2_5]; rfl) (by decide) rfl (fun ls hl => ?_)
      refine lv_goto (tgt := 5) K.1 K.2.1 dJ7_fill_53178_17 (by decide) ?_
      exact ih x0 x1 x2_5 x3 g_4 _ _ _ hq_x0 hd hw (lv_sub hl [1, 2, 0, 3] rfl)
set_option maxHeartbeats 4000000 in
set_option maxRecDepth 100000 in
theorem cc_J7_fill_53178 (l : Launch) (D : va_G) (cy : Nat → ClassId) (nt : Nat) (ad : Nat → Nat) (A : Nat → Prop) (X : Nat → Nat)  (g0 : Sg) (Q : Sg → Prop) (x0 : Nat) (x1 : Int32) (hd : vv_J7_fill_53178 nt x0 x1 g0 Q) : Met l yJ7_fill_53178 (Cond.code yJ7_fill_53178 cJ7_fill_53178 4 none :: TT) (rmD 1) (va_Pc [.ref (ad x0), .int x1] (PreC (wsC cy nt ad) D cy A X g0)) (va_Qv Q (PostG (wsC cy nt ad) D A) A) 0 0 A := by
  unfold vv_J7_fill_53178 at hd
  refine Met.ofW (cc := cJ7_fill_53178) (maxL := 4) (ret := none) (by decide) rfl ?_
  intro p e s m args below meth c s₁ B hml hv
  obtain ⟨rfl, ⟨hP, hK0, hD⟩, KX⟩ := hv
  have K : Kx p s m _ meth c cJ7_fill_53178 4 RJ7 D cy := ⟨B.exec, B.bytes, hml, findClass_of_methodNamed B.named, fun w h => atoms_spec (ws := Cond.code yJ7_fill_53178 cJ7_fill_53178 4 none :: TT) B.pre w (List.mem_cons_of_mem _ h), hK0, B.notSynchronized⟩
  have hw : Wd D A s.heap (wsC cy nt ad g0) s.heap [] := ⟨hP, hD, va_S.rf⟩
  have hr := B.returns
  have hl := lv_entry ([.ref (ad x0), .int x1]) (n := 4) (Nat.le_of_ble_eq_true rfl)
  rw [lg_entry_eq]
  generalize (lg_sl ([.ref (ad x0), .int x1]) ++ List.replicate (4 - (lg_sl ([.ref (ad x0), .int x1])).length) Slot.unset).toArray = ls at hl ⊢
  have hl : lv_has ls 4 [(0, .ref (ad x0)), (1, .int x1)] := hl
  have hq_x0 := hd.1
  have hd := hd.2
  refine lv_iconst (v := (0 : Int32)) K.1 K.2.1 dJ7_fill_53178_0 (by decide) ?_
  refine lv_topi (fun x2_1 ex2_1 => ?_)
  have hd := hd x2_1 ex2_1
  refine lv_istore_n (lv' := [(2, .int x2_1), (0, .ref (ad x0)), (1, .int x1)]) K.1 K.2.1 dJ7_fill_53178_1 rfl hl (by decide) rfl (fun ls hl => ?_)
  refine lv_aload_n K.1 K.2.1 dJ7_fill_53178_2 rfl (lv_at hl 1 rfl) ?_
  refine rc_alen (v := (40 : Int32)) K hw (wc_I cy nt ad _ hq_x0) rfl dJ7_fill_53178_3 ?_
  refine lv_topi (fun x3_2 ex3_2 => ?_)
  have hd := hd x3_2 ex3_2
  refine lv_istore_n (lv' := [(3, .int x3_2), (2, .int x2_1), (0, .ref (ad x0)), (1, .int x1)]) K.1 K.2.1 dJ7_fill_53178_4 rfl hl (by decide) rfl (fun ls hl => ?_)
  obtain ⟨n9, hd⟩ := hd
  exact bb_J7_fill_53178_5 K KX hr   n9 x0 x1 x2_1 x3_2 g0 _ _ _ hq_x0 hd hw (lv_sub hl [2, 3, 1, 0] rfl)
theorem dX3_become_0 : decode cX3_become 0 = .ok (.aload_n 0, 1) := by decide +kernel
theorem dX3_become_1 : decode cX3_become 1 = .ok (.iload_n 1, 1) := by decide +kernel
theorem dX3_become_2 : decode cX3_become 2 = .ok (.putfield 9, 3) := by decide +kernel
theorem dX3_become_5 : decode cX3_become 5 = .ok (.aload_n 0, 1) := by decide +kernel
theorem dX3_become_6 : decode cX3_become 6 = .ok (.iload_n 2, 1) := by decide +kernel
theorem dX3_become_7 : decode cX3_become 7 = .ok (.putfield 19, 3) := by decide +kernel
theorem dX3_become_10 : decode cX3_become 10 = .ok (.aload_n 0, 1) := by decide +kernel
theorem dX3_become_11 : decode cX3_become 11 = .ok (.getfield 15, 3) := by decide +kernel
theorem dX3_become_14 : decode cX3_become 14 = .ok (.iconst 0, 1) := by decide +kernel
theorem dX3_become_15 : decode cX3_become 15 = .ok (.invokestatic 22, 3) := by decide +kernel
theorem dX3_become_18 : decode cX3_become 18 = .ok (.return_, 1) := by decide +kernel
set_option maxHeartbeats 4000000 in
set_option maxRecDepth 100000 in
theorem cc_X3_become (l : Launch) (D : va_G) (cy : Nat → ClassId) (nt : Nat) (ad : Nat → Nat) (A : Nat → Prop) (X : Nat → Nat)  (g0 : Sg) (Q : Sg → Prop) (x0 : Nat) (x1 : Int32) (x2 : Int32) (hd : vv_X3_become nt x0 x1 x2 g0 Q) : Met l yX3_become (Cond.code yX3_become cX3_become 3 none :: TT) (rmD 2) (va_Pc [.ref (ad x0), .int x1, .int x2] (PreC (wsC cy nt ad) D cy A X g0)) (va_Qv Q (PostG (wsC cy nt ad) D A) A) 0 0 A := by
  unfold vv_X3_become at hd
  refine Met.ofW (cc := cX3_become) (maxL := 3) (ret := none) (by decide) rfl ?_
  intro p e s m args below meth c s₁ B hml hv
  obtain ⟨rfl, ⟨hP, hK0, hD⟩, KX⟩ := hv
  have K : Kx p s m _ meth c cX3_become 3 RX3 D cy := ⟨B.exec, B.bytes, hml, findClass_of_methodNamed B.named, fun w h => atoms_spec (ws := Cond.code yX3_become cX3_become 3 none :: TT) B.pre w (List.mem_cons_of_mem _ h), hK0, B.notSynchronized⟩
  have hw : Wd D A s.heap (wsC cy nt ad g0) s.heap [] := ⟨hP, hD, va_S.rf⟩
  have hr := B.returns
  have hl := lv_entry ([.ref (ad x0), .int x1, .int x2]) (n := 3) (Nat.le_of_ble_eq_true rfl)
  rw [lg_entry_eq]
  generalize (lg_sl ([.ref (ad x0), .int x1, .int x2]) ++ List.replicate (3 - (lg_sl ([.ref (ad x0), .int x1, .int x2])).length) Slot.unset).toArray = ls at hl ⊢
  have hl : lv_has ls 3 [(0, .ref (ad x0)), (1, .int x1), (2, .int x2)] := hl
  have hq_x0 := hd.1
  have hd := hd.2
  refine lv_aload_n K.1 K.2.1 dX3_become_0 rfl (lv_at hl 0 rfl) ?_
  refine lv_iload_n K.1 K.2.1 dX3_become_1 rfl (lv_at hl 1 rfl) ?_
  refine rc_put layX3 (ci := 3) rfl tyX3_ok nmX3 0 (by decide) K hw (wc_S cy nt ad _ hq_x0) kf_X3_9 rfl rfl rfl rfl (Nat.le_of_ble_eq_true rfl) (wp_S_0 cy nt ad _ _ hq_x0) dX3_become_2 (fun g_1 eg_1 H locs hw => ?_)
  have hd := hd g_1 eg_1
  refine lv_aload_n K.1 K.2.1 dX3_become_5 rfl (lv_at hl 0 rfl) ?_
  refine lv_iload_n K.1 K.2.1 dX3_become_6 rfl (lv_at hl 2 rfl) ?_
  refine rc_put layX3 (ci := 3) rfl tyX3_ok nmX3 1 (by decide) K hw (wc_S cy nt ad _ hq_x0) kf_X3_19 rfl rfl rfl rfl (Nat.le_of_ble_eq_true rfl) (wp_S_1 cy nt ad _ _ hq_x0) dX3_become_7 (fun g_2 eg_2 H locs hw => ?_)
  have hd := hd g_2 eg_2
  refine lv_aload_n K.1 K.2.1 dX3_become_10 rfl (lv_at hl 0 rfl) ?_
  refine rc_get layX3 (ci := 3) rfl 2 (by decide) (v := .ref (ad (x0 + 4))) K hw (wc_S cy nt ad _ hq_x0) kf_X3_15 rfl dX3_become_11 ?_
  refine lv_iconst (v := (0 : Int32)) K.1 K.2.1 dX3_become_14 (by decide) ?_
  refine rkc_sv (As := [.ref (ad (x0 + 4)), .int (0 : Int32)]) (rest := []) K KX hw (cc_J7_fill_53178 l D cy nt ad A X g_2 _ (x0 + 4) (0 : Int32) hd) lk_X3_22 ⟨Nat.le_of_ble_eq_true rfl, Nat.le_of_ble_eq_true rfl⟩ ⟨Nat.zero_le _, Nat.zero_le _⟩ rfl hl.1 (Nat.le_of_ble_eq_true rfl) rfl dX3_become_15 (fun g_3 H locs hd hw => ?_)
  exact rk_vret K hw hr hd dX3_become_18
theorem dX3_holds_0 : decode cX3_holds 0 = .ok (.iload_n 1, 1) := by decide +kernel
theorem dX3_holds_1 : decode cX3_holds 1 = .ok (.ifCond .lt 29, 3) := by decide +kernel
theorem dX3_holds_4 : decode cX3_holds 4 = .ok (.iload_n 2, 1) := by decide +kernel
theorem dX3_holds_5 : decode cX3_holds 5 = .ok (.ifCond .lt 25, 3) := by decide +kernel
theorem dX3_holds_8 : decode cX3_holds 8 = .ok (.iload_n 1, 1) := by decide +kernel
theorem dX3_holds_9 : decode cX3_holds 9 = .ok (.aload_n 0, 1) := by decide +kernel
theorem dX3_holds_10 : decode cX3_holds 10 = .ok (.getfield 19, 3) := by decide +kernel
theorem dX3_holds_13 : decode cX3_holds 13 = .ok (.if_icmp .gt 17, 3) := by decide +kernel
theorem dX3_holds_16 : decode cX3_holds 16 = .ok (.iload_n 2, 1) := by decide +kernel
theorem dX3_holds_17 : decode cX3_holds 17 = .ok (.aload_n 0, 1) := by decide +kernel
theorem dX3_holds_18 : decode cX3_holds 18 = .ok (.getfield 19, 3) := by decide +kernel
theorem dX3_holds_21 : decode cX3_holds 21 = .ok (.iload_n 1, 1) := by decide +kernel
theorem dX3_holds_22 : decode cX3_holds 22 = .ok (.isub, 1) := by decide +kernel
theorem dX3_holds_23 : decode cX3_holds 23 = .ok (.if_icmp .gt 7, 3) := by decide +kernel
theorem dX3_holds_26 : decode cX3_holds 26 = .ok (.iconst 1, 1) := by decide +kernel
theorem dX3_holds_27 : decode cX3_holds 27 = .ok (.goto 4, 3) := by decide +kernel
theorem dX3_holds_30 : decode cX3_holds 30 = .ok (.iconst 0, 1) := by decide +kernel
theorem dX3_holds_31 : decode cX3_holds 31 = .ok (.ireturn, 1) := by decide +kernel
set_option maxHeartbeats 4000000 in
set_option maxRecDepth 100000 in
theorem cc_X3_holds (l : Launch) (D : va_G) (cy : Nat → ClassId) (nt : Nat) (ad : Nat → Nat) (A : Nat → Prop) (X : Nat → Nat)  (g0 : Sg) (Q : Int32 → Sg → Prop) (x0 : Nat) (x1 : Int32) (x2 : Int32) (hd : vv_X3_holds nt x0 x1 x2 g0 Q) : Met l yX3_holds (Cond.code yX3_holds cX3_holds 3 (some .boolean) :: TT) (rmD 1) (va_Pc [.ref (ad x0), .int x1, .int x2] (PreC (wsC cy nt ad) D cy A X g0)) (va_Qi Q (PostG (wsC cy nt ad) D A) A) 0 0 A := by
  unfold vv_X3_holds at hd
  refine Met.ofW (cc := cX3_holds) (maxL := 3) (ret := (some .boolean)) (by decide) rfl ?_
  intro p e s m args below meth c s₁ B hml hv
  obtain ⟨rfl, ⟨hP, hK0, hD⟩, KX⟩ := hv
  have K : Kx p s m _ meth c cX3_holds 3 RX3 D cy := ⟨B.exec, B.bytes, hml, findClass_of_methodNamed B.named, fun w h => atoms_spec (ws := Cond.code yX3_holds cX3_holds 3 (some .boolean) :: TT) B.pre w (List.mem_cons_of_mem _ h), hK0, B.notSynchronized⟩
  have hw : Wd D A s.heap (wsC cy nt ad g0) s.heap [] := ⟨hP, hD, va_S.rf⟩
  have hr := B.returns
  have hl := lv_entry ([.ref (ad x0), .int x1, .int x2]) (n := 3) (Nat.le_of_ble_eq_true rfl)
  rw [lg_entry_eq]
  generalize (lg_sl ([.ref (ad x0), .int x1, .int x2]) ++ List.replicate (3 - (lg_sl ([.ref (ad x0), .int x1, .int x2])).length) Slot.unset).toArray = ls at hl ⊢
  have hl : lv_has ls 3 [(0, .ref (ad x0)), (1, .int x1), (2, .int x2)] := hl
  have hq_x0 := hd.1
  have hd := hd.2
  refine lv_iload_n K.1 K.2.1 dX3_holds_0 rfl (lv_at hl 1 rfl) ?_
  refine lv_if_lt (tgt := 30) K.1 K.2.1 dX3_holds_1 (by decide) (fun h_1 => ?_) (fun h_1 => ?_)
  · have hd := hd.1 h_1
    refine lv_iconst (v := (0 : Int32)) K.1 K.2.1 dX3_holds_30 (by decide) ?_
    exact rk_zret K hw hr (by decide) hd dX3_holds_31
  · have hd := hd.2 h_1
    refine lv_iload_n K.1 K.2.1 dX3_holds_4 rfl (lv_at hl 2 rfl) ?_
    refine lv_if_lt (tgt := 30) K.1 K.2.1 dX3_holds_5 (by decide) (fun h_2 => ?_) (fun h_2 => ?_)
    · have hd := hd.1 h_2
      refine lv_iconst (v := (0 : Int32)) K.1 K.2.1 dX3_holds_30 (by decide) ?_
      exact rk_zret K hw hr (by decide) hd dX3_holds_31
    · have hd := hd.2 h_2
      refine lv_iload_n K.1 K.2.1 dX3_holds_8 rfl (lv_at hl 1 rfl) ?_
      refine lv_aload_n K.1 K.2.1 dX3_holds_9 rfl (lv_at hl 0 rfl) ?_
      refine rc_get layX3 (ci := 3) rfl 1 (by decide) (v := .int (g0 x0 1)) K hw (wc_S cy nt ad _ hq_x0) kf_X3_19 rfl dX3_holds_10 ?_
      refine lv_icmp_gt (tgt := 30) K.1 K.2.1 dX3_holds_13 (by decide) (fun h_3 => ?_) (fun h_3 => ?_)
      · have hd := hd.1 h_3
        refine lv_iconst (v := (0 : Int32)) K.1 K.2.1 dX3_holds_30 (by decide) ?_
        exact rk_zret K hw hr (by decide) hd dX3_holds_31
      · have hd := hd.2 h_3
        refine lv_iload_n K.1 K.2.1 dX3_holds_16 rfl (lv_at hl 2 rfl) ?_
        refine lv_aload_n K.1 K.2.1 dX3_holds_17 rfl (lv_at hl 0 rfl) ?_
        refine rc_get layX3 (ci := 3) rfl 1 (by decide) (v := .int (g0 x0 1)) K hw (wc_S cy nt ad _ hq_x0) kf_X3_19 rfl dX3_holds_18 ?_
        refine lv_iload_n K.1 K.2.1 dX3_holds_21 rfl (lv_at hl 1 rfl) ?_
        refine lv_isub K.1 K.2.1 dX3_holds_22 ?_
        refine lv_icmp_gt (tgt := 30) K.1 K.2.1 dX3_holds_23 (by decide) (fun h_4 => ?_) (fun h_4 => ?_)
        · have hd := hd.1 h_4
          refine lv_iconst (v := (0 : Int32)) K.1 K.2.1 dX3_holds_30 (by decide) ?_
          exact rk_zret K hw hr (by decide) hd dX3_holds_31
        · have hd := hd.2 h_4
          refine lv_iconst (v := (1 : Int32)) K.1 K.2.1 dX3_holds_26 (by decide) ?_
          refine lv_goto (tgt := 31) K.1 K.2.1 dX3_holds_27 (by decide) ?_
          exact rk_zret K hw hr (by decide) hd dX3_holds_31
theorem dX3_get_0 : decode cX3_get 0 = .ok (.iload_n 1, 1) := by decide +kernel
theorem dX3_get_1 : decode cX3_get 1 = .ok (.ifCond .lt 20, 3) := by decide +kernel
theorem dX3_get_4 : decode cX3_get 4 = .ok (.iload_n 1, 1) := by decide +kernel
theorem dX3_get_5 : decode cX3_get 5 = .ok (.aload_n 0, 1) := by decide +kernel
theorem dX3_get_6 : decode cX3_get 6 = .ok (.getfield 19, 3) := by decide +kernel
theorem dX3_get_9 : decode cX3_get 9 = .ok (.if_icmp .ge 12, 3) := by decide +kernel
theorem dX3_get_12 : decode cX3_get 12 = .ok (.aload_n 0, 1) := by decide +kernel
theorem dX3_get_13 : decode cX3_get 13 = .ok (.getfield 15, 3) := by decide +kernel
theorem dX3_get_16 : decode cX3_get 16 = .ok (.iload_n 1, 1) := by decide +kernel
theorem dX3_get_17 : decode cX3_get 17 = .ok (.iaload, 1) := by decide +kernel
theorem dX3_get_18 : decode cX3_get 18 = .ok (.goto 4, 3) := by decide +kernel
theorem dX3_get_21 : decode cX3_get 21 = .ok (.iconst 0, 1) := by decide +kernel
theorem dX3_get_22 : decode cX3_get 22 = .ok (.ireturn, 1) := by decide +kernel
set_option maxHeartbeats 4000000 in
set_option maxRecDepth 100000 in
theorem cc_X3_get (l : Launch) (D : va_G) (cy : Nat → ClassId) (nt : Nat) (ad : Nat → Nat) (A : Nat → Prop) (X : Nat → Nat)  (g0 : Sg) (Q : Int32 → Sg → Prop) (x0 : Nat) (x1 : Int32) (hd : vv_X3_get nt x0 x1 g0 Q) : Met l yX3_get (Cond.code yX3_get cX3_get 2 (some .int) :: TT) (rmD 1) (va_Pc [.ref (ad x0), .int x1] (PreC (wsC cy nt ad) D cy A X g0)) (va_Qi Q (PostG (wsC cy nt ad) D A) A) 0 0 A := by
  unfold vv_X3_get at hd
  refine Met.ofW (cc := cX3_get) (maxL := 2) (ret := (some .int)) (by decide) rfl ?_
  intro p e s m args below meth c s₁ B hml hv
  obtain ⟨rfl, ⟨hP, hK0, hD⟩, KX⟩ := hv
  have K : Kx p s m _ meth c cX3_get 2 RX3 D cy := ⟨B.exec, B.bytes, hml, findClass_of_methodNamed B.named, fun w h => atoms_spec (ws := Cond.code yX3_get cX3_get 2 (some .int) :: TT) B.pre w (List.mem_cons_of_mem _ h), hK0, B.notSynchronized⟩
  have hw : Wd D A s.heap (wsC cy nt ad g0) s.heap [] := ⟨hP, hD, va_S.rf⟩
  have hr := B.returns
  have hl := lv_entry ([.ref (ad x0), .int x1]) (n := 2) (Nat.le_of_ble_eq_true rfl)
  rw [lg_entry_eq]
  generalize (lg_sl ([.ref (ad x0), .int x1]) ++ List.replicate (2 - (lg_sl ([.ref (ad x0), .int x1])).length) Slot.unset).toArray = ls at hl ⊢
  have hl : lv_has ls 2 [(0, .ref (ad x0)), (1, .int x1)] := hl
  have hq_x0 := hd.1
  have hd := hd.2
  refine lv_iload_n K.1 K.2.1 dX3_get_0 rfl (lv_at hl 1 rfl) ?_
  refine lv_if_lt (tgt := 21) K.1 K.2.1 dX3_get_1 (by decide) (fun h_1 => ?_) (fun h_1 => ?_)
  · have hd := hd.1 h_1
    refine lv_iconst (v := (0 : Int32)) K.1 K.2.1 dX3_get_21 (by decide) ?_
    exact rk_iret K hw hr hd dX3_get_22
  · have hd := hd.2 h_1
    refine lv_iload_n K.1 K.2.1 dX3_get_4 rfl (lv_at hl 1 rfl) ?_
    refine lv_aload_n K.1 K.2.1 dX3_get_5 rfl (lv_at hl 0 rfl) ?_
    refine rc_get layX3 (ci := 3) rfl 1 (by decide) (v := .int (g0 x0 1)) K hw (wc_S cy nt ad _ hq_x0) kf_X3_19 rfl dX3_get_6 ?_
    refine lv_icmp_ge (tgt := 21) K.1 K.2.1 dX3_get_9 (by decide) (fun h_2 => ?_) (fun h_2 => ?_)
    · have hd := hd.1 h_2
      refine lv_iconst (v := (0 : Int32)) K.1 K.2.1 dX3_get_21 (by decide) ?_
      exact rk_iret K hw hr hd dX3_get_22
    · have hd := hd.2 h_2
      refine lv_aload_n K.1 K.2.1 dX3_get_12 rfl (lv_at hl 0 rfl) ?_
      refine rc_get layX3 (ci := 3) rfl 2 (by decide) (v := .ref (ad (x0 + 4))) K hw (wc_S cy nt ad _ hq_x0) kf_X3_15 rfl dX3_get_13 ?_
      refine lv_iload_n K.1 K.2.1 dX3_get_16 rfl (lv_at hl 1 rfl) ?_
      have hb := hd.1
      have hd := hd.2
      refine rc_iald K hw (wc_I cy nt ad _ (tS_I hq_x0)) hb dX3_get_17 ?_
      refine lv_goto (tgt := 22) K.1 K.2.1 dX3_get_18 (by decide) ?_
      exact rk_iret K hw hr hd dX3_get_22
theorem dX3_put_0 : decode cX3_put 0 = .ok (.iload_n 1, 1) := by decide +kernel
theorem dX3_put_1 : decode cX3_put 1 = .ok (.ifCond .lt 43, 3) := by decide +kernel
theorem dX3_put_4 : decode cX3_put 4 = .ok (.iload_n 1, 1) := by decide +kernel
theorem dX3_put_5 : decode cX3_put 5 = .ok (.aload_n 0, 1) := by decide +kernel
theorem dX3_put_6 : decode cX3_put 6 = .ok (.getfield 19, 3) := by decide +kernel
theorem dX3_put_9 : decode cX3_put 9 = .ok (.if_icmp .ge 35, 3) := by decide +kernel
theorem dX3_put_12 : decode cX3_put 12 = .ok (.aload_n 0, 1) := by decide +kernel
theorem dX3_put_13 : decode cX3_put 13 = .ok (.getfield 15, 3) := by decide +kernel
theorem dX3_put_16 : decode cX3_put 16 = .ok (.iload_n 1, 1) := by decide +kernel
theorem dX3_put_17 : decode cX3_put 17 = .ok (.aload_n 0, 1) := by decide +kernel
theorem dX3_put_18 : decode cX3_put 18 = .ok (.getfield 9, 3) := by decide +kernel
theorem dX3_put_21 : decode cX3_put 21 = .ok (.ifCond .ne 8, 3) := by decide +kernel
theorem dX3_put_24 : decode cX3_put 24 = .ok (.iload_n 2, 1) := by decide +kernel
theorem dX3_put_25 : decode cX3_put 25 = .ok (.i2b, 1) := by decide +kernel
theorem dX3_put_26 : decode cX3_put 26 = .ok (.goto 17, 3) := by decide +kernel
theorem dX3_put_29 : decode cX3_put 29 = .ok (.aload_n 0, 1) := by decide +kernel
theorem dX3_put_30 : decode cX3_put 30 = .ok (.getfield 9, 3) := by decide +kernel
theorem dX3_put_33 : decode cX3_put 33 = .ok (.iconst 1, 1) := by decide +kernel
theorem dX3_put_34 : decode cX3_put 34 = .ok (.if_icmp .ne 8, 3) := by decide +kernel
theorem dX3_put_37 : decode cX3_put 37 = .ok (.iload_n 2, 1) := by decide +kernel
theorem dX3_put_38 : decode cX3_put 38 = .ok (.i2s, 1) := by decide +kernel
theorem dX3_put_39 : decode cX3_put 39 = .ok (.goto 4, 3) := by decide +kernel
theorem dX3_put_42 : decode cX3_put 42 = .ok (.iload_n 2, 1) := by decide +kernel
theorem dX3_put_43 : decode cX3_put 43 = .ok (.iastore, 1) := by decide +kernel
theorem dX3_put_44 : decode cX3_put 44 = .ok (.return_, 1) := by decide +kernel
set_option maxHeartbeats 4000000 in
set_option maxRecDepth 100000 in
theorem bb_X3_put_43 {p : Program} {l : Launch} {e : Env} {s : State} {m : MethodId} {args : Array Value} {below : List Frame} {meth : Method} {c : Code} {D : va_G} {cy : Nat → ClassId} {nt : Nat} {ad : Nat → Nat} {A : Nat → Prop} {X : Nat → Nat} {Q : Sg → Prop} (K : Kx p s m args meth c cX3_put 3 RX3 D cy) (KX : XC X A s s.heap) (hr : meth.sig.returnType = none)   (t0 : Nat) (t1 : Int32) (t2 : Int32) (g0 : Sg) (H : Heap) (locs : List Loc) (ls : Array Slot) (hq_t0 : isI t0) (hd : vv_X3_put_J43 nt t0 t1 t2 g0 Q) (hw : Wd D A s.heap (wsC cy nt ad g0) H locs) (hl : lv_has ls 3 []) : W p l e (rmD 1) s m args below meth c H locs 0 0 (MQ below (va_Qv Q (PostG (wsC cy nt ad) D A) A) args s 0 0 A) (F0 m 43 ls [.int t2, .int t1, .ref (ad t0)]) := by
  unfold vv_X3_put_J43 at hd
  have hb := hd.1
  have hd := hd.2
  refine rc_iast K hw (wc_I cy nt ad _ hq_t0) (wa_I cy nt ad _ _ _ hq_t0) hb dX3_put_43 (fun g_5 eg_5 H locs hw => ?_)
  have hd := hd g_5 eg_5
  exact rk_vret K hw hr hd dX3_put_44
set_option maxHeartbeats 4000000 in
set_option maxRecDepth 100000 in
theorem cc_X3_put (l : Launch) (D : va_G) (cy : Nat → ClassId) (nt : Nat) (ad : Nat → Nat) (A : Nat → Prop) (X : Nat → Nat)  (g0 : Sg) (Q : Sg → Prop) (x0 : Nat) (x1 : Int32) (x2 : Int32) (hd : vv_X3_put nt x0 x1 x2 g0 Q) : Met l yX3_put (Cond.code yX3_put cX3_put 3 none :: TT) (rmD 1) (va_Pc [.ref (ad x0), .int x1, .int x2] (PreC (wsC cy nt ad) D cy A X g0)) (va_Qv Q (PostG (wsC cy nt ad) D A) A) 0 0 A := by
  unfold vv_X3_put at hd
  refine Met.ofW (cc := cX3_put) (maxL := 3) (ret := none) (by decide) rfl ?_
  intro p e s m args below meth c s₁ B hml hv
  obtain ⟨rfl, ⟨hP, hK0, hD⟩, KX⟩ := hv
  have K : Kx p s m _ meth c cX3_put 3 RX3 D cy := ⟨B.exec, B.bytes, hml, findClass_of_methodNamed B.named, fun w h => atoms_spec (ws := Cond.code yX3_put cX3_put 3 none :: TT) B.pre w (List.mem_cons_of_mem _ h), hK0, B.notSynchronized⟩
  have hw : Wd D A s.heap (wsC cy nt ad g0) s.heap [] := ⟨hP, hD, va_S.rf⟩
  have hr := B.returns
  have hl := lv_entry ([.ref (ad x0), .int x1, .int x2]) (n := 3) (Nat.le_of_ble_eq_true rfl)
  rw [lg_entry_eq]
  generalize (lg_sl ([.ref (ad x0), .int x1, .int x2]) ++ List.replicate (3 - (lg_sl ([.ref (ad x0), .int x1, .int x2])).length) Slot.unset).toArray = ls at hl ⊢
  have hl : lv_has ls 3 [(0, .ref (ad x0)), (1, .int x1), (2, .int x2)] := hl
  have hq_x0 := hd.1
  have hd := hd.2
  refine lv_iload_n K.1 K.2.1 dX3_put_0 rfl (lv_at hl 1 rfl) ?_
  refine lv_if_lt (tgt := 44) K.1 K.2.1 dX3_put_1 (by decide) (fun h_1 => ?_) (fun h_1 => ?_)
  · have hd := hd.1 h_1
    exact rk_vret K hw hr hd dX3_put_44
  · have hd := hd.2 h_1
    refine lv_iload_n K.1 K.2.1 dX3_put_4 rfl (lv_at hl 1 rfl) ?_
    refine lv_aload_n K.1 K.2.1 dX3_put_5 rfl (lv_at hl 0 rfl) ?_
    refine rc_get layX3 (ci := 3) rfl 1 (by decide) (v := .int (g0 x0 1)) K hw (wc_S cy nt ad _ hq_x0) kf_X3_19 rfl dX3_put_6 ?_
    refine lv_icmp_ge (tgt := 44) K.1 K.2.1 dX3_put_9 (by decide) (fun h_2 => ?_) (fun h_2 => ?_)
    · have hd := hd.1 h_2
      exact rk_vret K hw hr hd dX3_put_44
    · have hd := hd.2 h_2
      refine lv_aload_n K.1 K.2.1 dX3_put_12 rfl (lv_at hl 0 rfl) ?_
      refine rc_get layX3 (ci := 3) rfl 2 (by decide) (v := .ref (ad (x0 + 4))) K hw (wc_S cy nt ad _ hq_x0) kf_X3_15 rfl dX3_put_13 ?_
      refine lv_iload_n K.1 K.2.1 dX3_put_16 rfl (lv_at hl 1 rfl) ?_
      refine lv_aload_n K.1 K.2.1 dX3_put_17 rfl (lv_at hl 0 rfl) ?_
      refine rc_get layX3 (ci := 3) rfl 0 (by decide) (v := .int (g0 x0 0)) K hw (wc_S cy nt ad _ hq_x0) kf_X3_9 rfl dX3_put_18 ?_
      refine lv_if_ne (tgt := 29) K.1 K.2.1 dX3_put_21 (by decide) (fun h_3 => ?_) (fun h_3 => ?_)
      · have hd := hd.1 h_3
        refine lv_aload_n K.1 K.2.1 dX3_put_29 rfl (lv_at hl 0 rfl) ?_
        refine rc_get layX3 (ci := 3) rfl 0 (by decide) (v := .int (g0 x0 0)) K hw (wc_S cy nt ad _ hq_x0) kf_X3_9 rfl dX3_put_30 ?_
        refine lv_iconst (v := (1 : Int32)) K.1 K.2.1 dX3_put_33 (by decide) ?_
        refine lv_icmp_ne (tgt := 42) K.1 K.2.1 dX3_put_34 (by decide) (fun h_4 => ?_) (fun h_4 => ?_)
        · have hd := hd.1 h_4
          refine lv_iload_n K.1 K.2.1 dX3_put_42 rfl (lv_at hl 2 rfl) ?_
          exact bb_X3_put_43 K KX hr   (x0 + 4) x1 x2 g0 _ _ _ (tS_I hq_x0) hd hw (lv_sub hl [] rfl)
        · have hd := hd.2 h_4
          refine lv_iload_n K.1 K.2.1 dX3_put_37 rfl (lv_at hl 2 rfl) ?_
          refine lv_i2s (v := x2.toInt16.toInt32) K.1 K.2.1 dX3_put_38 rfl ?_
          refine lv_goto (tgt := 43) K.1 K.2.1 dX3_put_39 (by decide) ?_
          exact bb_X3_put_43 K KX hr   (x0 + 4) x1 (x2.toInt16.toInt32) g0 _ _ _ (tS_I hq_x0) hd hw (lv_sub hl [] rfl)
      · have hd := hd.2 h_3
        refine lv_iload_n K.1 K.2.1 dX3_put_24 rfl (lv_at hl 2 rfl) ?_
        refine lv_i2b (v := x2.toInt8.toInt32) K.1 K.2.1 dX3_put_25 rfl ?_
        refine lv_goto (tgt := 43) K.1 K.2.1 dX3_put_26 (by decide) ?_
        exact bb_X3_put_43 K KX hr   (x0 + 4) x1 (x2.toInt8.toInt32) g0 _ _ _ (tS_I hq_x0) hd hw (lv_sub hl [] rfl)
theorem dX4_bitsOf_0 : decode cX4_bitsOf 0 = .ok (.iconst 0, 1) := by decide +kernel
theorem dX4_bitsOf_1 : decode cX4_bitsOf 1 = .ok (.istore_n 2, 1) := by decide +kernel
theorem dX4_bitsOf_2 : decode cX4_bitsOf 2 = .ok (.iconst 0, 1) := by decide +kernel
theorem dX4_bitsOf_3 : decode cX4_bitsOf 3 = .ok (.istore_n 3, 1) := by decide +kernel
theorem dX4_bitsOf_4 : decode cX4_bitsOf 4 = .ok (.iload_n 3, 1) := by decide +kernel
theorem dX4_bitsOf_5 : decode cX4_bitsOf 5 = .ok (.bipush 8, 2) := by decide +kernel
theorem dX4_bitsOf_7 : decode cX4_bitsOf 7 = .ok (.if_icmp .ge 29, 3) := by decide +kernel
theorem dX4_bitsOf_10 : decode cX4_bitsOf 10 = .ok (.iload_n 2, 1) := by decide +kernel
theorem dX4_bitsOf_11 : decode cX4_bitsOf 11 = .ok (.aload_n 0, 1) := by decide +kernel
theorem dX4_bitsOf_12 : decode cX4_bitsOf 12 = .ok (.getfield 15, 3) := by decide +kernel
theorem dX4_bitsOf_15 : decode cX4_bitsOf 15 = .ok (.iload_n 3, 1) := by decide +kernel
theorem dX4_bitsOf_16 : decode cX4_bitsOf 16 = .ok (.iaload, 1) := by decide +kernel
theorem dX4_bitsOf_17 : decode cX4_bitsOf 17 = .ok (.iload_n 1, 1) := by decide +kernel
theorem dX4_bitsOf_18 : decode cX4_bitsOf 18 = .ok (.if_icmp .ne 9, 3) := by decide +kernel
theorem dX4_bitsOf_21 : decode cX4_bitsOf 21 = .ok (.iconst 1, 1) := by decide +kernel
theorem dX4_bitsOf_22 : decode cX4_bitsOf 22 = .ok (.iload_n 3, 1) := by decide +kernel
theorem dX4_bitsOf_23 : decode cX4_bitsOf 23 = .ok (.ishl, 1) := by decide +kernel
theorem dX4_bitsOf_24 : decode cX4_bitsOf 24 = .ok (.goto 4, 3) := by decide +kernel
theorem dX4_bitsOf_27 : decode cX4_bitsOf 27 = .ok (.iconst 0, 1) := by decide +kernel
theorem dX4_bitsOf_28 : decode cX4_bitsOf 28 = .ok (.ior, 1) := by decide +kernel
theorem dX4_bitsOf_29 : decode cX4_bitsOf 29 = .ok (.istore_n 2, 1) := by decide +kernel
theorem dX4_bitsOf_30 : decode cX4_bitsOf 30 = .ok (.iinc 3 1, 3) := by decide +kernel
theorem dX4_bitsOf_33 : decode cX4_bitsOf 33 = .ok (.goto (-29), 3) := by decide +kernel
theorem dX4_bitsOf_36 : decode cX4_bitsOf 36 = .ok (.iload_n 2, 1) := by decide +kernel
theorem dX4_bitsOf_37 : decode cX4_bitsOf 37 = .ok (.ireturn, 1) := by decide +kernel
set_option maxHeartbeats 4000000 in
set_option maxRecDepth 100000 in
theorem bb_X4_bitsOf_28 {p : Program} {l : Launch} {e : Env} {s : State} {m : MethodId} {args : Array Value} {below : List Frame} {meth : Method} {c : Code} {D : va_G} {cy : Nat → ClassId} {nt : Nat} {ad : Nat → Nat} {A : Nat → Prop} {X : Nat → Nat} {Q : Int32 → Sg → Prop} (K : Kx p s m args meth c cX4_bitsOf 4 RX4 D cy) (KX : XC X A s s.heap) (hr : meth.sig.returnType = (some .int))  {rc4 : Int32 → Int32 → Int32 → Sg → Prop} (hrc4 : ∀ (x1 : Int32) (x2 : Int32) (x3 : Int32) (u : Sg) (H : Heap) (locs : List Loc) (ls : Array Slot), rc4 x1 x2 x3 u → Wd D A s.heap (wsC cy nt ad u) H locs → lv_has ls 4 [(0, .ref (ad 22)), (1, .int x1), (2, .int x2), (3, .int x3)] → W p l e (rmD 1) s m args below meth c H locs 0 0 (MQ below (va_Qi Q (PostG (wsC cy nt ad) D A) A) args s 0 0 A) (F0 m 4 ls [])) (x1 : Int32) (x3 : Int32) (t0 : Int32) (t1 : Int32) (g0 : Sg) (H : Heap) (locs : List Loc) (ls : Array Slot) (hd : vv_X4_bitsOf_J28 nt rc4 x1 x3 t0 t1 g0 Q) (hw : Wd D A s.heap (wsC cy nt ad g0) H locs) (hl : lv_has ls 4 [(0, .ref (ad 22)), (1, .int x1), (3, .int x3)]) : W p l e (rmD 1) s m args below meth c H locs 0 0 (MQ below (va_Qi Q (PostG (wsC cy nt ad) D A) A) args s 0 0 A) (F0 m 28 ls [.int t1, .int t0]) := by
  unfold vv_X4_bitsOf_J28 at hd
  refine lv_ior K.1 K.2.1 dX4_bitsOf_28 ?_
  refine lv_topi (fun x2_5 ex2_5 => ?_)
  have hd := hd x2_5 ex2_5
  refine lv_istore_n (lv' := [(2, .int x2_5), (0, .ref (ad 22)), (1, .int x1), (3, .int x3)]) K.1 K.2.1 dX4_bitsOf_29 rfl hl (by decide) rfl (fun ls hl => ?_)
  obtain ⟨x3_6, ex3_6⟩ : ∃ y : Int32, y = x3 + (1 : Int32) := ⟨_, rfl⟩
  have hd := hd x3_6 ex3_6
  refine lv_iinc (v := x3_6) (lv' := [(3, .int x3_6), (2, .int x2_5), (0, .ref (ad 22)), (1, .int x1)]) K.1 K.2.1 dX4_bitsOf_30 hl (k := 3) rfl (by rw [ex3_6]; rfl) (by decide) rfl (fun ls hl => ?_)
  refine lv_goto (tgt := 4) K.1 K.2.1 dX4_bitsOf_33 (by decide) ?_
  exact hrc4 x1 x2_5 x3_6 g0 _ _ _  hd hw (lv_sub hl [2, 3, 1, 0] rfl)
set_option maxHeartbeats 4000000 in
set_option maxRecDepth 100000 in
theorem bb_X4_bitsOf_4 {p : Program} {l : Launch} {e : Env} {s : State} {m : MethodId} {args : Array Value} {below : List Frame} {meth : Method} {c : Code} {D : va_G} {cy : Nat → ClassId} {nt : Nat} {ad : Nat → Nat} {A : Nat → Prop} {X : Nat → Nat} {Q : Int32 → Sg → Prop} (K : Kx p s m args meth c cX4_bitsOf 4 RX4 D cy) (KX : XC X A s s.heap) (hr : meth.sig.returnType = (some .int))  : ∀ (n : Nat) (x1 : Int32) (x2 : Int32) (x3 : Int32)  (g0 : Sg) (H : Heap) (locs : List Loc) (ls : Array Slot), vv_X4_bitsOf_L4 nt Q n x1 x2 x3 g0 → Wd D A s.heap (wsC cy nt ad g0) H locs → lv_has ls 4 [(0, .ref (ad 22)), (1, .int x1), (2, .int x2), (3, .int x3)] → W p l e (rmD 1) s m args below meth c H locs 0 0 (MQ below (va_Qi Q (PostG (wsC cy nt ad) D A) A) args s 0 0 A) (F0 m 4 ls []) := by
  intro n
  induction n with
  | zero => intro _ _ _ _ _ _ _ hd; exact hd.elim
  | succ n ih =>
    intro x1 x2 x3 g0 H locs ls  hd hw hl
    unfold vv_X4_bitsOf_L4 at hd
    refine lv_iload_n K.1 K.2.1 dX4_bitsOf_4 rfl (lv_at hl 3 rfl) ?_
    refine lv_bipush (v := (8 : Int32)) K.1 K.2.1 dX4_bitsOf_5 (by decide) ?_
    refine lv_icmp_ge (tgt := 36) K.1 K.2.1 dX4_bitsOf_7 (by decide) (fun h_3 => ?_) (fun h_3 => ?_)
    · have hd := hd.1 h_3
      refine lv_iload_n K.1 K.2.1 dX4_bitsOf_36 rfl (lv_at hl 2 rfl) ?_
      exact rk_iret K hw hr hd dX4_bitsOf_37
    · have hd := hd.2 h_3
      refine lv_iload_n K.1 K.2.1 dX4_bitsOf_10 rfl (lv_at hl 2 rfl) ?_
      refine lv_aload_n K.1 K.2.1 dX4_bitsOf_11 rfl (lv_at hl 0 rfl) ?_
      refine rc_get layX4 (ci := 4) rfl 4 (by decide) (v := .ref (ad 24)) K hw (wc_Ta cy nt ad _) kf_X4_15 rfl dX4_bitsOf_12 ?_
      refine lv_iload_n K.1 K.2.1 dX4_bitsOf_15 rfl (lv_at hl 3 rfl) ?_
      have hb := hd.1
      have hd := hd.2
      refine rc_iald K hw (wc_24 cy nt ad _) hb dX4_bitsOf_16 ?_
      refine lv_iload_n K.1 K.2.1 dX4_bitsOf_17 rfl (lv_at hl 1 rfl) ?_
      refine lv_icmp_ne (tgt := 27) K.1 K.2.1 dX4_bitsOf_18 (by decide) (fun h_4 => ?_) (fun h_4 => ?_)
      · have hd := hd.1 h_4
        refine lv_iconst (v := (0 : Int32)) K.1 K.2.1 dX4_bitsOf_27 (by decide) ?_
        exact bb_X4_bitsOf_28 K KX hr  ih x1 x3 x2 (0 : Int32) g0 _ _ _  hd hw (lv_sub hl [0, 1, 3] rfl)
      · have hd := hd.2 h_4
        refine lv_iconst (v := (1 : Int32)) K.1 K.2.1 dX4_bitsOf_21 (by decide) ?_
        refine lv_iload_n K.1 K.2.1 dX4_bitsOf_22 rfl (lv_at hl 3 rfl) ?_
        refine lv_ishl K.1 K.2.1 dX4_bitsOf_23 ?_
        refine lv_goto (tgt := 28) K.1 K.2.1 dX4_bitsOf_24 (by decide) ?_
        exact bb_X4_bitsOf_28 K KX hr  ih x1 x3 x2 ((1 : Int32) <<< (x3 &&& 31)) g0 _ _ _  hd hw (lv_sub hl [0, 1, 3] rfl)
set_option maxHeartbeats 4000000 in
set_option maxRecDepth 100000 in
theorem cc_X4_bitsOf (l : Launch) (D : va_G) (cy : Nat → ClassId) (nt : Nat) (ad : Nat → Nat) (A : Nat → Prop) (X : Nat → Nat)  (g0 : Sg) (Q : Int32 → Sg → Prop) (x1 : Int32) (hd : vv_X4_bitsOf nt x1 g0 Q) : Met l yX4_bitsOf (Cond.code yX4_bitsOf cX4_bitsOf 4 (some .int) :: TT) (rmD 1) (va_Pc [.ref (ad 22), .int x1] (PreC (wsC cy nt ad) D cy A X g0)) (va_Qi Q (PostG (wsC cy nt ad) D A) A) 0 0 A := by
  unfold vv_X4_bitsOf at hd
  refine Met.ofW (cc := cX4_bitsOf) (maxL := 4) (ret := (some .int)) (by decide) rfl ?_
  intro p e s m args below meth c s₁ B hml hv
  obtain ⟨rfl, ⟨hP, hK0, hD⟩, KX⟩ := hv
  have K : Kx p s m _ meth c cX4_bitsOf 4 RX4 D cy := ⟨B.exec, B.bytes, hml, findClass_of_methodNamed B.named, fun w h => atoms_spec (ws := Cond.code yX4_bitsOf cX4_bitsOf 4 (some .int) :: TT) B.pre w (List.mem_cons_of_mem _ h), hK0, B.notSynchronized⟩
  have hw : Wd D A s.heap (wsC cy nt ad g0) s.heap [] := ⟨hP, hD, va_S.rf⟩
  have hr := B.returns
  have hl := lv_entry ([.ref (ad 22), .int x1]) (n := 4) (Nat.le_of_ble_eq_true rfl)
  rw [lg_entry_eq]
  generalize (lg_sl ([.ref (ad 22), .int x1]) ++ List.replicate (4 - (lg_sl ([.ref (ad 22), .int x1])).length) Slot.unset).toArray = ls at hl ⊢
  have hl : lv_has ls 4 [(0, .ref (ad 22)), (1, .int x1)] := hl
  refine lv_iconst (v := (0 : Int32)) K.1 K.2.1 dX4_bitsOf_0 (by decide) ?_
  refine lv_topi (fun x2_1 ex2_1 => ?_)
  have hd := hd x2_1 ex2_1
  refine lv_istore_n (lv' := [(2, .int x2_1), (0, .ref (ad 22)), (1, .int x1)]) K.1 K.2.1 dX4_bitsOf_1 rfl hl (by decide) rfl (fun ls hl => ?_)
  refine lv_iconst (v := (0 : Int32)) K.1 K.2.1 dX4_bitsOf_2 (by decide) ?_
  refine lv_topi (fun x3_2 ex3_2 => ?_)
  have hd := hd x3_2 ex3_2
  refine lv_istore_n (lv' := [(3, .int x3_2), (2, .int x2_1), (0, .ref (ad 22)), (1, .int x1)]) K.1 K.2.1 dX4_bitsOf_3 rfl hl (by decide) rfl (fun ls hl => ?_)
  obtain ⟨n9, hd⟩ := hd
  exact bb_X4_bitsOf_4 K KX hr   n9 x1 x2_1 x3_2 g0 _ _ _  hd hw (lv_sub hl [2, 3, 1, 0] rfl)
theorem dX4_addUp_0 : decode cX4_addUp 0 = .ok (.iconst 0, 1) := by decide +kernel
theorem dX4_addUp_1 : decode cX4_addUp 1 = .ok (.istore_n 1, 1) := by decide +kernel
theorem dX4_addUp_2 : decode cX4_addUp 2 = .ok (.iload_n 1, 1) := by decide +kernel
theorem dX4_addUp_3 : decode cX4_addUp 3 = .ok (.bipush 8, 2) := by decide +kernel
theorem dX4_addUp_5 : decode cX4_addUp 5 = .ok (.if_icmp .ge 47, 3) := by decide +kernel
theorem dX4_addUp_8 : decode cX4_addUp 8 = .ok (.iconst 1, 1) := by decide +kernel
theorem dX4_addUp_9 : decode cX4_addUp 9 = .ok (.iload_n 1, 1) := by decide +kernel
theorem dX4_addUp_10 : decode cX4_addUp 10 = .ok (.ishl, 1) := by decide +kernel
theorem dX4_addUp_11 : decode cX4_addUp 11 = .ok (.istore_n 2, 1) := by decide +kernel
theorem dX4_addUp_12 : decode cX4_addUp 12 = .ok (.iconst 0, 1) := by decide +kernel
theorem dX4_addUp_13 : decode cX4_addUp 13 = .ok (.istore_n 3, 1) := by decide +kernel
theorem dX4_addUp_14 : decode cX4_addUp 14 = .ok (.iload_n 3, 1) := by decide +kernel
theorem dX4_addUp_15 : decode cX4_addUp 15 = .ok (.iload_n 2, 1) := by decide +kernel
theorem dX4_addUp_16 : decode cX4_addUp 16 = .ok (.if_icmp .ge 30, 3) := by decide +kernel
theorem dX4_addUp_19 : decode cX4_addUp 19 = .ok (.aload_n 0, 1) := by decide +kernel
theorem dX4_addUp_20 : decode cX4_addUp 20 = .ok (.getfield 18, 3) := by decide +kernel
theorem dX4_addUp_23 : decode cX4_addUp 23 = .ok (.iload_n 3, 1) := by decide +kernel
theorem dX4_addUp_24 : decode cX4_addUp 24 = .ok (.iload_n 2, 1) := by decide +kernel
theorem dX4_addUp_25 : decode cX4_addUp 25 = .ok (.ior, 1) := by decide +kernel
theorem dX4_addUp_26 : decode cX4_addUp 26 = .ok (.aload_n 0, 1) := by decide +kernel
theorem dX4_addUp_27 : decode cX4_addUp 27 = .ok (.getfield 18, 3) := by decide +kernel
theorem dX4_addUp_30 : decode cX4_addUp 30 = .ok (.iload_n 3, 1) := by decide +kernel
theorem dX4_addUp_31 : decode cX4_addUp 31 = .ok (.iaload, 1) := by decide +kernel
theorem dX4_addUp_32 : decode cX4_addUp 32 = .ok (.aload_n 0, 1) := by decide +kernel
theorem dX4_addUp_33 : decode cX4_addUp 33 = .ok (.getfield 9, 3) := by decide +kernel
theorem dX4_addUp_36 : decode cX4_addUp 36 = .ok (.iload_n 1, 1) := by decide +kernel
theorem dX4_addUp_37 : decode cX4_addUp 37 = .ok (.iaload, 1) := by decide +kernel
theorem dX4_addUp_38 : decode cX4_addUp 38 = .ok (.iadd, 1) := by decide +kernel
theorem dX4_addUp_39 : decode cX4_addUp 39 = .ok (.iastore, 1) := by decide +kernel
theorem dX4_addUp_40 : decode cX4_addUp 40 = .ok (.iinc 3 1, 3) := by decide +kernel
theorem dX4_addUp_43 : decode cX4_addUp 43 = .ok (.goto (-29), 3) := by decide +kernel
theorem dX4_addUp_46 : decode cX4_addUp 46 = .ok (.iinc 1 1, 3) := by decide +kernel
theorem dX4_addUp_49 : decode cX4_addUp 49 = .ok (.goto (-47), 3) := by decide +kernel
theorem dX4_addUp_52 : decode cX4_addUp 52 = .ok (.return_, 1) := by decide +kernel
set_option maxHeartbeats 4000000 in
set_option maxRecDepth 100000 in
theorem bb_X4_addUp_14 {p : Program} {l : Launch} {e : Env} {s : State} {m : MethodId} {args : Array Value} {below : List Frame} {meth : Method} {c : Code} {D : va_G} {cy : Nat → ClassId} {nt : Nat} {ad : Nat → Nat} {A : Nat → Prop} {X : Nat → Nat} {Q : Sg → Prop} (K : Kx p s m args meth c cX4_addUp 4 RX4 D cy) (KX : XC X A s s.heap) (hr : meth.sig.returnType = none)  {rc2 : Int32 → Sg → Prop} (hrc2 : ∀ (x1 : Int32) (u : Sg) (H : Heap) (locs : List Loc) (ls : Array Slot), rc2 x1 u → Wd D A s.heap (wsC cy nt ad u) H locs → lv_has ls 4 [(0, .ref (ad 22)), (1, .int x1)] → W p l e (rmD 1) s m args below meth c H locs 0 0 (MQ below (va_Qv Q (PostG (wsC cy nt ad) D A) A) args s 0 0 A) (F0 m 2 ls [])) : ∀ (n : Nat) (x1 : Int32) (x2 : Int32) (x3 : Int32)  (g0 : Sg) (H : Heap) (locs : List Loc) (ls : Array Slot), vv_X4_addUp_L14 nt rc2 Q n x1 x2 x3 g0 → Wd D A s.heap (wsC cy nt ad g0) H locs → lv_has ls 4 [(0, .ref (ad 22)), (1, .int x1), (2, .int x2), (3, .int x3)] → W p l e (rmD 1) s m args below meth c H locs 0 0 (MQ below (va_Qv Q (PostG (wsC cy nt ad) D A) A) args s 0 0 A) (F0 m 14 ls []) := by
  intro n
  induction n with
  | zero => intro _ _ _ _ _ _ _ hd; exact hd.elim
  | succ n ih =>
    intro x1 x2 x3 g0 H locs ls  hd hw hl
    unfold vv_X4_addUp_L14 at hd
    refine lv_iload_n K.1 K.2.1 dX4_addUp_14 rfl (lv_at hl 3 rfl) ?_
    refine lv_iload_n K.1 K.2.1 dX4_addUp_15 rfl (lv_at hl 2 rfl) ?_
    refine lv_icmp_ge (tgt := 46) K.1 K.2.1 dX4_addUp_16 (by decide) (fun h_5 => ?_) (fun h_5 => ?_)
    · have hd := hd.1 h_5
      obtain ⟨x1_6, ex1_6⟩ : ∃ y : Int32, y = x1 + (1 : Int32) := ⟨_, rfl⟩
      have hd := hd x1_6 ex1_6
      refine lv_iinc (v := x1_6) (lv' := [(1, .int x1_6), (0, .ref (ad 22)), (2, .int x2), (3, .int x3)]) K.1 K.2.1 dX4_addUp_46 hl (k := 1) rfl (by rw [ex1_6]; rfl) (by decide) rfl (fun ls hl => ?_)
      refine lv_goto (tgt := 2) K.1 K.2.1 dX4_addUp_49 (by decide) ?_
      exact hrc2 x1_6 g0 _ _ _  hd hw (lv_sub hl [1, 0] rfl)
    · have hd := hd.2 h_5
      refine lv_aload_n K.1 K.2.1 dX4_addUp_19 rfl (lv_at hl 0 rfl) ?_
      refine rc_get layX4 (ci := 4) rfl 5 (by decide) (v := .ref (ad 25)) K hw (wc_Ta cy nt ad _) kf_X4_18 rfl dX4_addUp_20 ?_
      refine lv_iload_n K.1 K.2.1 dX4_addUp_23 rfl (lv_at hl 3 rfl) ?_
      refine lv_iload_n K.1 K.2.1 dX4_addUp_24 rfl (lv_at hl 2 rfl) ?_
      refine lv_ior K.1 K.2.1 dX4_addUp_25 ?_
      refine lv_aload_n K.1 K.2.1 dX4_addUp_26 rfl (lv_at hl 0 rfl) ?_
      refine rc_get layX4 (ci := 4) rfl 5 (by decide) (v := .ref (ad 25)) K hw (wc_Ta cy nt ad _) kf_X4_18 rfl dX4_addUp_27 ?_
      refine lv_iload_n K.1 K.2.1 dX4_addUp_30 rfl (lv_at hl 3 rfl) ?_
      have hb := hd.1
      have hd := hd.2
      refine rc_iald K hw (wc_25 cy nt ad _) hb dX4_addUp_31 ?_
      refine lv_aload_n K.1 K.2.1 dX4_addUp_32 rfl (lv_at hl 0 rfl) ?_
      refine rc_get layX4 (ci := 4) rfl 3 (by decide) (v := .ref (ad 23)) K hw (wc_Ta cy nt ad _) kf_X4_9 rfl dX4_addUp_33 ?_
      refine lv_iload_n K.1 K.2.1 dX4_addUp_36 rfl (lv_at hl 1 rfl) ?_
      have hb := hd.1
      have hd := hd.2
      refine rc_iald K hw (wc_23 cy nt ad _) hb dX4_addUp_37 ?_
      refine lv_iadd K.1 K.2.1 dX4_addUp_38 ?_
      have hb := hd.1
      have hd := hd.2
      refine rc_iast K hw (wc_25 cy nt ad _) (wa_25 cy nt ad _ _ _) hb dX4_addUp_39 (fun g_7 eg_7 H locs hw => ?_)
      have hd := hd g_7 eg_7
      obtain ⟨x3_8, ex3_8⟩ : ∃ y : Int32, y = x3 + (1 : Int32) := ⟨_, rfl⟩
      have hd := hd x3_8 ex3_8
      refine lv_iinc (v := x3_8) (lv' := [(3, .int x3_8), (0, .ref (ad 22)), (1, .int x1), (2, .int x2)]) K.1 K.2.1 dX4_addUp_40 hl (k := 3) rfl (by rw [ex3_8]; rfl) (by decide) rfl (fun ls hl => ?_)
      refine lv_goto (tgt := 14) K.1 K.2.1 dX4_addUp_43 (by decide) ?_
      exact ih x1 x2 x3_8 g_7 _ _ _  hd hw (lv_sub hl [1, 2, 3, 0] rfl)
set_option maxHeartbeats 4000000 in
set_option maxRecDepth 100000 in
theorem bb_X4_addUp_2 {p : Program} {l : Launch} {e : Env} {s : State} {m : MethodId} {args : Array Value} {below : List Frame} {meth : Method} {c : Code} {D : va_G} {cy : Nat → ClassId} {nt : Nat} {ad : Nat → Nat} {A : Nat → Prop} {X : Nat → Nat} {Q : Sg → Prop} (K : Kx p s m args meth c cX4_addUp 4 RX4 D cy) (KX : XC X A s s.heap) (hr : meth.sig.returnType = none)  : ∀ (n : Nat) (x1 : Int32)  (g0 : Sg) (H : Heap) (locs : List Loc) (ls : Array Slot), vv_X4_addUp_L2 nt Q n x1 g0 → Wd D A s.heap (wsC cy nt ad g0) H locs → lv_has ls 4 [(0, .ref (ad 22)), (1, .int x1)] → W p l e (rmD 1) s m args below meth c H locs 0 0 (MQ below (va_Qv Q (PostG (wsC cy nt ad) D A) A) args s 0 0 A) (F0 m 2 ls []) := by
  intro n
  induction n with
  | zero => intro _ _ _ _ _ hd; exact hd.elim
  | succ n ih =>
    intro x1 g0 H locs ls  hd hw hl
    unfold vv_X4_addUp_L2 at hd
    refine lv_iload_n K.1 K.2.1 dX4_addUp_2 rfl (lv_at hl 1 rfl) ?_
    refine lv_bipush (v := (8 : Int32)) K.1 K.2.1 dX4_addUp_3 (by decide) ?_
    refine lv_icmp_ge (tgt := 52) K.1 K.2.1 dX4_addUp_5 (by decide) (fun h_2 => ?_) (fun h_2 => ?_)
    · have hd := hd.1 h_2
      exact rk_vret K hw hr hd dX4_addUp_52
    · have hd := hd.2 h_2
      refine lv_iconst (v := (1 : Int32)) K.1 K.2.1 dX4_addUp_8 (by decide) ?_
      refine lv_iload_n K.1 K.2.1 dX4_addUp_9 rfl (lv_at hl 1 rfl) ?_
      refine lv_ishl K.1 K.2.1 dX4_addUp_10 ?_
      refine lv_topi (fun x2_3 ex2_3 => ?_)
      have hd := hd x2_3 ex2_3
      refine lv_istore_n (lv' := [(2, .int x2_3), (0, .ref (ad 22)), (1, .int x1)]) K.1 K.2.1 dX4_addUp_11 rfl hl (by decide) rfl (fun ls hl => ?_)
      refine lv_iconst (v := (0 : Int32)) K.1 K.2.1 dX4_addUp_12 (by decide) ?_
      refine lv_topi (fun x3_4 ex3_4 => ?_)
      have hd := hd x3_4 ex3_4
      refine lv_istore_n (lv' := [(3, .int x3_4), (2, .int x2_3), (0, .ref (ad 22)), (1, .int x1)]) K.1 K.2.1 dX4_addUp_13 rfl hl (by decide) rfl (fun ls hl => ?_)
      obtain ⟨n9, hd⟩ := hd
      exact bb_X4_addUp_14 K KX hr  ih n9 x1 x2_3 x3_4 g0 _ _ _  hd hw (lv_sub hl [2, 3, 1, 0] rfl)
set_option maxHeartbeats 4000000 in
set_option maxRecDepth 100000 in
theorem cc_X4_addUp (l : Launch) (D : va_G) (cy : Nat → ClassId) (nt : Nat) (ad : Nat → Nat) (A : Nat → Prop) (X : Nat → Nat)  (g0 : Sg) (Q : Sg → Prop)  (hd : vv_X4_addUp nt  g0 Q) : Met l yX4_addUp (Cond.code yX4_addUp cX4_addUp 4 none :: TT) (rmD 1) (va_Pc [.ref (ad 22)] (PreC (wsC cy nt ad) D cy A X g0)) (va_Qv Q (PostG (wsC cy nt ad) D A) A) 0 0 A := by
  unfold vv_X4_addUp at hd
  refine Met.ofW (cc := cX4_addUp) (maxL := 4) (ret := none) (by decide) rfl ?_
  intro p e s m args below meth c s₁ B hml hv
  obtain ⟨rfl, ⟨hP, hK0, hD⟩, KX⟩ := hv
  have K : Kx p s m _ meth c cX4_addUp 4 RX4 D cy := ⟨B.exec, B.bytes, hml, findClass_of_methodNamed B.named, fun w h => atoms_spec (ws := Cond.code yX4_addUp cX4_addUp 4 none :: TT) B.pre w (List.mem_cons_of_mem _ h), hK0, B.notSynchronized⟩
  have hw : Wd D A s.heap (wsC cy nt ad g0) s.heap [] := ⟨hP, hD, va_S.rf⟩
  have hr := B.returns
  have hl := lv_entry ([.ref (ad 22)]) (n := 4) (Nat.le_of_ble_eq_true rfl)
  rw [lg_entry_eq]
  generalize (lg_sl ([.ref (ad 22)]) ++ List.replicate (4 - (lg_sl ([.ref (ad 22)])).length) Slot.unset).toArray = ls at hl ⊢
  have hl : lv_has ls 4 [(0, .ref (ad 22))] := hl
  refine lv_iconst (v := (0 : Int32)) K.1 K.2.1 dX4_addUp_0 (by decide) ?_
  refine lv_topi (fun x1_1 ex1_1 => ?_)
  have hd := hd x1_1 ex1_1
  refine lv_istore_n (lv' := [(1, .int x1_1), (0, .ref (ad 22))]) K.1 K.2.1 dX4_addUp_1 rfl hl (by decide) rfl (fun ls hl => ?_)
  obtain ⟨n9, hd⟩ := hd
  exact bb_X4_addUp_2 K KX hr   n9 x1_1 g0 _ _ _  hd hw (lv_sub hl [1, 0] rfl)
theorem dX4_weightOfSet_0 : decode cX4_weightOfSet 0 = .ok (.aload_n 0, 1) := by decide +kernel
theorem dX4_weightOfSet_1 : decode cX4_weightOfSet 1 = .ok (.getfield 18, 3) := by decide +kernel
theorem dX4_weightOfSet_4 : decode cX4_weightOfSet 4 = .ok (.iload_n 1, 1) := by decide +kernel
theorem dX4_weightOfSet_5 : decode cX4_weightOfSet 5 = .ok (.sipush 255, 3) := by decide +kernel
theorem dX4_weightOfSet_8 : decode cX4_weightOfSet 8 = .ok (.iand, 1) := by decide +kernel
theorem dX4_weightOfSet_9 : decode cX4_weightOfSet 9 = .ok (.iaload, 1) := by decide +kernel
theorem dX4_weightOfSet_10 : decode cX4_weightOfSet 10 = .ok (.ireturn, 1) := by decide +kernel
set_option maxHeartbeats 4000000 in
set_option maxRecDepth 100000 in
theorem cc_X4_weightOfSet (l : Launch) (D : va_G) (cy : Nat → ClassId) (nt : Nat) (ad : Nat → Nat) (A : Nat → Prop) (X : Nat → Nat)  (g0 : Sg) (Q : Int32 → Sg → Prop) (x1 : Int32) (hd : vv_X4_weightOfSet nt x1 g0 Q) : Met l yX4_weightOfSet (Cond.code yX4_weightOfSet cX4_weightOfSet 2 (some .int) :: TT) (rmD 1) (va_Pc [.ref (ad 22), .int x1] (PreC (wsC cy nt ad) D cy A X g0)) (va_Qi Q (PostG (wsC cy nt ad) D A) A) 0 0 A := by
  unfold vv_X4_weightOfSet at hd
  refine Met.ofW (cc := cX4_weightOfSet) (maxL := 2) (ret := (some .int)) (by decide) rfl ?_
  intro p e s m args below meth c s₁ B hml hv
  obtain ⟨rfl, ⟨hP, hK0, hD⟩, KX⟩ := hv
  have K : Kx p s m _ meth c cX4_weightOfSet 2 RX4 D cy := ⟨B.exec, B.bytes, hml, findClass_of_methodNamed B.named, fun w h => atoms_spec (ws := Cond.code yX4_weightOfSet cX4_weightOfSet 2 (some .int) :: TT) B.pre w (List.mem_cons_of_mem _ h), hK0, B.notSynchronized⟩
  have hw : Wd D A s.heap (wsC cy nt ad g0) s.heap [] := ⟨hP, hD, va_S.rf⟩
  have hr := B.returns
  have hl := lv_entry ([.ref (ad 22), .int x1]) (n := 2) (Nat.le_of_ble_eq_true rfl)
  rw [lg_entry_eq]
  generalize (lg_sl ([.ref (ad 22), .int x1]) ++ List.replicate (2 - (lg_sl ([.ref (ad 22), .int x1])).length) Slot.unset).toArray = ls at hl ⊢
  have hl : lv_has ls 2 [(0, .ref (ad 22)), (1, .int x1)] := hl
  refine lv_aload_n K.1 K.2.1 dX4_weightOfSet_0 rfl (lv_at hl 0 rfl) ?_
  refine rc_get layX4 (ci := 4) rfl 5 (by decide) (v := .ref (ad 25)) K hw (wc_Ta cy nt ad _) kf_X4_18 rfl dX4_weightOfSet_1 ?_
  refine lv_iload_n K.1 K.2.1 dX4_weightOfSet_4 rfl (lv_at hl 1 rfl) ?_
  refine lv_sipush (v := (255 : Int32)) K.1 K.2.1 dX4_weightOfSet_5 (by decide) ?_
  refine lv_iand K.1 K.2.1 dX4_weightOfSet_8 ?_
  have hb := hd.1
  have hd := hd.2
  refine rc_iald K hw (wc_25 cy nt ad _) hb dX4_weightOfSet_9 ?_
  exact rk_iret K hw hr hd dX4_weightOfSet_10
theorem dX5_add_0 : decode cX5_add 0 = .ok (.aload_n 0, 1) := by decide +kernel
theorem dX5_add_1 : decode cX5_add 1 = .ok (.getfield 15, 3) := by decide +kernel
theorem dX5_add_4 : decode cX5_add 4 = .ok (.sipush 160, 3) := by decide +kernel
theorem dX5_add_7 : decode cX5_add 7 = .ok (.if_icmp .ge 23, 3) := by decide +kernel
theorem dX5_add_10 : decode cX5_add 10 = .ok (.aload_n 0, 1) := by decide +kernel
theorem dX5_add_11 : decode cX5_add 11 = .ok (.getfield 9, 3) := by decide +kernel
theorem dX5_add_14 : decode cX5_add 14 = .ok (.aload_n 0, 1) := by decide +kernel
theorem dX5_add_15 : decode cX5_add 15 = .ok (.getfield 15, 3) := by decide +kernel
theorem dX5_add_18 : decode cX5_add 18 = .ok (.iload_n 1, 1) := by decide +kernel
theorem dX5_add_19 : decode cX5_add 19 = .ok (.iastore, 1) := by decide +kernel
theorem dX5_add_20 : decode cX5_add 20 = .ok (.aload_n 0, 1) := by decide +kernel
theorem dX5_add_21 : decode cX5_add 21 = .ok (.dup, 1) := by decide +kernel
theorem dX5_add_22 : decode cX5_add 22 = .ok (.getfield 15, 3) := by decide +kernel
theorem dX5_add_25 : decode cX5_add 25 = .ok (.iconst 1, 1) := by decide +kernel
theorem dX5_add_26 : decode cX5_add 26 = .ok (.iadd, 1) := by decide +kernel
theorem dX5_add_27 : decode cX5_add 27 = .ok (.putfield 15, 3) := by decide +kernel
theorem dX5_add_30 : decode cX5_add 30 = .ok (.return_, 1) := by decide +kernel
set_option maxHeartbeats 4000000 in
set_option maxRecDepth 100000 in
theorem cc_X5_add (l : Launch) (D : va_G) (cy : Nat → ClassId) (nt : Nat) (ad : Nat → Nat) (A : Nat → Prop) (X : Nat → Nat)  (g0 : Sg) (Q : Sg → Prop) (x1 : Int32) (hd : vv_X5_add nt x1 g0 Q) : Met l yX5_add (Cond.code yX5_add cX5_add 2 none :: TT) (rmD 1) (va_Pc [.ref (ad 8), .int x1] (PreC (wsC cy nt ad) D cy A X g0)) (va_Qv Q (PostG (wsC cy nt ad) D A) A) 0 0 A := by
  unfold vv_X5_add at hd
  refine Met.ofW (cc := cX5_add) (maxL := 2) (ret := none) (by decide) rfl ?_
  intro p e s m args below meth c s₁ B hml hv
  obtain ⟨rfl, ⟨hP, hK0, hD⟩, KX⟩ := hv
  have K : Kx p s m _ meth c cX5_add 2 RX5 D cy := ⟨B.exec, B.bytes, hml, findClass_of_methodNamed B.named, fun w h => atoms_spec (ws := Cond.code yX5_add cX5_add 2 none :: TT) B.pre w (List.mem_cons_of_mem _ h), hK0, B.notSynchronized⟩
  have hw : Wd D A s.heap (wsC cy nt ad g0) s.heap [] := ⟨hP, hD, va_S.rf⟩
  have hr := B.returns
  have hl := lv_entry ([.ref (ad 8), .int x1]) (n := 2) (Nat.le_of_ble_eq_true rfl)
  rw [lg_entry_eq]
  generalize (lg_sl ([.ref (ad 8), .int x1]) ++ List.replicate (2 - (lg_sl ([.ref (ad 8), .int x1])).length) Slot.unset).toArray = ls at hl ⊢
  have hl : lv_has ls 2 [(0, .ref (ad 8)), (1, .int x1)] := hl
  refine lv_aload_n K.1 K.2.1 dX5_add_0 rfl (lv_at hl 0 rfl) ?_
  refine rc_get layX5 (ci := 5) rfl 1 (by decide) (v := .int (g0 8 1)) K hw (wc_Tp cy nt ad _) kf_X5_15 rfl dX5_add_1 ?_
  refine lv_sipush (v := (160 : Int32)) K.1 K.2.1 dX5_add_4 (by decide) ?_
  refine lv_icmp_ge (tgt := 30) K.1 K.2.1 dX5_add_7 (by decide) (fun h_1 => ?_) (fun h_1 => ?_)
  · have hd := hd.1 h_1
    exact rk_vret K hw hr hd dX5_add_30
  · have hd := hd.2 h_1
    refine lv_aload_n K.1 K.2.1 dX5_add_10 rfl (lv_at hl 0 rfl) ?_
    refine rc_get layX5 (ci := 5) rfl 0 (by decide) (v := .ref (ad 9)) K hw (wc_Tp cy nt ad _) kf_X5_9 rfl dX5_add_11 ?_
    refine lv_aload_n K.1 K.2.1 dX5_add_14 rfl (lv_at hl 0 rfl) ?_
    refine rc_get layX5 (ci := 5) rfl 1 (by decide) (v := .int (g0 8 1)) K hw (wc_Tp cy nt ad _) kf_X5_15 rfl dX5_add_15 ?_
    refine lv_iload_n K.1 K.2.1 dX5_add_18 rfl (lv_at hl 1 rfl) ?_
    have hb := hd.1
    have hd := hd.2
    refine rc_iast K hw (wc_9 cy nt ad _) (wa_9 cy nt ad _ _ _) hb dX5_add_19 (fun g_2 eg_2 H locs hw => ?_)
    have hd := hd g_2 eg_2
    refine lv_aload_n K.1 K.2.1 dX5_add_20 rfl (lv_at hl 0 rfl) ?_
    refine lv_dup K.1 K.2.1 dX5_add_21 rfl ?_
    refine rc_get layX5 (ci := 5) rfl 1 (by decide) (v := .int (g_2 8 1)) K hw (wc_Tp cy nt ad _) kf_X5_15 rfl dX5_add_22 ?_
    refine lv_iconst (v := (1 : Int32)) K.1 K.2.1 dX5_add_25 (by decide) ?_
    refine lv_iadd K.1 K.2.1 dX5_add_26 ?_
    refine rc_put layX5 (ci := 5) rfl tyX5_ok nmX5 1 (by decide) K hw (wc_Tp cy nt ad _) kf_X5_15 rfl rfl rfl rfl (Nat.le_of_ble_eq_true rfl) (wp_Tp_1 cy nt ad _ _) dX5_add_27 (fun g_3 eg_3 H locs hw => ?_)
    have hd := hd g_3 eg_3
    exact rk_vret K hw hr hd dX5_add_30
theorem dX5_rewind_0 : decode cX5_rewind 0 = .ok (.aload_n 0, 1) := by decide +kernel
theorem dX5_rewind_1 : decode cX5_rewind 1 = .ok (.iconst 0, 1) := by decide +kernel
theorem dX5_rewind_2 : decode cX5_rewind 2 = .ok (.putfield 33, 3) := by decide +kernel
theorem dX5_rewind_5 : decode cX5_rewind 5 = .ok (.aload_n 0, 1) := by decide +kernel
theorem dX5_rewind_6 : decode cX5_rewind 6 = .ok (.invokevirtual 36, 3) := by decide +kernel
theorem dX5_rewind_9 : decode cX5_rewind 9 = .ok (.return_, 1) := by decide +kernel
set_option maxHeartbeats 4000000 in
set_option maxRecDepth 100000 in
theorem cc_X5_rewind (l : Launch) (D : va_G) (cy : Nat → ClassId) (nt : Nat) (ad : Nat → Nat) (A : Nat → Prop) (X : Nat → Nat)  (g0 : Sg) (Q : Sg → Prop)  (hd : vv_X5_rewind nt  g0 Q) : Met l yX5_rewind (Cond.code yX5_rewind cX5_rewind 1 none :: TT) (rmD 8) (va_Pc [.ref (ad 8)] (PreC (wsC cy nt ad) D cy A X g0)) (va_Qv Q (PostG (wsC cy nt ad) D A) A) 0 0 A := by
  unfold vv_X5_rewind at hd
  refine Met.ofW (cc := cX5_rewind) (maxL := 1) (ret := none) (by decide) rfl ?_
  intro p e s m args below meth c s₁ B hml hv
  obtain ⟨rfl, ⟨hP, hK0, hD⟩, KX⟩ := hv
  have K : Kx p s m _ meth c cX5_rewind 1 RX5 D cy := ⟨B.exec, B.bytes, hml, findClass_of_methodNamed B.named, fun w h => atoms_spec (ws := Cond.code yX5_rewind cX5_rewind 1 none :: TT) B.pre w (List.mem_cons_of_mem _ h), hK0, B.notSynchronized⟩
  have hw : Wd D A s.heap (wsC cy nt ad g0) s.heap [] := ⟨hP, hD, va_S.rf⟩
  have hr := B.returns
  have hl := lv_entry ([.ref (ad 8)]) (n := 1) (Nat.le_of_ble_eq_true rfl)
  rw [lg_entry_eq]
  generalize (lg_sl ([.ref (ad 8)]) ++ List.replicate (1 - (lg_sl ([.ref (ad 8)])).length) Slot.unset).toArray = ls at hl ⊢
  have hl : lv_has ls 1 [(0, .ref (ad 8))] := hl
  refine lv_aload_n K.1 K.2.1 dX5_rewind_0 rfl (lv_at hl 0 rfl) ?_
  refine lv_iconst (v := (0 : Int32)) K.1 K.2.1 dX5_rewind_1 (by decide) ?_
  refine rc_put layX5 (ci := 5) rfl tyX5_ok nmX5 5 (by decide) K hw (wc_Tp cy nt ad _) kf_X5_33 rfl rfl rfl rfl (Nat.le_of_ble_eq_true rfl) (wp_Tp_5 cy nt ad _ _) dX5_rewind_2 (fun g_1 eg_1 H locs hw => ?_)
  have hd := hd g_1 eg_1
  refine lv_aload_n K.1 K.2.1 dX5_rewind_5 rfl (lv_at hl 0 rfl) ?_
  refine rkc_vv (As := []) (rest := []) K KX hw (cc_X5_advance l D cy nt ad A X g_1 _  hd) lk_X5_36 (ci := 5) rfl (wc_Tp cy nt ad _) ⟨Nat.le_of_ble_eq_true rfl, Nat.le_of_ble_eq_true rfl⟩ ⟨Nat.zero_le _, Nat.zero_le _⟩ rfl hl.1 (Nat.le_of_ble_eq_true rfl) rfl dX5_rewind_6 (fun g_2 H locs hd hw => ?_)
  exact rk_vret K hw hr hd dX5_rewind_9
theorem dX6_named_0 : decode cX6_named 0 = .ok (.iload_n 0, 1) := by decide +kernel
theorem dX6_named_1 : decode cX6_named 1 = .ok (.tableswitch 54 0 4 #[35, 40, 45, 47, 52], 35) := by decide +kernel
theorem dX6_named_36 : decode cX6_named 36 = .ok (.aload_n 1, 1) := by decide +kernel
theorem dX6_named_37 : decode cX6_named 37 = .ok (.getfield 33, 3) := by decide +kernel
theorem dX6_named_40 : decode cX6_named 40 = .ok (.ireturn, 1) := by decide +kernel
theorem dX6_named_41 : decode cX6_named 41 = .ok (.aload_n 1, 1) := by decide +kernel
theorem dX6_named_42 : decode cX6_named 42 = .ok (.getfield 38, 3) := by decide +kernel
theorem dX6_named_45 : decode cX6_named 45 = .ok (.ireturn, 1) := by decide +kernel
theorem dX6_named_46 : decode cX6_named 46 = .ok (.iload_n 2, 1) := by decide +kernel
theorem dX6_named_47 : decode cX6_named 47 = .ok (.ireturn, 1) := by decide +kernel
theorem dX6_named_48 : decode cX6_named 48 = .ok (.aload_n 1, 1) := by decide +kernel
theorem dX6_named_49 : decode cX6_named 49 = .ok (.getfield 41, 3) := by decide +kernel
theorem dX6_named_52 : decode cX6_named 52 = .ok (.ireturn, 1) := by decide +kernel
theorem dX6_named_53 : decode cX6_named 53 = .ok (.iload_n 3, 1) := by decide +kernel
theorem dX6_named_54 : decode cX6_named 54 = .ok (.ireturn, 1) := by decide +kernel
theorem dX6_named_55 : decode cX6_named 55 = .ok (.aload_n 1, 1) := by decide +kernel
theorem dX6_named_56 : decode cX6_named 56 = .ok (.getfield 44, 3) := by decide +kernel
theorem dX6_named_59 : decode cX6_named 59 = .ok (.ireturn, 1) := by decide +kernel
set_option maxHeartbeats 4000000 in
set_option maxRecDepth 100000 in
theorem cc_X6_named (l : Launch) (D : va_G) (cy : Nat → ClassId) (nt : Nat) (ad : Nat → Nat) (A : Nat → Prop) (X : Nat → Nat)  (g0 : Sg) (Q : Int32 → Sg → Prop) (x0 : Int32) (x1 : Nat) (x2 : Int32) (x3 : Int32) (hd : vv_X6_named nt x0 x1 x2 x3 g0 Q) : Met l yX6_named (Cond.code yX6_named cX6_named 4 (some .int) :: TT) (rmD 1) (va_Pc [.int x0, .ref (ad x1), .int x2, .int x3] (PreC (wsC cy nt ad) D cy A X g0)) (va_Qi Q (PostG (wsC cy nt ad) D A) A) 0 0 A := by
  unfold vv_X6_named at hd
  refine Met.ofW (cc := cX6_named) (maxL := 4) (ret := (some .int)) (by decide) rfl ?_
  intro p e s m args below meth c s₁ B hml hv
  obtain ⟨rfl, ⟨hP, hK0, hD⟩, KX⟩ := hv
  have K : Kx p s m _ meth c cX6_named 4 RX6 D cy := ⟨B.exec, B.bytes, hml, findClass_of_methodNamed B.named, fun w h => atoms_spec (ws := Cond.code yX6_named cX6_named 4 (some .int) :: TT) B.pre w (List.mem_cons_of_mem _ h), hK0, B.notSynchronized⟩
  have hw : Wd D A s.heap (wsC cy nt ad g0) s.heap [] := ⟨hP, hD, va_S.rf⟩
  have hr := B.returns
  have hl := lv_entry ([.int x0, .ref (ad x1), .int x2, .int x3]) (n := 4) (Nat.le_of_ble_eq_true rfl)
  rw [lg_entry_eq]
  generalize (lg_sl ([.int x0, .ref (ad x1), .int x2, .int x3]) ++ List.replicate (4 - (lg_sl ([.int x0, .ref (ad x1), .int x2, .int x3])).length) Slot.unset).toArray = ls at hl ⊢
  have hl : lv_has ls 4 [(0, .int x0), (1, .ref (ad x1)), (2, .int x2), (3, .int x3)] := hl
  have hq_x1 := hd.1
  have hd := hd.2
  refine lv_iload_n K.1 K.2.1 dX6_named_0 rfl (lv_at hl 0 rfl) ?_
  rcases Classical.em (x0 = (0 : Int32)) with h_2 | h_2
  · have hd := hd.1 h_2
    refine lv_tableIn (tgt := 36) K.1 K.2.1 dX6_named_1 (by rw [h_2]; decide) (by rw [h_2]; decide) (off := 35) (by rw [h_2]; rfl) (by decide) ?_
    refine lv_aload_n K.1 K.2.1 dX6_named_36 rfl (lv_at hl 1 rfl) ?_
    refine rc_get layX1 (ci := 1) rfl 4 (by decide) (v := .int (g0 x1 4)) K hw (wc_P cy nt ad _ hq_x1) kf_X6_33 rfl dX6_named_37 ?_
    exact rk_iret K hw hr hd dX6_named_40
  rcases Classical.em (x0 = (1 : Int32)) with h_3 | h_3
  · have hd := hd.2.1 h_3
    refine lv_tableIn (tgt := 41) K.1 K.2.1 dX6_named_1 (by rw [h_3]; decide) (by rw [h_3]; decide) (off := 40) (by rw [h_3]; rfl) (by decide) ?_
    refine lv_aload_n K.1 K.2.1 dX6_named_41 rfl (lv_at hl 1 rfl) ?_
    refine rc_get layX1 (ci := 1) rfl 1 (by decide) (v := .int (g0 x1 1)) K hw (wc_P cy nt ad _ hq_x1) kf_X6_38 rfl dX6_named_42 ?_
    exact rk_iret K hw hr hd dX6_named_45
  rcases Classical.em (x0 = (2 : Int32)) with h_4 | h_4
  · have hd := hd.2.2.1 h_4
    refine lv_tableIn (tgt := 46) K.1 K.2.1 dX6_named_1 (by rw [h_4]; decide) (by rw [h_4]; decide) (off := 45) (by rw [h_4]; rfl) (by decide) ?_
    refine lv_iload_n K.1 K.2.1 dX6_named_46 rfl (lv_at hl 2 rfl) ?_
    exact rk_iret K hw hr hd dX6_named_47
  rcases Classical.em (x0 = (3 : Int32)) with h_5 | h_5
  · have hd := hd.2.2.2.1 h_5
    refine lv_tableIn (tgt := 48) K.1 K.2.1 dX6_named_1 (by rw [h_5]; decide) (by rw [h_5]; decide) (off := 47) (by rw [h_5]; rfl) (by decide) ?_
    refine lv_aload_n K.1 K.2.1 dX6_named_48 rfl (lv_at hl 1 rfl) ?_
    refine rc_get layX1 (ci := 1) rfl 2 (by decide) (v := .int (g0 x1 2)) K hw (wc_P cy nt ad _ hq_x1) kf_X6_41 rfl dX6_named_49 ?_
    exact rk_iret K hw hr hd dX6_named_52
  rcases Classical.em (x0 = (4 : Int32)) with h_6 | h_6
  · have hd := hd.2.2.2.2.1 h_6
    refine lv_tableIn (tgt := 53) K.1 K.2.1 dX6_named_1 (by rw [h_6]; decide) (by rw [h_6]; decide) (off := 52) (by rw [h_6]; rfl) (by decide) ?_
    refine lv_iload_n K.1 K.2.1 dX6_named_53 rfl (lv_at hl 3 rfl) ?_
    exact rk_iret K hw hr hd dX6_named_54
  have hd := hd.2.2.2.2.2 h_2 h_3 h_4 h_5 h_6
  have qh_2 := lv_neT (k := (0 : Int32)) (a := 0) h_2 (by decide)
  have qh_3 := lv_neT (k := (1 : Int32)) (a := 1) h_3 (by decide)
  have qh_4 := lv_neT (k := (2 : Int32)) (a := 2) h_4 (by decide)
  have qh_5 := lv_neT (k := (3 : Int32)) (a := 3) h_5 (by decide)
  have qh_6 := lv_neT (k := (4 : Int32)) (a := 4) h_6 (by decide)
  refine lv_tableOut (tgt := 55) K.1 K.2.1 dX6_named_1 (by omega) (by decide) ?_
  refine lv_aload_n K.1 K.2.1 dX6_named_55 rfl (lv_at hl 1 rfl) ?_
  refine rc_get layX1 (ci := 1) rfl 3 (by decide) (v := .int (g0 x1 3)) K hw (wc_P cy nt ad _ hq_x1) kf_X6_44 rfl dX6_named_56 ?_
  exact rk_iret K hw hr hd dX6_named_59
theorem dX6_joined_0 : decode cX6_joined 0 = .ok (.iload_n 0, 1) := by decide +kernel
theorem dX6_joined_1 : decode cX6_joined 1 = .ok (.tableswitch 97 20000 20005 #[39, 53, 67, 78, 89, 93], 39) := by decide +kernel
theorem dX6_joined_40 : decode cX6_joined 40 = .ok (.iload_n 1, 1) := by decide +kernel
theorem dX6_joined_41 : decode cX6_joined 41 = .ok (.ifCond .ne 7, 3) := by decide +kernel
theorem dX6_joined_44 : decode cX6_joined 44 = .ok (.iload_n 2, 1) := by decide +kernel
theorem dX6_joined_45 : decode cX6_joined 45 = .ok (.ifCond .eq 7, 3) := by decide +kernel
theorem dX6_joined_48 : decode cX6_joined 48 = .ok (.iconst 1, 1) := by decide +kernel
theorem dX6_joined_49 : decode cX6_joined 49 = .ok (.goto 4, 3) := by decide +kernel
theorem dX6_joined_52 : decode cX6_joined 52 = .ok (.iconst 0, 1) := by decide +kernel
theorem dX6_joined_53 : decode cX6_joined 53 = .ok (.ireturn, 1) := by decide +kernel
theorem dX6_joined_54 : decode cX6_joined 54 = .ok (.iload_n 1, 1) := by decide +kernel
theorem dX6_joined_55 : decode cX6_joined 55 = .ok (.ifCond .eq 11, 3) := by decide +kernel
theorem dX6_joined_58 : decode cX6_joined 58 = .ok (.iload_n 2, 1) := by decide +kernel
theorem dX6_joined_59 : decode cX6_joined 59 = .ok (.ifCond .eq 7, 3) := by decide +kernel
theorem dX6_joined_62 : decode cX6_joined 62 = .ok (.iconst 1, 1) := by decide +kernel
theorem dX6_joined_63 : decode cX6_joined 63 = .ok (.goto 4, 3) := by decide +kernel
theorem dX6_joined_66 : decode cX6_joined 66 = .ok (.iconst 0, 1) := by decide +kernel
theorem dX6_joined_67 : decode cX6_joined 67 = .ok (.ireturn, 1) := by decide +kernel
theorem dX6_joined_68 : decode cX6_joined 68 = .ok (.iload_n 1, 1) := by decide +kernel
theorem dX6_joined_69 : decode cX6_joined 69 = .ok (.iload_n 2, 1) := by decide +kernel
theorem dX6_joined_70 : decode cX6_joined 70 = .ok (.if_icmp .ge 7, 3) := by decide +kernel
theorem dX6_joined_73 : decode cX6_joined 73 = .ok (.iconst 1, 1) := by decide +kernel
theorem dX6_joined_74 : decode cX6_joined 74 = .ok (.goto 4, 3) := by decide +kernel
theorem dX6_joined_77 : decode cX6_joined 77 = .ok (.iconst 0, 1) := by decide +kernel
theorem dX6_joined_78 : decode cX6_joined 78 = .ok (.ireturn, 1) := by decide +kernel
theorem dX6_joined_79 : decode cX6_joined 79 = .ok (.iload_n 1, 1) := by decide +kernel
theorem dX6_joined_80 : decode cX6_joined 80 = .ok (.iload_n 2, 1) := by decide +kernel
theorem dX6_joined_81 : decode cX6_joined 81 = .ok (.if_icmp .ne 7, 3) := by decide +kernel
theorem dX6_joined_84 : decode cX6_joined 84 = .ok (.iconst 1, 1) := by decide +kernel
theorem dX6_joined_85 : decode cX6_joined 85 = .ok (.goto 4, 3) := by decide +kernel
theorem dX6_joined_88 : decode cX6_joined 88 = .ok (.iconst 0, 1) := by decide +kernel
theorem dX6_joined_89 : decode cX6_joined 89 = .ok (.ireturn, 1) := by decide +kernel
theorem dX6_joined_90 : decode cX6_joined 90 = .ok (.iload_n 1, 1) := by decide +kernel
theorem dX6_joined_91 : decode cX6_joined 91 = .ok (.iload_n 2, 1) := by decide +kernel
theorem dX6_joined_92 : decode cX6_joined 92 = .ok (.iadd, 1) := by decide +kernel
theorem dX6_joined_93 : decode cX6_joined 93 = .ok (.ireturn, 1) := by decide +kernel
theorem dX6_joined_94 : decode cX6_joined 94 = .ok (.iload_n 1, 1) := by decide +kernel
theorem dX6_joined_95 : decode cX6_joined 95 = .ok (.iload_n 2, 1) := by decide +kernel
theorem dX6_joined_96 : decode cX6_joined 96 = .ok (.isub, 1) := by decide +kernel
theorem dX6_joined_97 : decode cX6_joined 97 = .ok (.ireturn, 1) := by decide +kernel
theorem dX6_joined_98 : decode cX6_joined 98 = .ok (.iload_n 1, 1) := by decide +kernel
theorem dX6_joined_99 : decode cX6_joined 99 = .ok (.iload_n 2, 1) := by decide +kernel
theorem dX6_joined_100 : decode cX6_joined 100 = .ok (.imul, 1) := by decide +kernel
theorem dX6_joined_101 : decode cX6_joined 101 = .ok (.ireturn, 1) := by decide +kernel
set_option maxHeartbeats 4000000 in
set_option maxRecDepth 100000 in
theorem bb_X6_joined_48 {p : Program} {l : Launch} {e : Env} {s : State} {m : MethodId} {args : Array Value} {below : List Frame} {meth : Method} {c : Code} {D : va_G} {cy : Nat → ClassId} {nt : Nat} {ad : Nat → Nat} {A : Nat → Prop} {X : Nat → Nat} {Q : Int32 → Sg → Prop} (K : Kx p s m args meth c cX6_joined 3 RX6 D cy) (KX : XC X A s s.heap) (hr : meth.sig.returnType = (some .int))    (g0 : Sg) (H : Heap) (locs : List Loc) (ls : Array Slot) (hd : vv_X6_joined_J48 nt g0 Q) (hw : Wd D A s.heap (wsC cy nt ad g0) H locs) (hl : lv_has ls 3 []) : W p l e (rmD 1) s m args below meth c H locs 0 0 (MQ below (va_Qi Q (PostG (wsC cy nt ad) D A) A) args s 0 0 A) (F0 m 48 ls []) := by
  unfold vv_X6_joined_J48 at hd
  refine lv_iconst (v := (1 : Int32)) K.1 K.2.1 dX6_joined_48 (by decide) ?_
  refine lv_goto (tgt := 53) K.1 K.2.1 dX6_joined_49 (by decide) ?_
  exact rk_iret K hw hr hd dX6_joined_53
set_option maxHeartbeats 4000000 in
set_option maxRecDepth 100000 in
theorem cc_X6_joined (l : Launch) (D : va_G) (cy : Nat → ClassId) (nt : Nat) (ad : Nat → Nat) (A : Nat → Prop) (X : Nat → Nat)  (g0 : Sg) (Q : Int32 → Sg → Prop) (x0 : Int32) (x1 : Int32) (x2 : Int32) (hd : vv_X6_joined nt x0 x1 x2 g0 Q) : Met l yX6_joined (Cond.code yX6_joined cX6_joined 3 (some .int) :: TT) (rmD 1) (va_Pc [.int x0, .int x1, .int x2] (PreC (wsC cy nt ad) D cy A X g0)) (va_Qi Q (PostG (wsC cy nt ad) D A) A) 0 0 A := by
  unfold vv_X6_joined at hd
  refine Met.ofW (cc := cX6_joined) (maxL := 3) (ret := (some .int)) (by decide) rfl ?_
  intro p e s m args below meth c s₁ B hml hv
  obtain ⟨rfl, ⟨hP, hK0, hD⟩, KX⟩ := hv
  have K : Kx p s m _ meth c cX6_joined 3 RX6 D cy := ⟨B.exec, B.bytes, hml, findClass_of_methodNamed B.named, fun w h => atoms_spec (ws := Cond.code yX6_joined cX6_joined 3 (some .int) :: TT) B.pre w (List.mem_cons_of_mem _ h), hK0, B.notSynchronized⟩
  have hw : Wd D A s.heap (wsC cy nt ad g0) s.heap [] := ⟨hP, hD, va_S.rf⟩
  have hr := B.returns
  have hl := lv_entry ([.int x0, .int x1, .int x2]) (n := 3) (Nat.le_of_ble_eq_true rfl)
  rw [lg_entry_eq]
  generalize (lg_sl ([.int x0, .int x1, .int x2]) ++ List.replicate (3 - (lg_sl ([.int x0, .int x1, .int x2])).length) Slot.unset).toArray = ls at hl ⊢
  have hl : lv_has ls 3 [(0, .int x0), (1, .int x1), (2, .int x2)] := hl
  refine lv_iload_n K.1 K.2.1 dX6_joined_0 rfl (lv_at hl 0 rfl) ?_
  rcases Classical.em (x0 = (20000 : Int32)) with h_2 | h_2
  · have hd := hd.1 h_2
    refine lv_tableIn (tgt := 40) K.1 K.2.1 dX6_joined_1 (by rw [h_2]; decide) (by rw [h_2]; decide) (off := 39) (by rw [h_2]; rfl) (by decide) ?_
    refine lv_iload_n K.1 K.2.1 dX6_joined_40 rfl (lv_at hl 1 rfl) ?_
    refine lv_if_ne (tgt := 48) K.1 K.2.1 dX6_joined_41 (by decide) (fun h_3 => ?_) (fun h_3 => ?_)
    · have hd := hd.1 h_3
      exact bb_X6_joined_48 K KX hr    g0 _ _ _  hd hw (lv_sub hl [] rfl)
    · have hd := hd.2 h_3
      refine lv_iload_n K.1 K.2.1 dX6_joined_44 rfl (lv_at hl 2 rfl) ?_
      refine lv_if_eq (tgt := 52) K.1 K.2.1 dX6_joined_45 (by decide) (fun h_4 => ?_) (fun h_4 => ?_)
      · have hd := hd.1 h_4
        refine lv_iconst (v := (0 : Int32)) K.1 K.2.1 dX6_joined_52 (by decide) ?_
        exact rk_iret K hw hr hd dX6_joined_53
      · have hd := hd.2 h_4
        exact bb_X6_joined_48 K KX hr    g0 _ _ _  hd hw (lv_sub hl [] rfl)
  rcases Classical.em (x0 = (20001 : Int32)) with h_5 | h_5
  · have hd := hd.2.1 h_5
    refine lv_tableIn (tgt := 54) K.1 K.2.1 dX6_joined_1 (by rw [h_5]; decide) (by rw [h_5]; decide) (off := 53) (by rw [h_5]; rfl) (by decide) ?_
    refine lv_iload_n K.1 K.2.1 dX6_joined_54 rfl (lv_at hl 1 rfl) ?_
    refine lv_if_eq (tgt := 66) K.1 K.2.1 dX6_joined_55 (by decide) (fun h_6 => ?_) (fun h_6 => ?_)
    · have hd := hd.1 h_6
      refine lv_iconst (v := (0 : Int32)) K.1 K.2.1 dX6_joined_66 (by decide) ?_
      exact rk_iret K hw hr hd dX6_joined_67
    · have hd := hd.2 h_6
      refine lv_iload_n K.1 K.2.1 dX6_joined_58 rfl (lv_at hl 2 rfl) ?_
      refine lv_if_eq (tgt := 66) K.1 K.2.1 dX6_joined_59 (by decide) (fun h_7 => ?_) (fun h_7 => ?_)
      · have hd := hd.1 h_7
        refine lv_iconst (v := (0 : Int32)) K.1 K.2.1 dX6_joined_66 (by decide) ?_
        exact rk_iret K hw hr hd dX6_joined_67
      · have hd := hd.2 h_7
        refine lv_iconst (v := (1 : Int32)) K.1 K.2.1 dX6_joined_62 (by decide) ?_
        refine lv_goto (tgt := 67) K.1 K.2.1 dX6_joined_63 (by decide) ?_
        exact rk_iret K hw hr hd dX6_joined_67
  rcases Classical.em (x0 = (20002 : Int32)) with h_8 | h_8
  · have hd := hd.2.2.1 h_8
    refine lv_tableIn (tgt := 68) K.1 K.2.1 dX6_joined_1 (by rw [h_8]; decide) (by rw [h_8]; decide) (off := 67) (by rw [h_8]; rfl) (by decide) ?_
    refine lv_iload_n K.1 K.2.1 dX6_joined_68 rfl (lv_at hl 1 rfl) ?_
    refine lv_iload_n K.1 K.2.1 dX6_joined_69 rfl (lv_at hl 2 rfl) ?_
    refine lv_icmp_ge (tgt := 77) K.1 K.2.1 dX6_joined_70 (by decide) (fun h_9 => ?_) (fun h_9 => ?_)
    · have hd := hd.1 h_9
      refine lv_iconst (v := (0 : Int32)) K.1 K.2.1 dX6_joined_77 (by decide) ?_
      exact rk_iret K hw hr hd dX6_joined_78
    · have hd := hd.2 h_9
      refine lv_iconst (v := (1 : Int32)) K.1 K.2.1 dX6_joined_73 (by decide) ?_
      refine lv_goto (tgt := 78) K.1 K.2.1 dX6_joined_74 (by decide) ?_
      exact rk_iret K hw hr hd dX6_joined_78
  rcases Classical.em (x0 = (20003 : Int32)) with h_10 | h_10
  · have hd := hd.2.2.2.1 h_10
    refine lv_tableIn (tgt := 79) K.1 K.2.1 dX6_joined_1 (by rw [h_10]; decide) (by rw [h_10]; decide) (off := 78) (by rw [h_10]; rfl) (by decide) ?_
    refine lv_iload_n K.1 K.2.1 dX6_joined_79 rfl (lv_at hl 1 rfl) ?_
    refine lv_iload_n K.1 K.2.1 dX6_joined_80 rfl (lv_at hl 2 rfl) ?_
    refine lv_icmp_ne (tgt := 88) K.1 K.2.1 dX6_joined_81 (by decide) (fun h_11 => ?_) (fun h_11 => ?_)
    · have hd := hd.1 h_11
      refine lv_iconst (v := (0 : Int32)) K.1 K.2.1 dX6_joined_88 (by decide) ?_
      exact rk_iret K hw hr hd dX6_joined_89
    · have hd := hd.2 h_11
      refine lv_iconst (v := (1 : Int32)) K.1 K.2.1 dX6_joined_84 (by decide) ?_
      refine lv_goto (tgt := 89) K.1 K.2.1 dX6_joined_85 (by decide) ?_
      exact rk_iret K hw hr hd dX6_joined_89
  rcases Classical.em (x0 = (20004 : Int32)) with h_12 | h_12
  · have hd := hd.2.2.2.2.1 h_12
    refine lv_tableIn (tgt := 90) K.1 K.2.1 dX6_joined_1 (by rw [h_12]; decide) (by rw [h_12]; decide) (off := 89) (by rw [h_12]; rfl) (by decide) ?_
    refine lv_iload_n K.1 K.2.1 dX6_joined_90 rfl (lv_at hl 1 rfl) ?_
    refine lv_iload_n K.1 K.2.1 dX6_joined_91 rfl (lv_at hl 2 rfl) ?_
    refine lv_iadd K.1 K.2.1 dX6_joined_92 ?_
    exact rk_iret K hw hr hd dX6_joined_93
  rcases Classical.em (x0 = (20005 : Int32)) with h_13 | h_13
  · have hd := hd.2.2.2.2.2.1 h_13
    refine lv_tableIn (tgt := 94) K.1 K.2.1 dX6_joined_1 (by rw [h_13]; decide) (by rw [h_13]; decide) (off := 93) (by rw [h_13]; rfl) (by decide) ?_
    refine lv_iload_n K.1 K.2.1 dX6_joined_94 rfl (lv_at hl 1 rfl) ?_
    refine lv_iload_n K.1 K.2.1 dX6_joined_95 rfl (lv_at hl 2 rfl) ?_
    refine lv_isub K.1 K.2.1 dX6_joined_96 ?_
    exact rk_iret K hw hr hd dX6_joined_97
  have hd := hd.2.2.2.2.2.2 h_2 h_5 h_8 h_10 h_12 h_13
  have qh_2 := lv_neT (k := (20000 : Int32)) (a := 20000) h_2 (by decide)
  have qh_5 := lv_neT (k := (20001 : Int32)) (a := 20001) h_5 (by decide)
  have qh_8 := lv_neT (k := (20002 : Int32)) (a := 20002) h_8 (by decide)
  have qh_10 := lv_neT (k := (20003 : Int32)) (a := 20003) h_10 (by decide)
  have qh_12 := lv_neT (k := (20004 : Int32)) (a := 20004) h_12 (by decide)
  have qh_13 := lv_neT (k := (20005 : Int32)) (a := 20005) h_13 (by decide)
  refine lv_tableOut (tgt := 98) K.1 K.2.1 dX6_joined_1 (by omega) (by decide) ?_
  refine lv_iload_n K.1 K.2.1 dX6_joined_98 rfl (lv_at hl 1 rfl) ?_
  refine lv_iload_n K.1 K.2.1 dX6_joined_99 rfl (lv_at hl 2 rfl) ?_
  refine lv_imul K.1 K.2.1 dX6_joined_100 ?_
  exact rk_iret K hw hr hd dX6_joined_101
theorem dX6_value_0 : decode cX6_value 0 = .ok (.iload_n 1, 1) := by decide +kernel
theorem dX6_value_1 : decode cX6_value 1 = .ok (.ifCond .ne 7, 3) := by decide +kernel
theorem dX6_value_4 : decode cX6_value 4 = .ok (.iconst 0, 1) := by decide +kernel
theorem dX6_value_5 : decode cX6_value 5 = .ok (.goto 19, 3) := by decide +kernel
theorem dX6_value_8 : decode cX6_value 8 = .ok (.iload_n 1, 1) := by decide +kernel
theorem dX6_value_9 : decode cX6_value 9 = .ok (.iconst 1, 1) := by decide +kernel
theorem dX6_value_10 : decode cX6_value 10 = .ok (.if_icmp .ne 10, 3) := by decide +kernel
theorem dX6_value_13 : decode cX6_value 13 = .ok (.aload_n 0, 1) := by decide +kernel
theorem dX6_value_14 : decode cX6_value 14 = .ok (.getfield 15, 3) := by decide +kernel
theorem dX6_value_17 : decode cX6_value 17 = .ok (.goto 7, 3) := by decide +kernel
theorem dX6_value_20 : decode cX6_value 20 = .ok (.aload_n 0, 1) := by decide +kernel
theorem dX6_value_21 : decode cX6_value 21 = .ok (.getfield 19, 3) := by decide +kernel
theorem dX6_value_24 : decode cX6_value 24 = .ok (.istore 5, 2) := by decide +kernel
theorem dX6_value_26 : decode cX6_value 26 = .ok (.iload_n 1, 1) := by decide +kernel
theorem dX6_value_27 : decode cX6_value 27 = .ok (.ifCond .ne 10, 3) := by decide +kernel
theorem dX6_value_30 : decode cX6_value 30 = .ok (.aload_n 0, 1) := by decide +kernel
theorem dX6_value_31 : decode cX6_value 31 = .ok (.getfield 15, 3) := by decide +kernel
theorem dX6_value_34 : decode cX6_value 34 = .ok (.goto 20, 3) := by decide +kernel
theorem dX6_value_37 : decode cX6_value 37 = .ok (.iload_n 1, 1) := by decide +kernel
theorem dX6_value_38 : decode cX6_value 38 = .ok (.iconst 1, 1) := by decide +kernel
theorem dX6_value_39 : decode cX6_value 39 = .ok (.if_icmp .ne 10, 3) := by decide +kernel
theorem dX6_value_42 : decode cX6_value 42 = .ok (.aload_n 0, 1) := by decide +kernel
theorem dX6_value_43 : decode cX6_value 43 = .ok (.getfield 19, 3) := by decide +kernel
theorem dX6_value_46 : decode cX6_value 46 = .ok (.goto 8, 3) := by decide +kernel
theorem dX6_value_49 : decode cX6_value 49 = .ok (.aload_n 0, 1) := by decide +kernel
theorem dX6_value_50 : decode cX6_value 50 = .ok (.getfield 9, 3) := by decide +kernel
theorem dX6_value_53 : decode cX6_value 53 = .ok (.arraylength, 1) := by decide +kernel
theorem dX6_value_54 : decode cX6_value 54 = .ok (.istore 6, 2) := by decide +kernel
theorem dX6_value_56 : decode cX6_value 56 = .ok (.iconst 0, 1) := by decide +kernel
theorem dX6_value_57 : decode cX6_value 57 = .ok (.istore 7, 2) := by decide +kernel
theorem dX6_value_59 : decode cX6_value 59 = .ok (.iload 5, 2) := by decide +kernel
theorem dX6_value_61 : decode cX6_value 61 = .ok (.istore 8, 2) := by decide +kernel
theorem dX6_value_63 : decode cX6_value 63 = .ok (.iload 8, 2) := by decide +kernel
theorem dX6_value_65 : decode cX6_value 65 = .ok (.ifCond .lt 202, 3) := by decide +kernel
theorem dX6_value_68 : decode cX6_value 68 = .ok (.iload 8, 2) := by decide +kernel
theorem dX6_value_70 : decode cX6_value 70 = .ok (.iload 6, 2) := by decide +kernel
theorem dX6_value_72 : decode cX6_value 72 = .ok (.if_icmp .ge 195, 3) := by decide +kernel
theorem dX6_value_75 : decode cX6_value 75 = .ok (.iload 8, 2) := by decide +kernel
theorem dX6_value_77 : decode cX6_value 77 = .ok (.aload_n 0, 1) := by decide +kernel
theorem dX6_value_78 : decode cX6_value 78 = .ok (.getfield 9, 3) := by decide +kernel
theorem dX6_value_81 : decode cX6_value 81 = .ok (.arraylength, 1) := by decide +kernel
theorem dX6_value_82 : decode cX6_value 82 = .ok (.if_icmp .ge 185, 3) := by decide +kernel
theorem dX6_value_85 : decode cX6_value 85 = .ok (.aload_n 0, 1) := by decide +kernel
theorem dX6_value_86 : decode cX6_value 86 = .ok (.getfield 9, 3) := by decide +kernel
theorem dX6_value_89 : decode cX6_value 89 = .ok (.iload 8, 2) := by decide +kernel
theorem dX6_value_91 : decode cX6_value 91 = .ok (.iaload, 1) := by decide +kernel
theorem dX6_value_92 : decode cX6_value 92 = .ok (.istore 9, 2) := by decide +kernel
theorem dX6_value_94 : decode cX6_value 94 = .ok (.iload 9, 2) := by decide +kernel
theorem dX6_value_96 : decode cX6_value 96 = .ok (.sipush 20000, 3) := by decide +kernel
theorem dX6_value_99 : decode cX6_value 99 = .ok (.if_icmp .ge 52, 3) := by decide +kernel
theorem dX6_value_102 : decode cX6_value 102 = .ok (.iload 7, 2) := by decide +kernel
theorem dX6_value_104 : decode cX6_value 104 = .ok (.aload_n 0, 1) := by decide +kernel
theorem dX6_value_105 : decode cX6_value 105 = .ok (.getfield 22, 3) := by decide +kernel
theorem dX6_value_108 : decode cX6_value 108 = .ok (.arraylength, 1) := by decide +kernel
theorem dX6_value_109 : decode cX6_value 109 = .ok (.if_icmp .ge 152, 3) := by decide +kernel
theorem dX6_value_112 : decode cX6_value 112 = .ok (.aload_n 0, 1) := by decide +kernel
theorem dX6_value_113 : decode cX6_value 113 = .ok (.getfield 22, 3) := by decide +kernel
theorem dX6_value_116 : decode cX6_value 116 = .ok (.iload 7, 2) := by decide +kernel
theorem dX6_value_118 : decode cX6_value 118 = .ok (.iload 9, 2) := by decide +kernel
theorem dX6_value_120 : decode cX6_value 120 = .ok (.sipush 10000, 3) := by decide +kernel
theorem dX6_value_123 : decode cX6_value 123 = .ok (.if_icmp .ge 8, 3) := by decide +kernel
theorem dX6_value_126 : decode cX6_value 126 = .ok (.iload 9, 2) := by decide +kernel
theorem dX6_value_128 : decode cX6_value 128 = .ok (.goto 16, 3) := by decide +kernel
theorem dX6_value_131 : decode cX6_value 131 = .ok (.iload 9, 2) := by decide +kernel
theorem dX6_value_133 : decode cX6_value 133 = .ok (.sipush 10000, 3) := by decide +kernel
theorem dX6_value_136 : decode cX6_value 136 = .ok (.isub, 1) := by decide +kernel
theorem dX6_value_137 : decode cX6_value 137 = .ok (.aload_n 2, 1) := by decide +kernel
theorem dX6_value_138 : decode cX6_value 138 = .ok (.iload_n 3, 1) := by decide +kernel
theorem dX6_value_139 : decode cX6_value 139 = .ok (.iload 4, 2) := by decide +kernel
theorem dX6_value_141 : decode cX6_value 141 = .ok (.invokestatic 25, 3) := by decide +kernel
theorem dX6_value_144 : decode cX6_value 144 = .ok (.iastore, 1) := by decide +kernel
theorem dX6_value_145 : decode cX6_value 145 = .ok (.iinc 7 1, 3) := by decide +kernel
theorem dX6_value_148 : decode cX6_value 148 = .ok (.goto 113, 3) := by decide +kernel
theorem dX6_value_151 : decode cX6_value 151 = .ok (.iload 9, 2) := by decide +kernel
theorem dX6_value_153 : decode cX6_value 153 = .ok (.sipush 20007, 3) := by decide +kernel
theorem dX6_value_156 : decode cX6_value 156 = .ok (.if_icmp .eq 11, 3) := by decide +kernel
theorem dX6_value_159 : decode cX6_value 159 = .ok (.iload 9, 2) := by decide +kernel
theorem dX6_value_161 : decode cX6_value 161 = .ok (.sipush 20008, 3) := by decide +kernel
theorem dX6_value_164 : decode cX6_value 164 = .ok (.if_icmp .ne 58, 3) := by decide +kernel
theorem dX6_value_167 : decode cX6_value 167 = .ok (.iload 7, 2) := by decide +kernel
theorem dX6_value_169 : decode cX6_value 169 = .ok (.ifCond .le 92, 3) := by decide +kernel
theorem dX6_value_172 : decode cX6_value 172 = .ok (.aload_n 0, 1) := by decide +kernel
theorem dX6_value_173 : decode cX6_value 173 = .ok (.getfield 22, 3) := by decide +kernel
theorem dX6_value_176 : decode cX6_value 176 = .ok (.iload 7, 2) := by decide +kernel
theorem dX6_value_178 : decode cX6_value 178 = .ok (.iconst 1, 1) := by decide +kernel
theorem dX6_value_179 : decode cX6_value 179 = .ok (.isub, 1) := by decide +kernel
theorem dX6_value_180 : decode cX6_value 180 = .ok (.iload 9, 2) := by decide +kernel
theorem dX6_value_182 : decode cX6_value 182 = .ok (.sipush 20008, 3) := by decide +kernel
theorem dX6_value_185 : decode cX6_value 185 = .ok (.if_icmp .ne 16, 3) := by decide +kernel
theorem dX6_value_188 : decode cX6_value 188 = .ok (.aload_n 0, 1) := by decide +kernel
theorem dX6_value_189 : decode cX6_value 189 = .ok (.getfield 22, 3) := by decide +kernel
theorem dX6_value_192 : decode cX6_value 192 = .ok (.iload 7, 2) := by decide +kernel
theorem dX6_value_194 : decode cX6_value 194 = .ok (.iconst 1, 1) := by decide +kernel
theorem dX6_value_195 : decode cX6_value 195 = .ok (.isub, 1) := by decide +kernel
theorem dX6_value_196 : decode cX6_value 196 = .ok (.iaload, 1) := by decide +kernel
theorem dX6_value_197 : decode cX6_value 197 = .ok (.ineg, 1) := by decide +kernel
theorem dX6_value_198 : decode cX6_value 198 = .ok (.goto 20, 3) := by decide +kernel
theorem dX6_value_201 : decode cX6_value 201 = .ok (.aload_n 0, 1) := by decide +kernel
theorem dX6_value_202 : decode cX6_value 202 = .ok (.getfield 22, 3) := by decide +kernel
theorem dX6_value_205 : decode cX6_value 205 = .ok (.iload 7, 2) := by decide +kernel
theorem dX6_value_207 : decode cX6_value 207 = .ok (.iconst 1, 1) := by decide +kernel
theorem dX6_value_208 : decode cX6_value 208 = .ok (.isub, 1) := by decide +kernel
theorem dX6_value_209 : decode cX6_value 209 = .ok (.iaload, 1) := by decide +kernel
theorem dX6_value_210 : decode cX6_value 210 = .ok (.ifCond .ne 7, 3) := by decide +kernel
theorem dX6_value_213 : decode cX6_value 213 = .ok (.iconst 1, 1) := by decide +kernel
theorem dX6_value_214 : decode cX6_value 214 = .ok (.goto 4, 3) := by decide +kernel
theorem dX6_value_217 : decode cX6_value 217 = .ok (.iconst 0, 1) := by decide +kernel
theorem dX6_value_218 : decode cX6_value 218 = .ok (.iastore, 1) := by decide +kernel
theorem dX6_value_219 : decode cX6_value 219 = .ok (.goto 42, 3) := by decide +kernel
theorem dX6_value_222 : decode cX6_value 222 = .ok (.iload 7, 2) := by decide +kernel
theorem dX6_value_224 : decode cX6_value 224 = .ok (.iconst 1, 1) := by decide +kernel
theorem dX6_value_225 : decode cX6_value 225 = .ok (.if_icmp .le 36, 3) := by decide +kernel
theorem dX6_value_228 : decode cX6_value 228 = .ok (.iinc 7 (-1), 3) := by decide +kernel
theorem dX6_value_231 : decode cX6_value 231 = .ok (.aload_n 0, 1) := by decide +kernel
theorem dX6_value_232 : decode cX6_value 232 = .ok (.getfield 22, 3) := by decide +kernel
theorem dX6_value_235 : decode cX6_value 235 = .ok (.iload 7, 2) := by decide +kernel
theorem dX6_value_237 : decode cX6_value 237 = .ok (.iconst 1, 1) := by decide +kernel
theorem dX6_value_238 : decode cX6_value 238 = .ok (.isub, 1) := by decide +kernel
theorem dX6_value_239 : decode cX6_value 239 = .ok (.iload 9, 2) := by decide +kernel
theorem dX6_value_241 : decode cX6_value 241 = .ok (.aload_n 0, 1) := by decide +kernel
theorem dX6_value_242 : decode cX6_value 242 = .ok (.getfield 22, 3) := by decide +kernel
theorem dX6_value_245 : decode cX6_value 245 = .ok (.iload 7, 2) := by decide +kernel
theorem dX6_value_247 : decode cX6_value 247 = .ok (.iconst 1, 1) := by decide +kernel
theorem dX6_value_248 : decode cX6_value 248 = .ok (.isub, 1) := by decide +kernel
theorem dX6_value_249 : decode cX6_value 249 = .ok (.iaload, 1) := by decide +kernel
theorem dX6_value_250 : decode cX6_value 250 = .ok (.aload_n 0, 1) := by decide +kernel
theorem dX6_value_251 : decode cX6_value 251 = .ok (.getfield 22, 3) := by decide +kernel
theorem dX6_value_254 : decode cX6_value 254 = .ok (.iload 7, 2) := by decide +kernel
theorem dX6_value_256 : decode cX6_value 256 = .ok (.iaload, 1) := by decide +kernel
theorem dX6_value_257 : decode cX6_value 257 = .ok (.invokestatic 29, 3) := by decide +kernel
theorem dX6_value_260 : decode cX6_value 260 = .ok (.iastore, 1) := by decide +kernel
theorem dX6_value_261 : decode cX6_value 261 = .ok (.iinc 8 1, 3) := by decide +kernel
theorem dX6_value_264 : decode cX6_value 264 = .ok (.goto (-201), 3) := by decide +kernel
theorem dX6_value_267 : decode cX6_value 267 = .ok (.iload 7, 2) := by decide +kernel
theorem dX6_value_269 : decode cX6_value 269 = .ok (.ifCond .le 15, 3) := by decide +kernel
theorem dX6_value_272 : decode cX6_value 272 = .ok (.aload_n 0, 1) := by decide +kernel
theorem dX6_value_273 : decode cX6_value 273 = .ok (.getfield 22, 3) := by decide +kernel
theorem dX6_value_276 : decode cX6_value 276 = .ok (.iload 7, 2) := by decide +kernel
theorem dX6_value_278 : decode cX6_value 278 = .ok (.iconst 1, 1) := by decide +kernel
theorem dX6_value_279 : decode cX6_value 279 = .ok (.isub, 1) := by decide +kernel
theorem dX6_value_280 : decode cX6_value 280 = .ok (.iaload, 1) := by decide +kernel
theorem dX6_value_281 : decode cX6_value 281 = .ok (.goto 4, 3) := by decide +kernel
theorem dX6_value_284 : decode cX6_value 284 = .ok (.iconst 0, 1) := by decide +kernel
theorem dX6_value_285 : decode cX6_value 285 = .ok (.ireturn, 1) := by decide +kernel
set_option maxHeartbeats 4000000 in
set_option maxRecDepth 100000 in
theorem bb_X6_value_267 {p : Program} {l : Launch} {e : Env} {s : State} {m : MethodId} {args : Array Value} {below : List Frame} {meth : Method} {c : Code} {D : va_G} {cy : Nat → ClassId} {nt : Nat} {ad : Nat → Nat} {A : Nat → Prop} {X : Nat → Nat} {Q : Int32 → Sg → Prop} (K : Kx p s m args meth c cX6_value 10 RX6 D cy) (KX : XC X A s s.heap) (hr : meth.sig.returnType = (some .int))  (x0 : Nat) (x7 : Int32)  (g0 : Sg) (H : Heap) (locs : List Loc) (ls : Array Slot) (hq_x0 : isT nt x0) (hd : vv_X6_value_J267 nt x0 x7 g0 Q) (hw : Wd D A s.heap (wsC cy nt ad g0) H locs) (hl : lv_has ls 10 [(0, .ref (ad x0)), (7, .int x7)]) : W p l e (rmD 2) s m args below meth c H locs 0 0 (MQ below (va_Qi Q (PostG (wsC cy nt ad) D A) A) args s 0 0 A) (F0 m 267 ls []) := by
  unfold vv_X6_value_J267 at hd
  refine lv_iload K.1 K.2.1 dX6_value_267 (lv_at hl 1 rfl) ?_
  refine lv_if_le (tgt := 284) K.1 K.2.1 dX6_value_269 (by decide) (fun h_10 => ?_) (fun h_10 => ?_)
  · have hd := hd.1 h_10
    refine lv_iconst (v := (0 : Int32)) K.1 K.2.1 dX6_value_284 (by decide) ?_
    exact rk_iret K hw hr hd dX6_value_285
  · have hd := hd.2 h_10
    refine lv_aload_n K.1 K.2.1 dX6_value_272 rfl (lv_at hl 0 rfl) ?_
    refine rc_get layX6 (ci := 6) rfl 1 (by decide) (v := .ref (ad (x0 + 2))) K hw (wc_T cy nt ad _ hq_x0) kf_X6_22 rfl dX6_value_273 ?_
    refine lv_iload K.1 K.2.1 dX6_value_276 (lv_at hl 1 rfl) ?_
    refine lv_iconst (v := (1 : Int32)) K.1 K.2.1 dX6_value_278 (by decide) ?_
    refine lv_isub K.1 K.2.1 dX6_value_279 ?_
    have hb := hd.1
    have hd := hd.2
    refine rc_iald K hw (wc_TS cy nt ad _ hq_x0) hb dX6_value_280 ?_
    refine lv_goto (tgt := 285) K.1 K.2.1 dX6_value_281 (by decide) ?_
    exact rk_iret K hw hr hd dX6_value_285
set_option maxHeartbeats 4000000 in
set_option maxRecDepth 100000 in
theorem bb_X6_value_261 {p : Program} {l : Launch} {e : Env} {s : State} {m : MethodId} {args : Array Value} {below : List Frame} {meth : Method} {c : Code} {D : va_G} {cy : Nat → ClassId} {nt : Nat} {ad : Nat → Nat} {A : Nat → Prop} {X : Nat → Nat} {Q : Int32 → Sg → Prop} (K : Kx p s m args meth c cX6_value 10 RX6 D cy) (KX : XC X A s s.heap) (hr : meth.sig.returnType = (some .int))  {rc63 : Nat → Nat → Int32 → Int32 → Int32 → Int32 → Int32 → Sg → Prop} (hrc63 : ∀ (x0 : Nat) (x2 : Nat) (x3 : Int32) (x4 : Int32) (x6 : Int32) (x7 : Int32) (x8 : Int32) (u : Sg) (H : Heap) (locs : List Loc) (ls : Array Slot), isT nt x0 → isP x2 → rc63 x0 x2 x3 x4 x6 x7 x8 u → Wd D A s.heap (wsC cy nt ad u) H locs → lv_has ls 10 [(0, .ref (ad x0)), (2, .ref (ad x2)), (3, .int x3), (4, .int x4), (6, .int x6), (7, .int x7), (8, .int x8)] → W p l e (rmD 2) s m args below meth c H locs 0 0 (MQ below (va_Qi Q (PostG (wsC cy nt ad) D A) A) args s 0 0 A) (F0 m 63 ls [])) (x0 : Nat) (x2 : Nat) (x3 : Int32) (x4 : Int32) (x6 : Int32) (x7 : Int32) (x8 : Int32)  (g0 : Sg) (H : Heap) (locs : List Loc) (ls : Array Slot) (hq_x0 : isT nt x0) (hq_x2 : isP x2) (hd : vv_X6_value_J261 nt rc63 x0 x2 x3 x4 x6 x7 x8 g0 Q) (hw : Wd D A s.heap (wsC cy nt ad g0) H locs) (hl : lv_has ls 10 [(0, .ref (ad x0)), (2, .ref (ad x2)), (3, .int x3), (4, .int x4), (6, .int x6), (7, .int x7), (8, .int x8)]) : W p l e (rmD 2) s m args below meth c H locs 0 0 (MQ below (va_Qi Q (PostG (wsC cy nt ad) D A) A) args s 0 0 A) (F0 m 261 ls []) := by
  unfold vv_X6_value_J261 at hd
  obtain ⟨x8_17, ex8_17⟩ : ∃ y : Int32, y = x8 + (1 : Int32) := ⟨_, rfl⟩
  have hd := hd x8_17 ex8_17
  refine lv_iinc (v := x8_17) (lv' := [(8, .int x8_17), (0, .ref (ad x0)), (2, .ref (ad x2)), (3, .int x3), (4, .int x4), (6, .int x6), (7, .int x7)]) K.1 K.2.1 dX6_value_261 hl (k := 6) rfl (by rw [ex8_17]; rfl) (by decide) rfl (fun ls hl => ?_)
  refine lv_goto (tgt := 63) K.1 K.2.1 dX6_value_264 (by decide) ?_
  exact hrc63 x0 x2 x3 x4 x6 x7 x8_17 g0 _ _ _ hq_x0 hq_x2 hd hw (lv_sub hl [1, 2, 3, 4, 5, 6, 0] rfl)
set_option maxHeartbeats 4000000 in
set_option maxRecDepth 100000 in
theorem bb_X6_value_218 {p : Program} {l : Launch} {e : Env} {s : State} {m : MethodId} {args : Array Value} {below : List Frame} {meth : Method} {c : Code} {D : va_G} {cy : Nat → ClassId} {nt : Nat} {ad : Nat → Nat} {A : Nat → Prop} {X : Nat → Nat} {Q : Int32 → Sg → Prop} (K : Kx p s m args meth c cX6_value 10 RX6 D cy) (KX : XC X A s s.heap) (hr : meth.sig.returnType = (some .int))  {rc63 : Nat → Nat → Int32 → Int32 → Int32 → Int32 → Int32 → Sg → Prop} (hrc63 : ∀ (x0 : Nat) (x2 : Nat) (x3 : Int32) (x4 : Int32) (x6 : Int32) (x7 : Int32) (x8 : Int32) (u : Sg) (H : Heap) (locs : List Loc) (ls : Array Slot), isT nt x0 → isP x2 → rc63 x0 x2 x3 x4 x6 x7 x8 u → Wd D A s.heap (wsC cy nt ad u) H locs → lv_has ls 10 [(0, .ref (ad x0)), (2, .ref (ad x2)), (3, .int x3), (4, .int x4), (6, .int x6), (7, .int x7), (8, .int x8)] → W p l e (rmD 2) s m args below meth c H locs 0 0 (MQ below (va_Qi Q (PostG (wsC cy nt ad) D A) A) args s 0 0 A) (F0 m 63 ls [])) (x0 : Nat) (x2 : Nat) (x3 : Int32) (x4 : Int32) (x6 : Int32) (x7 : Int32) (x8 : Int32) (t0 : Nat) (t1 : Int32) (t2 : Int32) (g0 : Sg) (H : Heap) (locs : List Loc) (ls : Array Slot) (hq_x0 : isT nt x0) (hq_x2 : isP x2) (hq_t0 : isT nt t0) (hd : vv_X6_value_J218 nt rc63 x0 x2 x3 x4 x6 x7 x8 t0 t1 t2 g0 Q) (hw : Wd D A s.heap (wsC cy nt ad g0) H locs) (hl : lv_has ls 10 [(0, .ref (ad x0)), (2, .ref (ad x2)), (3, .int x3), (4, .int x4), (6, .int x6), (7, .int x7), (8, .int x8)]) : W p l e (rmD 2) s m args below meth c H locs 0 0 (MQ below (va_Qi Q (PostG (wsC cy nt ad) D A) A) args s 0 0 A) (F0 m 218 ls [.int t2, .int t1, .ref (ad (t0 + 2))]) := by
  unfold vv_X6_value_J218 at hd
  have hb := hd.1
  have hd := hd.2
  refine rc_iast K hw (wc_TS cy nt ad _ hq_t0) (wa_TS cy nt ad _ _ _ hq_t0) hb dX6_value_218 (fun g_20 eg_20 H locs hw => ?_)
  have hd := hd g_20 eg_20
  refine lv_goto (tgt := 261) K.1 K.2.1 dX6_value_219 (by decide) ?_
  exact bb_X6_value_261 K KX hr  hrc63 x0 x2 x3 x4 x6 x7 x8 g_20 _ _ _ hq_x0 hq_x2 hd hw (lv_sub hl [0, 1, 2, 3, 4, 5, 6] rfl)
set_option maxHeartbeats 4000000 in
set_option maxRecDepth 100000 in
theorem bb_X6_value_167 {p : Program} {l : Launch} {e : Env} {s : State} {m : MethodId} {args : Array Value} {below : List Frame} {meth : Method} {c : Code} {D : va_G} {cy : Nat → ClassId} {nt : Nat} {ad : Nat → Nat} {A : Nat → Prop} {X : Nat → Nat} {Q : Int32 → Sg → Prop} (K : Kx p s m args meth c cX6_value 10 RX6 D cy) (KX : XC X A s s.heap) (hr : meth.sig.returnType = (some .int))  {rc63 : Nat → Nat → Int32 → Int32 → Int32 → Int32 → Int32 → Sg → Prop} (hrc63 : ∀ (x0 : Nat) (x2 : Nat) (x3 : Int32) (x4 : Int32) (x6 : Int32) (x7 : Int32) (x8 : Int32) (u : Sg) (H : Heap) (locs : List Loc) (ls : Array Slot), isT nt x0 → isP x2 → rc63 x0 x2 x3 x4 x6 x7 x8 u → Wd D A s.heap (wsC cy nt ad u) H locs → lv_has ls 10 [(0, .ref (ad x0)), (2, .ref (ad x2)), (3, .int x3), (4, .int x4), (6, .int x6), (7, .int x7), (8, .int x8)] → W p l e (rmD 2) s m args below meth c H locs 0 0 (MQ below (va_Qi Q (PostG (wsC cy nt ad) D A) A) args s 0 0 A) (F0 m 63 ls [])) (x0 : Nat) (x2 : Nat) (x3 : Int32) (x4 : Int32) (x6 : Int32) (x7 : Int32) (x8 : Int32) (x9 : Int32)  (g0 : Sg) (H : Heap) (locs : List Loc) (ls : Array Slot) (hq_x0 : isT nt x0) (hq_x2 : isP x2) (hd : vv_X6_value_J167 nt rc63 x0 x2 x3 x4 x6 x7 x8 x9 g0 Q) (hw : Wd D A s.heap (wsC cy nt ad g0) H locs) (hl : lv_has ls 10 [(0, .ref (ad x0)), (2, .ref (ad x2)), (3, .int x3), (4, .int x4), (6, .int x6), (7, .int x7), (8, .int x8), (9, .int x9)]) : W p l e (rmD 2) s m args below meth c H locs 0 0 (MQ below (va_Qi Q (PostG (wsC cy nt ad) D A) A) args s 0 0 A) (F0 m 167 ls []) := by
  unfold vv_X6_value_J167 at hd
  refine lv_iload K.1 K.2.1 dX6_value_167 (lv_at hl 5 rfl) ?_
  refine lv_if_le (tgt := 261) K.1 K.2.1 dX6_value_169 (by decide) (fun h_16 => ?_) (fun h_16 => ?_)
  · have hd := hd.1 h_16
    exact bb_X6_value_261 K KX hr  hrc63 x0 x2 x3 x4 x6 x7 x8 g0 _ _ _ hq_x0 hq_x2 hd hw (lv_sub hl [0, 1, 2, 3, 4, 5, 6] rfl)
  · have hd := hd.2 h_16
    refine lv_aload_n K.1 K.2.1 dX6_value_172 rfl (lv_at hl 0 rfl) ?_
    refine rc_get layX6 (ci := 6) rfl 1 (by decide) (v := .ref (ad (x0 + 2))) K hw (wc_T cy nt ad _ hq_x0) kf_X6_22 rfl dX6_value_173 ?_
    refine lv_iload K.1 K.2.1 dX6_value_176 (lv_at hl 5 rfl) ?_
    refine lv_iconst (v := (1 : Int32)) K.1 K.2.1 dX6_value_178 (by decide) ?_
    refine lv_isub K.1 K.2.1 dX6_value_179 ?_
    refine lv_iload K.1 K.2.1 dX6_value_180 (lv_at hl 7 rfl) ?_
    refine lv_sipush (v := (20008 : Int32)) K.1 K.2.1 dX6_value_182 (by decide) ?_
    refine lv_icmp_ne (tgt := 201) K.1 K.2.1 dX6_value_185 (by decide) (fun h_18 => ?_) (fun h_18 => ?_)
    · have hd := hd.1 h_18
      refine lv_aload_n K.1 K.2.1 dX6_value_201 rfl (lv_at hl 0 rfl) ?_
      refine rc_get layX6 (ci := 6) rfl 1 (by decide) (v := .ref (ad (x0 + 2))) K hw (wc_T cy nt ad _ hq_x0) kf_X6_22 rfl dX6_value_202 ?_
      refine lv_iload K.1 K.2.1 dX6_value_205 (lv_at hl 5 rfl) ?_
      refine lv_iconst (v := (1 : Int32)) K.1 K.2.1 dX6_value_207 (by decide) ?_
      refine lv_isub K.1 K.2.1 dX6_value_208 ?_
      have hb := hd.1
      have hd := hd.2
      refine rc_iald K hw (wc_TS cy nt ad _ hq_x0) hb dX6_value_209 ?_
      refine lv_if_ne (tgt := 217) K.1 K.2.1 dX6_value_210 (by decide) (fun h_19 => ?_) (fun h_19 => ?_)
      · have hd := hd.1 h_19
        refine lv_iconst (v := (0 : Int32)) K.1 K.2.1 dX6_value_217 (by decide) ?_
        exact bb_X6_value_218 K KX hr  hrc63 x0 x2 x3 x4 x6 x7 x8 x0 (x7 - (1 : Int32)) (0 : Int32) g0 _ _ _ hq_x0 hq_x2 hq_x0 hd hw (lv_sub hl [0, 1, 2, 3, 4, 5, 6] rfl)
      · have hd := hd.2 h_19
        refine lv_iconst (v := (1 : Int32)) K.1 K.2.1 dX6_value_213 (by decide) ?_
        refine lv_goto (tgt := 218) K.1 K.2.1 dX6_value_214 (by decide) ?_
        exact bb_X6_value_218 K KX hr  hrc63 x0 x2 x3 x4 x6 x7 x8 x0 (x7 - (1 : Int32)) (1 : Int32) g0 _ _ _ hq_x0 hq_x2 hq_x0 hd hw (lv_sub hl [0, 1, 2, 3, 4, 5, 6] rfl)
    · have hd := hd.2 h_18
      refine lv_aload_n K.1 K.2.1 dX6_value_188 rfl (lv_at hl 0 rfl) ?_
      refine rc_get layX6 (ci := 6) rfl 1 (by decide) (v := .ref (ad (x0 + 2))) K hw (wc_T cy nt ad _ hq_x0) kf_X6_22 rfl dX6_value_189 ?_
      refine lv_iload K.1 K.2.1 dX6_value_192 (lv_at hl 5 rfl) ?_
      refine lv_iconst (v := (1 : Int32)) K.1 K.2.1 dX6_value_194 (by decide) ?_
      refine lv_isub K.1 K.2.1 dX6_value_195 ?_
      have hb := hd.1
      have hd := hd.2
      refine rc_iald K hw (wc_TS cy nt ad _ hq_x0) hb dX6_value_196 ?_
      refine lv_ineg K.1 K.2.1 dX6_value_197 ?_
      refine lv_goto (tgt := 218) K.1 K.2.1 dX6_value_198 (by decide) ?_
      exact bb_X6_value_218 K KX hr  hrc63 x0 x2 x3 x4 x6 x7 x8 x0 (x7 - (1 : Int32)) (-(g0 (x0 + 2) (x7 - (1 : Int32)).toNatClampNeg)) g0 _ _ _ hq_x0 hq_x2 hq_x0 hd hw (lv_sub hl [0, 1, 2, 3, 4, 5, 6] rfl)
set_option maxHeartbeats 4000000 in
set_option maxRecDepth 100000 in
theorem bb_X6_value_144 {p : Program} {l : Launch} {e : Env} {s : State} {m : MethodId} {args : Array Value} {below : List Frame} {meth : Method} {c : Code} {D : va_G} {cy : Nat → ClassId} {nt : Nat} {ad : Nat → Nat} {A : Nat → Prop} {X : Nat → Nat} {Q : Int32 → Sg → Prop} (K : Kx p s m args meth c cX6_value 10 RX6 D cy) (KX : XC X A s s.heap) (hr : meth.sig.returnType = (some .int))  {rc63 : Nat → Nat → Int32 → Int32 → Int32 → Int32 → Int32 → Sg → Prop} (hrc63 : ∀ (x0 : Nat) (x2 : Nat) (x3 : Int32) (x4 : Int32) (x6 : Int32) (x7 : Int32) (x8 : Int32) (u : Sg) (H : Heap) (locs : List Loc) (ls : Array Slot), isT nt x0 → isP x2 → rc63 x0 x2 x3 x4 x6 x7 x8 u → Wd D A s.heap (wsC cy nt ad u) H locs → lv_has ls 10 [(0, .ref (ad x0)), (2, .ref (ad x2)), (3, .int x3), (4, .int x4), (6, .int x6), (7, .int x7), (8, .int x8)] → W p l e (rmD 2) s m args below meth c H locs 0 0 (MQ below (va_Qi Q (PostG (wsC cy nt ad) D A) A) args s 0 0 A) (F0 m 63 ls [])) (x0 : Nat) (x2 : Nat) (x3 : Int32) (x4 : Int32) (x6 : Int32) (x7 : Int32) (x8 : Int32) (t0 : Nat) (t1 : Int32) (t2 : Int32) (g0 : Sg) (H : Heap) (locs : List Loc) (ls : Array Slot) (hq_x0 : isT nt x0) (hq_x2 : isP x2) (hq_t0 : isT nt t0) (hd : vv_X6_value_J144 nt rc63 x0 x2 x3 x4 x6 x7 x8 t0 t1 t2 g0 Q) (hw : Wd D A s.heap (wsC cy nt ad g0) H locs) (hl : lv_has ls 10 [(0, .ref (ad x0)), (2, .ref (ad x2)), (3, .int x3), (4, .int x4), (6, .int x6), (7, .int x7), (8, .int x8)]) : W p l e (rmD 2) s m args below meth c H locs 0 0 (MQ below (va_Qi Q (PostG (wsC cy nt ad) D A) A) args s 0 0 A) (F0 m 144 ls [.int t2, .int t1, .ref (ad (t0 + 2))]) := by
  unfold vv_X6_value_J144 at hd
  have hb := hd.1
  have hd := hd.2
  refine rc_iast K hw (wc_TS cy nt ad _ hq_t0) (wa_TS cy nt ad _ _ _ hq_t0) hb dX6_value_144 (fun g_31 eg_31 H locs hw => ?_)
  have hd := hd g_31 eg_31
  obtain ⟨x7_32, ex7_32⟩ : ∃ y : Int32, y = x7 + (1 : Int32) := ⟨_, rfl⟩
  have hd := hd x7_32 ex7_32
  refine lv_iinc (v := x7_32) (lv' := [(7, .int x7_32), (0, .ref (ad x0)), (2, .ref (ad x2)), (3, .int x3), (4, .int x4), (6, .int x6), (8, .int x8)]) K.1 K.2.1 dX6_value_145 hl (k := 5) rfl (by rw [ex7_32]; rfl) (by decide) rfl (fun ls hl => ?_)
  refine lv_goto (tgt := 261) K.1 K.2.1 dX6_value_148 (by decide) ?_
  exact bb_X6_value_261 K KX hr  hrc63 x0 x2 x3 x4 x6 x7_32 x8 g_31 _ _ _ hq_x0 hq_x2 hd hw (lv_sub hl [1, 2, 3, 4, 5, 0, 6] rfl)
set_option maxHeartbeats 4000000 in
set_option maxRecDepth 100000 in
theorem bb_X6_value_63 {p : Program} {l : Launch} {e : Env} {s : State} {m : MethodId} {args : Array Value} {below : List Frame} {meth : Method} {c : Code} {D : va_G} {cy : Nat → ClassId} {nt : Nat} {ad : Nat → Nat} {A : Nat → Prop} {X : Nat → Nat} {Q : Int32 → Sg → Prop} (K : Kx p s m args meth c cX6_value 10 RX6 D cy) (KX : XC X A s s.heap) (hr : meth.sig.returnType = (some .int))  : ∀ (n : Nat) (x0 : Nat) (x2 : Nat) (x3 : Int32) (x4 : Int32) (x6 : Int32) (x7 : Int32) (x8 : Int32)  (g0 : Sg) (H : Heap) (locs : List Loc) (ls : Array Slot), isT nt x0 → isP x2 → vv_X6_value_L63 nt Q n x0 x2 x3 x4 x6 x7 x8 g0 → Wd D A s.heap (wsC cy nt ad g0) H locs → lv_has ls 10 [(0, .ref (ad x0)), (2, .ref (ad x2)), (3, .int x3), (4, .int x4), (6, .int x6), (7, .int x7), (8, .int x8)] → W p l e (rmD 2) s m args below meth c H locs 0 0 (MQ below (va_Qi Q (PostG (wsC cy nt ad) D A) A) args s 0 0 A) (F0 m 63 ls []) := by
  intro n
  induction n with
  | zero => intro _ _ _ _ _ _ _ _ _ _ _ _ _ hd; exact hd.elim
  | succ n ih =>
    intro x0 x2 x3 x4 x6 x7 x8 g0 H locs ls hq_x0 hq_x2 hd hw hl
    unfold vv_X6_value_L63 at hd
    refine lv_iload K.1 K.2.1 dX6_value_63 (lv_at hl 6 rfl) ?_
    refine lv_if_lt (tgt := 267) K.1 K.2.1 dX6_value_65 (by decide) (fun h_9 => ?_) (fun h_9 => ?_)
    · have hd := hd.1 h_9
      exact bb_X6_value_267 K KX hr   x0 x7 g0 _ _ _ hq_x0 hd hw (lv_sub hl [0, 5] rfl)
    · have hd := hd.2 h_9
      refine lv_iload K.1 K.2.1 dX6_value_68 (lv_at hl 6 rfl) ?_
      refine lv_iload K.1 K.2.1 dX6_value_70 (lv_at hl 4 rfl) ?_
      refine lv_icmp_ge (tgt := 267) K.1 K.2.1 dX6_value_72 (by decide) (fun h_11 => ?_) (fun h_11 => ?_)
      · have hd := hd.1 h_11
        exact bb_X6_value_267 K KX hr   x0 x7 g0 _ _ _ hq_x0 hd hw (lv_sub hl [0, 5] rfl)
      · have hd := hd.2 h_11
        refine lv_iload K.1 K.2.1 dX6_value_75 (lv_at hl 6 rfl) ?_
        refine lv_aload_n K.1 K.2.1 dX6_value_77 rfl (lv_at hl 0 rfl) ?_
        refine rc_get layX6 (ci := 6) rfl 0 (by decide) (v := .ref (ad (x0 + 1))) K hw (wc_T cy nt ad _ hq_x0) kf_X6_9 rfl dX6_value_78 ?_
        refine rc_alen (v := (Int32.ofNat (g0 x0 9).toNatClampNeg)) K hw (wc_TC cy nt ad _ hq_x0) rfl dX6_value_81 ?_
        refine lv_icmp_ge (tgt := 267) K.1 K.2.1 dX6_value_82 (by decide) (fun h_12 => ?_) (fun h_12 => ?_)
        · have hd := hd.1 h_12
          exact bb_X6_value_267 K KX hr   x0 x7 g0 _ _ _ hq_x0 hd hw (lv_sub hl [0, 5] rfl)
        · have hd := hd.2 h_12
          refine lv_aload_n K.1 K.2.1 dX6_value_85 rfl (lv_at hl 0 rfl) ?_
          refine rc_get layX6 (ci := 6) rfl 0 (by decide) (v := .ref (ad (x0 + 1))) K hw (wc_T cy nt ad _ hq_x0) kf_X6_9 rfl dX6_value_86 ?_
          refine lv_iload K.1 K.2.1 dX6_value_89 (lv_at hl 6 rfl) ?_
          have hb := hd.1
          have hd := hd.2
          refine rc_iald K hw (wc_TC cy nt ad _ hq_x0) hb dX6_value_91 ?_
          refine lv_topi (fun x9_13 ex9_13 => ?_)
          have hd := hd x9_13 ex9_13
          refine lv_istore (lv' := [(9, .int x9_13), (0, .ref (ad x0)), (2, .ref (ad x2)), (3, .int x3), (4, .int x4), (6, .int x6), (7, .int x7), (8, .int x8)]) K.1 K.2.1 dX6_value_92 hl (by decide) rfl (fun ls hl => ?_)
          refine lv_iload K.1 K.2.1 dX6_value_94 (lv_at hl 0 rfl) ?_
          refine lv_sipush (v := (20000 : Int32)) K.1 K.2.1 dX6_value_96 (by decide) ?_
          refine lv_icmp_ge (tgt := 151) K.1 K.2.1 dX6_value_99 (by decide) (fun h_14 => ?_) (fun h_14 => ?_)
          · have hd := hd.1 h_14
            refine lv_iload K.1 K.2.1 dX6_value_151 (lv_at hl 0 rfl) ?_
            refine lv_sipush (v := (20007 : Int32)) K.1 K.2.1 dX6_value_153 (by decide) ?_
            refine lv_icmp_eq (tgt := 167) K.1 K.2.1 dX6_value_156 (by decide) (fun h_15 => ?_) (fun h_15 => ?_)
            · have hd := hd.1 h_15
              exact bb_X6_value_167 K KX hr  ih x0 x2 x3 x4 x6 x7 x8 x9_13 g0 _ _ _ hq_x0 hq_x2 hd hw (lv_sub hl [1, 2, 3, 4, 5, 6, 7, 0] rfl)
            · have hd := hd.2 h_15
              refine lv_iload K.1 K.2.1 dX6_value_159 (lv_at hl 0 rfl) ?_
              refine lv_sipush (v := (20008 : Int32)) K.1 K.2.1 dX6_value_161 (by decide) ?_
              refine lv_icmp_ne (tgt := 222) K.1 K.2.1 dX6_value_164 (by decide) (fun h_21 => ?_) (fun h_21 => ?_)
              · have hd := hd.1 h_21
                refine lv_iload K.1 K.2.1 dX6_value_222 (lv_at hl 6 rfl) ?_
                refine lv_iconst (v := (1 : Int32)) K.1 K.2.1 dX6_value_224 (by decide) ?_
                refine lv_icmp_le (tgt := 261) K.1 K.2.1 dX6_value_225 (by decide) (fun h_22 => ?_) (fun h_22 => ?_)
                · have hd := hd.1 h_22
                  exact bb_X6_value_261 K KX hr  ih x0 x2 x3 x4 x6 x7 x8 g0 _ _ _ hq_x0 hq_x2 hd hw (lv_sub hl [1, 2, 3, 4, 5, 6, 7] rfl)
                · have hd := hd.2 h_22
                  obtain ⟨x7_23, ex7_23⟩ : ∃ y : Int32, y = x7 + (-1 : Int32) := ⟨_, rfl⟩
                  have hd := hd x7_23 ex7_23
                  refine lv_iinc (v := x7_23) (lv' := [(7, .int x7_23), (9, .int x9_13), (0, .ref (ad x0)), (2, .ref (ad x2)), (3, .int x3), (4, .int x4), (6, .int x6), (8, .int x8)]) K.1 K.2.1 dX6_value_228 hl (k := 6) rfl (by rw [ex7_23]; rfl) (by decide) rfl (fun ls hl => ?_)
                  refine lv_aload_n K.1 K.2.1 dX6_value_231 rfl (lv_at hl 2 rfl) ?_
                  refine rc_get layX6 (ci := 6) rfl 1 (by decide) (v := .ref (ad (x0 + 2))) K hw (wc_T cy nt ad _ hq_x0) kf_X6_22 rfl dX6_value_232 ?_
                  refine lv_iload K.1 K.2.1 dX6_value_235 (lv_at hl 0 rfl) ?_
                  refine lv_iconst (v := (1 : Int32)) K.1 K.2.1 dX6_value_237 (by decide) ?_
                  refine lv_isub K.1 K.2.1 dX6_value_238 ?_
                  refine lv_iload K.1 K.2.1 dX6_value_239 (lv_at hl 1 rfl) ?_
                  refine lv_aload_n K.1 K.2.1 dX6_value_241 rfl (lv_at hl 2 rfl) ?_
                  refine rc_get layX6 (ci := 6) rfl 1 (by decide) (v := .ref (ad (x0 + 2))) K hw (wc_T cy nt ad _ hq_x0) kf_X6_22 rfl dX6_value_242 ?_
                  refine lv_iload K.1 K.2.1 dX6_value_245 (lv_at hl 0 rfl) ?_
                  refine lv_iconst (v := (1 : Int32)) K.1 K.2.1 dX6_value_247 (by decide) ?_
                  refine lv_isub K.1 K.2.1 dX6_value_248 ?_
                  have hb := hd.1
                  have hd := hd.2
                  refine rc_iald K hw (wc_TS cy nt ad _ hq_x0) hb dX6_value_249 ?_
                  refine lv_aload_n K.1 K.2.1 dX6_value_250 rfl (lv_at hl 2 rfl) ?_
                  refine rc_get layX6 (ci := 6) rfl 1 (by decide) (v := .ref (ad (x0 + 2))) K hw (wc_T cy nt ad _ hq_x0) kf_X6_22 rfl dX6_value_251 ?_
                  refine lv_iload K.1 K.2.1 dX6_value_254 (lv_at hl 0 rfl) ?_
                  have hb := hd.1
                  have hd := hd.2
                  refine rc_iald K hw (wc_TS cy nt ad _ hq_x0) hb dX6_value_256 ?_
                  refine rkc_si (As := [.int x9_13, .int (g0 (x0 + 2) (x7_23 - (1 : Int32)).toNatClampNeg), .int (g0 (x0 + 2) x7_23.toNatClampNeg)]) (rest := [.int (x7_23 - (1 : Int32)), .ref (ad (x0 + 2))]) K KX hw (cc_X6_joined l D cy nt ad A X g0 _ x9_13 (g0 (x0 + 2) (x7_23 - (1 : Int32)).toNatClampNeg) (g0 (x0 + 2) x7_23.toNatClampNeg) hd) lk_X6_29 ⟨Nat.le_of_ble_eq_true rfl, Nat.le_of_ble_eq_true rfl⟩ ⟨Nat.zero_le _, Nat.zero_le _⟩ rfl hl.1 (Nat.le_of_ble_eq_true rfl) rfl dX6_value_257 (fun r_25 g_24 H locs hd hw => ?_)
                  have hb := hd.1
                  have hd := hd.2
                  refine rc_iast K hw (wc_TS cy nt ad _ hq_x0) (wa_TS cy nt ad _ _ _ hq_x0) hb dX6_value_260 (fun g_26 eg_26 H locs hw => ?_)
                  have hd := hd g_26 eg_26
                  exact bb_X6_value_261 K KX hr  ih x0 x2 x3 x4 x6 x7_23 x8 g_26 _ _ _ hq_x0 hq_x2 hd hw (lv_sub hl [2, 3, 4, 5, 6, 0, 7] rfl)
              · have hd := hd.2 h_21
                exact bb_X6_value_167 K KX hr  ih x0 x2 x3 x4 x6 x7 x8 x9_13 g0 _ _ _ hq_x0 hq_x2 hd hw (lv_sub hl [1, 2, 3, 4, 5, 6, 7, 0] rfl)
          · have hd := hd.2 h_14
            refine lv_iload K.1 K.2.1 dX6_value_102 (lv_at hl 6 rfl) ?_
            refine lv_aload_n K.1 K.2.1 dX6_value_104 rfl (lv_at hl 1 rfl) ?_
            refine rc_get layX6 (ci := 6) rfl 1 (by decide) (v := .ref (ad (x0 + 2))) K hw (wc_T cy nt ad _ hq_x0) kf_X6_22 rfl dX6_value_105 ?_
            refine rc_alen (v := (Int32.ofNat (g0 x0 9).toNatClampNeg)) K hw (wc_TS cy nt ad _ hq_x0) rfl dX6_value_108 ?_
            refine lv_icmp_ge (tgt := 261) K.1 K.2.1 dX6_value_109 (by decide) (fun h_27 => ?_) (fun h_27 => ?_)
            · have hd := hd.1 h_27
              exact bb_X6_value_261 K KX hr  ih x0 x2 x3 x4 x6 x7 x8 g0 _ _ _ hq_x0 hq_x2 hd hw (lv_sub hl [1, 2, 3, 4, 5, 6, 7] rfl)
            · have hd := hd.2 h_27
              refine lv_aload_n K.1 K.2.1 dX6_value_112 rfl (lv_at hl 1 rfl) ?_
              refine rc_get layX6 (ci := 6) rfl 1 (by decide) (v := .ref (ad (x0 + 2))) K hw (wc_T cy nt ad _ hq_x0) kf_X6_22 rfl dX6_value_113 ?_
              refine lv_iload K.1 K.2.1 dX6_value_116 (lv_at hl 6 rfl) ?_
              refine lv_iload K.1 K.2.1 dX6_value_118 (lv_at hl 0 rfl) ?_
              refine lv_sipush (v := (10000 : Int32)) K.1 K.2.1 dX6_value_120 (by decide) ?_
              refine lv_icmp_ge (tgt := 131) K.1 K.2.1 dX6_value_123 (by decide) (fun h_28 => ?_) (fun h_28 => ?_)
              · have hd := hd.1 h_28
                refine lv_iload K.1 K.2.1 dX6_value_131 (lv_at hl 0 rfl) ?_
                refine lv_sipush (v := (10000 : Int32)) K.1 K.2.1 dX6_value_133 (by decide) ?_
                refine lv_isub K.1 K.2.1 dX6_value_136 ?_
                refine lv_aload_n K.1 K.2.1 dX6_value_137 rfl (lv_at hl 2 rfl) ?_
                refine lv_iload_n K.1 K.2.1 dX6_value_138 rfl (lv_at hl 3 rfl) ?_
                refine lv_iload K.1 K.2.1 dX6_value_139 (lv_at hl 4 rfl) ?_
                refine rkc_si (As := [.int (x9_13 - (10000 : Int32)), .ref (ad x2), .int x3, .int x4]) (rest := [.int x7, .ref (ad (x0 + 2))]) K KX hw (cc_X6_named l D cy nt ad A X g0 _ (x9_13 - (10000 : Int32)) x2 x3 x4 hd) lk_X6_25 ⟨Nat.le_of_ble_eq_true rfl, Nat.le_of_ble_eq_true rfl⟩ ⟨Nat.zero_le _, Nat.zero_le _⟩ rfl hl.1 (Nat.le_of_ble_eq_true rfl) rfl dX6_value_141 (fun r_30 g_29 H locs hd hw => ?_)
                exact bb_X6_value_144 K KX hr  ih x0 x2 x3 x4 x6 x7 x8 x0 x7 r_30 g_29 _ _ _ hq_x0 hq_x2 hq_x0 hd hw (lv_sub hl [1, 2, 3, 4, 5, 6, 7] rfl)
              · have hd := hd.2 h_28
                refine lv_iload K.1 K.2.1 dX6_value_126 (lv_at hl 0 rfl) ?_
                refine lv_goto (tgt := 144) K.1 K.2.1 dX6_value_128 (by decide) ?_
                exact bb_X6_value_144 K KX hr  ih x0 x2 x3 x4 x6 x7 x8 x0 x7 x9_13 g0 _ _ _ hq_x0 hq_x2 hq_x0 hd hw (lv_sub hl [1, 2, 3, 4, 5, 6, 7] rfl)
set_option maxHeartbeats 4000000 in
set_option maxRecDepth 100000 in
theorem bb_X6_value_54 {p : Program} {l : Launch} {e : Env} {s : State} {m : MethodId} {args : Array Value} {below : List Frame} {meth : Method} {c : Code} {D : va_G} {cy : Nat → ClassId} {nt : Nat} {ad : Nat → Nat} {A : Nat → Prop} {X : Nat → Nat} {Q : Int32 → Sg → Prop} (K : Kx p s m args meth c cX6_value 10 RX6 D cy) (KX : XC X A s s.heap) (hr : meth.sig.returnType = (some .int))  (x0 : Nat) (x2 : Nat) (x3 : Int32) (x4 : Int32) (x5 : Int32) (t0 : Int32) (g0 : Sg) (H : Heap) (locs : List Loc) (ls : Array Slot) (hq_x0 : isT nt x0) (hq_x2 : isP x2) (hd : vv_X6_value_J54 nt x0 x2 x3 x4 x5 t0 g0 Q) (hw : Wd D A s.heap (wsC cy nt ad g0) H locs) (hl : lv_has ls 10 [(0, .ref (ad x0)), (2, .ref (ad x2)), (3, .int x3), (4, .int x4), (5, .int x5)]) : W p l e (rmD 2) s m args below meth c H locs 0 0 (MQ below (va_Qi Q (PostG (wsC cy nt ad) D A) A) args s 0 0 A) (F0 m 54 ls [.int t0]) := by
  unfold vv_X6_value_J54 at hd
  refine lv_topi (fun x6_6 ex6_6 => ?_)
  have hd := hd x6_6 ex6_6
  refine lv_istore (lv' := [(6, .int x6_6), (0, .ref (ad x0)), (2, .ref (ad x2)), (3, .int x3), (4, .int x4), (5, .int x5)]) K.1 K.2.1 dX6_value_54 hl (by decide) rfl (fun ls hl => ?_)
  refine lv_iconst (v := (0 : Int32)) K.1 K.2.1 dX6_value_56 (by decide) ?_
  refine lv_topi (fun x7_7 ex7_7 => ?_)
  have hd := hd x7_7 ex7_7
  refine lv_istore (lv' := [(7, .int x7_7), (6, .int x6_6), (0, .ref (ad x0)), (2, .ref (ad x2)), (3, .int x3), (4, .int x4), (5, .int x5)]) K.1 K.2.1 dX6_value_57 hl (by decide) rfl (fun ls hl => ?_)
  refine lv_iload K.1 K.2.1 dX6_value_59 (lv_at hl 6 rfl) ?_
  refine lv_topi (fun x8_8 ex8_8 => ?_)
  have hd := hd x8_8 ex8_8
  refine lv_istore (lv' := [(8, .int x8_8), (7, .int x7_7), (6, .int x6_6), (0, .ref (ad x0)), (2, .ref (ad x2)), (3, .int x3), (4, .int x4), (5, .int x5)]) K.1 K.2.1 dX6_value_61 hl (by decide) rfl (fun ls hl => ?_)
  obtain ⟨n9, hd⟩ := hd
  exact bb_X6_value_63 K KX hr   n9 x0 x2 x3 x4 x6_6 x7_7 x8_8 g0 _ _ _ hq_x0 hq_x2 hd hw (lv_sub hl [3, 4, 5, 6, 2, 1, 0] rfl)
set_option maxHeartbeats 4000000 in
set_option maxRecDepth 100000 in
theorem bb_X6_value_24 {p : Program} {l : Launch} {e : Env} {s : State} {m : MethodId} {args : Array Value} {below : List Frame} {meth : Method} {c : Code} {D : va_G} {cy : Nat → ClassId} {nt : Nat} {ad : Nat → Nat} {A : Nat → Prop} {X : Nat → Nat} {Q : Int32 → Sg → Prop} (K : Kx p s m args meth c cX6_value 10 RX6 D cy) (KX : XC X A s s.heap) (hr : meth.sig.returnType = (some .int))  (x0 : Nat) (x1 : Int32) (x2 : Nat) (x3 : Int32) (x4 : Int32) (t0 : Int32) (g0 : Sg) (H : Heap) (locs : List Loc) (ls : Array Slot) (hq_x0 : isT nt x0) (hq_x2 : isP x2) (hd : vv_X6_value_J24 nt x0 x1 x2 x3 x4 t0 g0 Q) (hw : Wd D A s.heap (wsC cy nt ad g0) H locs) (hl : lv_has ls 10 [(0, .ref (ad x0)), (1, .int x1), (2, .ref (ad x2)), (3, .int x3), (4, .int x4)]) : W p l e (rmD 2) s m args below meth c H locs 0 0 (MQ below (va_Qi Q (PostG (wsC cy nt ad) D A) A) args s 0 0 A) (F0 m 24 ls [.int t0]) := by
  unfold vv_X6_value_J24 at hd
  refine lv_topi (fun x5_3 ex5_3 => ?_)
  have hd := hd x5_3 ex5_3
  refine lv_istore (lv' := [(5, .int x5_3), (0, .ref (ad x0)), (1, .int x1), (2, .ref (ad x2)), (3, .int x3), (4, .int x4)]) K.1 K.2.1 dX6_value_24 hl (by decide) rfl (fun ls hl => ?_)
  refine lv_iload_n K.1 K.2.1 dX6_value_26 rfl (lv_at hl 2 rfl) ?_
  refine lv_if_ne (tgt := 37) K.1 K.2.1 dX6_value_27 (by decide) (fun h_4 => ?_) (fun h_4 => ?_)
  · have hd := hd.1 h_4
    refine lv_iload_n K.1 K.2.1 dX6_value_37 rfl (lv_at hl 2 rfl) ?_
    refine lv_iconst (v := (1 : Int32)) K.1 K.2.1 dX6_value_38 (by decide) ?_
    refine lv_icmp_ne (tgt := 49) K.1 K.2.1 dX6_value_39 (by decide) (fun h_5 => ?_) (fun h_5 => ?_)
    · have hd := hd.1 h_5
      refine lv_aload_n K.1 K.2.1 dX6_value_49 rfl (lv_at hl 1 rfl) ?_
      refine rc_get layX6 (ci := 6) rfl 0 (by decide) (v := .ref (ad (x0 + 1))) K hw (wc_T cy nt ad _ hq_x0) kf_X6_9 rfl dX6_value_50 ?_
      refine rc_alen (v := (Int32.ofNat (g0 x0 9).toNatClampNeg)) K hw (wc_TC cy nt ad _ hq_x0) rfl dX6_value_53 ?_
      exact bb_X6_value_54 K KX hr   x0 x2 x3 x4 x5_3 (Int32.ofNat (g0 x0 9).toNatClampNeg) g0 _ _ _ hq_x0 hq_x2 hd hw (lv_sub hl [1, 3, 4, 5, 0] rfl)
    · have hd := hd.2 h_5
      refine lv_aload_n K.1 K.2.1 dX6_value_42 rfl (lv_at hl 1 rfl) ?_
      refine rc_get layX6 (ci := 6) rfl 3 (by decide) (v := .int (g0 x0 3)) K hw (wc_T cy nt ad _ hq_x0) kf_X6_19 rfl dX6_value_43 ?_
      refine lv_goto (tgt := 54) K.1 K.2.1 dX6_value_46 (by decide) ?_
      exact bb_X6_value_54 K KX hr   x0 x2 x3 x4 x5_3 (g0 x0 3) g0 _ _ _ hq_x0 hq_x2 hd hw (lv_sub hl [1, 3, 4, 5, 0] rfl)
  · have hd := hd.2 h_4
    refine lv_aload_n K.1 K.2.1 dX6_value_30 rfl (lv_at hl 1 rfl) ?_
    refine rc_get layX6 (ci := 6) rfl 2 (by decide) (v := .int (g0 x0 2)) K hw (wc_T cy nt ad _ hq_x0) kf_X6_15 rfl dX6_value_31 ?_
    refine lv_goto (tgt := 54) K.1 K.2.1 dX6_value_34 (by decide) ?_
    exact bb_X6_value_54 K KX hr   x0 x2 x3 x4 x5_3 (g0 x0 2) g0 _ _ _ hq_x0 hq_x2 hd hw (lv_sub hl [1, 3, 4, 5, 0] rfl)
set_option maxHeartbeats 4000000 in
set_option maxRecDepth 100000 in
theorem cc_X6_value (l : Launch) (D : va_G) (cy : Nat → ClassId) (nt : Nat) (ad : Nat → Nat) (A : Nat → Prop) (X : Nat → Nat)  (g0 : Sg) (Q : Int32 → Sg → Prop) (x0 : Nat) (x1 : Int32) (x2 : Nat) (x3 : Int32) (x4 : Int32) (hd : vv_X6_value nt x0 x1 x2 x3 x4 g0 Q) : Met l yX6_value (Cond.code yX6_value cX6_value 10 (some .int) :: TT) (rmD 2) (va_Pc [.ref (ad x0), .int x1, .ref (ad x2), .int x3, .int x4] (PreC (wsC cy nt ad) D cy A X g0)) (va_Qi Q (PostG (wsC cy nt ad) D A) A) 0 0 A := by
  unfold vv_X6_value at hd
  refine Met.ofW (cc := cX6_value) (maxL := 10) (ret := (some .int)) (by decide) rfl ?_
  intro p e s m args below meth c s₁ B hml hv
  obtain ⟨rfl, ⟨hP, hK0, hD⟩, KX⟩ := hv
  have K : Kx p s m _ meth c cX6_value 10 RX6 D cy := ⟨B.exec, B.bytes, hml, findClass_of_methodNamed B.named, fun w h => atoms_spec (ws := Cond.code yX6_value cX6_value 10 (some .int) :: TT) B.pre w (List.mem_cons_of_mem _ h), hK0, B.notSynchronized⟩
  have hw : Wd D A s.heap (wsC cy nt ad g0) s.heap [] := ⟨hP, hD, va_S.rf⟩
  have hr := B.returns
  have hl := lv_entry ([.ref (ad x0), .int x1, .ref (ad x2), .int x3, .int x4]) (n := 10) (Nat.le_of_ble_eq_true rfl)
  rw [lg_entry_eq]
  generalize (lg_sl ([.ref (ad x0), .int x1, .ref (ad x2), .int x3, .int x4]) ++ List.replicate (10 - (lg_sl ([.ref (ad x0), .int x1, .ref (ad x2), .int x3, .int x4])).length) Slot.unset).toArray = ls at hl ⊢
  have hl : lv_has ls 10 [(0, .ref (ad x0)), (1, .int x1), (2, .ref (ad x2)), (3, .int x3), (4, .int x4)] := hl
  have hq_x0 := hd.1
  have hd := hd.2
  have hq_x2 := hd.1
  have hd := hd.2
  refine lv_iload_n K.1 K.2.1 dX6_value_0 rfl (lv_at hl 1 rfl) ?_
  refine lv_if_ne (tgt := 8) K.1 K.2.1 dX6_value_1 (by decide) (fun h_1 => ?_) (fun h_1 => ?_)
  · have hd := hd.1 h_1
    refine lv_iload_n K.1 K.2.1 dX6_value_8 rfl (lv_at hl 1 rfl) ?_
    refine lv_iconst (v := (1 : Int32)) K.1 K.2.1 dX6_value_9 (by decide) ?_
    refine lv_icmp_ne (tgt := 20) K.1 K.2.1 dX6_value_10 (by decide) (fun h_2 => ?_) (fun h_2 => ?_)
    · have hd := hd.1 h_2
      refine lv_aload_n K.1 K.2.1 dX6_value_20 rfl (lv_at hl 0 rfl) ?_
      refine rc_get layX6 (ci := 6) rfl 3 (by decide) (v := .int (g0 x0 3)) K hw (wc_T cy nt ad _ hq_x0) kf_X6_19 rfl dX6_value_21 ?_
      exact bb_X6_value_24 K KX hr   x0 x1 x2 x3 x4 (g0 x0 3) g0 _ _ _ hq_x0 hq_x2 hd hw (lv_sub hl [0, 1, 2, 3, 4] rfl)
    · have hd := hd.2 h_2
      refine lv_aload_n K.1 K.2.1 dX6_value_13 rfl (lv_at hl 0 rfl) ?_
      refine rc_get layX6 (ci := 6) rfl 2 (by decide) (v := .int (g0 x0 2)) K hw (wc_T cy nt ad _ hq_x0) kf_X6_15 rfl dX6_value_14 ?_
      refine lv_goto (tgt := 24) K.1 K.2.1 dX6_value_17 (by decide) ?_
      exact bb_X6_value_24 K KX hr   x0 x1 x2 x3 x4 (g0 x0 2) g0 _ _ _ hq_x0 hq_x2 hd hw (lv_sub hl [0, 1, 2, 3, 4] rfl)
  · have hd := hd.2 h_1
    refine lv_iconst (v := (0 : Int32)) K.1 K.2.1 dX6_value_4 (by decide) ?_
    refine lv_goto (tgt := 24) K.1 K.2.1 dX6_value_5 (by decide) ?_
    exact bb_X6_value_24 K KX hr   x0 x1 x2 x3 x4 (0 : Int32) g0 _ _ _ hq_x0 hq_x2 hd hw (lv_sub hl [0, 1, 2, 3, 4] rfl)
