section
/-! ===== Text(), Arrays.copyOf ===== -/
theorem ko_X6_3 : Cond.methodLink RX6 3 Lib.objectInit ∈ TT := (TTm (List.mem_of_getElem? (i := 436) (by decide +kernel)) rfl)
theorem dX6_init_0 : decode cX6_init 0 = .ok (.aload_n 0, 1) := by decide +kernel
theorem dX6_init_1 : decode cX6_init 1 = .ok (.invokespecial 3, 3) := by decide +kernel
theorem dX6_init_4 : decode cX6_init 4 = .ok (.aload_n 0, 1) := by decide +kernel
theorem dX6_init_5 : decode cX6_init 5 = .ok (.aload_n 1, 1) := by decide +kernel
theorem dX6_init_6 : decode cX6_init 6 = .ok (.putfield 9, 3) := by decide +kernel
theorem dX6_init_9 : decode cX6_init 9 = .ok (.aload_n 0, 1) := by decide +kernel
theorem dX6_init_10 : decode cX6_init 10 = .ok (.iload_n 2, 1) := by decide +kernel
theorem dX6_init_11 : decode cX6_init 11 = .ok (.putfield 15, 3) := by decide +kernel
theorem dX6_init_14 : decode cX6_init 14 = .ok (.aload_n 0, 1) := by decide +kernel
theorem dX6_init_15 : decode cX6_init 15 = .ok (.iload_n 3, 1) := by decide +kernel
theorem dX6_init_16 : decode cX6_init 16 = .ok (.putfield 19, 3) := by decide +kernel
theorem dX6_init_19 : decode cX6_init 19 = .ok (.aload_n 0, 1) := by decide +kernel
theorem dX6_init_20 : decode cX6_init 20 = .ok (.aload_n 1, 1) := by decide +kernel
theorem dX6_init_21 : decode cX6_init 21 = .ok (.arraylength, 1) := by decide +kernel
theorem dX6_init_22 : decode cX6_init 22 = .ok (.newarray .int, 2) := by decide +kernel
theorem dX6_init_24 : decode cX6_init 24 = .ok (.putfield 22, 3) := by decide +kernel
theorem dX6_init_27 : decode cX6_init 27 = .ok (.return_, 1) := by decide +kernel
theorem dJ7_copyOf_59c91_0 : decode cJ7_copyOf_59c91 0 = .ok (.iload_n 1, 1) := by decide +kernel
theorem dJ7_copyOf_59c91_1 : decode cJ7_copyOf_59c91 1 = .ok (.aload_n 0, 1) := by decide +kernel
theorem dJ7_copyOf_59c91_2 : decode cJ7_copyOf_59c91 2 = .ok (.arraylength, 1) := by decide +kernel
theorem dJ7_copyOf_59c91_3 : decode cJ7_copyOf_59c91 3 = .ok (.if_icmp .ne 11, 3) := by decide +kernel
theorem dJ7_copyOf_59c91_6 : decode cJ7_copyOf_59c91 6 = .ok (.aload_n 0, 1) := by decide +kernel
theorem dJ7_copyOf_59c91_7 : decode cJ7_copyOf_59c91 7 = .ok (.invokevirtual 316, 3) := by decide +kernel
theorem dJ7_copyOf_59c91_10 : decode cJ7_copyOf_59c91 10 = .ok (.checkcast 317, 3) := by decide +kernel
theorem dJ7_copyOf_59c91_13 : decode cJ7_copyOf_59c91 13 = .ok (.areturn, 1) := by decide +kernel
theorem dJ7_copyOf_59c91_14 : decode cJ7_copyOf_59c91 14 = .ok (.iload_n 1, 1) := by decide +kernel
theorem dJ7_copyOf_59c91_15 : decode cJ7_copyOf_59c91 15 = .ok (.newarray .int, 2) := by decide +kernel
theorem dJ7_copyOf_59c91_17 : decode cJ7_copyOf_59c91 17 = .ok (.astore_n 2, 1) := by decide +kernel
theorem dJ7_copyOf_59c91_18 : decode cJ7_copyOf_59c91 18 = .ok (.aload_n 0, 1) := by decide +kernel
theorem dJ7_copyOf_59c91_19 : decode cJ7_copyOf_59c91 19 = .ok (.iconst 0, 1) := by decide +kernel
theorem dJ7_copyOf_59c91_20 : decode cJ7_copyOf_59c91 20 = .ok (.aload_n 2, 1) := by decide +kernel
theorem dJ7_copyOf_59c91_21 : decode cJ7_copyOf_59c91 21 = .ok (.iconst 0, 1) := by decide +kernel
theorem dJ7_copyOf_59c91_22 : decode cJ7_copyOf_59c91 22 = .ok (.aload_n 0, 1) := by decide +kernel
theorem dJ7_copyOf_59c91_23 : decode cJ7_copyOf_59c91 23 = .ok (.arraylength, 1) := by decide +kernel
theorem dJ7_copyOf_59c91_24 : decode cJ7_copyOf_59c91 24 = .ok (.iload_n 1, 1) := by decide +kernel
theorem dJ7_copyOf_59c91_25 : decode cJ7_copyOf_59c91 25 = .ok (.invokestatic 304, 3) := by decide +kernel
theorem dJ7_copyOf_59c91_28 : decode cJ7_copyOf_59c91 28 = .ok (.invokestatic 150, 3) := by decide +kernel
theorem dJ7_copyOf_59c91_31 : decode cJ7_copyOf_59c91 31 = .ok (.aload_n 2, 1) := by decide +kernel
theorem dJ7_copyOf_59c91_32 : decode cJ7_copyOf_59c91 32 = .ok (.areturn, 1) := by decide +kernel
theorem lkm_J7_304 : Cond.methodLink RJ7 304 Lib.Math.min.name ∈ TT ∧ Cond.static Lib.Math.min.name ∈ TT ∧ Cond.initialized "java/lang/Math" ∈ TT ∧ Cond.code Lib.Math.min.name Lib.Math.min.code 2 (some .int) ∈ TT := ⟨(TTm (List.mem_of_getElem? (i := 427) (by decide +kernel)) rfl), (TTm (List.mem_of_getElem? (i := 428) (by decide +kernel)) rfl), (TTm (List.mem_of_getElem? (i := 116) (by decide +kernel)) rfl), (TTm (List.mem_of_getElem? (i := 429) (by decide +kernel)) rfl)⟩
theorem lk_copyJ : LkN RJ7 150 := ⟨(TTm (List.mem_of_getElem? (i := 430) (by decide +kernel)) rfl), (TTm (List.mem_of_getElem? (i := 432) (by decide +kernel)) rfl), (TTm (List.mem_of_getElem? (i := 431) (by decide +kernel)) rfl), (TTm (List.mem_of_getElem? (i := 117) (by decide +kernel)) rfl)⟩
theorem cx_X6_init (l : Launch) (D : va_G) (cy : Nat → ClassId) (A : Nat → Prop) (X : Nat → Nat) (sz : Nat) (hA0 : ∀ q, sz ≤ q → A q) (h0 b n : Nat) (f : Nat → Int32) (w0 z0 : Int32) (hn : n < 160) : MetX l yX6_init cX6_init 4 none 1 1 160 [.ref h0, .ref b, .int w0, .int z0] [(b, .inl (cy 0, n, .inl f)), (h0, .inr (6, [.null, .null, .int 0, .int 0]))] D cy A X sz (fun v w => v = none ∧ ∃ d, w = [(b, .inl (cy 0, n, .inl f)), (h0, .inr (6, [.ref b, .ref d, .int w0, .int z0])), (d, .inl (cy 0, n, .inl (fun _ => 0)))]) := by
  refine Met.ofW (cc := cX6_init) (maxL := 4) (ret := none) (by decide) rfl ?_
  intro p e s m args below meth c s₁ B hml hv
  obtain ⟨rfl, hsz, hP, hK0, hD, KX, KS⟩ := hv
  have K : Kx p s m _ meth c cX6_init 4 RX6 D cy := ⟨B.exec, B.bytes, hml, findClass_of_methodNamed B.named, fun w h => atoms_spec (ws := Cond.code yX6_init cX6_init 4 none :: TT) B.pre w (List.mem_cons_of_mem _ h), hK0, B.notSynchronized⟩
  have hw : Wd D A s.heap [(b, .inl (cy 0, n, .inl f)), (h0, .inr (6, [.null, .null, .int 0, .int 0]))] s.heap [] := ⟨hP, hD, va_S.rf⟩
  have hr := B.returns
  have hin : meth.name = "<init>" := (name_of_methodNamed B.named B.method).1
  have hA : ∀ q, s.heap.size ≤ q → A q := fun q h => hA0 q (by rw [← hsz]; exact h)
  have hl := lv_entry ([.ref h0, .ref b, .int w0, .int z0]) (n := 4) (Nat.le_of_ble_eq_true rfl)
  rw [lg_entry_eq]
  generalize (lg_sl ([.ref h0, .ref b, .int w0, .int z0]) ++ List.replicate (4 - (lg_sl ([.ref h0, .ref b, .int w0, .int z0])).length) Slot.unset).toArray = ls at hl ⊢
  have hl : lv_has ls 4 [(0, .ref h0), (1, .ref b), (2, .int w0), (3, .int z0)] := hl
  refine lv_aload_n K.1 K.2.1 dX6_init_0 rfl (lv_at hl 0 rfl) ?_
  refine W.objInit K.1 K.2.1 K.2.2.2.1 (K.2.2.2.2.1 _ ko_X6_3) (K.2.2.2.2.1 _ ko_inst) (K.2.2.2.2.1 _ ko_code) rfl (by rw [K.2.2.1]; exact hl.1) rfl dX6_init_1 (Nat.le_of_ble_eq_true rfl) (Nat.le_of_ble_eq_true rfl) ?_
  refine W.eq (g2 := F0 m 4 ls []) rfl ?_
  refine lv_aload_n K.1 K.2.1 dX6_init_4 rfl (lv_at hl 0 rfl) ?_
  refine lv_aload_n K.1 K.2.1 dX6_init_5 rfl (lv_at hl 1 rfl) ?_
  refine rx_putF layX6 (ci := 6) rfl tyX6_ok nmX6 0 (by decide) (k := 1) K hw rfl kf_X6_9 rfl hin rfl (tyX6_ok 0 (by decide)) rfl rfl (Nat.le_of_ble_eq_true rfl) dX6_init_6 (fun H locs hw => ?_)
  have hw : Wd D A s.heap [(b, .inl (cy 0, n, .inl f)), (h0, .inr (6, [.ref b, .null, .int 0, .int 0]))] H locs := hw
  refine lv_aload_n K.1 K.2.1 dX6_init_9 rfl (lv_at hl 0 rfl) ?_
  refine lv_iload_n K.1 K.2.1 dX6_init_10 rfl (lv_at hl 2 rfl) ?_
  refine rx_putF layX6 (ci := 6) rfl tyX6_ok nmX6 2 (by decide) (k := 1) K hw rfl kf_X6_15 rfl hin rfl (tyX6_ok 2 (by decide)) rfl rfl (Nat.le_of_ble_eq_true rfl) dX6_init_11 (fun H locs hw => ?_)
  have hw : Wd D A s.heap [(b, .inl (cy 0, n, .inl f)), (h0, .inr (6, [.ref b, .null, .int w0, .int 0]))] H locs := hw
  refine lv_aload_n K.1 K.2.1 dX6_init_14 rfl (lv_at hl 0 rfl) ?_
  refine lv_iload_n K.1 K.2.1 dX6_init_15 rfl (lv_at hl 3 rfl) ?_
  refine rx_putF layX6 (ci := 6) rfl tyX6_ok nmX6 3 (by decide) (k := 1) K hw rfl kf_X6_19 rfl hin rfl (tyX6_ok 3 (by decide)) rfl rfl (Nat.le_of_ble_eq_true rfl) dX6_init_16 (fun H locs hw => ?_)
  have hw : Wd D A s.heap [(b, .inl (cy 0, n, .inl f)), (h0, .inr (6, [.ref b, .null, .int w0, .int z0]))] H locs := hw
  refine lv_aload_n K.1 K.2.1 dX6_init_19 rfl (lv_at hl 0 rfl) ?_
  refine lv_aload_n K.1 K.2.1 dX6_init_20 rfl (lv_at hl 1 rfl) ?_
  refine rc_alen (k := 0) (v := nI n) K hw rfl rfl dX6_init_21 ?_
  refine rx_newi (n := nI n) (N := n) K hA hw ka_int (nI_pos (by omega)) (nI_clamp (by omega)) (by omega) (Nat.le_of_ble_eq_true rfl) (show 0 + n ≤ 160 by omega) dX6_init_22 (fun q1 H hw => ?_)
  have hw : Wd D A s.heap [(b, .inl (cy 0, n, .inl f)), (h0, .inr (6, [.ref b, .null, .int w0, .int z0])), (q1, .inl (cy 0, n, .inl (fun _ => 0)))] H _ := hw
  refine W.widen (k := 1) (n := 160) (Nat.le_of_ble_eq_true rfl) (show 0 + n ≤ 160 by omega) ?_
  refine rx_putF layX6 (ci := 6) rfl tyX6_ok nmX6 1 (by decide) (k := 1) K hw rfl kf_X6_22 rfl hin rfl (tyX6_ok 1 (by decide)) rfl rfl (Nat.le_of_ble_eq_true rfl) dX6_init_24 (fun H locs hw => ?_)
  have hw : Wd D A s.heap [(b, .inl (cy 0, n, .inl f)), (h0, .inr (6, [.ref b, .ref q1, .int w0, .int z0])), (q1, .inl (cy 0, n, .inl (fun _ => 0)))] H locs := hw
  exact rx_vret K hw hr ⟨rfl, q1, rfl⟩ dX6_init_27
theorem cx_J7_copyOf (l : Launch) (D : va_G) (cy : Nat → ClassId) (A : Nat → Prop) (X : Nat → Nat) (sz : Nat) (hA0 : ∀ q, sz ≤ q → A q) (a n : Nat) (f : Nat → Int32) (hn : n < 160) : MetX l yJ7_copyOf_59c91 cJ7_copyOf_59c91 3 (some (.array .int)) 2 1 160 [.ref a, .int (nI n)] [(a, .inl (cy 0, 160, .inl f))] D cy A X sz (fun v w => ∃ q, v = some (.ref q) ∧ w = [(a, .inl (cy 0, 160, .inl f)), (q, .inl (cy 0, n, .inl (va_cpy f (fun _ => 0) 0 0 n)))]) := by
  refine Met.ofW (cc := cJ7_copyOf_59c91) (maxL := 3) (ret := (some (.array .int))) (by decide) rfl ?_
  intro p e s m args below meth c s₁ B hml hv
  obtain ⟨rfl, hsz, hP, hK0, hD, KX, KS⟩ := hv
  have K : Kx p s m _ meth c cJ7_copyOf_59c91 3 RJ7 D cy := ⟨B.exec, B.bytes, hml, findClass_of_methodNamed B.named, fun w h => atoms_spec (ws := Cond.code yJ7_copyOf_59c91 cJ7_copyOf_59c91 3 (some (.array .int)) :: TT) B.pre w (List.mem_cons_of_mem _ h), hK0, B.notSynchronized⟩
  have hw : Wd D A s.heap [(a, .inl (cy 0, 160, .inl f))] s.heap [] := ⟨hP, hD, va_S.rf⟩
  have hr := B.returns
  have hA : ∀ q, s.heap.size ≤ q → A q := fun q h => hA0 q (by rw [← hsz]; exact h)
  have hl := lv_entry ([.ref a, .int (nI n)]) (n := 3) (Nat.le_of_ble_eq_true rfl)
  rw [lg_entry_eq]
  generalize (lg_sl ([.ref a, .int (nI n)]) ++ List.replicate (3 - (lg_sl ([.ref a, .int (nI n)])).length) Slot.unset).toArray = ls at hl ⊢
  have hl : lv_has ls 3 [(0, .ref a), (1, .int (nI n))] := hl
  refine lv_iload_n K.1 K.2.1 dJ7_copyOf_59c91_0 rfl (lv_at hl 1 rfl) ?_
  refine lv_aload_n K.1 K.2.1 dJ7_copyOf_59c91_1 rfl (lv_at hl 0 rfl) ?_
  refine rc_alen (k := 0) (v := nI 160) K hw rfl rfl dJ7_copyOf_59c91_2 ?_
  refine lv_icmp_ne (tgt := 14) K.1 K.2.1 dJ7_copyOf_59c91_3 (by decide) (fun _ => ?_) (fun h => absurd ((nI_eq (by omega) (by decide)).mp h) (by omega))
  refine lv_iload_n K.1 K.2.1 dJ7_copyOf_59c91_14 rfl (lv_at hl 1 rfl) ?_
  refine rx_newi (n := nI n) (N := n) K hA hw ka_int (nI_pos (by omega)) (nI_clamp (by omega)) (by omega) (Nat.le_of_ble_eq_true rfl) (show 0 + n ≤ 160 by omega) dJ7_copyOf_59c91_15 (fun q1 H hw => ?_)
  have hw : Wd D A s.heap [(a, .inl (cy 0, 160, .inl f)), (q1, .inl (cy 0, n, .inl (fun _ => 0)))] H _ := hw
  refine W.widen (k := 1) (n := 160) (Nat.le_of_ble_eq_true rfl) (show 0 + n ≤ 160 by omega) ?_
  refine lv_astore_n (lv' := [(2, .ref q1), (0, .ref a), (1, .int (nI n))]) K.1 K.2.1 dJ7_copyOf_59c91_17 rfl hl (by decide) rfl (fun ls hl => ?_)
  refine lv_aload_n K.1 K.2.1 dJ7_copyOf_59c91_18 rfl (lv_at hl 1 rfl) ?_
  refine lv_iconst (v := (0 : Int32)) K.1 K.2.1 dJ7_copyOf_59c91_19 (by decide) ?_
  refine lv_aload_n K.1 K.2.1 dJ7_copyOf_59c91_20 rfl (lv_at hl 0 rfl) ?_
  refine lv_iconst (v := (0 : Int32)) K.1 K.2.1 dJ7_copyOf_59c91_21 (by decide) ?_
  refine lv_aload_n K.1 K.2.1 dJ7_copyOf_59c91_22 rfl (lv_at hl 1 rfl) ?_
  refine rc_alen (k := 0) (v := nI 160) K hw rfl rfl dJ7_copyOf_59c91_23 ?_
  refine lv_iload_n K.1 K.2.1 dJ7_copyOf_59c91_24 rfl (lv_at hl 2 rfl) ?_
  refine va_mmin K.1 K.2.1 (K.2.2.1.trans hl.1.symm) K.2.2.2.1 (K.2.2.2.2.1 _ lkm_J7_304.1) (K.2.2.2.2.1 _ lkm_J7_304.2.1) (K.2.2.2.2.1 _ lkm_J7_304.2.2.1) (K.2.2.2.2.1 _ lkm_J7_304.2.2.2) (Nat.le_of_ble_eq_true rfl) (Nat.le_of_ble_eq_true rfl) (Nat.le_of_ble_eq_true rfl) (Nat.le_of_ble_eq_true rfl) dJ7_copyOf_59c91_25 ?_
  rw [if_pos (nI_lt (b := 160) hn (by decide))]
  obtain ⟨l1, l2, l3, l4⟩ := lk_copyJ
  refine va_copyi (ty := .int) K.1 K.2.1 (K.2.2.1.trans hl.1.symm) K.2.2.2.1 (K.2.2.2.2.1 _ l1) (K.2.2.2.2.1 _ l2) (K.2.2.2.2.1 _ l3) (K.2.2.2.2.1 _ l4) K.2.2.2.2.2.1 hw.1 hw.2.1 hw.2.2 0 1 0 0 rfl rfl rfl rfl rfl (by decide) (by decide) (nI_pos (by omega)) (by rw [nI_clamp (by omega)]; show 0 + n ≤ 160; omega) (by rw [nI_clamp (by omega)]; show 0 + n ≤ n; omega) (fun i _ => rfl) (Nat.le_of_ble_eq_true rfl) (Nat.le_of_ble_eq_true rfl) dJ7_copyOf_59c91_28 (fun H locs hP hD hS => ?_)
  rw [nI_clamp (n := n) (by omega)] at hP hD
  have hw : Wd D A s.heap [(a, .inl (cy 0, 160, .inl f)), (q1, .inl (cy 0, n, .inl (va_cpy f (fun _ => 0) 0 0 n)))] H locs := ⟨hP, hD, hS⟩
  refine lv_aload_n K.1 K.2.1 dJ7_copyOf_59c91_31 rfl (lv_at hl 0 rfl) ?_
  exact rx_aret K hw hr (Or.inr ⟨_, rfl⟩) (Or.inr ⟨_, rfl⟩) ⟨q1, rfl, rfl⟩ dJ7_copyOf_59c91_32
end
