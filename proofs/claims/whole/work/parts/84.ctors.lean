section
theorem dX1_init_0 : decode cX1_init 0 = .ok (.aload_n 0, 1) := by decide +kernel
theorem dX1_init_1 : decode cX1_init 1 = .ok (.invokespecial 3, 3) := by decide +kernel
theorem dX1_init_4 : decode cX1_init 4 = .ok (.return_, 1) := by decide +kernel
theorem dX5_init_0 : decode cX5_init 0 = .ok (.aload_n 0, 1) := by decide +kernel
theorem dX5_init_1 : decode cX5_init 1 = .ok (.invokespecial 3, 3) := by decide +kernel
theorem dX5_init_4 : decode cX5_init 4 = .ok (.aload_n 0, 1) := by decide +kernel
theorem dX5_init_5 : decode cX5_init 5 = .ok (.sipush 160, 3) := by decide +kernel
theorem dX5_init_8 : decode cX5_init 8 = .ok (.newarray .int, 2) := by decide +kernel
theorem dX5_init_10 : decode cX5_init 10 = .ok (.putfield 9, 3) := by decide +kernel
theorem dX5_init_13 : decode cX5_init 13 = .ok (.return_, 1) := by decide +kernel
theorem dX2_init_0 : decode cX2_init 0 = .ok (.aload_n 0, 1) := by decide +kernel
theorem dX2_init_1 : decode cX2_init 1 = .ok (.invokespecial 3, 3) := by decide +kernel
theorem dX2_init_4 : decode cX2_init 4 = .ok (.aload_n 0, 1) := by decide +kernel
theorem dX2_init_5 : decode cX2_init 5 = .ok (.sipush 160, 3) := by decide +kernel
theorem dX2_init_8 : decode cX2_init 8 = .ok (.newarray .int, 2) := by decide +kernel
theorem dX2_init_10 : decode cX2_init 10 = .ok (.putfield 9, 3) := by decide +kernel
theorem dX2_init_13 : decode cX2_init 13 = .ok (.aload_n 0, 1) := by decide +kernel
theorem dX2_init_14 : decode cX2_init 14 = .ok (.aload_n 1, 1) := by decide +kernel
theorem dX2_init_15 : decode cX2_init 15 = .ok (.putfield 15, 3) := by decide +kernel
theorem dX2_init_18 : decode cX2_init 18 = .ok (.return_, 1) := by decide +kernel
theorem dX3_init_0 : decode cX3_init 0 = .ok (.aload_n 0, 1) := by decide +kernel
theorem dX3_init_1 : decode cX3_init 1 = .ok (.invokespecial 3, 3) := by decide +kernel
theorem dX3_init_4 : decode cX3_init 4 = .ok (.aload_n 0, 1) := by decide +kernel
theorem dX3_init_5 : decode cX3_init 5 = .ok (.iconst (-1), 1) := by decide +kernel
theorem dX3_init_6 : decode cX3_init 6 = .ok (.putfield 9, 3) := by decide +kernel
theorem dX3_init_9 : decode cX3_init 9 = .ok (.aload_n 0, 1) := by decide +kernel
theorem dX3_init_10 : decode cX3_init 10 = .ok (.bipush 40, 2) := by decide +kernel
theorem dX3_init_12 : decode cX3_init 12 = .ok (.newarray .int, 2) := by decide +kernel
theorem dX3_init_14 : decode cX3_init 14 = .ok (.putfield 15, 3) := by decide +kernel
theorem dX3_init_17 : decode cX3_init 17 = .ok (.return_, 1) := by decide +kernel
theorem dX4_init_0 : decode cX4_init 0 = .ok (.aload_n 0, 1) := by decide +kernel
theorem dX4_init_1 : decode cX4_init 1 = .ok (.invokespecial 3, 3) := by decide +kernel
theorem dX4_init_4 : decode cX4_init 4 = .ok (.aload_n 0, 1) := by decide +kernel
theorem dX4_init_5 : decode cX4_init 5 = .ok (.bipush 8, 2) := by decide +kernel
theorem dX4_init_7 : decode cX4_init 7 = .ok (.newarray .int, 2) := by decide +kernel
theorem dX4_init_9 : decode cX4_init 9 = .ok (.putfield 9, 3) := by decide +kernel
theorem dX4_init_12 : decode cX4_init 12 = .ok (.aload_n 0, 1) := by decide +kernel
theorem dX4_init_13 : decode cX4_init 13 = .ok (.bipush 8, 2) := by decide +kernel
theorem dX4_init_15 : decode cX4_init 15 = .ok (.newarray .int, 2) := by decide +kernel
theorem dX4_init_17 : decode cX4_init 17 = .ok (.putfield 15, 3) := by decide +kernel
theorem dX4_init_20 : decode cX4_init 20 = .ok (.aload_n 0, 1) := by decide +kernel
theorem dX4_init_21 : decode cX4_init 21 = .ok (.sipush 256, 3) := by decide +kernel
theorem dX4_init_24 : decode cX4_init 24 = .ok (.newarray .int, 2) := by decide +kernel
theorem dX4_init_26 : decode cX4_init 26 = .ok (.putfield 18, 3) := by decide +kernel
theorem dX4_init_29 : decode cX4_init 29 = .ok (.return_, 1) := by decide +kernel
theorem dX0_init_0 : decode cX0_init 0 = .ok (.aload_n 0, 1) := by decide +kernel
theorem dX0_init_1 : decode cX0_init 1 = .ok (.invokespecial 3, 3) := by decide +kernel
theorem dX0_init_4 : decode cX0_init 4 = .ok (.aload_n 0, 1) := by decide +kernel
theorem dX0_init_5 : decode cX0_init 5 = .ok (.bipush 10, 2) := by decide +kernel
theorem dX0_init_7 : decode cX0_init 7 = .ok (.putfield 9, 3) := by decide +kernel
theorem dX0_init_10 : decode cX0_init 10 = .ok (.aload_n 0, 1) := by decide +kernel
theorem dX0_init_11 : decode cX0_init 11 = .ok (.bipush 8, 2) := by decide +kernel
theorem dX0_init_13 : decode cX0_init 13 = .ok (.anewarray 15, 3) := by decide +kernel
theorem dX0_init_16 : decode cX0_init 16 = .ok (.putfield 17, 3) := by decide +kernel
theorem dX0_init_19 : decode cX0_init 19 = .ok (.iconst 0, 1) := by decide +kernel
theorem dX0_init_20 : decode cX0_init 20 = .ok (.istore_n 1, 1) := by decide +kernel
theorem dX0_init_21 : decode cX0_init 21 = .ok (.iload_n 1, 1) := by decide +kernel
theorem dX0_init_22 : decode cX0_init 22 = .ok (.bipush 8, 2) := by decide +kernel
theorem dX0_init_24 : decode cX0_init 24 = .ok (.if_icmp .ge 22, 3) := by decide +kernel
theorem dX0_init_27 : decode cX0_init 27 = .ok (.aload_n 0, 1) := by decide +kernel
theorem dX0_init_28 : decode cX0_init 28 = .ok (.getfield 17, 3) := by decide +kernel
theorem dX0_init_31 : decode cX0_init 31 = .ok (.iload_n 1, 1) := by decide +kernel
theorem dX0_init_32 : decode cX0_init 32 = .ok (.new 15, 3) := by decide +kernel
theorem dX0_init_35 : decode cX0_init 35 = .ok (.dup, 1) := by decide +kernel
theorem dX0_init_36 : decode cX0_init 36 = .ok (.invokespecial 21, 3) := by decide +kernel
theorem dX0_init_39 : decode cX0_init 39 = .ok (.aastore, 1) := by decide +kernel
theorem dX0_init_40 : decode cX0_init 40 = .ok (.iinc 1 1, 3) := by decide +kernel
theorem dX0_init_43 : decode cX0_init 43 = .ok (.goto (-22), 3) := by decide +kernel
theorem dX0_init_46 : decode cX0_init 46 = .ok (.return_, 1) := by decide +kernel
/-! ===== constructors ===== -/
abbrev z6 : List Value := [.int 0, .int 0, .int 0, .int 0, .int 0, .int 0]
theorem cx_X1_init (l : Launch) (D : va_G) (cy : Nat → ClassId) (A : Nat → Prop) (X : Nat → Nat) (sz : Nat) (hA0 : ∀ q, sz ≤ q → A q) (h0 : Nat) : MetX l yX1_init cX1_init 1 none 1 0 0 [.ref h0] [(h0, .inr (1, z6))] D cy A X sz (fun v w => v = none ∧ w = [(h0, .inr (1, z6))]) := by
  refine Met.ofW (cc := cX1_init) (maxL := 1) (ret := none) (by decide) rfl ?_
  intro p e s m args below meth c s₁ B hml hv
  obtain ⟨rfl, hsz, hP, hK0, hD, KX, KS⟩ := hv
  have K : Kx p s m _ meth c cX1_init 1 RX1 D cy := ⟨B.exec, B.bytes, hml, findClass_of_methodNamed B.named, fun w h => atoms_spec (ws := Cond.code yX1_init cX1_init 1 none :: TT) B.pre w (List.mem_cons_of_mem _ h), hK0, B.notSynchronized⟩
  have hw : Wd D A s.heap [(h0, .inr (1, z6))] s.heap [] := ⟨hP, hD, va_S.rf⟩
  have hr := B.returns
  have hin : meth.name = "<init>" := (name_of_methodNamed B.named B.method).1
  have hA : ∀ q, s.heap.size ≤ q → A q := fun q h => hA0 q (by rw [← hsz]; exact h)
  have hl := lv_entry ([.ref h0]) (n := 1) (Nat.le_of_ble_eq_true rfl)
  rw [lg_entry_eq]
  generalize (lg_sl ([.ref h0]) ++ List.replicate (1 - (lg_sl ([.ref h0])).length) Slot.unset).toArray = ls at hl ⊢
  have hl : lv_has ls 1 [(0, .ref h0)] := hl
  refine lv_aload_n K.1 K.2.1 dX1_init_0 rfl (lv_at hl 0 rfl) ?_
  refine W.objInit K.1 K.2.1 K.2.2.2.1 (K.2.2.2.2.1 _ ko_X1_3) (K.2.2.2.2.1 _ ko_inst) (K.2.2.2.2.1 _ ko_code) rfl (by rw [K.2.2.1]; exact hl.1) rfl dX1_init_1 (Nat.le_of_ble_eq_true rfl) (Nat.le_of_ble_eq_true rfl) ?_
  refine W.eq (g2 := F0 m 4 ls []) rfl ?_
  exact rx_vret K hw hr ⟨rfl, rfl⟩ dX1_init_4
theorem cx_X5_init (l : Launch) (D : va_G) (cy : Nat → ClassId) (A : Nat → Prop) (X : Nat → Nat) (sz : Nat) (hA0 : ∀ q, sz ≤ q → A q) (h0 : Nat) : MetX l yX5_init cX5_init 1 none 1 1 160 [.ref h0] [(h0, .inr (5, [.null, .int 0, .int 0, .int 0, .int 0, .int 0]))] D cy A X sz (fun v w => v = none ∧ ∃ q1, w = [(h0, .inr (5, [.ref q1, .int 0, .int 0, .int 0, .int 0, .int 0])), (q1, .inl (cy 0, 160, .inl (fun _ => 0)))]) := by
  refine Met.ofW (cc := cX5_init) (maxL := 1) (ret := none) (by decide) rfl ?_
  intro p e s m args below meth c s₁ B hml hv
  obtain ⟨rfl, hsz, hP, hK0, hD, KX, KS⟩ := hv
  have K : Kx p s m _ meth c cX5_init 1 RX5 D cy := ⟨B.exec, B.bytes, hml, findClass_of_methodNamed B.named, fun w h => atoms_spec (ws := Cond.code yX5_init cX5_init 1 none :: TT) B.pre w (List.mem_cons_of_mem _ h), hK0, B.notSynchronized⟩
  have hw : Wd D A s.heap [(h0, .inr (5, [.null, .int 0, .int 0, .int 0, .int 0, .int 0]))] s.heap [] := ⟨hP, hD, va_S.rf⟩
  have hr := B.returns
  have hin : meth.name = "<init>" := (name_of_methodNamed B.named B.method).1
  have hA : ∀ q, s.heap.size ≤ q → A q := fun q h => hA0 q (by rw [← hsz]; exact h)
  have hl := lv_entry ([.ref h0]) (n := 1) (Nat.le_of_ble_eq_true rfl)
  rw [lg_entry_eq]
  generalize (lg_sl ([.ref h0]) ++ List.replicate (1 - (lg_sl ([.ref h0])).length) Slot.unset).toArray = ls at hl ⊢
  have hl : lv_has ls 1 [(0, .ref h0)] := hl
  refine lv_aload_n K.1 K.2.1 dX5_init_0 rfl (lv_at hl 0 rfl) ?_
  refine W.objInit K.1 K.2.1 K.2.2.2.1 (K.2.2.2.2.1 _ ko_X5_3) (K.2.2.2.2.1 _ ko_inst) (K.2.2.2.2.1 _ ko_code) rfl (by rw [K.2.2.1]; exact hl.1) rfl dX5_init_1 (Nat.le_of_ble_eq_true rfl) (Nat.le_of_ble_eq_true rfl) ?_
  refine W.eq (g2 := F0 m 4 ls []) rfl ?_
  refine lv_aload_n K.1 K.2.1 dX5_init_4 rfl (lv_at hl 0 rfl) ?_
  refine lv_sipush (v := (160 : Int32)) K.1 K.2.1 dX5_init_5 (by decide) ?_
  refine rx_newi (N := 160) K hA hw ka_int (by decide) (by decide) (by decide) (Nat.le_of_ble_eq_true rfl) (Nat.le_of_ble_eq_true rfl) dX5_init_8 (fun q1 H hw => ?_)
  have hw : Wd D A s.heap [(h0, .inr (5, [.null, .int 0, .int 0, .int 0, .int 0, .int 0])), (q1, .inl (cy 0, 160, .inl (fun _ => 0)))] H _ := hw
  refine W.widen (k := 1) (n := 160) (Nat.le_of_ble_eq_true rfl) (Nat.le_of_ble_eq_true rfl) ?_
  refine rx_putF layX5 (ci := 5) rfl tyX5_ok nmX5 0 (by decide) (k := 0) K hw rfl kf_X5_9 rfl hin rfl (tyX5_ok 0 (by decide)) rfl rfl (Nat.le_of_ble_eq_true rfl) dX5_init_10 (fun H locs hw => ?_)
  have hw : Wd D A s.heap [(h0, .inr (5, [.ref q1, .int 0, .int 0, .int 0, .int 0, .int 0])), (q1, .inl (cy 0, 160, .inl (fun _ => 0)))] H locs := hw
  exact rx_vret K hw hr ⟨rfl, q1, rfl⟩ dX5_init_13
theorem cx_X2_init (l : Launch) (D : va_G) (cy : Nat → ClassId) (A : Nat → Prop) (X : Nat → Nat) (sz : Nat) (hA0 : ∀ q, sz ≤ q → A q) (h0 tp : Nat) : MetX l yX2_init cX2_init 2 none 1 1 160 [.ref h0, .ref tp] [(h0, .inr (2, [.null, .null, .int 0]))] D cy A X sz (fun v w => v = none ∧ ∃ q1, w = [(h0, .inr (2, [.ref tp, .ref q1, .int 0])), (q1, .inl (cy 0, 160, .inl (fun _ => 0)))]) := by
  refine Met.ofW (cc := cX2_init) (maxL := 2) (ret := none) (by decide) rfl ?_
  intro p e s m args below meth c s₁ B hml hv
  obtain ⟨rfl, hsz, hP, hK0, hD, KX, KS⟩ := hv
  have K : Kx p s m _ meth c cX2_init 2 RX2 D cy := ⟨B.exec, B.bytes, hml, findClass_of_methodNamed B.named, fun w h => atoms_spec (ws := Cond.code yX2_init cX2_init 2 none :: TT) B.pre w (List.mem_cons_of_mem _ h), hK0, B.notSynchronized⟩
  have hw : Wd D A s.heap [(h0, .inr (2, [.null, .null, .int 0]))] s.heap [] := ⟨hP, hD, va_S.rf⟩
  have hr := B.returns
  have hin : meth.name = "<init>" := (name_of_methodNamed B.named B.method).1
  have hA : ∀ q, s.heap.size ≤ q → A q := fun q h => hA0 q (by rw [← hsz]; exact h)
  have hl := lv_entry ([.ref h0, .ref tp]) (n := 2) (Nat.le_of_ble_eq_true rfl)
  rw [lg_entry_eq]
  generalize (lg_sl ([.ref h0, .ref tp]) ++ List.replicate (2 - (lg_sl ([.ref h0, .ref tp])).length) Slot.unset).toArray = ls at hl ⊢
  have hl : lv_has ls 2 [(0, .ref h0), (1, .ref tp)] := hl
  refine lv_aload_n K.1 K.2.1 dX2_init_0 rfl (lv_at hl 0 rfl) ?_
  refine W.objInit K.1 K.2.1 K.2.2.2.1 (K.2.2.2.2.1 _ ko_X2_3) (K.2.2.2.2.1 _ ko_inst) (K.2.2.2.2.1 _ ko_code) rfl (by rw [K.2.2.1]; exact hl.1) rfl dX2_init_1 (Nat.le_of_ble_eq_true rfl) (Nat.le_of_ble_eq_true rfl) ?_
  refine W.eq (g2 := F0 m 4 ls []) rfl ?_
  refine lv_aload_n K.1 K.2.1 dX2_init_4 rfl (lv_at hl 0 rfl) ?_
  refine lv_sipush (v := (160 : Int32)) K.1 K.2.1 dX2_init_5 (by decide) ?_
  refine rx_newi (N := 160) K hA hw ka_int (by decide) (by decide) (by decide) (Nat.le_of_ble_eq_true rfl) (Nat.le_of_ble_eq_true rfl) dX2_init_8 (fun q1 H hw => ?_)
  have hw : Wd D A s.heap [(h0, .inr (2, [.null, .null, .int 0])), (q1, .inl (cy 0, 160, .inl (fun _ => 0)))] H _ := hw
  refine W.widen (k := 1) (n := 160) (Nat.le_of_ble_eq_true rfl) (Nat.le_of_ble_eq_true rfl) ?_
  refine rx_putF layX2 (ci := 2) rfl tyX2_ok nmX2 1 (by decide) (k := 0) K hw rfl kf_X2_9 rfl hin rfl (tyX2_ok 1 (by decide)) rfl rfl (Nat.le_of_ble_eq_true rfl) dX2_init_10 (fun H locs hw => ?_)
  have hw : Wd D A s.heap [(h0, .inr (2, [.null, .ref q1, .int 0])), (q1, .inl (cy 0, 160, .inl (fun _ => 0)))] H locs := hw
  refine lv_aload_n K.1 K.2.1 dX2_init_13 rfl (lv_at hl 0 rfl) ?_
  refine lv_aload_n K.1 K.2.1 dX2_init_14 rfl (lv_at hl 1 rfl) ?_
  refine rx_putF layX2 (ci := 2) rfl tyX2_ok nmX2 0 (by decide) (k := 0) K hw rfl kf_X2_15 rfl hin rfl (tyX2_ok 0 (by decide)) rfl rfl (Nat.le_of_ble_eq_true rfl) dX2_init_15 (fun H locs hw => ?_)
  have hw : Wd D A s.heap [(h0, .inr (2, [.ref tp, .ref q1, .int 0])), (q1, .inl (cy 0, 160, .inl (fun _ => 0)))] H locs := hw
  exact rx_vret K hw hr ⟨rfl, q1, rfl⟩ dX2_init_18
theorem cx_X3_init (l : Launch) (D : va_G) (cy : Nat → ClassId) (A : Nat → Prop) (X : Nat → Nat) (sz : Nat) (hA0 : ∀ q, sz ≤ q → A q) (h0 : Nat) : MetX l yX3_init cX3_init 1 none 1 1 40 [.ref h0] [(h0, .inr (3, [.int 0, .int 0, .null]))] D cy A X sz (fun v w => v = none ∧ ∃ q1, w = [(h0, .inr (3, [.int (-1 : Int32), .int 0, .ref q1])), (q1, .inl (cy 0, 40, .inl (fun _ => 0)))]) := by
  refine Met.ofW (cc := cX3_init) (maxL := 1) (ret := none) (by decide) rfl ?_
  intro p e s m args below meth c s₁ B hml hv
  obtain ⟨rfl, hsz, hP, hK0, hD, KX, KS⟩ := hv
  have K : Kx p s m _ meth c cX3_init 1 RX3 D cy := ⟨B.exec, B.bytes, hml, findClass_of_methodNamed B.named, fun w h => atoms_spec (ws := Cond.code yX3_init cX3_init 1 none :: TT) B.pre w (List.mem_cons_of_mem _ h), hK0, B.notSynchronized⟩
  have hw : Wd D A s.heap [(h0, .inr (3, [.int 0, .int 0, .null]))] s.heap [] := ⟨hP, hD, va_S.rf⟩
  have hr := B.returns
  have hin : meth.name = "<init>" := (name_of_methodNamed B.named B.method).1
  have hA : ∀ q, s.heap.size ≤ q → A q := fun q h => hA0 q (by rw [← hsz]; exact h)
  have hl := lv_entry ([.ref h0]) (n := 1) (Nat.le_of_ble_eq_true rfl)
  rw [lg_entry_eq]
  generalize (lg_sl ([.ref h0]) ++ List.replicate (1 - (lg_sl ([.ref h0])).length) Slot.unset).toArray = ls at hl ⊢
  have hl : lv_has ls 1 [(0, .ref h0)] := hl
  refine lv_aload_n K.1 K.2.1 dX3_init_0 rfl (lv_at hl 0 rfl) ?_
  refine W.objInit K.1 K.2.1 K.2.2.2.1 (K.2.2.2.2.1 _ ko_X3_3) (K.2.2.2.2.1 _ ko_inst) (K.2.2.2.2.1 _ ko_code) rfl (by rw [K.2.2.1]; exact hl.1) rfl dX3_init_1 (Nat.le_of_ble_eq_true rfl) (Nat.le_of_ble_eq_true rfl) ?_
  refine W.eq (g2 := F0 m 4 ls []) rfl ?_
  refine lv_aload_n K.1 K.2.1 dX3_init_4 rfl (lv_at hl 0 rfl) ?_
  refine lv_iconst (v := (-1 : Int32)) K.1 K.2.1 dX3_init_5 (by decide) ?_
  refine rx_put layX3 (ci := 3) rfl tyX3_ok nmX3 0 (by decide) (k := 0) K hw rfl kf_X3_9 rfl (tyX3_ok 0 (by decide)) rfl rfl (Nat.le_of_ble_eq_true rfl) dX3_init_6 (fun H locs hw => ?_)
  have hw : Wd D A s.heap [(h0, .inr (3, [.int (-1 : Int32), .int 0, .null]))] H locs := hw
  refine lv_aload_n K.1 K.2.1 dX3_init_9 rfl (lv_at hl 0 rfl) ?_
  refine lv_bipush (v := (40 : Int32)) K.1 K.2.1 dX3_init_10 (by decide) ?_
  refine rx_newi (N := 40) K hA hw ka_int (by decide) (by decide) (by decide) (Nat.le_of_ble_eq_true rfl) (Nat.le_of_ble_eq_true rfl) dX3_init_12 (fun q1 H hw => ?_)
  have hw : Wd D A s.heap [(h0, .inr (3, [.int (-1 : Int32), .int 0, .null])), (q1, .inl (cy 0, 40, .inl (fun _ => 0)))] H _ := hw
  refine W.widen (k := 1) (n := 40) (Nat.le_of_ble_eq_true rfl) (Nat.le_of_ble_eq_true rfl) ?_
  refine rx_putF layX3 (ci := 3) rfl tyX3_ok nmX3 2 (by decide) (k := 0) K hw rfl kf_X3_15 rfl hin rfl (tyX3_ok 2 (by decide)) rfl rfl (Nat.le_of_ble_eq_true rfl) dX3_init_14 (fun H locs hw => ?_)
  have hw : Wd D A s.heap [(h0, .inr (3, [.int (-1 : Int32), .int 0, .ref q1])), (q1, .inl (cy 0, 40, .inl (fun _ => 0)))] H locs := hw
  exact rx_vret K hw hr ⟨rfl, q1, rfl⟩ dX3_init_17
theorem cx_X4_init (l : Launch) (D : va_G) (cy : Nat → ClassId) (A : Nat → Prop) (X : Nat → Nat) (sz : Nat) (hA0 : ∀ q, sz ≤ q → A q) (h0 : Nat) : MetX l yX4_init cX4_init 1 none 1 3 272 [.ref h0] [(h0, .inr (4, [.int 0, .int 0, .int 0, .null, .null, .null]))] D cy A X sz (fun v w => v = none ∧ ∃ q1 q2 q3, w = [(h0, .inr (4, [.int 0, .int 0, .int 0, .ref q1, .ref q2, .ref q3])), (q1, .inl (cy 0, 8, .inl (fun _ => 0))), (q2, .inl (cy 0, 8, .inl (fun _ => 0))), (q3, .inl (cy 0, 256, .inl (fun _ => 0)))]) := by
  refine Met.ofW (cc := cX4_init) (maxL := 1) (ret := none) (by decide) rfl ?_
  intro p e s m args below meth c s₁ B hml hv
  obtain ⟨rfl, hsz, hP, hK0, hD, KX, KS⟩ := hv
  have K : Kx p s m _ meth c cX4_init 1 RX4 D cy := ⟨B.exec, B.bytes, hml, findClass_of_methodNamed B.named, fun w h => atoms_spec (ws := Cond.code yX4_init cX4_init 1 none :: TT) B.pre w (List.mem_cons_of_mem _ h), hK0, B.notSynchronized⟩
  have hw : Wd D A s.heap [(h0, .inr (4, [.int 0, .int 0, .int 0, .null, .null, .null]))] s.heap [] := ⟨hP, hD, va_S.rf⟩
  have hr := B.returns
  have hin : meth.name = "<init>" := (name_of_methodNamed B.named B.method).1
  have hA : ∀ q, s.heap.size ≤ q → A q := fun q h => hA0 q (by rw [← hsz]; exact h)
  have hl := lv_entry ([.ref h0]) (n := 1) (Nat.le_of_ble_eq_true rfl)
  rw [lg_entry_eq]
  generalize (lg_sl ([.ref h0]) ++ List.replicate (1 - (lg_sl ([.ref h0])).length) Slot.unset).toArray = ls at hl ⊢
  have hl : lv_has ls 1 [(0, .ref h0)] := hl
  refine lv_aload_n K.1 K.2.1 dX4_init_0 rfl (lv_at hl 0 rfl) ?_
  refine W.objInit K.1 K.2.1 K.2.2.2.1 (K.2.2.2.2.1 _ ko_X4_3) (K.2.2.2.2.1 _ ko_inst) (K.2.2.2.2.1 _ ko_code) rfl (by rw [K.2.2.1]; exact hl.1) rfl dX4_init_1 (Nat.le_of_ble_eq_true rfl) (Nat.le_of_ble_eq_true rfl) ?_
  refine W.eq (g2 := F0 m 4 ls []) rfl ?_
  refine lv_aload_n K.1 K.2.1 dX4_init_4 rfl (lv_at hl 0 rfl) ?_
  refine lv_bipush (v := (8 : Int32)) K.1 K.2.1 dX4_init_5 (by decide) ?_
  refine rx_newi (N := 8) K hA hw ka_int (by decide) (by decide) (by decide) (Nat.le_of_ble_eq_true rfl) (Nat.le_of_ble_eq_true rfl) dX4_init_7 (fun q1 H hw => ?_)
  have hw : Wd D A s.heap [(h0, .inr (4, [.int 0, .int 0, .int 0, .null, .null, .null])), (q1, .inl (cy 0, 8, .inl (fun _ => 0)))] H _ := hw
  refine W.widen (k := 1) (n := 8) (Nat.le_of_ble_eq_true rfl) (Nat.le_of_ble_eq_true rfl) ?_
  refine rx_putF layX4 (ci := 4) rfl tyX4_ok nmX4 3 (by decide) (k := 0) K hw rfl kf_X4_9 rfl hin rfl (tyX4_ok 3 (by decide)) rfl rfl (Nat.le_of_ble_eq_true rfl) dX4_init_9 (fun H locs hw => ?_)
  have hw : Wd D A s.heap [(h0, .inr (4, [.int 0, .int 0, .int 0, .ref q1, .null, .null])), (q1, .inl (cy 0, 8, .inl (fun _ => 0)))] H locs := hw
  refine lv_aload_n K.1 K.2.1 dX4_init_12 rfl (lv_at hl 0 rfl) ?_
  refine lv_bipush (v := (8 : Int32)) K.1 K.2.1 dX4_init_13 (by decide) ?_
  refine rx_newi (N := 8) K hA hw ka_int (by decide) (by decide) (by decide) (Nat.le_of_ble_eq_true rfl) (Nat.le_of_ble_eq_true rfl) dX4_init_15 (fun q2 H hw => ?_)
  have hw : Wd D A s.heap [(h0, .inr (4, [.int 0, .int 0, .int 0, .ref q1, .null, .null])), (q1, .inl (cy 0, 8, .inl (fun _ => 0))), (q2, .inl (cy 0, 8, .inl (fun _ => 0)))] H _ := hw
  refine W.widen (k := 2) (n := 16) (Nat.le_of_ble_eq_true rfl) (Nat.le_of_ble_eq_true rfl) ?_
  refine rx_putF layX4 (ci := 4) rfl tyX4_ok nmX4 4 (by decide) (k := 0) K hw rfl kf_X4_15 rfl hin rfl (tyX4_ok 4 (by decide)) rfl rfl (Nat.le_of_ble_eq_true rfl) dX4_init_17 (fun H locs hw => ?_)
  have hw : Wd D A s.heap [(h0, .inr (4, [.int 0, .int 0, .int 0, .ref q1, .ref q2, .null])), (q1, .inl (cy 0, 8, .inl (fun _ => 0))), (q2, .inl (cy 0, 8, .inl (fun _ => 0)))] H locs := hw
  refine lv_aload_n K.1 K.2.1 dX4_init_20 rfl (lv_at hl 0 rfl) ?_
  refine lv_sipush (v := (256 : Int32)) K.1 K.2.1 dX4_init_21 (by decide) ?_
  refine rx_newi (N := 256) K hA hw ka_int (by decide) (by decide) (by decide) (Nat.le_of_ble_eq_true rfl) (Nat.le_of_ble_eq_true rfl) dX4_init_24 (fun q3 H hw => ?_)
  have hw : Wd D A s.heap [(h0, .inr (4, [.int 0, .int 0, .int 0, .ref q1, .ref q2, .null])), (q1, .inl (cy 0, 8, .inl (fun _ => 0))), (q2, .inl (cy 0, 8, .inl (fun _ => 0))), (q3, .inl (cy 0, 256, .inl (fun _ => 0)))] H _ := hw
  refine W.widen (k := 3) (n := 272) (Nat.le_of_ble_eq_true rfl) (Nat.le_of_ble_eq_true rfl) ?_
  refine rx_putF layX4 (ci := 4) rfl tyX4_ok nmX4 5 (by decide) (k := 0) K hw rfl kf_X4_18 rfl hin rfl (tyX4_ok 5 (by decide)) rfl rfl (Nat.le_of_ble_eq_true rfl) dX4_init_26 (fun H locs hw => ?_)
  have hw : Wd D A s.heap [(h0, .inr (4, [.int 0, .int 0, .int 0, .ref q1, .ref q2, .ref q3])), (q1, .inl (cy 0, 8, .inl (fun _ => 0))), (q2, .inl (cy 0, 8, .inl (fun _ => 0))), (q3, .inl (cy 0, 256, .inl (fun _ => 0)))] H locs := hw
  exact rx_vret K hw hr ⟨rfl, q1, q2, q3, rfl⟩ dX4_init_29
theorem cx_X0_init (l : Launch) (D : va_G) (cy : Nat → ClassId) (A : Nat → Prop) (X : Nat → Nat) (sz : Nat) (hA0 : ∀ q, sz ≤ q → A q) (h0 : Nat) : MetX l yX0_init cX0_init 2 none 2 9 56 [.ref h0] [(h0, .inr (0, [.int 0, .int 0, .int 0, .int 0, .null]))] D cy A X sz (fun v w => v = none ∧ ∃ r p0 p1 p2 p3 p4 p5 p6 p7, w = [(h0, .inr (0, [.int 0, .int 0, .int 0, .int (10 : Int32), .ref r])), (r, .inl (cy 2, 8, rf5 (va_up (va_up (va_up (va_up (va_up (va_up (va_up (va_up (fun _ => none) (0 : Int32).toNatClampNeg (some p0)) (1 : Int32).toNatClampNeg (some p1)) (2 : Int32).toNatClampNeg (some p2)) (3 : Int32).toNatClampNeg (some p3)) (4 : Int32).toNatClampNeg (some p4)) (5 : Int32).toNatClampNeg (some p5)) (6 : Int32).toNatClampNeg (some p6)) (7 : Int32).toNatClampNeg (some p7)))), (p0, .inr (1, z6)), (p1, .inr (1, z6)), (p2, .inr (1, z6)), (p3, .inr (1, z6)), (p4, .inr (1, z6)), (p5, .inr (1, z6)), (p6, .inr (1, z6)), (p7, .inr (1, z6))]) := by
  refine Met.ofW (cc := cX0_init) (maxL := 2) (ret := none) (by decide) rfl ?_
  intro p e s m args below meth c s₁ B hml hv
  obtain ⟨rfl, hsz, hP, hK0, hD, KX, KS⟩ := hv
  have K : Kx p s m _ meth c cX0_init 2 RX0 D cy := ⟨B.exec, B.bytes, hml, findClass_of_methodNamed B.named, fun w h => atoms_spec (ws := Cond.code yX0_init cX0_init 2 none :: TT) B.pre w (List.mem_cons_of_mem _ h), hK0, B.notSynchronized⟩
  have hw : Wd D A s.heap [(h0, .inr (0, [.int 0, .int 0, .int 0, .int 0, .null]))] s.heap [] := ⟨hP, hD, va_S.rf⟩
  have hr := B.returns
  have hin : meth.name = "<init>" := (name_of_methodNamed B.named B.method).1
  have hA : ∀ q, s.heap.size ≤ q → A q := fun q h => hA0 q (by rw [← hsz]; exact h)
  have hl := lv_entry ([.ref h0]) (n := 2) (Nat.le_of_ble_eq_true rfl)
  rw [lg_entry_eq]
  generalize (lg_sl ([.ref h0]) ++ List.replicate (2 - (lg_sl ([.ref h0])).length) Slot.unset).toArray = ls at hl ⊢
  have hl : lv_has ls 2 [(0, .ref h0)] := hl
  refine lv_aload_n K.1 K.2.1 dX0_init_0 rfl (lv_at hl 0 rfl) ?_
  refine W.objInit K.1 K.2.1 K.2.2.2.1 (K.2.2.2.2.1 _ ko_X0_3) (K.2.2.2.2.1 _ ko_inst) (K.2.2.2.2.1 _ ko_code) rfl (by rw [K.2.2.1]; exact hl.1) rfl dX0_init_1 (Nat.le_of_ble_eq_true rfl) (Nat.le_of_ble_eq_true rfl) ?_
  refine W.eq (g2 := F0 m 4 ls []) rfl ?_
  refine lv_aload_n K.1 K.2.1 dX0_init_4 rfl (lv_at hl 0 rfl) ?_
  refine lv_bipush (v := (10 : Int32)) K.1 K.2.1 dX0_init_5 (by decide) ?_
  refine rx_put layX0 (ci := 0) rfl tyX0_ok nmX0 3 (by decide) (k := 0) K hw rfl kf_X0_9 rfl (tyX0_ok 3 (by decide)) rfl rfl (Nat.le_of_ble_eq_true rfl) dX0_init_7 (fun H locs hw => ?_)
  have hw : Wd D A s.heap [(h0, .inr (0, [.int 0, .int 0, .int 0, .int (10 : Int32), .null]))] H locs := hw
  refine lv_aload_n K.1 K.2.1 dX0_init_10 rfl (lv_at hl 0 rfl) ?_
  refine lv_bipush (v := (8 : Int32)) K.1 K.2.1 dX0_init_11 (by decide) ?_
  refine rx_newq (N := 8) (t0 := 2) K hA hw KS.1 kc_X0_15 rfl (by decide) (by decide) (by decide) (Nat.le_of_ble_eq_true rfl) (Nat.le_of_ble_eq_true rfl) dX0_init_13 (fun q1 H hw => ?_)
  have hw : Wd D A s.heap [(h0, .inr (0, [.int 0, .int 0, .int 0, .int (10 : Int32), .null])), (q1, .inl (cy 2, 8, rf5 (fun _ => none)))] H _ := hw
  refine W.widen (k := 1) (n := 8) (Nat.le_of_ble_eq_true rfl) (Nat.le_of_ble_eq_true rfl) ?_
  refine rx_putF layX0 (ci := 0) rfl tyX0_ok nmX0 4 (by decide) (k := 0) K hw rfl kf_X0_17 rfl hin rfl (tyX0_ok 4 (by decide)) rfl rfl (Nat.le_of_ble_eq_true rfl) dX0_init_16 (fun H locs hw => ?_)
  have hw : Wd D A s.heap [(h0, .inr (0, [.int 0, .int 0, .int 0, .int (10 : Int32), .ref q1])), (q1, .inl (cy 2, 8, rf5 (fun _ => none)))] H locs := hw
  refine lv_iconst (v := (0 : Int32)) K.1 K.2.1 dX0_init_19 (by decide) ?_
  refine lv_istore_n (lv' := [(1, .int (0 : Int32)), (0, .ref h0)]) K.1 K.2.1 dX0_init_20 rfl hl (by decide) rfl (fun ls hl => ?_)
  refine lv_iload_n K.1 K.2.1 dX0_init_21 rfl (lv_at hl 0 rfl) ?_
  refine lv_bipush (v := (8 : Int32)) K.1 K.2.1 dX0_init_22 (by decide) ?_
  refine lv_icmp_ge (tgt := 46) K.1 K.2.1 dX0_init_24 (by decide) (fun h => absurd h (by decide)) (fun _ => ?_)
  refine lv_aload_n K.1 K.2.1 dX0_init_27 rfl (lv_at hl 1 rfl) ?_
  refine rc_get layX0 (ci := 0) rfl 4 (by decide) (k := 0) (v := .ref q1) K hw rfl kf_X0_17 rfl dX0_init_28 ?_
  refine lv_iload_n K.1 K.2.1 dX0_init_31 rfl (lv_at hl 0 rfl) ?_
  refine rx_new (fs := [.int 0, .int 0, .int 0, .int 0, .int 0, .int 0]) layX1 (ci := 1) rfl tyX1_ok K hA hw kc_X0_15 kn_X1 kz_X1 (by decide) (Nat.le_of_ble_eq_true rfl) (Nat.le_of_ble_eq_true rfl) dX0_init_32 (fun q2 H hw => ?_)
  have hw : Wd D A s.heap [(h0, .inr (0, [.int 0, .int 0, .int 0, .int (10 : Int32), .ref q1])), (q1, .inl (cy 2, 8, rf5 (fun _ => none))), (q2, .inr (1, [.int 0, .int 0, .int 0, .int 0, .int 0, .int 0]))] H _ := hw
  refine W.widen (k := 2) (n := 14) (Nat.le_of_ble_eq_true rfl) (Nat.le_of_ble_eq_true rfl) ?_
  refine lv_dup K.1 K.2.1 dX0_init_35 rfl ?_
  refine rx_J (wl := [(h0, .inr (0, [.int 0, .int 0, .int 0, .int (10 : Int32), .ref q1])), (q1, .inl (cy 2, 8, rf5 (fun _ => none)))]) (wc := [(q2, .inr (1, [.int 0, .int 0, .int 0, .int 0, .int 0, .int 0]))]) (wr := []) (As := []) (rest := [.ref q2, .int (0 : Int32), .ref q1]) K KX KS hA hw (cx_X1_init l D cy _ X _ (fun q h => Or.inr h) q2) KS.2.2.2.1 lj_X1_init ⟨Nat.le_of_ble_eq_true rfl, Nat.le_of_ble_eq_true rfl⟩ ⟨Nat.le_of_ble_eq_true rfl, Nat.le_of_ble_eq_true rfl⟩ rfl hl.1 (Nat.le_of_ble_eq_true rfl) rfl dX0_init_36 (fun v w3 H locs hB hw => ?_)
  obtain ⟨rfl, rfl⟩ := hB
  have hw : Wd D A s.heap [(h0, .inr (0, [.int 0, .int 0, .int 0, .int (10 : Int32), .ref q1])), (q1, .inl (cy 2, 8, rf5 (fun _ => none))), (q2, .inr (1, z6))] H locs := hw
  refine W.widen (k := 2) (n := 14) (Nat.le_of_ble_eq_true rfl) (Nat.le_of_ble_eq_true rfl) ?_
  refine W.eq (g2 := F0 m 39 ls [.ref q2, .int (0 : Int32), .ref q1]) rfl ?_
  refine rx_astq (k := 1) (qk := 2) (ci := 1) (t0 := 2) K hw rfl rfl rfl rfl (by unfold vp_in; decide) dX0_init_39 (fun H locs hw => ?_)
  have hw : Wd D A s.heap [(h0, .inr (0, [.int 0, .int 0, .int 0, .int (10 : Int32), .ref q1])), (q1, .inl (cy 2, 8, rf5 (va_up (fun _ => none) (0 : Int32).toNatClampNeg (some q2)))), (q2, .inr (1, z6))] H locs := hw
  refine lv_iinc (v := (1 : Int32)) (lv' := [(1, .int (1 : Int32)), (0, .ref h0)]) K.1 K.2.1 dX0_init_40 hl (k := 0) rfl (by decide) (by decide) rfl (fun ls hl => ?_)
  refine lv_goto (tgt := 21) K.1 K.2.1 dX0_init_43 (by decide) ?_
  refine lv_iload_n K.1 K.2.1 dX0_init_21 rfl (lv_at hl 0 rfl) ?_
  refine lv_bipush (v := (8 : Int32)) K.1 K.2.1 dX0_init_22 (by decide) ?_
  refine lv_icmp_ge (tgt := 46) K.1 K.2.1 dX0_init_24 (by decide) (fun h => absurd h (by decide)) (fun _ => ?_)
  refine lv_aload_n K.1 K.2.1 dX0_init_27 rfl (lv_at hl 1 rfl) ?_
  refine rc_get layX0 (ci := 0) rfl 4 (by decide) (k := 0) (v := .ref q1) K hw rfl kf_X0_17 rfl dX0_init_28 ?_
  refine lv_iload_n K.1 K.2.1 dX0_init_31 rfl (lv_at hl 0 rfl) ?_
  refine rx_new (fs := [.int 0, .int 0, .int 0, .int 0, .int 0, .int 0]) layX1 (ci := 1) rfl tyX1_ok K hA hw kc_X0_15 kn_X1 kz_X1 (by decide) (Nat.le_of_ble_eq_true rfl) (Nat.le_of_ble_eq_true rfl) dX0_init_32 (fun q4 H hw => ?_)
  have hw : Wd D A s.heap [(h0, .inr (0, [.int 0, .int 0, .int 0, .int (10 : Int32), .ref q1])), (q1, .inl (cy 2, 8, rf5 (va_up (fun _ => none) (0 : Int32).toNatClampNeg (some q2)))), (q2, .inr (1, z6)), (q4, .inr (1, [.int 0, .int 0, .int 0, .int 0, .int 0, .int 0]))] H _ := hw
  refine W.widen (k := 3) (n := 20) (Nat.le_of_ble_eq_true rfl) (Nat.le_of_ble_eq_true rfl) ?_
  refine lv_dup K.1 K.2.1 dX0_init_35 rfl ?_
  refine rx_J (wl := [(h0, .inr (0, [.int 0, .int 0, .int 0, .int (10 : Int32), .ref q1])), (q1, .inl (cy 2, 8, rf5 (va_up (fun _ => none) (0 : Int32).toNatClampNeg (some q2)))), (q2, .inr (1, z6))]) (wc := [(q4, .inr (1, [.int 0, .int 0, .int 0, .int 0, .int 0, .int 0]))]) (wr := []) (As := []) (rest := [.ref q4, .int (1 : Int32), .ref q1]) K KX KS hA hw (cx_X1_init l D cy _ X _ (fun q h => Or.inr h) q4) KS.2.2.2.1 lj_X1_init ⟨Nat.le_of_ble_eq_true rfl, Nat.le_of_ble_eq_true rfl⟩ ⟨Nat.le_of_ble_eq_true rfl, Nat.le_of_ble_eq_true rfl⟩ rfl hl.1 (Nat.le_of_ble_eq_true rfl) rfl dX0_init_36 (fun v w5 H locs hB hw => ?_)
  obtain ⟨rfl, rfl⟩ := hB
  have hw : Wd D A s.heap [(h0, .inr (0, [.int 0, .int 0, .int 0, .int (10 : Int32), .ref q1])), (q1, .inl (cy 2, 8, rf5 (va_up (fun _ => none) (0 : Int32).toNatClampNeg (some q2)))), (q2, .inr (1, z6)), (q4, .inr (1, z6))] H locs := hw
  refine W.widen (k := 3) (n := 20) (Nat.le_of_ble_eq_true rfl) (Nat.le_of_ble_eq_true rfl) ?_
  refine W.eq (g2 := F0 m 39 ls [.ref q4, .int (1 : Int32), .ref q1]) rfl ?_
  refine rx_astq (k := 1) (qk := 3) (ci := 1) (t0 := 2) K hw rfl rfl rfl rfl (by unfold vp_in; decide) dX0_init_39 (fun H locs hw => ?_)
  have hw : Wd D A s.heap [(h0, .inr (0, [.int 0, .int 0, .int 0, .int (10 : Int32), .ref q1])), (q1, .inl (cy 2, 8, rf5 (va_up (va_up (fun _ => none) (0 : Int32).toNatClampNeg (some q2)) (1 : Int32).toNatClampNeg (some q4)))), (q2, .inr (1, z6)), (q4, .inr (1, z6))] H locs := hw
  refine lv_iinc (v := (2 : Int32)) (lv' := [(1, .int (2 : Int32)), (0, .ref h0)]) K.1 K.2.1 dX0_init_40 hl (k := 0) rfl (by decide) (by decide) rfl (fun ls hl => ?_)
  refine lv_goto (tgt := 21) K.1 K.2.1 dX0_init_43 (by decide) ?_
  refine lv_iload_n K.1 K.2.1 dX0_init_21 rfl (lv_at hl 0 rfl) ?_
  refine lv_bipush (v := (8 : Int32)) K.1 K.2.1 dX0_init_22 (by decide) ?_
  refine lv_icmp_ge (tgt := 46) K.1 K.2.1 dX0_init_24 (by decide) (fun h => absurd h (by decide)) (fun _ => ?_)
  refine lv_aload_n K.1 K.2.1 dX0_init_27 rfl (lv_at hl 1 rfl) ?_
  refine rc_get layX0 (ci := 0) rfl 4 (by decide) (k := 0) (v := .ref q1) K hw rfl kf_X0_17 rfl dX0_init_28 ?_
  refine lv_iload_n K.1 K.2.1 dX0_init_31 rfl (lv_at hl 0 rfl) ?_
  refine rx_new (fs := [.int 0, .int 0, .int 0, .int 0, .int 0, .int 0]) layX1 (ci := 1) rfl tyX1_ok K hA hw kc_X0_15 kn_X1 kz_X1 (by decide) (Nat.le_of_ble_eq_true rfl) (Nat.le_of_ble_eq_true rfl) dX0_init_32 (fun q6 H hw => ?_)
  have hw : Wd D A s.heap [(h0, .inr (0, [.int 0, .int 0, .int 0, .int (10 : Int32), .ref q1])), (q1, .inl (cy 2, 8, rf5 (va_up (va_up (fun _ => none) (0 : Int32).toNatClampNeg (some q2)) (1 : Int32).toNatClampNeg (some q4)))), (q2, .inr (1, z6)), (q4, .inr (1, z6)), (q6, .inr (1, [.int 0, .int 0, .int 0, .int 0, .int 0, .int 0]))] H _ := hw
  refine W.widen (k := 4) (n := 26) (Nat.le_of_ble_eq_true rfl) (Nat.le_of_ble_eq_true rfl) ?_
  refine lv_dup K.1 K.2.1 dX0_init_35 rfl ?_
  refine rx_J (wl := [(h0, .inr (0, [.int 0, .int 0, .int 0, .int (10 : Int32), .ref q1])), (q1, .inl (cy 2, 8, rf5 (va_up (va_up (fun _ => none) (0 : Int32).toNatClampNeg (some q2)) (1 : Int32).toNatClampNeg (some q4)))), (q2, .inr (1, z6)), (q4, .inr (1, z6))]) (wc := [(q6, .inr (1, [.int 0, .int 0, .int 0, .int 0, .int 0, .int 0]))]) (wr := []) (As := []) (rest := [.ref q6, .int (2 : Int32), .ref q1]) K KX KS hA hw (cx_X1_init l D cy _ X _ (fun q h => Or.inr h) q6) KS.2.2.2.1 lj_X1_init ⟨Nat.le_of_ble_eq_true rfl, Nat.le_of_ble_eq_true rfl⟩ ⟨Nat.le_of_ble_eq_true rfl, Nat.le_of_ble_eq_true rfl⟩ rfl hl.1 (Nat.le_of_ble_eq_true rfl) rfl dX0_init_36 (fun v w7 H locs hB hw => ?_)
  obtain ⟨rfl, rfl⟩ := hB
  have hw : Wd D A s.heap [(h0, .inr (0, [.int 0, .int 0, .int 0, .int (10 : Int32), .ref q1])), (q1, .inl (cy 2, 8, rf5 (va_up (va_up (fun _ => none) (0 : Int32).toNatClampNeg (some q2)) (1 : Int32).toNatClampNeg (some q4)))), (q2, .inr (1, z6)), (q4, .inr (1, z6)), (q6, .inr (1, z6))] H locs := hw
  refine W.widen (k := 4) (n := 26) (Nat.le_of_ble_eq_true rfl) (Nat.le_of_ble_eq_true rfl) ?_
  refine W.eq (g2 := F0 m 39 ls [.ref q6, .int (2 : Int32), .ref q1]) rfl ?_
  refine rx_astq (k := 1) (qk := 4) (ci := 1) (t0 := 2) K hw rfl rfl rfl rfl (by unfold vp_in; decide) dX0_init_39 (fun H locs hw => ?_)
  have hw : Wd D A s.heap [(h0, .inr (0, [.int 0, .int 0, .int 0, .int (10 : Int32), .ref q1])), (q1, .inl (cy 2, 8, rf5 (va_up (va_up (va_up (fun _ => none) (0 : Int32).toNatClampNeg (some q2)) (1 : Int32).toNatClampNeg (some q4)) (2 : Int32).toNatClampNeg (some q6)))), (q2, .inr (1, z6)), (q4, .inr (1, z6)), (q6, .inr (1, z6))] H locs := hw
  refine lv_iinc (v := (3 : Int32)) (lv' := [(1, .int (3 : Int32)), (0, .ref h0)]) K.1 K.2.1 dX0_init_40 hl (k := 0) rfl (by decide) (by decide) rfl (fun ls hl => ?_)
  refine lv_goto (tgt := 21) K.1 K.2.1 dX0_init_43 (by decide) ?_
  refine lv_iload_n K.1 K.2.1 dX0_init_21 rfl (lv_at hl 0 rfl) ?_
  refine lv_bipush (v := (8 : Int32)) K.1 K.2.1 dX0_init_22 (by decide) ?_
  refine lv_icmp_ge (tgt := 46) K.1 K.2.1 dX0_init_24 (by decide) (fun h => absurd h (by decide)) (fun _ => ?_)
  refine lv_aload_n K.1 K.2.1 dX0_init_27 rfl (lv_at hl 1 rfl) ?_
  refine rc_get layX0 (ci := 0) rfl 4 (by decide) (k := 0) (v := .ref q1) K hw rfl kf_X0_17 rfl dX0_init_28 ?_
  refine lv_iload_n K.1 K.2.1 dX0_init_31 rfl (lv_at hl 0 rfl) ?_
  refine rx_new (fs := [.int 0, .int 0, .int 0, .int 0, .int 0, .int 0]) layX1 (ci := 1) rfl tyX1_ok K hA hw kc_X0_15 kn_X1 kz_X1 (by decide) (Nat.le_of_ble_eq_true rfl) (Nat.le_of_ble_eq_true rfl) dX0_init_32 (fun q8 H hw => ?_)
  have hw : Wd D A s.heap [(h0, .inr (0, [.int 0, .int 0, .int 0, .int (10 : Int32), .ref q1])), (q1, .inl (cy 2, 8, rf5 (va_up (va_up (va_up (fun _ => none) (0 : Int32).toNatClampNeg (some q2)) (1 : Int32).toNatClampNeg (some q4)) (2 : Int32).toNatClampNeg (some q6)))), (q2, .inr (1, z6)), (q4, .inr (1, z6)), (q6, .inr (1, z6)), (q8, .inr (1, [.int 0, .int 0, .int 0, .int 0, .int 0, .int 0]))] H _ := hw
  refine W.widen (k := 5) (n := 32) (Nat.le_of_ble_eq_true rfl) (Nat.le_of_ble_eq_true rfl) ?_
  refine lv_dup K.1 K.2.1 dX0_init_35 rfl ?_
  refine rx_J (wl := [(h0, .inr (0, [.int 0, .int 0, .int 0, .int (10 : Int32), .ref q1])), (q1, .inl (cy 2, 8, rf5 (va_up (va_up (va_up (fun _ => none) (0 : Int32).toNatClampNeg (some q2)) (1 : Int32).toNatClampNeg (some q4)) (2 : Int32).toNatClampNeg (some q6)))), (q2, .inr (1, z6)), (q4, .inr (1, z6)), (q6, .inr (1, z6))]) (wc := [(q8, .inr (1, [.int 0, .int 0, .int 0, .int 0, .int 0, .int 0]))]) (wr := []) (As := []) (rest := [.ref q8, .int (3 : Int32), .ref q1]) K KX KS hA hw (cx_X1_init l D cy _ X _ (fun q h => Or.inr h) q8) KS.2.2.2.1 lj_X1_init ⟨Nat.le_of_ble_eq_true rfl, Nat.le_of_ble_eq_true rfl⟩ ⟨Nat.le_of_ble_eq_true rfl, Nat.le_of_ble_eq_true rfl⟩ rfl hl.1 (Nat.le_of_ble_eq_true rfl) rfl dX0_init_36 (fun v w9 H locs hB hw => ?_)
  obtain ⟨rfl, rfl⟩ := hB
  have hw : Wd D A s.heap [(h0, .inr (0, [.int 0, .int 0, .int 0, .int (10 : Int32), .ref q1])), (q1, .inl (cy 2, 8, rf5 (va_up (va_up (va_up (fun _ => none) (0 : Int32).toNatClampNeg (some q2)) (1 : Int32).toNatClampNeg (some q4)) (2 : Int32).toNatClampNeg (some q6)))), (q2, .inr (1, z6)), (q4, .inr (1, z6)), (q6, .inr (1, z6)), (q8, .inr (1, z6))] H locs := hw
  refine W.widen (k := 5) (n := 32) (Nat.le_of_ble_eq_true rfl) (Nat.le_of_ble_eq_true rfl) ?_
  refine W.eq (g2 := F0 m 39 ls [.ref q8, .int (3 : Int32), .ref q1]) rfl ?_
  refine rx_astq (k := 1) (qk := 5) (ci := 1) (t0 := 2) K hw rfl rfl rfl rfl (by unfold vp_in; decide) dX0_init_39 (fun H locs hw => ?_)
  have hw : Wd D A s.heap [(h0, .inr (0, [.int 0, .int 0, .int 0, .int (10 : Int32), .ref q1])), (q1, .inl (cy 2, 8, rf5 (va_up (va_up (va_up (va_up (fun _ => none) (0 : Int32).toNatClampNeg (some q2)) (1 : Int32).toNatClampNeg (some q4)) (2 : Int32).toNatClampNeg (some q6)) (3 : Int32).toNatClampNeg (some q8)))), (q2, .inr (1, z6)), (q4, .inr (1, z6)), (q6, .inr (1, z6)), (q8, .inr (1, z6))] H locs := hw
  refine lv_iinc (v := (4 : Int32)) (lv' := [(1, .int (4 : Int32)), (0, .ref h0)]) K.1 K.2.1 dX0_init_40 hl (k := 0) rfl (by decide) (by decide) rfl (fun ls hl => ?_)
  refine lv_goto (tgt := 21) K.1 K.2.1 dX0_init_43 (by decide) ?_
  refine lv_iload_n K.1 K.2.1 dX0_init_21 rfl (lv_at hl 0 rfl) ?_
  refine lv_bipush (v := (8 : Int32)) K.1 K.2.1 dX0_init_22 (by decide) ?_
  refine lv_icmp_ge (tgt := 46) K.1 K.2.1 dX0_init_24 (by decide) (fun h => absurd h (by decide)) (fun _ => ?_)
  refine lv_aload_n K.1 K.2.1 dX0_init_27 rfl (lv_at hl 1 rfl) ?_
  refine rc_get layX0 (ci := 0) rfl 4 (by decide) (k := 0) (v := .ref q1) K hw rfl kf_X0_17 rfl dX0_init_28 ?_
  refine lv_iload_n K.1 K.2.1 dX0_init_31 rfl (lv_at hl 0 rfl) ?_
  refine rx_new (fs := [.int 0, .int 0, .int 0, .int 0, .int 0, .int 0]) layX1 (ci := 1) rfl tyX1_ok K hA hw kc_X0_15 kn_X1 kz_X1 (by decide) (Nat.le_of_ble_eq_true rfl) (Nat.le_of_ble_eq_true rfl) dX0_init_32 (fun q10 H hw => ?_)
  have hw : Wd D A s.heap [(h0, .inr (0, [.int 0, .int 0, .int 0, .int (10 : Int32), .ref q1])), (q1, .inl (cy 2, 8, rf5 (va_up (va_up (va_up (va_up (fun _ => none) (0 : Int32).toNatClampNeg (some q2)) (1 : Int32).toNatClampNeg (some q4)) (2 : Int32).toNatClampNeg (some q6)) (3 : Int32).toNatClampNeg (some q8)))), (q2, .inr (1, z6)), (q4, .inr (1, z6)), (q6, .inr (1, z6)), (q8, .inr (1, z6)), (q10, .inr (1, [.int 0, .int 0, .int 0, .int 0, .int 0, .int 0]))] H _ := hw
  refine W.widen (k := 6) (n := 38) (Nat.le_of_ble_eq_true rfl) (Nat.le_of_ble_eq_true rfl) ?_
  refine lv_dup K.1 K.2.1 dX0_init_35 rfl ?_
  refine rx_J (wl := [(h0, .inr (0, [.int 0, .int 0, .int 0, .int (10 : Int32), .ref q1])), (q1, .inl (cy 2, 8, rf5 (va_up (va_up (va_up (va_up (fun _ => none) (0 : Int32).toNatClampNeg (some q2)) (1 : Int32).toNatClampNeg (some q4)) (2 : Int32).toNatClampNeg (some q6)) (3 : Int32).toNatClampNeg (some q8)))), (q2, .inr (1, z6)), (q4, .inr (1, z6)), (q6, .inr (1, z6)), (q8, .inr (1, z6))]) (wc := [(q10, .inr (1, [.int 0, .int 0, .int 0, .int 0, .int 0, .int 0]))]) (wr := []) (As := []) (rest := [.ref q10, .int (4 : Int32), .ref q1]) K KX KS hA hw (cx_X1_init l D cy _ X _ (fun q h => Or.inr h) q10) KS.2.2.2.1 lj_X1_init ⟨Nat.le_of_ble_eq_true rfl, Nat.le_of_ble_eq_true rfl⟩ ⟨Nat.le_of_ble_eq_true rfl, Nat.le_of_ble_eq_true rfl⟩ rfl hl.1 (Nat.le_of_ble_eq_true rfl) rfl dX0_init_36 (fun v w11 H locs hB hw => ?_)
  obtain ⟨rfl, rfl⟩ := hB
  have hw : Wd D A s.heap [(h0, .inr (0, [.int 0, .int 0, .int 0, .int (10 : Int32), .ref q1])), (q1, .inl (cy 2, 8, rf5 (va_up (va_up (va_up (va_up (fun _ => none) (0 : Int32).toNatClampNeg (some q2)) (1 : Int32).toNatClampNeg (some q4)) (2 : Int32).toNatClampNeg (some q6)) (3 : Int32).toNatClampNeg (some q8)))), (q2, .inr (1, z6)), (q4, .inr (1, z6)), (q6, .inr (1, z6)), (q8, .inr (1, z6)), (q10, .inr (1, z6))] H locs := hw
  refine W.widen (k := 6) (n := 38) (Nat.le_of_ble_eq_true rfl) (Nat.le_of_ble_eq_true rfl) ?_
  refine W.eq (g2 := F0 m 39 ls [.ref q10, .int (4 : Int32), .ref q1]) rfl ?_
  refine rx_astq (k := 1) (qk := 6) (ci := 1) (t0 := 2) K hw rfl rfl rfl rfl (by unfold vp_in; decide) dX0_init_39 (fun H locs hw => ?_)
  have hw : Wd D A s.heap [(h0, .inr (0, [.int 0, .int 0, .int 0, .int (10 : Int32), .ref q1])), (q1, .inl (cy 2, 8, rf5 (va_up (va_up (va_up (va_up (va_up (fun _ => none) (0 : Int32).toNatClampNeg (some q2)) (1 : Int32).toNatClampNeg (some q4)) (2 : Int32).toNatClampNeg (some q6)) (3 : Int32).toNatClampNeg (some q8)) (4 : Int32).toNatClampNeg (some q10)))), (q2, .inr (1, z6)), (q4, .inr (1, z6)), (q6, .inr (1, z6)), (q8, .inr (1, z6)), (q10, .inr (1, z6))] H locs := hw
  refine lv_iinc (v := (5 : Int32)) (lv' := [(1, .int (5 : Int32)), (0, .ref h0)]) K.1 K.2.1 dX0_init_40 hl (k := 0) rfl (by decide) (by decide) rfl (fun ls hl => ?_)
  refine lv_goto (tgt := 21) K.1 K.2.1 dX0_init_43 (by decide) ?_
  refine lv_iload_n K.1 K.2.1 dX0_init_21 rfl (lv_at hl 0 rfl) ?_
  refine lv_bipush (v := (8 : Int32)) K.1 K.2.1 dX0_init_22 (by decide) ?_
  refine lv_icmp_ge (tgt := 46) K.1 K.2.1 dX0_init_24 (by decide) (fun h => absurd h (by decide)) (fun _ => ?_)
  refine lv_aload_n K.1 K.2.1 dX0_init_27 rfl (lv_at hl 1 rfl) ?_
  refine rc_get layX0 (ci := 0) rfl 4 (by decide) (k := 0) (v := .ref q1) K hw rfl kf_X0_17 rfl dX0_init_28 ?_
  refine lv_iload_n K.1 K.2.1 dX0_init_31 rfl (lv_at hl 0 rfl) ?_
  refine rx_new (fs := [.int 0, .int 0, .int 0, .int 0, .int 0, .int 0]) layX1 (ci := 1) rfl tyX1_ok K hA hw kc_X0_15 kn_X1 kz_X1 (by decide) (Nat.le_of_ble_eq_true rfl) (Nat.le_of_ble_eq_true rfl) dX0_init_32 (fun q12 H hw => ?_)
  have hw : Wd D A s.heap [(h0, .inr (0, [.int 0, .int 0, .int 0, .int (10 : Int32), .ref q1])), (q1, .inl (cy 2, 8, rf5 (va_up (va_up (va_up (va_up (va_up (fun _ => none) (0 : Int32).toNatClampNeg (some q2)) (1 : Int32).toNatClampNeg (some q4)) (2 : Int32).toNatClampNeg (some q6)) (3 : Int32).toNatClampNeg (some q8)) (4 : Int32).toNatClampNeg (some q10)))), (q2, .inr (1, z6)), (q4, .inr (1, z6)), (q6, .inr (1, z6)), (q8, .inr (1, z6)), (q10, .inr (1, z6)), (q12, .inr (1, [.int 0, .int 0, .int 0, .int 0, .int 0, .int 0]))] H _ := hw
  refine W.widen (k := 7) (n := 44) (Nat.le_of_ble_eq_true rfl) (Nat.le_of_ble_eq_true rfl) ?_
  refine lv_dup K.1 K.2.1 dX0_init_35 rfl ?_
  refine rx_J (wl := [(h0, .inr (0, [.int 0, .int 0, .int 0, .int (10 : Int32), .ref q1])), (q1, .inl (cy 2, 8, rf5 (va_up (va_up (va_up (va_up (va_up (fun _ => none) (0 : Int32).toNatClampNeg (some q2)) (1 : Int32).toNatClampNeg (some q4)) (2 : Int32).toNatClampNeg (some q6)) (3 : Int32).toNatClampNeg (some q8)) (4 : Int32).toNatClampNeg (some q10)))), (q2, .inr (1, z6)), (q4, .inr (1, z6)), (q6, .inr (1, z6)), (q8, .inr (1, z6)), (q10, .inr (1, z6))]) (wc := [(q12, .inr (1, [.int 0, .int 0, .int 0, .int 0, .int 0, .int 0]))]) (wr := []) (As := []) (rest := [.ref q12, .int (5 : Int32), .ref q1]) K KX KS hA hw (cx_X1_init l D cy _ X _ (fun q h => Or.inr h) q12) KS.2.2.2.1 lj_X1_init ⟨Nat.le_of_ble_eq_true rfl, Nat.le_of_ble_eq_true rfl⟩ ⟨Nat.le_of_ble_eq_true rfl, Nat.le_of_ble_eq_true rfl⟩ rfl hl.1 (Nat.le_of_ble_eq_true rfl) rfl dX0_init_36 (fun v w13 H locs hB hw => ?_)
  obtain ⟨rfl, rfl⟩ := hB
  have hw : Wd D A s.heap [(h0, .inr (0, [.int 0, .int 0, .int 0, .int (10 : Int32), .ref q1])), (q1, .inl (cy 2, 8, rf5 (va_up (va_up (va_up (va_up (va_up (fun _ => none) (0 : Int32).toNatClampNeg (some q2)) (1 : Int32).toNatClampNeg (some q4)) (2 : Int32).toNatClampNeg (some q6)) (3 : Int32).toNatClampNeg (some q8)) (4 : Int32).toNatClampNeg (some q10)))), (q2, .inr (1, z6)), (q4, .inr (1, z6)), (q6, .inr (1, z6)), (q8, .inr (1, z6)), (q10, .inr (1, z6)), (q12, .inr (1, z6))] H locs := hw
  refine W.widen (k := 7) (n := 44) (Nat.le_of_ble_eq_true rfl) (Nat.le_of_ble_eq_true rfl) ?_
  refine W.eq (g2 := F0 m 39 ls [.ref q12, .int (5 : Int32), .ref q1]) rfl ?_
  refine rx_astq (k := 1) (qk := 7) (ci := 1) (t0 := 2) K hw rfl rfl rfl rfl (by unfold vp_in; decide) dX0_init_39 (fun H locs hw => ?_)
  have hw : Wd D A s.heap [(h0, .inr (0, [.int 0, .int 0, .int 0, .int (10 : Int32), .ref q1])), (q1, .inl (cy 2, 8, rf5 (va_up (va_up (va_up (va_up (va_up (va_up (fun _ => none) (0 : Int32).toNatClampNeg (some q2)) (1 : Int32).toNatClampNeg (some q4)) (2 : Int32).toNatClampNeg (some q6)) (3 : Int32).toNatClampNeg (some q8)) (4 : Int32).toNatClampNeg (some q10)) (5 : Int32).toNatClampNeg (some q12)))), (q2, .inr (1, z6)), (q4, .inr (1, z6)), (q6, .inr (1, z6)), (q8, .inr (1, z6)), (q10, .inr (1, z6)), (q12, .inr (1, z6))] H locs := hw
  refine lv_iinc (v := (6 : Int32)) (lv' := [(1, .int (6 : Int32)), (0, .ref h0)]) K.1 K.2.1 dX0_init_40 hl (k := 0) rfl (by decide) (by decide) rfl (fun ls hl => ?_)
  refine lv_goto (tgt := 21) K.1 K.2.1 dX0_init_43 (by decide) ?_
  refine lv_iload_n K.1 K.2.1 dX0_init_21 rfl (lv_at hl 0 rfl) ?_
  refine lv_bipush (v := (8 : Int32)) K.1 K.2.1 dX0_init_22 (by decide) ?_
  refine lv_icmp_ge (tgt := 46) K.1 K.2.1 dX0_init_24 (by decide) (fun h => absurd h (by decide)) (fun _ => ?_)
  refine lv_aload_n K.1 K.2.1 dX0_init_27 rfl (lv_at hl 1 rfl) ?_
  refine rc_get layX0 (ci := 0) rfl 4 (by decide) (k := 0) (v := .ref q1) K hw rfl kf_X0_17 rfl dX0_init_28 ?_
  refine lv_iload_n K.1 K.2.1 dX0_init_31 rfl (lv_at hl 0 rfl) ?_
  refine rx_new (fs := [.int 0, .int 0, .int 0, .int 0, .int 0, .int 0]) layX1 (ci := 1) rfl tyX1_ok K hA hw kc_X0_15 kn_X1 kz_X1 (by decide) (Nat.le_of_ble_eq_true rfl) (Nat.le_of_ble_eq_true rfl) dX0_init_32 (fun q14 H hw => ?_)
  have hw : Wd D A s.heap [(h0, .inr (0, [.int 0, .int 0, .int 0, .int (10 : Int32), .ref q1])), (q1, .inl (cy 2, 8, rf5 (va_up (va_up (va_up (va_up (va_up (va_up (fun _ => none) (0 : Int32).toNatClampNeg (some q2)) (1 : Int32).toNatClampNeg (some q4)) (2 : Int32).toNatClampNeg (some q6)) (3 : Int32).toNatClampNeg (some q8)) (4 : Int32).toNatClampNeg (some q10)) (5 : Int32).toNatClampNeg (some q12)))), (q2, .inr (1, z6)), (q4, .inr (1, z6)), (q6, .inr (1, z6)), (q8, .inr (1, z6)), (q10, .inr (1, z6)), (q12, .inr (1, z6)), (q14, .inr (1, [.int 0, .int 0, .int 0, .int 0, .int 0, .int 0]))] H _ := hw
  refine W.widen (k := 8) (n := 50) (Nat.le_of_ble_eq_true rfl) (Nat.le_of_ble_eq_true rfl) ?_
  refine lv_dup K.1 K.2.1 dX0_init_35 rfl ?_
  refine rx_J (wl := [(h0, .inr (0, [.int 0, .int 0, .int 0, .int (10 : Int32), .ref q1])), (q1, .inl (cy 2, 8, rf5 (va_up (va_up (va_up (va_up (va_up (va_up (fun _ => none) (0 : Int32).toNatClampNeg (some q2)) (1 : Int32).toNatClampNeg (some q4)) (2 : Int32).toNatClampNeg (some q6)) (3 : Int32).toNatClampNeg (some q8)) (4 : Int32).toNatClampNeg (some q10)) (5 : Int32).toNatClampNeg (some q12)))), (q2, .inr (1, z6)), (q4, .inr (1, z6)), (q6, .inr (1, z6)), (q8, .inr (1, z6)), (q10, .inr (1, z6)), (q12, .inr (1, z6))]) (wc := [(q14, .inr (1, [.int 0, .int 0, .int 0, .int 0, .int 0, .int 0]))]) (wr := []) (As := []) (rest := [.ref q14, .int (6 : Int32), .ref q1]) K KX KS hA hw (cx_X1_init l D cy _ X _ (fun q h => Or.inr h) q14) KS.2.2.2.1 lj_X1_init ⟨Nat.le_of_ble_eq_true rfl, Nat.le_of_ble_eq_true rfl⟩ ⟨Nat.le_of_ble_eq_true rfl, Nat.le_of_ble_eq_true rfl⟩ rfl hl.1 (Nat.le_of_ble_eq_true rfl) rfl dX0_init_36 (fun v w15 H locs hB hw => ?_)
  obtain ⟨rfl, rfl⟩ := hB
  have hw : Wd D A s.heap [(h0, .inr (0, [.int 0, .int 0, .int 0, .int (10 : Int32), .ref q1])), (q1, .inl (cy 2, 8, rf5 (va_up (va_up (va_up (va_up (va_up (va_up (fun _ => none) (0 : Int32).toNatClampNeg (some q2)) (1 : Int32).toNatClampNeg (some q4)) (2 : Int32).toNatClampNeg (some q6)) (3 : Int32).toNatClampNeg (some q8)) (4 : Int32).toNatClampNeg (some q10)) (5 : Int32).toNatClampNeg (some q12)))), (q2, .inr (1, z6)), (q4, .inr (1, z6)), (q6, .inr (1, z6)), (q8, .inr (1, z6)), (q10, .inr (1, z6)), (q12, .inr (1, z6)), (q14, .inr (1, z6))] H locs := hw
  refine W.widen (k := 8) (n := 50) (Nat.le_of_ble_eq_true rfl) (Nat.le_of_ble_eq_true rfl) ?_
  refine W.eq (g2 := F0 m 39 ls [.ref q14, .int (6 : Int32), .ref q1]) rfl ?_
  refine rx_astq (k := 1) (qk := 8) (ci := 1) (t0 := 2) K hw rfl rfl rfl rfl (by unfold vp_in; decide) dX0_init_39 (fun H locs hw => ?_)
  have hw : Wd D A s.heap [(h0, .inr (0, [.int 0, .int 0, .int 0, .int (10 : Int32), .ref q1])), (q1, .inl (cy 2, 8, rf5 (va_up (va_up (va_up (va_up (va_up (va_up (va_up (fun _ => none) (0 : Int32).toNatClampNeg (some q2)) (1 : Int32).toNatClampNeg (some q4)) (2 : Int32).toNatClampNeg (some q6)) (3 : Int32).toNatClampNeg (some q8)) (4 : Int32).toNatClampNeg (some q10)) (5 : Int32).toNatClampNeg (some q12)) (6 : Int32).toNatClampNeg (some q14)))), (q2, .inr (1, z6)), (q4, .inr (1, z6)), (q6, .inr (1, z6)), (q8, .inr (1, z6)), (q10, .inr (1, z6)), (q12, .inr (1, z6)), (q14, .inr (1, z6))] H locs := hw
  refine lv_iinc (v := (7 : Int32)) (lv' := [(1, .int (7 : Int32)), (0, .ref h0)]) K.1 K.2.1 dX0_init_40 hl (k := 0) rfl (by decide) (by decide) rfl (fun ls hl => ?_)
  refine lv_goto (tgt := 21) K.1 K.2.1 dX0_init_43 (by decide) ?_
  refine lv_iload_n K.1 K.2.1 dX0_init_21 rfl (lv_at hl 0 rfl) ?_
  refine lv_bipush (v := (8 : Int32)) K.1 K.2.1 dX0_init_22 (by decide) ?_
  refine lv_icmp_ge (tgt := 46) K.1 K.2.1 dX0_init_24 (by decide) (fun h => absurd h (by decide)) (fun _ => ?_)
  refine lv_aload_n K.1 K.2.1 dX0_init_27 rfl (lv_at hl 1 rfl) ?_
  refine rc_get layX0 (ci := 0) rfl 4 (by decide) (k := 0) (v := .ref q1) K hw rfl kf_X0_17 rfl dX0_init_28 ?_
  refine lv_iload_n K.1 K.2.1 dX0_init_31 rfl (lv_at hl 0 rfl) ?_
  refine rx_new (fs := [.int 0, .int 0, .int 0, .int 0, .int 0, .int 0]) layX1 (ci := 1) rfl tyX1_ok K hA hw kc_X0_15 kn_X1 kz_X1 (by decide) (Nat.le_of_ble_eq_true rfl) (Nat.le_of_ble_eq_true rfl) dX0_init_32 (fun q16 H hw => ?_)
  have hw : Wd D A s.heap [(h0, .inr (0, [.int 0, .int 0, .int 0, .int (10 : Int32), .ref q1])), (q1, .inl (cy 2, 8, rf5 (va_up (va_up (va_up (va_up (va_up (va_up (va_up (fun _ => none) (0 : Int32).toNatClampNeg (some q2)) (1 : Int32).toNatClampNeg (some q4)) (2 : Int32).toNatClampNeg (some q6)) (3 : Int32).toNatClampNeg (some q8)) (4 : Int32).toNatClampNeg (some q10)) (5 : Int32).toNatClampNeg (some q12)) (6 : Int32).toNatClampNeg (some q14)))), (q2, .inr (1, z6)), (q4, .inr (1, z6)), (q6, .inr (1, z6)), (q8, .inr (1, z6)), (q10, .inr (1, z6)), (q12, .inr (1, z6)), (q14, .inr (1, z6)), (q16, .inr (1, [.int 0, .int 0, .int 0, .int 0, .int 0, .int 0]))] H _ := hw
  refine W.widen (k := 9) (n := 56) (Nat.le_of_ble_eq_true rfl) (Nat.le_of_ble_eq_true rfl) ?_
  refine lv_dup K.1 K.2.1 dX0_init_35 rfl ?_
  refine rx_J (wl := [(h0, .inr (0, [.int 0, .int 0, .int 0, .int (10 : Int32), .ref q1])), (q1, .inl (cy 2, 8, rf5 (va_up (va_up (va_up (va_up (va_up (va_up (va_up (fun _ => none) (0 : Int32).toNatClampNeg (some q2)) (1 : Int32).toNatClampNeg (some q4)) (2 : Int32).toNatClampNeg (some q6)) (3 : Int32).toNatClampNeg (some q8)) (4 : Int32).toNatClampNeg (some q10)) (5 : Int32).toNatClampNeg (some q12)) (6 : Int32).toNatClampNeg (some q14)))), (q2, .inr (1, z6)), (q4, .inr (1, z6)), (q6, .inr (1, z6)), (q8, .inr (1, z6)), (q10, .inr (1, z6)), (q12, .inr (1, z6)), (q14, .inr (1, z6))]) (wc := [(q16, .inr (1, [.int 0, .int 0, .int 0, .int 0, .int 0, .int 0]))]) (wr := []) (As := []) (rest := [.ref q16, .int (7 : Int32), .ref q1]) K KX KS hA hw (cx_X1_init l D cy _ X _ (fun q h => Or.inr h) q16) KS.2.2.2.1 lj_X1_init ⟨Nat.le_of_ble_eq_true rfl, Nat.le_of_ble_eq_true rfl⟩ ⟨Nat.le_of_ble_eq_true rfl, Nat.le_of_ble_eq_true rfl⟩ rfl hl.1 (Nat.le_of_ble_eq_true rfl) rfl dX0_init_36 (fun v w17 H locs hB hw => ?_)
  obtain ⟨rfl, rfl⟩ := hB
  have hw : Wd D A s.heap [(h0, .inr (0, [.int 0, .int 0, .int 0, .int (10 : Int32), .ref q1])), (q1, .inl (cy 2, 8, rf5 (va_up (va_up (va_up (va_up (va_up (va_up (va_up (fun _ => none) (0 : Int32).toNatClampNeg (some q2)) (1 : Int32).toNatClampNeg (some q4)) (2 : Int32).toNatClampNeg (some q6)) (3 : Int32).toNatClampNeg (some q8)) (4 : Int32).toNatClampNeg (some q10)) (5 : Int32).toNatClampNeg (some q12)) (6 : Int32).toNatClampNeg (some q14)))), (q2, .inr (1, z6)), (q4, .inr (1, z6)), (q6, .inr (1, z6)), (q8, .inr (1, z6)), (q10, .inr (1, z6)), (q12, .inr (1, z6)), (q14, .inr (1, z6)), (q16, .inr (1, z6))] H locs := hw
  refine W.widen (k := 9) (n := 56) (Nat.le_of_ble_eq_true rfl) (Nat.le_of_ble_eq_true rfl) ?_
  refine W.eq (g2 := F0 m 39 ls [.ref q16, .int (7 : Int32), .ref q1]) rfl ?_
  refine rx_astq (k := 1) (qk := 9) (ci := 1) (t0 := 2) K hw rfl rfl rfl rfl (by unfold vp_in; decide) dX0_init_39 (fun H locs hw => ?_)
  have hw : Wd D A s.heap [(h0, .inr (0, [.int 0, .int 0, .int 0, .int (10 : Int32), .ref q1])), (q1, .inl (cy 2, 8, rf5 (va_up (va_up (va_up (va_up (va_up (va_up (va_up (va_up (fun _ => none) (0 : Int32).toNatClampNeg (some q2)) (1 : Int32).toNatClampNeg (some q4)) (2 : Int32).toNatClampNeg (some q6)) (3 : Int32).toNatClampNeg (some q8)) (4 : Int32).toNatClampNeg (some q10)) (5 : Int32).toNatClampNeg (some q12)) (6 : Int32).toNatClampNeg (some q14)) (7 : Int32).toNatClampNeg (some q16)))), (q2, .inr (1, z6)), (q4, .inr (1, z6)), (q6, .inr (1, z6)), (q8, .inr (1, z6)), (q10, .inr (1, z6)), (q12, .inr (1, z6)), (q14, .inr (1, z6)), (q16, .inr (1, z6))] H locs := hw
  refine lv_iinc (v := (8 : Int32)) (lv' := [(1, .int (8 : Int32)), (0, .ref h0)]) K.1 K.2.1 dX0_init_40 hl (k := 0) rfl (by decide) (by decide) rfl (fun ls hl => ?_)
  refine lv_goto (tgt := 21) K.1 K.2.1 dX0_init_43 (by decide) ?_
  refine lv_iload_n K.1 K.2.1 dX0_init_21 rfl (lv_at hl 0 rfl) ?_
  refine lv_bipush (v := (8 : Int32)) K.1 K.2.1 dX0_init_22 (by decide) ?_
  refine lv_icmp_ge (tgt := 46) K.1 K.2.1 dX0_init_24 (by decide) (fun _ => ?_) (fun h => absurd (by decide) h)
  exact rx_vret K hw hr ⟨rfl, q1, q2, q4, q6, q8, q10, q12, q14, q16, rfl⟩ dX0_init_46
end
