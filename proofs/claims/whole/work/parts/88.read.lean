section
/-! ===== Parser.readText ===== -/
theorem kn_X6 : Cond.instantiable RX6 4 ∈ TT := (TTm (List.mem_of_getElem? (i := 416) (by decide +kernel)) rfl)
theorem kz_X6 : Cond.initialized RX6 ∈ TT := (TTm (List.mem_of_getElem? (i := 114) (by decide +kernel)) rfl)
theorem kc_X2_35 : Cond.classLink RX2 35 RX6 ∈ TT := (TTm (List.mem_of_getElem? (i := 415) (by decide +kernel)) rfl)
theorem lk_X2_37 : LkS RX2 37 yJ7_copyOf_59c91 cJ7_copyOf_59c91 3 (some (.array .int)) 2 := ⟨(TTm (List.mem_of_getElem? (i := 417) (by decide +kernel)) rfl), (TTm (List.mem_of_getElem? (i := 418) (by decide +kernel)) rfl), (TTm (List.mem_of_getElem? (i := 115) (by decide +kernel)) rfl), (TTm (List.mem_of_getElem? (i := 419) (by decide +kernel)) rfl), by decide +kernel⟩
theorem li_X2_43 : LkI RX2 43 yX6_init cX6_init 4 3 := ⟨(TTm (List.mem_of_getElem? (i := 433) (by decide +kernel)) rfl), (TTm (List.mem_of_getElem? (i := 434) (by decide +kernel)) rfl), (TTm (List.mem_of_getElem? (i := 114) (by decide +kernel)) rfl), (TTm (List.mem_of_getElem? (i := 435) (by decide +kernel)) rfl), rfl, by decide +kernel⟩
theorem lk_X2_23 : LkV RX2 23 RX5 yX5_rewind cX5_rewind 1 none 0 := ⟨(TTm (List.mem_of_getElem? (i := 333) (by decide +kernel)) rfl), (TTm (List.mem_of_getElem? (i := 334) (by decide +kernel)) rfl), (TTm (List.mem_of_getElem? (i := 335) (by decide +kernel)) rfl), (TTm (List.mem_of_getElem? (i := 107) (by decide +kernel)) rfl), (TTm (List.mem_of_getElem? (i := 336) (by decide +kernel)) rfl), by decide +kernel⟩
theorem lk_X2_28 : LkV RX2 28 RX2 yX2_readPart cX2_readPart 2 (some .boolean) 1 := ⟨(TTm (List.mem_of_getElem? (i := 378) (by decide +kernel)) rfl), (TTm (List.mem_of_getElem? (i := 380) (by decide +kernel)) rfl), (TTm (List.mem_of_getElem? (i := 4) (by decide +kernel)) rfl), (TTm (List.mem_of_getElem? (i := 108) (by decide +kernel)) rfl), (TTm (List.mem_of_getElem? (i := 381) (by decide +kernel)) rfl), by decide +kernel⟩
theorem dX2_readText_0 : decode cX2_readText 0 = .ok (.aload_n 0, 1) := by decide +kernel
theorem dX2_readText_1 : decode cX2_readText 1 = .ok (.iconst 0, 1) := by decide +kernel
theorem dX2_readText_2 : decode cX2_readText 2 = .ok (.putfield 19, 3) := by decide +kernel
theorem dX2_readText_5 : decode cX2_readText 5 = .ok (.aload_n 0, 1) := by decide +kernel
theorem dX2_readText_6 : decode cX2_readText 6 = .ok (.getfield 15, 3) := by decide +kernel
theorem dX2_readText_9 : decode cX2_readText 9 = .ok (.invokevirtual 23, 3) := by decide +kernel
theorem dX2_readText_12 : decode cX2_readText 12 = .ok (.aload_n 0, 1) := by decide +kernel
theorem dX2_readText_13 : decode cX2_readText 13 = .ok (.iconst 4, 1) := by decide +kernel
theorem dX2_readText_14 : decode cX2_readText 14 = .ok (.invokevirtual 28, 3) := by decide +kernel
theorem dX2_readText_17 : decode cX2_readText 17 = .ok (.ifCond .ne 5, 3) := by decide +kernel
theorem dX2_readText_20 : decode cX2_readText 20 = .ok (.aconst_null, 1) := by decide +kernel
theorem dX2_readText_21 : decode cX2_readText 21 = .ok (.areturn, 1) := by decide +kernel
theorem dX2_readText_22 : decode cX2_readText 22 = .ok (.aload_n 0, 1) := by decide +kernel
theorem dX2_readText_23 : decode cX2_readText 23 = .ok (.getfield 19, 3) := by decide +kernel
theorem dX2_readText_26 : decode cX2_readText 26 = .ok (.istore_n 1, 1) := by decide +kernel
theorem dX2_readText_27 : decode cX2_readText 27 = .ok (.aload_n 0, 1) := by decide +kernel
theorem dX2_readText_28 : decode cX2_readText 28 = .ok (.iconst 5, 1) := by decide +kernel
theorem dX2_readText_29 : decode cX2_readText 29 = .ok (.invokevirtual 28, 3) := by decide +kernel
theorem dX2_readText_32 : decode cX2_readText 32 = .ok (.ifCond .ne 5, 3) := by decide +kernel
theorem dX2_readText_35 : decode cX2_readText 35 = .ok (.aconst_null, 1) := by decide +kernel
theorem dX2_readText_36 : decode cX2_readText 36 = .ok (.areturn, 1) := by decide +kernel
theorem dX2_readText_37 : decode cX2_readText 37 = .ok (.aload_n 0, 1) := by decide +kernel
theorem dX2_readText_38 : decode cX2_readText 38 = .ok (.getfield 19, 3) := by decide +kernel
theorem dX2_readText_41 : decode cX2_readText 41 = .ok (.istore_n 2, 1) := by decide +kernel
theorem dX2_readText_42 : decode cX2_readText 42 = .ok (.aload_n 0, 1) := by decide +kernel
theorem dX2_readText_43 : decode cX2_readText 43 = .ok (.bipush 6, 2) := by decide +kernel
theorem dX2_readText_45 : decode cX2_readText 45 = .ok (.invokevirtual 28, 3) := by decide +kernel
theorem dX2_readText_48 : decode cX2_readText 48 = .ok (.ifCond .eq 13, 3) := by decide +kernel
theorem dX2_readText_51 : decode cX2_readText 51 = .ok (.aload_n 0, 1) := by decide +kernel
theorem dX2_readText_52 : decode cX2_readText 52 = .ok (.getfield 15, 3) := by decide +kernel
theorem dX2_readText_55 : decode cX2_readText 55 = .ok (.getfield 32, 3) := by decide +kernel
theorem dX2_readText_58 : decode cX2_readText 58 = .ok (.ifCond .eq 5, 3) := by decide +kernel
theorem dX2_readText_61 : decode cX2_readText 61 = .ok (.aconst_null, 1) := by decide +kernel
theorem dX2_readText_62 : decode cX2_readText 62 = .ok (.areturn, 1) := by decide +kernel
theorem dX2_readText_63 : decode cX2_readText 63 = .ok (.new 35, 3) := by decide +kernel
theorem dX2_readText_66 : decode cX2_readText 66 = .ok (.dup, 1) := by decide +kernel
theorem dX2_readText_67 : decode cX2_readText 67 = .ok (.aload_n 0, 1) := by decide +kernel
theorem dX2_readText_68 : decode cX2_readText 68 = .ok (.getfield 9, 3) := by decide +kernel
theorem dX2_readText_71 : decode cX2_readText 71 = .ok (.aload_n 0, 1) := by decide +kernel
theorem dX2_readText_72 : decode cX2_readText 72 = .ok (.getfield 19, 3) := by decide +kernel
theorem dX2_readText_75 : decode cX2_readText 75 = .ok (.invokestatic 37, 3) := by decide +kernel
theorem dX2_readText_78 : decode cX2_readText 78 = .ok (.iload_n 1, 1) := by decide +kernel
theorem dX2_readText_79 : decode cX2_readText 79 = .ok (.iload_n 2, 1) := by decide +kernel
theorem dX2_readText_80 : decode cX2_readText 80 = .ok (.invokespecial 43, 3) := by decide +kernel
theorem dX2_readText_83 : decode cX2_readText 83 = .ok (.areturn, 1) := by decide +kernel
def vv_X2_readText (nt : Nat) (g0 : Sg) (Qn : Sg → Prop) (Qt : Int32 → Int32 → Nat → Sg → Prop) : Prop :=
  ∀ g1 : Sg, g1 = st g0 10 2 0 → vv_X5_rewind nt g1 (fun g2 => vv_X2_readPart nt 4 g2 (fun r1 g3 => (r1 = 0 → Qn g3) ∧ (¬ r1 = 0 → vv_X2_readPart nt 5 g3 (fun r2 g4 => (r2 = 0 → Qn g4) ∧ (¬ r2 = 0 → vv_X2_readPart nt 6 g4 (fun r3 g5 => (r3 = 0 → Qn g5) ∧ (¬ r3 = 0 → ((¬ g5 8 3 = 0 → Qn g5) ∧ (g5 8 3 = 0 → ∃ n, n < 160 ∧ g5 10 2 = nI n ∧ Qt (g3 10 2) (g4 10 2) n g5)))))))))
def txW (cy : Nat → ClassId) (a b d n : Nat) (x z : Int32) (f : Nat → Int32) : va_W := [(b, .inl (cy 0, n, .inl f)), (a, .inr (6, [.ref b, .ref d, .int x, .int z])), (d, .inl (cy 0, n, .inl (fun _ => 0)))]
theorem cd_X2_readText (l : Launch) (D : va_G) (cy : Nat → ClassId) (nt : Nat) (ad : Nat → Nat) (A : Nat → Prop) (X : Nat → Nat) (sz : Nat) (hA0 : ∀ q, sz ≤ q → A q) (g0 : Sg) (Qn : Sg → Prop) (Qt : Int32 → Int32 → Nat → Sg → Prop) (hd : vv_X2_readText nt g0 Qn Qt) : MetX l yX2_readText cX2_readText 3 (some (.object "OppositionInBaskets$Text")) 71 3 324 [.ref (ad 10)] (wsD cy ad g0) D cy A X sz (fun v w => (v = some .null ∧ ∃ u, Qn u ∧ w = wsD cy ad u) ∨ (∃ u x z n a b d, v = some (.ref a) ∧ Qt x z n u ∧ w = wsD cy ad u ++ txW cy a b d n x z (va_cpy (u 11) (fun _ => 0) 0 0 n))) := by
  unfold vv_X2_readText at hd
  refine Met.ofW (cc := cX2_readText) (maxL := 3) (ret := (some (.object "OppositionInBaskets$Text"))) (by decide) rfl ?_
  intro p e s m args below meth c s₁ B hml hv
  obtain ⟨rfl, hsz, hP, hK0, hD, KX, KS⟩ := hv
  have K : Kx p s m _ meth c cX2_readText 3 RX2 D cy := ⟨B.exec, B.bytes, hml, findClass_of_methodNamed B.named, fun w h => atoms_spec (ws := Cond.code yX2_readText cX2_readText 3 (some (.object "OppositionInBaskets$Text")) :: TT) B.pre w (List.mem_cons_of_mem _ h), hK0, B.notSynchronized⟩
  have hw : Wd D A s.heap (wsD cy ad g0) s.heap [] := ⟨hP, hD, va_S.rf⟩
  have hr := B.returns
  have hA : ∀ q, s.heap.size ≤ q → A q := fun q h => hA0 q (by rw [← hsz]; exact h)
  have hl := lv_entry ([.ref (ad 10)]) (n := 3) (Nat.le_of_ble_eq_true rfl)
  rw [lg_entry_eq]
  generalize (lg_sl ([.ref (ad 10)]) ++ List.replicate (3 - (lg_sl ([.ref (ad 10)])).length) Slot.unset).toArray = ls at hl ⊢
  have hl : lv_has ls 3 [(0, .ref (ad 10))] := hl
  refine lv_aload_n K.1 K.2.1 dX2_readText_0 rfl (lv_at hl 0 rfl) ?_
  refine lv_iconst (v := (0 : Int32)) K.1 K.2.1 dX2_readText_1 (by decide) ?_
  refine rd_put layX2 (ci := 2) rfl tyX2_ok nmX2 2 (by decide) K hw (wcd_Pr cy ad _) kf_X2_19 rfl rfl rfl rfl (Nat.le_of_ble_eq_true rfl) (wpd_Pr_2 cy ad _ _) dX2_readText_2 (fun g1 eg1 H locs hw => ?_)
  have hd := hd g1 eg1
  refine lv_aload_n K.1 K.2.1 dX2_readText_5 rfl (lv_at hl 0 rfl) ?_
  refine rc_get layX2 (ci := 2) rfl 0 (by decide) (v := .ref (ad 8)) K hw (wcd_Pr cy ad _) kf_X2_15 rfl dX2_readText_6 ?_
  refine rkc_vv (As := []) (rest := []) K KX hw (cd_X5_rewind l D cy nt ad A X g1 _ hd) lk_X2_23 (ci := 5) rfl (wcd_Tp cy ad _) ⟨Nat.le_of_ble_eq_true rfl, Nat.le_of_ble_eq_true rfl⟩ ⟨Nat.zero_le _, Nat.zero_le _⟩ rfl hl.1 (Nat.le_of_ble_eq_true rfl) rfl dX2_readText_9 (fun g2 H locs hd hw => ?_)
  refine lv_aload_n K.1 K.2.1 dX2_readText_12 rfl (lv_at hl 0 rfl) ?_
  refine lv_iconst (v := (4 : Int32)) K.1 K.2.1 dX2_readText_13 (by decide) ?_
  refine rkc_vi (As := [.int (4 : Int32)]) (rest := []) K KX hw (cd_X2_readPart l D cy nt ad A X g2 _ (4 : Int32) hd) lk_X2_28 (ci := 2) rfl (wcd_Pr cy ad _) ⟨Nat.le_of_ble_eq_true rfl, Nat.le_of_ble_eq_true rfl⟩ ⟨Nat.zero_le _, Nat.zero_le _⟩ rfl hl.1 (Nat.le_of_ble_eq_true rfl) rfl dX2_readText_14 (fun r g3 H locs hd hw => ?_)
  refine lv_if_ne (tgt := 22) K.1 K.2.1 dX2_readText_17 (by decide) (fun h => ?_) (fun h => ?_)
  rotate_left
  · have hd := hd.1 h
    refine lv_null K.1 K.2.1 dX2_readText_20 ?_
    refine W.widen (k := 3) (n := 324) (Nat.zero_le _) (Nat.zero_le _) ?_
    exact rx_aret K hw hr (Or.inl ⟨_, rfl⟩) (Or.inl rfl) (Or.inl ⟨rfl, g3, hd, rfl⟩) dX2_readText_21
  have hd := hd.2 h
  refine lv_aload_n K.1 K.2.1 dX2_readText_22 rfl (lv_at hl 0 rfl) ?_
  refine rc_get layX2 (ci := 2) rfl 2 (by decide) (v := .int (g3 10 2)) K hw (wcd_Pr cy ad _) kf_X2_19 rfl dX2_readText_23 ?_
  refine lv_istore_n (lv' := [(1, .int (g3 10 2)), (0, .ref (ad 10))]) K.1 K.2.1 dX2_readText_26 rfl hl (by decide) rfl (fun ls hl => ?_)
  refine lv_aload_n K.1 K.2.1 dX2_readText_27 rfl (lv_at hl 1 rfl) ?_
  refine lv_iconst (v := (5 : Int32)) K.1 K.2.1 dX2_readText_28 (by decide) ?_
  refine rkc_vi (As := [.int (5 : Int32)]) (rest := []) K KX hw (cd_X2_readPart l D cy nt ad A X g3 _ (5 : Int32) hd) lk_X2_28 (ci := 2) rfl (wcd_Pr cy ad _) ⟨Nat.le_of_ble_eq_true rfl, Nat.le_of_ble_eq_true rfl⟩ ⟨Nat.zero_le _, Nat.zero_le _⟩ rfl hl.1 (Nat.le_of_ble_eq_true rfl) rfl dX2_readText_29 (fun r g4 H locs hd hw => ?_)
  refine lv_if_ne (tgt := 37) K.1 K.2.1 dX2_readText_32 (by decide) (fun h => ?_) (fun h => ?_)
  rotate_left
  · have hd := hd.1 h
    refine lv_null K.1 K.2.1 dX2_readText_35 ?_
    refine W.widen (k := 3) (n := 324) (Nat.zero_le _) (Nat.zero_le _) ?_
    exact rx_aret K hw hr (Or.inl ⟨_, rfl⟩) (Or.inl rfl) (Or.inl ⟨rfl, g4, hd, rfl⟩) dX2_readText_36
  have hd := hd.2 h
  refine lv_aload_n K.1 K.2.1 dX2_readText_37 rfl (lv_at hl 1 rfl) ?_
  refine rc_get layX2 (ci := 2) rfl 2 (by decide) (v := .int (g4 10 2)) K hw (wcd_Pr cy ad _) kf_X2_19 rfl dX2_readText_38 ?_
  refine lv_istore_n (lv' := [(2, .int (g4 10 2)), (1, .int (g3 10 2)), (0, .ref (ad 10))]) K.1 K.2.1 dX2_readText_41 rfl hl (by decide) rfl (fun ls hl => ?_)
  refine lv_aload_n K.1 K.2.1 dX2_readText_42 rfl (lv_at hl 2 rfl) ?_
  refine lv_bipush (v := (6 : Int32)) K.1 K.2.1 dX2_readText_43 (by decide) ?_
  refine rkc_vi (As := [.int (6 : Int32)]) (rest := []) K KX hw (cd_X2_readPart l D cy nt ad A X g4 _ (6 : Int32) hd) lk_X2_28 (ci := 2) rfl (wcd_Pr cy ad _) ⟨Nat.le_of_ble_eq_true rfl, Nat.le_of_ble_eq_true rfl⟩ ⟨Nat.zero_le _, Nat.zero_le _⟩ rfl hl.1 (Nat.le_of_ble_eq_true rfl) rfl dX2_readText_45 (fun r g5 H locs hd hw => ?_)
  refine lv_if_eq (tgt := 61) K.1 K.2.1 dX2_readText_48 (by decide) (fun h => ?_) (fun h => ?_)
  · have hd := hd.1 h
    refine lv_null K.1 K.2.1 dX2_readText_61 ?_
    refine W.widen (k := 3) (n := 324) (Nat.zero_le _) (Nat.zero_le _) ?_
    exact rx_aret K hw hr (Or.inl ⟨_, rfl⟩) (Or.inl rfl) (Or.inl ⟨rfl, g5, hd, rfl⟩) dX2_readText_62
  have hd := hd.2 h
  refine lv_aload_n K.1 K.2.1 dX2_readText_51 rfl (lv_at hl 2 rfl) ?_
  refine rc_get layX2 (ci := 2) rfl 0 (by decide) (v := .ref (ad 8)) K hw (wcd_Pr cy ad _) kf_X2_15 rfl dX2_readText_52 ?_
  refine rc_get layX5 (ci := 5) rfl 3 (by decide) (v := .int (g5 8 3)) K hw (wcd_Tp cy ad _) kf_X2_32 rfl dX2_readText_55 ?_
  refine lv_if_eq (tgt := 63) K.1 K.2.1 dX2_readText_58 (by decide) (fun h => ?_) (fun h => ?_)
  rotate_left
  · have hd := hd.1 h
    refine lv_null K.1 K.2.1 dX2_readText_61 ?_
    refine W.widen (k := 3) (n := 324) (Nat.zero_le _) (Nat.zero_le _) ?_
    exact rx_aret K hw hr (Or.inl ⟨_, rfl⟩) (Or.inl rfl) (Or.inl ⟨rfl, g5, hd, rfl⟩) dX2_readText_62
  obtain ⟨n, hn, e10, hd⟩ := hd.2 h
  refine rx_new (fs := [.null, .null, .int 0, .int 0]) layX6 (ci := 6) rfl tyX6_ok K hA hw kc_X2_35 kn_X6 kz_X6 (by decide) (Nat.le_of_ble_eq_true rfl) (Nat.le_of_ble_eq_true rfl) dX2_readText_63 (fun q1 H hw => ?_)
  have hw : Wd D A s.heap [(ad 8, .inr (5, fsTp ad g5)), (ad 9, .inl (cy 0, 160, .inl (g5 9))), (ad 10, .inr (2, fsPr ad g5)), (ad 11, .inl (cy 0, 160, .inl (g5 11))), (q1, .inr (6, [.null, .null, .int 0, .int 0]))] H _ := hw
  refine W.widen (k := 1) (n := 4) (Nat.le_of_ble_eq_true rfl) (Nat.le_of_ble_eq_true rfl) ?_
  refine lv_dup K.1 K.2.1 dX2_readText_66 rfl ?_
  refine lv_aload_n K.1 K.2.1 dX2_readText_67 rfl (lv_at hl 2 rfl) ?_
  refine rc_get layX2 (ci := 2) rfl 1 (by decide) (k := 2) (v := .ref (ad 11)) K hw rfl kf_X2_9 rfl dX2_readText_68 ?_
  refine lv_aload_n K.1 K.2.1 dX2_readText_71 rfl (lv_at hl 2 rfl) ?_
  refine rc_get layX2 (ci := 2) rfl 2 (by decide) (k := 2) (v := .int (g5 10 2)) K hw rfl kf_X2_19 rfl dX2_readText_72 ?_
  rw [e10]
  refine rx_S (wl := [(ad 8, .inr (5, fsTp ad g5)), (ad 9, .inl (cy 0, 160, .inl (g5 9))), (ad 10, .inr (2, fsPr ad g5))]) (wc := [(ad 11, .inl (cy 0, 160, .inl (g5 11)))]) (wr := [(q1, .inr (6, [.null, .null, .int 0, .int 0]))]) (As := [.ref (ad 11), .int (nI n)]) (rest := [.ref q1, .ref q1]) K KX KS hA hw (cx_J7_copyOf l D cy _ X _ (fun q h => Or.inr h) (ad 11) n (g5 11) hn) lk_X2_37 ⟨Nat.le_of_ble_eq_true rfl, Nat.le_of_ble_eq_true rfl⟩ ⟨Nat.le_of_ble_eq_true rfl, Nat.le_of_ble_eq_true rfl⟩ rfl hl.1 (Nat.le_of_ble_eq_true rfl) rfl dX2_readText_75 (fun v w1 H locs hB hw => ?_)
  obtain ⟨q2, rfl, rfl⟩ := hB
  have hw : Wd D A s.heap [(ad 8, .inr (5, fsTp ad g5)), (ad 9, .inl (cy 0, 160, .inl (g5 9))), (ad 10, .inr (2, fsPr ad g5)), (ad 11, .inl (cy 0, 160, .inl (g5 11))), (q2, .inl (cy 0, n, .inl (va_cpy (g5 11) (fun _ => 0) 0 0 n))), (q1, .inr (6, [.null, .null, .int 0, .int 0]))] H locs := hw
  refine W.widen (k := 2) (n := 164) (Nat.le_of_ble_eq_true rfl) (Nat.le_of_ble_eq_true rfl) ?_
  refine W.eq (g2 := F0 m 78 ls [.ref q2, .ref q1, .ref q1]) rfl ?_
  refine lv_iload_n K.1 K.2.1 dX2_readText_78 rfl (lv_at hl 1 rfl) ?_
  refine lv_iload_n K.1 K.2.1 dX2_readText_79 rfl (lv_at hl 0 rfl) ?_
  refine rx_I (wl := [(ad 8, .inr (5, fsTp ad g5)), (ad 9, .inl (cy 0, 160, .inl (g5 9))), (ad 10, .inr (2, fsPr ad g5)), (ad 11, .inl (cy 0, 160, .inl (g5 11)))]) (wc := [(q2, .inl (cy 0, n, .inl (va_cpy (g5 11) (fun _ => 0) 0 0 n))), (q1, .inr (6, [.null, .null, .int 0, .int 0]))]) (wr := []) (As := [.ref q2, .int (g3 10 2), .int (g4 10 2)]) (rest := [.ref q1]) K KX KS hA hw (cx_X6_init l D cy _ X _ (fun q h => Or.inr h) q1 q2 n _ (g3 10 2) (g4 10 2) hn) li_X2_43 ⟨Nat.le_of_ble_eq_true rfl, Nat.le_of_ble_eq_true rfl⟩ ⟨Nat.le_of_ble_eq_true rfl, Nat.le_of_ble_eq_true rfl⟩ rfl hl.1 (Nat.le_of_ble_eq_true rfl) rfl dX2_readText_80 (fun v w1 H locs hB hw => ?_)
  obtain ⟨rfl, q3, rfl⟩ := hB
  have hw : Wd D A s.heap (wsD cy ad g5 ++ txW cy q1 q2 q3 n (g3 10 2) (g4 10 2) (va_cpy (g5 11) (fun _ => 0) 0 0 n)) H locs := hw
  refine W.widen (k := 3) (n := 324) (Nat.le_of_ble_eq_true rfl) (Nat.le_of_ble_eq_true rfl) ?_
  refine W.eq (g2 := F0 m 83 ls [.ref q1]) rfl ?_
  exact rx_aret K hw hr (Or.inl ⟨_, rfl⟩) (Or.inr ⟨_, rfl⟩) (Or.inr ⟨g5, _, _, n, q1, q2, q3, rfl, hd, rfl⟩) dX2_readText_83
end
