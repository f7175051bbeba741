section
/-! ===== the reference: spell, its constructor ===== -/
def vv_X8_spell  (x1 : Int32) (x2 : Int32) (x3 : Int32) (x4 : Int32) (x5 : Int32) (x6 : Int32) (x7 : Int32) (x8 : Int32) (x9 : Int32) (g0 : Sg) (Q : Sg → Prop) : Prop := vp_in x1 960 ∧ (∀ g_1 : Sg, g_1 = st g0 1 x1.toNatClampNeg x2 → (vp_in (x1 + (1 : Int32)) 960 ∧ (∀ g_2 : Sg, g_2 = st g_1 1 (x1 + (1 : Int32)).toNatClampNeg x3 → (vp_in (x1 + (2 : Int32)) 960 ∧ (∀ g_3 : Sg, g_3 = st g_2 1 (x1 + (2 : Int32)).toNatClampNeg x4 → (vp_in (x1 + (3 : Int32)) 960 ∧ (∀ g_4 : Sg, g_4 = st g_3 1 (x1 + (3 : Int32)).toNatClampNeg x5 → (vp_in (x1 + (4 : Int32)) 960 ∧ (∀ g_5 : Sg, g_5 = st g_4 1 (x1 + (4 : Int32)).toNatClampNeg x6 → (vp_in (x1 + (5 : Int32)) 960 ∧ (∀ g_6 : Sg, g_6 = st g_5 1 (x1 + (5 : Int32)).toNatClampNeg x7 → (vp_in (x1 + (6 : Int32)) 960 ∧ (∀ g_7 : Sg, g_7 = st g_6 1 (x1 + (6 : Int32)).toNatClampNeg x8 → (vp_in (x1 + (7 : Int32)) 960 ∧ (∀ g_8 : Sg, g_8 = st g_7 1 (x1 + (7 : Int32)).toNatClampNeg x9 → (Q g_8))))))))))))))))
theorem dX8_spell_0 : decode cX8_spell 0 = .ok (.aload_n 0, 1) := by decide +kernel
theorem dX8_spell_1 : decode cX8_spell 1 = .ok (.getfield 13, 3) := by decide +kernel
theorem dX8_spell_4 : decode cX8_spell 4 = .ok (.iload_n 1, 1) := by decide +kernel
theorem dX8_spell_5 : decode cX8_spell 5 = .ok (.iload_n 2, 1) := by decide +kernel
theorem dX8_spell_6 : decode cX8_spell 6 = .ok (.iastore, 1) := by decide +kernel
theorem dX8_spell_7 : decode cX8_spell 7 = .ok (.aload_n 0, 1) := by decide +kernel
theorem dX8_spell_8 : decode cX8_spell 8 = .ok (.getfield 13, 3) := by decide +kernel
theorem dX8_spell_11 : decode cX8_spell 11 = .ok (.iload_n 1, 1) := by decide +kernel
theorem dX8_spell_12 : decode cX8_spell 12 = .ok (.iconst 1, 1) := by decide +kernel
theorem dX8_spell_13 : decode cX8_spell 13 = .ok (.iadd, 1) := by decide +kernel
theorem dX8_spell_14 : decode cX8_spell 14 = .ok (.iload_n 3, 1) := by decide +kernel
theorem dX8_spell_15 : decode cX8_spell 15 = .ok (.iastore, 1) := by decide +kernel
theorem dX8_spell_16 : decode cX8_spell 16 = .ok (.aload_n 0, 1) := by decide +kernel
theorem dX8_spell_17 : decode cX8_spell 17 = .ok (.getfield 13, 3) := by decide +kernel
theorem dX8_spell_20 : decode cX8_spell 20 = .ok (.iload_n 1, 1) := by decide +kernel
theorem dX8_spell_21 : decode cX8_spell 21 = .ok (.iconst 2, 1) := by decide +kernel
theorem dX8_spell_22 : decode cX8_spell 22 = .ok (.iadd, 1) := by decide +kernel
theorem dX8_spell_23 : decode cX8_spell 23 = .ok (.iload 4, 2) := by decide +kernel
theorem dX8_spell_25 : decode cX8_spell 25 = .ok (.iastore, 1) := by decide +kernel
theorem dX8_spell_26 : decode cX8_spell 26 = .ok (.aload_n 0, 1) := by decide +kernel
theorem dX8_spell_27 : decode cX8_spell 27 = .ok (.getfield 13, 3) := by decide +kernel
theorem dX8_spell_30 : decode cX8_spell 30 = .ok (.iload_n 1, 1) := by decide +kernel
theorem dX8_spell_31 : decode cX8_spell 31 = .ok (.iconst 3, 1) := by decide +kernel
theorem dX8_spell_32 : decode cX8_spell 32 = .ok (.iadd, 1) := by decide +kernel
theorem dX8_spell_33 : decode cX8_spell 33 = .ok (.iload 5, 2) := by decide +kernel
theorem dX8_spell_35 : decode cX8_spell 35 = .ok (.iastore, 1) := by decide +kernel
theorem dX8_spell_36 : decode cX8_spell 36 = .ok (.aload_n 0, 1) := by decide +kernel
theorem dX8_spell_37 : decode cX8_spell 37 = .ok (.getfield 13, 3) := by decide +kernel
theorem dX8_spell_40 : decode cX8_spell 40 = .ok (.iload_n 1, 1) := by decide +kernel
theorem dX8_spell_41 : decode cX8_spell 41 = .ok (.iconst 4, 1) := by decide +kernel
theorem dX8_spell_42 : decode cX8_spell 42 = .ok (.iadd, 1) := by decide +kernel
theorem dX8_spell_43 : decode cX8_spell 43 = .ok (.iload 6, 2) := by decide +kernel
theorem dX8_spell_45 : decode cX8_spell 45 = .ok (.iastore, 1) := by decide +kernel
theorem dX8_spell_46 : decode cX8_spell 46 = .ok (.aload_n 0, 1) := by decide +kernel
theorem dX8_spell_47 : decode cX8_spell 47 = .ok (.getfield 13, 3) := by decide +kernel
theorem dX8_spell_50 : decode cX8_spell 50 = .ok (.iload_n 1, 1) := by decide +kernel
theorem dX8_spell_51 : decode cX8_spell 51 = .ok (.iconst 5, 1) := by decide +kernel
theorem dX8_spell_52 : decode cX8_spell 52 = .ok (.iadd, 1) := by decide +kernel
theorem dX8_spell_53 : decode cX8_spell 53 = .ok (.iload 7, 2) := by decide +kernel
theorem dX8_spell_55 : decode cX8_spell 55 = .ok (.iastore, 1) := by decide +kernel
theorem dX8_spell_56 : decode cX8_spell 56 = .ok (.aload_n 0, 1) := by decide +kernel
theorem dX8_spell_57 : decode cX8_spell 57 = .ok (.getfield 13, 3) := by decide +kernel
theorem dX8_spell_60 : decode cX8_spell 60 = .ok (.iload_n 1, 1) := by decide +kernel
theorem dX8_spell_61 : decode cX8_spell 61 = .ok (.bipush 6, 2) := by decide +kernel
theorem dX8_spell_63 : decode cX8_spell 63 = .ok (.iadd, 1) := by decide +kernel
theorem dX8_spell_64 : decode cX8_spell 64 = .ok (.iload 8, 2) := by decide +kernel
theorem dX8_spell_66 : decode cX8_spell 66 = .ok (.iastore, 1) := by decide +kernel
theorem dX8_spell_67 : decode cX8_spell 67 = .ok (.aload_n 0, 1) := by decide +kernel
theorem dX8_spell_68 : decode cX8_spell 68 = .ok (.getfield 13, 3) := by decide +kernel
theorem dX8_spell_71 : decode cX8_spell 71 = .ok (.iload_n 1, 1) := by decide +kernel
theorem dX8_spell_72 : decode cX8_spell 72 = .ok (.bipush 7, 2) := by decide +kernel
theorem dX8_spell_74 : decode cX8_spell 74 = .ok (.iadd, 1) := by decide +kernel
theorem dX8_spell_75 : decode cX8_spell 75 = .ok (.iload 9, 2) := by decide +kernel
theorem dX8_spell_77 : decode cX8_spell 77 = .ok (.iastore, 1) := by decide +kernel
theorem dX8_spell_78 : decode cX8_spell 78 = .ok (.return_, 1) := by decide +kernel
set_option maxHeartbeats 4000000 in
set_option maxRecDepth 100000 in
theorem cc_X8_spell (l : Launch) (D : va_G) (cy : Nat → ClassId) (ad : Nat → Nat) (A : Nat → Prop)  (g0 : Sg) (Q : Sg → Prop) (x1 : Int32) (x2 : Int32) (x3 : Int32) (x4 : Int32) (x5 : Int32) (x6 : Int32) (x7 : Int32) (x8 : Int32) (x9 : Int32) (hd : vv_X8_spell x1 x2 x3 x4 x5 x6 x7 x8 x9 g0 Q) : Met l yX8_spell (Cond.code yX8_spell cX8_spell 10 none :: TT) (rmD 1) (va_Pc [.ref (ad 0), .int x1, .int x2, .int x3, .int x4, .int x5, .int x6, .int x7, .int x8, .int x9] (PreG (wsM cy ad) D cy A g0)) (va_Qv Q (PostG (wsM cy ad) D A) A) 0 0 A := by
  unfold vv_X8_spell at hd
  refine Met.ofW (cc := cX8_spell) (maxL := 10) (ret := none) (by decide) rfl ?_
  intro p e s m args below meth c s₁ B hml hv
  obtain ⟨rfl, hP, hK0, hD⟩ := hv
  have K : Kx p s m _ meth c cX8_spell 10 RX8 D cy := ⟨B.exec, B.bytes, hml, findClass_of_methodNamed B.named, fun w h => atoms_spec (ws := Cond.code yX8_spell cX8_spell 10 none :: TT) B.pre w (List.mem_cons_of_mem _ h), hK0, B.notSynchronized⟩
  have hw : Wd D A s.heap (wsM cy ad g0) s.heap [] := ⟨hP, hD, va_S.rf⟩
  have hr := B.returns
  have hl := lv_entry ([.ref (ad 0), .int x1, .int x2, .int x3, .int x4, .int x5, .int x6, .int x7, .int x8, .int x9]) (n := 10) (Nat.le_of_ble_eq_true rfl)
  rw [lg_entry_eq]
  generalize (lg_sl ([.ref (ad 0), .int x1, .int x2, .int x3, .int x4, .int x5, .int x6, .int x7, .int x8, .int x9]) ++ List.replicate (10 - (lg_sl ([.ref (ad 0), .int x1, .int x2, .int x3, .int x4, .int x5, .int x6, .int x7, .int x8, .int x9])).length) Slot.unset).toArray = ls at hl ⊢
  have hl : lv_has ls 10 [(0, .ref (ad 0)), (1, .int x1), (2, .int x2), (3, .int x3), (4, .int x4), (5, .int x5), (6, .int x6), (7, .int x7), (8, .int x8), (9, .int x9)] := hl
  refine lv_aload_n K.1 K.2.1 dX8_spell_0 rfl (lv_at hl 0 rfl) ?_
  refine rm_get 1 K hw (by decide) kf_X8_13 rfl dX8_spell_1 ?_
  refine lv_iload_n K.1 K.2.1 dX8_spell_4 rfl (lv_at hl 1 rfl) ?_
  refine lv_iload_n K.1 K.2.1 dX8_spell_5 rfl (lv_at hl 2 rfl) ?_
  have hb := hd.1
  have hd := hd.2
  refine rm_iast 1 K hw (by decide) hb dX8_spell_6 (fun g_1 eg_1 H locs hw => ?_)
  have hd := hd g_1 eg_1
  refine lv_aload_n K.1 K.2.1 dX8_spell_7 rfl (lv_at hl 0 rfl) ?_
  refine rm_get 1 K hw (by decide) kf_X8_13 rfl dX8_spell_8 ?_
  refine lv_iload_n K.1 K.2.1 dX8_spell_11 rfl (lv_at hl 1 rfl) ?_
  refine lv_iconst (v := (1 : Int32)) K.1 K.2.1 dX8_spell_12 (by decide) ?_
  refine lv_iadd K.1 K.2.1 dX8_spell_13 ?_
  refine lv_iload_n K.1 K.2.1 dX8_spell_14 rfl (lv_at hl 3 rfl) ?_
  have hb := hd.1
  have hd := hd.2
  refine rm_iast 1 K hw (by decide) hb dX8_spell_15 (fun g_2 eg_2 H locs hw => ?_)
  have hd := hd g_2 eg_2
  refine lv_aload_n K.1 K.2.1 dX8_spell_16 rfl (lv_at hl 0 rfl) ?_
  refine rm_get 1 K hw (by decide) kf_X8_13 rfl dX8_spell_17 ?_
  refine lv_iload_n K.1 K.2.1 dX8_spell_20 rfl (lv_at hl 1 rfl) ?_
  refine lv_iconst (v := (2 : Int32)) K.1 K.2.1 dX8_spell_21 (by decide) ?_
  refine lv_iadd K.1 K.2.1 dX8_spell_22 ?_
  refine lv_iload K.1 K.2.1 dX8_spell_23 (lv_at hl 4 rfl) ?_
  have hb := hd.1
  have hd := hd.2
  refine rm_iast 1 K hw (by decide) hb dX8_spell_25 (fun g_3 eg_3 H locs hw => ?_)
  have hd := hd g_3 eg_3
  refine lv_aload_n K.1 K.2.1 dX8_spell_26 rfl (lv_at hl 0 rfl) ?_
  refine rm_get 1 K hw (by decide) kf_X8_13 rfl dX8_spell_27 ?_
  refine lv_iload_n K.1 K.2.1 dX8_spell_30 rfl (lv_at hl 1 rfl) ?_
  refine lv_iconst (v := (3 : Int32)) K.1 K.2.1 dX8_spell_31 (by decide) ?_
  refine lv_iadd K.1 K.2.1 dX8_spell_32 ?_
  refine lv_iload K.1 K.2.1 dX8_spell_33 (lv_at hl 5 rfl) ?_
  have hb := hd.1
  have hd := hd.2
  refine rm_iast 1 K hw (by decide) hb dX8_spell_35 (fun g_4 eg_4 H locs hw => ?_)
  have hd := hd g_4 eg_4
  refine lv_aload_n K.1 K.2.1 dX8_spell_36 rfl (lv_at hl 0 rfl) ?_
  refine rm_get 1 K hw (by decide) kf_X8_13 rfl dX8_spell_37 ?_
  refine lv_iload_n K.1 K.2.1 dX8_spell_40 rfl (lv_at hl 1 rfl) ?_
  refine lv_iconst (v := (4 : Int32)) K.1 K.2.1 dX8_spell_41 (by decide) ?_
  refine lv_iadd K.1 K.2.1 dX8_spell_42 ?_
  refine lv_iload K.1 K.2.1 dX8_spell_43 (lv_at hl 6 rfl) ?_
  have hb := hd.1
  have hd := hd.2
  refine rm_iast 1 K hw (by decide) hb dX8_spell_45 (fun g_5 eg_5 H locs hw => ?_)
  have hd := hd g_5 eg_5
  refine lv_aload_n K.1 K.2.1 dX8_spell_46 rfl (lv_at hl 0 rfl) ?_
  refine rm_get 1 K hw (by decide) kf_X8_13 rfl dX8_spell_47 ?_
  refine lv_iload_n K.1 K.2.1 dX8_spell_50 rfl (lv_at hl 1 rfl) ?_
  refine lv_iconst (v := (5 : Int32)) K.1 K.2.1 dX8_spell_51 (by decide) ?_
  refine lv_iadd K.1 K.2.1 dX8_spell_52 ?_
  refine lv_iload K.1 K.2.1 dX8_spell_53 (lv_at hl 7 rfl) ?_
  have hb := hd.1
  have hd := hd.2
  refine rm_iast 1 K hw (by decide) hb dX8_spell_55 (fun g_6 eg_6 H locs hw => ?_)
  have hd := hd g_6 eg_6
  refine lv_aload_n K.1 K.2.1 dX8_spell_56 rfl (lv_at hl 0 rfl) ?_
  refine rm_get 1 K hw (by decide) kf_X8_13 rfl dX8_spell_57 ?_
  refine lv_iload_n K.1 K.2.1 dX8_spell_60 rfl (lv_at hl 1 rfl) ?_
  refine lv_bipush (v := (6 : Int32)) K.1 K.2.1 dX8_spell_61 (by decide) ?_
  refine lv_iadd K.1 K.2.1 dX8_spell_63 ?_
  refine lv_iload K.1 K.2.1 dX8_spell_64 (lv_at hl 8 rfl) ?_
  have hb := hd.1
  have hd := hd.2
  refine rm_iast 1 K hw (by decide) hb dX8_spell_66 (fun g_7 eg_7 H locs hw => ?_)
  have hd := hd g_7 eg_7
  refine lv_aload_n K.1 K.2.1 dX8_spell_67 rfl (lv_at hl 0 rfl) ?_
  refine rm_get 1 K hw (by decide) kf_X8_13 rfl dX8_spell_68 ?_
  refine lv_iload_n K.1 K.2.1 dX8_spell_71 rfl (lv_at hl 1 rfl) ?_
  refine lv_bipush (v := (7 : Int32)) K.1 K.2.1 dX8_spell_72 (by decide) ?_
  refine lv_iadd K.1 K.2.1 dX8_spell_74 ?_
  refine lv_iload K.1 K.2.1 dX8_spell_75 (lv_at hl 9 rfl) ?_
  have hb := hd.1
  have hd := hd.2
  refine rm_iast 1 K hw (by decide) hb dX8_spell_77 (fun g_8 eg_8 H locs hw => ?_)
  have hd := hd g_8 eg_8
  exact rk_vret K hw hr hd dX8_spell_78
theorem h_spell {at_ : Nat} {a b c d e f u v : Int32} {g : Sg} {Q : Sg → Prop} (ha : at_ + 8 ≤ 960) (hQ : ∀ g', (∀ k, k ≠ 1 → g' k = g k) → (∀ j, g' 1 j = if at_ ≤ j ∧ j < at_ + 8 then [a, b, c, d, e, f, u, v].getD (j - at_) 0 else g 1 j) → Q g') : vv_X8_spell (nI at_) a b c d e f u v g Q := by
  have ex : ∀ i : Nat, nI at_ + nI i = nI (at_ + i) := fun i => nI_add at_ i
  have e1 := ex 1; have e2 := ex 2; have e3 := ex 3; have e4 := ex 4; have e5 := ex 5; have e6 := ex 6; have e7 := ex 7
  unfold vv_X8_spell
  rw [show (1 : Int32) = nI 1 from rfl, show (2 : Int32) = nI 2 from rfl, show (3 : Int32) = nI 3 from rfl, show (4 : Int32) = nI 4 from rfl, show (5 : Int32) = nI 5 from rfl, show (6 : Int32) = nI 6 from rfl, show (7 : Int32) = nI 7 from rfl, e1, e2, e3, e4, e5, e6, e7]
  rw [nI_clamp (n := at_) (by omega), nI_clamp (n := at_ + 1) (by omega), nI_clamp (n := at_ + 2) (by omega), nI_clamp (n := at_ + 3) (by omega), nI_clamp (n := at_ + 4) (by omega), nI_clamp (n := at_ + 5) (by omega), nI_clamp (n := at_ + 6) (by omega), nI_clamp (n := at_ + 7) (by omega)]
  refine ⟨vp_in_nI (by omega) (by decide), ?_⟩; rintro g1 rfl
  refine ⟨vp_in_nI (by omega) (by decide), ?_⟩; rintro g1 rfl
  refine ⟨vp_in_nI (by omega) (by decide), ?_⟩; rintro g1 rfl
  refine ⟨vp_in_nI (by omega) (by decide), ?_⟩; rintro g1 rfl
  refine ⟨vp_in_nI (by omega) (by decide), ?_⟩; rintro g1 rfl
  refine ⟨vp_in_nI (by omega) (by decide), ?_⟩; rintro g1 rfl
  refine ⟨vp_in_nI (by omega) (by decide), ?_⟩; rintro g1 rfl
  refine ⟨vp_in_nI (by omega) (by decide), ?_⟩; rintro g1 rfl
  refine hQ _ (fun k hk => by rw [st_ne hk, st_ne hk, st_ne hk, st_ne hk, st_ne hk, st_ne hk, st_ne hk, st_ne hk]) (fun j => ?_)
  rw [st_at, st_at, st_at, st_at, st_at, st_at, st_at, st_at]
  by_cases h : at_ ≤ j ∧ j < at_ + 8
  · rw [if_pos h]
    obtain ⟨i, hi, rfl⟩ : ∃ i, i < 8 ∧ j = at_ + i := ⟨j - at_, by omega, by omega⟩
    rw [show at_ + i - at_ = i by omega]
    rcases (show i = 0 ∨ i = 1 ∨ i = 2 ∨ i = 3 ∨ i = 4 ∨ i = 5 ∨ i = 6 ∨ i = 7 by omega) with rfl | rfl | rfl | rfl | rfl | rfl | rfl | rfl <;> simp
  · rw [if_neg h, if_neg (by omega), if_neg (by omega), if_neg (by omega), if_neg (by omega), if_neg (by omega), if_neg (by omega), if_neg (by omega), if_neg (by omega)]
def sgR : Sg := fun k j => if k = 0 then (if j = 8 then 10 else if j = 32 then -1 else 0) else 0
def IniM (σ : Sg) : Prop := σ 0 3 = 1 ∧ σ 0 4 = 0 ∧ σ 0 6 = 0 ∧ σ 0 7 = 0 ∧ σ 0 8 = 10 ∧ σ 0 11 = 0 ∧ σ 0 32 = -1 ∧ (∀ i, i < 48 → σ 1 i = bR i) ∧ σ 2 0 = nI 48 ∧ ∀ s, s < 4 → σ 9 s = 0
abbrev zR : List Value := (.int 0 :: .null :: .null :: .int 0 :: .int 0 :: .null :: .int 0 :: .int 0 :: .int 0 :: .null :: .null :: .int 0 :: .int 0 :: .int 0 :: .int 0 :: .int 0 :: .int 0 :: .int 0 :: .int 0 :: .int 0 :: .int 0 :: .int 0 :: .int 0 :: .long 0 :: .int 0 :: .int 0 :: .int 0 :: .null :: .null :: .int 0 :: .int 0 :: .null :: .int 0 :: .int 0 :: .int 0 :: .int 0 :: .null :: .null :: .null :: .null :: [])
theorem ko_X8_7 : Cond.methodLink RX8 7 Lib.objectInit ∈ TT := (TTm (List.mem_of_getElem? (i := 834) (by decide +kernel)) rfl)
theorem ka_boolean : Cond.arrayClass .boolean ∈ TT := (TTm (List.mem_of_getElem? (i := 959) (by decide +kernel)) rfl)
theorem lk_X8_57 : LkV RX8 57 RX8 yX8_spell cX8_spell 10 none 9 := ⟨(TTm (List.mem_of_getElem? (i := 835) (by decide +kernel)) rfl), (TTm (List.mem_of_getElem? (i := 837) (by decide +kernel)) rfl), (TTm (List.mem_of_getElem? (i := 32) (by decide +kernel)) rfl), (TTm (List.mem_of_getElem? (i := 119) (by decide +kernel)) rfl), (TTm (List.mem_of_getElem? (i := 838) (by decide +kernel)) rfl), by decide +kernel⟩
theorem dX8_init_0 : decode cX8_init 0 = .ok (.aload_n 0, 1) := by decide +kernel
theorem dX8_init_1 : decode cX8_init 1 = .ok (.invokespecial 7, 3) := by decide +kernel
theorem dX8_init_4 : decode cX8_init 4 = .ok (.aload_n 0, 1) := by decide +kernel
theorem dX8_init_5 : decode cX8_init 5 = .ok (.sipush 960, 3) := by decide +kernel
theorem dX8_init_8 : decode cX8_init 8 = .ok (.newarray .int, 2) := by decide +kernel
theorem dX8_init_10 : decode cX8_init 10 = .ok (.putfield 13, 3) := by decide +kernel
theorem dX8_init_13 : decode cX8_init 13 = .ok (.aload_n 0, 1) := by decide +kernel
theorem dX8_init_14 : decode cX8_init 14 = .ok (.bipush 6, 2) := by decide +kernel
theorem dX8_init_16 : decode cX8_init 16 = .ok (.newarray .int, 2) := by decide +kernel
theorem dX8_init_18 : decode cX8_init 18 = .ok (.putfield 17, 3) := by decide +kernel
theorem dX8_init_21 : decode cX8_init 21 = .ok (.aload_n 0, 1) := by decide +kernel
theorem dX8_init_22 : decode cX8_init 22 = .ok (.sipush 160, 3) := by decide +kernel
theorem dX8_init_25 : decode cX8_init 25 = .ok (.newarray .int, 2) := by decide +kernel
theorem dX8_init_27 : decode cX8_init 27 = .ok (.putfield 20, 3) := by decide +kernel
theorem dX8_init_30 : decode cX8_init 30 = .ok (.aload_n 0, 1) := by decide +kernel
theorem dX8_init_31 : decode cX8_init 31 = .ok (.bipush 10, 2) := by decide +kernel
theorem dX8_init_33 : decode cX8_init 33 = .ok (.putfield 23, 3) := by decide +kernel
theorem dX8_init_36 : decode cX8_init 36 = .ok (.aload_n 0, 1) := by decide +kernel
theorem dX8_init_37 : decode cX8_init 37 = .ok (.bipush 8, 2) := by decide +kernel
theorem dX8_init_39 : decode cX8_init 39 = .ok (.newarray .int, 2) := by decide +kernel
theorem dX8_init_41 : decode cX8_init 41 = .ok (.putfield 26, 3) := by decide +kernel
theorem dX8_init_44 : decode cX8_init 44 = .ok (.aload_n 0, 1) := by decide +kernel
theorem dX8_init_45 : decode cX8_init 45 = .ok (.bipush 40, 2) := by decide +kernel
theorem dX8_init_47 : decode cX8_init 47 = .ok (.newarray .int, 2) := by decide +kernel
theorem dX8_init_49 : decode cX8_init 49 = .ok (.putfield 29, 3) := by decide +kernel
theorem dX8_init_52 : decode cX8_init 52 = .ok (.aload_n 0, 1) := by decide +kernel
theorem dX8_init_53 : decode cX8_init 53 = .ok (.bipush 8, 2) := by decide +kernel
theorem dX8_init_55 : decode cX8_init 55 = .ok (.newarray .int, 2) := by decide +kernel
theorem dX8_init_57 : decode cX8_init 57 = .ok (.putfield 32, 3) := by decide +kernel
theorem dX8_init_60 : decode cX8_init 60 = .ok (.aload_n 0, 1) := by decide +kernel
theorem dX8_init_61 : decode cX8_init 61 = .ok (.bipush 9, 2) := by decide +kernel
theorem dX8_init_63 : decode cX8_init 63 = .ok (.newarray .int, 2) := by decide +kernel
theorem dX8_init_65 : decode cX8_init 65 = .ok (.putfield 35, 3) := by decide +kernel
theorem dX8_init_68 : decode cX8_init 68 = .ok (.aload_n 0, 1) := by decide +kernel
theorem dX8_init_69 : decode cX8_init 69 = .ok (.bipush 40, 2) := by decide +kernel
theorem dX8_init_71 : decode cX8_init 71 = .ok (.newarray .int, 2) := by decide +kernel
theorem dX8_init_73 : decode cX8_init 73 = .ok (.putfield 38, 3) := by decide +kernel
theorem dX8_init_76 : decode cX8_init 76 = .ok (.aload_n 0, 1) := by decide +kernel
theorem dX8_init_77 : decode cX8_init 77 = .ok (.iconst (-1), 1) := by decide +kernel
theorem dX8_init_78 : decode cX8_init 78 = .ok (.putfield 41, 3) := by decide +kernel
theorem dX8_init_81 : decode cX8_init 81 = .ok (.aload_n 0, 1) := by decide +kernel
theorem dX8_init_82 : decode cX8_init 82 = .ok (.iconst 4, 1) := by decide +kernel
theorem dX8_init_83 : decode cX8_init 83 = .ok (.newarray .boolean, 2) := by decide +kernel
theorem dX8_init_85 : decode cX8_init 85 = .ok (.putfield 44, 3) := by decide +kernel
theorem dX8_init_88 : decode cX8_init 88 = .ok (.aload_n 0, 1) := by decide +kernel
theorem dX8_init_89 : decode cX8_init 89 = .ok (.iconst 4, 1) := by decide +kernel
theorem dX8_init_90 : decode cX8_init 90 = .ok (.newarray .int, 2) := by decide +kernel
theorem dX8_init_92 : decode cX8_init 92 = .ok (.putfield 48, 3) := by decide +kernel
theorem dX8_init_95 : decode cX8_init 95 = .ok (.aload_n 0, 1) := by decide +kernel
theorem dX8_init_96 : decode cX8_init 96 = .ok (.iconst 4, 1) := by decide +kernel
theorem dX8_init_97 : decode cX8_init 97 = .ok (.newarray .int, 2) := by decide +kernel
theorem dX8_init_99 : decode cX8_init 99 = .ok (.putfield 51, 3) := by decide +kernel
theorem dX8_init_102 : decode cX8_init 102 = .ok (.aload_n 0, 1) := by decide +kernel
theorem dX8_init_103 : decode cX8_init 103 = .ok (.sipush 160, 3) := by decide +kernel
theorem dX8_init_106 : decode cX8_init 106 = .ok (.newarray .int, 2) := by decide +kernel
theorem dX8_init_108 : decode cX8_init 108 = .ok (.putfield 54, 3) := by decide +kernel
theorem dX8_init_111 : decode cX8_init 111 = .ok (.aload_n 0, 1) := by decide +kernel
theorem dX8_init_112 : decode cX8_init 112 = .ok (.iconst 0, 1) := by decide +kernel
theorem dX8_init_113 : decode cX8_init 113 = .ok (.bipush 102, 2) := by decide +kernel
theorem dX8_init_115 : decode cX8_init 115 = .ok (.bipush 101, 2) := by decide +kernel
theorem dX8_init_117 : decode cX8_init 117 = .ok (.bipush 101, 2) := by decide +kernel
theorem dX8_init_119 : decode cX8_init 119 = .ok (.bipush 108, 2) := by decide +kernel
theorem dX8_init_121 : decode cX8_init 121 = .ok (.bipush 115, 2) := by decide +kernel
theorem dX8_init_123 : decode cX8_init 123 = .ok (.bipush 32, 2) := by decide +kernel
theorem dX8_init_125 : decode cX8_init 125 = .ok (.bipush 109, 2) := by decide +kernel
theorem dX8_init_127 : decode cX8_init 127 = .ok (.bipush 111, 2) := by decide +kernel
theorem dX8_init_129 : decode cX8_init 129 = .ok (.invokevirtual 57, 3) := by decide +kernel
theorem dX8_init_132 : decode cX8_init 132 = .ok (.aload_n 0, 1) := by decide +kernel
theorem dX8_init_133 : decode cX8_init 133 = .ok (.bipush 8, 2) := by decide +kernel
theorem dX8_init_135 : decode cX8_init 135 = .ok (.bipush 111, 2) := by decide +kernel
theorem dX8_init_137 : decode cX8_init 137 = .ok (.bipush 100, 2) := by decide +kernel
theorem dX8_init_139 : decode cX8_init 139 = .ok (.bipush 32, 2) := by decide +kernel
theorem dX8_init_141 : decode cX8_init 141 = .ok (.bipush 59, 2) := by decide +kernel
theorem dX8_init_143 : decode cX8_init 143 = .ok (.bipush 32, 2) := by decide +kernel
theorem dX8_init_145 : decode cX8_init 145 = .ok (.bipush 119, 2) := by decide +kernel
theorem dX8_init_147 : decode cX8_init 147 = .ok (.bipush 101, 2) := by decide +kernel
theorem dX8_init_149 : decode cX8_init 149 = .ok (.bipush 105, 2) := by decide +kernel
theorem dX8_init_151 : decode cX8_init 151 = .ok (.invokevirtual 57, 3) := by decide +kernel
theorem dX8_init_154 : decode cX8_init 154 = .ok (.aload_n 0, 1) := by decide +kernel
theorem dX8_init_155 : decode cX8_init 155 = .ok (.bipush 16, 2) := by decide +kernel
theorem dX8_init_157 : decode cX8_init 157 = .ok (.bipush 103, 2) := by decide +kernel
theorem dX8_init_159 : decode cX8_init 159 = .ok (.bipush 104, 2) := by decide +kernel
theorem dX8_init_161 : decode cX8_init 161 = .ok (.bipush 115, 2) := by decide +kernel
theorem dX8_init_163 : decode cX8_init 163 = .ok (.bipush 32, 2) := by decide +kernel
theorem dX8_init_165 : decode cX8_init 165 = .ok (.bipush 49, 2) := by decide +kernel
theorem dX8_init_167 : decode cX8_init 167 = .ok (.bipush 32, 2) := by decide +kernel
theorem dX8_init_169 : decode cX8_init 169 = .ok (.bipush 43, 2) := by decide +kernel
theorem dX8_init_171 : decode cX8_init 171 = .ok (.bipush 32, 2) := by decide +kernel
theorem dX8_init_173 : decode cX8_init 173 = .ok (.invokevirtual 57, 3) := by decide +kernel
theorem dX8_init_176 : decode cX8_init 176 = .ok (.aload_n 0, 1) := by decide +kernel
theorem dX8_init_177 : decode cX8_init 177 = .ok (.bipush 24, 2) := by decide +kernel
theorem dX8_init_179 : decode cX8_init 179 = .ok (.bipush 110, 2) := by decide +kernel
theorem dX8_init_181 : decode cX8_init 181 = .ok (.bipush 117, 2) := by decide +kernel
theorem dX8_init_183 : decode cX8_init 183 = .ok (.bipush 109, 2) := by decide +kernel
theorem dX8_init_185 : decode cX8_init 185 = .ok (.bipush 98, 2) := by decide +kernel
theorem dX8_init_187 : decode cX8_init 187 = .ok (.bipush 101, 2) := by decide +kernel
theorem dX8_init_189 : decode cX8_init 189 = .ok (.bipush 114, 2) := by decide +kernel
theorem dX8_init_191 : decode cX8_init 191 = .ok (.bipush 32, 2) := by decide +kernel
theorem dX8_init_193 : decode cX8_init 193 = .ok (.bipush 59, 2) := by decide +kernel
theorem dX8_init_195 : decode cX8_init 195 = .ok (.invokevirtual 57, 3) := by decide +kernel
theorem dX8_init_198 : decode cX8_init 198 = .ok (.aload_n 0, 1) := by decide +kernel
theorem dX8_init_199 : decode cX8_init 199 = .ok (.bipush 32, 2) := by decide +kernel
theorem dX8_init_201 : decode cX8_init 201 = .ok (.bipush 32, 2) := by decide +kernel
theorem dX8_init_203 : decode cX8_init 203 = .ok (.bipush 115, 2) := by decide +kernel
theorem dX8_init_205 : decode cX8_init 205 = .ok (.bipush 109, 2) := by decide +kernel
theorem dX8_init_207 : decode cX8_init 207 = .ok (.bipush 111, 2) := by decide +kernel
theorem dX8_init_209 : decode cX8_init 209 = .ok (.bipush 111, 2) := by decide +kernel
theorem dX8_init_211 : decode cX8_init 211 = .ok (.bipush 116, 2) := by decide +kernel
theorem dX8_init_213 : decode cX8_init 213 = .ok (.bipush 104, 2) := by decide +kernel
theorem dX8_init_215 : decode cX8_init 215 = .ok (.bipush 115, 2) := by decide +kernel
theorem dX8_init_217 : decode cX8_init 217 = .ok (.invokevirtual 57, 3) := by decide +kernel
theorem dX8_init_220 : decode cX8_init 220 = .ok (.aload_n 0, 1) := by decide +kernel
theorem dX8_init_221 : decode cX8_init 221 = .ok (.bipush 40, 2) := by decide +kernel
theorem dX8_init_223 : decode cX8_init 223 = .ok (.bipush 32, 2) := by decide +kernel
theorem dX8_init_225 : decode cX8_init 225 = .ok (.bipush 53, 2) := by decide +kernel
theorem dX8_init_227 : decode cX8_init 227 = .ok (.bipush 32, 2) := by decide +kernel
theorem dX8_init_229 : decode cX8_init 229 = .ok (.bipush 59, 2) := by decide +kernel
theorem dX8_init_231 : decode cX8_init 231 = .ok (.bipush 32, 2) := by decide +kernel
theorem dX8_init_233 : decode cX8_init 233 = .ok (.bipush 32, 2) := by decide +kernel
theorem dX8_init_235 : decode cX8_init 235 = .ok (.bipush 32, 2) := by decide +kernel
theorem dX8_init_237 : decode cX8_init 237 = .ok (.bipush 32, 2) := by decide +kernel
theorem dX8_init_239 : decode cX8_init 239 = .ok (.invokevirtual 57, 3) := by decide +kernel
theorem dX8_init_242 : decode cX8_init 242 = .ok (.aload_n 0, 1) := by decide +kernel
theorem dX8_init_243 : decode cX8_init 243 = .ok (.getfield 17, 3) := by decide +kernel
theorem dX8_init_246 : decode cX8_init 246 = .ok (.iconst 0, 1) := by decide +kernel
theorem dX8_init_247 : decode cX8_init 247 = .ok (.bipush 48, 2) := by decide +kernel
theorem dX8_init_249 : decode cX8_init 249 = .ok (.iastore, 1) := by decide +kernel
theorem dX8_init_250 : decode cX8_init 250 = .ok (.aload_n 0, 1) := by decide +kernel
theorem dX8_init_251 : decode cX8_init 251 = .ok (.iconst 1, 1) := by decide +kernel
theorem dX8_init_252 : decode cX8_init 252 = .ok (.putfield 61, 3) := by decide +kernel
theorem dX8_init_255 : decode cX8_init 255 = .ok (.return_, 1) := by decide +kernel
theorem cx_X8_init (l : Launch) (D : va_G) (cy : Nat → ClassId) (A : Nat → Prop) (X : Nat → Nat) (sz : Nat) (hA0 : ∀ q, sz ≤ q → A q) (h0 : Nat) : MetX l yX8_init cX8_init 1 none 2 12 1403 [.ref h0] [(h0, .inr (8, (.int 0 :: .null :: .null :: .int 0 :: .int 0 :: .null :: .int 0 :: .int 0 :: .int 0 :: .null :: .null :: .int 0 :: .int 0 :: .int 0 :: .int 0 :: .int 0 :: .int 0 :: .int 0 :: .int 0 :: .int 0 :: .int 0 :: .int 0 :: .int 0 :: .long 0 :: .int 0 :: .int 0 :: .int 0 :: .null :: .null :: .int 0 :: .int 0 :: .null :: .int 0 :: .int 0 :: .int 0 :: .int 0 :: .null :: .null :: .null :: .null :: [])))] D cy A X sz (fun v w => v = none ∧ ∃ ad σ, ad 0 = h0 ∧ w = wsM cy ad σ ∧ IniM σ) := by
  refine Met.ofW (cc := cX8_init) (maxL := 1) (ret := none) (by decide) rfl ?_
  intro p e s m args below meth c s₁ B hml hv
  obtain ⟨rfl, hsz, hP, hK0, hD, KX, KS⟩ := hv
  have K : Kx p s m _ meth c cX8_init 1 RX8 D cy := ⟨B.exec, B.bytes, hml, findClass_of_methodNamed B.named, fun w h => atoms_spec (ws := Cond.code yX8_init cX8_init 1 none :: TT) B.pre w (List.mem_cons_of_mem _ h), hK0, B.notSynchronized⟩
  have hw : Wd D A s.heap [(h0, .inr (8, (.int 0 :: .null :: .null :: .int 0 :: .int 0 :: .null :: .int 0 :: .int 0 :: .int 0 :: .null :: .null :: .int 0 :: .int 0 :: .int 0 :: .int 0 :: .int 0 :: .int 0 :: .int 0 :: .int 0 :: .int 0 :: .int 0 :: .int 0 :: .int 0 :: .long 0 :: .int 0 :: .int 0 :: .int 0 :: .null :: .null :: .int 0 :: .int 0 :: .null :: .int 0 :: .int 0 :: .int 0 :: .int 0 :: .null :: .null :: .null :: .null :: [])))] s.heap [] := ⟨hP, hD, va_S.rf⟩
  have hr := B.returns
  have hin : meth.name = "<init>" := (name_of_methodNamed B.named B.method).1
  have hA : ∀ q, s.heap.size ≤ q → A q := fun q h => hA0 q (by rw [← hsz]; exact h)
  have hl := lv_entry ([.ref h0]) (n := 1) (Nat.le_of_ble_eq_true rfl)
  rw [lg_entry_eq]
  generalize (lg_sl ([.ref h0]) ++ List.replicate (1 - (lg_sl ([.ref h0])).length) Slot.unset).toArray = ls at hl ⊢
  have hl : lv_has ls 1 [(0, .ref h0)] := hl
  refine lv_aload_n K.1 K.2.1 dX8_init_0 rfl (lv_at hl 0 rfl) ?_
  refine W.objInit K.1 K.2.1 K.2.2.2.1 (K.2.2.2.2.1 _ ko_X8_7) (K.2.2.2.2.1 _ ko_inst) (K.2.2.2.2.1 _ ko_code) rfl (by rw [K.2.2.1]; exact hl.1) rfl dX8_init_1 (Nat.le_of_ble_eq_true rfl) (Nat.le_of_ble_eq_true rfl) ?_
  refine W.eq (g2 := F0 m 4 ls []) rfl ?_
  refine lv_aload_n K.1 K.2.1 dX8_init_4 rfl (lv_at hl 0 rfl) ?_
  refine lv_sipush (v := (960 : Int32)) K.1 K.2.1 dX8_init_5 (by decide) ?_
  refine rx_newi (N := 960) K hA hw ka_int (by decide) (by decide) (by decide) (Nat.le_of_ble_eq_true rfl) (Nat.le_of_ble_eq_true rfl) dX8_init_8 (fun q1 H hw => ?_)
  have hw : Wd D A s.heap [(h0, .inr (8, (.int 0 :: .null :: .null :: .int 0 :: .int 0 :: .null :: .int 0 :: .int 0 :: .int 0 :: .null :: .null :: .int 0 :: .int 0 :: .int 0 :: .int 0 :: .int 0 :: .int 0 :: .int 0 :: .int 0 :: .int 0 :: .int 0 :: .int 0 :: .int 0 :: .long 0 :: .int 0 :: .int 0 :: .int 0 :: .null :: .null :: .int 0 :: .int 0 :: .null :: .int 0 :: .int 0 :: .int 0 :: .int 0 :: .null :: .null :: .null :: .null :: []))), (q1, .inl (cy 0, 960, .inl (fun _ => 0)))] H _ := hw
  refine W.widen (k := 1) (n := 960) (Nat.le_of_ble_eq_true rfl) (Nat.le_of_ble_eq_true rfl) ?_
  refine rx_putF rk_lay8 (ci := 8) rfl tyX8_ok nmX8 1 (by decide) (k := 0) K hw rfl kf_X8_13 rfl hin rfl (tyX8_ok 1 (by decide)) rfl rfl (Nat.le_of_ble_eq_true rfl) dX8_init_10 (fun H locs hw => ?_)
  have hw : Wd D A s.heap [(h0, .inr (8, (.int 0 :: .ref q1 :: .null :: .int 0 :: .int 0 :: .null :: .int 0 :: .int 0 :: .int 0 :: .null :: .null :: .int 0 :: .int 0 :: .int 0 :: .int 0 :: .int 0 :: .int 0 :: .int 0 :: .int 0 :: .int 0 :: .int 0 :: .int 0 :: .int 0 :: .long 0 :: .int 0 :: .int 0 :: .int 0 :: .null :: .null :: .int 0 :: .int 0 :: .null :: .int 0 :: .int 0 :: .int 0 :: .int 0 :: .null :: .null :: .null :: .null :: []))), (q1, .inl (cy 0, 960, .inl (fun _ => 0)))] H locs := hw
  refine lv_aload_n K.1 K.2.1 dX8_init_13 rfl (lv_at hl 0 rfl) ?_
  refine lv_bipush (v := (6 : Int32)) K.1 K.2.1 dX8_init_14 (by decide) ?_
  refine rx_newi (N := 6) K hA hw ka_int (by decide) (by decide) (by decide) (Nat.le_of_ble_eq_true rfl) (Nat.le_of_ble_eq_true rfl) dX8_init_16 (fun q2 H hw => ?_)
  have hw : Wd D A s.heap [(h0, .inr (8, (.int 0 :: .ref q1 :: .null :: .int 0 :: .int 0 :: .null :: .int 0 :: .int 0 :: .int 0 :: .null :: .null :: .int 0 :: .int 0 :: .int 0 :: .int 0 :: .int 0 :: .int 0 :: .int 0 :: .int 0 :: .int 0 :: .int 0 :: .int 0 :: .int 0 :: .long 0 :: .int 0 :: .int 0 :: .int 0 :: .null :: .null :: .int 0 :: .int 0 :: .null :: .int 0 :: .int 0 :: .int 0 :: .int 0 :: .null :: .null :: .null :: .null :: []))), (q1, .inl (cy 0, 960, .inl (fun _ => 0))), (q2, .inl (cy 0, 6, .inl (fun _ => 0)))] H _ := hw
  refine W.widen (k := 2) (n := 966) (Nat.le_of_ble_eq_true rfl) (Nat.le_of_ble_eq_true rfl) ?_
  refine rx_putF rk_lay8 (ci := 8) rfl tyX8_ok nmX8 2 (by decide) (k := 0) K hw rfl kf_X8_17 rfl hin rfl (tyX8_ok 2 (by decide)) rfl rfl (Nat.le_of_ble_eq_true rfl) dX8_init_18 (fun H locs hw => ?_)
  have hw : Wd D A s.heap [(h0, .inr (8, (.int 0 :: .ref q1 :: .ref q2 :: .int 0 :: .int 0 :: .null :: .int 0 :: .int 0 :: .int 0 :: .null :: .null :: .int 0 :: .int 0 :: .int 0 :: .int 0 :: .int 0 :: .int 0 :: .int 0 :: .int 0 :: .int 0 :: .int 0 :: .int 0 :: .int 0 :: .long 0 :: .int 0 :: .int 0 :: .int 0 :: .null :: .null :: .int 0 :: .int 0 :: .null :: .int 0 :: .int 0 :: .int 0 :: .int 0 :: .null :: .null :: .null :: .null :: []))), (q1, .inl (cy 0, 960, .inl (fun _ => 0))), (q2, .inl (cy 0, 6, .inl (fun _ => 0)))] H locs := hw
  refine lv_aload_n K.1 K.2.1 dX8_init_21 rfl (lv_at hl 0 rfl) ?_
  refine lv_sipush (v := (160 : Int32)) K.1 K.2.1 dX8_init_22 (by decide) ?_
  refine rx_newi (N := 160) K hA hw ka_int (by decide) (by decide) (by decide) (Nat.le_of_ble_eq_true rfl) (Nat.le_of_ble_eq_true rfl) dX8_init_25 (fun q3 H hw => ?_)
  have hw : Wd D A s.heap [(h0, .inr (8, (.int 0 :: .ref q1 :: .ref q2 :: .int 0 :: .int 0 :: .null :: .int 0 :: .int 0 :: .int 0 :: .null :: .null :: .int 0 :: .int 0 :: .int 0 :: .int 0 :: .int 0 :: .int 0 :: .int 0 :: .int 0 :: .int 0 :: .int 0 :: .int 0 :: .int 0 :: .long 0 :: .int 0 :: .int 0 :: .int 0 :: .null :: .null :: .int 0 :: .int 0 :: .null :: .int 0 :: .int 0 :: .int 0 :: .int 0 :: .null :: .null :: .null :: .null :: []))), (q1, .inl (cy 0, 960, .inl (fun _ => 0))), (q2, .inl (cy 0, 6, .inl (fun _ => 0))), (q3, .inl (cy 0, 160, .inl (fun _ => 0)))] H _ := hw
  refine W.widen (k := 3) (n := 1126) (Nat.le_of_ble_eq_true rfl) (Nat.le_of_ble_eq_true rfl) ?_
  refine rx_putF rk_lay8 (ci := 8) rfl tyX8_ok nmX8 5 (by decide) (k := 0) K hw rfl kf_X8_20 rfl hin rfl (tyX8_ok 5 (by decide)) rfl rfl (Nat.le_of_ble_eq_true rfl) dX8_init_27 (fun H locs hw => ?_)
  have hw : Wd D A s.heap [(h0, .inr (8, (.int 0 :: .ref q1 :: .ref q2 :: .int 0 :: .int 0 :: .ref q3 :: .int 0 :: .int 0 :: .int 0 :: .null :: .null :: .int 0 :: .int 0 :: .int 0 :: .int 0 :: .int 0 :: .int 0 :: .int 0 :: .int 0 :: .int 0 :: .int 0 :: .int 0 :: .int 0 :: .long 0 :: .int 0 :: .int 0 :: .int 0 :: .null :: .null :: .int 0 :: .int 0 :: .null :: .int 0 :: .int 0 :: .int 0 :: .int 0 :: .null :: .null :: .null :: .null :: []))), (q1, .inl (cy 0, 960, .inl (fun _ => 0))), (q2, .inl (cy 0, 6, .inl (fun _ => 0))), (q3, .inl (cy 0, 160, .inl (fun _ => 0)))] H locs := hw
  refine lv_aload_n K.1 K.2.1 dX8_init_30 rfl (lv_at hl 0 rfl) ?_
  refine lv_bipush (v := (10 : Int32)) K.1 K.2.1 dX8_init_31 (by decide) ?_
  refine rx_put rk_lay8 (ci := 8) rfl tyX8_ok nmX8 8 (by decide) (k := 0) K hw rfl kf_X8_23 rfl (tyX8_ok 8 (by decide)) rfl rfl (Nat.le_of_ble_eq_true rfl) dX8_init_33 (fun H locs hw => ?_)
  have hw : Wd D A s.heap [(h0, .inr (8, (.int 0 :: .ref q1 :: .ref q2 :: .int 0 :: .int 0 :: .ref q3 :: .int 0 :: .int 0 :: .int (10 : Int32) :: .null :: .null :: .int 0 :: .int 0 :: .int 0 :: .int 0 :: .int 0 :: .int 0 :: .int 0 :: .int 0 :: .int 0 :: .int 0 :: .int 0 :: .int 0 :: .long 0 :: .int 0 :: .int 0 :: .int 0 :: .null :: .null :: .int 0 :: .int 0 :: .null :: .int 0 :: .int 0 :: .int 0 :: .int 0 :: .null :: .null :: .null :: .null :: []))), (q1, .inl (cy 0, 960, .inl (fun _ => 0))), (q2, .inl (cy 0, 6, .inl (fun _ => 0))), (q3, .inl (cy 0, 160, .inl (fun _ => 0)))] H locs := hw
  refine lv_aload_n K.1 K.2.1 dX8_init_36 rfl (lv_at hl 0 rfl) ?_
  refine lv_bipush (v := (8 : Int32)) K.1 K.2.1 dX8_init_37 (by decide) ?_
  refine rx_newi (N := 8) K hA hw ka_int (by decide) (by decide) (by decide) (Nat.le_of_ble_eq_true rfl) (Nat.le_of_ble_eq_true rfl) dX8_init_39 (fun q4 H hw => ?_)
  have hw : Wd D A s.heap [(h0, .inr (8, (.int 0 :: .ref q1 :: .ref q2 :: .int 0 :: .int 0 :: .ref q3 :: .int 0 :: .int 0 :: .int (10 : Int32) :: .null :: .null :: .int 0 :: .int 0 :: .int 0 :: .int 0 :: .int 0 :: .int 0 :: .int 0 :: .int 0 :: .int 0 :: .int 0 :: .int 0 :: .int 0 :: .long 0 :: .int 0 :: .int 0 :: .int 0 :: .null :: .null :: .int 0 :: .int 0 :: .null :: .int 0 :: .int 0 :: .int 0 :: .int 0 :: .null :: .null :: .null :: .null :: []))), (q1, .inl (cy 0, 960, .inl (fun _ => 0))), (q2, .inl (cy 0, 6, .inl (fun _ => 0))), (q3, .inl (cy 0, 160, .inl (fun _ => 0))), (q4, .inl (cy 0, 8, .inl (fun _ => 0)))] H _ := hw
  refine W.widen (k := 4) (n := 1134) (Nat.le_of_ble_eq_true rfl) (Nat.le_of_ble_eq_true rfl) ?_
  refine rx_putF rk_lay8 (ci := 8) rfl tyX8_ok nmX8 9 (by decide) (k := 0) K hw rfl kf_X8_26 rfl hin rfl (tyX8_ok 9 (by decide)) rfl rfl (Nat.le_of_ble_eq_true rfl) dX8_init_41 (fun H locs hw => ?_)
  have hw : Wd D A s.heap [(h0, .inr (8, (.int 0 :: .ref q1 :: .ref q2 :: .int 0 :: .int 0 :: .ref q3 :: .int 0 :: .int 0 :: .int (10 : Int32) :: .ref q4 :: .null :: .int 0 :: .int 0 :: .int 0 :: .int 0 :: .int 0 :: .int 0 :: .int 0 :: .int 0 :: .int 0 :: .int 0 :: .int 0 :: .int 0 :: .long 0 :: .int 0 :: .int 0 :: .int 0 :: .null :: .null :: .int 0 :: .int 0 :: .null :: .int 0 :: .int 0 :: .int 0 :: .int 0 :: .null :: .null :: .null :: .null :: []))), (q1, .inl (cy 0, 960, .inl (fun _ => 0))), (q2, .inl (cy 0, 6, .inl (fun _ => 0))), (q3, .inl (cy 0, 160, .inl (fun _ => 0))), (q4, .inl (cy 0, 8, .inl (fun _ => 0)))] H locs := hw
  refine lv_aload_n K.1 K.2.1 dX8_init_44 rfl (lv_at hl 0 rfl) ?_
  refine lv_bipush (v := (40 : Int32)) K.1 K.2.1 dX8_init_45 (by decide) ?_
  refine rx_newi (N := 40) K hA hw ka_int (by decide) (by decide) (by decide) (Nat.le_of_ble_eq_true rfl) (Nat.le_of_ble_eq_true rfl) dX8_init_47 (fun q5 H hw => ?_)
  have hw : Wd D A s.heap [(h0, .inr (8, (.int 0 :: .ref q1 :: .ref q2 :: .int 0 :: .int 0 :: .ref q3 :: .int 0 :: .int 0 :: .int (10 : Int32) :: .ref q4 :: .null :: .int 0 :: .int 0 :: .int 0 :: .int 0 :: .int 0 :: .int 0 :: .int 0 :: .int 0 :: .int 0 :: .int 0 :: .int 0 :: .int 0 :: .long 0 :: .int 0 :: .int 0 :: .int 0 :: .null :: .null :: .int 0 :: .int 0 :: .null :: .int 0 :: .int 0 :: .int 0 :: .int 0 :: .null :: .null :: .null :: .null :: []))), (q1, .inl (cy 0, 960, .inl (fun _ => 0))), (q2, .inl (cy 0, 6, .inl (fun _ => 0))), (q3, .inl (cy 0, 160, .inl (fun _ => 0))), (q4, .inl (cy 0, 8, .inl (fun _ => 0))), (q5, .inl (cy 0, 40, .inl (fun _ => 0)))] H _ := hw
  refine W.widen (k := 5) (n := 1174) (Nat.le_of_ble_eq_true rfl) (Nat.le_of_ble_eq_true rfl) ?_
  refine rx_putF rk_lay8 (ci := 8) rfl tyX8_ok nmX8 10 (by decide) (k := 0) K hw rfl kf_X8_29 rfl hin rfl (tyX8_ok 10 (by decide)) rfl rfl (Nat.le_of_ble_eq_true rfl) dX8_init_49 (fun H locs hw => ?_)
  have hw : Wd D A s.heap [(h0, .inr (8, (.int 0 :: .ref q1 :: .ref q2 :: .int 0 :: .int 0 :: .ref q3 :: .int 0 :: .int 0 :: .int (10 : Int32) :: .ref q4 :: .ref q5 :: .int 0 :: .int 0 :: .int 0 :: .int 0 :: .int 0 :: .int 0 :: .int 0 :: .int 0 :: .int 0 :: .int 0 :: .int 0 :: .int 0 :: .long 0 :: .int 0 :: .int 0 :: .int 0 :: .null :: .null :: .int 0 :: .int 0 :: .null :: .int 0 :: .int 0 :: .int 0 :: .int 0 :: .null :: .null :: .null :: .null :: []))), (q1, .inl (cy 0, 960, .inl (fun _ => 0))), (q2, .inl (cy 0, 6, .inl (fun _ => 0))), (q3, .inl (cy 0, 160, .inl (fun _ => 0))), (q4, .inl (cy 0, 8, .inl (fun _ => 0))), (q5, .inl (cy 0, 40, .inl (fun _ => 0)))] H locs := hw
  refine lv_aload_n K.1 K.2.1 dX8_init_52 rfl (lv_at hl 0 rfl) ?_
  refine lv_bipush (v := (8 : Int32)) K.1 K.2.1 dX8_init_53 (by decide) ?_
  refine rx_newi (N := 8) K hA hw ka_int (by decide) (by decide) (by decide) (Nat.le_of_ble_eq_true rfl) (Nat.le_of_ble_eq_true rfl) dX8_init_55 (fun q6 H hw => ?_)
  have hw : Wd D A s.heap [(h0, .inr (8, (.int 0 :: .ref q1 :: .ref q2 :: .int 0 :: .int 0 :: .ref q3 :: .int 0 :: .int 0 :: .int (10 : Int32) :: .ref q4 :: .ref q5 :: .int 0 :: .int 0 :: .int 0 :: .int 0 :: .int 0 :: .int 0 :: .int 0 :: .int 0 :: .int 0 :: .int 0 :: .int 0 :: .int 0 :: .long 0 :: .int 0 :: .int 0 :: .int 0 :: .null :: .null :: .int 0 :: .int 0 :: .null :: .int 0 :: .int 0 :: .int 0 :: .int 0 :: .null :: .null :: .null :: .null :: []))), (q1, .inl (cy 0, 960, .inl (fun _ => 0))), (q2, .inl (cy 0, 6, .inl (fun _ => 0))), (q3, .inl (cy 0, 160, .inl (fun _ => 0))), (q4, .inl (cy 0, 8, .inl (fun _ => 0))), (q5, .inl (cy 0, 40, .inl (fun _ => 0))), (q6, .inl (cy 0, 8, .inl (fun _ => 0)))] H _ := hw
  refine W.widen (k := 6) (n := 1182) (Nat.le_of_ble_eq_true rfl) (Nat.le_of_ble_eq_true rfl) ?_
  refine rx_putF rk_lay8 (ci := 8) rfl tyX8_ok nmX8 27 (by decide) (k := 0) K hw rfl kf_X8_32 rfl hin rfl (tyX8_ok 27 (by decide)) rfl rfl (Nat.le_of_ble_eq_true rfl) dX8_init_57 (fun H locs hw => ?_)
  have hw : Wd D A s.heap [(h0, .inr (8, (.int 0 :: .ref q1 :: .ref q2 :: .int 0 :: .int 0 :: .ref q3 :: .int 0 :: .int 0 :: .int (10 : Int32) :: .ref q4 :: .ref q5 :: .int 0 :: .int 0 :: .int 0 :: .int 0 :: .int 0 :: .int 0 :: .int 0 :: .int 0 :: .int 0 :: .int 0 :: .int 0 :: .int 0 :: .long 0 :: .int 0 :: .int 0 :: .int 0 :: .ref q6 :: .null :: .int 0 :: .int 0 :: .null :: .int 0 :: .int 0 :: .int 0 :: .int 0 :: .null :: .null :: .null :: .null :: []))), (q1, .inl (cy 0, 960, .inl (fun _ => 0))), (q2, .inl (cy 0, 6, .inl (fun _ => 0))), (q3, .inl (cy 0, 160, .inl (fun _ => 0))), (q4, .inl (cy 0, 8, .inl (fun _ => 0))), (q5, .inl (cy 0, 40, .inl (fun _ => 0))), (q6, .inl (cy 0, 8, .inl (fun _ => 0)))] H locs := hw
  refine lv_aload_n K.1 K.2.1 dX8_init_60 rfl (lv_at hl 0 rfl) ?_
  refine lv_bipush (v := (9 : Int32)) K.1 K.2.1 dX8_init_61 (by decide) ?_
  refine rx_newi (N := 9) K hA hw ka_int (by decide) (by decide) (by decide) (Nat.le_of_ble_eq_true rfl) (Nat.le_of_ble_eq_true rfl) dX8_init_63 (fun q7 H hw => ?_)
  have hw : Wd D A s.heap [(h0, .inr (8, (.int 0 :: .ref q1 :: .ref q2 :: .int 0 :: .int 0 :: .ref q3 :: .int 0 :: .int 0 :: .int (10 : Int32) :: .ref q4 :: .ref q5 :: .int 0 :: .int 0 :: .int 0 :: .int 0 :: .int 0 :: .int 0 :: .int 0 :: .int 0 :: .int 0 :: .int 0 :: .int 0 :: .int 0 :: .long 0 :: .int 0 :: .int 0 :: .int 0 :: .ref q6 :: .null :: .int 0 :: .int 0 :: .null :: .int 0 :: .int 0 :: .int 0 :: .int 0 :: .null :: .null :: .null :: .null :: []))), (q1, .inl (cy 0, 960, .inl (fun _ => 0))), (q2, .inl (cy 0, 6, .inl (fun _ => 0))), (q3, .inl (cy 0, 160, .inl (fun _ => 0))), (q4, .inl (cy 0, 8, .inl (fun _ => 0))), (q5, .inl (cy 0, 40, .inl (fun _ => 0))), (q6, .inl (cy 0, 8, .inl (fun _ => 0))), (q7, .inl (cy 0, 9, .inl (fun _ => 0)))] H _ := hw
  refine W.widen (k := 7) (n := 1191) (Nat.le_of_ble_eq_true rfl) (Nat.le_of_ble_eq_true rfl) ?_
  refine rx_putF rk_lay8 (ci := 8) rfl tyX8_ok nmX8 28 (by decide) (k := 0) K hw rfl kf_X8_35 rfl hin rfl (tyX8_ok 28 (by decide)) rfl rfl (Nat.le_of_ble_eq_true rfl) dX8_init_65 (fun H locs hw => ?_)
  have hw : Wd D A s.heap [(h0, .inr (8, (.int 0 :: .ref q1 :: .ref q2 :: .int 0 :: .int 0 :: .ref q3 :: .int 0 :: .int 0 :: .int (10 : Int32) :: .ref q4 :: .ref q5 :: .int 0 :: .int 0 :: .int 0 :: .int 0 :: .int 0 :: .int 0 :: .int 0 :: .int 0 :: .int 0 :: .int 0 :: .int 0 :: .int 0 :: .long 0 :: .int 0 :: .int 0 :: .int 0 :: .ref q6 :: .ref q7 :: .int 0 :: .int 0 :: .null :: .int 0 :: .int 0 :: .int 0 :: .int 0 :: .null :: .null :: .null :: .null :: []))), (q1, .inl (cy 0, 960, .inl (fun _ => 0))), (q2, .inl (cy 0, 6, .inl (fun _ => 0))), (q3, .inl (cy 0, 160, .inl (fun _ => 0))), (q4, .inl (cy 0, 8, .inl (fun _ => 0))), (q5, .inl (cy 0, 40, .inl (fun _ => 0))), (q6, .inl (cy 0, 8, .inl (fun _ => 0))), (q7, .inl (cy 0, 9, .inl (fun _ => 0)))] H locs := hw
  refine lv_aload_n K.1 K.2.1 dX8_init_68 rfl (lv_at hl 0 rfl) ?_
  refine lv_bipush (v := (40 : Int32)) K.1 K.2.1 dX8_init_69 (by decide) ?_
  refine rx_newi (N := 40) K hA hw ka_int (by decide) (by decide) (by decide) (Nat.le_of_ble_eq_true rfl) (Nat.le_of_ble_eq_true rfl) dX8_init_71 (fun q8 H hw => ?_)
  have hw : Wd D A s.heap [(h0, .inr (8, (.int 0 :: .ref q1 :: .ref q2 :: .int 0 :: .int 0 :: .ref q3 :: .int 0 :: .int 0 :: .int (10 : Int32) :: .ref q4 :: .ref q5 :: .int 0 :: .int 0 :: .int 0 :: .int 0 :: .int 0 :: .int 0 :: .int 0 :: .int 0 :: .int 0 :: .int 0 :: .int 0 :: .int 0 :: .long 0 :: .int 0 :: .int 0 :: .int 0 :: .ref q6 :: .ref q7 :: .int 0 :: .int 0 :: .null :: .int 0 :: .int 0 :: .int 0 :: .int 0 :: .null :: .null :: .null :: .null :: []))), (q1, .inl (cy 0, 960, .inl (fun _ => 0))), (q2, .inl (cy 0, 6, .inl (fun _ => 0))), (q3, .inl (cy 0, 160, .inl (fun _ => 0))), (q4, .inl (cy 0, 8, .inl (fun _ => 0))), (q5, .inl (cy 0, 40, .inl (fun _ => 0))), (q6, .inl (cy 0, 8, .inl (fun _ => 0))), (q7, .inl (cy 0, 9, .inl (fun _ => 0))), (q8, .inl (cy 0, 40, .inl (fun _ => 0)))] H _ := hw
  refine W.widen (k := 8) (n := 1231) (Nat.le_of_ble_eq_true rfl) (Nat.le_of_ble_eq_true rfl) ?_
  refine rx_putF rk_lay8 (ci := 8) rfl tyX8_ok nmX8 31 (by decide) (k := 0) K hw rfl kf_X8_38 rfl hin rfl (tyX8_ok 31 (by decide)) rfl rfl (Nat.le_of_ble_eq_true rfl) dX8_init_73 (fun H locs hw => ?_)
  have hw : Wd D A s.heap [(h0, .inr (8, (.int 0 :: .ref q1 :: .ref q2 :: .int 0 :: .int 0 :: .ref q3 :: .int 0 :: .int 0 :: .int (10 : Int32) :: .ref q4 :: .ref q5 :: .int 0 :: .int 0 :: .int 0 :: .int 0 :: .int 0 :: .int 0 :: .int 0 :: .int 0 :: .int 0 :: .int 0 :: .int 0 :: .int 0 :: .long 0 :: .int 0 :: .int 0 :: .int 0 :: .ref q6 :: .ref q7 :: .int 0 :: .int 0 :: .ref q8 :: .int 0 :: .int 0 :: .int 0 :: .int 0 :: .null :: .null :: .null :: .null :: []))), (q1, .inl (cy 0, 960, .inl (fun _ => 0))), (q2, .inl (cy 0, 6, .inl (fun _ => 0))), (q3, .inl (cy 0, 160, .inl (fun _ => 0))), (q4, .inl (cy 0, 8, .inl (fun _ => 0))), (q5, .inl (cy 0, 40, .inl (fun _ => 0))), (q6, .inl (cy 0, 8, .inl (fun _ => 0))), (q7, .inl (cy 0, 9, .inl (fun _ => 0))), (q8, .inl (cy 0, 40, .inl (fun _ => 0)))] H locs := hw
  refine lv_aload_n K.1 K.2.1 dX8_init_76 rfl (lv_at hl 0 rfl) ?_
  refine lv_iconst (v := (-1 : Int32)) K.1 K.2.1 dX8_init_77 (by decide) ?_
  refine rx_put rk_lay8 (ci := 8) rfl tyX8_ok nmX8 32 (by decide) (k := 0) K hw rfl kf_X8_41 rfl (tyX8_ok 32 (by decide)) rfl rfl (Nat.le_of_ble_eq_true rfl) dX8_init_78 (fun H locs hw => ?_)
  have hw : Wd D A s.heap [(h0, .inr (8, (.int 0 :: .ref q1 :: .ref q2 :: .int 0 :: .int 0 :: .ref q3 :: .int 0 :: .int 0 :: .int (10 : Int32) :: .ref q4 :: .ref q5 :: .int 0 :: .int 0 :: .int 0 :: .int 0 :: .int 0 :: .int 0 :: .int 0 :: .int 0 :: .int 0 :: .int 0 :: .int 0 :: .int 0 :: .long 0 :: .int 0 :: .int 0 :: .int 0 :: .ref q6 :: .ref q7 :: .int 0 :: .int 0 :: .ref q8 :: .int (-1 : Int32) :: .int 0 :: .int 0 :: .int 0 :: .null :: .null :: .null :: .null :: []))), (q1, .inl (cy 0, 960, .inl (fun _ => 0))), (q2, .inl (cy 0, 6, .inl (fun _ => 0))), (q3, .inl (cy 0, 160, .inl (fun _ => 0))), (q4, .inl (cy 0, 8, .inl (fun _ => 0))), (q5, .inl (cy 0, 40, .inl (fun _ => 0))), (q6, .inl (cy 0, 8, .inl (fun _ => 0))), (q7, .inl (cy 0, 9, .inl (fun _ => 0))), (q8, .inl (cy 0, 40, .inl (fun _ => 0)))] H locs := hw
  refine lv_aload_n K.1 K.2.1 dX8_init_81 rfl (lv_at hl 0 rfl) ?_
  refine lv_iconst (v := (4 : Int32)) K.1 K.2.1 dX8_init_82 (by decide) ?_
  refine rx_newz (N := 4) K hA hw ka_boolean (by decide) (by decide) (by decide) (Nat.le_of_ble_eq_true rfl) (Nat.le_of_ble_eq_true rfl) dX8_init_83 (fun q9 H hw => ?_)
  have hw : Wd D A s.heap [(h0, .inr (8, (.int 0 :: .ref q1 :: .ref q2 :: .int 0 :: .int 0 :: .ref q3 :: .int 0 :: .int 0 :: .int (10 : Int32) :: .ref q4 :: .ref q5 :: .int 0 :: .int 0 :: .int 0 :: .int 0 :: .int 0 :: .int 0 :: .int 0 :: .int 0 :: .int 0 :: .int 0 :: .int 0 :: .int 0 :: .long 0 :: .int 0 :: .int 0 :: .int 0 :: .ref q6 :: .ref q7 :: .int 0 :: .int 0 :: .ref q8 :: .int (-1 : Int32) :: .int 0 :: .int 0 :: .int 0 :: .null :: .null :: .null :: .null :: []))), (q1, .inl (cy 0, 960, .inl (fun _ => 0))), (q2, .inl (cy 0, 6, .inl (fun _ => 0))), (q3, .inl (cy 0, 160, .inl (fun _ => 0))), (q4, .inl (cy 0, 8, .inl (fun _ => 0))), (q5, .inl (cy 0, 40, .inl (fun _ => 0))), (q6, .inl (cy 0, 8, .inl (fun _ => 0))), (q7, .inl (cy 0, 9, .inl (fun _ => 0))), (q8, .inl (cy 0, 40, .inl (fun _ => 0))), (q9, .inl (cy 1, 4, .inl (fun _ => 0)))] H _ := hw
  refine W.widen (k := 9) (n := 1235) (Nat.le_of_ble_eq_true rfl) (Nat.le_of_ble_eq_true rfl) ?_
  refine rx_putF rk_lay8 (ci := 8) rfl tyX8_ok nmX8 36 (by decide) (k := 0) K hw rfl kf_X8_44 rfl hin rfl (tyX8_ok 36 (by decide)) rfl rfl (Nat.le_of_ble_eq_true rfl) dX8_init_85 (fun H locs hw => ?_)
  have hw : Wd D A s.heap [(h0, .inr (8, (.int 0 :: .ref q1 :: .ref q2 :: .int 0 :: .int 0 :: .ref q3 :: .int 0 :: .int 0 :: .int (10 : Int32) :: .ref q4 :: .ref q5 :: .int 0 :: .int 0 :: .int 0 :: .int 0 :: .int 0 :: .int 0 :: .int 0 :: .int 0 :: .int 0 :: .int 0 :: .int 0 :: .int 0 :: .long 0 :: .int 0 :: .int 0 :: .int 0 :: .ref q6 :: .ref q7 :: .int 0 :: .int 0 :: .ref q8 :: .int (-1 : Int32) :: .int 0 :: .int 0 :: .int 0 :: .ref q9 :: .null :: .null :: .null :: []))), (q1, .inl (cy 0, 960, .inl (fun _ => 0))), (q2, .inl (cy 0, 6, .inl (fun _ => 0))), (q3, .inl (cy 0, 160, .inl (fun _ => 0))), (q4, .inl (cy 0, 8, .inl (fun _ => 0))), (q5, .inl (cy 0, 40, .inl (fun _ => 0))), (q6, .inl (cy 0, 8, .inl (fun _ => 0))), (q7, .inl (cy 0, 9, .inl (fun _ => 0))), (q8, .inl (cy 0, 40, .inl (fun _ => 0))), (q9, .inl (cy 1, 4, .inl (fun _ => 0)))] H locs := hw
  refine lv_aload_n K.1 K.2.1 dX8_init_88 rfl (lv_at hl 0 rfl) ?_
  refine lv_iconst (v := (4 : Int32)) K.1 K.2.1 dX8_init_89 (by decide) ?_
  refine rx_newi (N := 4) K hA hw ka_int (by decide) (by decide) (by decide) (Nat.le_of_ble_eq_true rfl) (Nat.le_of_ble_eq_true rfl) dX8_init_90 (fun q10 H hw => ?_)
  have hw : Wd D A s.heap [(h0, .inr (8, (.int 0 :: .ref q1 :: .ref q2 :: .int 0 :: .int 0 :: .ref q3 :: .int 0 :: .int 0 :: .int (10 : Int32) :: .ref q4 :: .ref q5 :: .int 0 :: .int 0 :: .int 0 :: .int 0 :: .int 0 :: .int 0 :: .int 0 :: .int 0 :: .int 0 :: .int 0 :: .int 0 :: .int 0 :: .long 0 :: .int 0 :: .int 0 :: .int 0 :: .ref q6 :: .ref q7 :: .int 0 :: .int 0 :: .ref q8 :: .int (-1 : Int32) :: .int 0 :: .int 0 :: .int 0 :: .ref q9 :: .null :: .null :: .null :: []))), (q1, .inl (cy 0, 960, .inl (fun _ => 0))), (q2, .inl (cy 0, 6, .inl (fun _ => 0))), (q3, .inl (cy 0, 160, .inl (fun _ => 0))), (q4, .inl (cy 0, 8, .inl (fun _ => 0))), (q5, .inl (cy 0, 40, .inl (fun _ => 0))), (q6, .inl (cy 0, 8, .inl (fun _ => 0))), (q7, .inl (cy 0, 9, .inl (fun _ => 0))), (q8, .inl (cy 0, 40, .inl (fun _ => 0))), (q9, .inl (cy 1, 4, .inl (fun _ => 0))), (q10, .inl (cy 0, 4, .inl (fun _ => 0)))] H _ := hw
  refine W.widen (k := 10) (n := 1239) (Nat.le_of_ble_eq_true rfl) (Nat.le_of_ble_eq_true rfl) ?_
  refine rx_putF rk_lay8 (ci := 8) rfl tyX8_ok nmX8 37 (by decide) (k := 0) K hw rfl kf_X8_48 rfl hin rfl (tyX8_ok 37 (by decide)) rfl rfl (Nat.le_of_ble_eq_true rfl) dX8_init_92 (fun H locs hw => ?_)
  have hw : Wd D A s.heap [(h0, .inr (8, (.int 0 :: .ref q1 :: .ref q2 :: .int 0 :: .int 0 :: .ref q3 :: .int 0 :: .int 0 :: .int (10 : Int32) :: .ref q4 :: .ref q5 :: .int 0 :: .int 0 :: .int 0 :: .int 0 :: .int 0 :: .int 0 :: .int 0 :: .int 0 :: .int 0 :: .int 0 :: .int 0 :: .int 0 :: .long 0 :: .int 0 :: .int 0 :: .int 0 :: .ref q6 :: .ref q7 :: .int 0 :: .int 0 :: .ref q8 :: .int (-1 : Int32) :: .int 0 :: .int 0 :: .int 0 :: .ref q9 :: .ref q10 :: .null :: .null :: []))), (q1, .inl (cy 0, 960, .inl (fun _ => 0))), (q2, .inl (cy 0, 6, .inl (fun _ => 0))), (q3, .inl (cy 0, 160, .inl (fun _ => 0))), (q4, .inl (cy 0, 8, .inl (fun _ => 0))), (q5, .inl (cy 0, 40, .inl (fun _ => 0))), (q6, .inl (cy 0, 8, .inl (fun _ => 0))), (q7, .inl (cy 0, 9, .inl (fun _ => 0))), (q8, .inl (cy 0, 40, .inl (fun _ => 0))), (q9, .inl (cy 1, 4, .inl (fun _ => 0))), (q10, .inl (cy 0, 4, .inl (fun _ => 0)))] H locs := hw
  refine lv_aload_n K.1 K.2.1 dX8_init_95 rfl (lv_at hl 0 rfl) ?_
  refine lv_iconst (v := (4 : Int32)) K.1 K.2.1 dX8_init_96 (by decide) ?_
  refine rx_newi (N := 4) K hA hw ka_int (by decide) (by decide) (by decide) (Nat.le_of_ble_eq_true rfl) (Nat.le_of_ble_eq_true rfl) dX8_init_97 (fun q11 H hw => ?_)
  have hw : Wd D A s.heap [(h0, .inr (8, (.int 0 :: .ref q1 :: .ref q2 :: .int 0 :: .int 0 :: .ref q3 :: .int 0 :: .int 0 :: .int (10 : Int32) :: .ref q4 :: .ref q5 :: .int 0 :: .int 0 :: .int 0 :: .int 0 :: .int 0 :: .int 0 :: .int 0 :: .int 0 :: .int 0 :: .int 0 :: .int 0 :: .int 0 :: .long 0 :: .int 0 :: .int 0 :: .int 0 :: .ref q6 :: .ref q7 :: .int 0 :: .int 0 :: .ref q8 :: .int (-1 : Int32) :: .int 0 :: .int 0 :: .int 0 :: .ref q9 :: .ref q10 :: .null :: .null :: []))), (q1, .inl (cy 0, 960, .inl (fun _ => 0))), (q2, .inl (cy 0, 6, .inl (fun _ => 0))), (q3, .inl (cy 0, 160, .inl (fun _ => 0))), (q4, .inl (cy 0, 8, .inl (fun _ => 0))), (q5, .inl (cy 0, 40, .inl (fun _ => 0))), (q6, .inl (cy 0, 8, .inl (fun _ => 0))), (q7, .inl (cy 0, 9, .inl (fun _ => 0))), (q8, .inl (cy 0, 40, .inl (fun _ => 0))), (q9, .inl (cy 1, 4, .inl (fun _ => 0))), (q10, .inl (cy 0, 4, .inl (fun _ => 0))), (q11, .inl (cy 0, 4, .inl (fun _ => 0)))] H _ := hw
  refine W.widen (k := 11) (n := 1243) (Nat.le_of_ble_eq_true rfl) (Nat.le_of_ble_eq_true rfl) ?_
  refine rx_putF rk_lay8 (ci := 8) rfl tyX8_ok nmX8 38 (by decide) (k := 0) K hw rfl kf_X8_51 rfl hin rfl (tyX8_ok 38 (by decide)) rfl rfl (Nat.le_of_ble_eq_true rfl) dX8_init_99 (fun H locs hw => ?_)
  have hw : Wd D A s.heap [(h0, .inr (8, (.int 0 :: .ref q1 :: .ref q2 :: .int 0 :: .int 0 :: .ref q3 :: .int 0 :: .int 0 :: .int (10 : Int32) :: .ref q4 :: .ref q5 :: .int 0 :: .int 0 :: .int 0 :: .int 0 :: .int 0 :: .int 0 :: .int 0 :: .int 0 :: .int 0 :: .int 0 :: .int 0 :: .int 0 :: .long 0 :: .int 0 :: .int 0 :: .int 0 :: .ref q6 :: .ref q7 :: .int 0 :: .int 0 :: .ref q8 :: .int (-1 : Int32) :: .int 0 :: .int 0 :: .int 0 :: .ref q9 :: .ref q10 :: .ref q11 :: .null :: []))), (q1, .inl (cy 0, 960, .inl (fun _ => 0))), (q2, .inl (cy 0, 6, .inl (fun _ => 0))), (q3, .inl (cy 0, 160, .inl (fun _ => 0))), (q4, .inl (cy 0, 8, .inl (fun _ => 0))), (q5, .inl (cy 0, 40, .inl (fun _ => 0))), (q6, .inl (cy 0, 8, .inl (fun _ => 0))), (q7, .inl (cy 0, 9, .inl (fun _ => 0))), (q8, .inl (cy 0, 40, .inl (fun _ => 0))), (q9, .inl (cy 1, 4, .inl (fun _ => 0))), (q10, .inl (cy 0, 4, .inl (fun _ => 0))), (q11, .inl (cy 0, 4, .inl (fun _ => 0)))] H locs := hw
  refine lv_aload_n K.1 K.2.1 dX8_init_102 rfl (lv_at hl 0 rfl) ?_
  refine lv_sipush (v := (160 : Int32)) K.1 K.2.1 dX8_init_103 (by decide) ?_
  refine rx_newi (N := 160) K hA hw ka_int (by decide) (by decide) (by decide) (Nat.le_of_ble_eq_true rfl) (Nat.le_of_ble_eq_true rfl) dX8_init_106 (fun q12 H hw => ?_)
  have hw : Wd D A s.heap [(h0, .inr (8, (.int 0 :: .ref q1 :: .ref q2 :: .int 0 :: .int 0 :: .ref q3 :: .int 0 :: .int 0 :: .int (10 : Int32) :: .ref q4 :: .ref q5 :: .int 0 :: .int 0 :: .int 0 :: .int 0 :: .int 0 :: .int 0 :: .int 0 :: .int 0 :: .int 0 :: .int 0 :: .int 0 :: .int 0 :: .long 0 :: .int 0 :: .int 0 :: .int 0 :: .ref q6 :: .ref q7 :: .int 0 :: .int 0 :: .ref q8 :: .int (-1 : Int32) :: .int 0 :: .int 0 :: .int 0 :: .ref q9 :: .ref q10 :: .ref q11 :: .null :: []))), (q1, .inl (cy 0, 960, .inl (fun _ => 0))), (q2, .inl (cy 0, 6, .inl (fun _ => 0))), (q3, .inl (cy 0, 160, .inl (fun _ => 0))), (q4, .inl (cy 0, 8, .inl (fun _ => 0))), (q5, .inl (cy 0, 40, .inl (fun _ => 0))), (q6, .inl (cy 0, 8, .inl (fun _ => 0))), (q7, .inl (cy 0, 9, .inl (fun _ => 0))), (q8, .inl (cy 0, 40, .inl (fun _ => 0))), (q9, .inl (cy 1, 4, .inl (fun _ => 0))), (q10, .inl (cy 0, 4, .inl (fun _ => 0))), (q11, .inl (cy 0, 4, .inl (fun _ => 0))), (q12, .inl (cy 0, 160, .inl (fun _ => 0)))] H _ := hw
  refine W.widen (k := 12) (n := 1403) (Nat.le_of_ble_eq_true rfl) (Nat.le_of_ble_eq_true rfl) ?_
  refine rx_putF rk_lay8 (ci := 8) rfl tyX8_ok nmX8 39 (by decide) (k := 0) K hw rfl kf_X8_54 rfl hin rfl (tyX8_ok 39 (by decide)) rfl rfl (Nat.le_of_ble_eq_true rfl) dX8_init_108 (fun H locs hw => ?_)
  have hw : Wd D A s.heap [(h0, .inr (8, (.int 0 :: .ref q1 :: .ref q2 :: .int 0 :: .int 0 :: .ref q3 :: .int 0 :: .int 0 :: .int (10 : Int32) :: .ref q4 :: .ref q5 :: .int 0 :: .int 0 :: .int 0 :: .int 0 :: .int 0 :: .int 0 :: .int 0 :: .int 0 :: .int 0 :: .int 0 :: .int 0 :: .int 0 :: .long 0 :: .int 0 :: .int 0 :: .int 0 :: .ref q6 :: .ref q7 :: .int 0 :: .int 0 :: .ref q8 :: .int (-1 : Int32) :: .int 0 :: .int 0 :: .int 0 :: .ref q9 :: .ref q10 :: .ref q11 :: .ref q12 :: []))), (q1, .inl (cy 0, 960, .inl (fun _ => 0))), (q2, .inl (cy 0, 6, .inl (fun _ => 0))), (q3, .inl (cy 0, 160, .inl (fun _ => 0))), (q4, .inl (cy 0, 8, .inl (fun _ => 0))), (q5, .inl (cy 0, 40, .inl (fun _ => 0))), (q6, .inl (cy 0, 8, .inl (fun _ => 0))), (q7, .inl (cy 0, 9, .inl (fun _ => 0))), (q8, .inl (cy 0, 40, .inl (fun _ => 0))), (q9, .inl (cy 1, 4, .inl (fun _ => 0))), (q10, .inl (cy 0, 4, .inl (fun _ => 0))), (q11, .inl (cy 0, 4, .inl (fun _ => 0))), (q12, .inl (cy 0, 160, .inl (fun _ => 0)))] H locs := hw
  have hw : Wd D A s.heap (wsM cy (fun k => (h0 :: q1 :: q2 :: q3 :: q4 :: q5 :: q6 :: q7 :: q8 :: q9 :: q10 :: q11 :: q12 :: []).getD k 0) sgR) H locs := hw
  have a0 : (fun k => (h0 :: q1 :: q2 :: q3 :: q4 :: q5 :: q6 :: q7 :: q8 :: q9 :: q10 :: q11 :: q12 :: []).getD k 0) 0 = h0 := rfl
  generalize (fun k => (h0 :: q1 :: q2 :: q3 :: q4 :: q5 :: q6 :: q7 :: q8 :: q9 :: q10 :: q11 :: q12 :: []).getD k 0) = ad at hw a0
  rw [← a0] at hl
  refine lv_aload_n K.1 K.2.1 dX8_init_111 rfl (lv_at hl 0 rfl) ?_
  refine lv_iconst (v := (0 : Int32)) K.1 K.2.1 dX8_init_112 (by decide) ?_
  refine lv_bipush (v := (102 : Int32)) K.1 K.2.1 dX8_init_113 (by decide) ?_
  refine lv_bipush (v := (101 : Int32)) K.1 K.2.1 dX8_init_115 (by decide) ?_
  refine lv_bipush (v := (101 : Int32)) K.1 K.2.1 dX8_init_117 (by decide) ?_
  refine lv_bipush (v := (108 : Int32)) K.1 K.2.1 dX8_init_119 (by decide) ?_
  refine lv_bipush (v := (115 : Int32)) K.1 K.2.1 dX8_init_121 (by decide) ?_
  refine lv_bipush (v := (32 : Int32)) K.1 K.2.1 dX8_init_123 (by decide) ?_
  refine lv_bipush (v := (109 : Int32)) K.1 K.2.1 dX8_init_125 (by decide) ?_
  refine lv_bipush (v := (111 : Int32)) K.1 K.2.1 dX8_init_127 (by decide) ?_
  refine rk_vv (As := [.int (0 : Int32), .int (102 : Int32), .int (101 : Int32), .int (101 : Int32), .int (108 : Int32), .int (115 : Int32), .int (32 : Int32), .int (109 : Int32), .int (111 : Int32)]) (rest := []) (P := fun g' => (∀ k, k ≠ 1 → g' k = sgR k) ∧ (∀ j, g' 1 j = if 0 ≤ j ∧ j < 0 + 8 then ([102, 101, 101, 108, 115, 32, 109, 111] : List Int32).getD (j - 0) 0 else sgR 1 j)) K hw (cc_X8_spell l D cy ad A sgR _ (0 : Int32) (102 : Int32) (101 : Int32) (101 : Int32) (108 : Int32) (115 : Int32) (32 : Int32) (109 : Int32) (111 : Int32) (h_spell (at_ := 0) (by decide) (fun g' h1 h2 => ⟨h1, h2⟩))) lk_X8_57 (ci := 8) rfl (q0 := 0) (wsM_at cy ad _ (by decide)) ⟨Nat.le_of_ble_eq_true rfl, Nat.le_of_ble_eq_true rfl⟩ ⟨Nat.le_of_ble_eq_true rfl, Nat.le_of_ble_eq_true rfl⟩ rfl hl.1 (Nat.le_of_ble_eq_true rfl) rfl dX8_init_129 (fun g1 H locs hg1 hw => ?_)
  refine lv_aload_n K.1 K.2.1 dX8_init_132 rfl (lv_at hl 0 rfl) ?_
  refine lv_bipush (v := (8 : Int32)) K.1 K.2.1 dX8_init_133 (by decide) ?_
  refine lv_bipush (v := (111 : Int32)) K.1 K.2.1 dX8_init_135 (by decide) ?_
  refine lv_bipush (v := (100 : Int32)) K.1 K.2.1 dX8_init_137 (by decide) ?_
  refine lv_bipush (v := (32 : Int32)) K.1 K.2.1 dX8_init_139 (by decide) ?_
  refine lv_bipush (v := (59 : Int32)) K.1 K.2.1 dX8_init_141 (by decide) ?_
  refine lv_bipush (v := (32 : Int32)) K.1 K.2.1 dX8_init_143 (by decide) ?_
  refine lv_bipush (v := (119 : Int32)) K.1 K.2.1 dX8_init_145 (by decide) ?_
  refine lv_bipush (v := (101 : Int32)) K.1 K.2.1 dX8_init_147 (by decide) ?_
  refine lv_bipush (v := (105 : Int32)) K.1 K.2.1 dX8_init_149 (by decide) ?_
  refine rk_vv (As := [.int (8 : Int32), .int (111 : Int32), .int (100 : Int32), .int (32 : Int32), .int (59 : Int32), .int (32 : Int32), .int (119 : Int32), .int (101 : Int32), .int (105 : Int32)]) (rest := []) (P := fun g' => (∀ k, k ≠ 1 → g' k = g1 k) ∧ (∀ j, g' 1 j = if 8 ≤ j ∧ j < 8 + 8 then ([111, 100, 32, 59, 32, 119, 101, 105] : List Int32).getD (j - 8) 0 else g1 1 j)) K hw (cc_X8_spell l D cy ad A g1 _ (8 : Int32) (111 : Int32) (100 : Int32) (32 : Int32) (59 : Int32) (32 : Int32) (119 : Int32) (101 : Int32) (105 : Int32) (h_spell (at_ := 8) (by decide) (fun g' h1 h2 => ⟨h1, h2⟩))) lk_X8_57 (ci := 8) rfl (q0 := 0) (wsM_at cy ad _ (by decide)) ⟨Nat.le_of_ble_eq_true rfl, Nat.le_of_ble_eq_true rfl⟩ ⟨Nat.le_of_ble_eq_true rfl, Nat.le_of_ble_eq_true rfl⟩ rfl hl.1 (Nat.le_of_ble_eq_true rfl) rfl dX8_init_151 (fun g2 H locs hg2 hw => ?_)
  refine lv_aload_n K.1 K.2.1 dX8_init_154 rfl (lv_at hl 0 rfl) ?_
  refine lv_bipush (v := (16 : Int32)) K.1 K.2.1 dX8_init_155 (by decide) ?_
  refine lv_bipush (v := (103 : Int32)) K.1 K.2.1 dX8_init_157 (by decide) ?_
  refine lv_bipush (v := (104 : Int32)) K.1 K.2.1 dX8_init_159 (by decide) ?_
  refine lv_bipush (v := (115 : Int32)) K.1 K.2.1 dX8_init_161 (by decide) ?_
  refine lv_bipush (v := (32 : Int32)) K.1 K.2.1 dX8_init_163 (by decide) ?_
  refine lv_bipush (v := (49 : Int32)) K.1 K.2.1 dX8_init_165 (by decide) ?_
  refine lv_bipush (v := (32 : Int32)) K.1 K.2.1 dX8_init_167 (by decide) ?_
  refine lv_bipush (v := (43 : Int32)) K.1 K.2.1 dX8_init_169 (by decide) ?_
  refine lv_bipush (v := (32 : Int32)) K.1 K.2.1 dX8_init_171 (by decide) ?_
  refine rk_vv (As := [.int (16 : Int32), .int (103 : Int32), .int (104 : Int32), .int (115 : Int32), .int (32 : Int32), .int (49 : Int32), .int (32 : Int32), .int (43 : Int32), .int (32 : Int32)]) (rest := []) (P := fun g' => (∀ k, k ≠ 1 → g' k = g2 k) ∧ (∀ j, g' 1 j = if 16 ≤ j ∧ j < 16 + 8 then ([103, 104, 115, 32, 49, 32, 43, 32] : List Int32).getD (j - 16) 0 else g2 1 j)) K hw (cc_X8_spell l D cy ad A g2 _ (16 : Int32) (103 : Int32) (104 : Int32) (115 : Int32) (32 : Int32) (49 : Int32) (32 : Int32) (43 : Int32) (32 : Int32) (h_spell (at_ := 16) (by decide) (fun g' h1 h2 => ⟨h1, h2⟩))) lk_X8_57 (ci := 8) rfl (q0 := 0) (wsM_at cy ad _ (by decide)) ⟨Nat.le_of_ble_eq_true rfl, Nat.le_of_ble_eq_true rfl⟩ ⟨Nat.le_of_ble_eq_true rfl, Nat.le_of_ble_eq_true rfl⟩ rfl hl.1 (Nat.le_of_ble_eq_true rfl) rfl dX8_init_173 (fun g3 H locs hg3 hw => ?_)
  refine lv_aload_n K.1 K.2.1 dX8_init_176 rfl (lv_at hl 0 rfl) ?_
  refine lv_bipush (v := (24 : Int32)) K.1 K.2.1 dX8_init_177 (by decide) ?_
  refine lv_bipush (v := (110 : Int32)) K.1 K.2.1 dX8_init_179 (by decide) ?_
  refine lv_bipush (v := (117 : Int32)) K.1 K.2.1 dX8_init_181 (by decide) ?_
  refine lv_bipush (v := (109 : Int32)) K.1 K.2.1 dX8_init_183 (by decide) ?_
  refine lv_bipush (v := (98 : Int32)) K.1 K.2.1 dX8_init_185 (by decide) ?_
  refine lv_bipush (v := (101 : Int32)) K.1 K.2.1 dX8_init_187 (by decide) ?_
  refine lv_bipush (v := (114 : Int32)) K.1 K.2.1 dX8_init_189 (by decide) ?_
  refine lv_bipush (v := (32 : Int32)) K.1 K.2.1 dX8_init_191 (by decide) ?_
  refine lv_bipush (v := (59 : Int32)) K.1 K.2.1 dX8_init_193 (by decide) ?_
  refine rk_vv (As := [.int (24 : Int32), .int (110 : Int32), .int (117 : Int32), .int (109 : Int32), .int (98 : Int32), .int (101 : Int32), .int (114 : Int32), .int (32 : Int32), .int (59 : Int32)]) (rest := []) (P := fun g' => (∀ k, k ≠ 1 → g' k = g3 k) ∧ (∀ j, g' 1 j = if 24 ≤ j ∧ j < 24 + 8 then ([110, 117, 109, 98, 101, 114, 32, 59] : List Int32).getD (j - 24) 0 else g3 1 j)) K hw (cc_X8_spell l D cy ad A g3 _ (24 : Int32) (110 : Int32) (117 : Int32) (109 : Int32) (98 : Int32) (101 : Int32) (114 : Int32) (32 : Int32) (59 : Int32) (h_spell (at_ := 24) (by decide) (fun g' h1 h2 => ⟨h1, h2⟩))) lk_X8_57 (ci := 8) rfl (q0 := 0) (wsM_at cy ad _ (by decide)) ⟨Nat.le_of_ble_eq_true rfl, Nat.le_of_ble_eq_true rfl⟩ ⟨Nat.le_of_ble_eq_true rfl, Nat.le_of_ble_eq_true rfl⟩ rfl hl.1 (Nat.le_of_ble_eq_true rfl) rfl dX8_init_195 (fun g4 H locs hg4 hw => ?_)
  refine lv_aload_n K.1 K.2.1 dX8_init_198 rfl (lv_at hl 0 rfl) ?_
  refine lv_bipush (v := (32 : Int32)) K.1 K.2.1 dX8_init_199 (by decide) ?_
  refine lv_bipush (v := (32 : Int32)) K.1 K.2.1 dX8_init_201 (by decide) ?_
  refine lv_bipush (v := (115 : Int32)) K.1 K.2.1 dX8_init_203 (by decide) ?_
  refine lv_bipush (v := (109 : Int32)) K.1 K.2.1 dX8_init_205 (by decide) ?_
  refine lv_bipush (v := (111 : Int32)) K.1 K.2.1 dX8_init_207 (by decide) ?_
  refine lv_bipush (v := (111 : Int32)) K.1 K.2.1 dX8_init_209 (by decide) ?_
  refine lv_bipush (v := (116 : Int32)) K.1 K.2.1 dX8_init_211 (by decide) ?_
  refine lv_bipush (v := (104 : Int32)) K.1 K.2.1 dX8_init_213 (by decide) ?_
  refine lv_bipush (v := (115 : Int32)) K.1 K.2.1 dX8_init_215 (by decide) ?_
  refine rk_vv (As := [.int (32 : Int32), .int (32 : Int32), .int (115 : Int32), .int (109 : Int32), .int (111 : Int32), .int (111 : Int32), .int (116 : Int32), .int (104 : Int32), .int (115 : Int32)]) (rest := []) (P := fun g' => (∀ k, k ≠ 1 → g' k = g4 k) ∧ (∀ j, g' 1 j = if 32 ≤ j ∧ j < 32 + 8 then ([32, 115, 109, 111, 111, 116, 104, 115] : List Int32).getD (j - 32) 0 else g4 1 j)) K hw (cc_X8_spell l D cy ad A g4 _ (32 : Int32) (32 : Int32) (115 : Int32) (109 : Int32) (111 : Int32) (111 : Int32) (116 : Int32) (104 : Int32) (115 : Int32) (h_spell (at_ := 32) (by decide) (fun g' h1 h2 => ⟨h1, h2⟩))) lk_X8_57 (ci := 8) rfl (q0 := 0) (wsM_at cy ad _ (by decide)) ⟨Nat.le_of_ble_eq_true rfl, Nat.le_of_ble_eq_true rfl⟩ ⟨Nat.le_of_ble_eq_true rfl, Nat.le_of_ble_eq_true rfl⟩ rfl hl.1 (Nat.le_of_ble_eq_true rfl) rfl dX8_init_217 (fun g5 H locs hg5 hw => ?_)
  refine lv_aload_n K.1 K.2.1 dX8_init_220 rfl (lv_at hl 0 rfl) ?_
  refine lv_bipush (v := (40 : Int32)) K.1 K.2.1 dX8_init_221 (by decide) ?_
  refine lv_bipush (v := (32 : Int32)) K.1 K.2.1 dX8_init_223 (by decide) ?_
  refine lv_bipush (v := (53 : Int32)) K.1 K.2.1 dX8_init_225 (by decide) ?_
  refine lv_bipush (v := (32 : Int32)) K.1 K.2.1 dX8_init_227 (by decide) ?_
  refine lv_bipush (v := (59 : Int32)) K.1 K.2.1 dX8_init_229 (by decide) ?_
  refine lv_bipush (v := (32 : Int32)) K.1 K.2.1 dX8_init_231 (by decide) ?_
  refine lv_bipush (v := (32 : Int32)) K.1 K.2.1 dX8_init_233 (by decide) ?_
  refine lv_bipush (v := (32 : Int32)) K.1 K.2.1 dX8_init_235 (by decide) ?_
  refine lv_bipush (v := (32 : Int32)) K.1 K.2.1 dX8_init_237 (by decide) ?_
  refine rk_vv (As := [.int (40 : Int32), .int (32 : Int32), .int (53 : Int32), .int (32 : Int32), .int (59 : Int32), .int (32 : Int32), .int (32 : Int32), .int (32 : Int32), .int (32 : Int32)]) (rest := []) (P := fun g' => (∀ k, k ≠ 1 → g' k = g5 k) ∧ (∀ j, g' 1 j = if 40 ≤ j ∧ j < 40 + 8 then ([32, 53, 32, 59, 32, 32, 32, 32] : List Int32).getD (j - 40) 0 else g5 1 j)) K hw (cc_X8_spell l D cy ad A g5 _ (40 : Int32) (32 : Int32) (53 : Int32) (32 : Int32) (59 : Int32) (32 : Int32) (32 : Int32) (32 : Int32) (32 : Int32) (h_spell (at_ := 40) (by decide) (fun g' h1 h2 => ⟨h1, h2⟩))) lk_X8_57 (ci := 8) rfl (q0 := 0) (wsM_at cy ad _ (by decide)) ⟨Nat.le_of_ble_eq_true rfl, Nat.le_of_ble_eq_true rfl⟩ ⟨Nat.le_of_ble_eq_true rfl, Nat.le_of_ble_eq_true rfl⟩ rfl hl.1 (Nat.le_of_ble_eq_true rfl) rfl dX8_init_239 (fun g6 H locs hg6 hw => ?_)
  refine lv_aload_n K.1 K.2.1 dX8_init_242 rfl (lv_at hl 0 rfl) ?_
  refine rm_get 2 (v := .ref (ad 2)) K hw (by decide) kf_X8_17 rfl dX8_init_243 ?_
  refine lv_iconst (v := (0 : Int32)) K.1 K.2.1 dX8_init_246 (by decide) ?_
  refine lv_bipush (v := (48 : Int32)) K.1 K.2.1 dX8_init_247 (by decide) ?_
  refine rm_iast 2 K hw (by decide) (by unfold vp_in; decide) dX8_init_249 (fun g7 e7 H locs hw => ?_)
  refine lv_aload_n K.1 K.2.1 dX8_init_250 rfl (lv_at hl 0 rfl) ?_
  refine lv_iconst (v := (1 : Int32)) K.1 K.2.1 dX8_init_251 (by decide) ?_
  refine rm_put 3 K hw (by decide) kf_X8_61 rfl rfl rfl rfl (fsM_3 ad g7 _) dX8_init_252 (fun g8 e8 H locs hw => ?_)
  have z8 : ∀ k, k ≠ 0 → k ≠ 1 → k ≠ 2 → g8 k = sgR k := fun k a b c => by rw [e8, st_ne a, e7, st_ne c, hg6.1 k b, hg5.1 k b, hg4.1 k b, hg3.1 k b, hg2.1 k b, hg1.1 k b]
  have z0 : ∀ j, j ≠ 3 → g8 0 j = sgR 0 j := fun j hj => by rw [e8, st_off _ hj, e7, st_ne (by decide), hg6.1 0 (by decide), hg5.1 0 (by decide), hg4.1 0 (by decide), hg3.1 0 (by decide), hg2.1 0 (by decide), hg1.1 0 (by decide)]
  have z1 : ∀ i, i < 48 → g8 1 i = bR i := fun i hi => by
    rw [e8, st_ne (by decide), e7, st_ne (by decide), hg6.2, hg5.2, hg4.2, hg3.2, hg2.2, hg1.2]
    exact (by decide +kernel : ∀ i, i < 48 → (if 40 ≤ i ∧ i < 40 + 8 then ([32, 53, 32, 59, 32, 32, 32, 32] : List Int32).getD (i - 40) 0 else if 32 ≤ i ∧ i < 32 + 8 then ([32, 115, 109, 111, 111, 116, 104, 115] : List Int32).getD (i - 32) 0 else if 24 ≤ i ∧ i < 24 + 8 then ([110, 117, 109, 98, 101, 114, 32, 59] : List Int32).getD (i - 24) 0 else if 16 ≤ i ∧ i < 16 + 8 then ([103, 104, 115, 32, 49, 32, 43, 32] : List Int32).getD (i - 16) 0 else if 8 ≤ i ∧ i < 8 + 8 then ([111, 100, 32, 59, 32, 119, 101, 105] : List Int32).getD (i - 8) 0 else if 0 ≤ i ∧ i < 0 + 8 then ([102, 101, 101, 108, 115, 32, 109, 111] : List Int32).getD (i - 0) 0 else sgR 1 i) = bR i) i hi
  refine rx_vret K hw hr ⟨rfl, ad, g8, a0, rfl, by rw [e8, st_on], z0 4 (by decide), z0 6 (by decide), z0 7 (by decide), z0 8 (by decide), z0 11 (by decide), z0 32 (by decide), z1, by rw [e8, st_ne (by decide), e7]; exact st_on _ _ _ _, fun s hs => by rw [z8 9 (by decide) (by decide) (by decide)]; rfl⟩ dX8_init_255
end
