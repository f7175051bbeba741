section
/-! ===== the small world: tape, letters, parser, codes ===== -/
def wsD (cy : Nat → ClassId) (ad : Nat → Nat) (σ : Sg) : va_W := [(ad 8, .inr (5, fsTp ad σ)), (ad 9, .inl (cy 0, 160, .inl (σ 9))), (ad 10, .inr (2, fsPr ad σ)), (ad 11, .inl (cy 0, 160, .inl (σ 11)))]
theorem wcd_Tp (cy : Nat → ClassId) (ad : Nat → Nat) (σ : Sg) : (wsD cy ad σ)[0]? = some (ad 8, .inr (5, fsTp ad σ)) := rfl
theorem wcd_9 (cy : Nat → ClassId) (ad : Nat → Nat) (σ : Sg) : (wsD cy ad σ)[1]? = some (ad 9, .inl (cy 0, 160, .inl (σ 9))) := rfl
theorem wcd_Pr (cy : Nat → ClassId) (ad : Nat → Nat) (σ : Sg) : (wsD cy ad σ)[2]? = some (ad 10, .inr (2, fsPr ad σ)) := rfl
theorem wcd_11 (cy : Nat → ClassId) (ad : Nat → Nat) (σ : Sg) : (wsD cy ad σ)[3]? = some (ad 11, .inl (cy 0, 160, .inl (σ 11))) := rfl
theorem wpd_Tp_1 (cy : Nat → ClassId) (ad : Nat → Nat) (σ : Sg) (x : Int32) : (wsD cy ad σ).set 0 (ad 8, .inr (5, (fsTp ad σ).set 1 (.int x))) = wsD cy ad (st σ 8 1 x) := by simp [wsD, fsTp, fsPr, st]; exact ⟨(st_ne (by decide)).symm, (st_ne (by decide)).symm⟩
theorem wpd_Tp_2 (cy : Nat → ClassId) (ad : Nat → Nat) (σ : Sg) (x : Int32) : (wsD cy ad σ).set 0 (ad 8, .inr (5, (fsTp ad σ).set 2 (.int x))) = wsD cy ad (st σ 8 2 x) := by simp [wsD, fsTp, fsPr, st]; exact ⟨(st_ne (by decide)).symm, (st_ne (by decide)).symm⟩
theorem wpd_Tp_3 (cy : Nat → ClassId) (ad : Nat → Nat) (σ : Sg) (x : Int32) : (wsD cy ad σ).set 0 (ad 8, .inr (5, (fsTp ad σ).set 3 (.int x))) = wsD cy ad (st σ 8 3 x) := by simp [wsD, fsTp, fsPr, st]; exact ⟨(st_ne (by decide)).symm, (st_ne (by decide)).symm⟩
theorem wpd_Tp_4 (cy : Nat → ClassId) (ad : Nat → Nat) (σ : Sg) (x : Int32) : (wsD cy ad σ).set 0 (ad 8, .inr (5, (fsTp ad σ).set 4 (.int x))) = wsD cy ad (st σ 8 4 x) := by simp [wsD, fsTp, fsPr, st]; exact ⟨(st_ne (by decide)).symm, (st_ne (by decide)).symm⟩
theorem wpd_Tp_5 (cy : Nat → ClassId) (ad : Nat → Nat) (σ : Sg) (x : Int32) : (wsD cy ad σ).set 0 (ad 8, .inr (5, (fsTp ad σ).set 5 (.int x))) = wsD cy ad (st σ 8 5 x) := by simp [wsD, fsTp, fsPr, st]; exact ⟨(st_ne (by decide)).symm, (st_ne (by decide)).symm⟩
theorem wpd_Pr_2 (cy : Nat → ClassId) (ad : Nat → Nat) (σ : Sg) (x : Int32) : (wsD cy ad σ).set 2 (ad 10, .inr (2, (fsPr ad σ).set 2 (.int x))) = wsD cy ad (st σ 10 2 x) := by simp [wsD, fsTp, fsPr, st]; exact ⟨(st_ne (by decide)).symm, (st_ne (by decide)).symm⟩
theorem wad_9 (cy : Nat → ClassId) (ad : Nat → Nat) (σ : Sg) (i : Nat) (x : Int32) : (wsD cy ad σ).set 1 (ad 9, .inl (cy 0, 160, .inl (upd (σ 9) i x))) = wsD cy ad (st σ 9 i x) := by
  have hu : upd (σ 9) i x = st σ 9 i x 9 := by funext b; simp [st, upd]
  have ho : st σ 9 i x 11 = σ 11 := st_ne (by decide)
  rw [hu]; simp only [wsD, ho, List.set, fsTp, fsPr]; simp [st]
theorem wad_11 (cy : Nat → ClassId) (ad : Nat → Nat) (σ : Sg) (i : Nat) (x : Int32) : (wsD cy ad σ).set 3 (ad 11, .inl (cy 0, 160, .inl (upd (σ 11) i x))) = wsD cy ad (st σ 11 i x) := by
  have hu : upd (σ 11) i x = st σ 11 i x 11 := by funext b; simp [st, upd]
  have ho : st σ 11 i x 9 = σ 9 := st_ne (by decide)
  rw [hu]; simp only [wsD, ho, List.set, fsTp, fsPr]; simp [st]
section RD
variable {p : Program} {l : Launch} {e : Env} {R : Room} {s : State} {m : MethodId} {args : Array Value} {below : List Frame} {meth : Method} {c : Code} {H : Heap} {locs : List Loc} {cells slots : Nat} {Q : State → Prop}
  {pc : Nat} {ls : Array Slot} {rest : List Value} {cc : ByteArray} {nL : Nat} {own : String} {D : va_G} {cy : Nat → ClassId} {A : Nat → Prop} {H0 : Heap} {σ : Sg} {X : Nat → Nat} {ad : Nat → Nat}
theorem rd_put {C : String} {T : u_T} {N ci : Nat} (lay : ∀ w ∈ u_ws C T N, w ∈ TT) (hc : rk_cl[ci]? = some (C, T, N)) {ty0 : Nat → FieldType} (hty : ∀ k, k < N → parseFieldDescriptor (T k).2.2.1 = some (ty0 k)) (hnm : ∀ a, a < N → ∀ b, b < N → a ≠ b → (T a).2.1 ≠ (T b).2.1) (j : Nat) (hj : j < N) {idx k q : Nat} {fs : List Value} {x : Int32} {ty : FieldType} (K : Kx p s m args meth c cc nL own D cy) (hw : Wd D A H0 (wsD cy ad σ) H locs) (he : (wsD cy ad σ)[q]? = some (ad k, .inr (ci, fs))) (hL : Cond.fieldLink own idx (T j).1 (T j).2.1 (T j).2.2.1 ∈ TT) (hfin : (T j).2.2.2 = false) (htyj : parseFieldDescriptor (T j).2.2.1 = some ty) (hn : narrow ty (.int x) = .int x) (hf : fits ty (.int x) = true) (hlen : j < fs.length) (hset : (wsD cy ad σ).set q (ad k, .inr (ci, fs.set j (.int x))) = wsD cy ad (st σ k j x)) (hdg : decode cc pc = .ok (.putfield idx, 3))
    (kk : ∀ (σ1 : Sg), σ1 = st σ k j x → ∀ (H1 : Heap) (locs1 : List Loc), Wd D A H0 (wsD cy ad σ1) H1 locs1 → W p l e R s m args below meth c H1 locs1 cells slots Q (F0 m (pc + 3) ls rest)) : W p l e R s m args below meth c H locs cells slots Q (F0 m pc ls (.int x :: .ref (ad k) :: rest)) := by
  obtain ⟨hx, hb, hml, hown, hts, hK, -⟩ := id K
  refine va_put (D := D) (ci := ci) (C := C) (T := T) (N := N) hx hb hts lay ty0 hty hnm hown hK hw.1 hw.2.1 hw.2.2 q he hc j hj (hts _ hL) (fun _ h => h) hfin htyj hn hf hlen hdg (fun H1 locs1 hP hD hS => ?_)
  rw [hset] at hP hD
  exact kk _ rfl H1 locs1 ⟨hP, hD, hS⟩
theorem rd_iast {k q n : Nat} {i x : Int32} (K : Kx p s m args meth c cc nL own D cy) (hw : Wd D A H0 (wsD cy ad σ) H locs) (he : (wsD cy ad σ)[q]? = some (ad k, .inl (cy 0, n, .inl (σ k)))) (hset : (wsD cy ad σ).set q (ad k, .inl (cy 0, n, .inl (upd (σ k) i.toNatClampNeg x))) = wsD cy ad (st σ k i.toNatClampNeg x)) (hin : vp_in i n) (hdg : decode cc pc = .ok (.iastore, 1))
    (kk : ∀ (σ1 : Sg), σ1 = st σ k i.toNatClampNeg x → ∀ (H1 : Heap) (locs1 : List Loc), Wd D A H0 (wsD cy ad σ1) H1 locs1 → W p l e R s m args below meth c H1 locs1 cells slots Q (F0 m (pc + 1) ls rest)) : W p l e R s m args below meth c H locs cells slots Q (F0 m pc ls (.int x :: .int i :: .ref (ad k) :: rest)) := by
  obtain ⟨hx, hb, hml, hown, hts, hK, -⟩ := id K
  refine va_iast hx hb hK hw.1 hw.2.1 hw.2.2 q 0 he rfl hin hdg (fun H1 locs1 hP hD hS => ?_)
  rw [hset] at hP hD
  exact kk _ rfl H1 locs1 ⟨hP, hD, hS⟩
end RD
def HrecD (l : Launch) (D : va_G) (cy : Nat → ClassId) (nt : Nat) (ad : Nat → Nat) (A : Nat → Prop) (X : Nat → Nat) (rec : RT) (r : Nat) : Prop :=
  (∀ (g : Sg) (Q : Int32 → Sg → Prop) (x : Int32), rec 0 x g Q → Met l yX2_either (Cond.code yX2_either cX2_either 3 (some .boolean) :: TT) (rmD r) (va_Pc [.ref (ad 10), .int x] (PreC (wsD cy ad) D cy A X g)) (va_Qi Q (PostG (wsD cy ad) D A) A) 0 0 A) ∧
  (∀ (g : Sg) (Q : Int32 → Sg → Prop) (x : Int32), rec 1 x g Q → Met l yX2_both (Cond.code yX2_both cX2_both 3 (some .boolean) :: TT) (rmD r) (va_Pc [.ref (ad 10), .int x] (PreC (wsD cy ad) D cy A X g)) (va_Qi Q (PostG (wsD cy ad) D A) A) 0 0 A) ∧
  (∀ (g : Sg) (Q : Int32 → Sg → Prop) (x : Int32), rec 2 x g Q → Met l yX2_negation (Cond.code yX2_negation cX2_negation 3 (some .boolean) :: TT) (rmD r) (va_Pc [.ref (ad 10), .int x] (PreC (wsD cy ad) D cy A X g)) (va_Qi Q (PostG (wsD cy ad) D A) A) 0 0 A) ∧
  (∀ (g : Sg) (Q : Int32 → Sg → Prop) (x : Int32), rec 3 x g Q → Met l yX2_sum (Cond.code yX2_sum cX2_sum 4 (some .boolean) :: TT) (rmD r) (va_Pc [.ref (ad 10), .int x] (PreC (wsD cy ad) D cy A X g)) (va_Qi Q (PostG (wsD cy ad) D A) A) 0 0 A) ∧
  (∀ (g : Sg) (Q : Int32 → Sg → Prop) (x : Int32), rec 4 x g Q → Met l yX2_term (Cond.code yX2_term cX2_term 3 (some .boolean) :: TT) (rmD r) (va_Pc [.ref (ad 10), .int x] (PreC (wsD cy ad) D cy A X g)) (va_Qi Q (PostG (wsD cy ad) D A) A) 0 0 A) ∧
  (∀ (g : Sg) (Q : Int32 → Sg → Prop) (x : Int32), rec 5 x g Q → Met l yX2_one (Cond.code yX2_one cX2_one 3 (some .boolean) :: TT) (rmD r) (va_Pc [.ref (ad 10), .int x] (PreC (wsD cy ad) D cy A X g)) (va_Qi Q (PostG (wsD cy ad) D A) A) 0 0 A)
set_option maxHeartbeats 4000000 in
set_option maxRecDepth 100000 in
theorem cd_X5_isLower (l : Launch) (D : va_G) (cy : Nat → ClassId) (nt : Nat) (ad : Nat → Nat) (A : Nat → Prop) (X : Nat → Nat)  (g0 : Sg) (Q : Int32 → Sg → Prop) (x0 : Int32) (hd : vv_X5_isLower nt x0 g0 Q) : Met l yX5_isLower (Cond.code yX5_isLower cX5_isLower 1 (some .boolean) :: TT) (rmD 1) (va_Pc [.int x0] (PreC (wsD cy ad) D cy A X g0)) (va_Qi Q (PostG (wsD cy ad) D A) A) 0 0 A := by
  unfold vv_X5_isLower at hd
  refine Met.ofW (cc := cX5_isLower) (maxL := 1) (ret := (some .boolean)) (by decide) rfl ?_
  intro p e s m args below meth c s₁ B hml hv
  obtain ⟨rfl, ⟨hP, hK0, hD⟩, KX⟩ := hv
  have K : Kx p s m _ meth c cX5_isLower 1 RX5 D cy := ⟨B.exec, B.bytes, hml, findClass_of_methodNamed B.named, fun w h => atoms_spec (ws := Cond.code yX5_isLower cX5_isLower 1 (some .boolean) :: TT) B.pre w (List.mem_cons_of_mem _ h), hK0, B.notSynchronized⟩
  have hw : Wd D A s.heap (wsD cy ad g0) s.heap [] := ⟨hP, hD, va_S.rf⟩
  have hr := B.returns
  have hl := lv_entry ([.int x0]) (n := 1) (Nat.le_of_ble_eq_true rfl)
  rw [lg_entry_eq]
  generalize (lg_sl ([.int x0]) ++ List.replicate (1 - (lg_sl ([.int x0])).length) Slot.unset).toArray = ls at hl ⊢
  have hl : lv_has ls 1 [(0, .int x0)] := hl
  refine lv_iload_n K.1 K.2.1 dX5_isLower_0 rfl (lv_at hl 0 rfl) ?_
  refine lv_bipush (v := (97 : Int32)) K.1 K.2.1 dX5_isLower_1 (by decide) ?_
  refine lv_icmp_lt (tgt := 16) K.1 K.2.1 dX5_isLower_3 (by decide) (fun h_1 => ?_) (fun h_1 => ?_)
  · have hd := hd.1 h_1
    refine lv_iconst (v := (0 : Int32)) K.1 K.2.1 dX5_isLower_16 (by decide) ?_
    exact rk_zret K hw hr (by decide) hd dX5_isLower_17
  · have hd := hd.2 h_1
    refine lv_iload_n K.1 K.2.1 dX5_isLower_6 rfl (lv_at hl 0 rfl) ?_
    refine lv_bipush (v := (122 : Int32)) K.1 K.2.1 dX5_isLower_7 (by decide) ?_
    refine lv_icmp_gt (tgt := 16) K.1 K.2.1 dX5_isLower_9 (by decide) (fun h_2 => ?_) (fun h_2 => ?_)
    · have hd := hd.1 h_2
      refine lv_iconst (v := (0 : Int32)) K.1 K.2.1 dX5_isLower_16 (by decide) ?_
      exact rk_zret K hw hr (by decide) hd dX5_isLower_17
    · have hd := hd.2 h_2
      refine lv_iconst (v := (1 : Int32)) K.1 K.2.1 dX5_isLower_12 (by decide) ?_
      refine lv_goto (tgt := 17) K.1 K.2.1 dX5_isLower_13 (by decide) ?_
      exact rk_zret K hw hr (by decide) hd dX5_isLower_17
set_option maxHeartbeats 4000000 in
set_option maxRecDepth 100000 in
theorem bd_X5_skipWord_0 {p : Program} {l : Launch} {e : Env} {s : State} {m : MethodId} {args : Array Value} {below : List Frame} {meth : Method} {c : Code} {D : va_G} {cy : Nat → ClassId} {nt : Nat} {ad : Nat → Nat} {A : Nat → Prop} {X : Nat → Nat} {Q : Sg → Prop} (K : Kx p s m args meth c cX5_skipWord 1 RX5 D cy) (KX : XC X A s s.heap) (hr : meth.sig.returnType = none)  : ∀ (n : Nat)   (g0 : Sg) (H : Heap) (locs : List Loc) (ls : Array Slot), vv_X5_skipWord_L0 nt Q n  g0 → Wd D A s.heap (wsD cy ad g0) H locs → lv_has ls 1 [(0, .ref (ad 8))] → W p l e (rmD 2) s m args below meth c H locs 0 0 (MQ below (va_Qv Q (PostG (wsD cy ad) D A) A) args s 0 0 A) (F0 m 0 ls []) := by
  intro n
  induction n with
  | zero => intro _ _ _ _ hd; exact hd.elim
  | succ n ih =>
    intro  g0 H locs ls  hd hw hl
    unfold vv_X5_skipWord_L0 at hd
    refine lv_aload_n K.1 K.2.1 dX5_skipWord_0 rfl (lv_at hl 0 rfl) ?_
    refine rc_get layX5 (ci := 5) rfl 5 (by decide) (v := .int (g0 8 5)) K hw (wcd_Tp cy ad _) kf_X5_33 rfl dX5_skipWord_1 ?_
    refine lv_aload_n K.1 K.2.1 dX5_skipWord_4 rfl (lv_at hl 0 rfl) ?_
    refine rc_get layX5 (ci := 5) rfl 1 (by decide) (v := .int (g0 8 1)) K hw (wcd_Tp cy ad _) kf_X5_15 rfl dX5_skipWord_5 ?_
    refine lv_icmp_ge (tgt := 39) K.1 K.2.1 dX5_skipWord_8 (by decide) (fun h_1 => ?_) (fun h_1 => ?_)
    · have hd := hd.1 h_1
      exact rk_vret K hw hr hd dX5_skipWord_39
    · have hd := hd.2 h_1
      refine lv_aload_n K.1 K.2.1 dX5_skipWord_11 rfl (lv_at hl 0 rfl) ?_
      refine rc_get layX5 (ci := 5) rfl 0 (by decide) (v := .ref (ad 9)) K hw (wcd_Tp cy ad _) kf_X5_9 rfl dX5_skipWord_12 ?_
      refine lv_aload_n K.1 K.2.1 dX5_skipWord_15 rfl (lv_at hl 0 rfl) ?_
      refine rc_get layX5 (ci := 5) rfl 5 (by decide) (v := .int (g0 8 5)) K hw (wcd_Tp cy ad _) kf_X5_33 rfl dX5_skipWord_16 ?_
      have hb := hd.1
      have hd := hd.2
      refine rc_iald K hw (wcd_9 cy ad _) hb dX5_skipWord_19 ?_
      refine rkc_si (As := [.int (g0 9 (g0 8 5).toNatClampNeg)]) (rest := []) K KX hw (cd_X5_isLower l D cy nt ad A X g0 _ (g0 9 (g0 8 5).toNatClampNeg) hd) lk_X5_48 ⟨Nat.le_of_ble_eq_true rfl, Nat.le_of_ble_eq_true rfl⟩ ⟨Nat.zero_le _, Nat.zero_le _⟩ rfl hl.1 (Nat.le_of_ble_eq_true rfl) rfl dX5_skipWord_20 (fun r_3 g_2 H locs hd hw => ?_)
      refine lv_if_eq (tgt := 39) K.1 K.2.1 dX5_skipWord_23 (by decide) (fun h_4 => ?_) (fun h_4 => ?_)
      · have hd := hd.1 h_4
        exact rk_vret K hw hr hd dX5_skipWord_39
      · have hd := hd.2 h_4
        refine lv_aload_n K.1 K.2.1 dX5_skipWord_26 rfl (lv_at hl 0 rfl) ?_
        refine lv_dup K.1 K.2.1 dX5_skipWord_27 rfl ?_
        refine rc_get layX5 (ci := 5) rfl 5 (by decide) (v := .int (g_2 8 5)) K hw (wcd_Tp cy ad _) kf_X5_33 rfl dX5_skipWord_28 ?_
        refine lv_iconst (v := (1 : Int32)) K.1 K.2.1 dX5_skipWord_31 (by decide) ?_
        refine lv_iadd K.1 K.2.1 dX5_skipWord_32 ?_
        refine rd_put layX5 (ci := 5) rfl tyX5_ok nmX5 5 (by decide) K hw (wcd_Tp cy ad _) kf_X5_33 rfl rfl rfl rfl (Nat.le_of_ble_eq_true rfl) (wpd_Tp_5 cy ad _ _) dX5_skipWord_33 (fun g_5 eg_5 H locs hw => ?_)
        have hd := hd g_5 eg_5
        refine lv_goto (tgt := 0) K.1 K.2.1 dX5_skipWord_36 (by decide) ?_
        exact ih  g_5 _ _ _  hd hw (lv_sub hl [0] rfl)
set_option maxHeartbeats 4000000 in
set_option maxRecDepth 100000 in
theorem cd_X5_skipWord (l : Launch) (D : va_G) (cy : Nat → ClassId) (nt : Nat) (ad : Nat → Nat) (A : Nat → Prop) (X : Nat → Nat)  (g0 : Sg) (Q : Sg → Prop)  (hd : vv_X5_skipWord nt  g0 Q) : Met l yX5_skipWord (Cond.code yX5_skipWord cX5_skipWord 1 none :: TT) (rmD 2) (va_Pc [.ref (ad 8)] (PreC (wsD cy ad) D cy A X g0)) (va_Qv Q (PostG (wsD cy ad) D A) A) 0 0 A := by
  unfold vv_X5_skipWord at hd
  refine Met.ofW (cc := cX5_skipWord) (maxL := 1) (ret := none) (by decide) rfl ?_
  intro p e s m args below meth c s₁ B hml hv
  obtain ⟨rfl, ⟨hP, hK0, hD⟩, KX⟩ := hv
  have K : Kx p s m _ meth c cX5_skipWord 1 RX5 D cy := ⟨B.exec, B.bytes, hml, findClass_of_methodNamed B.named, fun w h => atoms_spec (ws := Cond.code yX5_skipWord cX5_skipWord 1 none :: TT) B.pre w (List.mem_cons_of_mem _ h), hK0, B.notSynchronized⟩
  have hw : Wd D A s.heap (wsD cy ad g0) s.heap [] := ⟨hP, hD, va_S.rf⟩
  have hr := B.returns
  have hl := lv_entry ([.ref (ad 8)]) (n := 1) (Nat.le_of_ble_eq_true rfl)
  rw [lg_entry_eq]
  generalize (lg_sl ([.ref (ad 8)]) ++ List.replicate (1 - (lg_sl ([.ref (ad 8)])).length) Slot.unset).toArray = ls at hl ⊢
  have hl : lv_has ls 1 [(0, .ref (ad 8))] := hl
  obtain ⟨n9, hd⟩ := hd
  exact bd_X5_skipWord_0 K KX hr   n9  g0 _ _ _  hd hw (lv_sub hl [0] rfl)
set_option maxHeartbeats 4000000 in
set_option maxRecDepth 100000 in
theorem cd_J0_coder_7d493 (l : Launch) (D : va_G) (cy : Nat → ClassId) (nt : Nat) (ad : Nat → Nat) (A : Nat → Prop) (X : Nat → Nat)  (g0 : Sg) (Q : Int32 → Sg → Prop) (x0 : Nat) (hd : vv_J0_coder_7d493 nt x0 g0 Q) : Met l yJ0_coder_7d493 (Cond.code yJ0_coder_7d493 cJ0_coder_7d493 1 (some .byte) :: TT) (rmD 1) (va_Pc [.ref (X (10 + x0))] (PreC (wsD cy ad) D cy A X g0)) (va_Qi Q (PostG (wsD cy ad) D A) A) 0 0 A := by
  unfold vv_J0_coder_7d493 at hd
  refine Met.ofW (cc := cJ0_coder_7d493) (maxL := 1) (ret := (some .byte)) (by decide) rfl ?_
  intro p e s m args below meth c s₁ B hml hv
  obtain ⟨rfl, ⟨hP, hK0, hD⟩, KX⟩ := hv
  have K : Kx p s m _ meth c cJ0_coder_7d493 1 RJ0 D cy := ⟨B.exec, B.bytes, hml, findClass_of_methodNamed B.named, fun w h => atoms_spec (ws := Cond.code yJ0_coder_7d493 cJ0_coder_7d493 1 (some .byte) :: TT) B.pre w (List.mem_cons_of_mem _ h), hK0, B.notSynchronized⟩
  have hw : Wd D A s.heap (wsD cy ad g0) s.heap [] := ⟨hP, hD, va_S.rf⟩
  have hr := B.returns
  have hl := lv_entry ([.ref (X (10 + x0))]) (n := 1) (Nat.le_of_ble_eq_true rfl)
  rw [lg_entry_eq]
  generalize (lg_sl ([.ref (X (10 + x0))]) ++ List.replicate (1 - (lg_sl ([.ref (X (10 + x0))])).length) Slot.unset).toArray = ls at hl ⊢
  have hl : lv_has ls 1 [(0, .ref (X (10 + x0)))] := hl
  have hq_x0 := hd.1
  have hd := hd.2
  refine rc_gets KX.2.2.2.2.2.2.2.2.1 K hw ks_J0_38 dJ0_coder_7d493_0 ?_
  refine lv_if_eq (tgt := 13) K.1 K.2.1 dJ0_coder_7d493_3 (by decide) (fun h_1 => ?_) (fun h_1 => ?_)
  · have hd := hd.1 h_1
    refine lv_iconst (v := (1 : Int32)) K.1 K.2.1 dJ0_coder_7d493_13 (by decide) ?_
    exact rk_nret K hw hr rfl hd dJ0_coder_7d493_14
  · have hd := hd.2 h_1
    refine lv_aload_n K.1 K.2.1 dJ0_coder_7d493_6 rfl (lv_at hl 0 rfl) ?_
    refine vk_getf K.1 K.2.1 (KX.2.2.2.2.2.2.1.1 _ hq_x0).2.1 hw.2.2 K.2.2.2.1 (K.2.2.2.2.1 _ ks_J0_15) (fun _ h => h) dJ0_coder_7d493_7 ?_
    refine lv_goto (tgt := 14) K.1 K.2.1 dJ0_coder_7d493_10 (by decide) ?_
    exact rk_nret K hw hr rfl hd dJ0_coder_7d493_14
set_option maxHeartbeats 4000000 in
set_option maxRecDepth 100000 in
theorem cd_J0_length_8abf5 (l : Launch) (D : va_G) (cy : Nat → ClassId) (nt : Nat) (ad : Nat → Nat) (A : Nat → Prop) (X : Nat → Nat)  (g0 : Sg) (Q : Int32 → Sg → Prop) (x0 : Nat) (hd : vv_J0_length_8abf5 nt x0 g0 Q) : Met l yJ0_length_8abf5 (Cond.code yJ0_length_8abf5 cJ0_length_8abf5 1 (some .int) :: TT) (rmD 2) (va_Pc [.ref (X (10 + x0))] (PreC (wsD cy ad) D cy A X g0)) (va_Qi Q (PostG (wsD cy ad) D A) A) 0 0 A := by
  unfold vv_J0_length_8abf5 at hd
  refine Met.ofW (cc := cJ0_length_8abf5) (maxL := 1) (ret := (some .int)) (by decide) rfl ?_
  intro p e s m args below meth c s₁ B hml hv
  obtain ⟨rfl, ⟨hP, hK0, hD⟩, KX⟩ := hv
  have K : Kx p s m _ meth c cJ0_length_8abf5 1 RJ0 D cy := ⟨B.exec, B.bytes, hml, findClass_of_methodNamed B.named, fun w h => atoms_spec (ws := Cond.code yJ0_length_8abf5 cJ0_length_8abf5 1 (some .int) :: TT) B.pre w (List.mem_cons_of_mem _ h), hK0, B.notSynchronized⟩
  have hw : Wd D A s.heap (wsD cy ad g0) s.heap [] := ⟨hP, hD, va_S.rf⟩
  have hr := B.returns
  have hl := lv_entry ([.ref (X (10 + x0))]) (n := 1) (Nat.le_of_ble_eq_true rfl)
  rw [lg_entry_eq]
  generalize (lg_sl ([.ref (X (10 + x0))]) ++ List.replicate (1 - (lg_sl ([.ref (X (10 + x0))])).length) Slot.unset).toArray = ls at hl ⊢
  have hl : lv_has ls 1 [(0, .ref (X (10 + x0)))] := hl
  have hq_x0 := hd.1
  have hd := hd.2
  refine lv_aload_n K.1 K.2.1 dJ0_length_8abf5_0 rfl (lv_at hl 0 rfl) ?_
  refine vk_getf K.1 K.2.1 (KX.2.2.2.2.2.2.1.1 _ hq_x0).2.2.1 hw.2.2 K.2.2.2.1 (K.2.2.2.2.1 _ ks_J0_9) (fun _ h => h) dJ0_length_8abf5_1 ?_
  refine rc_tlen (v := (Int32.ofNat (sN.getD x0 0))) (KX.2.2.2.2.2.2.1.1 _ hq_x0).2.2.2 K hw rfl dJ0_length_8abf5_4 ?_
  refine lv_aload_n K.1 K.2.1 dJ0_length_8abf5_5 rfl (lv_at hl 0 rfl) ?_
  refine rkc_ui (As := []) (rest := [.int (Int32.ofNat (sN.getD x0 0))]) K KX hw (cd_J0_coder_7d493 l D cy nt ad A X g0 _ x0 hd) lk_J0_335 (vk_recv (adK := fun i => X (10 + i)) (adV := fun i => X (30 + i)) (i := x0) KX.2.2.2.2.2.2.1 hq_x0 hw.2.2) ⟨Nat.le_of_ble_eq_true rfl, Nat.le_of_ble_eq_true rfl⟩ ⟨Nat.zero_le _, Nat.zero_le _⟩ rfl hl.1 (Nat.le_of_ble_eq_true rfl) rfl dJ0_length_8abf5_6 (fun r_2 g_1 H locs hd hw => ?_)
  refine lv_ishr K.1 K.2.1 dJ0_length_8abf5_9 ?_
  exact rk_iret K hw hr hd dJ0_length_8abf5_10
set_option maxHeartbeats 4000000 in
set_option maxRecDepth 100000 in
theorem cd_J0_isLatin1_aae02 (l : Launch) (D : va_G) (cy : Nat → ClassId) (nt : Nat) (ad : Nat → Nat) (A : Nat → Prop) (X : Nat → Nat)  (g0 : Sg) (Q : Int32 → Sg → Prop) (x0 : Nat) (hd : vv_J0_isLatin1_aae02 nt x0 g0 Q) : Met l yJ0_isLatin1_aae02 (Cond.code yJ0_isLatin1_aae02 cJ0_isLatin1_aae02 1 (some .boolean) :: TT) (rmD 1) (va_Pc [.ref (X (10 + x0))] (PreC (wsD cy ad) D cy A X g0)) (va_Qi Q (PostG (wsD cy ad) D A) A) 0 0 A := by
  unfold vv_J0_isLatin1_aae02 at hd
  refine Met.ofW (cc := cJ0_isLatin1_aae02) (maxL := 1) (ret := (some .boolean)) (by decide) rfl ?_
  intro p e s m args below meth c s₁ B hml hv
  obtain ⟨rfl, ⟨hP, hK0, hD⟩, KX⟩ := hv
  have K : Kx p s m _ meth c cJ0_isLatin1_aae02 1 RJ0 D cy := ⟨B.exec, B.bytes, hml, findClass_of_methodNamed B.named, fun w h => atoms_spec (ws := Cond.code yJ0_isLatin1_aae02 cJ0_isLatin1_aae02 1 (some .boolean) :: TT) B.pre w (List.mem_cons_of_mem _ h), hK0, B.notSynchronized⟩
  have hw : Wd D A s.heap (wsD cy ad g0) s.heap [] := ⟨hP, hD, va_S.rf⟩
  have hr := B.returns
  have hl := lv_entry ([.ref (X (10 + x0))]) (n := 1) (Nat.le_of_ble_eq_true rfl)
  rw [lg_entry_eq]
  generalize (lg_sl ([.ref (X (10 + x0))]) ++ List.replicate (1 - (lg_sl ([.ref (X (10 + x0))])).length) Slot.unset).toArray = ls at hl ⊢
  have hl : lv_has ls 1 [(0, .ref (X (10 + x0)))] := hl
  have hq_x0 := hd.1
  have hd := hd.2
  refine rc_gets KX.2.2.2.2.2.2.2.2.1 K hw ks_J0_38 dJ0_isLatin1_aae02_0 ?_
  refine lv_if_eq (tgt := 17) K.1 K.2.1 dJ0_isLatin1_aae02_3 (by decide) (fun h_1 => ?_) (fun h_1 => ?_)
  · have hd := hd.1 h_1
    refine lv_iconst (v := (0 : Int32)) K.1 K.2.1 dJ0_isLatin1_aae02_17 (by decide) ?_
    exact rk_zret K hw hr (by decide) hd dJ0_isLatin1_aae02_18
  · have hd := hd.2 h_1
    refine lv_aload_n K.1 K.2.1 dJ0_isLatin1_aae02_6 rfl (lv_at hl 0 rfl) ?_
    refine vk_getf K.1 K.2.1 (KX.2.2.2.2.2.2.1.1 _ hq_x0).2.1 hw.2.2 K.2.2.2.1 (K.2.2.2.2.1 _ ks_J0_15) (fun _ h => h) dJ0_isLatin1_aae02_7 ?_
    refine lv_if_ne (tgt := 17) K.1 K.2.1 dJ0_isLatin1_aae02_10 (by decide) (fun h_2 => ?_) (fun h_2 => ?_)
    · have hd := hd.1 h_2
      refine lv_iconst (v := (0 : Int32)) K.1 K.2.1 dJ0_isLatin1_aae02_17 (by decide) ?_
      exact rk_zret K hw hr (by decide) hd dJ0_isLatin1_aae02_18
    · have hd := hd.2 h_2
      refine lv_iconst (v := (1 : Int32)) K.1 K.2.1 dJ0_isLatin1_aae02_13 (by decide) ?_
      refine lv_goto (tgt := 18) K.1 K.2.1 dJ0_isLatin1_aae02_14 (by decide) ?_
      exact rk_zret K hw hr (by decide) hd dJ0_isLatin1_aae02_18
set_option maxHeartbeats 4000000 in
set_option maxRecDepth 100000 in
theorem bd_J3_checkIndex_8e157_9 {p : Program} {l : Launch} {e : Env} {s : State} {m : MethodId} {args : Array Value} {below : List Frame} {meth : Method} {c : Code} {D : va_G} {cy : Nat → ClassId} {nt : Nat} {ad : Nat → Nat} {A : Nat → Prop} {X : Nat → Nat} {Q : Int32 → Sg → Prop} (K : Kx p s m args meth c cJ3_checkIndex_8e157 3 RJ3 D cy) (KX : XC X A s s.heap) (hr : meth.sig.returnType = (some .int))  (x0 : Int32) (x1 : Int32) (x2 : Nat)  (g0 : Sg) (H : Heap) (locs : List Loc) (ls : Array Slot) (hq_x2 : True) (hd : vv_J3_checkIndex_8e157_J9 nt x0 x1 x2 g0 Q) (hw : Wd D A s.heap (wsD cy ad g0) H locs) (hl : lv_has ls 3 [(0, .int x0), (1, .int x1), (2, .ref x2)]) : W p l e (rmD 1) s m args below meth c H locs 0 0 (MQ below (va_Qi Q (PostG (wsD cy ad) D A) A) args s 0 0 A) (F0 m 9 ls []) := by
  unfold vv_J3_checkIndex_8e157_J9 at hd
  exact hd.elim
set_option maxHeartbeats 4000000 in
set_option maxRecDepth 100000 in
theorem cd_J3_checkIndex_8e157 (l : Launch) (D : va_G) (cy : Nat → ClassId) (nt : Nat) (ad : Nat → Nat) (A : Nat → Prop) (X : Nat → Nat)  (g0 : Sg) (Q : Int32 → Sg → Prop) (x0 : Int32) (x1 : Int32) (x2 : Nat) (hd : vv_J3_checkIndex_8e157 nt x0 x1 x2 g0 Q) : Met l yJ3_checkIndex_8e157 (Cond.code yJ3_checkIndex_8e157 cJ3_checkIndex_8e157 3 (some .int) :: TT) (rmD 1) (va_Pc [.int x0, .int x1, .ref x2] (PreC (wsD cy ad) D cy A X g0)) (va_Qi Q (PostG (wsD cy ad) D A) A) 0 0 A := by
  unfold vv_J3_checkIndex_8e157 at hd
  refine Met.ofW (cc := cJ3_checkIndex_8e157) (maxL := 3) (ret := (some .int)) (by decide) rfl ?_
  intro p e s m args below meth c s₁ B hml hv
  obtain ⟨rfl, ⟨hP, hK0, hD⟩, KX⟩ := hv
  have K : Kx p s m _ meth c cJ3_checkIndex_8e157 3 RJ3 D cy := ⟨B.exec, B.bytes, hml, findClass_of_methodNamed B.named, fun w h => atoms_spec (ws := Cond.code yJ3_checkIndex_8e157 cJ3_checkIndex_8e157 3 (some .int) :: TT) B.pre w (List.mem_cons_of_mem _ h), hK0, B.notSynchronized⟩
  have hw : Wd D A s.heap (wsD cy ad g0) s.heap [] := ⟨hP, hD, va_S.rf⟩
  have hr := B.returns
  have hl := lv_entry ([.int x0, .int x1, .ref x2]) (n := 3) (Nat.le_of_ble_eq_true rfl)
  rw [lg_entry_eq]
  generalize (lg_sl ([.int x0, .int x1, .ref x2]) ++ List.replicate (3 - (lg_sl ([.int x0, .int x1, .ref x2])).length) Slot.unset).toArray = ls at hl ⊢
  have hl : lv_has ls 3 [(0, .int x0), (1, .int x1), (2, .ref x2)] := hl
  have hz := hd.1
  have hd := hd.2
  refine lv_iload_n K.1 K.2.1 dJ3_checkIndex_8e157_0 rfl (lv_at hl 0 rfl) ?_
  refine lv_if_lt (tgt := 9) K.1 K.2.1 dJ3_checkIndex_8e157_1 (by decide) (fun h_1 => ?_) (fun h_1 => ?_)
  · have hd := hd.1 h_1
    exact bd_J3_checkIndex_8e157_9 K KX hr   x0 x1 x2 g0 _ _ _ trivial hd hw (lv_sub hl [0, 1, 2] rfl)
  · have hd := hd.2 h_1
    refine lv_iload_n K.1 K.2.1 dJ3_checkIndex_8e157_4 rfl (lv_at hl 0 rfl) ?_
    refine lv_iload_n K.1 K.2.1 dJ3_checkIndex_8e157_5 rfl (lv_at hl 1 rfl) ?_
    refine lv_icmp_lt (tgt := 16) K.1 K.2.1 dJ3_checkIndex_8e157_6 (by decide) (fun h_2 => ?_) (fun h_2 => ?_)
    · have hd := hd.1 h_2
      refine lv_iload_n K.1 K.2.1 dJ3_checkIndex_8e157_16 rfl (lv_at hl 0 rfl) ?_
      exact rk_iret K hw hr hd dJ3_checkIndex_8e157_17
    · have hd := hd.2 h_2
      exact bd_J3_checkIndex_8e157_9 K KX hr   x0 x1 x2 g0 _ _ _ trivial hd hw (lv_sub hl [0, 1, 2] rfl)
set_option maxHeartbeats 4000000 in
set_option maxRecDepth 100000 in
theorem bq_J3_checkIndex_8e157_9 {p : Program} {l : Launch} {e : Env} {s : State} {m : MethodId} {args : Array Value} {below : List Frame} {meth : Method} {c : Code} {D : va_G} {cy : Nat → ClassId} {nt : Nat} {ad : Nat → Nat} {A : Nat → Prop} {X : Nat → Nat} {Q : Int32 → Sg → Prop} (K : Kx p s m args meth c cJ3_checkIndex_8e157 3 RJ3 D cy) (KX : XC X A s s.heap) (hr : meth.sig.returnType = (some .int))  (x0 : Int32) (x1 : Int32)  (g0 : Sg) (H : Heap) (locs : List Loc) (ls : Array Slot) (hd : vn_J3_checkIndex_8e157_J9 nt x0 x1 g0 Q) (hw : Wd D A s.heap (wsD cy ad g0) H locs) (hl : lv_has ls 3 [(0, .int x0), (1, .int x1), (2, .null)]) : W p l e (rmD 1) s m args below meth c H locs 0 0 (MQ below (va_Qi Q (PostG (wsD cy ad) D A) A) args s 0 0 A) (F0 m 9 ls []) := by
  unfold vn_J3_checkIndex_8e157_J9 at hd
  exact hd.elim
set_option maxHeartbeats 4000000 in
set_option maxRecDepth 100000 in
theorem cq_J3_checkIndex_8e157 (l : Launch) (D : va_G) (cy : Nat → ClassId) (nt : Nat) (ad : Nat → Nat) (A : Nat → Prop) (X : Nat → Nat)  (g0 : Sg) (Q : Int32 → Sg → Prop) (x0 : Int32) (x1 : Int32) (hd : vn_J3_checkIndex_8e157 nt x0 x1 g0 Q) : Met l yJ3_checkIndex_8e157 (Cond.code yJ3_checkIndex_8e157 cJ3_checkIndex_8e157 3 (some .int) :: TT) (rmD 1) (va_Pc [.int x0, .int x1, .null] (PreC (wsD cy ad) D cy A X g0)) (va_Qi Q (PostG (wsD cy ad) D A) A) 0 0 A := by
  unfold vn_J3_checkIndex_8e157 at hd
  refine Met.ofW (cc := cJ3_checkIndex_8e157) (maxL := 3) (ret := (some .int)) (by decide) rfl ?_
  intro p e s m args below meth c s₁ B hml hv
  obtain ⟨rfl, ⟨hP, hK0, hD⟩, KX⟩ := hv
  have K : Kx p s m _ meth c cJ3_checkIndex_8e157 3 RJ3 D cy := ⟨B.exec, B.bytes, hml, findClass_of_methodNamed B.named, fun w h => atoms_spec (ws := Cond.code yJ3_checkIndex_8e157 cJ3_checkIndex_8e157 3 (some .int) :: TT) B.pre w (List.mem_cons_of_mem _ h), hK0, B.notSynchronized⟩
  have hw : Wd D A s.heap (wsD cy ad g0) s.heap [] := ⟨hP, hD, va_S.rf⟩
  have hr := B.returns
  have hl := lv_entry ([.int x0, .int x1, .null]) (n := 3) (Nat.le_of_ble_eq_true rfl)
  rw [lg_entry_eq]
  generalize (lg_sl ([.int x0, .int x1, .null]) ++ List.replicate (3 - (lg_sl ([.int x0, .int x1, .null])).length) Slot.unset).toArray = ls at hl ⊢
  have hl : lv_has ls 3 [(0, .int x0), (1, .int x1), (2, .null)] := hl
  refine lv_iload_n K.1 K.2.1 dJ3_checkIndex_8e157_0 rfl (lv_at hl 0 rfl) ?_
  refine lv_if_lt (tgt := 9) K.1 K.2.1 dJ3_checkIndex_8e157_1 (by decide) (fun h_1 => ?_) (fun h_1 => ?_)
  · have hd := hd.1 h_1
    exact bq_J3_checkIndex_8e157_9 K KX hr   x0 x1 g0 _ _ _  hd hw (lv_sub hl [0, 1, 2] rfl)
  · have hd := hd.2 h_1
    refine lv_iload_n K.1 K.2.1 dJ3_checkIndex_8e157_4 rfl (lv_at hl 0 rfl) ?_
    refine lv_iload_n K.1 K.2.1 dJ3_checkIndex_8e157_5 rfl (lv_at hl 1 rfl) ?_
    refine lv_icmp_lt (tgt := 16) K.1 K.2.1 dJ3_checkIndex_8e157_6 (by decide) (fun h_2 => ?_) (fun h_2 => ?_)
    · have hd := hd.1 h_2
      refine lv_iload_n K.1 K.2.1 dJ3_checkIndex_8e157_16 rfl (lv_at hl 0 rfl) ?_
      exact rk_iret K hw hr hd dJ3_checkIndex_8e157_17
    · have hd := hd.2 h_2
      exact bq_J3_checkIndex_8e157_9 K KX hr   x0 x1 g0 _ _ _  hd hw (lv_sub hl [0, 1, 2] rfl)
set_option maxHeartbeats 4000000 in
set_option maxRecDepth 100000 in
theorem cd_J0_checkIndex_df160 (l : Launch) (D : va_G) (cy : Nat → ClassId) (nt : Nat) (ad : Nat → Nat) (A : Nat → Prop) (X : Nat → Nat) (g0 : Sg) (Q : Sg → Prop) (x0 : Int32) (x1 : Int32) (hd : vv_J0_checkIndex_df160 nt x0 x1 g0 Q) : Met l yJ0_checkIndex_df160 (Cond.code yJ0_checkIndex_df160 cJ0_checkIndex_df160 2 none :: TT) (rmD 2) (va_Pc [.int x0, .int x1] (PreC (wsD cy ad) D cy A X g0)) (va_Qv Q (PostG (wsD cy ad) D A) A) 0 0 A := by
  obtain ⟨h0, h1, hd⟩ := hd
  refine Met.ofW (cc := cJ0_checkIndex_df160) (maxL := 2) (ret := none) (by decide) rfl ?_
  intro p e s m args below meth c s₁ B hml hv
  obtain ⟨rfl, ⟨hP, hK0, hD⟩, KX⟩ := hv
  have K : Kx p s m _ meth c cJ0_checkIndex_df160 2 RJ0 D cy := ⟨B.exec, B.bytes, hml, findClass_of_methodNamed B.named, fun w h => atoms_spec (ws := Cond.code yJ0_checkIndex_df160 cJ0_checkIndex_df160 2 none :: TT) B.pre w (List.mem_cons_of_mem _ h), hK0, B.notSynchronized⟩
  have hw : Wd D A s.heap (wsD cy ad g0) s.heap [] := ⟨hP, hD, va_S.rf⟩
  have hr := B.returns
  have hl := lv_entry ([.int x0, .int x1]) (n := 2) (Nat.le_of_ble_eq_true rfl)
  rw [lg_entry_eq]
  generalize (lg_sl ([.int x0, .int x1]) ++ List.replicate (2 - (lg_sl ([.int x0, .int x1])).length) Slot.unset).toArray = ls at hl ⊢
  have hl : lv_has ls 2 [(0, .int x0), (1, .int x1)] := hl
  refine lv_iload_n K.1 K.2.1 dJ0_checkIndex_df160_0 rfl (lv_at hl 0 rfl) ?_
  refine lv_iload_n K.1 K.2.1 dJ0_checkIndex_df160_1 rfl (lv_at hl 1 rfl) ?_
  rcases KX.2.2.2.2.2.2.2.2.2 with hZ | ⟨tq, hZ⟩
  · refine rc_gets hZ K hw ks_J0_1053 dJ0_checkIndex_df160_2 ?_
    refine rkc_si (As := [.int x0, .int x1, .null]) (rest := []) K KX hw (cq_J3_checkIndex_8e157 l D cy nt ad A X g0 (fun _ g => Q g) x0 x1 ⟨fun h => h0 h, fun _ => ⟨fun _ => hd, fun h => h h1⟩⟩) lk_J0_1059 ⟨Nat.le_of_ble_eq_true rfl, Nat.le_of_ble_eq_true rfl⟩ ⟨Nat.zero_le _, Nat.zero_le _⟩ rfl hl.1 (Nat.le_of_ble_eq_true rfl) rfl dJ0_checkIndex_df160_5 (fun r_1 g_1 H locs hd hw => ?_)
    refine lv_pop K.1 K.2.1 dJ0_checkIndex_df160_8 rfl ?_
    exact rk_vret K hw hr hd dJ0_checkIndex_df160_9
  · refine rc_gets hZ K hw ks_J0_1053 dJ0_checkIndex_df160_2 ?_
    refine rkc_si (As := [.int x0, .int x1, .ref tq]) (rest := []) K KX hw (cd_J3_checkIndex_8e157 l D cy nt ad A X g0 (fun _ g => Q g) x0 x1 tq ⟨trivial, fun h => h0 h, fun _ => ⟨fun _ => hd, fun h => h h1⟩⟩) lk_J0_1059 ⟨Nat.le_of_ble_eq_true rfl, Nat.le_of_ble_eq_true rfl⟩ ⟨Nat.zero_le _, Nat.zero_le _⟩ rfl hl.1 (Nat.le_of_ble_eq_true rfl) rfl dJ0_checkIndex_df160_5 (fun r_1 g_1 H locs hd hw => ?_)
    refine lv_pop K.1 K.2.1 dJ0_checkIndex_df160_8 rfl ?_
    exact rk_vret K hw hr hd dJ0_checkIndex_df160_9
set_option maxHeartbeats 4000000 in
set_option maxRecDepth 100000 in
theorem cd_J1_charAt_3b067 (l : Launch) (D : va_G) (cy : Nat → ClassId) (nt : Nat) (ad : Nat → Nat) (A : Nat → Prop) (X : Nat → Nat)  (g0 : Sg) (Q : Int32 → Sg → Prop) (x0 : Nat) (x1 : Int32) (hd : vv_J1_charAt_3b067 nt x0 x1 g0 Q) : Met l yJ1_charAt_3b067 (Cond.code yJ1_charAt_3b067 cJ1_charAt_3b067 2 (some .char) :: TT) (rmD 3) (va_Pc [.ref (X (30 + x0)), .int x1] (PreC (wsD cy ad) D cy A X g0)) (va_Qi Q (PostG (wsD cy ad) D A) A) 0 0 A := by
  unfold vv_J1_charAt_3b067 at hd
  refine Met.ofW (cc := cJ1_charAt_3b067) (maxL := 2) (ret := (some .char)) (by decide) rfl ?_
  intro p e s m args below meth c s₁ B hml hv
  obtain ⟨rfl, ⟨hP, hK0, hD⟩, KX⟩ := hv
  have K : Kx p s m _ meth c cJ1_charAt_3b067 2 RJ1 D cy := ⟨B.exec, B.bytes, hml, findClass_of_methodNamed B.named, fun w h => atoms_spec (ws := Cond.code yJ1_charAt_3b067 cJ1_charAt_3b067 2 (some .char) :: TT) B.pre w (List.mem_cons_of_mem _ h), hK0, B.notSynchronized⟩
  have hw : Wd D A s.heap (wsD cy ad g0) s.heap [] := ⟨hP, hD, va_S.rf⟩
  have hr := B.returns
  have hl := lv_entry ([.ref (X (30 + x0)), .int x1]) (n := 2) (Nat.le_of_ble_eq_true rfl)
  rw [lg_entry_eq]
  generalize (lg_sl ([.ref (X (30 + x0)), .int x1]) ++ List.replicate (2 - (lg_sl ([.ref (X (30 + x0)), .int x1])).length) Slot.unset).toArray = ls at hl ⊢
  have hl : lv_has ls 2 [(0, .ref (X (30 + x0))), (1, .int x1)] := hl
  have hq_x0 := hd.1
  have hd := hd.2
  refine lv_iload_n K.1 K.2.1 dJ1_charAt_3b067_0 rfl (lv_at hl 1 rfl) ?_
  refine lv_aload_n K.1 K.2.1 dJ1_charAt_3b067_1 rfl (lv_at hl 0 rfl) ?_
  refine rc_tlen (v := (Int32.ofNat (sN.getD x0 0))) (KX.2.2.2.2.2.2.1.1 _ hq_x0).2.2.2 K hw rfl dJ1_charAt_3b067_2 ?_
  refine rkc_sv (As := [.int x1, .int (Int32.ofNat (sN.getD x0 0))]) (rest := []) K KX hw (cd_J0_checkIndex_df160 l D cy nt ad A X g0 _ x1 (Int32.ofNat (sN.getD x0 0)) hd) lk_J1_9 ⟨Nat.le_of_ble_eq_true rfl, Nat.le_of_ble_eq_true rfl⟩ ⟨Nat.zero_le _, Nat.zero_le _⟩ rfl hl.1 (Nat.le_of_ble_eq_true rfl) rfl dJ1_charAt_3b067_3 (fun g_1 H locs hd hw => ?_)
  refine lv_aload_n K.1 K.2.1 dJ1_charAt_3b067_6 rfl (lv_at hl 0 rfl) ?_
  refine lv_iload_n K.1 K.2.1 dJ1_charAt_3b067_7 rfl (lv_at hl 1 rfl) ?_
  have hb := hd.1
  have hd := hd.2
  refine va_tb K.1 K.2.1 (KX.2.2.2.2.2.2.1.1 _ hq_x0).2.2.2 hw.2.2 hb (v := .int ((sB.getD x0 []).getD x1.toNatClampNeg 0)) rfl dJ1_charAt_3b067_8 ?_
  refine lv_sipush (v := (255 : Int32)) K.1 K.2.1 dJ1_charAt_3b067_9 (by decide) ?_
  refine lv_iand K.1 K.2.1 dJ1_charAt_3b067_12 ?_
  refine lv_i2c (v := ((((sB.getD x0 []).getD x1.toNatClampNeg 0) &&& (255 : Int32)).toUInt32 % 65536).toInt32) K.1 K.2.1 dJ1_charAt_3b067_13 rfl ?_
  exact rk_nret K hw hr hd.1 hd.2 dJ1_charAt_3b067_14
set_option maxHeartbeats 4000000 in
set_option maxRecDepth 100000 in
theorem cd_J0_charAt_5068e (l : Launch) (D : va_G) (cy : Nat → ClassId) (nt : Nat) (ad : Nat → Nat) (A : Nat → Prop) (X : Nat → Nat)  (g0 : Sg) (Q : Int32 → Sg → Prop) (x0 : Nat) (x1 : Int32) (hd : vv_J0_charAt_5068e nt x0 x1 g0 Q) : Met l yJ0_charAt_5068e (Cond.code yJ0_charAt_5068e cJ0_charAt_5068e 2 (some .char) :: TT) (rmD 4) (va_Pc [.ref (X (10 + x0)), .int x1] (PreC (wsD cy ad) D cy A X g0)) (va_Qi Q (PostG (wsD cy ad) D A) A) 0 0 A := by
  unfold vv_J0_charAt_5068e at hd
  refine Met.ofW (cc := cJ0_charAt_5068e) (maxL := 2) (ret := (some .char)) (by decide) rfl ?_
  intro p e s m args below meth c s₁ B hml hv
  obtain ⟨rfl, ⟨hP, hK0, hD⟩, KX⟩ := hv
  have K : Kx p s m _ meth c cJ0_charAt_5068e 2 RJ0 D cy := ⟨B.exec, B.bytes, hml, findClass_of_methodNamed B.named, fun w h => atoms_spec (ws := Cond.code yJ0_charAt_5068e cJ0_charAt_5068e 2 (some .char) :: TT) B.pre w (List.mem_cons_of_mem _ h), hK0, B.notSynchronized⟩
  have hw : Wd D A s.heap (wsD cy ad g0) s.heap [] := ⟨hP, hD, va_S.rf⟩
  have hr := B.returns
  have hl := lv_entry ([.ref (X (10 + x0)), .int x1]) (n := 2) (Nat.le_of_ble_eq_true rfl)
  rw [lg_entry_eq]
  generalize (lg_sl ([.ref (X (10 + x0)), .int x1]) ++ List.replicate (2 - (lg_sl ([.ref (X (10 + x0)), .int x1])).length) Slot.unset).toArray = ls at hl ⊢
  have hl : lv_has ls 2 [(0, .ref (X (10 + x0))), (1, .int x1)] := hl
  have hq_x0 := hd.1
  have hd := hd.2
  refine lv_aload_n K.1 K.2.1 dJ0_charAt_5068e_0 rfl (lv_at hl 0 rfl) ?_
  refine rkc_ui (As := []) (rest := []) K KX hw (cd_J0_isLatin1_aae02 l D cy nt ad A X g0 _ x0 hd) lk_J0_492 (vk_recv (adK := fun i => X (10 + i)) (adV := fun i => X (30 + i)) (i := x0) KX.2.2.2.2.2.2.1 hq_x0 hw.2.2) ⟨Nat.le_of_ble_eq_true rfl, Nat.le_of_ble_eq_true rfl⟩ ⟨Nat.zero_le _, Nat.zero_le _⟩ rfl hl.1 (Nat.le_of_ble_eq_true rfl) rfl dJ0_charAt_5068e_1 (fun r_2 g_1 H locs hd hw => ?_)
  refine lv_if_eq (tgt := 16) K.1 K.2.1 dJ0_charAt_5068e_4 (by decide) (fun h_3 => ?_) (fun h_3 => ?_)
  · have hd := hd.1 h_3
    exact hd.elim
  · have hd := hd.2 h_3
    refine lv_aload_n K.1 K.2.1 dJ0_charAt_5068e_7 rfl (lv_at hl 0 rfl) ?_
    refine vk_getf K.1 K.2.1 (KX.2.2.2.2.2.2.1.1 _ hq_x0).2.2.1 hw.2.2 K.2.2.2.1 (K.2.2.2.2.1 _ ks_J0_9) (fun _ h => h) dJ0_charAt_5068e_8 ?_
    refine lv_iload_n K.1 K.2.1 dJ0_charAt_5068e_11 rfl (lv_at hl 1 rfl) ?_
    refine rkc_si (As := [.ref (X (30 + x0)), .int x1]) (rest := []) K KX hw (cd_J1_charAt_3b067 l D cy nt ad A X g_1 _ x0 x1 hd) lk_J0_495 ⟨Nat.le_of_ble_eq_true rfl, Nat.le_of_ble_eq_true rfl⟩ ⟨Nat.zero_le _, Nat.zero_le _⟩ rfl hl.1 (Nat.le_of_ble_eq_true rfl) rfl dJ0_charAt_5068e_12 (fun r_5 g_4 H locs hd hw => ?_)
    exact rk_nret K hw hr hd.1 hd.2 dJ0_charAt_5068e_15
set_option maxHeartbeats 4000000 in
set_option maxRecDepth 100000 in
theorem bd_X5_spells_20 {p : Program} {l : Launch} {e : Env} {s : State} {m : MethodId} {args : Array Value} {below : List Frame} {meth : Method} {c : Code} {D : va_G} {cy : Nat → ClassId} {nt : Nat} {ad : Nat → Nat} {A : Nat → Prop} {X : Nat → Nat} {Q : Int32 → Sg → Prop} (K : Kx p s m args meth c cX5_spells 3 RX5 D cy) (KX : XC X A s s.heap) (hr : meth.sig.returnType = (some .boolean))  : ∀ (n : Nat) (x1 : Nat) (x2 : Int32)  (g0 : Sg) (H : Heap) (locs : List Loc) (ls : Array Slot), x1 < 13 → vv_X5_spells_L20 nt Q n x1 x2 g0 → Wd D A s.heap (wsD cy ad g0) H locs → lv_has ls 3 [(0, .ref (ad 8)), (1, .ref (X (10 + x1))), (2, .int x2)] → W p l e (rmD 5) s m args below meth c H locs 0 0 (MQ below (va_Qi Q (PostG (wsD cy ad) D A) A) args s 0 0 A) (F0 m 20 ls []) := by
  intro n
  induction n with
  | zero => intro _ _ _ _ _ _ _ hd; exact hd.elim
  | succ n ih =>
    intro x1 x2 g0 H locs ls hq_x1 hd hw hl
    unfold vv_X5_spells_L20 at hd
    refine lv_iload_n K.1 K.2.1 dX5_spells_20 rfl (lv_at hl 2 rfl) ?_
    refine lv_aload_n K.1 K.2.1 dX5_spells_21 rfl (lv_at hl 1 rfl) ?_
    refine rkc_ui (As := []) (rest := [.int x2]) K KX hw (cd_J0_length_8abf5 l D cy nt ad A X g0 _ x1 hd) lk_X5_19 (vk_recv (adK := fun i => X (10 + i)) (adV := fun i => X (30 + i)) (i := x1) KX.2.2.2.2.2.2.1 hq_x1 hw.2.2) ⟨Nat.le_of_ble_eq_true rfl, Nat.le_of_ble_eq_true rfl⟩ ⟨Nat.zero_le _, Nat.zero_le _⟩ rfl hl.1 (Nat.le_of_ble_eq_true rfl) rfl dX5_spells_22 (fun r_6 g_5 H locs hd hw => ?_)
    refine lv_icmp_ge (tgt := 55) K.1 K.2.1 dX5_spells_25 (by decide) (fun h_7 => ?_) (fun h_7 => ?_)
    · have hd := hd.1 h_7
      refine lv_iconst (v := (1 : Int32)) K.1 K.2.1 dX5_spells_55 (by decide) ?_
      exact rk_zret K hw hr (by decide) hd dX5_spells_56
    · have hd := hd.2 h_7
      refine lv_aload_n K.1 K.2.1 dX5_spells_28 rfl (lv_at hl 1 rfl) ?_
      refine lv_iload_n K.1 K.2.1 dX5_spells_29 rfl (lv_at hl 2 rfl) ?_
      refine rkc_ui (As := [.int x2]) (rest := []) K KX hw (cd_J0_charAt_5068e l D cy nt ad A X g_5 _ x1 x2 hd) lk_X5_25 (vk_recv (adK := fun i => X (10 + i)) (adV := fun i => X (30 + i)) (i := x1) KX.2.2.2.2.2.2.1 hq_x1 hw.2.2) ⟨Nat.le_of_ble_eq_true rfl, Nat.le_of_ble_eq_true rfl⟩ ⟨Nat.zero_le _, Nat.zero_le _⟩ rfl hl.1 (Nat.le_of_ble_eq_true rfl) rfl dX5_spells_30 (fun r_9 g_8 H locs hd hw => ?_)
      refine lv_aload_n K.1 K.2.1 dX5_spells_33 rfl (lv_at hl 0 rfl) ?_
      refine rc_get layX5 (ci := 5) rfl 0 (by decide) (v := .ref (ad 9)) K hw (wcd_Tp cy ad _) kf_X5_9 rfl dX5_spells_34 ?_
      refine lv_aload_n K.1 K.2.1 dX5_spells_37 rfl (lv_at hl 0 rfl) ?_
      refine rc_get layX5 (ci := 5) rfl 2 (by decide) (v := .int (g_8 8 2)) K hw (wcd_Tp cy ad _) kf_X5_39 rfl dX5_spells_38 ?_
      refine lv_iload_n K.1 K.2.1 dX5_spells_41 rfl (lv_at hl 2 rfl) ?_
      refine lv_iadd K.1 K.2.1 dX5_spells_42 ?_
      have hb := hd.1
      have hd := hd.2
      refine rc_iald K hw (wcd_9 cy ad _) hb dX5_spells_43 ?_
      refine lv_icmp_eq (tgt := 49) K.1 K.2.1 dX5_spells_44 (by decide) (fun h_10 => ?_) (fun h_10 => ?_)
      · have hd := hd.1 h_10
        obtain ⟨x2_11, ex2_11⟩ : ∃ y : Int32, y = x2 + (1 : Int32) := ⟨_, rfl⟩
        have hd := hd x2_11 ex2_11
        refine lv_iinc (v := x2_11) (lv' := [(2, .int x2_11), (0, .ref (ad 8)), (1, .ref (X (10 + x1)))]) K.1 K.2.1 dX5_spells_49 hl (k := 2) rfl (by rw [ex2_11]; rfl) (by decide) rfl (fun ls hl => ?_)
        refine lv_goto (tgt := 20) K.1 K.2.1 dX5_spells_52 (by decide) ?_
        exact ih x1 x2_11 g_8 _ _ _ hq_x1 hd hw (lv_sub hl [1, 2, 0] rfl)
      · have hd := hd.2 h_10
        refine lv_iconst (v := (0 : Int32)) K.1 K.2.1 dX5_spells_47 (by decide) ?_
        exact rk_zret K hw hr (by decide) hd dX5_spells_48
set_option maxHeartbeats 4000000 in
set_option maxRecDepth 100000 in
theorem cd_X5_spells (l : Launch) (D : va_G) (cy : Nat → ClassId) (nt : Nat) (ad : Nat → Nat) (A : Nat → Prop) (X : Nat → Nat)  (g0 : Sg) (Q : Int32 → Sg → Prop) (x1 : Nat) (hd : vv_X5_spells nt x1 g0 Q) : Met l yX5_spells (Cond.code yX5_spells cX5_spells 3 (some .boolean) :: TT) (rmD 5) (va_Pc [.ref (ad 8), .ref (X (10 + x1))] (PreC (wsD cy ad) D cy A X g0)) (va_Qi Q (PostG (wsD cy ad) D A) A) 0 0 A := by
  unfold vv_X5_spells at hd
  refine Met.ofW (cc := cX5_spells) (maxL := 3) (ret := (some .boolean)) (by decide) rfl ?_
  intro p e s m args below meth c s₁ B hml hv
  obtain ⟨rfl, ⟨hP, hK0, hD⟩, KX⟩ := hv
  have K : Kx p s m _ meth c cX5_spells 3 RX5 D cy := ⟨B.exec, B.bytes, hml, findClass_of_methodNamed B.named, fun w h => atoms_spec (ws := Cond.code yX5_spells cX5_spells 3 (some .boolean) :: TT) B.pre w (List.mem_cons_of_mem _ h), hK0, B.notSynchronized⟩
  have hw : Wd D A s.heap (wsD cy ad g0) s.heap [] := ⟨hP, hD, va_S.rf⟩
  have hr := B.returns
  have hl := lv_entry ([.ref (ad 8), .ref (X (10 + x1))]) (n := 3) (Nat.le_of_ble_eq_true rfl)
  rw [lg_entry_eq]
  generalize (lg_sl ([.ref (ad 8), .ref (X (10 + x1))]) ++ List.replicate (3 - (lg_sl ([.ref (ad 8), .ref (X (10 + x1))])).length) Slot.unset).toArray = ls at hl ⊢
  have hl : lv_has ls 3 [(0, .ref (ad 8)), (1, .ref (X (10 + x1)))] := hl
  have hq_x1 := hd.1
  have hd := hd.2
  refine lv_aload_n K.1 K.2.1 dX5_spells_0 rfl (lv_at hl 1 rfl) ?_
  refine rkc_ui (As := []) (rest := []) K KX hw (cd_J0_length_8abf5 l D cy nt ad A X g0 _ x1 hd) lk_X5_19 (vk_recv (adK := fun i => X (10 + i)) (adV := fun i => X (30 + i)) (i := x1) KX.2.2.2.2.2.2.1 hq_x1 hw.2.2) ⟨Nat.le_of_ble_eq_true rfl, Nat.le_of_ble_eq_true rfl⟩ ⟨Nat.zero_le _, Nat.zero_le _⟩ rfl hl.1 (Nat.le_of_ble_eq_true rfl) rfl dX5_spells_1 (fun r_2 g_1 H locs hd hw => ?_)
  refine lv_aload_n K.1 K.2.1 dX5_spells_4 rfl (lv_at hl 0 rfl) ?_
  refine rc_get layX5 (ci := 5) rfl 5 (by decide) (v := .int (g_1 8 5)) K hw (wcd_Tp cy ad _) kf_X5_33 rfl dX5_spells_5 ?_
  refine lv_aload_n K.1 K.2.1 dX5_spells_8 rfl (lv_at hl 0 rfl) ?_
  refine rc_get layX5 (ci := 5) rfl 2 (by decide) (v := .int (g_1 8 2)) K hw (wcd_Tp cy ad _) kf_X5_39 rfl dX5_spells_9 ?_
  refine lv_isub K.1 K.2.1 dX5_spells_12 ?_
  refine lv_icmp_eq (tgt := 18) K.1 K.2.1 dX5_spells_13 (by decide) (fun h_3 => ?_) (fun h_3 => ?_)
  · have hd := hd.1 h_3
    refine lv_iconst (v := (0 : Int32)) K.1 K.2.1 dX5_spells_18 (by decide) ?_
    refine lv_topi (fun x2_4 ex2_4 => ?_)
    have hd := hd x2_4 ex2_4
    refine lv_istore_n (lv' := [(2, .int x2_4), (0, .ref (ad 8)), (1, .ref (X (10 + x1)))]) K.1 K.2.1 dX5_spells_19 rfl hl (by decide) rfl (fun ls hl => ?_)
    obtain ⟨n9, hd⟩ := hd
    exact bd_X5_spells_20 K KX hr   n9 x1 x2_4 g_1 _ _ _ hq_x1 hd hw (lv_sub hl [1, 2, 0] rfl)
  · have hd := hd.2 h_3
    refine lv_iconst (v := (0 : Int32)) K.1 K.2.1 dX5_spells_16 (by decide) ?_
    exact rk_zret K hw hr (by decide) hd dX5_spells_17
set_option maxHeartbeats 4000000 in
set_option maxRecDepth 100000 in
theorem bd_X5_wordAtHand_79 {p : Program} {l : Launch} {e : Env} {s : State} {m : MethodId} {args : Array Value} {below : List Frame} {meth : Method} {c : Code} {D : va_G} {cy : Nat → ClassId} {nt : Nat} {ad : Nat → Nat} {A : Nat → Prop} {X : Nat → Nat} {Q : Int32 → Sg → Prop} (K : Kx p s m args meth c cX5_wordAtHand 2 RX5 D cy) (KX : XC X A s s.heap) (hr : meth.sig.returnType = (some .int))   (t0 : Int32) (g0 : Sg) (H : Heap) (locs : List Loc) (ls : Array Slot) (hd : vv_X5_wordAtHand_J79 nt t0 g0 Q) (hw : Wd D A s.heap (wsD cy ad g0) H locs) (hl : lv_has ls 2 [(0, .ref (ad 8))]) : W p l e (rmD 6) s m args below meth c H locs 0 0 (MQ below (va_Qi Q (PostG (wsD cy ad) D A) A) args s 0 0 A) (F0 m 79 ls [.int t0]) := by
  unfold vv_X5_wordAtHand_J79 at hd
  refine lv_topi (fun x1_19 ex1_19 => ?_)
  have hd := hd x1_19 ex1_19
  refine lv_istore_n (lv' := [(1, .int x1_19), (0, .ref (ad 8))]) K.1 K.2.1 dX5_wordAtHand_79 rfl hl (by decide) rfl (fun ls hl => ?_)
  refine lv_iload_n K.1 K.2.1 dX5_wordAtHand_80 rfl (lv_at hl 0 rfl) ?_
  refine lv_iconst (v := (-1 : Int32)) K.1 K.2.1 dX5_wordAtHand_81 (by decide) ?_
  refine lv_icmp_eq (tgt := 96) K.1 K.2.1 dX5_wordAtHand_82 (by decide) (fun h_20 => ?_) (fun h_20 => ?_)
  · have hd := hd.1 h_20
    refine lv_aload_n K.1 K.2.1 dX5_wordAtHand_96 rfl (lv_at hl 1 rfl) ?_
    refine va_ldcS K.1 K.2.1 K.2.2.2.1 (show vk_R RX5 83 "feels" (X (10 + 7)) s from KX.2.2.2.2.2.2.2.1 7 (by decide)) dX5_wordAtHand_97 ?_
    refine rkc_vi (As := [.ref (X (10 + 7))]) (rest := []) K KX hw (cd_X5_spells l D cy nt ad A X g0 _ 7 hd) lk_X5_69 (ci := 5) rfl (wcd_Tp cy ad _) ⟨Nat.le_of_ble_eq_true rfl, Nat.le_of_ble_eq_true rfl⟩ ⟨Nat.zero_le _, Nat.zero_le _⟩ rfl hl.1 (Nat.le_of_ble_eq_true rfl) rfl dX5_wordAtHand_99 (fun r_22 g_21 H locs hd hw => ?_)
    refine lv_if_eq (tgt := 109) K.1 K.2.1 dX5_wordAtHand_102 (by decide) (fun h_23 => ?_) (fun h_23 => ?_)
    · have hd := hd.1 h_23
      refine lv_aload_n K.1 K.2.1 dX5_wordAtHand_109 rfl (lv_at hl 1 rfl) ?_
      refine va_ldcS K.1 K.2.1 K.2.2.2.1 (show vk_R RX5 85 "weighs" (X (10 + 8)) s from KX.2.2.2.2.2.2.2.1 8 (by decide)) dX5_wordAtHand_110 ?_
      refine rkc_vi (As := [.ref (X (10 + 8))]) (rest := []) K KX hw (cd_X5_spells l D cy nt ad A X g_21 _ 8 hd) lk_X5_69 (ci := 5) rfl (wcd_Tp cy ad _) ⟨Nat.le_of_ble_eq_true rfl, Nat.le_of_ble_eq_true rfl⟩ ⟨Nat.zero_le _, Nat.zero_le _⟩ rfl hl.1 (Nat.le_of_ble_eq_true rfl) rfl dX5_wordAtHand_112 (fun r_25 g_24 H locs hd hw => ?_)
      refine lv_if_eq (tgt := 122) K.1 K.2.1 dX5_wordAtHand_115 (by decide) (fun h_26 => ?_) (fun h_26 => ?_)
      · have hd := hd.1 h_26
        refine lv_aload_n K.1 K.2.1 dX5_wordAtHand_122 rfl (lv_at hl 1 rfl) ?_
        refine va_ldcS K.1 K.2.1 K.2.2.2.1 (show vk_R RX5 87 "smooths" (X (10 + 9)) s from KX.2.2.2.2.2.2.2.1 9 (by decide)) dX5_wordAtHand_123 ?_
        refine rkc_vi (As := [.ref (X (10 + 9))]) (rest := []) K KX hw (cd_X5_spells l D cy nt ad A X g_24 _ 9 hd) lk_X5_69 (ci := 5) rfl (wcd_Tp cy ad _) ⟨Nat.le_of_ble_eq_true rfl, Nat.le_of_ble_eq_true rfl⟩ ⟨Nat.zero_le _, Nat.zero_le _⟩ rfl hl.1 (Nat.le_of_ble_eq_true rfl) rfl dX5_wordAtHand_125 (fun r_28 g_27 H locs hd hw => ?_)
        refine lv_if_eq (tgt := 136) K.1 K.2.1 dX5_wordAtHand_128 (by decide) (fun h_29 => ?_) (fun h_29 => ?_)
        · have hd := hd.1 h_29
          refine lv_aload_n K.1 K.2.1 dX5_wordAtHand_136 rfl (lv_at hl 1 rfl) ?_
          refine va_ldcS K.1 K.2.1 K.2.2.2.1 (show vk_R RX5 89 "or" (X (10 + 10)) s from KX.2.2.2.2.2.2.2.1 10 (by decide)) dX5_wordAtHand_137 ?_
          refine rkc_vi (As := [.ref (X (10 + 10))]) (rest := []) K KX hw (cd_X5_spells l D cy nt ad A X g_27 _ 10 hd) lk_X5_69 (ci := 5) rfl (wcd_Tp cy ad _) ⟨Nat.le_of_ble_eq_true rfl, Nat.le_of_ble_eq_true rfl⟩ ⟨Nat.zero_le _, Nat.zero_le _⟩ rfl hl.1 (Nat.le_of_ble_eq_true rfl) rfl dX5_wordAtHand_139 (fun r_31 g_30 H locs hd hw => ?_)
          refine lv_if_eq (tgt := 150) K.1 K.2.1 dX5_wordAtHand_142 (by decide) (fun h_32 => ?_) (fun h_32 => ?_)
          · have hd := hd.1 h_32
            refine lv_aload_n K.1 K.2.1 dX5_wordAtHand_150 rfl (lv_at hl 1 rfl) ?_
            refine va_ldcS K.1 K.2.1 K.2.2.2.1 (show vk_R RX5 91 "and" (X (10 + 11)) s from KX.2.2.2.2.2.2.2.1 11 (by decide)) dX5_wordAtHand_151 ?_
            refine rkc_vi (As := [.ref (X (10 + 11))]) (rest := []) K KX hw (cd_X5_spells l D cy nt ad A X g_30 _ 11 hd) lk_X5_69 (ci := 5) rfl (wcd_Tp cy ad _) ⟨Nat.le_of_ble_eq_true rfl, Nat.le_of_ble_eq_true rfl⟩ ⟨Nat.zero_le _, Nat.zero_le _⟩ rfl hl.1 (Nat.le_of_ble_eq_true rfl) rfl dX5_wordAtHand_153 (fun r_34 g_33 H locs hd hw => ?_)
            refine lv_if_eq (tgt := 164) K.1 K.2.1 dX5_wordAtHand_156 (by decide) (fun h_35 => ?_) (fun h_35 => ?_)
            · have hd := hd.1 h_35
              refine lv_aload_n K.1 K.2.1 dX5_wordAtHand_164 rfl (lv_at hl 1 rfl) ?_
              refine va_ldcS K.1 K.2.1 K.2.2.2.1 (show vk_R RX5 93 "not" (X (10 + 12)) s from KX.2.2.2.2.2.2.2.1 12 (by decide)) dX5_wordAtHand_165 ?_
              refine rkc_vi (As := [.ref (X (10 + 12))]) (rest := []) K KX hw (cd_X5_spells l D cy nt ad A X g_33 _ 12 hd) lk_X5_69 (ci := 5) rfl (wcd_Tp cy ad _) ⟨Nat.le_of_ble_eq_true rfl, Nat.le_of_ble_eq_true rfl⟩ ⟨Nat.zero_le _, Nat.zero_le _⟩ rfl hl.1 (Nat.le_of_ble_eq_true rfl) rfl dX5_wordAtHand_167 (fun r_37 g_36 H locs hd hw => ?_)
              refine lv_if_eq (tgt := 178) K.1 K.2.1 dX5_wordAtHand_170 (by decide) (fun h_38 => ?_) (fun h_38 => ?_)
              · have hd := hd.1 h_38
                refine lv_iconst (v := (1 : Int32)) K.1 K.2.1 dX5_wordAtHand_178 (by decide) ?_
                exact rk_iret K hw hr hd dX5_wordAtHand_179
              · have hd := hd.2 h_38
                refine lv_bipush (v := (9 : Int32)) K.1 K.2.1 dX5_wordAtHand_173 (by decide) ?_
                refine lv_goto (tgt := 179) K.1 K.2.1 dX5_wordAtHand_175 (by decide) ?_
                exact rk_iret K hw hr hd dX5_wordAtHand_179
            · have hd := hd.2 h_35
              refine lv_bipush (v := (8 : Int32)) K.1 K.2.1 dX5_wordAtHand_159 (by decide) ?_
              refine lv_goto (tgt := 179) K.1 K.2.1 dX5_wordAtHand_161 (by decide) ?_
              exact rk_iret K hw hr hd dX5_wordAtHand_179
          · have hd := hd.2 h_32
            refine lv_bipush (v := (7 : Int32)) K.1 K.2.1 dX5_wordAtHand_145 (by decide) ?_
            refine lv_goto (tgt := 179) K.1 K.2.1 dX5_wordAtHand_147 (by decide) ?_
            exact rk_iret K hw hr hd dX5_wordAtHand_179
        · have hd := hd.2 h_29
          refine lv_bipush (v := (6 : Int32)) K.1 K.2.1 dX5_wordAtHand_131 (by decide) ?_
          refine lv_goto (tgt := 179) K.1 K.2.1 dX5_wordAtHand_133 (by decide) ?_
          exact rk_iret K hw hr hd dX5_wordAtHand_179
      · have hd := hd.2 h_26
        refine lv_iconst (v := (5 : Int32)) K.1 K.2.1 dX5_wordAtHand_118 (by decide) ?_
        refine lv_goto (tgt := 179) K.1 K.2.1 dX5_wordAtHand_119 (by decide) ?_
        exact rk_iret K hw hr hd dX5_wordAtHand_179
    · have hd := hd.2 h_23
      refine lv_iconst (v := (4 : Int32)) K.1 K.2.1 dX5_wordAtHand_105 (by decide) ?_
      refine lv_goto (tgt := 179) K.1 K.2.1 dX5_wordAtHand_106 (by decide) ?_
      exact rk_iret K hw hr hd dX5_wordAtHand_179
  · have hd := hd.2 h_20
    refine lv_aload_n K.1 K.2.1 dX5_wordAtHand_85 rfl (lv_at hl 1 rfl) ?_
    refine lv_sipush (v := (10000 : Int32)) K.1 K.2.1 dX5_wordAtHand_86 (by decide) ?_
    refine lv_iload_n K.1 K.2.1 dX5_wordAtHand_89 rfl (lv_at hl 0 rfl) ?_
    refine lv_iadd K.1 K.2.1 dX5_wordAtHand_90 ?_
    refine rd_put layX5 (ci := 5) rfl tyX5_ok nmX5 4 (by decide) K hw (wcd_Tp cy ad _) kf_X5_42 rfl rfl rfl rfl (Nat.le_of_ble_eq_true rfl) (wpd_Tp_4 cy ad _ _) dX5_wordAtHand_91 (fun g_39 eg_39 H locs hw => ?_)
    have hd := hd g_39 eg_39
    refine lv_iconst (v := (3 : Int32)) K.1 K.2.1 dX5_wordAtHand_94 (by decide) ?_
    exact rk_iret K hw hr hd dX5_wordAtHand_95
set_option maxHeartbeats 4000000 in
set_option maxRecDepth 100000 in
theorem cd_X5_wordAtHand (l : Launch) (D : va_G) (cy : Nat → ClassId) (nt : Nat) (ad : Nat → Nat) (A : Nat → Prop) (X : Nat → Nat)  (g0 : Sg) (Q : Int32 → Sg → Prop)  (hd : vv_X5_wordAtHand nt  g0 Q) : Met l yX5_wordAtHand (Cond.code yX5_wordAtHand cX5_wordAtHand 2 (some .int) :: TT) (rmD 6) (va_Pc [.ref (ad 8)] (PreC (wsD cy ad) D cy A X g0)) (va_Qi Q (PostG (wsD cy ad) D A) A) 0 0 A := by
  unfold vv_X5_wordAtHand at hd
  refine Met.ofW (cc := cX5_wordAtHand) (maxL := 2) (ret := (some .int)) (by decide) rfl ?_
  intro p e s m args below meth c s₁ B hml hv
  obtain ⟨rfl, ⟨hP, hK0, hD⟩, KX⟩ := hv
  have K : Kx p s m _ meth c cX5_wordAtHand 2 RX5 D cy := ⟨B.exec, B.bytes, hml, findClass_of_methodNamed B.named, fun w h => atoms_spec (ws := Cond.code yX5_wordAtHand cX5_wordAtHand 2 (some .int) :: TT) B.pre w (List.mem_cons_of_mem _ h), hK0, B.notSynchronized⟩
  have hw : Wd D A s.heap (wsD cy ad g0) s.heap [] := ⟨hP, hD, va_S.rf⟩
  have hr := B.returns
  have hl := lv_entry ([.ref (ad 8)]) (n := 2) (Nat.le_of_ble_eq_true rfl)
  rw [lg_entry_eq]
  generalize (lg_sl ([.ref (ad 8)]) ++ List.replicate (2 - (lg_sl ([.ref (ad 8)])).length) Slot.unset).toArray = ls at hl ⊢
  have hl : lv_has ls 2 [(0, .ref (ad 8))] := hl
  refine lv_aload_n K.1 K.2.1 dX5_wordAtHand_0 rfl (lv_at hl 0 rfl) ?_
  refine va_ldcS K.1 K.2.1 K.2.2.2.1 (show vk_R RX5 67 "crumpled" (X (10 + 1)) s from KX.2.2.2.2.2.2.2.1 1 (by decide)) dX5_wordAtHand_1 ?_
  refine rkc_vi (As := [.ref (X (10 + 1))]) (rest := []) K KX hw (cd_X5_spells l D cy nt ad A X g0 _ 1 hd) lk_X5_69 (ci := 5) rfl (wcd_Tp cy ad _) ⟨Nat.le_of_ble_eq_true rfl, Nat.le_of_ble_eq_true rfl⟩ ⟨Nat.zero_le _, Nat.zero_le _⟩ rfl hl.1 (Nat.le_of_ble_eq_true rfl) rfl dX5_wordAtHand_3 (fun r_2 g_1 H locs hd hw => ?_)
  refine lv_if_eq (tgt := 13) K.1 K.2.1 dX5_wordAtHand_6 (by decide) (fun h_3 => ?_) (fun h_3 => ?_)
  · have hd := hd.1 h_3
    refine lv_aload_n K.1 K.2.1 dX5_wordAtHand_13 rfl (lv_at hl 0 rfl) ?_
    refine va_ldcS K.1 K.2.1 K.2.2.2.1 (show vk_R RX5 73 "number" (X (10 + 2)) s from KX.2.2.2.2.2.2.2.1 2 (by decide)) dX5_wordAtHand_14 ?_
    refine rkc_vi (As := [.ref (X (10 + 2))]) (rest := []) K KX hw (cd_X5_spells l D cy nt ad A X g_1 _ 2 hd) lk_X5_69 (ci := 5) rfl (wcd_Tp cy ad _) ⟨Nat.le_of_ble_eq_true rfl, Nat.le_of_ble_eq_true rfl⟩ ⟨Nat.zero_le _, Nat.zero_le _⟩ rfl hl.1 (Nat.le_of_ble_eq_true rfl) rfl dX5_wordAtHand_16 (fun r_5 g_4 H locs hd hw => ?_)
    refine lv_if_eq (tgt := 26) K.1 K.2.1 dX5_wordAtHand_19 (by decide) (fun h_6 => ?_) (fun h_6 => ?_)
    · have hd := hd.1 h_6
      refine lv_aload_n K.1 K.2.1 dX5_wordAtHand_26 rfl (lv_at hl 0 rfl) ?_
      refine va_ldcS K.1 K.2.1 K.2.2.2.1 (show vk_R RX5 75 "topic" (X (10 + 3)) s from KX.2.2.2.2.2.2.2.1 3 (by decide)) dX5_wordAtHand_27 ?_
      refine rkc_vi (As := [.ref (X (10 + 3))]) (rest := []) K KX hw (cd_X5_spells l D cy nt ad A X g_4 _ 3 hd) lk_X5_69 (ci := 5) rfl (wcd_Tp cy ad _) ⟨Nat.le_of_ble_eq_true rfl, Nat.le_of_ble_eq_true rfl⟩ ⟨Nat.zero_le _, Nat.zero_le _⟩ rfl hl.1 (Nat.le_of_ble_eq_true rfl) rfl dX5_wordAtHand_29 (fun r_8 g_7 H locs hd hw => ?_)
      refine lv_if_eq (tgt := 39) K.1 K.2.1 dX5_wordAtHand_32 (by decide) (fun h_9 => ?_) (fun h_9 => ?_)
      · have hd := hd.1 h_9
        refine lv_aload_n K.1 K.2.1 dX5_wordAtHand_39 rfl (lv_at hl 0 rfl) ?_
        refine va_ldcS K.1 K.2.1 K.2.2.2.1 (show vk_R RX5 77 "mood" (X (10 + 4)) s from KX.2.2.2.2.2.2.2.1 4 (by decide)) dX5_wordAtHand_40 ?_
        refine rkc_vi (As := [.ref (X (10 + 4))]) (rest := []) K KX hw (cd_X5_spells l D cy nt ad A X g_7 _ 4 hd) lk_X5_69 (ci := 5) rfl (wcd_Tp cy ad _) ⟨Nat.le_of_ble_eq_true rfl, Nat.le_of_ble_eq_true rfl⟩ ⟨Nat.zero_le _, Nat.zero_le _⟩ rfl hl.1 (Nat.le_of_ble_eq_true rfl) rfl dX5_wordAtHand_42 (fun r_11 g_10 H locs hd hw => ?_)
        refine lv_if_eq (tgt := 52) K.1 K.2.1 dX5_wordAtHand_45 (by decide) (fun h_12 => ?_) (fun h_12 => ?_)
        · have hd := hd.1 h_12
          refine lv_aload_n K.1 K.2.1 dX5_wordAtHand_52 rfl (lv_at hl 0 rfl) ?_
          refine va_ldcS K.1 K.2.1 K.2.2.2.1 (show vk_R RX5 79 "day" (X (10 + 5)) s from KX.2.2.2.2.2.2.2.1 5 (by decide)) dX5_wordAtHand_53 ?_
          refine rkc_vi (As := [.ref (X (10 + 5))]) (rest := []) K KX hw (cd_X5_spells l D cy nt ad A X g_10 _ 5 hd) lk_X5_69 (ci := 5) rfl (wcd_Tp cy ad _) ⟨Nat.le_of_ble_eq_true rfl, Nat.le_of_ble_eq_true rfl⟩ ⟨Nat.zero_le _, Nat.zero_le _⟩ rfl hl.1 (Nat.le_of_ble_eq_true rfl) rfl dX5_wordAtHand_55 (fun r_14 g_13 H locs hd hw => ?_)
          refine lv_if_eq (tgt := 65) K.1 K.2.1 dX5_wordAtHand_58 (by decide) (fun h_15 => ?_) (fun h_15 => ?_)
          · have hd := hd.1 h_15
            refine lv_aload_n K.1 K.2.1 dX5_wordAtHand_65 rfl (lv_at hl 0 rfl) ?_
            refine va_ldcS K.1 K.2.1 K.2.2.2.1 (show vk_R RX5 81 "desk" (X (10 + 6)) s from KX.2.2.2.2.2.2.2.1 6 (by decide)) dX5_wordAtHand_66 ?_
            refine rkc_vi (As := [.ref (X (10 + 6))]) (rest := []) K KX hw (cd_X5_spells l D cy nt ad A X g_13 _ 6 hd) lk_X5_69 (ci := 5) rfl (wcd_Tp cy ad _) ⟨Nat.le_of_ble_eq_true rfl, Nat.le_of_ble_eq_true rfl⟩ ⟨Nat.zero_le _, Nat.zero_le _⟩ rfl hl.1 (Nat.le_of_ble_eq_true rfl) rfl dX5_wordAtHand_68 (fun r_17 g_16 H locs hd hw => ?_)
            refine lv_if_eq (tgt := 78) K.1 K.2.1 dX5_wordAtHand_71 (by decide) (fun h_18 => ?_) (fun h_18 => ?_)
            · have hd := hd.1 h_18
              refine lv_iconst (v := (-1 : Int32)) K.1 K.2.1 dX5_wordAtHand_78 (by decide) ?_
              exact bd_X5_wordAtHand_79 K KX hr   (-1 : Int32) g_16 _ _ _  hd hw (lv_sub hl [0] rfl)
            · have hd := hd.2 h_18
              refine lv_iconst (v := (5 : Int32)) K.1 K.2.1 dX5_wordAtHand_74 (by decide) ?_
              refine lv_goto (tgt := 79) K.1 K.2.1 dX5_wordAtHand_75 (by decide) ?_
              exact bd_X5_wordAtHand_79 K KX hr   (5 : Int32) g_16 _ _ _  hd hw (lv_sub hl [0] rfl)
          · have hd := hd.2 h_15
            refine lv_iconst (v := (4 : Int32)) K.1 K.2.1 dX5_wordAtHand_61 (by decide) ?_
            refine lv_goto (tgt := 79) K.1 K.2.1 dX5_wordAtHand_62 (by decide) ?_
            exact bd_X5_wordAtHand_79 K KX hr   (4 : Int32) g_13 _ _ _  hd hw (lv_sub hl [0] rfl)
        · have hd := hd.2 h_12
          refine lv_iconst (v := (3 : Int32)) K.1 K.2.1 dX5_wordAtHand_48 (by decide) ?_
          refine lv_goto (tgt := 79) K.1 K.2.1 dX5_wordAtHand_49 (by decide) ?_
          exact bd_X5_wordAtHand_79 K KX hr   (3 : Int32) g_10 _ _ _  hd hw (lv_sub hl [0] rfl)
      · have hd := hd.2 h_9
        refine lv_iconst (v := (2 : Int32)) K.1 K.2.1 dX5_wordAtHand_35 (by decide) ?_
        refine lv_goto (tgt := 79) K.1 K.2.1 dX5_wordAtHand_36 (by decide) ?_
        exact bd_X5_wordAtHand_79 K KX hr   (2 : Int32) g_7 _ _ _  hd hw (lv_sub hl [0] rfl)
    · have hd := hd.2 h_6
      refine lv_iconst (v := (1 : Int32)) K.1 K.2.1 dX5_wordAtHand_22 (by decide) ?_
      refine lv_goto (tgt := 79) K.1 K.2.1 dX5_wordAtHand_23 (by decide) ?_
      exact bd_X5_wordAtHand_79 K KX hr   (1 : Int32) g_4 _ _ _  hd hw (lv_sub hl [0] rfl)
  · have hd := hd.2 h_3
    refine lv_iconst (v := (0 : Int32)) K.1 K.2.1 dX5_wordAtHand_9 (by decide) ?_
    refine lv_goto (tgt := 79) K.1 K.2.1 dX5_wordAtHand_10 (by decide) ?_
    exact bd_X5_wordAtHand_79 K KX hr   (0 : Int32) g_1 _ _ _  hd hw (lv_sub hl [0] rfl)
set_option maxHeartbeats 4000000 in
set_option maxRecDepth 100000 in
theorem cd_X5_isDigit (l : Launch) (D : va_G) (cy : Nat → ClassId) (nt : Nat) (ad : Nat → Nat) (A : Nat → Prop) (X : Nat → Nat)  (g0 : Sg) (Q : Int32 → Sg → Prop) (x0 : Int32) (hd : vv_X5_isDigit nt x0 g0 Q) : Met l yX5_isDigit (Cond.code yX5_isDigit cX5_isDigit 1 (some .boolean) :: TT) (rmD 1) (va_Pc [.int x0] (PreC (wsD cy ad) D cy A X g0)) (va_Qi Q (PostG (wsD cy ad) D A) A) 0 0 A := by
  unfold vv_X5_isDigit at hd
  refine Met.ofW (cc := cX5_isDigit) (maxL := 1) (ret := (some .boolean)) (by decide) rfl ?_
  intro p e s m args below meth c s₁ B hml hv
  obtain ⟨rfl, ⟨hP, hK0, hD⟩, KX⟩ := hv
  have K : Kx p s m _ meth c cX5_isDigit 1 RX5 D cy := ⟨B.exec, B.bytes, hml, findClass_of_methodNamed B.named, fun w h => atoms_spec (ws := Cond.code yX5_isDigit cX5_isDigit 1 (some .boolean) :: TT) B.pre w (List.mem_cons_of_mem _ h), hK0, B.notSynchronized⟩
  have hw : Wd D A s.heap (wsD cy ad g0) s.heap [] := ⟨hP, hD, va_S.rf⟩
  have hr := B.returns
  have hl := lv_entry ([.int x0]) (n := 1) (Nat.le_of_ble_eq_true rfl)
  rw [lg_entry_eq]
  generalize (lg_sl ([.int x0]) ++ List.replicate (1 - (lg_sl ([.int x0])).length) Slot.unset).toArray = ls at hl ⊢
  have hl : lv_has ls 1 [(0, .int x0)] := hl
  refine lv_iload_n K.1 K.2.1 dX5_isDigit_0 rfl (lv_at hl 0 rfl) ?_
  refine lv_bipush (v := (48 : Int32)) K.1 K.2.1 dX5_isDigit_1 (by decide) ?_
  refine lv_icmp_lt (tgt := 16) K.1 K.2.1 dX5_isDigit_3 (by decide) (fun h_1 => ?_) (fun h_1 => ?_)
  · have hd := hd.1 h_1
    refine lv_iconst (v := (0 : Int32)) K.1 K.2.1 dX5_isDigit_16 (by decide) ?_
    exact rk_zret K hw hr (by decide) hd dX5_isDigit_17
  · have hd := hd.2 h_1
    refine lv_iload_n K.1 K.2.1 dX5_isDigit_6 rfl (lv_at hl 0 rfl) ?_
    refine lv_bipush (v := (57 : Int32)) K.1 K.2.1 dX5_isDigit_7 (by decide) ?_
    refine lv_icmp_gt (tgt := 16) K.1 K.2.1 dX5_isDigit_9 (by decide) (fun h_2 => ?_) (fun h_2 => ?_)
    · have hd := hd.1 h_2
      refine lv_iconst (v := (0 : Int32)) K.1 K.2.1 dX5_isDigit_16 (by decide) ?_
      exact rk_zret K hw hr (by decide) hd dX5_isDigit_17
    · have hd := hd.2 h_2
      refine lv_iconst (v := (1 : Int32)) K.1 K.2.1 dX5_isDigit_12 (by decide) ?_
      refine lv_goto (tgt := 17) K.1 K.2.1 dX5_isDigit_13 (by decide) ?_
      exact rk_zret K hw hr (by decide) hd dX5_isDigit_17
set_option maxHeartbeats 4000000 in
set_option maxRecDepth 100000 in
theorem bd_X5_takeNumber_82 {p : Program} {l : Launch} {e : Env} {s : State} {m : MethodId} {args : Array Value} {below : List Frame} {meth : Method} {c : Code} {D : va_G} {cy : Nat → ClassId} {nt : Nat} {ad : Nat → Nat} {A : Nat → Prop} {X : Nat → Nat} {Q : Sg → Prop} (K : Kx p s m args meth c cX5_takeNumber 1 RX5 D cy) (KX : XC X A s s.heap) (hr : meth.sig.returnType = none)   (t1 : Int32) (g0 : Sg) (H : Heap) (locs : List Loc) (ls : Array Slot) (hd : vv_X5_takeNumber_J82 nt t1 g0 Q) (hw : Wd D A s.heap (wsD cy ad g0) H locs) (hl : lv_has ls 1 []) : W p l e (rmD 2) s m args below meth c H locs 0 0 (MQ below (va_Qv Q (PostG (wsD cy ad) D A) A) args s 0 0 A) (F0 m 82 ls [.int t1, .ref (ad 8)]) := by
  unfold vv_X5_takeNumber_J82 at hd
  refine rd_put layX5 (ci := 5) rfl tyX5_ok nmX5 3 (by decide) K hw (wcd_Tp cy ad _) kf_X5_45 rfl rfl rfl rfl (Nat.le_of_ble_eq_true rfl) (wpd_Tp_3 cy ad _ _) dX5_takeNumber_82 (fun g_3 eg_3 H locs hw => ?_)
  have hd := hd g_3 eg_3
  exact rk_vret K hw hr hd dX5_takeNumber_85
set_option maxHeartbeats 4000000 in
set_option maxRecDepth 100000 in
theorem bd_X5_takeNumber_63 {p : Program} {l : Launch} {e : Env} {s : State} {m : MethodId} {args : Array Value} {below : List Frame} {meth : Method} {c : Code} {D : va_G} {cy : Nat → ClassId} {nt : Nat} {ad : Nat → Nat} {A : Nat → Prop} {X : Nat → Nat} {Q : Sg → Prop} (K : Kx p s m args meth c cX5_takeNumber 1 RX5 D cy) (KX : XC X A s s.heap) (hr : meth.sig.returnType = none)    (g0 : Sg) (H : Heap) (locs : List Loc) (ls : Array Slot) (hd : vv_X5_takeNumber_J63 nt g0 Q) (hw : Wd D A s.heap (wsD cy ad g0) H locs) (hl : lv_has ls 1 [(0, .ref (ad 8))]) : W p l e (rmD 2) s m args below meth c H locs 0 0 (MQ below (va_Qv Q (PostG (wsD cy ad) D A) A) args s 0 0 A) (F0 m 63 ls []) := by
  unfold vv_X5_takeNumber_J63 at hd
  refine lv_aload_n K.1 K.2.1 dX5_takeNumber_63 rfl (lv_at hl 0 rfl) ?_
  refine lv_aload_n K.1 K.2.1 dX5_takeNumber_64 rfl (lv_at hl 0 rfl) ?_
  refine rc_get layX5 (ci := 5) rfl 5 (by decide) (v := .int (g0 8 5)) K hw (wcd_Tp cy ad _) kf_X5_33 rfl dX5_takeNumber_65 ?_
  refine lv_aload_n K.1 K.2.1 dX5_takeNumber_68 rfl (lv_at hl 0 rfl) ?_
  refine rc_get layX5 (ci := 5) rfl 2 (by decide) (v := .int (g0 8 2)) K hw (wcd_Tp cy ad _) kf_X5_39 rfl dX5_takeNumber_69 ?_
  refine lv_isub K.1 K.2.1 dX5_takeNumber_72 ?_
  refine lv_iconst (v := (4 : Int32)) K.1 K.2.1 dX5_takeNumber_73 (by decide) ?_
  refine lv_icmp_le (tgt := 81) K.1 K.2.1 dX5_takeNumber_74 (by decide) (fun h_2 => ?_) (fun h_2 => ?_)
  · have hd := hd.1 h_2
    refine lv_iconst (v := (2 : Int32)) K.1 K.2.1 dX5_takeNumber_81 (by decide) ?_
    exact bd_X5_takeNumber_82 K KX hr   (2 : Int32) g0 _ _ _  hd hw (lv_sub hl [] rfl)
  · have hd := hd.2 h_2
    refine lv_iconst (v := (1 : Int32)) K.1 K.2.1 dX5_takeNumber_77 (by decide) ?_
    refine lv_goto (tgt := 82) K.1 K.2.1 dX5_takeNumber_78 (by decide) ?_
    exact bd_X5_takeNumber_82 K KX hr   (1 : Int32) g0 _ _ _  hd hw (lv_sub hl [] rfl)
set_option maxHeartbeats 4000000 in
set_option maxRecDepth 100000 in
theorem bd_X5_takeNumber_0 {p : Program} {l : Launch} {e : Env} {s : State} {m : MethodId} {args : Array Value} {below : List Frame} {meth : Method} {c : Code} {D : va_G} {cy : Nat → ClassId} {nt : Nat} {ad : Nat → Nat} {A : Nat → Prop} {X : Nat → Nat} {Q : Sg → Prop} (K : Kx p s m args meth c cX5_takeNumber 1 RX5 D cy) (KX : XC X A s s.heap) (hr : meth.sig.returnType = none)  : ∀ (n : Nat)   (g0 : Sg) (H : Heap) (locs : List Loc) (ls : Array Slot), vv_X5_takeNumber_L0 nt Q n  g0 → Wd D A s.heap (wsD cy ad g0) H locs → lv_has ls 1 [(0, .ref (ad 8))] → W p l e (rmD 2) s m args below meth c H locs 0 0 (MQ below (va_Qv Q (PostG (wsD cy ad) D A) A) args s 0 0 A) (F0 m 0 ls []) := by
  intro n
  induction n with
  | zero => intro _ _ _ _ hd; exact hd.elim
  | succ n ih =>
    intro  g0 H locs ls  hd hw hl
    unfold vv_X5_takeNumber_L0 at hd
    refine lv_aload_n K.1 K.2.1 dX5_takeNumber_0 rfl (lv_at hl 0 rfl) ?_
    refine rc_get layX5 (ci := 5) rfl 5 (by decide) (v := .int (g0 8 5)) K hw (wcd_Tp cy ad _) kf_X5_33 rfl dX5_takeNumber_1 ?_
    refine lv_aload_n K.1 K.2.1 dX5_takeNumber_4 rfl (lv_at hl 0 rfl) ?_
    refine rc_get layX5 (ci := 5) rfl 1 (by decide) (v := .int (g0 8 1)) K hw (wcd_Tp cy ad _) kf_X5_15 rfl dX5_takeNumber_5 ?_
    refine lv_icmp_ge (tgt := 63) K.1 K.2.1 dX5_takeNumber_8 (by decide) (fun h_1 => ?_) (fun h_1 => ?_)
    · have hd := hd.1 h_1
      exact bd_X5_takeNumber_63 K KX hr    g0 _ _ _  hd hw (lv_sub hl [0] rfl)
    · have hd := hd.2 h_1
      refine lv_aload_n K.1 K.2.1 dX5_takeNumber_11 rfl (lv_at hl 0 rfl) ?_
      refine rc_get layX5 (ci := 5) rfl 0 (by decide) (v := .ref (ad 9)) K hw (wcd_Tp cy ad _) kf_X5_9 rfl dX5_takeNumber_12 ?_
      refine lv_aload_n K.1 K.2.1 dX5_takeNumber_15 rfl (lv_at hl 0 rfl) ?_
      refine rc_get layX5 (ci := 5) rfl 5 (by decide) (v := .int (g0 8 5)) K hw (wcd_Tp cy ad _) kf_X5_33 rfl dX5_takeNumber_16 ?_
      have hb := hd.1
      have hd := hd.2
      refine rc_iald K hw (wcd_9 cy ad _) hb dX5_takeNumber_19 ?_
      refine rkc_si (As := [.int (g0 9 (g0 8 5).toNatClampNeg)]) (rest := []) K KX hw (cd_X5_isDigit l D cy nt ad A X g0 _ (g0 9 (g0 8 5).toNatClampNeg) hd) lk_X5_58 ⟨Nat.le_of_ble_eq_true rfl, Nat.le_of_ble_eq_true rfl⟩ ⟨Nat.zero_le _, Nat.zero_le _⟩ rfl hl.1 (Nat.le_of_ble_eq_true rfl) rfl dX5_takeNumber_20 (fun r_5 g_4 H locs hd hw => ?_)
      refine lv_if_eq (tgt := 63) K.1 K.2.1 dX5_takeNumber_23 (by decide) (fun h_6 => ?_) (fun h_6 => ?_)
      · have hd := hd.1 h_6
        exact bd_X5_takeNumber_63 K KX hr    g_4 _ _ _  hd hw (lv_sub hl [0] rfl)
      · have hd := hd.2 h_6
        refine lv_aload_n K.1 K.2.1 dX5_takeNumber_26 rfl (lv_at hl 0 rfl) ?_
        refine lv_aload_n K.1 K.2.1 dX5_takeNumber_27 rfl (lv_at hl 0 rfl) ?_
        refine rc_get layX5 (ci := 5) rfl 4 (by decide) (v := .int (g_4 8 4)) K hw (wcd_Tp cy ad _) kf_X5_42 rfl dX5_takeNumber_28 ?_
        refine lv_bipush (v := (10 : Int32)) K.1 K.2.1 dX5_takeNumber_31 (by decide) ?_
        refine lv_imul K.1 K.2.1 dX5_takeNumber_33 ?_
        refine lv_aload_n K.1 K.2.1 dX5_takeNumber_34 rfl (lv_at hl 0 rfl) ?_
        refine rc_get layX5 (ci := 5) rfl 0 (by decide) (v := .ref (ad 9)) K hw (wcd_Tp cy ad _) kf_X5_9 rfl dX5_takeNumber_35 ?_
        refine lv_aload_n K.1 K.2.1 dX5_takeNumber_38 rfl (lv_at hl 0 rfl) ?_
        refine rc_get layX5 (ci := 5) rfl 5 (by decide) (v := .int (g_4 8 5)) K hw (wcd_Tp cy ad _) kf_X5_33 rfl dX5_takeNumber_39 ?_
        have hb := hd.1
        have hd := hd.2
        refine rc_iald K hw (wcd_9 cy ad _) hb dX5_takeNumber_42 ?_
        refine lv_iadd K.1 K.2.1 dX5_takeNumber_43 ?_
        refine lv_bipush (v := (48 : Int32)) K.1 K.2.1 dX5_takeNumber_44 (by decide) ?_
        refine lv_isub K.1 K.2.1 dX5_takeNumber_46 ?_
        refine rd_put layX5 (ci := 5) rfl tyX5_ok nmX5 4 (by decide) K hw (wcd_Tp cy ad _) kf_X5_42 rfl rfl rfl rfl (Nat.le_of_ble_eq_true rfl) (wpd_Tp_4 cy ad _ _) dX5_takeNumber_47 (fun g_7 eg_7 H locs hw => ?_)
        have hd := hd g_7 eg_7
        refine lv_aload_n K.1 K.2.1 dX5_takeNumber_50 rfl (lv_at hl 0 rfl) ?_
        refine lv_dup K.1 K.2.1 dX5_takeNumber_51 rfl ?_
        refine rc_get layX5 (ci := 5) rfl 5 (by decide) (v := .int (g_7 8 5)) K hw (wcd_Tp cy ad _) kf_X5_33 rfl dX5_takeNumber_52 ?_
        refine lv_iconst (v := (1 : Int32)) K.1 K.2.1 dX5_takeNumber_55 (by decide) ?_
        refine lv_iadd K.1 K.2.1 dX5_takeNumber_56 ?_
        refine rd_put layX5 (ci := 5) rfl tyX5_ok nmX5 5 (by decide) K hw (wcd_Tp cy ad _) kf_X5_33 rfl rfl rfl rfl (Nat.le_of_ble_eq_true rfl) (wpd_Tp_5 cy ad _ _) dX5_takeNumber_57 (fun g_8 eg_8 H locs hw => ?_)
        have hd := hd g_8 eg_8
        refine lv_goto (tgt := 0) K.1 K.2.1 dX5_takeNumber_60 (by decide) ?_
        exact ih  g_8 _ _ _  hd hw (lv_sub hl [0] rfl)
set_option maxHeartbeats 4000000 in
set_option maxRecDepth 100000 in
theorem cd_X5_takeNumber (l : Launch) (D : va_G) (cy : Nat → ClassId) (nt : Nat) (ad : Nat → Nat) (A : Nat → Prop) (X : Nat → Nat)  (g0 : Sg) (Q : Sg → Prop)  (hd : vv_X5_takeNumber nt  g0 Q) : Met l yX5_takeNumber (Cond.code yX5_takeNumber cX5_takeNumber 1 none :: TT) (rmD 2) (va_Pc [.ref (ad 8)] (PreC (wsD cy ad) D cy A X g0)) (va_Qv Q (PostG (wsD cy ad) D A) A) 0 0 A := by
  unfold vv_X5_takeNumber at hd
  refine Met.ofW (cc := cX5_takeNumber) (maxL := 1) (ret := none) (by decide) rfl ?_
  intro p e s m args below meth c s₁ B hml hv
  obtain ⟨rfl, ⟨hP, hK0, hD⟩, KX⟩ := hv
  have K : Kx p s m _ meth c cX5_takeNumber 1 RX5 D cy := ⟨B.exec, B.bytes, hml, findClass_of_methodNamed B.named, fun w h => atoms_spec (ws := Cond.code yX5_takeNumber cX5_takeNumber 1 none :: TT) B.pre w (List.mem_cons_of_mem _ h), hK0, B.notSynchronized⟩
  have hw : Wd D A s.heap (wsD cy ad g0) s.heap [] := ⟨hP, hD, va_S.rf⟩
  have hr := B.returns
  have hl := lv_entry ([.ref (ad 8)]) (n := 1) (Nat.le_of_ble_eq_true rfl)
  rw [lg_entry_eq]
  generalize (lg_sl ([.ref (ad 8)]) ++ List.replicate (1 - (lg_sl ([.ref (ad 8)])).length) Slot.unset).toArray = ls at hl ⊢
  have hl : lv_has ls 1 [(0, .ref (ad 8))] := hl
  obtain ⟨n9, hd⟩ := hd
  exact bd_X5_takeNumber_0 K KX hr   n9  g0 _ _ _  hd hw (lv_sub hl [0] rfl)
set_option maxHeartbeats 4000000 in
set_option maxRecDepth 100000 in
theorem bd_X5_isSign_48 {p : Program} {l : Launch} {e : Env} {s : State} {m : MethodId} {args : Array Value} {below : List Frame} {meth : Method} {c : Code} {D : va_G} {cy : Nat → ClassId} {nt : Nat} {ad : Nat → Nat} {A : Nat → Prop} {X : Nat → Nat} {Q : Int32 → Sg → Prop} (K : Kx p s m args meth c cX5_isSign 1 RX5 D cy) (KX : XC X A s s.heap) (hr : meth.sig.returnType = (some .boolean))    (g0 : Sg) (H : Heap) (locs : List Loc) (ls : Array Slot) (hd : vv_X5_isSign_J48 nt g0 Q) (hw : Wd D A s.heap (wsD cy ad g0) H locs) (hl : lv_has ls 1 []) : W p l e (rmD 1) s m args below meth c H locs 0 0 (MQ below (va_Qi Q (PostG (wsD cy ad) D A) A) args s 0 0 A) (F0 m 48 ls []) := by
  unfold vv_X5_isSign_J48 at hd
  refine lv_iconst (v := (1 : Int32)) K.1 K.2.1 dX5_isSign_48 (by decide) ?_
  refine lv_goto (tgt := 53) K.1 K.2.1 dX5_isSign_49 (by decide) ?_
  exact rk_zret K hw hr (by decide) hd dX5_isSign_53
set_option maxHeartbeats 4000000 in
set_option maxRecDepth 100000 in
theorem cd_X5_isSign (l : Launch) (D : va_G) (cy : Nat → ClassId) (nt : Nat) (ad : Nat → Nat) (A : Nat → Prop) (X : Nat → Nat)  (g0 : Sg) (Q : Int32 → Sg → Prop) (x0 : Int32) (hd : vv_X5_isSign nt x0 g0 Q) : Met l yX5_isSign (Cond.code yX5_isSign cX5_isSign 1 (some .boolean) :: TT) (rmD 1) (va_Pc [.int x0] (PreC (wsD cy ad) D cy A X g0)) (va_Qi Q (PostG (wsD cy ad) D A) A) 0 0 A := by
  unfold vv_X5_isSign at hd
  refine Met.ofW (cc := cX5_isSign) (maxL := 1) (ret := (some .boolean)) (by decide) rfl ?_
  intro p e s m args below meth c s₁ B hml hv
  obtain ⟨rfl, ⟨hP, hK0, hD⟩, KX⟩ := hv
  have K : Kx p s m _ meth c cX5_isSign 1 RX5 D cy := ⟨B.exec, B.bytes, hml, findClass_of_methodNamed B.named, fun w h => atoms_spec (ws := Cond.code yX5_isSign cX5_isSign 1 (some .boolean) :: TT) B.pre w (List.mem_cons_of_mem _ h), hK0, B.notSynchronized⟩
  have hw : Wd D A s.heap (wsD cy ad g0) s.heap [] := ⟨hP, hD, va_S.rf⟩
  have hr := B.returns
  have hl := lv_entry ([.int x0]) (n := 1) (Nat.le_of_ble_eq_true rfl)
  rw [lg_entry_eq]
  generalize (lg_sl ([.int x0]) ++ List.replicate (1 - (lg_sl ([.int x0])).length) Slot.unset).toArray = ls at hl ⊢
  have hl : lv_has ls 1 [(0, .int x0)] := hl
  refine lv_iload_n K.1 K.2.1 dX5_isSign_0 rfl (lv_at hl 0 rfl) ?_
  refine lv_bipush (v := (40 : Int32)) K.1 K.2.1 dX5_isSign_1 (by decide) ?_
  refine lv_icmp_eq (tgt := 48) K.1 K.2.1 dX5_isSign_3 (by decide) (fun h_1 => ?_) (fun h_1 => ?_)
  · have hd := hd.1 h_1
    exact bd_X5_isSign_48 K KX hr    g0 _ _ _  hd hw (lv_sub hl [] rfl)
  · have hd := hd.2 h_1
    refine lv_iload_n K.1 K.2.1 dX5_isSign_6 rfl (lv_at hl 0 rfl) ?_
    refine lv_bipush (v := (41 : Int32)) K.1 K.2.1 dX5_isSign_7 (by decide) ?_
    refine lv_icmp_eq (tgt := 48) K.1 K.2.1 dX5_isSign_9 (by decide) (fun h_2 => ?_) (fun h_2 => ?_)
    · have hd := hd.1 h_2
      exact bd_X5_isSign_48 K KX hr    g0 _ _ _  hd hw (lv_sub hl [] rfl)
    · have hd := hd.2 h_2
      refine lv_iload_n K.1 K.2.1 dX5_isSign_12 rfl (lv_at hl 0 rfl) ?_
      refine lv_bipush (v := (59 : Int32)) K.1 K.2.1 dX5_isSign_13 (by decide) ?_
      refine lv_icmp_eq (tgt := 48) K.1 K.2.1 dX5_isSign_15 (by decide) (fun h_3 => ?_) (fun h_3 => ?_)
      · have hd := hd.1 h_3
        exact bd_X5_isSign_48 K KX hr    g0 _ _ _  hd hw (lv_sub hl [] rfl)
      · have hd := hd.2 h_3
        refine lv_iload_n K.1 K.2.1 dX5_isSign_18 rfl (lv_at hl 0 rfl) ?_
        refine lv_bipush (v := (43 : Int32)) K.1 K.2.1 dX5_isSign_19 (by decide) ?_
        refine lv_icmp_eq (tgt := 48) K.1 K.2.1 dX5_isSign_21 (by decide) (fun h_4 => ?_) (fun h_4 => ?_)
        · have hd := hd.1 h_4
          exact bd_X5_isSign_48 K KX hr    g0 _ _ _  hd hw (lv_sub hl [] rfl)
        · have hd := hd.2 h_4
          refine lv_iload_n K.1 K.2.1 dX5_isSign_24 rfl (lv_at hl 0 rfl) ?_
          refine lv_bipush (v := (45 : Int32)) K.1 K.2.1 dX5_isSign_25 (by decide) ?_
          refine lv_icmp_eq (tgt := 48) K.1 K.2.1 dX5_isSign_27 (by decide) (fun h_5 => ?_) (fun h_5 => ?_)
          · have hd := hd.1 h_5
            exact bd_X5_isSign_48 K KX hr    g0 _ _ _  hd hw (lv_sub hl [] rfl)
          · have hd := hd.2 h_5
            refine lv_iload_n K.1 K.2.1 dX5_isSign_30 rfl (lv_at hl 0 rfl) ?_
            refine lv_bipush (v := (42 : Int32)) K.1 K.2.1 dX5_isSign_31 (by decide) ?_
            refine lv_icmp_eq (tgt := 48) K.1 K.2.1 dX5_isSign_33 (by decide) (fun h_6 => ?_) (fun h_6 => ?_)
            · have hd := hd.1 h_6
              exact bd_X5_isSign_48 K KX hr    g0 _ _ _  hd hw (lv_sub hl [] rfl)
            · have hd := hd.2 h_6
              refine lv_iload_n K.1 K.2.1 dX5_isSign_36 rfl (lv_at hl 0 rfl) ?_
              refine lv_bipush (v := (60 : Int32)) K.1 K.2.1 dX5_isSign_37 (by decide) ?_
              refine lv_icmp_eq (tgt := 48) K.1 K.2.1 dX5_isSign_39 (by decide) (fun h_7 => ?_) (fun h_7 => ?_)
              · have hd := hd.1 h_7
                exact bd_X5_isSign_48 K KX hr    g0 _ _ _  hd hw (lv_sub hl [] rfl)
              · have hd := hd.2 h_7
                refine lv_iload_n K.1 K.2.1 dX5_isSign_42 rfl (lv_at hl 0 rfl) ?_
                refine lv_bipush (v := (61 : Int32)) K.1 K.2.1 dX5_isSign_43 (by decide) ?_
                refine lv_icmp_ne (tgt := 52) K.1 K.2.1 dX5_isSign_45 (by decide) (fun h_8 => ?_) (fun h_8 => ?_)
                · have hd := hd.1 h_8
                  refine lv_iconst (v := (0 : Int32)) K.1 K.2.1 dX5_isSign_52 (by decide) ?_
                  exact rk_zret K hw hr (by decide) hd dX5_isSign_53
                · have hd := hd.2 h_8
                  exact bd_X5_isSign_48 K KX hr    g0 _ _ _  hd hw (lv_sub hl [] rfl)
set_option maxHeartbeats 4000000 in
set_option maxRecDepth 100000 in
theorem bd_X5_advance_141 {p : Program} {l : Launch} {e : Env} {s : State} {m : MethodId} {args : Array Value} {below : List Frame} {meth : Method} {c : Code} {D : va_G} {cy : Nat → ClassId} {nt : Nat} {ad : Nat → Nat} {A : Nat → Prop} {X : Nat → Nat} {Q : Sg → Prop} (K : Kx p s m args meth c cX5_advance 2 RX5 D cy) (KX : XC X A s s.heap) (hr : meth.sig.returnType = none)   (t1 : Int32) (g0 : Sg) (H : Heap) (locs : List Loc) (ls : Array Slot) (hd : vv_X5_advance_J141 nt t1 g0 Q) (hw : Wd D A s.heap (wsD cy ad g0) H locs) (hl : lv_has ls 2 [(0, .ref (ad 8))]) : W p l e (rmD 7) s m args below meth c H locs 0 0 (MQ below (va_Qv Q (PostG (wsD cy ad) D A) A) args s 0 0 A) (F0 m 141 ls [.int t1, .ref (ad 8)]) := by
  unfold vv_X5_advance_J141 at hd
  refine rd_put layX5 (ci := 5) rfl tyX5_ok nmX5 3 (by decide) K hw (wcd_Tp cy ad _) kf_X5_45 rfl rfl rfl rfl (Nat.le_of_ble_eq_true rfl) (wpd_Tp_3 cy ad _ _) dX5_advance_141 (fun g_15 eg_15 H locs hw => ?_)
  have hd := hd g_15 eg_15
  refine lv_aload_n K.1 K.2.1 dX5_advance_144 rfl (lv_at hl 0 rfl) ?_
  refine lv_dup K.1 K.2.1 dX5_advance_145 rfl ?_
  refine rc_get layX5 (ci := 5) rfl 5 (by decide) (v := .int (g_15 8 5)) K hw (wcd_Tp cy ad _) kf_X5_33 rfl dX5_advance_146 ?_
  refine lv_iconst (v := (1 : Int32)) K.1 K.2.1 dX5_advance_149 (by decide) ?_
  refine lv_iadd K.1 K.2.1 dX5_advance_150 ?_
  refine rd_put layX5 (ci := 5) rfl tyX5_ok nmX5 5 (by decide) K hw (wcd_Tp cy ad _) kf_X5_33 rfl rfl rfl rfl (Nat.le_of_ble_eq_true rfl) (wpd_Tp_5 cy ad _ _) dX5_advance_151 (fun g_16 eg_16 H locs hw => ?_)
  have hd := hd g_16 eg_16
  exact rk_vret K hw hr hd dX5_advance_154
set_option maxHeartbeats 4000000 in
set_option maxRecDepth 100000 in
theorem bd_X5_advance_52 {p : Program} {l : Launch} {e : Env} {s : State} {m : MethodId} {args : Array Value} {below : List Frame} {meth : Method} {c : Code} {D : va_G} {cy : Nat → ClassId} {nt : Nat} {ad : Nat → Nat} {A : Nat → Prop} {X : Nat → Nat} {Q : Sg → Prop} (K : Kx p s m args meth c cX5_advance 2 RX5 D cy) (KX : XC X A s s.heap) (hr : meth.sig.returnType = none)    (g0 : Sg) (H : Heap) (locs : List Loc) (ls : Array Slot) (hd : vv_X5_advance_J52 nt g0 Q) (hw : Wd D A s.heap (wsD cy ad g0) H locs) (hl : lv_has ls 2 [(0, .ref (ad 8))]) : W p l e (rmD 7) s m args below meth c H locs 0 0 (MQ below (va_Qv Q (PostG (wsD cy ad) D A) A) args s 0 0 A) (F0 m 52 ls []) := by
  unfold vv_X5_advance_J52 at hd
  refine lv_aload_n K.1 K.2.1 dX5_advance_52 rfl (lv_at hl 0 rfl) ?_
  refine lv_aload_n K.1 K.2.1 dX5_advance_53 rfl (lv_at hl 0 rfl) ?_
  refine rc_get layX5 (ci := 5) rfl 5 (by decide) (v := .int (g0 8 5)) K hw (wcd_Tp cy ad _) kf_X5_33 rfl dX5_advance_54 ?_
  refine rd_put layX5 (ci := 5) rfl tyX5_ok nmX5 2 (by decide) K hw (wcd_Tp cy ad _) kf_X5_39 rfl rfl rfl rfl (Nat.le_of_ble_eq_true rfl) (wpd_Tp_2 cy ad _ _) dX5_advance_57 (fun g_2 eg_2 H locs hw => ?_)
  have hd := hd g_2 eg_2
  refine lv_aload_n K.1 K.2.1 dX5_advance_60 rfl (lv_at hl 0 rfl) ?_
  refine lv_iconst (v := (0 : Int32)) K.1 K.2.1 dX5_advance_61 (by decide) ?_
  refine rd_put layX5 (ci := 5) rfl tyX5_ok nmX5 4 (by decide) K hw (wcd_Tp cy ad _) kf_X5_42 rfl rfl rfl rfl (Nat.le_of_ble_eq_true rfl) (wpd_Tp_4 cy ad _ _) dX5_advance_62 (fun g_3 eg_3 H locs hw => ?_)
  have hd := hd g_3 eg_3
  refine lv_aload_n K.1 K.2.1 dX5_advance_65 rfl (lv_at hl 0 rfl) ?_
  refine rc_get layX5 (ci := 5) rfl 5 (by decide) (v := .int (g_3 8 5)) K hw (wcd_Tp cy ad _) kf_X5_33 rfl dX5_advance_66 ?_
  refine lv_aload_n K.1 K.2.1 dX5_advance_69 rfl (lv_at hl 0 rfl) ?_
  refine rc_get layX5 (ci := 5) rfl 1 (by decide) (v := .int (g_3 8 1)) K hw (wcd_Tp cy ad _) kf_X5_15 rfl dX5_advance_70 ?_
  refine lv_icmp_lt (tgt := 82) K.1 K.2.1 dX5_advance_73 (by decide) (fun h_4 => ?_) (fun h_4 => ?_)
  · have hd := hd.1 h_4
    refine lv_aload_n K.1 K.2.1 dX5_advance_82 rfl (lv_at hl 0 rfl) ?_
    refine rc_get layX5 (ci := 5) rfl 0 (by decide) (v := .ref (ad 9)) K hw (wcd_Tp cy ad _) kf_X5_9 rfl dX5_advance_83 ?_
    refine lv_aload_n K.1 K.2.1 dX5_advance_86 rfl (lv_at hl 0 rfl) ?_
    refine rc_get layX5 (ci := 5) rfl 5 (by decide) (v := .int (g_3 8 5)) K hw (wcd_Tp cy ad _) kf_X5_33 rfl dX5_advance_87 ?_
    have hb := hd.1
    have hd := hd.2
    refine rc_iald K hw (wcd_9 cy ad _) hb dX5_advance_90 ?_
    refine lv_topi (fun x1_5 ex1_5 => ?_)
    have hd := hd x1_5 ex1_5
    refine lv_istore_n (lv' := [(1, .int x1_5), (0, .ref (ad 8))]) K.1 K.2.1 dX5_advance_91 rfl hl (by decide) rfl (fun ls hl => ?_)
    refine lv_iload_n K.1 K.2.1 dX5_advance_92 rfl (lv_at hl 0 rfl) ?_
    refine rkc_si (As := [.int x1_5]) (rest := []) K KX hw (cd_X5_isLower l D cy nt ad A X g_3 _ x1_5 hd) lk_X5_48 ⟨Nat.le_of_ble_eq_true rfl, Nat.le_of_ble_eq_true rfl⟩ ⟨Nat.zero_le _, Nat.zero_le _⟩ rfl hl.1 (Nat.le_of_ble_eq_true rfl) rfl dX5_advance_93 (fun r_7 g_6 H locs hd hw => ?_)
    refine lv_if_eq (tgt := 114) K.1 K.2.1 dX5_advance_96 (by decide) (fun h_8 => ?_) (fun h_8 => ?_)
    · have hd := hd.1 h_8
      refine lv_iload_n K.1 K.2.1 dX5_advance_114 rfl (lv_at hl 0 rfl) ?_
      refine rkc_si (As := [.int x1_5]) (rest := []) K KX hw (cd_X5_isDigit l D cy nt ad A X g_6 _ x1_5 hd) lk_X5_58 ⟨Nat.le_of_ble_eq_true rfl, Nat.le_of_ble_eq_true rfl⟩ ⟨Nat.zero_le _, Nat.zero_le _⟩ rfl hl.1 (Nat.le_of_ble_eq_true rfl) rfl dX5_advance_115 (fun r_10 g_9 H locs hd hw => ?_)
      refine lv_if_eq (tgt := 128) K.1 K.2.1 dX5_advance_118 (by decide) (fun h_11 => ?_) (fun h_11 => ?_)
      · have hd := hd.1 h_11
        refine lv_aload_n K.1 K.2.1 dX5_advance_128 rfl (lv_at hl 1 rfl) ?_
        refine lv_iload_n K.1 K.2.1 dX5_advance_129 rfl (lv_at hl 0 rfl) ?_
        refine rkc_si (As := [.int x1_5]) (rest := [.ref (ad 8)]) K KX hw (cd_X5_isSign l D cy nt ad A X g_9 _ x1_5 hd) lk_X5_64 ⟨Nat.le_of_ble_eq_true rfl, Nat.le_of_ble_eq_true rfl⟩ ⟨Nat.zero_le _, Nat.zero_le _⟩ rfl hl.1 (Nat.le_of_ble_eq_true rfl) rfl dX5_advance_130 (fun r_13 g_12 H locs hd hw => ?_)
        refine lv_if_eq (tgt := 140) K.1 K.2.1 dX5_advance_133 (by decide) (fun h_14 => ?_) (fun h_14 => ?_)
        · have hd := hd.1 h_14
          refine lv_iconst (v := (1 : Int32)) K.1 K.2.1 dX5_advance_140 (by decide) ?_
          exact bd_X5_advance_141 K KX hr   (1 : Int32) g_12 _ _ _  hd hw (lv_sub hl [1] rfl)
        · have hd := hd.2 h_14
          refine lv_iload_n K.1 K.2.1 dX5_advance_136 rfl (lv_at hl 0 rfl) ?_
          refine lv_goto (tgt := 141) K.1 K.2.1 dX5_advance_137 (by decide) ?_
          exact bd_X5_advance_141 K KX hr   x1_5 g_12 _ _ _  hd hw (lv_sub hl [1] rfl)
      · have hd := hd.2 h_11
        refine lv_aload_n K.1 K.2.1 dX5_advance_121 rfl (lv_at hl 1 rfl) ?_
        refine rkc_vv (As := []) (rest := []) K KX hw (cd_X5_takeNumber l D cy nt ad A X g_9 _  hd) lk_X5_61 (ci := 5) rfl (wcd_Tp cy ad _) ⟨Nat.le_of_ble_eq_true rfl, Nat.le_of_ble_eq_true rfl⟩ ⟨Nat.zero_le _, Nat.zero_le _⟩ rfl hl.1 (Nat.le_of_ble_eq_true rfl) rfl dX5_advance_122 (fun g_17 H locs hd hw => ?_)
        refine lv_goto (tgt := 154) K.1 K.2.1 dX5_advance_125 (by decide) ?_
        exact rk_vret K hw hr hd dX5_advance_154
    · have hd := hd.2 h_8
      refine lv_aload_n K.1 K.2.1 dX5_advance_99 rfl (lv_at hl 1 rfl) ?_
      refine rkc_vv (As := []) (rest := []) K KX hw (cd_X5_skipWord l D cy nt ad A X g_6 _  hd) lk_X5_52 (ci := 5) rfl (wcd_Tp cy ad _) ⟨Nat.le_of_ble_eq_true rfl, Nat.le_of_ble_eq_true rfl⟩ ⟨Nat.zero_le _, Nat.zero_le _⟩ rfl hl.1 (Nat.le_of_ble_eq_true rfl) rfl dX5_advance_100 (fun g_19 H locs hd hw => ?_)
      refine lv_aload_n K.1 K.2.1 dX5_advance_103 rfl (lv_at hl 1 rfl) ?_
      refine lv_aload_n K.1 K.2.1 dX5_advance_104 rfl (lv_at hl 1 rfl) ?_
      refine rkc_vi (As := []) (rest := [.ref (ad 8)]) K KX hw (cd_X5_wordAtHand l D cy nt ad A X g_19 _  hd) lk_X5_55 (ci := 5) rfl (wcd_Tp cy ad _) ⟨Nat.le_of_ble_eq_true rfl, Nat.le_of_ble_eq_true rfl⟩ ⟨Nat.zero_le _, Nat.zero_le _⟩ rfl hl.1 (Nat.le_of_ble_eq_true rfl) rfl dX5_advance_105 (fun r_22 g_21 H locs hd hw => ?_)
      refine rd_put layX5 (ci := 5) rfl tyX5_ok nmX5 3 (by decide) K hw (wcd_Tp cy ad _) kf_X5_45 rfl rfl rfl rfl (Nat.le_of_ble_eq_true rfl) (wpd_Tp_3 cy ad _ _) dX5_advance_108 (fun g_23 eg_23 H locs hw => ?_)
      have hd := hd g_23 eg_23
      refine lv_goto (tgt := 154) K.1 K.2.1 dX5_advance_111 (by decide) ?_
      exact rk_vret K hw hr hd dX5_advance_154
  · have hd := hd.2 h_4
    refine lv_aload_n K.1 K.2.1 dX5_advance_76 rfl (lv_at hl 0 rfl) ?_
    refine lv_iconst (v := (0 : Int32)) K.1 K.2.1 dX5_advance_77 (by decide) ?_
    refine rd_put layX5 (ci := 5) rfl tyX5_ok nmX5 3 (by decide) K hw (wcd_Tp cy ad _) kf_X5_45 rfl rfl rfl rfl (Nat.le_of_ble_eq_true rfl) (wpd_Tp_3 cy ad _ _) dX5_advance_78 (fun g_24 eg_24 H locs hw => ?_)
    have hd := hd g_24 eg_24
    exact rk_vret K hw hr hd dX5_advance_81
set_option maxHeartbeats 4000000 in
set_option maxRecDepth 100000 in
theorem bd_X5_advance_39 {p : Program} {l : Launch} {e : Env} {s : State} {m : MethodId} {args : Array Value} {below : List Frame} {meth : Method} {c : Code} {D : va_G} {cy : Nat → ClassId} {nt : Nat} {ad : Nat → Nat} {A : Nat → Prop} {X : Nat → Nat} {Q : Sg → Prop} (K : Kx p s m args meth c cX5_advance 2 RX5 D cy) (KX : XC X A s s.heap) (hr : meth.sig.returnType = none)  {rc0 : Sg → Prop} (hrc0 : ∀  (u : Sg) (H : Heap) (locs : List Loc) (ls : Array Slot), rc0  u → Wd D A s.heap (wsD cy ad u) H locs → lv_has ls 2 [(0, .ref (ad 8))] → W p l e (rmD 7) s m args below meth c H locs 0 0 (MQ below (va_Qv Q (PostG (wsD cy ad) D A) A) args s 0 0 A) (F0 m 0 ls []))   (g0 : Sg) (H : Heap) (locs : List Loc) (ls : Array Slot) (hd : vv_X5_advance_J39 nt rc0 g0 Q) (hw : Wd D A s.heap (wsD cy ad g0) H locs) (hl : lv_has ls 2 [(0, .ref (ad 8))]) : W p l e (rmD 7) s m args below meth c H locs 0 0 (MQ below (va_Qv Q (PostG (wsD cy ad) D A) A) args s 0 0 A) (F0 m 39 ls []) := by
  unfold vv_X5_advance_J39 at hd
  refine lv_aload_n K.1 K.2.1 dX5_advance_39 rfl (lv_at hl 0 rfl) ?_
  refine lv_dup K.1 K.2.1 dX5_advance_40 rfl ?_
  refine rc_get layX5 (ci := 5) rfl 5 (by decide) (v := .int (g0 8 5)) K hw (wcd_Tp cy ad _) kf_X5_33 rfl dX5_advance_41 ?_
  refine lv_iconst (v := (1 : Int32)) K.1 K.2.1 dX5_advance_44 (by decide) ?_
  refine lv_iadd K.1 K.2.1 dX5_advance_45 ?_
  refine rd_put layX5 (ci := 5) rfl tyX5_ok nmX5 5 (by decide) K hw (wcd_Tp cy ad _) kf_X5_33 rfl rfl rfl rfl (Nat.le_of_ble_eq_true rfl) (wpd_Tp_5 cy ad _ _) dX5_advance_46 (fun g_26 eg_26 H locs hw => ?_)
  have hd := hd g_26 eg_26
  refine lv_goto (tgt := 0) K.1 K.2.1 dX5_advance_49 (by decide) ?_
  exact hrc0  g_26 _ _ _  hd hw (lv_sub hl [0] rfl)
set_option maxHeartbeats 4000000 in
set_option maxRecDepth 100000 in
theorem bd_X5_advance_0 {p : Program} {l : Launch} {e : Env} {s : State} {m : MethodId} {args : Array Value} {below : List Frame} {meth : Method} {c : Code} {D : va_G} {cy : Nat → ClassId} {nt : Nat} {ad : Nat → Nat} {A : Nat → Prop} {X : Nat → Nat} {Q : Sg → Prop} (K : Kx p s m args meth c cX5_advance 2 RX5 D cy) (KX : XC X A s s.heap) (hr : meth.sig.returnType = none)  : ∀ (n : Nat)   (g0 : Sg) (H : Heap) (locs : List Loc) (ls : Array Slot), vv_X5_advance_L0 nt Q n  g0 → Wd D A s.heap (wsD cy ad g0) H locs → lv_has ls 2 [(0, .ref (ad 8))] → W p l e (rmD 7) s m args below meth c H locs 0 0 (MQ below (va_Qv Q (PostG (wsD cy ad) D A) A) args s 0 0 A) (F0 m 0 ls []) := by
  intro n
  induction n with
  | zero => intro _ _ _ _ hd; exact hd.elim
  | succ n ih =>
    intro  g0 H locs ls  hd hw hl
    unfold vv_X5_advance_L0 at hd
    refine lv_aload_n K.1 K.2.1 dX5_advance_0 rfl (lv_at hl 0 rfl) ?_
    refine rc_get layX5 (ci := 5) rfl 5 (by decide) (v := .int (g0 8 5)) K hw (wcd_Tp cy ad _) kf_X5_33 rfl dX5_advance_1 ?_
    refine lv_aload_n K.1 K.2.1 dX5_advance_4 rfl (lv_at hl 0 rfl) ?_
    refine rc_get layX5 (ci := 5) rfl 1 (by decide) (v := .int (g0 8 1)) K hw (wcd_Tp cy ad _) kf_X5_15 rfl dX5_advance_5 ?_
    refine lv_icmp_ge (tgt := 52) K.1 K.2.1 dX5_advance_8 (by decide) (fun h_1 => ?_) (fun h_1 => ?_)
    · have hd := hd.1 h_1
      exact bd_X5_advance_52 K KX hr    g0 _ _ _  hd hw (lv_sub hl [0] rfl)
    · have hd := hd.2 h_1
      refine lv_aload_n K.1 K.2.1 dX5_advance_11 rfl (lv_at hl 0 rfl) ?_
      refine rc_get layX5 (ci := 5) rfl 0 (by decide) (v := .ref (ad 9)) K hw (wcd_Tp cy ad _) kf_X5_9 rfl dX5_advance_12 ?_
      refine lv_aload_n K.1 K.2.1 dX5_advance_15 rfl (lv_at hl 0 rfl) ?_
      refine rc_get layX5 (ci := 5) rfl 5 (by decide) (v := .int (g0 8 5)) K hw (wcd_Tp cy ad _) kf_X5_33 rfl dX5_advance_16 ?_
      have hb := hd.1
      have hd := hd.2
      refine rc_iald K hw (wcd_9 cy ad _) hb dX5_advance_19 ?_
      refine lv_bipush (v := (32 : Int32)) K.1 K.2.1 dX5_advance_20 (by decide) ?_
      refine lv_icmp_eq (tgt := 39) K.1 K.2.1 dX5_advance_22 (by decide) (fun h_25 => ?_) (fun h_25 => ?_)
      · have hd := hd.1 h_25
        exact bd_X5_advance_39 K KX hr  ih  g0 _ _ _  hd hw (lv_sub hl [0] rfl)
      · have hd := hd.2 h_25
        refine lv_aload_n K.1 K.2.1 dX5_advance_25 rfl (lv_at hl 0 rfl) ?_
        refine rc_get layX5 (ci := 5) rfl 0 (by decide) (v := .ref (ad 9)) K hw (wcd_Tp cy ad _) kf_X5_9 rfl dX5_advance_26 ?_
        refine lv_aload_n K.1 K.2.1 dX5_advance_29 rfl (lv_at hl 0 rfl) ?_
        refine rc_get layX5 (ci := 5) rfl 5 (by decide) (v := .int (g0 8 5)) K hw (wcd_Tp cy ad _) kf_X5_33 rfl dX5_advance_30 ?_
        have hb := hd.1
        have hd := hd.2
        refine rc_iald K hw (wcd_9 cy ad _) hb dX5_advance_33 ?_
        refine lv_bipush (v := (10 : Int32)) K.1 K.2.1 dX5_advance_34 (by decide) ?_
        refine lv_icmp_ne (tgt := 52) K.1 K.2.1 dX5_advance_36 (by decide) (fun h_27 => ?_) (fun h_27 => ?_)
        · have hd := hd.1 h_27
          exact bd_X5_advance_52 K KX hr    g0 _ _ _  hd hw (lv_sub hl [0] rfl)
        · have hd := hd.2 h_27
          exact bd_X5_advance_39 K KX hr  ih  g0 _ _ _  hd hw (lv_sub hl [0] rfl)
set_option maxHeartbeats 4000000 in
set_option maxRecDepth 100000 in
theorem cd_X5_advance (l : Launch) (D : va_G) (cy : Nat → ClassId) (nt : Nat) (ad : Nat → Nat) (A : Nat → Prop) (X : Nat → Nat)  (g0 : Sg) (Q : Sg → Prop)  (hd : vv_X5_advance nt  g0 Q) : Met l yX5_advance (Cond.code yX5_advance cX5_advance 2 none :: TT) (rmD 7) (va_Pc [.ref (ad 8)] (PreC (wsD cy ad) D cy A X g0)) (va_Qv Q (PostG (wsD cy ad) D A) A) 0 0 A := by
  unfold vv_X5_advance at hd
  refine Met.ofW (cc := cX5_advance) (maxL := 2) (ret := none) (by decide) rfl ?_
  intro p e s m args below meth c s₁ B hml hv
  obtain ⟨rfl, ⟨hP, hK0, hD⟩, KX⟩ := hv
  have K : Kx p s m _ meth c cX5_advance 2 RX5 D cy := ⟨B.exec, B.bytes, hml, findClass_of_methodNamed B.named, fun w h => atoms_spec (ws := Cond.code yX5_advance cX5_advance 2 none :: TT) B.pre w (List.mem_cons_of_mem _ h), hK0, B.notSynchronized⟩
  have hw : Wd D A s.heap (wsD cy ad g0) s.heap [] := ⟨hP, hD, va_S.rf⟩
  have hr := B.returns
  have hl := lv_entry ([.ref (ad 8)]) (n := 2) (Nat.le_of_ble_eq_true rfl)
  rw [lg_entry_eq]
  generalize (lg_sl ([.ref (ad 8)]) ++ List.replicate (2 - (lg_sl ([.ref (ad 8)])).length) Slot.unset).toArray = ls at hl ⊢
  have hl : lv_has ls 2 [(0, .ref (ad 8))] := hl
  obtain ⟨n9, hd⟩ := hd
  exact bd_X5_advance_0 K KX hr   n9  g0 _ _ _  hd hw (lv_sub hl [0] rfl)
set_option maxHeartbeats 4000000 in
set_option maxRecDepth 100000 in
theorem cd_X2_accept (l : Launch) (D : va_G) (cy : Nat → ClassId) (nt : Nat) (ad : Nat → Nat) (A : Nat → Prop) (X : Nat → Nat)  (g0 : Sg) (Q : Int32 → Sg → Prop) (x1 : Int32) (hd : vv_X2_accept nt x1 g0 Q) : Met l yX2_accept (Cond.code yX2_accept cX2_accept 2 (some .boolean) :: TT) (rmD 8) (va_Pc [.ref (ad 10), .int x1] (PreC (wsD cy ad) D cy A X g0)) (va_Qi Q (PostG (wsD cy ad) D A) A) 0 0 A := by
  unfold vv_X2_accept at hd
  refine Met.ofW (cc := cX2_accept) (maxL := 2) (ret := (some .boolean)) (by decide) rfl ?_
  intro p e s m args below meth c s₁ B hml hv
  obtain ⟨rfl, ⟨hP, hK0, hD⟩, KX⟩ := hv
  have K : Kx p s m _ meth c cX2_accept 2 RX2 D cy := ⟨B.exec, B.bytes, hml, findClass_of_methodNamed B.named, fun w h => atoms_spec (ws := Cond.code yX2_accept cX2_accept 2 (some .boolean) :: TT) B.pre w (List.mem_cons_of_mem _ h), hK0, B.notSynchronized⟩
  have hw : Wd D A s.heap (wsD cy ad g0) s.heap [] := ⟨hP, hD, va_S.rf⟩
  have hr := B.returns
  have hl := lv_entry ([.ref (ad 10), .int x1]) (n := 2) (Nat.le_of_ble_eq_true rfl)
  rw [lg_entry_eq]
  generalize (lg_sl ([.ref (ad 10), .int x1]) ++ List.replicate (2 - (lg_sl ([.ref (ad 10), .int x1])).length) Slot.unset).toArray = ls at hl ⊢
  have hl : lv_has ls 2 [(0, .ref (ad 10)), (1, .int x1)] := hl
  refine lv_aload_n K.1 K.2.1 dX2_accept_0 rfl (lv_at hl 0 rfl) ?_
  refine rc_get layX2 (ci := 2) rfl 0 (by decide) (v := .ref (ad 8)) K hw (wcd_Pr cy ad _) kf_X2_15 rfl dX2_accept_1 ?_
  refine rc_get layX5 (ci := 5) rfl 3 (by decide) (v := .int (g0 8 3)) K hw (wcd_Tp cy ad _) kf_X2_32 rfl dX2_accept_4 ?_
  refine lv_iload_n K.1 K.2.1 dX2_accept_7 rfl (lv_at hl 1 rfl) ?_
  refine lv_icmp_eq (tgt := 13) K.1 K.2.1 dX2_accept_8 (by decide) (fun h_1 => ?_) (fun h_1 => ?_)
  · have hd := hd.1 h_1
    refine lv_aload_n K.1 K.2.1 dX2_accept_13 rfl (lv_at hl 0 rfl) ?_
    refine rc_get layX2 (ci := 2) rfl 0 (by decide) (v := .ref (ad 8)) K hw (wcd_Pr cy ad _) kf_X2_15 rfl dX2_accept_14 ?_
    refine rkc_vv (As := []) (rest := []) K KX hw (cd_X5_advance l D cy nt ad A X g0 _  hd) lk_X2_52 (ci := 5) rfl (wcd_Tp cy ad _) ⟨Nat.le_of_ble_eq_true rfl, Nat.le_of_ble_eq_true rfl⟩ ⟨Nat.zero_le _, Nat.zero_le _⟩ rfl hl.1 (Nat.le_of_ble_eq_true rfl) rfl dX2_accept_17 (fun g_2 H locs hd hw => ?_)
    refine lv_iconst (v := (1 : Int32)) K.1 K.2.1 dX2_accept_20 (by decide) ?_
    exact rk_zret K hw hr (by decide) hd dX2_accept_21
  · have hd := hd.2 h_1
    refine lv_iconst (v := (0 : Int32)) K.1 K.2.1 dX2_accept_11 (by decide) ?_
    exact rk_zret K hw hr (by decide) hd dX2_accept_12
set_option maxHeartbeats 4000000 in
set_option maxRecDepth 100000 in
theorem cd_X2_emit (l : Launch) (D : va_G) (cy : Nat → ClassId) (nt : Nat) (ad : Nat → Nat) (A : Nat → Prop) (X : Nat → Nat)  (g0 : Sg) (Q : Sg → Prop) (x1 : Int32) (hd : vv_X2_emit nt x1 g0 Q) : Met l yX2_emit (Cond.code yX2_emit cX2_emit 2 none :: TT) (rmD 1) (va_Pc [.ref (ad 10), .int x1] (PreC (wsD cy ad) D cy A X g0)) (va_Qv Q (PostG (wsD cy ad) D A) A) 0 0 A := by
  unfold vv_X2_emit at hd
  refine Met.ofW (cc := cX2_emit) (maxL := 2) (ret := none) (by decide) rfl ?_
  intro p e s m args below meth c s₁ B hml hv
  obtain ⟨rfl, ⟨hP, hK0, hD⟩, KX⟩ := hv
  have K : Kx p s m _ meth c cX2_emit 2 RX2 D cy := ⟨B.exec, B.bytes, hml, findClass_of_methodNamed B.named, fun w h => atoms_spec (ws := Cond.code yX2_emit cX2_emit 2 none :: TT) B.pre w (List.mem_cons_of_mem _ h), hK0, B.notSynchronized⟩
  have hw : Wd D A s.heap (wsD cy ad g0) s.heap [] := ⟨hP, hD, va_S.rf⟩
  have hr := B.returns
  have hl := lv_entry ([.ref (ad 10), .int x1]) (n := 2) (Nat.le_of_ble_eq_true rfl)
  rw [lg_entry_eq]
  generalize (lg_sl ([.ref (ad 10), .int x1]) ++ List.replicate (2 - (lg_sl ([.ref (ad 10), .int x1])).length) Slot.unset).toArray = ls at hl ⊢
  have hl : lv_has ls 2 [(0, .ref (ad 10)), (1, .int x1)] := hl
  refine lv_aload_n K.1 K.2.1 dX2_emit_0 rfl (lv_at hl 0 rfl) ?_
  refine rc_get layX2 (ci := 2) rfl 2 (by decide) (v := .int (g0 10 2)) K hw (wcd_Pr cy ad _) kf_X2_19 rfl dX2_emit_1 ?_
  refine lv_aload_n K.1 K.2.1 dX2_emit_4 rfl (lv_at hl 0 rfl) ?_
  refine rc_get layX2 (ci := 2) rfl 1 (by decide) (v := .ref (ad 11)) K hw (wcd_Pr cy ad _) kf_X2_9 rfl dX2_emit_5 ?_
  refine rc_alen (v := (160 : Int32)) K hw (wcd_11 cy ad _) rfl dX2_emit_8 ?_
  refine lv_icmp_ge (tgt := 32) K.1 K.2.1 dX2_emit_9 (by decide) (fun h_1 => ?_) (fun h_1 => ?_)
  · have hd := hd.1 h_1
    exact rk_vret K hw hr hd dX2_emit_32
  · have hd := hd.2 h_1
    refine lv_aload_n K.1 K.2.1 dX2_emit_12 rfl (lv_at hl 0 rfl) ?_
    refine rc_get layX2 (ci := 2) rfl 1 (by decide) (v := .ref (ad 11)) K hw (wcd_Pr cy ad _) kf_X2_9 rfl dX2_emit_13 ?_
    refine lv_aload_n K.1 K.2.1 dX2_emit_16 rfl (lv_at hl 0 rfl) ?_
    refine rc_get layX2 (ci := 2) rfl 2 (by decide) (v := .int (g0 10 2)) K hw (wcd_Pr cy ad _) kf_X2_19 rfl dX2_emit_17 ?_
    refine lv_iload_n K.1 K.2.1 dX2_emit_20 rfl (lv_at hl 1 rfl) ?_
    have hb := hd.1
    have hd := hd.2
    refine rd_iast K hw (wcd_11 cy ad _) (wad_11 cy ad _ _ _) hb dX2_emit_21 (fun g_2 eg_2 H locs hw => ?_)
    have hd := hd g_2 eg_2
    refine lv_aload_n K.1 K.2.1 dX2_emit_22 rfl (lv_at hl 0 rfl) ?_
    refine lv_dup K.1 K.2.1 dX2_emit_23 rfl ?_
    refine rc_get layX2 (ci := 2) rfl 2 (by decide) (v := .int (g_2 10 2)) K hw (wcd_Pr cy ad _) kf_X2_19 rfl dX2_emit_24 ?_
    refine lv_iconst (v := (1 : Int32)) K.1 K.2.1 dX2_emit_27 (by decide) ?_
    refine lv_iadd K.1 K.2.1 dX2_emit_28 ?_
    refine rd_put layX2 (ci := 2) rfl tyX2_ok nmX2 2 (by decide) K hw (wcd_Pr cy ad _) kf_X2_19 rfl rfl rfl rfl (Nat.le_of_ble_eq_true rfl) (wpd_Pr_2 cy ad _ _) dX2_emit_29 (fun g_3 eg_3 H locs hw => ?_)
    have hd := hd g_3 eg_3
    exact rk_vret K hw hr hd dX2_emit_32
set_option maxHeartbeats 4000000 in
set_option maxRecDepth 100000 in
theorem bd_X2_either_12 {p : Program} {l : Launch} {e : Env} {s : State} {m : MethodId} {args : Array Value} {below : List Frame} {meth : Method} {c : Code} {D : va_G} {cy : Nat → ClassId} {nt : Nat} {ad : Nat → Nat} {A : Nat → Prop} {X : Nat → Nat} {Q : Int32 → Sg → Prop} (K : Kx p s m args meth c cX2_either 3 RX2 D cy) (KX : XC X A s s.heap) (hr : meth.sig.returnType = (some .boolean)) (r : Nat) (h5 : 10 ≤ r) (rec : RT) (hrec : HrecD l D cy nt ad A X rec r) : ∀ (n : Nat) (x1 : Int32) (x2 : Int32)  (g0 : Sg) (H : Heap) (locs : List Loc) (ls : Array Slot), vb_X2_either_L12 rec nt Q n x1 x2 g0 → Wd D A s.heap (wsD cy ad g0) H locs → lv_has ls 3 [(0, .ref (ad 10)), (1, .int x1), (2, .int x2)] → W p l e (rmD (r + 1)) s m args below meth c H locs 0 0 (MQ below (va_Qi Q (PostG (wsD cy ad) D A) A) args s 0 0 A) (F0 m 12 ls []) := by
  intro n
  induction n with
  | zero => intro _ _ _ _ _ _ hd; exact hd.elim
  | succ n ih =>
    intro x1 x2 g0 H locs ls  hd hw hl
    unfold vb_X2_either_L12 at hd
    refine lv_iload_n K.1 K.2.1 dX2_either_12 rfl (lv_at hl 2 rfl) ?_
    refine lv_sipush (v := (160 : Int32)) K.1 K.2.1 dX2_either_13 (by decide) ?_
    refine lv_icmp_ge (tgt := 61) K.1 K.2.1 dX2_either_16 (by decide) (fun h_5 => ?_) (fun h_5 => ?_)
    · have hd := hd.1 h_5
      refine lv_iconst (v := (1 : Int32)) K.1 K.2.1 dX2_either_61 (by decide) ?_
      exact rk_zret K hw hr (by decide) hd dX2_either_62
    · have hd := hd.2 h_5
      refine lv_aload_n K.1 K.2.1 dX2_either_19 rfl (lv_at hl 0 rfl) ?_
      refine rc_get layX2 (ci := 2) rfl 0 (by decide) (v := .ref (ad 8)) K hw (wcd_Pr cy ad _) kf_X2_15 rfl dX2_either_20 ?_
      refine rc_get layX5 (ci := 5) rfl 3 (by decide) (v := .int (g0 8 3)) K hw (wcd_Tp cy ad _) kf_X2_32 rfl dX2_either_23 ?_
      refine lv_bipush (v := (7 : Int32)) K.1 K.2.1 dX2_either_26 (by decide) ?_
      refine lv_icmp_ne (tgt := 61) K.1 K.2.1 dX2_either_28 (by decide) (fun h_6 => ?_) (fun h_6 => ?_)
      · have hd := hd.1 h_6
        refine lv_iconst (v := (1 : Int32)) K.1 K.2.1 dX2_either_61 (by decide) ?_
        exact rk_zret K hw hr (by decide) hd dX2_either_62
      · have hd := hd.2 h_6
        refine lv_aload_n K.1 K.2.1 dX2_either_31 rfl (lv_at hl 0 rfl) ?_
        refine rc_get layX2 (ci := 2) rfl 0 (by decide) (v := .ref (ad 8)) K hw (wcd_Pr cy ad _) kf_X2_15 rfl dX2_either_32 ?_
        refine rkc_vv (As := []) (rest := []) K KX hw (cd_X5_advance l D cy nt ad A X g0 _  hd) lk_X2_52 (ci := 5) rfl (wcd_Tp cy ad _) ⟨by show 7 + 1 ≤ r + 1; omega, by show 8 + (2 + 11) + 60 * 7 ≤ 60 * (r + 1); omega⟩ ⟨Nat.zero_le _, Nat.zero_le _⟩ rfl hl.1 (Nat.le_of_ble_eq_true rfl) rfl dX2_either_35 (fun g_7 H locs hd hw => ?_)
        refine lv_aload_n K.1 K.2.1 dX2_either_38 rfl (lv_at hl 0 rfl) ?_
        refine lv_iload_n K.1 K.2.1 dX2_either_39 rfl (lv_at hl 1 rfl) ?_
        refine rkc_vi (As := [.int x1]) (rest := []) K KX hw (hrec.2.1 g_7 _ x1 hd) lk_X2_55 (ci := 2) rfl (wcd_Pr cy ad _) ⟨by show r + 1 ≤ r + 1; omega, by show 8 + (3 + 11) + 60 * r ≤ 60 * (r + 1); omega⟩ ⟨Nat.zero_le _, Nat.zero_le _⟩ rfl hl.1 (Nat.le_of_ble_eq_true rfl) rfl dX2_either_40 (fun r_10 g_9 H locs hd hw => ?_)
        refine lv_if_ne (tgt := 48) K.1 K.2.1 dX2_either_43 (by decide) (fun h_11 => ?_) (fun h_11 => ?_)
        · have hd := hd.1 h_11
          refine lv_aload_n K.1 K.2.1 dX2_either_48 rfl (lv_at hl 0 rfl) ?_
          refine lv_sipush (v := (20000 : Int32)) K.1 K.2.1 dX2_either_49 (by decide) ?_
          refine rkc_vv (As := [.int (20000 : Int32)]) (rest := []) K KX hw (cd_X2_emit l D cy nt ad A X g_9 _ (20000 : Int32) hd) lk_X2_58 (ci := 2) rfl (wcd_Pr cy ad _) ⟨by show 1 + 1 ≤ r + 1; omega, by show 8 + (2 + 11) + 60 * 1 ≤ 60 * (r + 1); omega⟩ ⟨Nat.zero_le _, Nat.zero_le _⟩ rfl hl.1 (Nat.le_of_ble_eq_true rfl) rfl dX2_either_52 (fun g_12 H locs hd hw => ?_)
          obtain ⟨x2_14, ex2_14⟩ : ∃ y : Int32, y = x2 + (1 : Int32) := ⟨_, rfl⟩
          have hd := hd x2_14 ex2_14
          refine lv_iinc (v := x2_14) (lv' := [(2, .int x2_14), (0, .ref (ad 10)), (1, .int x1)]) K.1 K.2.1 dX2_either_55 hl (k := 2) rfl (by rw [ex2_14]; rfl) (by decide) rfl (fun ls hl => ?_)
          refine lv_goto (tgt := 12) K.1 K.2.1 dX2_either_58 (by decide) ?_
          exact ih x1 x2_14 g_12 _ _ _  hd hw (lv_sub hl [1, 2, 0] rfl)
        · have hd := hd.2 h_11
          refine lv_iconst (v := (0 : Int32)) K.1 K.2.1 dX2_either_46 (by decide) ?_
          exact rk_zret K hw hr (by decide) hd dX2_either_47
set_option maxHeartbeats 4000000 in
set_option maxRecDepth 100000 in
theorem cg_X2_either (l : Launch) (D : va_G) (cy : Nat → ClassId) (nt : Nat) (ad : Nat → Nat) (A : Nat → Prop) (X : Nat → Nat) (r : Nat) (h5 : 10 ≤ r) (rec : RT) (hrec : HrecD l D cy nt ad A X rec r) (g0 : Sg) (Q : Int32 → Sg → Prop) (x1 : Int32) (hd : vb_X2_either rec nt x1 g0 Q) : Met l yX2_either (Cond.code yX2_either cX2_either 3 (some .boolean) :: TT) (rmD (r + 1)) (va_Pc [.ref (ad 10), .int x1] (PreC (wsD cy ad) D cy A X g0)) (va_Qi Q (PostG (wsD cy ad) D A) A) 0 0 A := by
  unfold vb_X2_either at hd
  refine Met.ofW (cc := cX2_either) (maxL := 3) (ret := (some .boolean)) (by decide) rfl ?_
  intro p e s m args below meth c s₁ B hml hv
  obtain ⟨rfl, ⟨hP, hK0, hD⟩, KX⟩ := hv
  have K : Kx p s m _ meth c cX2_either 3 RX2 D cy := ⟨B.exec, B.bytes, hml, findClass_of_methodNamed B.named, fun w h => atoms_spec (ws := Cond.code yX2_either cX2_either 3 (some .boolean) :: TT) B.pre w (List.mem_cons_of_mem _ h), hK0, B.notSynchronized⟩
  have hw : Wd D A s.heap (wsD cy ad g0) s.heap [] := ⟨hP, hD, va_S.rf⟩
  have hr := B.returns
  have hl := lv_entry ([.ref (ad 10), .int x1]) (n := 3) (Nat.le_of_ble_eq_true rfl)
  rw [lg_entry_eq]
  generalize (lg_sl ([.ref (ad 10), .int x1]) ++ List.replicate (3 - (lg_sl ([.ref (ad 10), .int x1])).length) Slot.unset).toArray = ls at hl ⊢
  have hl : lv_has ls 3 [(0, .ref (ad 10)), (1, .int x1)] := hl
  refine lv_aload_n K.1 K.2.1 dX2_either_0 rfl (lv_at hl 0 rfl) ?_
  refine lv_iload_n K.1 K.2.1 dX2_either_1 rfl (lv_at hl 1 rfl) ?_
  refine rkc_vi (As := [.int x1]) (rest := []) K KX hw (hrec.2.1 g0 _ x1 hd) lk_X2_55 (ci := 2) rfl (wcd_Pr cy ad _) ⟨by show r + 1 ≤ r + 1; omega, by show 8 + (3 + 11) + 60 * r ≤ 60 * (r + 1); omega⟩ ⟨Nat.zero_le _, Nat.zero_le _⟩ rfl hl.1 (Nat.le_of_ble_eq_true rfl) rfl dX2_either_2 (fun r_2 g_1 H locs hd hw => ?_)
  refine lv_if_ne (tgt := 10) K.1 K.2.1 dX2_either_5 (by decide) (fun h_3 => ?_) (fun h_3 => ?_)
  · have hd := hd.1 h_3
    refine lv_iconst (v := (0 : Int32)) K.1 K.2.1 dX2_either_10 (by decide) ?_
    refine lv_topi (fun x2_4 ex2_4 => ?_)
    have hd := hd x2_4 ex2_4
    refine lv_istore_n (lv' := [(2, .int x2_4), (0, .ref (ad 10)), (1, .int x1)]) K.1 K.2.1 dX2_either_11 rfl hl (by decide) rfl (fun ls hl => ?_)
    obtain ⟨n9, hd⟩ := hd
    exact bd_X2_either_12 K KX hr r h5 rec hrec  n9 x1 x2_4 g_1 _ _ _  hd hw (lv_sub hl [1, 2, 0] rfl)
  · have hd := hd.2 h_3
    refine lv_iconst (v := (0 : Int32)) K.1 K.2.1 dX2_either_8 (by decide) ?_
    exact rk_zret K hw hr (by decide) hd dX2_either_9
set_option maxHeartbeats 4000000 in
set_option maxRecDepth 100000 in
theorem bd_X2_both_12 {p : Program} {l : Launch} {e : Env} {s : State} {m : MethodId} {args : Array Value} {below : List Frame} {meth : Method} {c : Code} {D : va_G} {cy : Nat → ClassId} {nt : Nat} {ad : Nat → Nat} {A : Nat → Prop} {X : Nat → Nat} {Q : Int32 → Sg → Prop} (K : Kx p s m args meth c cX2_both 3 RX2 D cy) (KX : XC X A s s.heap) (hr : meth.sig.returnType = (some .boolean)) (r : Nat) (h5 : 10 ≤ r) (rec : RT) (hrec : HrecD l D cy nt ad A X rec r) : ∀ (n : Nat) (x1 : Int32) (x2 : Int32)  (g0 : Sg) (H : Heap) (locs : List Loc) (ls : Array Slot), vb_X2_both_L12 rec nt Q n x1 x2 g0 → Wd D A s.heap (wsD cy ad g0) H locs → lv_has ls 3 [(0, .ref (ad 10)), (1, .int x1), (2, .int x2)] → W p l e (rmD (r + 1)) s m args below meth c H locs 0 0 (MQ below (va_Qi Q (PostG (wsD cy ad) D A) A) args s 0 0 A) (F0 m 12 ls []) := by
  intro n
  induction n with
  | zero => intro _ _ _ _ _ _ hd; exact hd.elim
  | succ n ih =>
    intro x1 x2 g0 H locs ls  hd hw hl
    unfold vb_X2_both_L12 at hd
    refine lv_iload_n K.1 K.2.1 dX2_both_12 rfl (lv_at hl 2 rfl) ?_
    refine lv_sipush (v := (160 : Int32)) K.1 K.2.1 dX2_both_13 (by decide) ?_
    refine lv_icmp_ge (tgt := 61) K.1 K.2.1 dX2_both_16 (by decide) (fun h_5 => ?_) (fun h_5 => ?_)
    · have hd := hd.1 h_5
      refine lv_iconst (v := (1 : Int32)) K.1 K.2.1 dX2_both_61 (by decide) ?_
      exact rk_zret K hw hr (by decide) hd dX2_both_62
    · have hd := hd.2 h_5
      refine lv_aload_n K.1 K.2.1 dX2_both_19 rfl (lv_at hl 0 rfl) ?_
      refine rc_get layX2 (ci := 2) rfl 0 (by decide) (v := .ref (ad 8)) K hw (wcd_Pr cy ad _) kf_X2_15 rfl dX2_both_20 ?_
      refine rc_get layX5 (ci := 5) rfl 3 (by decide) (v := .int (g0 8 3)) K hw (wcd_Tp cy ad _) kf_X2_32 rfl dX2_both_23 ?_
      refine lv_bipush (v := (8 : Int32)) K.1 K.2.1 dX2_both_26 (by decide) ?_
      refine lv_icmp_ne (tgt := 61) K.1 K.2.1 dX2_both_28 (by decide) (fun h_6 => ?_) (fun h_6 => ?_)
      · have hd := hd.1 h_6
        refine lv_iconst (v := (1 : Int32)) K.1 K.2.1 dX2_both_61 (by decide) ?_
        exact rk_zret K hw hr (by decide) hd dX2_both_62
      · have hd := hd.2 h_6
        refine lv_aload_n K.1 K.2.1 dX2_both_31 rfl (lv_at hl 0 rfl) ?_
        refine rc_get layX2 (ci := 2) rfl 0 (by decide) (v := .ref (ad 8)) K hw (wcd_Pr cy ad _) kf_X2_15 rfl dX2_both_32 ?_
        refine rkc_vv (As := []) (rest := []) K KX hw (cd_X5_advance l D cy nt ad A X g0 _  hd) lk_X2_52 (ci := 5) rfl (wcd_Tp cy ad _) ⟨by show 7 + 1 ≤ r + 1; omega, by show 8 + (2 + 11) + 60 * 7 ≤ 60 * (r + 1); omega⟩ ⟨Nat.zero_le _, Nat.zero_le _⟩ rfl hl.1 (Nat.le_of_ble_eq_true rfl) rfl dX2_both_35 (fun g_7 H locs hd hw => ?_)
        refine lv_aload_n K.1 K.2.1 dX2_both_38 rfl (lv_at hl 0 rfl) ?_
        refine lv_iload_n K.1 K.2.1 dX2_both_39 rfl (lv_at hl 1 rfl) ?_
        refine rkc_vi (As := [.int x1]) (rest := []) K KX hw (hrec.2.2.1 g_7 _ x1 hd) lk_X2_62 (ci := 2) rfl (wcd_Pr cy ad _) ⟨by show r + 1 ≤ r + 1; omega, by show 8 + (3 + 11) + 60 * r ≤ 60 * (r + 1); omega⟩ ⟨Nat.zero_le _, Nat.zero_le _⟩ rfl hl.1 (Nat.le_of_ble_eq_true rfl) rfl dX2_both_40 (fun r_10 g_9 H locs hd hw => ?_)
        refine lv_if_ne (tgt := 48) K.1 K.2.1 dX2_both_43 (by decide) (fun h_11 => ?_) (fun h_11 => ?_)
        · have hd := hd.1 h_11
          refine lv_aload_n K.1 K.2.1 dX2_both_48 rfl (lv_at hl 0 rfl) ?_
          refine lv_sipush (v := (20001 : Int32)) K.1 K.2.1 dX2_both_49 (by decide) ?_
          refine rkc_vv (As := [.int (20001 : Int32)]) (rest := []) K KX hw (cd_X2_emit l D cy nt ad A X g_9 _ (20001 : Int32) hd) lk_X2_58 (ci := 2) rfl (wcd_Pr cy ad _) ⟨by show 1 + 1 ≤ r + 1; omega, by show 8 + (2 + 11) + 60 * 1 ≤ 60 * (r + 1); omega⟩ ⟨Nat.zero_le _, Nat.zero_le _⟩ rfl hl.1 (Nat.le_of_ble_eq_true rfl) rfl dX2_both_52 (fun g_12 H locs hd hw => ?_)
          obtain ⟨x2_14, ex2_14⟩ : ∃ y : Int32, y = x2 + (1 : Int32) := ⟨_, rfl⟩
          have hd := hd x2_14 ex2_14
          refine lv_iinc (v := x2_14) (lv' := [(2, .int x2_14), (0, .ref (ad 10)), (1, .int x1)]) K.1 K.2.1 dX2_both_55 hl (k := 2) rfl (by rw [ex2_14]; rfl) (by decide) rfl (fun ls hl => ?_)
          refine lv_goto (tgt := 12) K.1 K.2.1 dX2_both_58 (by decide) ?_
          exact ih x1 x2_14 g_12 _ _ _  hd hw (lv_sub hl [1, 2, 0] rfl)
        · have hd := hd.2 h_11
          refine lv_iconst (v := (0 : Int32)) K.1 K.2.1 dX2_both_46 (by decide) ?_
          exact rk_zret K hw hr (by decide) hd dX2_both_47
set_option maxHeartbeats 4000000 in
set_option maxRecDepth 100000 in
theorem cg_X2_both (l : Launch) (D : va_G) (cy : Nat → ClassId) (nt : Nat) (ad : Nat → Nat) (A : Nat → Prop) (X : Nat → Nat) (r : Nat) (h5 : 10 ≤ r) (rec : RT) (hrec : HrecD l D cy nt ad A X rec r) (g0 : Sg) (Q : Int32 → Sg → Prop) (x1 : Int32) (hd : vb_X2_both rec nt x1 g0 Q) : Met l yX2_both (Cond.code yX2_both cX2_both 3 (some .boolean) :: TT) (rmD (r + 1)) (va_Pc [.ref (ad 10), .int x1] (PreC (wsD cy ad) D cy A X g0)) (va_Qi Q (PostG (wsD cy ad) D A) A) 0 0 A := by
  unfold vb_X2_both at hd
  refine Met.ofW (cc := cX2_both) (maxL := 3) (ret := (some .boolean)) (by decide) rfl ?_
  intro p e s m args below meth c s₁ B hml hv
  obtain ⟨rfl, ⟨hP, hK0, hD⟩, KX⟩ := hv
  have K : Kx p s m _ meth c cX2_both 3 RX2 D cy := ⟨B.exec, B.bytes, hml, findClass_of_methodNamed B.named, fun w h => atoms_spec (ws := Cond.code yX2_both cX2_both 3 (some .boolean) :: TT) B.pre w (List.mem_cons_of_mem _ h), hK0, B.notSynchronized⟩
  have hw : Wd D A s.heap (wsD cy ad g0) s.heap [] := ⟨hP, hD, va_S.rf⟩
  have hr := B.returns
  have hl := lv_entry ([.ref (ad 10), .int x1]) (n := 3) (Nat.le_of_ble_eq_true rfl)
  rw [lg_entry_eq]
  generalize (lg_sl ([.ref (ad 10), .int x1]) ++ List.replicate (3 - (lg_sl ([.ref (ad 10), .int x1])).length) Slot.unset).toArray = ls at hl ⊢
  have hl : lv_has ls 3 [(0, .ref (ad 10)), (1, .int x1)] := hl
  refine lv_aload_n K.1 K.2.1 dX2_both_0 rfl (lv_at hl 0 rfl) ?_
  refine lv_iload_n K.1 K.2.1 dX2_both_1 rfl (lv_at hl 1 rfl) ?_
  refine rkc_vi (As := [.int x1]) (rest := []) K KX hw (hrec.2.2.1 g0 _ x1 hd) lk_X2_62 (ci := 2) rfl (wcd_Pr cy ad _) ⟨by show r + 1 ≤ r + 1; omega, by show 8 + (3 + 11) + 60 * r ≤ 60 * (r + 1); omega⟩ ⟨Nat.zero_le _, Nat.zero_le _⟩ rfl hl.1 (Nat.le_of_ble_eq_true rfl) rfl dX2_both_2 (fun r_2 g_1 H locs hd hw => ?_)
  refine lv_if_ne (tgt := 10) K.1 K.2.1 dX2_both_5 (by decide) (fun h_3 => ?_) (fun h_3 => ?_)
  · have hd := hd.1 h_3
    refine lv_iconst (v := (0 : Int32)) K.1 K.2.1 dX2_both_10 (by decide) ?_
    refine lv_topi (fun x2_4 ex2_4 => ?_)
    have hd := hd x2_4 ex2_4
    refine lv_istore_n (lv' := [(2, .int x2_4), (0, .ref (ad 10)), (1, .int x1)]) K.1 K.2.1 dX2_both_11 rfl hl (by decide) rfl (fun ls hl => ?_)
    obtain ⟨n9, hd⟩ := hd
    exact bd_X2_both_12 K KX hr r h5 rec hrec  n9 x1 x2_4 g_1 _ _ _  hd hw (lv_sub hl [1, 2, 0] rfl)
  · have hd := hd.2 h_3
    refine lv_iconst (v := (0 : Int32)) K.1 K.2.1 dX2_both_8 (by decide) ?_
    exact rk_zret K hw hr (by decide) hd dX2_both_9
set_option maxHeartbeats 4000000 in
set_option maxRecDepth 100000 in
theorem bd_X2_negation_110 {p : Program} {l : Launch} {e : Env} {s : State} {m : MethodId} {args : Array Value} {below : List Frame} {meth : Method} {c : Code} {D : va_G} {cy : Nat → ClassId} {nt : Nat} {ad : Nat → Nat} {A : Nat → Prop} {X : Nat → Nat} {Q : Int32 → Sg → Prop} (K : Kx p s m args meth c cX2_negation 3 RX2 D cy) (KX : XC X A s s.heap) (hr : meth.sig.returnType = (some .boolean)) (r : Nat) (h5 : 10 ≤ r) (rec : RT) (hrec : HrecD l D cy nt ad A X rec r)  (t1 : Int32) (g0 : Sg) (H : Heap) (locs : List Loc) (ls : Array Slot) (hd : vb_X2_negation_J110 rec nt t1 g0 Q) (hw : Wd D A s.heap (wsD cy ad g0) H locs) (hl : lv_has ls 3 []) : W p l e (rmD (r + 1)) s m args below meth c H locs 0 0 (MQ below (va_Qi Q (PostG (wsD cy ad) D A) A) args s 0 0 A) (F0 m 110 ls [.int t1, .ref (ad 10)]) := by
  unfold vb_X2_negation_J110 at hd
  refine rkc_vv (As := [.int t1]) (rest := []) K KX hw (cd_X2_emit l D cy nt ad A X g0 _ t1 hd) lk_X2_58 (ci := 2) rfl (wcd_Pr cy ad _) ⟨by show 1 + 1 ≤ r + 1; omega, by show 8 + (2 + 11) + 60 * 1 ≤ 60 * (r + 1); omega⟩ ⟨Nat.zero_le _, Nat.zero_le _⟩ rfl hl.1 (Nat.le_of_ble_eq_true rfl) rfl dX2_negation_110 (fun g_13 H locs hd hw => ?_)
  refine lv_iconst (v := (1 : Int32)) K.1 K.2.1 dX2_negation_113 (by decide) ?_
  exact rk_zret K hw hr (by decide) hd dX2_negation_114
set_option maxHeartbeats 4000000 in
set_option maxRecDepth 100000 in
theorem bd_X2_negation_77 {p : Program} {l : Launch} {e : Env} {s : State} {m : MethodId} {args : Array Value} {below : List Frame} {meth : Method} {c : Code} {D : va_G} {cy : Nat → ClassId} {nt : Nat} {ad : Nat → Nat} {A : Nat → Prop} {X : Nat → Nat} {Q : Int32 → Sg → Prop} (K : Kx p s m args meth c cX2_negation 3 RX2 D cy) (KX : XC X A s s.heap) (hr : meth.sig.returnType = (some .boolean)) (r : Nat) (h5 : 10 ≤ r) (rec : RT) (hrec : HrecD l D cy nt ad A X rec r) (x1 : Int32) (x2 : Int32)  (g0 : Sg) (H : Heap) (locs : List Loc) (ls : Array Slot) (hd : vb_X2_negation_J77 rec nt x1 x2 g0 Q) (hw : Wd D A s.heap (wsD cy ad g0) H locs) (hl : lv_has ls 3 [(0, .ref (ad 10)), (1, .int x1), (2, .int x2)]) : W p l e (rmD (r + 1)) s m args below meth c H locs 0 0 (MQ below (va_Qi Q (PostG (wsD cy ad) D A) A) args s 0 0 A) (F0 m 77 ls []) := by
  unfold vb_X2_negation_J77 at hd
  refine lv_aload_n K.1 K.2.1 dX2_negation_77 rfl (lv_at hl 0 rfl) ?_
  refine rc_get layX2 (ci := 2) rfl 0 (by decide) (v := .ref (ad 8)) K hw (wcd_Pr cy ad _) kf_X2_15 rfl dX2_negation_78 ?_
  refine rkc_vv (As := []) (rest := []) K KX hw (cd_X5_advance l D cy nt ad A X g0 _  hd) lk_X2_52 (ci := 5) rfl (wcd_Tp cy ad _) ⟨by show 7 + 1 ≤ r + 1; omega, by show 8 + (2 + 11) + 60 * 7 ≤ 60 * (r + 1); omega⟩ ⟨Nat.zero_le _, Nat.zero_le _⟩ rfl hl.1 (Nat.le_of_ble_eq_true rfl) rfl dX2_negation_81 (fun g_7 H locs hd hw => ?_)
  refine lv_aload_n K.1 K.2.1 dX2_negation_84 rfl (lv_at hl 0 rfl) ?_
  refine lv_iload_n K.1 K.2.1 dX2_negation_85 rfl (lv_at hl 1 rfl) ?_
  refine rkc_vi (As := [.int x1]) (rest := []) K KX hw (hrec.2.2.2.1 g_7 _ x1 hd) lk_X2_65 (ci := 2) rfl (wcd_Pr cy ad _) ⟨by show r + 1 ≤ r + 1; omega, by show 8 + (4 + 11) + 60 * r ≤ 60 * (r + 1); omega⟩ ⟨Nat.zero_le _, Nat.zero_le _⟩ rfl hl.1 (Nat.le_of_ble_eq_true rfl) rfl dX2_negation_86 (fun r_10 g_9 H locs hd hw => ?_)
  refine lv_if_ne (tgt := 94) K.1 K.2.1 dX2_negation_89 (by decide) (fun h_11 => ?_) (fun h_11 => ?_)
  · have hd := hd.1 h_11
    refine lv_aload_n K.1 K.2.1 dX2_negation_94 rfl (lv_at hl 0 rfl) ?_
    refine lv_iload_n K.1 K.2.1 dX2_negation_95 rfl (lv_at hl 2 rfl) ?_
    refine lv_bipush (v := (60 : Int32)) K.1 K.2.1 dX2_negation_96 (by decide) ?_
    refine lv_icmp_ne (tgt := 107) K.1 K.2.1 dX2_negation_98 (by decide) (fun h_12 => ?_) (fun h_12 => ?_)
    · have hd := hd.1 h_12
      refine lv_sipush (v := (20003 : Int32)) K.1 K.2.1 dX2_negation_107 (by decide) ?_
      exact bd_X2_negation_110 K KX hr r h5 rec hrec  (20003 : Int32) g_9 _ _ _  hd hw (lv_sub hl [] rfl)
    · have hd := hd.2 h_12
      refine lv_sipush (v := (20002 : Int32)) K.1 K.2.1 dX2_negation_101 (by decide) ?_
      refine lv_goto (tgt := 110) K.1 K.2.1 dX2_negation_104 (by decide) ?_
      exact bd_X2_negation_110 K KX hr r h5 rec hrec  (20002 : Int32) g_9 _ _ _  hd hw (lv_sub hl [] rfl)
  · have hd := hd.2 h_11
    refine lv_iconst (v := (0 : Int32)) K.1 K.2.1 dX2_negation_92 (by decide) ?_
    exact rk_zret K hw hr (by decide) hd dX2_negation_93
set_option maxHeartbeats 4000000 in
set_option maxRecDepth 100000 in
theorem cg_X2_negation (l : Launch) (D : va_G) (cy : Nat → ClassId) (nt : Nat) (ad : Nat → Nat) (A : Nat → Prop) (X : Nat → Nat) (r : Nat) (h5 : 10 ≤ r) (rec : RT) (hrec : HrecD l D cy nt ad A X rec r) (g0 : Sg) (Q : Int32 → Sg → Prop) (x1 : Int32) (hd : vb_X2_negation rec nt x1 g0 Q) : Met l yX2_negation (Cond.code yX2_negation cX2_negation 3 (some .boolean) :: TT) (rmD (r + 1)) (va_Pc [.ref (ad 10), .int x1] (PreC (wsD cy ad) D cy A X g0)) (va_Qi Q (PostG (wsD cy ad) D A) A) 0 0 A := by
  unfold vb_X2_negation at hd
  refine Met.ofW (cc := cX2_negation) (maxL := 3) (ret := (some .boolean)) (by decide) rfl ?_
  intro p e s m args below meth c s₁ B hml hv
  obtain ⟨rfl, ⟨hP, hK0, hD⟩, KX⟩ := hv
  have K : Kx p s m _ meth c cX2_negation 3 RX2 D cy := ⟨B.exec, B.bytes, hml, findClass_of_methodNamed B.named, fun w h => atoms_spec (ws := Cond.code yX2_negation cX2_negation 3 (some .boolean) :: TT) B.pre w (List.mem_cons_of_mem _ h), hK0, B.notSynchronized⟩
  have hw : Wd D A s.heap (wsD cy ad g0) s.heap [] := ⟨hP, hD, va_S.rf⟩
  have hr := B.returns
  have hl := lv_entry ([.ref (ad 10), .int x1]) (n := 3) (Nat.le_of_ble_eq_true rfl)
  rw [lg_entry_eq]
  generalize (lg_sl ([.ref (ad 10), .int x1]) ++ List.replicate (3 - (lg_sl ([.ref (ad 10), .int x1])).length) Slot.unset).toArray = ls at hl ⊢
  have hl : lv_has ls 3 [(0, .ref (ad 10)), (1, .int x1)] := hl
  refine lv_aload_n K.1 K.2.1 dX2_negation_0 rfl (lv_at hl 0 rfl) ?_
  refine rc_get layX2 (ci := 2) rfl 0 (by decide) (v := .ref (ad 8)) K hw (wcd_Pr cy ad _) kf_X2_15 rfl dX2_negation_1 ?_
  refine rc_get layX5 (ci := 5) rfl 3 (by decide) (v := .int (g0 8 3)) K hw (wcd_Tp cy ad _) kf_X2_32 rfl dX2_negation_4 ?_
  refine lv_bipush (v := (9 : Int32)) K.1 K.2.1 dX2_negation_7 (by decide) ?_
  refine lv_icmp_ne (tgt := 47) K.1 K.2.1 dX2_negation_9 (by decide) (fun h_1 => ?_) (fun h_1 => ?_)
  · have hd := hd.1 h_1
    refine lv_aload_n K.1 K.2.1 dX2_negation_47 rfl (lv_at hl 0 rfl) ?_
    refine lv_iload_n K.1 K.2.1 dX2_negation_48 rfl (lv_at hl 1 rfl) ?_
    refine rkc_vi (As := [.int x1]) (rest := []) K KX hw (hrec.2.2.2.1 g0 _ x1 hd) lk_X2_65 (ci := 2) rfl (wcd_Pr cy ad _) ⟨by show r + 1 ≤ r + 1; omega, by show 8 + (4 + 11) + 60 * r ≤ 60 * (r + 1); omega⟩ ⟨Nat.zero_le _, Nat.zero_le _⟩ rfl hl.1 (Nat.le_of_ble_eq_true rfl) rfl dX2_negation_49 (fun r_3 g_2 H locs hd hw => ?_)
    refine lv_if_ne (tgt := 57) K.1 K.2.1 dX2_negation_52 (by decide) (fun h_4 => ?_) (fun h_4 => ?_)
    · have hd := hd.1 h_4
      refine lv_aload_n K.1 K.2.1 dX2_negation_57 rfl (lv_at hl 0 rfl) ?_
      refine rc_get layX2 (ci := 2) rfl 0 (by decide) (v := .ref (ad 8)) K hw (wcd_Pr cy ad _) kf_X2_15 rfl dX2_negation_58 ?_
      refine rc_get layX5 (ci := 5) rfl 3 (by decide) (v := .int (g_2 8 3)) K hw (wcd_Tp cy ad _) kf_X2_32 rfl dX2_negation_61 ?_
      refine lv_topi (fun x2_5 ex2_5 => ?_)
      have hd := hd x2_5 ex2_5
      refine lv_istore_n (lv' := [(2, .int x2_5), (0, .ref (ad 10)), (1, .int x1)]) K.1 K.2.1 dX2_negation_64 rfl hl (by decide) rfl (fun ls hl => ?_)
      refine lv_iload_n K.1 K.2.1 dX2_negation_65 rfl (lv_at hl 0 rfl) ?_
      refine lv_bipush (v := (60 : Int32)) K.1 K.2.1 dX2_negation_66 (by decide) ?_
      refine lv_icmp_eq (tgt := 77) K.1 K.2.1 dX2_negation_68 (by decide) (fun h_6 => ?_) (fun h_6 => ?_)
      · have hd := hd.1 h_6
        exact bd_X2_negation_77 K KX hr r h5 rec hrec  x1 x2_5 g_2 _ _ _  hd hw (lv_sub hl [1, 2, 0] rfl)
      · have hd := hd.2 h_6
        refine lv_iload_n K.1 K.2.1 dX2_negation_71 rfl (lv_at hl 0 rfl) ?_
        refine lv_bipush (v := (61 : Int32)) K.1 K.2.1 dX2_negation_72 (by decide) ?_
        refine lv_icmp_ne (tgt := 113) K.1 K.2.1 dX2_negation_74 (by decide) (fun h_15 => ?_) (fun h_15 => ?_)
        · have hd := hd.1 h_15
          refine lv_iconst (v := (1 : Int32)) K.1 K.2.1 dX2_negation_113 (by decide) ?_
          exact rk_zret K hw hr (by decide) hd dX2_negation_114
        · have hd := hd.2 h_15
          exact bd_X2_negation_77 K KX hr r h5 rec hrec  x1 x2_5 g_2 _ _ _  hd hw (lv_sub hl [1, 2, 0] rfl)
    · have hd := hd.2 h_4
      refine lv_iconst (v := (0 : Int32)) K.1 K.2.1 dX2_negation_55 (by decide) ?_
      exact rk_zret K hw hr (by decide) hd dX2_negation_56
  · have hd := hd.2 h_1
    refine lv_iload_n K.1 K.2.1 dX2_negation_12 rfl (lv_at hl 1 rfl) ?_
    refine lv_iconst (v := (5 : Int32)) K.1 K.2.1 dX2_negation_13 (by decide) ?_
    refine lv_icmp_lt (tgt := 19) K.1 K.2.1 dX2_negation_14 (by decide) (fun h_16 => ?_) (fun h_16 => ?_)
    · have hd := hd.1 h_16
      refine lv_aload_n K.1 K.2.1 dX2_negation_19 rfl (lv_at hl 0 rfl) ?_
      refine rc_get layX2 (ci := 2) rfl 0 (by decide) (v := .ref (ad 8)) K hw (wcd_Pr cy ad _) kf_X2_15 rfl dX2_negation_20 ?_
      refine rkc_vv (As := []) (rest := []) K KX hw (cd_X5_advance l D cy nt ad A X g0 _  hd) lk_X2_52 (ci := 5) rfl (wcd_Tp cy ad _) ⟨by show 7 + 1 ≤ r + 1; omega, by show 8 + (2 + 11) + 60 * 7 ≤ 60 * (r + 1); omega⟩ ⟨Nat.zero_le _, Nat.zero_le _⟩ rfl hl.1 (Nat.le_of_ble_eq_true rfl) rfl dX2_negation_23 (fun g_17 H locs hd hw => ?_)
      refine lv_aload_n K.1 K.2.1 dX2_negation_26 rfl (lv_at hl 0 rfl) ?_
      refine lv_iload_n K.1 K.2.1 dX2_negation_27 rfl (lv_at hl 1 rfl) ?_
      refine lv_iconst (v := (1 : Int32)) K.1 K.2.1 dX2_negation_28 (by decide) ?_
      refine lv_iadd K.1 K.2.1 dX2_negation_29 ?_
      refine rkc_vi (As := [.int (x1 + (1 : Int32))]) (rest := []) K KX hw (hrec.2.2.1 g_17 _ (x1 + (1 : Int32)) hd) lk_X2_62 (ci := 2) rfl (wcd_Pr cy ad _) ⟨by show r + 1 ≤ r + 1; omega, by show 8 + (3 + 11) + 60 * r ≤ 60 * (r + 1); omega⟩ ⟨Nat.zero_le _, Nat.zero_le _⟩ rfl hl.1 (Nat.le_of_ble_eq_true rfl) rfl dX2_negation_30 (fun r_20 g_19 H locs hd hw => ?_)
      refine lv_if_ne (tgt := 38) K.1 K.2.1 dX2_negation_33 (by decide) (fun h_21 => ?_) (fun h_21 => ?_)
      · have hd := hd.1 h_21
        refine lv_aload_n K.1 K.2.1 dX2_negation_38 rfl (lv_at hl 0 rfl) ?_
        refine lv_sipush (v := (20007 : Int32)) K.1 K.2.1 dX2_negation_39 (by decide) ?_
        refine rkc_vv (As := [.int (20007 : Int32)]) (rest := []) K KX hw (cd_X2_emit l D cy nt ad A X g_19 _ (20007 : Int32) hd) lk_X2_58 (ci := 2) rfl (wcd_Pr cy ad _) ⟨by show 1 + 1 ≤ r + 1; omega, by show 8 + (2 + 11) + 60 * 1 ≤ 60 * (r + 1); omega⟩ ⟨Nat.zero_le _, Nat.zero_le _⟩ rfl hl.1 (Nat.le_of_ble_eq_true rfl) rfl dX2_negation_42 (fun g_22 H locs hd hw => ?_)
        refine lv_iconst (v := (1 : Int32)) K.1 K.2.1 dX2_negation_45 (by decide) ?_
        exact rk_zret K hw hr (by decide) hd dX2_negation_46
      · have hd := hd.2 h_21
        refine lv_iconst (v := (0 : Int32)) K.1 K.2.1 dX2_negation_36 (by decide) ?_
        exact rk_zret K hw hr (by decide) hd dX2_negation_37
    · have hd := hd.2 h_16
      refine lv_iconst (v := (0 : Int32)) K.1 K.2.1 dX2_negation_17 (by decide) ?_
      exact rk_zret K hw hr (by decide) hd dX2_negation_18
set_option maxHeartbeats 4000000 in
set_option maxRecDepth 100000 in
theorem bd_X2_sum_84 {p : Program} {l : Launch} {e : Env} {s : State} {m : MethodId} {args : Array Value} {below : List Frame} {meth : Method} {c : Code} {D : va_G} {cy : Nat → ClassId} {nt : Nat} {ad : Nat → Nat} {A : Nat → Prop} {X : Nat → Nat} {Q : Int32 → Sg → Prop} (K : Kx p s m args meth c cX2_sum 4 RX2 D cy) (KX : XC X A s s.heap) (hr : meth.sig.returnType = (some .boolean)) (r : Nat) (h5 : 10 ≤ r) (rec : RT) (hrec : HrecD l D cy nt ad A X rec r) {rc12 : Int32 → Int32 → Sg → Prop} (hrc12 : ∀ (x1 : Int32) (x2 : Int32) (u : Sg) (H : Heap) (locs : List Loc) (ls : Array Slot), rc12 x1 x2 u → Wd D A s.heap (wsD cy ad u) H locs → lv_has ls 4 [(0, .ref (ad 10)), (1, .int x1), (2, .int x2)] → W p l e (rmD (r + 1)) s m args below meth c H locs 0 0 (MQ below (va_Qi Q (PostG (wsD cy ad) D A) A) args s 0 0 A) (F0 m 12 ls [])) (x1 : Int32) (x2 : Int32) (t1 : Int32) (g0 : Sg) (H : Heap) (locs : List Loc) (ls : Array Slot) (hd : vb_X2_sum_J84 rec nt rc12 x1 x2 t1 g0 Q) (hw : Wd D A s.heap (wsD cy ad g0) H locs) (hl : lv_has ls 4 [(0, .ref (ad 10)), (1, .int x1), (2, .int x2)]) : W p l e (rmD (r + 1)) s m args below meth c H locs 0 0 (MQ below (va_Qi Q (PostG (wsD cy ad) D A) A) args s 0 0 A) (F0 m 84 ls [.int t1, .ref (ad 10)]) := by
  unfold vb_X2_sum_J84 at hd
  refine rkc_vv (As := [.int t1]) (rest := []) K KX hw (cd_X2_emit l D cy nt ad A X g0 _ t1 hd) lk_X2_58 (ci := 2) rfl (wcd_Pr cy ad _) ⟨by show 1 + 1 ≤ r + 1; omega, by show 8 + (2 + 11) + 60 * 1 ≤ 60 * (r + 1); omega⟩ ⟨Nat.zero_le _, Nat.zero_le _⟩ rfl hl.1 (Nat.le_of_ble_eq_true rfl) rfl dX2_sum_84 (fun g_14 H locs hd hw => ?_)
  obtain ⟨x2_16, ex2_16⟩ : ∃ y : Int32, y = x2 + (1 : Int32) := ⟨_, rfl⟩
  have hd := hd x2_16 ex2_16
  refine lv_iinc (v := x2_16) (lv' := [(2, .int x2_16), (0, .ref (ad 10)), (1, .int x1)]) K.1 K.2.1 dX2_sum_87 hl (k := 2) rfl (by rw [ex2_16]; rfl) (by decide) rfl (fun ls hl => ?_)
  refine lv_goto (tgt := 12) K.1 K.2.1 dX2_sum_90 (by decide) ?_
  exact hrc12 x1 x2_16 g_14 _ _ _  hd hw (lv_sub hl [1, 2, 0] rfl)
set_option maxHeartbeats 4000000 in
set_option maxRecDepth 100000 in
theorem bd_X2_sum_43 {p : Program} {l : Launch} {e : Env} {s : State} {m : MethodId} {args : Array Value} {below : List Frame} {meth : Method} {c : Code} {D : va_G} {cy : Nat → ClassId} {nt : Nat} {ad : Nat → Nat} {A : Nat → Prop} {X : Nat → Nat} {Q : Int32 → Sg → Prop} (K : Kx p s m args meth c cX2_sum 4 RX2 D cy) (KX : XC X A s s.heap) (hr : meth.sig.returnType = (some .boolean)) (r : Nat) (h5 : 10 ≤ r) (rec : RT) (hrec : HrecD l D cy nt ad A X rec r) {rc12 : Int32 → Int32 → Sg → Prop} (hrc12 : ∀ (x1 : Int32) (x2 : Int32) (u : Sg) (H : Heap) (locs : List Loc) (ls : Array Slot), rc12 x1 x2 u → Wd D A s.heap (wsD cy ad u) H locs → lv_has ls 4 [(0, .ref (ad 10)), (1, .int x1), (2, .int x2)] → W p l e (rmD (r + 1)) s m args below meth c H locs 0 0 (MQ below (va_Qi Q (PostG (wsD cy ad) D A) A) args s 0 0 A) (F0 m 12 ls [])) (x1 : Int32) (x2 : Int32)  (g0 : Sg) (H : Heap) (locs : List Loc) (ls : Array Slot) (hd : vb_X2_sum_J43 rec nt rc12 x1 x2 g0 Q) (hw : Wd D A s.heap (wsD cy ad g0) H locs) (hl : lv_has ls 4 [(0, .ref (ad 10)), (1, .int x1), (2, .int x2)]) : W p l e (rmD (r + 1)) s m args below meth c H locs 0 0 (MQ below (va_Qi Q (PostG (wsD cy ad) D A) A) args s 0 0 A) (F0 m 43 ls []) := by
  unfold vb_X2_sum_J43 at hd
  refine lv_aload_n K.1 K.2.1 dX2_sum_43 rfl (lv_at hl 0 rfl) ?_
  refine rc_get layX2 (ci := 2) rfl 0 (by decide) (v := .ref (ad 8)) K hw (wcd_Pr cy ad _) kf_X2_15 rfl dX2_sum_44 ?_
  refine rc_get layX5 (ci := 5) rfl 3 (by decide) (v := .int (g0 8 3)) K hw (wcd_Tp cy ad _) kf_X2_32 rfl dX2_sum_47 ?_
  refine lv_topi (fun x3_7 ex3_7 => ?_)
  have hd := hd x3_7 ex3_7
  refine lv_istore_n (lv' := [(3, .int x3_7), (0, .ref (ad 10)), (1, .int x1), (2, .int x2)]) K.1 K.2.1 dX2_sum_50 rfl hl (by decide) rfl (fun ls hl => ?_)
  refine lv_aload_n K.1 K.2.1 dX2_sum_51 rfl (lv_at hl 1 rfl) ?_
  refine rc_get layX2 (ci := 2) rfl 0 (by decide) (v := .ref (ad 8)) K hw (wcd_Pr cy ad _) kf_X2_15 rfl dX2_sum_52 ?_
  refine rkc_vv (As := []) (rest := []) K KX hw (cd_X5_advance l D cy nt ad A X g0 _  hd) lk_X2_52 (ci := 5) rfl (wcd_Tp cy ad _) ⟨by show 7 + 1 ≤ r + 1; omega, by show 8 + (2 + 11) + 60 * 7 ≤ 60 * (r + 1); omega⟩ ⟨Nat.zero_le _, Nat.zero_le _⟩ rfl hl.1 (Nat.le_of_ble_eq_true rfl) rfl dX2_sum_55 (fun g_8 H locs hd hw => ?_)
  refine lv_aload_n K.1 K.2.1 dX2_sum_58 rfl (lv_at hl 1 rfl) ?_
  refine lv_iload_n K.1 K.2.1 dX2_sum_59 rfl (lv_at hl 2 rfl) ?_
  refine rkc_vi (As := [.int x1]) (rest := []) K KX hw (hrec.2.2.2.2.1 g_8 _ x1 hd) lk_X2_68 (ci := 2) rfl (wcd_Pr cy ad _) ⟨by show r + 1 ≤ r + 1; omega, by show 8 + (3 + 11) + 60 * r ≤ 60 * (r + 1); omega⟩ ⟨Nat.zero_le _, Nat.zero_le _⟩ rfl hl.1 (Nat.le_of_ble_eq_true rfl) rfl dX2_sum_60 (fun r_11 g_10 H locs hd hw => ?_)
  refine lv_if_ne (tgt := 68) K.1 K.2.1 dX2_sum_63 (by decide) (fun h_12 => ?_) (fun h_12 => ?_)
  · have hd := hd.1 h_12
    refine lv_aload_n K.1 K.2.1 dX2_sum_68 rfl (lv_at hl 1 rfl) ?_
    refine lv_iload_n K.1 K.2.1 dX2_sum_69 rfl (lv_at hl 0 rfl) ?_
    refine lv_bipush (v := (43 : Int32)) K.1 K.2.1 dX2_sum_70 (by decide) ?_
    refine lv_icmp_ne (tgt := 81) K.1 K.2.1 dX2_sum_72 (by decide) (fun h_13 => ?_) (fun h_13 => ?_)
    · have hd := hd.1 h_13
      refine lv_sipush (v := (20005 : Int32)) K.1 K.2.1 dX2_sum_81 (by decide) ?_
      exact bd_X2_sum_84 K KX hr r h5 rec hrec hrc12 x1 x2 (20005 : Int32) g_10 _ _ _  hd hw (lv_sub hl [1, 2, 3] rfl)
    · have hd := hd.2 h_13
      refine lv_sipush (v := (20004 : Int32)) K.1 K.2.1 dX2_sum_75 (by decide) ?_
      refine lv_goto (tgt := 84) K.1 K.2.1 dX2_sum_78 (by decide) ?_
      exact bd_X2_sum_84 K KX hr r h5 rec hrec hrc12 x1 x2 (20004 : Int32) g_10 _ _ _  hd hw (lv_sub hl [1, 2, 3] rfl)
  · have hd := hd.2 h_12
    refine lv_iconst (v := (0 : Int32)) K.1 K.2.1 dX2_sum_66 (by decide) ?_
    exact rk_zret K hw hr (by decide) hd dX2_sum_67
set_option maxHeartbeats 4000000 in
set_option maxRecDepth 100000 in
theorem bd_X2_sum_12 {p : Program} {l : Launch} {e : Env} {s : State} {m : MethodId} {args : Array Value} {below : List Frame} {meth : Method} {c : Code} {D : va_G} {cy : Nat → ClassId} {nt : Nat} {ad : Nat → Nat} {A : Nat → Prop} {X : Nat → Nat} {Q : Int32 → Sg → Prop} (K : Kx p s m args meth c cX2_sum 4 RX2 D cy) (KX : XC X A s s.heap) (hr : meth.sig.returnType = (some .boolean)) (r : Nat) (h5 : 10 ≤ r) (rec : RT) (hrec : HrecD l D cy nt ad A X rec r) : ∀ (n : Nat) (x1 : Int32) (x2 : Int32)  (g0 : Sg) (H : Heap) (locs : List Loc) (ls : Array Slot), vb_X2_sum_L12 rec nt Q n x1 x2 g0 → Wd D A s.heap (wsD cy ad g0) H locs → lv_has ls 4 [(0, .ref (ad 10)), (1, .int x1), (2, .int x2)] → W p l e (rmD (r + 1)) s m args below meth c H locs 0 0 (MQ below (va_Qi Q (PostG (wsD cy ad) D A) A) args s 0 0 A) (F0 m 12 ls []) := by
  intro n
  induction n with
  | zero => intro _ _ _ _ _ _ hd; exact hd.elim
  | succ n ih =>
    intro x1 x2 g0 H locs ls  hd hw hl
    unfold vb_X2_sum_L12 at hd
    refine lv_iload_n K.1 K.2.1 dX2_sum_12 rfl (lv_at hl 2 rfl) ?_
    refine lv_sipush (v := (160 : Int32)) K.1 K.2.1 dX2_sum_13 (by decide) ?_
    refine lv_icmp_ge (tgt := 93) K.1 K.2.1 dX2_sum_16 (by decide) (fun h_5 => ?_) (fun h_5 => ?_)
    · have hd := hd.1 h_5
      refine lv_iconst (v := (1 : Int32)) K.1 K.2.1 dX2_sum_93 (by decide) ?_
      exact rk_zret K hw hr (by decide) hd dX2_sum_94
    · have hd := hd.2 h_5
      refine lv_aload_n K.1 K.2.1 dX2_sum_19 rfl (lv_at hl 0 rfl) ?_
      refine rc_get layX2 (ci := 2) rfl 0 (by decide) (v := .ref (ad 8)) K hw (wcd_Pr cy ad _) kf_X2_15 rfl dX2_sum_20 ?_
      refine rc_get layX5 (ci := 5) rfl 3 (by decide) (v := .int (g0 8 3)) K hw (wcd_Tp cy ad _) kf_X2_32 rfl dX2_sum_23 ?_
      refine lv_bipush (v := (43 : Int32)) K.1 K.2.1 dX2_sum_26 (by decide) ?_
      refine lv_icmp_eq (tgt := 43) K.1 K.2.1 dX2_sum_28 (by decide) (fun h_6 => ?_) (fun h_6 => ?_)
      · have hd := hd.1 h_6
        exact bd_X2_sum_43 K KX hr r h5 rec hrec ih x1 x2 g0 _ _ _  hd hw (lv_sub hl [0, 1, 2] rfl)
      · have hd := hd.2 h_6
        refine lv_aload_n K.1 K.2.1 dX2_sum_31 rfl (lv_at hl 0 rfl) ?_
        refine rc_get layX2 (ci := 2) rfl 0 (by decide) (v := .ref (ad 8)) K hw (wcd_Pr cy ad _) kf_X2_15 rfl dX2_sum_32 ?_
        refine rc_get layX5 (ci := 5) rfl 3 (by decide) (v := .int (g0 8 3)) K hw (wcd_Tp cy ad _) kf_X2_32 rfl dX2_sum_35 ?_
        refine lv_bipush (v := (45 : Int32)) K.1 K.2.1 dX2_sum_38 (by decide) ?_
        refine lv_icmp_ne (tgt := 93) K.1 K.2.1 dX2_sum_40 (by decide) (fun h_17 => ?_) (fun h_17 => ?_)
        · have hd := hd.1 h_17
          refine lv_iconst (v := (1 : Int32)) K.1 K.2.1 dX2_sum_93 (by decide) ?_
          exact rk_zret K hw hr (by decide) hd dX2_sum_94
        · have hd := hd.2 h_17
          exact bd_X2_sum_43 K KX hr r h5 rec hrec ih x1 x2 g0 _ _ _  hd hw (lv_sub hl [0, 1, 2] rfl)
set_option maxHeartbeats 4000000 in
set_option maxRecDepth 100000 in
theorem cg_X2_sum (l : Launch) (D : va_G) (cy : Nat → ClassId) (nt : Nat) (ad : Nat → Nat) (A : Nat → Prop) (X : Nat → Nat) (r : Nat) (h5 : 10 ≤ r) (rec : RT) (hrec : HrecD l D cy nt ad A X rec r) (g0 : Sg) (Q : Int32 → Sg → Prop) (x1 : Int32) (hd : vb_X2_sum rec nt x1 g0 Q) : Met l yX2_sum (Cond.code yX2_sum cX2_sum 4 (some .boolean) :: TT) (rmD (r + 1)) (va_Pc [.ref (ad 10), .int x1] (PreC (wsD cy ad) D cy A X g0)) (va_Qi Q (PostG (wsD cy ad) D A) A) 0 0 A := by
  unfold vb_X2_sum at hd
  refine Met.ofW (cc := cX2_sum) (maxL := 4) (ret := (some .boolean)) (by decide) rfl ?_
  intro p e s m args below meth c s₁ B hml hv
  obtain ⟨rfl, ⟨hP, hK0, hD⟩, KX⟩ := hv
  have K : Kx p s m _ meth c cX2_sum 4 RX2 D cy := ⟨B.exec, B.bytes, hml, findClass_of_methodNamed B.named, fun w h => atoms_spec (ws := Cond.code yX2_sum cX2_sum 4 (some .boolean) :: TT) B.pre w (List.mem_cons_of_mem _ h), hK0, B.notSynchronized⟩
  have hw : Wd D A s.heap (wsD cy ad g0) s.heap [] := ⟨hP, hD, va_S.rf⟩
  have hr := B.returns
  have hl := lv_entry ([.ref (ad 10), .int x1]) (n := 4) (Nat.le_of_ble_eq_true rfl)
  rw [lg_entry_eq]
  generalize (lg_sl ([.ref (ad 10), .int x1]) ++ List.replicate (4 - (lg_sl ([.ref (ad 10), .int x1])).length) Slot.unset).toArray = ls at hl ⊢
  have hl : lv_has ls 4 [(0, .ref (ad 10)), (1, .int x1)] := hl
  refine lv_aload_n K.1 K.2.1 dX2_sum_0 rfl (lv_at hl 0 rfl) ?_
  refine lv_iload_n K.1 K.2.1 dX2_sum_1 rfl (lv_at hl 1 rfl) ?_
  refine rkc_vi (As := [.int x1]) (rest := []) K KX hw (hrec.2.2.2.2.1 g0 _ x1 hd) lk_X2_68 (ci := 2) rfl (wcd_Pr cy ad _) ⟨by show r + 1 ≤ r + 1; omega, by show 8 + (3 + 11) + 60 * r ≤ 60 * (r + 1); omega⟩ ⟨Nat.zero_le _, Nat.zero_le _⟩ rfl hl.1 (Nat.le_of_ble_eq_true rfl) rfl dX2_sum_2 (fun r_2 g_1 H locs hd hw => ?_)
  refine lv_if_ne (tgt := 10) K.1 K.2.1 dX2_sum_5 (by decide) (fun h_3 => ?_) (fun h_3 => ?_)
  · have hd := hd.1 h_3
    refine lv_iconst (v := (0 : Int32)) K.1 K.2.1 dX2_sum_10 (by decide) ?_
    refine lv_topi (fun x2_4 ex2_4 => ?_)
    have hd := hd x2_4 ex2_4
    refine lv_istore_n (lv' := [(2, .int x2_4), (0, .ref (ad 10)), (1, .int x1)]) K.1 K.2.1 dX2_sum_11 rfl hl (by decide) rfl (fun ls hl => ?_)
    obtain ⟨n9, hd⟩ := hd
    exact bd_X2_sum_12 K KX hr r h5 rec hrec  n9 x1 x2_4 g_1 _ _ _  hd hw (lv_sub hl [1, 2, 0] rfl)
  · have hd := hd.2 h_3
    refine lv_iconst (v := (0 : Int32)) K.1 K.2.1 dX2_sum_8 (by decide) ?_
    exact rk_zret K hw hr (by decide) hd dX2_sum_9
set_option maxHeartbeats 4000000 in
set_option maxRecDepth 100000 in
theorem bd_X2_term_12 {p : Program} {l : Launch} {e : Env} {s : State} {m : MethodId} {args : Array Value} {below : List Frame} {meth : Method} {c : Code} {D : va_G} {cy : Nat → ClassId} {nt : Nat} {ad : Nat → Nat} {A : Nat → Prop} {X : Nat → Nat} {Q : Int32 → Sg → Prop} (K : Kx p s m args meth c cX2_term 3 RX2 D cy) (KX : XC X A s s.heap) (hr : meth.sig.returnType = (some .boolean)) (r : Nat) (h5 : 10 ≤ r) (rec : RT) (hrec : HrecD l D cy nt ad A X rec r) : ∀ (n : Nat) (x1 : Int32) (x2 : Int32)  (g0 : Sg) (H : Heap) (locs : List Loc) (ls : Array Slot), vb_X2_term_L12 rec nt Q n x1 x2 g0 → Wd D A s.heap (wsD cy ad g0) H locs → lv_has ls 3 [(0, .ref (ad 10)), (1, .int x1), (2, .int x2)] → W p l e (rmD (r + 1)) s m args below meth c H locs 0 0 (MQ below (va_Qi Q (PostG (wsD cy ad) D A) A) args s 0 0 A) (F0 m 12 ls []) := by
  intro n
  induction n with
  | zero => intro _ _ _ _ _ _ hd; exact hd.elim
  | succ n ih =>
    intro x1 x2 g0 H locs ls  hd hw hl
    unfold vb_X2_term_L12 at hd
    refine lv_iload_n K.1 K.2.1 dX2_term_12 rfl (lv_at hl 2 rfl) ?_
    refine lv_sipush (v := (160 : Int32)) K.1 K.2.1 dX2_term_13 (by decide) ?_
    refine lv_icmp_ge (tgt := 61) K.1 K.2.1 dX2_term_16 (by decide) (fun h_5 => ?_) (fun h_5 => ?_)
    · have hd := hd.1 h_5
      refine lv_iconst (v := (1 : Int32)) K.1 K.2.1 dX2_term_61 (by decide) ?_
      exact rk_zret K hw hr (by decide) hd dX2_term_62
    · have hd := hd.2 h_5
      refine lv_aload_n K.1 K.2.1 dX2_term_19 rfl (lv_at hl 0 rfl) ?_
      refine rc_get layX2 (ci := 2) rfl 0 (by decide) (v := .ref (ad 8)) K hw (wcd_Pr cy ad _) kf_X2_15 rfl dX2_term_20 ?_
      refine rc_get layX5 (ci := 5) rfl 3 (by decide) (v := .int (g0 8 3)) K hw (wcd_Tp cy ad _) kf_X2_32 rfl dX2_term_23 ?_
      refine lv_bipush (v := (42 : Int32)) K.1 K.2.1 dX2_term_26 (by decide) ?_
      refine lv_icmp_ne (tgt := 61) K.1 K.2.1 dX2_term_28 (by decide) (fun h_6 => ?_) (fun h_6 => ?_)
      · have hd := hd.1 h_6
        refine lv_iconst (v := (1 : Int32)) K.1 K.2.1 dX2_term_61 (by decide) ?_
        exact rk_zret K hw hr (by decide) hd dX2_term_62
      · have hd := hd.2 h_6
        refine lv_aload_n K.1 K.2.1 dX2_term_31 rfl (lv_at hl 0 rfl) ?_
        refine rc_get layX2 (ci := 2) rfl 0 (by decide) (v := .ref (ad 8)) K hw (wcd_Pr cy ad _) kf_X2_15 rfl dX2_term_32 ?_
        refine rkc_vv (As := []) (rest := []) K KX hw (cd_X5_advance l D cy nt ad A X g0 _  hd) lk_X2_52 (ci := 5) rfl (wcd_Tp cy ad _) ⟨by show 7 + 1 ≤ r + 1; omega, by show 8 + (2 + 11) + 60 * 7 ≤ 60 * (r + 1); omega⟩ ⟨Nat.zero_le _, Nat.zero_le _⟩ rfl hl.1 (Nat.le_of_ble_eq_true rfl) rfl dX2_term_35 (fun g_7 H locs hd hw => ?_)
        refine lv_aload_n K.1 K.2.1 dX2_term_38 rfl (lv_at hl 0 rfl) ?_
        refine lv_iload_n K.1 K.2.1 dX2_term_39 rfl (lv_at hl 1 rfl) ?_
        refine rkc_vi (As := [.int x1]) (rest := []) K KX hw (hrec.2.2.2.2.2 g_7 _ x1 hd) lk_X2_71 (ci := 2) rfl (wcd_Pr cy ad _) ⟨by show r + 1 ≤ r + 1; omega, by show 8 + (3 + 11) + 60 * r ≤ 60 * (r + 1); omega⟩ ⟨Nat.zero_le _, Nat.zero_le _⟩ rfl hl.1 (Nat.le_of_ble_eq_true rfl) rfl dX2_term_40 (fun r_10 g_9 H locs hd hw => ?_)
        refine lv_if_ne (tgt := 48) K.1 K.2.1 dX2_term_43 (by decide) (fun h_11 => ?_) (fun h_11 => ?_)
        · have hd := hd.1 h_11
          refine lv_aload_n K.1 K.2.1 dX2_term_48 rfl (lv_at hl 0 rfl) ?_
          refine lv_sipush (v := (20006 : Int32)) K.1 K.2.1 dX2_term_49 (by decide) ?_
          refine rkc_vv (As := [.int (20006 : Int32)]) (rest := []) K KX hw (cd_X2_emit l D cy nt ad A X g_9 _ (20006 : Int32) hd) lk_X2_58 (ci := 2) rfl (wcd_Pr cy ad _) ⟨by show 1 + 1 ≤ r + 1; omega, by show 8 + (2 + 11) + 60 * 1 ≤ 60 * (r + 1); omega⟩ ⟨Nat.zero_le _, Nat.zero_le _⟩ rfl hl.1 (Nat.le_of_ble_eq_true rfl) rfl dX2_term_52 (fun g_12 H locs hd hw => ?_)
          obtain ⟨x2_14, ex2_14⟩ : ∃ y : Int32, y = x2 + (1 : Int32) := ⟨_, rfl⟩
          have hd := hd x2_14 ex2_14
          refine lv_iinc (v := x2_14) (lv' := [(2, .int x2_14), (0, .ref (ad 10)), (1, .int x1)]) K.1 K.2.1 dX2_term_55 hl (k := 2) rfl (by rw [ex2_14]; rfl) (by decide) rfl (fun ls hl => ?_)
          refine lv_goto (tgt := 12) K.1 K.2.1 dX2_term_58 (by decide) ?_
          exact ih x1 x2_14 g_12 _ _ _  hd hw (lv_sub hl [1, 2, 0] rfl)
        · have hd := hd.2 h_11
          refine lv_iconst (v := (0 : Int32)) K.1 K.2.1 dX2_term_46 (by decide) ?_
          exact rk_zret K hw hr (by decide) hd dX2_term_47
set_option maxHeartbeats 4000000 in
set_option maxRecDepth 100000 in
theorem cg_X2_term (l : Launch) (D : va_G) (cy : Nat → ClassId) (nt : Nat) (ad : Nat → Nat) (A : Nat → Prop) (X : Nat → Nat) (r : Nat) (h5 : 10 ≤ r) (rec : RT) (hrec : HrecD l D cy nt ad A X rec r) (g0 : Sg) (Q : Int32 → Sg → Prop) (x1 : Int32) (hd : vb_X2_term rec nt x1 g0 Q) : Met l yX2_term (Cond.code yX2_term cX2_term 3 (some .boolean) :: TT) (rmD (r + 1)) (va_Pc [.ref (ad 10), .int x1] (PreC (wsD cy ad) D cy A X g0)) (va_Qi Q (PostG (wsD cy ad) D A) A) 0 0 A := by
  unfold vb_X2_term at hd
  refine Met.ofW (cc := cX2_term) (maxL := 3) (ret := (some .boolean)) (by decide) rfl ?_
  intro p e s m args below meth c s₁ B hml hv
  obtain ⟨rfl, ⟨hP, hK0, hD⟩, KX⟩ := hv
  have K : Kx p s m _ meth c cX2_term 3 RX2 D cy := ⟨B.exec, B.bytes, hml, findClass_of_methodNamed B.named, fun w h => atoms_spec (ws := Cond.code yX2_term cX2_term 3 (some .boolean) :: TT) B.pre w (List.mem_cons_of_mem _ h), hK0, B.notSynchronized⟩
  have hw : Wd D A s.heap (wsD cy ad g0) s.heap [] := ⟨hP, hD, va_S.rf⟩
  have hr := B.returns
  have hl := lv_entry ([.ref (ad 10), .int x1]) (n := 3) (Nat.le_of_ble_eq_true rfl)
  rw [lg_entry_eq]
  generalize (lg_sl ([.ref (ad 10), .int x1]) ++ List.replicate (3 - (lg_sl ([.ref (ad 10), .int x1])).length) Slot.unset).toArray = ls at hl ⊢
  have hl : lv_has ls 3 [(0, .ref (ad 10)), (1, .int x1)] := hl
  refine lv_aload_n K.1 K.2.1 dX2_term_0 rfl (lv_at hl 0 rfl) ?_
  refine lv_iload_n K.1 K.2.1 dX2_term_1 rfl (lv_at hl 1 rfl) ?_
  refine rkc_vi (As := [.int x1]) (rest := []) K KX hw (hrec.2.2.2.2.2 g0 _ x1 hd) lk_X2_71 (ci := 2) rfl (wcd_Pr cy ad _) ⟨by show r + 1 ≤ r + 1; omega, by show 8 + (3 + 11) + 60 * r ≤ 60 * (r + 1); omega⟩ ⟨Nat.zero_le _, Nat.zero_le _⟩ rfl hl.1 (Nat.le_of_ble_eq_true rfl) rfl dX2_term_2 (fun r_2 g_1 H locs hd hw => ?_)
  refine lv_if_ne (tgt := 10) K.1 K.2.1 dX2_term_5 (by decide) (fun h_3 => ?_) (fun h_3 => ?_)
  · have hd := hd.1 h_3
    refine lv_iconst (v := (0 : Int32)) K.1 K.2.1 dX2_term_10 (by decide) ?_
    refine lv_topi (fun x2_4 ex2_4 => ?_)
    have hd := hd x2_4 ex2_4
    refine lv_istore_n (lv' := [(2, .int x2_4), (0, .ref (ad 10)), (1, .int x1)]) K.1 K.2.1 dX2_term_11 rfl hl (by decide) rfl (fun ls hl => ?_)
    obtain ⟨n9, hd⟩ := hd
    exact bd_X2_term_12 K KX hr r h5 rec hrec  n9 x1 x2_4 g_1 _ _ _  hd hw (lv_sub hl [1, 2, 0] rfl)
  · have hd := hd.2 h_3
    refine lv_iconst (v := (0 : Int32)) K.1 K.2.1 dX2_term_8 (by decide) ?_
    exact rk_zret K hw hr (by decide) hd dX2_term_9
set_option maxHeartbeats 4000000 in
set_option maxRecDepth 100000 in
theorem bd_X2_one_18 {p : Program} {l : Launch} {e : Env} {s : State} {m : MethodId} {args : Array Value} {below : List Frame} {meth : Method} {c : Code} {D : va_G} {cy : Nat → ClassId} {nt : Nat} {ad : Nat → Nat} {A : Nat → Prop} {X : Nat → Nat} {Q : Int32 → Sg → Prop} (K : Kx p s m args meth c cX2_one 3 RX2 D cy) (KX : XC X A s s.heap) (hr : meth.sig.returnType = (some .boolean)) (r : Nat) (h5 : 10 ≤ r) (rec : RT) (hrec : HrecD l D cy nt ad A X rec r)   (g0 : Sg) (H : Heap) (locs : List Loc) (ls : Array Slot) (hd : vb_X2_one_J18 rec nt g0 Q) (hw : Wd D A s.heap (wsD cy ad g0) H locs) (hl : lv_has ls 3 [(0, .ref (ad 10))]) : W p l e (rmD (r + 1)) s m args below meth c H locs 0 0 (MQ below (va_Qi Q (PostG (wsD cy ad) D A) A) args s 0 0 A) (F0 m 18 ls []) := by
  unfold vb_X2_one_J18 at hd
  refine lv_aload_n K.1 K.2.1 dX2_one_18 rfl (lv_at hl 0 rfl) ?_
  refine lv_aload_n K.1 K.2.1 dX2_one_19 rfl (lv_at hl 0 rfl) ?_
  refine rc_get layX2 (ci := 2) rfl 0 (by decide) (v := .ref (ad 8)) K hw (wcd_Pr cy ad _) kf_X2_15 rfl dX2_one_20 ?_
  refine rc_get layX5 (ci := 5) rfl 4 (by decide) (v := .int (g0 8 4)) K hw (wcd_Tp cy ad _) kf_X2_74 rfl dX2_one_23 ?_
  refine rkc_vv (As := [.int (g0 8 4)]) (rest := []) K KX hw (cd_X2_emit l D cy nt ad A X g0 _ (g0 8 4) hd) lk_X2_58 (ci := 2) rfl (wcd_Pr cy ad _) ⟨by show 1 + 1 ≤ r + 1; omega, by show 8 + (2 + 11) + 60 * 1 ≤ 60 * (r + 1); omega⟩ ⟨Nat.zero_le _, Nat.zero_le _⟩ rfl hl.1 (Nat.le_of_ble_eq_true rfl) rfl dX2_one_26 (fun g_3 H locs hd hw => ?_)
  refine lv_aload_n K.1 K.2.1 dX2_one_29 rfl (lv_at hl 0 rfl) ?_
  refine rc_get layX2 (ci := 2) rfl 0 (by decide) (v := .ref (ad 8)) K hw (wcd_Pr cy ad _) kf_X2_15 rfl dX2_one_30 ?_
  refine rkc_vv (As := []) (rest := []) K KX hw (cd_X5_advance l D cy nt ad A X g_3 _  hd) lk_X2_52 (ci := 5) rfl (wcd_Tp cy ad _) ⟨by show 7 + 1 ≤ r + 1; omega, by show 8 + (2 + 11) + 60 * 7 ≤ 60 * (r + 1); omega⟩ ⟨Nat.zero_le _, Nat.zero_le _⟩ rfl hl.1 (Nat.le_of_ble_eq_true rfl) rfl dX2_one_33 (fun g_5 H locs hd hw => ?_)
  refine lv_iconst (v := (1 : Int32)) K.1 K.2.1 dX2_one_36 (by decide) ?_
  exact rk_zret K hw hr (by decide) hd dX2_one_37
set_option maxHeartbeats 4000000 in
set_option maxRecDepth 100000 in
theorem bd_X2_one_50 {p : Program} {l : Launch} {e : Env} {s : State} {m : MethodId} {args : Array Value} {below : List Frame} {meth : Method} {c : Code} {D : va_G} {cy : Nat → ClassId} {nt : Nat} {ad : Nat → Nat} {A : Nat → Prop} {X : Nat → Nat} {Q : Int32 → Sg → Prop} (K : Kx p s m args meth c cX2_one 3 RX2 D cy) (KX : XC X A s s.heap) (hr : meth.sig.returnType = (some .boolean)) (r : Nat) (h5 : 10 ≤ r) (rec : RT) (hrec : HrecD l D cy nt ad A X rec r) (x1 : Int32) (x2 : Int32)  (g0 : Sg) (H : Heap) (locs : List Loc) (ls : Array Slot) (hd : vb_X2_one_J50 rec nt x1 x2 g0 Q) (hw : Wd D A s.heap (wsD cy ad g0) H locs) (hl : lv_has ls 3 [(0, .ref (ad 10)), (1, .int x1), (2, .int x2)]) : W p l e (rmD (r + 1)) s m args below meth c H locs 0 0 (MQ below (va_Qi Q (PostG (wsD cy ad) D A) A) args s 0 0 A) (F0 m 50 ls []) := by
  unfold vb_X2_one_J50 at hd
  refine lv_iload_n K.1 K.2.1 dX2_one_50 rfl (lv_at hl 1 rfl) ?_
  refine lv_iconst (v := (5 : Int32)) K.1 K.2.1 dX2_one_51 (by decide) ?_
  refine lv_icmp_lt (tgt := 57) K.1 K.2.1 dX2_one_52 (by decide) (fun h_9 => ?_) (fun h_9 => ?_)
  · have hd := hd.1 h_9
    refine lv_aload_n K.1 K.2.1 dX2_one_57 rfl (lv_at hl 0 rfl) ?_
    refine rc_get layX2 (ci := 2) rfl 0 (by decide) (v := .ref (ad 8)) K hw (wcd_Pr cy ad _) kf_X2_15 rfl dX2_one_58 ?_
    refine rkc_vv (As := []) (rest := []) K KX hw (cd_X5_advance l D cy nt ad A X g0 _  hd) lk_X2_52 (ci := 5) rfl (wcd_Tp cy ad _) ⟨by show 7 + 1 ≤ r + 1; omega, by show 8 + (2 + 11) + 60 * 7 ≤ 60 * (r + 1); omega⟩ ⟨Nat.zero_le _, Nat.zero_le _⟩ rfl hl.1 (Nat.le_of_ble_eq_true rfl) rfl dX2_one_61 (fun g_10 H locs hd hw => ?_)
    refine lv_iload_n K.1 K.2.1 dX2_one_64 rfl (lv_at hl 2 rfl) ?_
    refine lv_bipush (v := (40 : Int32)) K.1 K.2.1 dX2_one_65 (by decide) ?_
    refine lv_icmp_ne (tgt := 95) K.1 K.2.1 dX2_one_67 (by decide) (fun h_12 => ?_) (fun h_12 => ?_)
    · have hd := hd.1 h_12
      refine lv_aload_n K.1 K.2.1 dX2_one_95 rfl (lv_at hl 0 rfl) ?_
      refine lv_iload_n K.1 K.2.1 dX2_one_96 rfl (lv_at hl 1 rfl) ?_
      refine lv_iconst (v := (1 : Int32)) K.1 K.2.1 dX2_one_97 (by decide) ?_
      refine lv_iadd K.1 K.2.1 dX2_one_98 ?_
      refine rkc_vi (As := [.int (x1 + (1 : Int32))]) (rest := []) K KX hw (hrec.2.2.2.2.2 g_10 _ (x1 + (1 : Int32)) hd) lk_X2_71 (ci := 2) rfl (wcd_Pr cy ad _) ⟨by show r + 1 ≤ r + 1; omega, by show 8 + (3 + 11) + 60 * r ≤ 60 * (r + 1); omega⟩ ⟨Nat.zero_le _, Nat.zero_le _⟩ rfl hl.1 (Nat.le_of_ble_eq_true rfl) rfl dX2_one_99 (fun r_14 g_13 H locs hd hw => ?_)
      refine lv_if_ne (tgt := 107) K.1 K.2.1 dX2_one_102 (by decide) (fun h_15 => ?_) (fun h_15 => ?_)
      · have hd := hd.1 h_15
        refine lv_aload_n K.1 K.2.1 dX2_one_107 rfl (lv_at hl 0 rfl) ?_
        refine lv_sipush (v := (20008 : Int32)) K.1 K.2.1 dX2_one_108 (by decide) ?_
        refine rkc_vv (As := [.int (20008 : Int32)]) (rest := []) K KX hw (cd_X2_emit l D cy nt ad A X g_13 _ (20008 : Int32) hd) lk_X2_58 (ci := 2) rfl (wcd_Pr cy ad _) ⟨by show 1 + 1 ≤ r + 1; omega, by show 8 + (2 + 11) + 60 * 1 ≤ 60 * (r + 1); omega⟩ ⟨Nat.zero_le _, Nat.zero_le _⟩ rfl hl.1 (Nat.le_of_ble_eq_true rfl) rfl dX2_one_111 (fun g_16 H locs hd hw => ?_)
        refine lv_iconst (v := (1 : Int32)) K.1 K.2.1 dX2_one_114 (by decide) ?_
        exact rk_zret K hw hr (by decide) hd dX2_one_115
      · have hd := hd.2 h_15
        refine lv_iconst (v := (0 : Int32)) K.1 K.2.1 dX2_one_105 (by decide) ?_
        exact rk_zret K hw hr (by decide) hd dX2_one_106
    · have hd := hd.2 h_12
      refine lv_aload_n K.1 K.2.1 dX2_one_70 rfl (lv_at hl 0 rfl) ?_
      refine lv_iload_n K.1 K.2.1 dX2_one_71 rfl (lv_at hl 1 rfl) ?_
      refine lv_iconst (v := (1 : Int32)) K.1 K.2.1 dX2_one_72 (by decide) ?_
      refine lv_iadd K.1 K.2.1 dX2_one_73 ?_
      refine rkc_vi (As := [.int (x1 + (1 : Int32))]) (rest := []) K KX hw (hrec.1 g_10 _ (x1 + (1 : Int32)) hd) lk_X2_49 (ci := 2) rfl (wcd_Pr cy ad _) ⟨by show r + 1 ≤ r + 1; omega, by show 8 + (3 + 11) + 60 * r ≤ 60 * (r + 1); omega⟩ ⟨Nat.zero_le _, Nat.zero_le _⟩ rfl hl.1 (Nat.le_of_ble_eq_true rfl) rfl dX2_one_74 (fun r_19 g_18 H locs hd hw => ?_)
      refine lv_if_eq (tgt := 93) K.1 K.2.1 dX2_one_77 (by decide) (fun h_20 => ?_) (fun h_20 => ?_)
      · have hd := hd.1 h_20
        refine lv_iconst (v := (0 : Int32)) K.1 K.2.1 dX2_one_93 (by decide) ?_
        exact rk_zret K hw hr (by decide) hd dX2_one_94
      · have hd := hd.2 h_20
        refine lv_aload_n K.1 K.2.1 dX2_one_80 rfl (lv_at hl 0 rfl) ?_
        refine lv_bipush (v := (41 : Int32)) K.1 K.2.1 dX2_one_81 (by decide) ?_
        refine rkc_vi (As := [.int (41 : Int32)]) (rest := []) K KX hw (cd_X2_accept l D cy nt ad A X g_18 _ (41 : Int32) hd) lk_X2_46 (ci := 2) rfl (wcd_Pr cy ad _) ⟨by show 8 + 1 ≤ r + 1; omega, by show 8 + (2 + 11) + 60 * 8 ≤ 60 * (r + 1); omega⟩ ⟨Nat.zero_le _, Nat.zero_le _⟩ rfl hl.1 (Nat.le_of_ble_eq_true rfl) rfl dX2_one_83 (fun r_22 g_21 H locs hd hw => ?_)
        refine lv_if_eq (tgt := 93) K.1 K.2.1 dX2_one_86 (by decide) (fun h_23 => ?_) (fun h_23 => ?_)
        · have hd := hd.1 h_23
          refine lv_iconst (v := (0 : Int32)) K.1 K.2.1 dX2_one_93 (by decide) ?_
          exact rk_zret K hw hr (by decide) hd dX2_one_94
        · have hd := hd.2 h_23
          refine lv_iconst (v := (1 : Int32)) K.1 K.2.1 dX2_one_89 (by decide) ?_
          refine lv_goto (tgt := 94) K.1 K.2.1 dX2_one_90 (by decide) ?_
          exact rk_zret K hw hr (by decide) hd dX2_one_94
  · have hd := hd.2 h_9
    refine lv_iconst (v := (0 : Int32)) K.1 K.2.1 dX2_one_55 (by decide) ?_
    exact rk_zret K hw hr (by decide) hd dX2_one_56
set_option maxHeartbeats 4000000 in
set_option maxRecDepth 100000 in
theorem cg_X2_one (l : Launch) (D : va_G) (cy : Nat → ClassId) (nt : Nat) (ad : Nat → Nat) (A : Nat → Prop) (X : Nat → Nat) (r : Nat) (h5 : 10 ≤ r) (rec : RT) (hrec : HrecD l D cy nt ad A X rec r) (g0 : Sg) (Q : Int32 → Sg → Prop) (x1 : Int32) (hd : vb_X2_one rec nt x1 g0 Q) : Met l yX2_one (Cond.code yX2_one cX2_one 3 (some .boolean) :: TT) (rmD (r + 1)) (va_Pc [.ref (ad 10), .int x1] (PreC (wsD cy ad) D cy A X g0)) (va_Qi Q (PostG (wsD cy ad) D A) A) 0 0 A := by
  unfold vb_X2_one at hd
  refine Met.ofW (cc := cX2_one) (maxL := 3) (ret := (some .boolean)) (by decide) rfl ?_
  intro p e s m args below meth c s₁ B hml hv
  obtain ⟨rfl, ⟨hP, hK0, hD⟩, KX⟩ := hv
  have K : Kx p s m _ meth c cX2_one 3 RX2 D cy := ⟨B.exec, B.bytes, hml, findClass_of_methodNamed B.named, fun w h => atoms_spec (ws := Cond.code yX2_one cX2_one 3 (some .boolean) :: TT) B.pre w (List.mem_cons_of_mem _ h), hK0, B.notSynchronized⟩
  have hw : Wd D A s.heap (wsD cy ad g0) s.heap [] := ⟨hP, hD, va_S.rf⟩
  have hr := B.returns
  have hl := lv_entry ([.ref (ad 10), .int x1]) (n := 3) (Nat.le_of_ble_eq_true rfl)
  rw [lg_entry_eq]
  generalize (lg_sl ([.ref (ad 10), .int x1]) ++ List.replicate (3 - (lg_sl ([.ref (ad 10), .int x1])).length) Slot.unset).toArray = ls at hl ⊢
  have hl : lv_has ls 3 [(0, .ref (ad 10)), (1, .int x1)] := hl
  refine lv_aload_n K.1 K.2.1 dX2_one_0 rfl (lv_at hl 0 rfl) ?_
  refine rc_get layX2 (ci := 2) rfl 0 (by decide) (v := .ref (ad 8)) K hw (wcd_Pr cy ad _) kf_X2_15 rfl dX2_one_1 ?_
  refine rc_get layX5 (ci := 5) rfl 3 (by decide) (v := .int (g0 8 3)) K hw (wcd_Tp cy ad _) kf_X2_32 rfl dX2_one_4 ?_
  refine lv_topi (fun x2_1 ex2_1 => ?_)
  have hd := hd x2_1 ex2_1
  refine lv_istore_n (lv' := [(2, .int x2_1), (0, .ref (ad 10)), (1, .int x1)]) K.1 K.2.1 dX2_one_7 rfl hl (by decide) rfl (fun ls hl => ?_)
  refine lv_iload_n K.1 K.2.1 dX2_one_8 rfl (lv_at hl 0 rfl) ?_
  refine lv_iconst (v := (2 : Int32)) K.1 K.2.1 dX2_one_9 (by decide) ?_
  refine lv_icmp_eq (tgt := 18) K.1 K.2.1 dX2_one_10 (by decide) (fun h_2 => ?_) (fun h_2 => ?_)
  · have hd := hd.1 h_2
    exact bd_X2_one_18 K KX hr r h5 rec hrec   g0 _ _ _  hd hw (lv_sub hl [1] rfl)
  · have hd := hd.2 h_2
    refine lv_iload_n K.1 K.2.1 dX2_one_13 rfl (lv_at hl 0 rfl) ?_
    refine lv_iconst (v := (3 : Int32)) K.1 K.2.1 dX2_one_14 (by decide) ?_
    refine lv_icmp_ne (tgt := 38) K.1 K.2.1 dX2_one_15 (by decide) (fun h_7 => ?_) (fun h_7 => ?_)
    · have hd := hd.1 h_7
      refine lv_iload_n K.1 K.2.1 dX2_one_38 rfl (lv_at hl 0 rfl) ?_
      refine lv_bipush (v := (45 : Int32)) K.1 K.2.1 dX2_one_39 (by decide) ?_
      refine lv_icmp_eq (tgt := 50) K.1 K.2.1 dX2_one_41 (by decide) (fun h_8 => ?_) (fun h_8 => ?_)
      · have hd := hd.1 h_8
        exact bd_X2_one_50 K KX hr r h5 rec hrec  x1 x2_1 g0 _ _ _  hd hw (lv_sub hl [1, 2, 0] rfl)
      · have hd := hd.2 h_8
        refine lv_iload_n K.1 K.2.1 dX2_one_44 rfl (lv_at hl 0 rfl) ?_
        refine lv_bipush (v := (40 : Int32)) K.1 K.2.1 dX2_one_45 (by decide) ?_
        refine lv_icmp_ne (tgt := 55) K.1 K.2.1 dX2_one_47 (by decide) (fun h_24 => ?_) (fun h_24 => ?_)
        · have hd := hd.1 h_24
          refine lv_iconst (v := (0 : Int32)) K.1 K.2.1 dX2_one_55 (by decide) ?_
          exact rk_zret K hw hr (by decide) hd dX2_one_56
        · have hd := hd.2 h_24
          exact bd_X2_one_50 K KX hr r h5 rec hrec  x1 x2_1 g0 _ _ _  hd hw (lv_sub hl [1, 2, 0] rfl)
    · have hd := hd.2 h_7
      exact bd_X2_one_18 K KX hr r h5 rec hrec   g0 _ _ _  hd hw (lv_sub hl [1] rfl)
theorem ct_X2 (l : Launch) (D : va_G) (cy : Nat → ClassId) (nt : Nat) (ad : Nat → Nat) (A : Nat → Prop) (X : Nat → Nat) : ∀ d : Nat, HrecD l D cy nt ad A X (vr_X2 nt d) (10 + d) := by
  intro d
  induction d with
  | zero => exact ⟨fun _ _ _ h => h.elim, fun _ _ _ h => h.elim, fun _ _ _ h => h.elim, fun _ _ _ h => h.elim, fun _ _ _ h => h.elim, fun _ _ _ h => h.elim⟩
  | succ d ih => exact ⟨fun g Q x h => cg_X2_either l D cy nt ad A X (10 + d) (by omega) (vr_X2 nt d) ih g Q x h, fun g Q x h => cg_X2_both l D cy nt ad A X (10 + d) (by omega) (vr_X2 nt d) ih g Q x h, fun g Q x h => cg_X2_negation l D cy nt ad A X (10 + d) (by omega) (vr_X2 nt d) ih g Q x h, fun g Q x h => cg_X2_sum l D cy nt ad A X (10 + d) (by omega) (vr_X2 nt d) ih g Q x h, fun g Q x h => cg_X2_term l D cy nt ad A X (10 + d) (by omega) (vr_X2 nt d) ih g Q x h, fun g Q x h => cg_X2_one l D cy nt ad A X (10 + d) (by omega) (vr_X2 nt d) ih g Q x h⟩
set_option maxHeartbeats 4000000 in
set_option maxRecDepth 100000 in
theorem cd_X2_readPart (l : Launch) (D : va_G) (cy : Nat → ClassId) (nt : Nat) (ad : Nat → Nat) (A : Nat → Prop) (X : Nat → Nat)  (g0 : Sg) (Q : Int32 → Sg → Prop) (x1 : Int32) (hd : vv_X2_readPart nt x1 g0 Q) : Met l yX2_readPart (Cond.code yX2_readPart cX2_readPart 2 (some .boolean) :: TT) (rmD 69) (va_Pc [.ref (ad 10), .int x1] (PreC (wsD cy ad) D cy A X g0)) (va_Qi Q (PostG (wsD cy ad) D A) A) 0 0 A := by
  unfold vv_X2_readPart at hd
  refine Met.ofW (cc := cX2_readPart) (maxL := 2) (ret := (some .boolean)) (by decide) rfl ?_
  intro p e s m args below meth c s₁ B hml hv
  obtain ⟨rfl, ⟨hP, hK0, hD⟩, KX⟩ := hv
  have K : Kx p s m _ meth c cX2_readPart 2 RX2 D cy := ⟨B.exec, B.bytes, hml, findClass_of_methodNamed B.named, fun w h => atoms_spec (ws := Cond.code yX2_readPart cX2_readPart 2 (some .boolean) :: TT) B.pre w (List.mem_cons_of_mem _ h), hK0, B.notSynchronized⟩
  have hw : Wd D A s.heap (wsD cy ad g0) s.heap [] := ⟨hP, hD, va_S.rf⟩
  have hr := B.returns
  have hl := lv_entry ([.ref (ad 10), .int x1]) (n := 2) (Nat.le_of_ble_eq_true rfl)
  rw [lg_entry_eq]
  generalize (lg_sl ([.ref (ad 10), .int x1]) ++ List.replicate (2 - (lg_sl ([.ref (ad 10), .int x1])).length) Slot.unset).toArray = ls at hl ⊢
  have hl : lv_has ls 2 [(0, .ref (ad 10)), (1, .int x1)] := hl
  refine lv_aload_n K.1 K.2.1 dX2_readPart_0 rfl (lv_at hl 0 rfl) ?_
  refine lv_iload_n K.1 K.2.1 dX2_readPart_1 rfl (lv_at hl 1 rfl) ?_
  refine rkc_vi (As := [.int x1]) (rest := []) K KX hw (cd_X2_accept l D cy nt ad A X g0 _ x1 hd) lk_X2_46 (ci := 2) rfl (wcd_Pr cy ad _) ⟨Nat.le_of_ble_eq_true rfl, Nat.le_of_ble_eq_true rfl⟩ ⟨Nat.zero_le _, Nat.zero_le _⟩ rfl hl.1 (Nat.le_of_ble_eq_true rfl) rfl dX2_readPart_2 (fun r_2 g_1 H locs hd hw => ?_)
  refine lv_if_eq (tgt := 29) K.1 K.2.1 dX2_readPart_5 (by decide) (fun h_3 => ?_) (fun h_3 => ?_)
  · have hd := hd.1 h_3
    refine lv_iconst (v := (0 : Int32)) K.1 K.2.1 dX2_readPart_29 (by decide) ?_
    exact rk_zret K hw hr (by decide) hd dX2_readPart_30
  · have hd := hd.2 h_3
    refine lv_aload_n K.1 K.2.1 dX2_readPart_8 rfl (lv_at hl 0 rfl) ?_
    refine lv_iconst (v := (0 : Int32)) K.1 K.2.1 dX2_readPart_9 (by decide) ?_
    refine rkc_vi (As := [.int (0 : Int32)]) (rest := []) K KX hw ((ct_X2 l D cy nt ad A X 50).1 g_1 _ (0 : Int32) hd) lk_X2_49 (ci := 2) rfl (wcd_Pr cy ad _) ⟨Nat.le_of_ble_eq_true rfl, Nat.le_of_ble_eq_true rfl⟩ ⟨Nat.zero_le _, Nat.zero_le _⟩ rfl hl.1 (Nat.le_of_ble_eq_true rfl) rfl dX2_readPart_10 (fun r_5 g_4 H locs hd hw => ?_)
    refine lv_if_eq (tgt := 29) K.1 K.2.1 dX2_readPart_13 (by decide) (fun h_6 => ?_) (fun h_6 => ?_)
    · have hd := hd.1 h_6
      refine lv_iconst (v := (0 : Int32)) K.1 K.2.1 dX2_readPart_29 (by decide) ?_
      exact rk_zret K hw hr (by decide) hd dX2_readPart_30
    · have hd := hd.2 h_6
      refine lv_aload_n K.1 K.2.1 dX2_readPart_16 rfl (lv_at hl 0 rfl) ?_
      refine lv_bipush (v := (59 : Int32)) K.1 K.2.1 dX2_readPart_17 (by decide) ?_
      refine rkc_vi (As := [.int (59 : Int32)]) (rest := []) K KX hw (cd_X2_accept l D cy nt ad A X g_4 _ (59 : Int32) hd) lk_X2_46 (ci := 2) rfl (wcd_Pr cy ad _) ⟨Nat.le_of_ble_eq_true rfl, Nat.le_of_ble_eq_true rfl⟩ ⟨Nat.zero_le _, Nat.zero_le _⟩ rfl hl.1 (Nat.le_of_ble_eq_true rfl) rfl dX2_readPart_19 (fun r_8 g_7 H locs hd hw => ?_)
      refine lv_if_eq (tgt := 29) K.1 K.2.1 dX2_readPart_22 (by decide) (fun h_9 => ?_) (fun h_9 => ?_)
      · have hd := hd.1 h_9
        refine lv_iconst (v := (0 : Int32)) K.1 K.2.1 dX2_readPart_29 (by decide) ?_
        exact rk_zret K hw hr (by decide) hd dX2_readPart_30
      · have hd := hd.2 h_9
        refine lv_iconst (v := (1 : Int32)) K.1 K.2.1 dX2_readPart_25 (by decide) ?_
        refine lv_goto (tgt := 30) K.1 K.2.1 dX2_readPart_26 (by decide) ?_
        exact rk_zret K hw hr (by decide) hd dX2_readPart_30
set_option maxHeartbeats 4000000 in
set_option maxRecDepth 100000 in
theorem cd_X5_add (l : Launch) (D : va_G) (cy : Nat → ClassId) (nt : Nat) (ad : Nat → Nat) (A : Nat → Prop) (X : Nat → Nat)  (g0 : Sg) (Q : Sg → Prop) (x1 : Int32) (hd : vv_X5_add nt x1 g0 Q) : Met l yX5_add (Cond.code yX5_add cX5_add 2 none :: TT) (rmD 1) (va_Pc [.ref (ad 8), .int x1] (PreC (wsD cy ad) D cy A X g0)) (va_Qv Q (PostG (wsD cy ad) D A) A) 0 0 A := by
  unfold vv_X5_add at hd
  refine Met.ofW (cc := cX5_add) (maxL := 2) (ret := none) (by decide) rfl ?_
  intro p e s m args below meth c s₁ B hml hv
  obtain ⟨rfl, ⟨hP, hK0, hD⟩, KX⟩ := hv
  have K : Kx p s m _ meth c cX5_add 2 RX5 D cy := ⟨B.exec, B.bytes, hml, findClass_of_methodNamed B.named, fun w h => atoms_spec (ws := Cond.code yX5_add cX5_add 2 none :: TT) B.pre w (List.mem_cons_of_mem _ h), hK0, B.notSynchronized⟩
  have hw : Wd D A s.heap (wsD cy ad g0) s.heap [] := ⟨hP, hD, va_S.rf⟩
  have hr := B.returns
  have hl := lv_entry ([.ref (ad 8), .int x1]) (n := 2) (Nat.le_of_ble_eq_true rfl)
  rw [lg_entry_eq]
  generalize (lg_sl ([.ref (ad 8), .int x1]) ++ List.replicate (2 - (lg_sl ([.ref (ad 8), .int x1])).length) Slot.unset).toArray = ls at hl ⊢
  have hl : lv_has ls 2 [(0, .ref (ad 8)), (1, .int x1)] := hl
  refine lv_aload_n K.1 K.2.1 dX5_add_0 rfl (lv_at hl 0 rfl) ?_
  refine rc_get layX5 (ci := 5) rfl 1 (by decide) (v := .int (g0 8 1)) K hw (wcd_Tp cy ad _) kf_X5_15 rfl dX5_add_1 ?_
  refine lv_sipush (v := (160 : Int32)) K.1 K.2.1 dX5_add_4 (by decide) ?_
  refine lv_icmp_ge (tgt := 30) K.1 K.2.1 dX5_add_7 (by decide) (fun h_1 => ?_) (fun h_1 => ?_)
  · have hd := hd.1 h_1
    exact rk_vret K hw hr hd dX5_add_30
  · have hd := hd.2 h_1
    refine lv_aload_n K.1 K.2.1 dX5_add_10 rfl (lv_at hl 0 rfl) ?_
    refine rc_get layX5 (ci := 5) rfl 0 (by decide) (v := .ref (ad 9)) K hw (wcd_Tp cy ad _) kf_X5_9 rfl dX5_add_11 ?_
    refine lv_aload_n K.1 K.2.1 dX5_add_14 rfl (lv_at hl 0 rfl) ?_
    refine rc_get layX5 (ci := 5) rfl 1 (by decide) (v := .int (g0 8 1)) K hw (wcd_Tp cy ad _) kf_X5_15 rfl dX5_add_15 ?_
    refine lv_iload_n K.1 K.2.1 dX5_add_18 rfl (lv_at hl 1 rfl) ?_
    have hb := hd.1
    have hd := hd.2
    refine rd_iast K hw (wcd_9 cy ad _) (wad_9 cy ad _ _ _) hb dX5_add_19 (fun g_2 eg_2 H locs hw => ?_)
    have hd := hd g_2 eg_2
    refine lv_aload_n K.1 K.2.1 dX5_add_20 rfl (lv_at hl 0 rfl) ?_
    refine lv_dup K.1 K.2.1 dX5_add_21 rfl ?_
    refine rc_get layX5 (ci := 5) rfl 1 (by decide) (v := .int (g_2 8 1)) K hw (wcd_Tp cy ad _) kf_X5_15 rfl dX5_add_22 ?_
    refine lv_iconst (v := (1 : Int32)) K.1 K.2.1 dX5_add_25 (by decide) ?_
    refine lv_iadd K.1 K.2.1 dX5_add_26 ?_
    refine rd_put layX5 (ci := 5) rfl tyX5_ok nmX5 1 (by decide) K hw (wcd_Tp cy ad _) kf_X5_15 rfl rfl rfl rfl (Nat.le_of_ble_eq_true rfl) (wpd_Tp_1 cy ad _ _) dX5_add_27 (fun g_3 eg_3 H locs hw => ?_)
    have hd := hd g_3 eg_3
    exact rk_vret K hw hr hd dX5_add_30
set_option maxHeartbeats 4000000 in
set_option maxRecDepth 100000 in
theorem cd_X5_rewind (l : Launch) (D : va_G) (cy : Nat → ClassId) (nt : Nat) (ad : Nat → Nat) (A : Nat → Prop) (X : Nat → Nat)  (g0 : Sg) (Q : Sg → Prop)  (hd : vv_X5_rewind nt  g0 Q) : Met l yX5_rewind (Cond.code yX5_rewind cX5_rewind 1 none :: TT) (rmD 8) (va_Pc [.ref (ad 8)] (PreC (wsD cy ad) D cy A X g0)) (va_Qv Q (PostG (wsD cy ad) D A) A) 0 0 A := by
  unfold vv_X5_rewind at hd
  refine Met.ofW (cc := cX5_rewind) (maxL := 1) (ret := none) (by decide) rfl ?_
  intro p e s m args below meth c s₁ B hml hv
  obtain ⟨rfl, ⟨hP, hK0, hD⟩, KX⟩ := hv
  have K : Kx p s m _ meth c cX5_rewind 1 RX5 D cy := ⟨B.exec, B.bytes, hml, findClass_of_methodNamed B.named, fun w h => atoms_spec (ws := Cond.code yX5_rewind cX5_rewind 1 none :: TT) B.pre w (List.mem_cons_of_mem _ h), hK0, B.notSynchronized⟩
  have hw : Wd D A s.heap (wsD cy ad g0) s.heap [] := ⟨hP, hD, va_S.rf⟩
  have hr := B.returns
  have hl := lv_entry ([.ref (ad 8)]) (n := 1) (Nat.le_of_ble_eq_true rfl)
  rw [lg_entry_eq]
  generalize (lg_sl ([.ref (ad 8)]) ++ List.replicate (1 - (lg_sl ([.ref (ad 8)])).length) Slot.unset).toArray = ls at hl ⊢
  have hl : lv_has ls 1 [(0, .ref (ad 8))] := hl
  refine lv_aload_n K.1 K.2.1 dX5_rewind_0 rfl (lv_at hl 0 rfl) ?_
  refine lv_iconst (v := (0 : Int32)) K.1 K.2.1 dX5_rewind_1 (by decide) ?_
  refine rd_put layX5 (ci := 5) rfl tyX5_ok nmX5 5 (by decide) K hw (wcd_Tp cy ad _) kf_X5_33 rfl rfl rfl rfl (Nat.le_of_ble_eq_true rfl) (wpd_Tp_5 cy ad _ _) dX5_rewind_2 (fun g_1 eg_1 H locs hw => ?_)
  have hd := hd g_1 eg_1
  refine lv_aload_n K.1 K.2.1 dX5_rewind_5 rfl (lv_at hl 0 rfl) ?_
  refine rkc_vv (As := []) (rest := []) K KX hw (cd_X5_advance l D cy nt ad A X g_1 _  hd) lk_X5_36 (ci := 5) rfl (wcd_Tp cy ad _) ⟨Nat.le_of_ble_eq_true rfl, Nat.le_of_ble_eq_true rfl⟩ ⟨Nat.zero_le _, Nat.zero_le _⟩ rfl hl.1 (Nat.le_of_ble_eq_true rfl) rfl dX5_rewind_6 (fun g_2 H locs hd hw => ?_)
  exact rk_vret K hw hr hd dX5_rewind_9
end
