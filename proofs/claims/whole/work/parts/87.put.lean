section
/-! ===== Tape.put ===== -/
theorem lk_X5_29 : LkV RX5 29 RX5 yX5_add cX5_add 2 none 1 := ⟨(TTm (List.mem_of_getElem? (i := 325) (by decide +kernel)) rfl), (TTm (List.mem_of_getElem? (i := 326) (by decide +kernel)) rfl), (TTm (List.mem_of_getElem? (i := 327) (by decide +kernel)) rfl), (TTm (List.mem_of_getElem? (i := 107) (by decide +kernel)) rfl), (TTm (List.mem_of_getElem? (i := 328) (by decide +kernel)) rfl), by decide +kernel⟩
def vv_X5_put_L2 (nt : Nat)  (Q : Sg → Prop) : Nat → Nat → Int32 → Sg → Prop
  | 0, _, _, _ => False
  | n + 1, x1, x2, g0 => vv_J0_length_8abf5 nt x1 g0 (fun r_3 g_2 => ((r_3 ≤ x2) → (Q g_2)) ∧ ((¬ (r_3 ≤ x2)) → (vv_J0_charAt_5068e nt x1 x2 g_2 (fun r_6 g_5 => vv_X5_add nt r_6 g_5 (fun g_7 => ∀ x2_9 : Int32, x2_9 = x2 + (1 : Int32) → ((vv_X5_put_L2 nt Q n) x1 x2_9 g_7))))))
def vv_X5_put (nt : Nat) (x1 : Nat) (g0 : Sg) (Q : Sg → Prop) : Prop := x1 < 13 ∧ (∀ x2_1 : Int32, x2_1 = (0 : Int32) → (∃ k9, vv_X5_put_L2 nt Q k9 x1 x2_1 g0))
theorem dX5_put_0 : decode cX5_put 0 = .ok (.iconst 0, 1) := by decide +kernel
theorem dX5_put_1 : decode cX5_put 1 = .ok (.istore_n 2, 1) := by decide +kernel
theorem dX5_put_2 : decode cX5_put 2 = .ok (.iload_n 2, 1) := by decide +kernel
theorem dX5_put_3 : decode cX5_put 3 = .ok (.aload_n 1, 1) := by decide +kernel
theorem dX5_put_4 : decode cX5_put 4 = .ok (.invokevirtual 19, 3) := by decide +kernel
theorem dX5_put_7 : decode cX5_put 7 = .ok (.if_icmp .ge 18, 3) := by decide +kernel
theorem dX5_put_10 : decode cX5_put 10 = .ok (.aload_n 0, 1) := by decide +kernel
theorem dX5_put_11 : decode cX5_put 11 = .ok (.aload_n 1, 1) := by decide +kernel
theorem dX5_put_12 : decode cX5_put 12 = .ok (.iload_n 2, 1) := by decide +kernel
theorem dX5_put_13 : decode cX5_put 13 = .ok (.invokevirtual 25, 3) := by decide +kernel
theorem dX5_put_16 : decode cX5_put 16 = .ok (.invokevirtual 29, 3) := by decide +kernel
theorem dX5_put_19 : decode cX5_put 19 = .ok (.iinc 2 1, 3) := by decide +kernel
theorem dX5_put_22 : decode cX5_put 22 = .ok (.goto (-20), 3) := by decide +kernel
theorem dX5_put_25 : decode cX5_put 25 = .ok (.return_, 1) := by decide +kernel
set_option maxHeartbeats 4000000 in
set_option maxRecDepth 100000 in
theorem bd_X5_put_2 {p : Program} {l : Launch} {e : Env} {s : State} {m : MethodId} {args : Array Value} {below : List Frame} {meth : Method} {c : Code} {D : va_G} {cy : Nat → ClassId} {nt : Nat} {ad : Nat → Nat} {A : Nat → Prop} {X : Nat → Nat} {Q : Sg → Prop} (K : Kx p s m args meth c cX5_put 3 RX5 D cy) (KX : XC X A s s.heap) (hr : meth.sig.returnType = none)  : ∀ (n : Nat) (x1 : Nat) (x2 : Int32)  (g0 : Sg) (H : Heap) (locs : List Loc) (ls : Array Slot), x1 < 13 → vv_X5_put_L2 nt Q n x1 x2 g0 → Wd D A s.heap (wsD cy ad g0) H locs → lv_has ls 3 [(0, .ref (ad 8)), (1, .ref (X (10 + x1))), (2, .int x2)] → W p l e (rmD 5) s m args below meth c H locs 0 0 (MQ below (va_Qv Q (PostG (wsD cy ad) D A) A) args s 0 0 A) (F0 m 2 ls []) := by
  intro n
  induction n with
  | zero => intro _ _ _ _ _ _ _ hd; exact hd.elim
  | succ n ih =>
    intro x1 x2 g0 H locs ls hq_x1 hd hw hl
    unfold vv_X5_put_L2 at hd
    refine lv_iload_n K.1 K.2.1 dX5_put_2 rfl (lv_at hl 2 rfl) ?_
    refine lv_aload_n K.1 K.2.1 dX5_put_3 rfl (lv_at hl 1 rfl) ?_
    refine rkc_ui (As := []) (rest := [.int x2]) K KX hw (cd_J0_length_8abf5 l D cy nt ad A X g0 _ x1 hd) lk_X5_19 (vk_recv (adK := fun i => X (10 + i)) (adV := fun i => X (30 + i)) (i := x1) KX.2.2.2.2.2.2.1 hq_x1 hw.2.2) ⟨Nat.le_of_ble_eq_true rfl, Nat.le_of_ble_eq_true rfl⟩ ⟨Nat.zero_le _, Nat.zero_le _⟩ rfl hl.1 (Nat.le_of_ble_eq_true rfl) rfl dX5_put_4 (fun r_3 g_2 H locs hd hw => ?_)
    refine lv_icmp_ge (tgt := 25) K.1 K.2.1 dX5_put_7 (by decide) (fun h_4 => ?_) (fun h_4 => ?_)
    · have hd := hd.1 h_4
      exact rk_vret K hw hr hd dX5_put_25
    · have hd := hd.2 h_4
      refine lv_aload_n K.1 K.2.1 dX5_put_10 rfl (lv_at hl 0 rfl) ?_
      refine lv_aload_n K.1 K.2.1 dX5_put_11 rfl (lv_at hl 1 rfl) ?_
      refine lv_iload_n K.1 K.2.1 dX5_put_12 rfl (lv_at hl 2 rfl) ?_
      refine rkc_ui (As := [.int x2]) (rest := [.ref (ad 8)]) K KX hw (cd_J0_charAt_5068e l D cy nt ad A X g_2 _ x1 x2 hd) lk_X5_25 (vk_recv (adK := fun i => X (10 + i)) (adV := fun i => X (30 + i)) (i := x1) KX.2.2.2.2.2.2.1 hq_x1 hw.2.2) ⟨Nat.le_of_ble_eq_true rfl, Nat.le_of_ble_eq_true rfl⟩ ⟨Nat.zero_le _, Nat.zero_le _⟩ rfl hl.1 (Nat.le_of_ble_eq_true rfl) rfl dX5_put_13 (fun r_6 g_5 H locs hd hw => ?_)
      refine rkc_vv (As := [.int r_6]) (rest := []) K KX hw (cd_X5_add l D cy nt ad A X g_5 _ r_6 hd) lk_X5_29 (ci := 5) rfl (wcd_Tp cy ad _) ⟨Nat.le_of_ble_eq_true rfl, Nat.le_of_ble_eq_true rfl⟩ ⟨Nat.zero_le _, Nat.zero_le _⟩ rfl hl.1 (Nat.le_of_ble_eq_true rfl) rfl dX5_put_16 (fun g_7 H locs hd hw => ?_)
      obtain ⟨x2_9, ex2_9⟩ : ∃ y : Int32, y = x2 + (1 : Int32) := ⟨_, rfl⟩
      have hd := hd x2_9 ex2_9
      refine lv_iinc (v := x2_9) (lv' := [(2, .int x2_9), (0, .ref (ad 8)), (1, .ref (X (10 + x1)))]) K.1 K.2.1 dX5_put_19 hl (k := 2) rfl (by rw [ex2_9]; rfl) (by decide) rfl (fun ls hl => ?_)
      refine lv_goto (tgt := 2) K.1 K.2.1 dX5_put_22 (by decide) ?_
      exact ih x1 x2_9 g_7 _ _ _ hq_x1 hd hw (lv_sub hl [1, 2, 0] rfl)
set_option maxHeartbeats 4000000 in
set_option maxRecDepth 100000 in
theorem cd_X5_put (l : Launch) (D : va_G) (cy : Nat → ClassId) (nt : Nat) (ad : Nat → Nat) (A : Nat → Prop) (X : Nat → Nat)  (g0 : Sg) (Q : Sg → Prop) (x1 : Nat) (hd : vv_X5_put nt x1 g0 Q) : Met l yX5_put (Cond.code yX5_put cX5_put 3 none :: TT) (rmD 5) (va_Pc [.ref (ad 8), .ref (X (10 + x1))] (PreC (wsD cy ad) D cy A X g0)) (va_Qv Q (PostG (wsD cy ad) D A) A) 0 0 A := by
  unfold vv_X5_put at hd
  refine Met.ofW (cc := cX5_put) (maxL := 3) (ret := none) (by decide) rfl ?_
  intro p e s m args below meth c s₁ B hml hv
  obtain ⟨rfl, ⟨hP, hK0, hD⟩, KX⟩ := hv
  have K : Kx p s m _ meth c cX5_put 3 RX5 D cy := ⟨B.exec, B.bytes, hml, findClass_of_methodNamed B.named, fun w h => atoms_spec (ws := Cond.code yX5_put cX5_put 3 none :: TT) B.pre w (List.mem_cons_of_mem _ h), hK0, B.notSynchronized⟩
  have hw : Wd D A s.heap (wsD cy ad g0) s.heap [] := ⟨hP, hD, va_S.rf⟩
  have hr := B.returns
  have hl := lv_entry ([.ref (ad 8), .ref (X (10 + x1))]) (n := 3) (Nat.le_of_ble_eq_true rfl)
  rw [lg_entry_eq]
  generalize (lg_sl ([.ref (ad 8), .ref (X (10 + x1))]) ++ List.replicate (3 - (lg_sl ([.ref (ad 8), .ref (X (10 + x1))])).length) Slot.unset).toArray = ls at hl ⊢
  have hl : lv_has ls 3 [(0, .ref (ad 8)), (1, .ref (X (10 + x1)))] := hl
  have hq_x1 := hd.1
  have hd := hd.2
  refine lv_iconst (v := (0 : Int32)) K.1 K.2.1 dX5_put_0 (by decide) ?_
  refine lv_topi (fun x2_1 ex2_1 => ?_)
  have hd := hd x2_1 ex2_1
  refine lv_istore_n (lv' := [(2, .int x2_1), (0, .ref (ad 8)), (1, .ref (X (10 + x1)))]) K.1 K.2.1 dX5_put_1 rfl hl (by decide) rfl (fun ls hl => ?_)
  obtain ⟨n9, hd⟩ := hd
  exact bd_X5_put_2 K KX hr   n9 x1 x2_1 g0 _ _ _ hq_x1 hd hw (lv_sub hl [1, 2, 0] rfl)
end
