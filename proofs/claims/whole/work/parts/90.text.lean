section
/-! ===== text() ===== -/
theorem kf_X7_41 : Cond.fieldLink RX7 41 (TX7 6).1 (TX7 6).2.1 (TX7 6).2.2.1 ∈ TT := (TTm (List.mem_of_getElem? (i := 476) (by decide +kernel)) rfl)
theorem kf_X7_158 : Cond.fieldLink RX7 158 (TX5 2).1 (TX5 2).2.1 (TX5 2).2.2.1 ∈ TT := (TTm (List.mem_of_getElem? (i := 205) (by decide +kernel)) rfl)
theorem lk_X7_70 : LkV RX7 70 RX2 yX2_readText cX2_readText 3 (some (.object "OppositionInBaskets$Text")) 0 := ⟨(TTm (List.mem_of_getElem? (i := 329) (by decide +kernel)) rfl), (TTm (List.mem_of_getElem? (i := 330) (by decide +kernel)) rfl), (TTm (List.mem_of_getElem? (i := 331) (by decide +kernel)) rfl), (TTm (List.mem_of_getElem? (i := 108) (by decide +kernel)) rfl), (TTm (List.mem_of_getElem? (i := 332) (by decide +kernel)) rfl), by decide +kernel⟩
theorem dX7_text_0 : decode cX7_text 0 = .ok (.aload_n 0, 1) := by decide +kernel
theorem dX7_text_1 : decode cX7_text 1 = .ok (.getfield 81, 3) := by decide +kernel
theorem dX7_text_4 : decode cX7_text 4 = .ok (.bipush 6, 2) := by decide +kernel
theorem dX7_text_6 : decode cX7_text 6 = .ok (.if_icmp .lt 6, 3) := by decide +kernel
theorem dX7_text_9 : decode cX7_text 9 = .ok (.bipush (-4), 2) := by decide +kernel
theorem dX7_text_11 : decode cX7_text 11 = .ok (.ireturn, 1) := by decide +kernel
theorem dX7_text_12 : decode cX7_text 12 = .ok (.aload_n 0, 1) := by decide +kernel
theorem dX7_text_13 : decode cX7_text 13 = .ok (.getfield 41, 3) := by decide +kernel
theorem dX7_text_16 : decode cX7_text 16 = .ok (.invokevirtual 70, 3) := by decide +kernel
theorem dX7_text_19 : decode cX7_text 19 = .ok (.astore_n 1, 1) := by decide +kernel
theorem dX7_text_20 : decode cX7_text 20 = .ok (.aload_n 0, 1) := by decide +kernel
theorem dX7_text_21 : decode cX7_text 21 = .ok (.getfield 32, 3) := by decide +kernel
theorem dX7_text_24 : decode cX7_text 24 = .ok (.iconst 0, 1) := by decide +kernel
theorem dX7_text_25 : decode cX7_text 25 = .ok (.putfield 74, 3) := by decide +kernel
theorem dX7_text_28 : decode cX7_text 28 = .ok (.aload_n 1, 1) := by decide +kernel
theorem dX7_text_29 : decode cX7_text 29 = .ok (.ifnonnull 14, 3) := by decide +kernel
theorem dX7_text_32 : decode cX7_text 32 = .ok (.bipush (-100), 2) := by decide +kernel
theorem dX7_text_34 : decode cX7_text 34 = .ok (.aload_n 0, 1) := by decide +kernel
theorem dX7_text_35 : decode cX7_text 35 = .ok (.getfield 32, 3) := by decide +kernel
theorem dX7_text_38 : decode cX7_text 38 = .ok (.getfield 158, 3) := by decide +kernel
theorem dX7_text_41 : decode cX7_text 41 = .ok (.isub, 1) := by decide +kernel
theorem dX7_text_42 : decode cX7_text 42 = .ok (.ireturn, 1) := by decide +kernel
theorem dX7_text_43 : decode cX7_text 43 = .ok (.aload_n 0, 1) := by decide +kernel
theorem dX7_text_44 : decode cX7_text 44 = .ok (.getfield 47, 3) := by decide +kernel
theorem dX7_text_47 : decode cX7_text 47 = .ok (.aload_n 0, 1) := by decide +kernel
theorem dX7_text_48 : decode cX7_text 48 = .ok (.getfield 81, 3) := by decide +kernel
theorem dX7_text_51 : decode cX7_text 51 = .ok (.aload_n 1, 1) := by decide +kernel
theorem dX7_text_52 : decode cX7_text 52 = .ok (.aastore, 1) := by decide +kernel
theorem dX7_text_53 : decode cX7_text 53 = .ok (.aload_n 0, 1) := by decide +kernel
theorem dX7_text_54 : decode cX7_text 54 = .ok (.dup, 1) := by decide +kernel
theorem dX7_text_55 : decode cX7_text 55 = .ok (.getfield 81, 3) := by decide +kernel
theorem dX7_text_58 : decode cX7_text 58 = .ok (.iconst 1, 1) := by decide +kernel
theorem dX7_text_59 : decode cX7_text 59 = .ok (.iadd, 1) := by decide +kernel
theorem dX7_text_60 : decode cX7_text 60 = .ok (.putfield 81, 3) := by decide +kernel
theorem dX7_text_63 : decode cX7_text 63 = .ok (.aload_n 0, 1) := by decide +kernel
theorem dX7_text_64 : decode cX7_text 64 = .ok (.getfield 81, 3) := by decide +kernel
theorem dX7_text_67 : decode cX7_text 67 = .ok (.iconst 1, 1) := by decide +kernel
theorem dX7_text_68 : decode cX7_text 68 = .ok (.isub, 1) := by decide +kernel
theorem dX7_text_69 : decode cX7_text 69 = .ok (.ireturn, 1) := by decide +kernel
def vv_X7_text (nt : Nat) (g0 : Sg) (Q : Int32 → Sg → Prop) (Qm : Int32 → Sg → Prop) : Prop :=
  (¬ g0 0 8 < 6 → Q (-4) g0) ∧ (g0 0 8 < 6 → vv_X2_readText nt g0 (fun u => FrX g0 u ∧ Q (-100 - u 8 2) (st u 8 1 0)) (fun x z n u => FrX g0 u ∧ g0 0 8 = nI nt ∧ nt < 6 ∧ n < 160 ∧ (∀ i, i < 6 → (u 12 i).toNatClampNeg < nt) ∧ Qm (nI nt) (st (st (st (txS u (50 + 3 * nt) x z n (va_cpy (u 11) (fun _ => 0) 0 0 n)) 8 1 0) 12 nt (nI nt)) 0 8 (nI nt + 1))))
theorem wa_12 (cy : Nat → ClassId) (nt : Nat) (ad : Nat → Nat) (σ : Sg) {i t a : Nat} (ht : t < 2 ^ 31) (ha : ad (50 + 3 * t) = a) : (wsC cy nt ad σ).set 12 (ad 12, .inl (cy 4, 6, rf5 (va_up (fun i => some (ad (50 + 3 * (σ 12 i).toNatClampNeg))) i (some a)))) = wsC cy nt ad (st σ 12 i (nI t)) := by
  refine wsC_set (by omega) ?_ (cellC_ne cy ad σ (nI t) (Or.inl (by decide)))
  show Sum.inl (cy 4, 6, rf5 _) = Sum.inl (cy 4, 6, rf5 (fun j => some (ad (50 + 3 * (st σ 12 i (nI t) 12 j).toNatClampNeg))))
  have : va_up (fun i => some (ad (50 + 3 * (σ 12 i).toNatClampNeg))) i (some a) = (fun j => some (ad (50 + 3 * (st σ 12 i (nI t) 12 j).toNatClampNeg))) := by
    funext j
    rw [st_at]
    unfold va_up
    by_cases q : j = i
    · rw [if_pos q, if_pos q, nI_clamp ht, ha]
    · rw [if_neg q, if_neg q]
  rw [this]
theorem cx_X7_text (l : Launch) (D : va_G) (cy : Nat → ClassId) (nt : Nat) (ad : Nat → Nat) (A : Nat → Prop) (X : Nat → Nat) (sz : Nat) (hA0 : ∀ q, sz ≤ q → A q) (g0 : Sg) (Q Qm : Int32 → Sg → Prop) (hd : vv_X7_text nt g0 Q Qm) : MetX l yX7_text cX7_text 2 (some .int) 72 3 324 [.ref (ad 0)] (wsC cy nt ad g0) D cy A X sz (fun v w => (∃ r u, v = some (.int r) ∧ Q r u ∧ w = wsC cy nt ad u) ∨ (∃ r u ad', v = some (.int r) ∧ Qm r u ∧ ad' 0 = ad 0 ∧ w = wsC cy (nt + 1) ad' u)) := by
  unfold vv_X7_text at hd
  refine Met.ofW (cc := cX7_text) (maxL := 2) (ret := (some .int)) (by decide) rfl ?_
  intro p e s m args below meth c s₁ B hml hv
  obtain ⟨rfl, hsz, hP, hK0, hD, KX, KS⟩ := hv
  have K : Kx p s m _ meth c cX7_text 2 RX7 D cy := ⟨B.exec, B.bytes, hml, findClass_of_methodNamed B.named, fun w h => atoms_spec (ws := Cond.code yX7_text cX7_text 2 (some .int) :: TT) B.pre w (List.mem_cons_of_mem _ h), hK0, B.notSynchronized⟩
  have hw : Wd D A s.heap (wsC cy nt ad g0) s.heap [] := ⟨hP, hD, va_S.rf⟩
  have hr := B.returns
  have hA : ∀ q, s.heap.size ≤ q → A q := fun q h => hA0 q (by rw [← hsz]; exact h)
  have hl := lv_entry ([.ref (ad 0)]) (n := 2) (Nat.le_of_ble_eq_true rfl)
  rw [lg_entry_eq]
  generalize (lg_sl ([.ref (ad 0)]) ++ List.replicate (2 - (lg_sl ([.ref (ad 0)])).length) Slot.unset).toArray = ls at hl ⊢
  have hl : lv_has ls 2 [(0, .ref (ad 0))] := hl
  refine lv_aload_n K.1 K.2.1 dX7_text_0 rfl (lv_at hl 0 rfl) ?_
  refine rc_get layX7 (ci := 7) rfl 8 (by decide) (v := .int (g0 0 8)) K hw (wc_O cy nt ad _) kf_X7_81 rfl dX7_text_1 ?_
  refine lv_bipush (v := (6 : Int32)) K.1 K.2.1 dX7_text_4 (by decide) ?_
  refine lv_icmp_lt (tgt := 12) K.1 K.2.1 dX7_text_6 (by decide) (fun h => ?_) (fun h => ?_)
  rotate_left
  · have hd := hd.1 h
    refine lv_bipush (v := (-4 : Int32)) K.1 K.2.1 dX7_text_9 (by decide) ?_
    refine W.widen (k := 3) (n := 324) (Nat.zero_le _) (Nat.zero_le _) ?_
    exact rx_iret K hw hr (Or.inl ⟨_, g0, rfl, hd, rfl⟩) dX7_text_11
  have hd := hd.2 h
  refine lv_aload_n K.1 K.2.1 dX7_text_12 rfl (lv_at hl 0 rfl) ?_
  refine rc_get layX7 (ci := 7) rfl 6 (by decide) (v := .ref (ad 10)) K hw (wc_O cy nt ad _) kf_X7_41 rfl dX7_text_13 ?_
  rw [wsC_cut] at hw
  refine rx_V (wl := wcL cy ad g0) (wc := wsD cy ad g0) (wr := wcR cy nt ad g0) (As := []) (rest := []) K KX KS hA hw (cd_X2_readText l D cy nt ad _ X _ (fun q h => Or.inr h) g0 _ _ hd) lk_X7_70 (ci := 2) rfl (wcd_Pr cy ad _) ⟨Nat.le_of_ble_eq_true rfl, Nat.le_of_ble_eq_true rfl⟩ ⟨Nat.le_of_ble_eq_true rfl, Nat.le_of_ble_eq_true rfl⟩ rfl hl.1 (Nat.le_of_ble_eq_true rfl) rfl dX7_text_16 (fun v w1 H locs hB hw => ?_)
  refine W.widen (k := 3) (n := 324) (Nat.le_of_ble_eq_true rfl) (Nat.le_of_ble_eq_true rfl) ?_
  rcases hB with ⟨rfl, u, ⟨F, hd⟩, rfl⟩ | ⟨u, x, z, n, a, b, dd, rfl, ⟨F, e8, hnt, hn, h12, hd⟩, rfl⟩
  · rw [wcL_fr F, wcR_fr F, ← wsC_cut] at hw
    refine W.eq (g2 := F0 m 19 ls [.null]) rfl ?_
    refine lv_astore_nN (lv' := [(1, .null), (0, .ref (ad 0))]) K.1 K.2.1 dX7_text_19 rfl hl (by decide) rfl (fun ls hl => ?_)
    refine lv_aload_n K.1 K.2.1 dX7_text_20 rfl (lv_at hl 1 rfl) ?_
    refine rc_get layX7 (ci := 7) rfl 5 (by decide) (v := .ref (ad 8)) K hw (wc_O cy nt ad _) kf_X7_32 rfl dX7_text_21 ?_
    refine lv_iconst (v := (0 : Int32)) K.1 K.2.1 dX7_text_24 (by decide) ?_
    refine rc_put layX5 (ci := 5) rfl tyX5_ok nmX5 1 (by decide) K hw (wc_Tp cy nt ad _) kf_X7_74 rfl rfl rfl rfl (Nat.le_of_ble_eq_true rfl) (wp_Tp_1 cy nt ad _ _) dX7_text_25 (fun g1 eg1 H locs hw => ?_)
    refine lv_aload_nN K.1 K.2.1 dX7_text_28 rfl (lv_at hl 0 rfl) ?_
    refine lv_ifnonnullN K.1 K.2.1 dX7_text_29 ?_
    refine lv_bipush (v := (-100 : Int32)) K.1 K.2.1 dX7_text_32 (by decide) ?_
    refine lv_aload_n K.1 K.2.1 dX7_text_34 rfl (lv_at hl 1 rfl) ?_
    refine rc_get layX7 (ci := 7) rfl 5 (by decide) (v := .ref (ad 8)) K hw (wc_O cy nt ad _) kf_X7_32 rfl dX7_text_35 ?_
    refine rc_get layX5 (ci := 5) rfl 2 (by decide) (v := .int (g1 8 2)) K hw (wc_Tp cy nt ad _) kf_X7_158 rfl dX7_text_38 ?_
    refine lv_isub K.1 K.2.1 dX7_text_41 ?_
    have e2 : g1 8 2 = u 8 2 := by rw [eg1, st_off _ (by decide)]
    exact rx_iret K hw hr (Or.inl ⟨_, g1, rfl, by rw [e2, eg1]; exact hd, rfl⟩) dX7_text_42
  · have hw : Wd D A s.heap (wcL cy ad g0 ++ ((wsD cy ad u ++ [(b, .inl (cy 0, n, .inl (va_cpy (u 11) (fun _ => 0) 0 0 n))), (a, .inr (6, [.ref b, .ref dd, .int x, .int z])), (dd, .inl (cy 0, n, .inl (fun _ => 0)))]) ++ wcR cy nt ad g0)) H locs := hw
    have hw := hw.perm tx_perm
    rw [wcL_fr F, wcR_fr F, ← wsC_cut] at hw
    have hw := hw.more h12 hn
    have a0 : adX ad (50 + 3 * nt) a b dd 0 = ad 0 := adX_lt (by omega)
    have aT : adX ad (50 + 3 * nt) a b dd (50 + 3 * nt) = a := by unfold adX; rw [if_pos rfl]
    generalize adX ad (50 + 3 * nt) a b dd = ad' at hw a0 aT
    have e8u : txS u (50 + 3 * nt) x z n (va_cpy (u 11) (fun _ => 0) 0 0 n) 0 8 = nI nt := by rw [txS_lt (by omega), F 0 (by decide) (by decide) (by decide) (by decide)]; exact e8
    generalize txS u (50 + 3 * nt) x z n (va_cpy (u 11) (fun _ => 0) 0 0 n) = u1 at hw hd e8u
    rw [← a0] at hl
    refine W.eq (g2 := F0 m 19 ls [.ref a]) rfl ?_
    refine lv_astore_n (lv' := [(1, .ref a), (0, .ref (ad' 0))]) K.1 K.2.1 dX7_text_19 rfl hl (by decide) rfl (fun ls hl => ?_)
    refine lv_aload_n K.1 K.2.1 dX7_text_20 rfl (lv_at hl 1 rfl) ?_
    refine rc_get layX7 (ci := 7) rfl 5 (by decide) (v := .ref (ad' 8)) K hw (wc_O cy (nt + 1) ad' _) kf_X7_32 rfl dX7_text_21 ?_
    refine lv_iconst (v := (0 : Int32)) K.1 K.2.1 dX7_text_24 (by decide) ?_
    refine rc_put layX5 (ci := 5) rfl tyX5_ok nmX5 1 (by decide) K hw (wc_Tp cy (nt + 1) ad' _) kf_X7_74 rfl rfl rfl rfl (Nat.le_of_ble_eq_true rfl) (wp_Tp_1 cy (nt + 1) ad' _ _) dX7_text_25 (fun g1 eg1 H locs hw => ?_)
    refine lv_aload_n K.1 K.2.1 dX7_text_28 rfl (lv_at hl 0 rfl) ?_
    refine lv_ifnonnull (tgt := 43) K.1 K.2.1 dX7_text_29 (by decide) ?_
    refine lv_aload_n K.1 K.2.1 dX7_text_43 rfl (lv_at hl 1 rfl) ?_
    refine rc_get layX7 (ci := 7) rfl 7 (by decide) (v := .ref (ad' 12)) K hw (wc_O cy (nt + 1) ad' _) kf_X7_47 rfl dX7_text_44 ?_
    have e1 : g1 0 8 = nI nt := by rw [eg1, st_ne (by decide)]; exact e8u
    refine lv_aload_n K.1 K.2.1 dX7_text_47 rfl (lv_at hl 1 rfl) ?_
    refine rc_get layX7 (ci := 7) rfl 8 (by decide) (v := .int (nI nt)) K hw (wc_O cy (nt + 1) ad' _) kf_X7_81 (by rw [← e1]; rfl) dX7_text_48 ?_
    refine lv_aload_n K.1 K.2.1 dX7_text_51 rfl (lv_at hl 0 rfl) ?_
    refine rx_astq (k := 12) (qk := 50 + 3 * nt) (ci := 6) (t0 := 4) K hw (wc_12 cy (nt + 1) ad' _) rfl (by rw [wc_T cy (nt + 1) ad' _ ⟨by omega, by omega, by omega⟩, aT]) rfl (vp_in_nI hnt (by decide)) dX7_text_52 (fun H locs hw => ?_)
    rw [nI_clamp (by omega), wa_12 cy (nt + 1) ad' g1 (t := nt) (by omega) aT] at hw
    refine lv_aload_n K.1 K.2.1 dX7_text_53 rfl (lv_at hl 1 rfl) ?_
    refine lv_dup K.1 K.2.1 dX7_text_54 rfl ?_
    have e2 : st g1 12 nt (nI nt) 0 8 = nI nt := by rw [st_ne (by decide)]; exact e1
    refine rc_get layX7 (ci := 7) rfl 8 (by decide) (v := .int (nI nt)) K hw (wc_O cy (nt + 1) ad' _) kf_X7_81 (by rw [← e2]; rfl) dX7_text_55 ?_
    refine lv_iconst (v := (1 : Int32)) K.1 K.2.1 dX7_text_58 (by decide) ?_
    refine lv_iadd K.1 K.2.1 dX7_text_59 ?_
    refine rc_put layX7 (ci := 7) rfl tyX7_ok nmX7 8 (by decide) K hw (wc_O cy (nt + 1) ad' _) kf_X7_81 rfl rfl rfl rfl (Nat.le_of_ble_eq_true rfl) (wp_O_8 cy (nt + 1) ad' _ _) dX7_text_60 (fun g2 eg2 H locs hw => ?_)
    refine lv_aload_n K.1 K.2.1 dX7_text_63 rfl (lv_at hl 1 rfl) ?_
    have e3 : g2 0 8 = nI nt + 1 := by rw [eg2, st_on]
    refine rc_get layX7 (ci := 7) rfl 8 (by decide) (v := .int (nI nt + 1)) K hw (wc_O cy (nt + 1) ad' _) kf_X7_81 (by rw [← e3]; rfl) dX7_text_64 ?_
    refine lv_iconst (v := (1 : Int32)) K.1 K.2.1 dX7_text_67 (by decide) ?_
    refine lv_isub K.1 K.2.1 dX7_text_68 ?_
    have e4 : nI nt + 1 - 1 = nI nt := by grind
    rw [← eg1, ← eg2] at hd
    exact rx_iret K hw hr (Or.inr ⟨_, g2, ad', rfl, by rw [e4]; exact hd, a0, rfl⟩) dX7_text_69
end
