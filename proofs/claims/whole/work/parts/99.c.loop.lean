section
/-! ===== the law: its loop ===== -/
theorem law_loop {p : Program} {l : Launch} {e : Env} {s : State} {m : MethodId} {below : List Frame} {meth : Method} {c : Code} {b L : Nat} {xs : Nat → Int32} {D : va_G} {cy : Nat → ClassId} {X : Nat → Nat} {A : Nat → Prop} (K : Kx p s m #[Value.ref b] meth c code 4 RL D cy) (KX : XC X A s s.heap) (KS : SX s) (hA : ∀ q, s.heap.size ≤ q → A q) (hA' : ∀ q, A q → s.heap.size ≤ q) (hX : va_X b L xs s s.heap) (hbl : b < s.heap.size) (hbA : ¬ A b) (hr : meth.sig.returnType = ret) (hL : L ≤ 3072) : ∀ (n i nt : Nat) (adC adM : Nat → Nat) (cS mS : Sg) (cells slots : Nat) (H : Heap) (locs : List Loc) (ls : Array Slot), i ≤ L → L < i + 6 * n → cells + 3 * n ≤ 600000 → slots + 324 * n ≤ 7302250 → Rel mS cS nt → Wd D A s.heap (wsC cy nt adC cS ++ wsM cy adM mS) H locs → lv_has ls 4 [(3, .int (nI i)), (2, .ref (adM 0)), (1, .ref (adC 0)), (0, .ref b)] → W p l e room_1 s m #[Value.ref b] below meth c H locs cells slots (lw_Z below #[Value.ref b] s) (F0 m 18 ls []) := by
  intro n
  induction n with
  | zero => intro i nt adC adM cS mS cells slots H locs ls h1 h2; omega
  | succ n ih =>
    intro i nt adC adM cS mS cells slots H locs ls hiL hn hc hs hR hw hl
    refine lv_iload_n K.1 K.2.1 dL_law_18 rfl (lv_at hl 0 rfl) ?_
    refine lv_aload_n K.1 K.2.1 dL_law_19 rfl (lv_at hl 3 rfl) ?_
    refine va_slen K.1 K.2.1 hX hbl hbA hw.2.2 dL_law_20 ?_
    refine lv_bipush (v := (6 : Int32)) K.1 K.2.1 dL_law_21 (by decide) ?_
    refine lv_isub K.1 K.2.1 dL_law_23 ?_
    refine lv_icmp_gt (tgt := 1089) K.1 K.2.1 dL_law_24 (by decide) (fun h => ?_) (fun h => ?_)
    · refine va_forget (fun q hq => hA' _ (hw.2.2.2.2 q hq)) ?_
      refine lv_iconst (v := (1 : Int32)) K.1 K.2.1 dL_law_1089 (by decide) ?_
      refine W.widen (k := 600000) (n := 7302250) (by omega) (by omega) ?_
      exact lw_ret K.1 K.2.1 hr K.2.2.2.2.2.2 dL_law_1090
    · have hi : i + 6 ≤ L := Nat.le_of_not_lt (fun q => h ((cond_gt (by omega) hL).mpr q))
      refine lv_aload_n K.1 K.2.1 dL_law_27 rfl (lv_at hl 3 rfl) ?_
      refine lv_iload_n K.1 K.2.1 dL_law_28 rfl (lv_at hl 0 rfl) ?_
      refine va_sld K.1 K.2.1 hX hbl hbA hw.2.2 (vp_in_nI (by omega) (by omega)) dL_law_29 ?_
      refine lv_bipush (v := (31 : Int32)) K.1 K.2.1 dL_law_30 (by decide) ?_
      refine lv_iand K.1 K.2.1 dL_law_32 ?_
      obtain ⟨j, hj, ej⟩ := and31 (xs (nI i).toNatClampNeg)
      rw [ej]
      have nxt : ∀ (nt' : Nat) (adC' : Nat → Nat) (cS' mS' : Sg) (H' : Heap) (locs' : List Loc), adC' 0 = adC 0 → Rel mS' cS' nt' → Wd D A s.heap (wsC cy nt' adC' cS' ++ wsM cy adM mS') H' locs' → W p l e room_1 s m #[Value.ref b] below meth c H' locs' (cells + 3) (slots + 324) (lw_Z below #[Value.ref b] s) (F0 m 1083 ls []) := fun nt' adC' cS' mS' H' locs' e0 hR' hw' => by
        refine lv_iinc (v := nI (i + 6)) (lv' := [(3, .int (nI (i + 6))), (2, .ref (adM 0)), (1, .ref (adC 0)), (0, .ref b)]) K.1 K.2.1 dL_law_1083 hl (k := 0) rfl (by rw [show Int32.ofInt 6 = nI 6 by decide]; exact nI_add i 6) (by decide) rfl (fun ls hl => ?_)
        refine lv_goto (tgt := 18) K.1 K.2.1 dL_law_1086 (by decide) ?_
        rw [← e0] at hl
        exact ih (i + 6) nt' adC' adM cS' mS' _ _ H' locs' ls hi (by omega) (by omega) (by omega) hR' hw' hl
      have hC : cells + 3 ≤ 600000 ∧ slots + 324 ≤ 7302250 := ⟨Nat.le_trans (Nat.add_le_add_left (Nat.le_mul_of_pos_right 3 (Nat.succ_pos n)) cells) hc, Nat.le_trans (Nat.add_le_add_left (Nat.le_mul_of_pos_right 324 (Nat.succ_pos n)) slots) hs⟩
      rcases (show j = 0 ∨ j = 1 ∨ j = 2 ∨ j = 3 ∨ j = 4 ∨ j = 5 ∨ j = 6 ∨ j = 7 ∨ j = 8 ∨ j = 9 ∨ j = 10 ∨ j = 11 ∨ j = 12 ∨ j = 13 ∨ j = 14 ∨ j = 15 ∨ j = 16 ∨ j = 17 ∨ j = 18 ∨ j = 19 ∨ j = 20 ∨ j = 21 ∨ j = 22 ∨ j = 23 ∨ j = 24 ∨ j = 25 ∨ j = 26 ∨ j = 27 ∨ j = 28 ∨ j = 29 ∨ j = 30 ∨ j = 31 by omega) with rfl | rfl | rfl | rfl | rfl | rfl | rfl | rfl | rfl | rfl | rfl | rfl | rfl | rfl | rfl | rfl | rfl | rfl | rfl | rfl | rfl | rfl | rfl | rfl | rfl | rfl | rfl | rfl | rfl | rfl | rfl | rfl
      · refine lv_tableIn (off := 131) (tgt := 164) K.1 K.2.1 dL_law_33 (by decide) (by decide) (by decide) (by decide) ?_
        exact law_c0 K KX KS hA hX hbl hbA hC hi hL hR hw hl nxt
      · refine lv_tableIn (off := 174) (tgt := 207) K.1 K.2.1 dL_law_33 (by decide) (by decide) (by decide) (by decide) ?_
        exact law_c1 K KX KS hA hX hbl hbA hC hi hL hR hw hl nxt
      · refine lv_tableIn (off := 217) (tgt := 250) K.1 K.2.1 dL_law_33 (by decide) (by decide) (by decide) (by decide) ?_
        exact law_c2 K KX KS hA hX hbl hbA hC hi hL hR hw hl nxt
      · refine lv_tableIn (off := 250) (tgt := 283) K.1 K.2.1 dL_law_33 (by decide) (by decide) (by decide) (by decide) ?_
        exact law_c3 K KX KS hA hX hbl hbA hC hi hL hR hw hl nxt
      · refine lv_tableIn (off := 273) (tgt := 306) K.1 K.2.1 dL_law_33 (by decide) (by decide) (by decide) (by decide) ?_
        exact law_c4 K KX KS hA hX hbl hbA hC hi hL hR hw hl nxt
      · refine lv_tableIn (off := 296) (tgt := 329) K.1 K.2.1 dL_law_33 (by decide) (by decide) (by decide) (by decide) ?_
        exact law_c5 K KX KS hA hX hbl hbA hC hi hL hR hw hl nxt
      · refine lv_tableIn (off := 309) (tgt := 342) K.1 K.2.1 dL_law_33 (by decide) (by decide) (by decide) (by decide) ?_
        exact law_c6 K KX KS hA hX hbl hbA hC hi hL hR hw hl nxt
      · refine lv_tableIn (off := 332) (tgt := 365) K.1 K.2.1 dL_law_33 (by decide) (by decide) (by decide) (by decide) ?_
        exact law_c7 K KX KS hA hX hbl hbA hC hi hL hR hw hl nxt
      · refine lv_tableIn (off := 365) (tgt := 398) K.1 K.2.1 dL_law_33 (by decide) (by decide) (by decide) (by decide) ?_
        exact law_c8 K KX KS hA hX hbl hbA hC hi hL hR hw hl nxt
      · refine lv_tableIn (off := 388) (tgt := 421) K.1 K.2.1 dL_law_33 (by decide) (by decide) (by decide) (by decide) ?_
        exact law_c9 K KX KS hA hX hbl hbA hC hi hL hR hw hl nxt
      · refine lv_tableIn (off := 401) (tgt := 434) K.1 K.2.1 dL_law_33 (by decide) (by decide) (by decide) (by decide) ?_
        exact law_c10 K KX KS hA hX hbl hbA hC hi hL hR hw hl nxt
      · refine lv_tableIn (off := 434) (tgt := 467) K.1 K.2.1 dL_law_33 (by decide) (by decide) (by decide) (by decide) ?_
        exact law_c11 K KX KS hA hX hbl hbA hC hi hL hR hw hl nxt
      · refine lv_tableIn (off := 457) (tgt := 490) K.1 K.2.1 dL_law_33 (by decide) (by decide) (by decide) (by decide) ?_
        exact law_c12 K KX KS hA hX hbl hbA hC hi hL hR hw hl nxt
      · refine lv_tableIn (off := 491) (tgt := 524) K.1 K.2.1 dL_law_33 (by decide) (by decide) (by decide) (by decide) ?_
        exact law_c13 K KX KS hA hX hbl hbA hC hi hL hR hw hl nxt
      · refine lv_tableIn (off := 514) (tgt := 547) K.1 K.2.1 dL_law_33 (by decide) (by decide) (by decide) (by decide) ?_
        exact law_c14 K KX KS hA hX hbl hbA hC hi hL hR hw hl nxt
      · refine lv_tableIn (off := 537) (tgt := 570) K.1 K.2.1 dL_law_33 (by decide) (by decide) (by decide) (by decide) ?_
        exact law_c15 K KX KS hA hX hbl hbA hC hi hL hR hw hl nxt
      · refine lv_tableIn (off := 570) (tgt := 603) K.1 K.2.1 dL_law_33 (by decide) (by decide) (by decide) (by decide) ?_
        exact law_c16 K KX KS hA hX hbl hbA hC hi hL hR hw hl nxt
      · refine lv_tableIn (off := 603) (tgt := 636) K.1 K.2.1 dL_law_33 (by decide) (by decide) (by decide) (by decide) ?_
        exact law_c17 K KX KS hA hX hbl hbA hC hi hL hR hw hl nxt
      · refine lv_tableIn (off := 646) (tgt := 679) K.1 K.2.1 dL_law_33 (by decide) (by decide) (by decide) (by decide) ?_
        exact law_c18 K KX KS hA hX hbl hbA hC hi hL hR hw hl nxt
      · refine lv_tableIn (off := 679) (tgt := 712) K.1 K.2.1 dL_law_33 (by decide) (by decide) (by decide) (by decide) ?_
        exact law_c19 K KX KS hA hX hbl hbA hC hi hL hR hw hl nxt
      · refine lv_tableIn (off := 712) (tgt := 745) K.1 K.2.1 dL_law_33 (by decide) (by decide) (by decide) (by decide) ?_
        exact law_c20 K KX KS hA hX hbl hbA hC hi hL hR hw hl nxt
      · refine lv_tableIn (off := 766) (tgt := 799) K.1 K.2.1 dL_law_33 (by decide) (by decide) (by decide) (by decide) ?_
        exact law_c21 K KX KS hA hX hbl hbA hC hi hL hR hw hl nxt
      · refine lv_tableIn (off := 779) (tgt := 812) K.1 K.2.1 dL_law_33 (by decide) (by decide) (by decide) (by decide) ?_
        exact law_c22 K KX KS hA hX hbl hbA hC hi hL hR hw hl nxt
      · refine lv_tableIn (off := 792) (tgt := 825) K.1 K.2.1 dL_law_33 (by decide) (by decide) (by decide) (by decide) ?_
        exact law_c23 K KX KS hA hX hbl hbA hC hi hL hR hw hl nxt
      · refine lv_tableIn (off := 815) (tgt := 848) K.1 K.2.1 dL_law_33 (by decide) (by decide) (by decide) (by decide) ?_
        exact law_c24 K KX KS hA hX hbl hbA hC hi hL hR hw hl nxt
      · refine lv_tableIn (off := 858) (tgt := 891) K.1 K.2.1 dL_law_33 (by decide) (by decide) (by decide) (by decide) ?_
        exact law_c25 K KX KS hA hX hbl hbA hC hi hL hR hw hl nxt
      · refine lv_tableIn (off := 901) (tgt := 934) K.1 K.2.1 dL_law_33 (by decide) (by decide) (by decide) (by decide) ?_
        exact law_c26 K KX KS hA hX hbl hbA hC hi hL hR hw hl nxt
      · refine lv_tableIn (off := 964) (tgt := 997) K.1 K.2.1 dL_law_33 (by decide) (by decide) (by decide) (by decide) ?_
        exact law_c27 K KX KS hA hX hbl hbA hC hi hL hR hw hl nxt
      · refine lv_tableIn (off := 1017) (tgt := 1050) K.1 K.2.1 dL_law_33 (by decide) (by decide) (by decide) (by decide) ?_
        exact law_c28 K KX KS hA hX hbl hbA hC hi hL hR hw hl nxt
      · refine lv_tableOut (tgt := 1083) K.1 K.2.1 dL_law_33 (Or.inr (by decide)) (by decide) ?_
        exact W.widen (k := cells + 3) (n := slots + 324) (Nat.le_add_right _ _) (Nat.le_add_right _ _) (nxt nt adC cS mS H locs rfl hR hw)
      · refine lv_tableOut (tgt := 1083) K.1 K.2.1 dL_law_33 (Or.inr (by decide)) (by decide) ?_
        exact W.widen (k := cells + 3) (n := slots + 324) (Nat.le_add_right _ _) (Nat.le_add_right _ _) (nxt nt adC cS mS H locs rfl hR hw)
      · refine lv_tableOut (tgt := 1083) K.1 K.2.1 dL_law_33 (Or.inr (by decide)) (by decide) ?_
        exact W.widen (k := cells + 3) (n := slots + 324) (Nat.le_add_right _ _) (Nat.le_add_right _ _) (nxt nt adC cS mS H locs rfl hR hw)
end
