section
/-! ===== the law: its cases ===== -/
theorem lg_same (x : Int64) : lg_cmp x x = 0 := by simp [lg_cmp]
theorem law_c0 {p : Program} {l : Launch} {e : Env} {s : State} {m : MethodId} {below : List Frame} {meth : Method} {c : Code} {b L : Nat} {xs : Nat → Int32} {D : va_G} {cy : Nat → ClassId} {X : Nat → Nat} {A : Nat → Prop} {nt : Nat} {adC adM : Nat → Nat} {cS mS : Sg} {i cells slots : Nat} {H : Heap} {locs : List Loc} {ls : Array Slot} (K : Kx p s m #[Value.ref b] meth c code 4 RL D cy) (KX : XC X A s s.heap) (KS : SX s) (hA : ∀ q, s.heap.size ≤ q → A q) (hX : va_X b L xs s s.heap) (hbl : b < s.heap.size) (hbA : ¬ A b) (hC : cells + 3 ≤ 600000 ∧ slots + 324 ≤ 7302250) (hi : i + 6 ≤ L) (hL : L ≤ 3072) (hR : Rel mS cS nt) (hw : Wd D A s.heap (wsC cy nt adC cS ++ wsM cy adM mS) H locs) (hl : lv_has ls 4 [(3, .int (nI i)), (2, .ref (adM 0)), (1, .ref (adC 0)), (0, .ref b)])
    (next : ∀ (nt' : Nat) (adC' : Nat → Nat) (cS' mS' : Sg) (H' : Heap) (locs' : List Loc), adC' 0 = adC 0 → Rel mS' cS' nt' → Wd D A s.heap (wsC cy nt' adC' cS' ++ wsM cy adM mS') H' locs' → W p l e room_1 s m #[Value.ref b] below meth c H' locs' (cells + 3) (slots + 324) (lw_Z below #[Value.ref b] s) (F0 m 1083 ls [])) : W p l e room_1 s m #[Value.ref b] below meth c H locs cells slots (lw_Z below #[Value.ref b] s) (F0 m 164 ls []) := by
  have h1 : vp_in (nI i + 1) L := by rw [show nI i + 1 = nI (i + 1) from nI_add i 1]; exact vp_in_nI (by omega) (by omega)
  have h2 : vp_in (nI i + 2) L := by rw [show nI i + 2 = nI (i + 2) from nI_add i 2]; exact vp_in_nI (by omega) (by omega)
  have h3 : vp_in (nI i + 3) L := by rw [show nI i + 3 = nI (i + 3) from nI_add i 3]; exact vp_in_nI (by omega) (by omega)
  refine lv_aload_n K.1 K.2.1 dL_law_164 rfl (lv_at hl 2 rfl) ?_
  refine lv_aload_n K.1 K.2.1 dL_law_165 rfl (lv_at hl 3 rfl) ?_
  refine lv_iload_n K.1 K.2.1 dL_law_166 rfl (lv_at hl 0 rfl) ?_
  refine lv_iconst (v := (1 : Int32)) K.1 K.2.1 dL_law_167 (by decide) ?_
  refine lv_iadd K.1 K.2.1 dL_law_168 ?_
  refine va_sld K.1 K.2.1 hX hbl hbA hw.2.2 h1 dL_law_169 ?_
  refine lv_aload_n K.1 K.2.1 dL_law_170 rfl (lv_at hl 3 rfl) ?_
  refine lv_iload_n K.1 K.2.1 dL_law_171 rfl (lv_at hl 0 rfl) ?_
  refine lv_iconst (v := (2 : Int32)) K.1 K.2.1 dL_law_172 (by decide) ?_
  refine lv_iadd K.1 K.2.1 dL_law_173 ?_
  refine va_sld K.1 K.2.1 hX hbl hbA hw.2.2 h2 dL_law_174 ?_
  refine lv_aload_n K.1 K.2.1 dL_law_175 rfl (lv_at hl 3 rfl) ?_
  refine lv_iload_n K.1 K.2.1 dL_law_176 rfl (lv_at hl 0 rfl) ?_
  refine lv_iconst (v := (3 : Int32)) K.1 K.2.1 dL_law_177 (by decide) ?_
  refine lv_iadd K.1 K.2.1 dL_law_178 ?_
  refine va_sld K.1 K.2.1 hX hbl hbA hw.2.2 h3 dL_law_179 ?_
  refine fr_ci (wl := []) (wf := wsC cy nt adC) (wr := wsM cy adM mS) (As := [.int (xs (nI i + 1).toNatClampNeg), .int (xs (nI i + 2).toNatClampNeg), .int (xs (nI i + 3).toNatClampNeg)]) (rest := []) K KX hA hw (cc_X7_set l D cy nt adC _ X cS _ (xs (nI i + 1).toNatClampNeg) (xs (nI i + 2).toNatClampNeg) (xs (nI i + 3).toNatClampNeg) (eq_set hR (xs (nI i + 1).toNatClampNeg) (xs (nI i + 2).toNatClampNeg) (xs (nI i + 3).toNatClampNeg))) lk_L_13 (ci := 7) rfl (wc_O cy nt adC _) ⟨Nat.le_of_ble_eq_true rfl, Nat.le_of_ble_eq_true rfl⟩ ⟨Nat.le_trans (Nat.le_add_right _ _) hC.1, Nat.le_trans (Nat.le_add_right _ _) hC.2⟩ rfl hl.1 (Nat.le_of_ble_eq_true rfl) rfl dL_law_180 (fun r u H locs hd hw => ?_)
  have hw : Wd D A s.heap (wsC cy nt adC u ++ (wsM cy adM mS ++ [])) H locs := by rw [List.append_nil]; exact hw
  refine lv_aload_n K.1 K.2.1 dL_law_183 rfl (lv_at hl 1 rfl) ?_
  refine lv_aload_n K.1 K.2.1 dL_law_184 rfl (lv_at hl 3 rfl) ?_
  refine lv_iload_n K.1 K.2.1 dL_law_185 rfl (lv_at hl 0 rfl) ?_
  refine lv_iconst (v := (1 : Int32)) K.1 K.2.1 dL_law_186 (by decide) ?_
  refine lv_iadd K.1 K.2.1 dL_law_187 ?_
  refine va_sld K.1 K.2.1 hX hbl hbA hw.2.2 h1 dL_law_188 ?_
  refine lv_aload_n K.1 K.2.1 dL_law_189 rfl (lv_at hl 3 rfl) ?_
  refine lv_iload_n K.1 K.2.1 dL_law_190 rfl (lv_at hl 0 rfl) ?_
  refine lv_iconst (v := (2 : Int32)) K.1 K.2.1 dL_law_191 (by decide) ?_
  refine lv_iadd K.1 K.2.1 dL_law_192 ?_
  refine va_sld K.1 K.2.1 hX hbl hbA hw.2.2 h2 dL_law_193 ?_
  refine lv_aload_n K.1 K.2.1 dL_law_194 rfl (lv_at hl 3 rfl) ?_
  refine lv_iload_n K.1 K.2.1 dL_law_195 rfl (lv_at hl 0 rfl) ?_
  refine lv_iconst (v := (3 : Int32)) K.1 K.2.1 dL_law_196 (by decide) ?_
  refine lv_iadd K.1 K.2.1 dL_law_197 ?_
  refine va_sld K.1 K.2.1 hX hbl hbA hw.2.2 h3 dL_law_198 ?_
  refine fr_gi (wl := wsC cy nt adC u) (wf := wsM cy adM) (wr := []) (As := [.int (xs (nI i + 1).toNatClampNeg), .int (xs (nI i + 2).toNatClampNeg), .int (xs (nI i + 3).toNatClampNeg)]) (rest := [.int r]) K hA hw (cc_X8_set l D cy adM _ mS _ (xs (nI i + 1).toNatClampNeg) (xs (nI i + 2).toNatClampNeg) (xs (nI i + 3).toNatClampNeg) hd) lk_L_17 (ci := 8) rfl (q0 := 0) (wsM_at cy adM _ (by decide)) ⟨Nat.le_of_ble_eq_true rfl, Nat.le_of_ble_eq_true rfl⟩ ⟨Nat.le_trans (Nat.le_add_right _ _) hC.1, Nat.le_trans (Nat.le_add_right _ _) hC.2⟩ rfl hl.1 (Nat.le_of_ble_eq_true rfl) rfl dL_law_199 (fun r2 mS2 H locs hd hw => ?_)
  obtain ⟨er, hR2⟩ := hd
  rw [List.append_nil] at hw
  refine W.widen (k := cells + 3) (n := slots + 324) (Nat.le_add_right _ _) (Nat.le_add_right _ _) ?_
  exact lv_icmp_eq (tgt := 1083) K.1 K.2.1 dL_law_202 (by decide) (fun _ => next nt adC u mS2 H locs rfl hR2 hw) (fun h => absurd er h)
theorem law_c1 {p : Program} {l : Launch} {e : Env} {s : State} {m : MethodId} {below : List Frame} {meth : Method} {c : Code} {b L : Nat} {xs : Nat → Int32} {D : va_G} {cy : Nat → ClassId} {X : Nat → Nat} {A : Nat → Prop} {nt : Nat} {adC adM : Nat → Nat} {cS mS : Sg} {i cells slots : Nat} {H : Heap} {locs : List Loc} {ls : Array Slot} (K : Kx p s m #[Value.ref b] meth c code 4 RL D cy) (KX : XC X A s s.heap) (KS : SX s) (hA : ∀ q, s.heap.size ≤ q → A q) (hX : va_X b L xs s s.heap) (hbl : b < s.heap.size) (hbA : ¬ A b) (hC : cells + 3 ≤ 600000 ∧ slots + 324 ≤ 7302250) (hi : i + 6 ≤ L) (hL : L ≤ 3072) (hR : Rel mS cS nt) (hw : Wd D A s.heap (wsC cy nt adC cS ++ wsM cy adM mS) H locs) (hl : lv_has ls 4 [(3, .int (nI i)), (2, .ref (adM 0)), (1, .ref (adC 0)), (0, .ref b)])
    (next : ∀ (nt' : Nat) (adC' : Nat → Nat) (cS' mS' : Sg) (H' : Heap) (locs' : List Loc), adC' 0 = adC 0 → Rel mS' cS' nt' → Wd D A s.heap (wsC cy nt' adC' cS' ++ wsM cy adM mS') H' locs' → W p l e room_1 s m #[Value.ref b] below meth c H' locs' (cells + 3) (slots + 324) (lw_Z below #[Value.ref b] s) (F0 m 1083 ls [])) : W p l e room_1 s m #[Value.ref b] below meth c H locs cells slots (lw_Z below #[Value.ref b] s) (F0 m 207 ls []) := by
  have h1 : vp_in (nI i + 1) L := by rw [show nI i + 1 = nI (i + 1) from nI_add i 1]; exact vp_in_nI (by omega) (by omega)
  have h2 : vp_in (nI i + 2) L := by rw [show nI i + 2 = nI (i + 2) from nI_add i 2]; exact vp_in_nI (by omega) (by omega)
  have h3 : vp_in (nI i + 3) L := by rw [show nI i + 3 = nI (i + 3) from nI_add i 3]; exact vp_in_nI (by omega) (by omega)
  refine lv_aload_n K.1 K.2.1 dL_law_207 rfl (lv_at hl 2 rfl) ?_
  refine lv_aload_n K.1 K.2.1 dL_law_208 rfl (lv_at hl 3 rfl) ?_
  refine lv_iload_n K.1 K.2.1 dL_law_209 rfl (lv_at hl 0 rfl) ?_
  refine lv_iconst (v := (1 : Int32)) K.1 K.2.1 dL_law_210 (by decide) ?_
  refine lv_iadd K.1 K.2.1 dL_law_211 ?_
  refine va_sld K.1 K.2.1 hX hbl hbA hw.2.2 h1 dL_law_212 ?_
  refine lv_aload_n K.1 K.2.1 dL_law_213 rfl (lv_at hl 3 rfl) ?_
  refine lv_iload_n K.1 K.2.1 dL_law_214 rfl (lv_at hl 0 rfl) ?_
  refine lv_iconst (v := (2 : Int32)) K.1 K.2.1 dL_law_215 (by decide) ?_
  refine lv_iadd K.1 K.2.1 dL_law_216 ?_
  refine va_sld K.1 K.2.1 hX hbl hbA hw.2.2 h2 dL_law_217 ?_
  refine lv_aload_n K.1 K.2.1 dL_law_218 rfl (lv_at hl 3 rfl) ?_
  refine lv_iload_n K.1 K.2.1 dL_law_219 rfl (lv_at hl 0 rfl) ?_
  refine lv_iconst (v := (3 : Int32)) K.1 K.2.1 dL_law_220 (by decide) ?_
  refine lv_iadd K.1 K.2.1 dL_law_221 ?_
  refine va_sld K.1 K.2.1 hX hbl hbA hw.2.2 h3 dL_law_222 ?_
  refine fr_ci (wl := []) (wf := wsC cy nt adC) (wr := wsM cy adM mS) (As := [.int (xs (nI i + 1).toNatClampNeg), .int (xs (nI i + 2).toNatClampNeg), .int (xs (nI i + 3).toNatClampNeg)]) (rest := []) K KX hA hw (cc_X7_paper l D cy nt adC _ X cS _ (xs (nI i + 1).toNatClampNeg) (xs (nI i + 2).toNatClampNeg) (xs (nI i + 3).toNatClampNeg) (eq_paper hR (xs (nI i + 1).toNatClampNeg) (xs (nI i + 2).toNatClampNeg) (xs (nI i + 3).toNatClampNeg))) lk_L_18 (ci := 7) rfl (wc_O cy nt adC _) ⟨Nat.le_of_ble_eq_true rfl, Nat.le_of_ble_eq_true rfl⟩ ⟨Nat.le_trans (Nat.le_add_right _ _) hC.1, Nat.le_trans (Nat.le_add_right _ _) hC.2⟩ rfl hl.1 (Nat.le_of_ble_eq_true rfl) rfl dL_law_223 (fun r u H locs hd hw => ?_)
  have hw : Wd D A s.heap (wsC cy nt adC u ++ (wsM cy adM mS ++ [])) H locs := by rw [List.append_nil]; exact hw
  refine lv_aload_n K.1 K.2.1 dL_law_226 rfl (lv_at hl 1 rfl) ?_
  refine lv_aload_n K.1 K.2.1 dL_law_227 rfl (lv_at hl 3 rfl) ?_
  refine lv_iload_n K.1 K.2.1 dL_law_228 rfl (lv_at hl 0 rfl) ?_
  refine lv_iconst (v := (1 : Int32)) K.1 K.2.1 dL_law_229 (by decide) ?_
  refine lv_iadd K.1 K.2.1 dL_law_230 ?_
  refine va_sld K.1 K.2.1 hX hbl hbA hw.2.2 h1 dL_law_231 ?_
  refine lv_aload_n K.1 K.2.1 dL_law_232 rfl (lv_at hl 3 rfl) ?_
  refine lv_iload_n K.1 K.2.1 dL_law_233 rfl (lv_at hl 0 rfl) ?_
  refine lv_iconst (v := (2 : Int32)) K.1 K.2.1 dL_law_234 (by decide) ?_
  refine lv_iadd K.1 K.2.1 dL_law_235 ?_
  refine va_sld K.1 K.2.1 hX hbl hbA hw.2.2 h2 dL_law_236 ?_
  refine lv_aload_n K.1 K.2.1 dL_law_237 rfl (lv_at hl 3 rfl) ?_
  refine lv_iload_n K.1 K.2.1 dL_law_238 rfl (lv_at hl 0 rfl) ?_
  refine lv_iconst (v := (3 : Int32)) K.1 K.2.1 dL_law_239 (by decide) ?_
  refine lv_iadd K.1 K.2.1 dL_law_240 ?_
  refine va_sld K.1 K.2.1 hX hbl hbA hw.2.2 h3 dL_law_241 ?_
  refine fr_gi (wl := wsC cy nt adC u) (wf := wsM cy adM) (wr := []) (As := [.int (xs (nI i + 1).toNatClampNeg), .int (xs (nI i + 2).toNatClampNeg), .int (xs (nI i + 3).toNatClampNeg)]) (rest := [.int r]) K hA hw (cc_X8_paper l D cy adM _ mS _ (xs (nI i + 1).toNatClampNeg) (xs (nI i + 2).toNatClampNeg) (xs (nI i + 3).toNatClampNeg) hd) lk_L_21 (ci := 8) rfl (q0 := 0) (wsM_at cy adM _ (by decide)) ⟨Nat.le_of_ble_eq_true rfl, Nat.le_of_ble_eq_true rfl⟩ ⟨Nat.le_trans (Nat.le_add_right _ _) hC.1, Nat.le_trans (Nat.le_add_right _ _) hC.2⟩ rfl hl.1 (Nat.le_of_ble_eq_true rfl) rfl dL_law_242 (fun r2 mS2 H locs hd hw => ?_)
  obtain ⟨er, hR2⟩ := hd
  rw [List.append_nil] at hw
  refine W.widen (k := cells + 3) (n := slots + 324) (Nat.le_add_right _ _) (Nat.le_add_right _ _) ?_
  exact lv_icmp_eq (tgt := 1083) K.1 K.2.1 dL_law_245 (by decide) (fun _ => next nt adC u mS2 H locs rfl hR2 hw) (fun h => absurd er h)
theorem law_c2 {p : Program} {l : Launch} {e : Env} {s : State} {m : MethodId} {below : List Frame} {meth : Method} {c : Code} {b L : Nat} {xs : Nat → Int32} {D : va_G} {cy : Nat → ClassId} {X : Nat → Nat} {A : Nat → Prop} {nt : Nat} {adC adM : Nat → Nat} {cS mS : Sg} {i cells slots : Nat} {H : Heap} {locs : List Loc} {ls : Array Slot} (K : Kx p s m #[Value.ref b] meth c code 4 RL D cy) (KX : XC X A s s.heap) (KS : SX s) (hA : ∀ q, s.heap.size ≤ q → A q) (hX : va_X b L xs s s.heap) (hbl : b < s.heap.size) (hbA : ¬ A b) (hC : cells + 3 ≤ 600000 ∧ slots + 324 ≤ 7302250) (hi : i + 6 ≤ L) (hL : L ≤ 3072) (hR : Rel mS cS nt) (hw : Wd D A s.heap (wsC cy nt adC cS ++ wsM cy adM mS) H locs) (hl : lv_has ls 4 [(3, .int (nI i)), (2, .ref (adM 0)), (1, .ref (adC 0)), (0, .ref b)])
    (next : ∀ (nt' : Nat) (adC' : Nat → Nat) (cS' mS' : Sg) (H' : Heap) (locs' : List Loc), adC' 0 = adC 0 → Rel mS' cS' nt' → Wd D A s.heap (wsC cy nt' adC' cS' ++ wsM cy adM mS') H' locs' → W p l e room_1 s m #[Value.ref b] below meth c H' locs' (cells + 3) (slots + 324) (lw_Z below #[Value.ref b] s) (F0 m 1083 ls [])) : W p l e room_1 s m #[Value.ref b] below meth c H locs cells slots (lw_Z below #[Value.ref b] s) (F0 m 250 ls []) := by
  have h1 : vp_in (nI i + 1) L := by rw [show nI i + 1 = nI (i + 1) from nI_add i 1]; exact vp_in_nI (by omega) (by omega)
  have h2 : vp_in (nI i + 2) L := by rw [show nI i + 2 = nI (i + 2) from nI_add i 2]; exact vp_in_nI (by omega) (by omega)
  refine lv_aload_n K.1 K.2.1 dL_law_250 rfl (lv_at hl 2 rfl) ?_
  refine lv_aload_n K.1 K.2.1 dL_law_251 rfl (lv_at hl 3 rfl) ?_
  refine lv_iload_n K.1 K.2.1 dL_law_252 rfl (lv_at hl 0 rfl) ?_
  refine lv_iconst (v := (1 : Int32)) K.1 K.2.1 dL_law_253 (by decide) ?_
  refine lv_iadd K.1 K.2.1 dL_law_254 ?_
  refine va_sld K.1 K.2.1 hX hbl hbA hw.2.2 h1 dL_law_255 ?_
  refine lv_aload_n K.1 K.2.1 dL_law_256 rfl (lv_at hl 3 rfl) ?_
  refine lv_iload_n K.1 K.2.1 dL_law_257 rfl (lv_at hl 0 rfl) ?_
  refine lv_iconst (v := (2 : Int32)) K.1 K.2.1 dL_law_258 (by decide) ?_
  refine lv_iadd K.1 K.2.1 dL_law_259 ?_
  refine va_sld K.1 K.2.1 hX hbl hbA hw.2.2 h2 dL_law_260 ?_
  refine fr_ci (wl := []) (wf := wsC cy nt adC) (wr := wsM cy adM mS) (As := [.int (xs (nI i + 1).toNatClampNeg), .int (xs (nI i + 2).toNatClampNeg)]) (rest := []) K KX hA hw (cc_X7_told l D cy nt adC _ X cS _ (xs (nI i + 1).toNatClampNeg) (xs (nI i + 2).toNatClampNeg) (eq_told hR (xs (nI i + 1).toNatClampNeg) (xs (nI i + 2).toNatClampNeg))) lk_L_22 (ci := 7) rfl (wc_O cy nt adC _) ⟨Nat.le_of_ble_eq_true rfl, Nat.le_of_ble_eq_true rfl⟩ ⟨Nat.le_trans (Nat.le_add_right _ _) hC.1, Nat.le_trans (Nat.le_add_right _ _) hC.2⟩ rfl hl.1 (Nat.le_of_ble_eq_true rfl) rfl dL_law_261 (fun r u H locs hd hw => ?_)
  have hw : Wd D A s.heap (wsC cy nt adC u ++ (wsM cy adM mS ++ [])) H locs := by rw [List.append_nil]; exact hw
  refine lv_aload_n K.1 K.2.1 dL_law_264 rfl (lv_at hl 1 rfl) ?_
  refine lv_aload_n K.1 K.2.1 dL_law_265 rfl (lv_at hl 3 rfl) ?_
  refine lv_iload_n K.1 K.2.1 dL_law_266 rfl (lv_at hl 0 rfl) ?_
  refine lv_iconst (v := (1 : Int32)) K.1 K.2.1 dL_law_267 (by decide) ?_
  refine lv_iadd K.1 K.2.1 dL_law_268 ?_
  refine va_sld K.1 K.2.1 hX hbl hbA hw.2.2 h1 dL_law_269 ?_
  refine lv_aload_n K.1 K.2.1 dL_law_270 rfl (lv_at hl 3 rfl) ?_
  refine lv_iload_n K.1 K.2.1 dL_law_271 rfl (lv_at hl 0 rfl) ?_
  refine lv_iconst (v := (2 : Int32)) K.1 K.2.1 dL_law_272 (by decide) ?_
  refine lv_iadd K.1 K.2.1 dL_law_273 ?_
  refine va_sld K.1 K.2.1 hX hbl hbA hw.2.2 h2 dL_law_274 ?_
  refine fr_gi (wl := wsC cy nt adC u) (wf := wsM cy adM) (wr := []) (As := [.int (xs (nI i + 1).toNatClampNeg), .int (xs (nI i + 2).toNatClampNeg)]) (rest := [.int r]) K hA hw (cc_X8_told l D cy adM _ mS _ (xs (nI i + 1).toNatClampNeg) (xs (nI i + 2).toNatClampNeg) hd) lk_L_26 (ci := 8) rfl (q0 := 0) (wsM_at cy adM _ (by decide)) ⟨Nat.le_of_ble_eq_true rfl, Nat.le_of_ble_eq_true rfl⟩ ⟨Nat.le_trans (Nat.le_add_right _ _) hC.1, Nat.le_trans (Nat.le_add_right _ _) hC.2⟩ rfl hl.1 (Nat.le_of_ble_eq_true rfl) rfl dL_law_275 (fun r2 mS2 H locs hd hw => ?_)
  obtain ⟨er, hR2⟩ := hd
  rw [List.append_nil] at hw
  refine W.widen (k := cells + 3) (n := slots + 324) (Nat.le_add_right _ _) (Nat.le_add_right _ _) ?_
  exact lv_icmp_eq (tgt := 1083) K.1 K.2.1 dL_law_278 (by decide) (fun _ => next nt adC u mS2 H locs rfl hR2 hw) (fun h => absurd er h)
theorem law_c3 {p : Program} {l : Launch} {e : Env} {s : State} {m : MethodId} {below : List Frame} {meth : Method} {c : Code} {b L : Nat} {xs : Nat → Int32} {D : va_G} {cy : Nat → ClassId} {X : Nat → Nat} {A : Nat → Prop} {nt : Nat} {adC adM : Nat → Nat} {cS mS : Sg} {i cells slots : Nat} {H : Heap} {locs : List Loc} {ls : Array Slot} (K : Kx p s m #[Value.ref b] meth c code 4 RL D cy) (KX : XC X A s s.heap) (KS : SX s) (hA : ∀ q, s.heap.size ≤ q → A q) (hX : va_X b L xs s s.heap) (hbl : b < s.heap.size) (hbA : ¬ A b) (hC : cells + 3 ≤ 600000 ∧ slots + 324 ≤ 7302250) (hi : i + 6 ≤ L) (hL : L ≤ 3072) (hR : Rel mS cS nt) (hw : Wd D A s.heap (wsC cy nt adC cS ++ wsM cy adM mS) H locs) (hl : lv_has ls 4 [(3, .int (nI i)), (2, .ref (adM 0)), (1, .ref (adC 0)), (0, .ref b)])
    (next : ∀ (nt' : Nat) (adC' : Nat → Nat) (cS' mS' : Sg) (H' : Heap) (locs' : List Loc), adC' 0 = adC 0 → Rel mS' cS' nt' → Wd D A s.heap (wsC cy nt' adC' cS' ++ wsM cy adM mS') H' locs' → W p l e room_1 s m #[Value.ref b] below meth c H' locs' (cells + 3) (slots + 324) (lw_Z below #[Value.ref b] s) (F0 m 1083 ls [])) : W p l e room_1 s m #[Value.ref b] below meth c H locs cells slots (lw_Z below #[Value.ref b] s) (F0 m 283 ls []) := by
  have h1 : vp_in (nI i + 1) L := by rw [show nI i + 1 = nI (i + 1) from nI_add i 1]; exact vp_in_nI (by omega) (by omega)
  refine lv_aload_n K.1 K.2.1 dL_law_283 rfl (lv_at hl 2 rfl) ?_
  refine lv_aload_n K.1 K.2.1 dL_law_284 rfl (lv_at hl 3 rfl) ?_
  refine lv_iload_n K.1 K.2.1 dL_law_285 rfl (lv_at hl 0 rfl) ?_
  refine lv_iconst (v := (1 : Int32)) K.1 K.2.1 dL_law_286 (by decide) ?_
  refine lv_iadd K.1 K.2.1 dL_law_287 ?_
  refine va_sld K.1 K.2.1 hX hbl hbA hw.2.2 h1 dL_law_288 ?_
  refine fr_ci (wl := []) (wf := wsC cy nt adC) (wr := wsM cy adM mS) (As := [.int (xs (nI i + 1).toNatClampNeg)]) (rest := []) K KX hA hw (cc_X7_burn l D cy nt adC _ X cS _ (xs (nI i + 1).toNatClampNeg) (eq_burn hR (xs (nI i + 1).toNatClampNeg))) lk_L_27 (ci := 7) rfl (wc_O cy nt adC _) ⟨Nat.le_of_ble_eq_true rfl, Nat.le_of_ble_eq_true rfl⟩ ⟨Nat.le_trans (Nat.le_add_right _ _) hC.1, Nat.le_trans (Nat.le_add_right _ _) hC.2⟩ rfl hl.1 (Nat.le_of_ble_eq_true rfl) rfl dL_law_289 (fun r u H locs hd hw => ?_)
  have hw : Wd D A s.heap (wsC cy nt adC u ++ (wsM cy adM mS ++ [])) H locs := by rw [List.append_nil]; exact hw
  refine lv_aload_n K.1 K.2.1 dL_law_292 rfl (lv_at hl 1 rfl) ?_
  refine lv_aload_n K.1 K.2.1 dL_law_293 rfl (lv_at hl 3 rfl) ?_
  refine lv_iload_n K.1 K.2.1 dL_law_294 rfl (lv_at hl 0 rfl) ?_
  refine lv_iconst (v := (1 : Int32)) K.1 K.2.1 dL_law_295 (by decide) ?_
  refine lv_iadd K.1 K.2.1 dL_law_296 ?_
  refine va_sld K.1 K.2.1 hX hbl hbA hw.2.2 h1 dL_law_297 ?_
  refine fr_gi (wl := wsC cy nt adC u) (wf := wsM cy adM) (wr := []) (As := [.int (xs (nI i + 1).toNatClampNeg)]) (rest := [.int r]) K hA hw (cc_X8_burn l D cy adM _ mS _ (xs (nI i + 1).toNatClampNeg) hd) lk_L_31 (ci := 8) rfl (q0 := 0) (wsM_at cy adM _ (by decide)) ⟨Nat.le_of_ble_eq_true rfl, Nat.le_of_ble_eq_true rfl⟩ ⟨Nat.le_trans (Nat.le_add_right _ _) hC.1, Nat.le_trans (Nat.le_add_right _ _) hC.2⟩ rfl hl.1 (Nat.le_of_ble_eq_true rfl) rfl dL_law_298 (fun r2 mS2 H locs hd hw => ?_)
  obtain ⟨er, hR2⟩ := hd
  rw [List.append_nil] at hw
  refine W.widen (k := cells + 3) (n := slots + 324) (Nat.le_add_right _ _) (Nat.le_add_right _ _) ?_
  exact lv_icmp_eq (tgt := 1083) K.1 K.2.1 dL_law_301 (by decide) (fun _ => next nt adC u mS2 H locs rfl hR2 hw) (fun h => absurd er h)
theorem law_c4 {p : Program} {l : Launch} {e : Env} {s : State} {m : MethodId} {below : List Frame} {meth : Method} {c : Code} {b L : Nat} {xs : Nat → Int32} {D : va_G} {cy : Nat → ClassId} {X : Nat → Nat} {A : Nat → Prop} {nt : Nat} {adC adM : Nat → Nat} {cS mS : Sg} {i cells slots : Nat} {H : Heap} {locs : List Loc} {ls : Array Slot} (K : Kx p s m #[Value.ref b] meth c code 4 RL D cy) (KX : XC X A s s.heap) (KS : SX s) (hA : ∀ q, s.heap.size ≤ q → A q) (hX : va_X b L xs s s.heap) (hbl : b < s.heap.size) (hbA : ¬ A b) (hC : cells + 3 ≤ 600000 ∧ slots + 324 ≤ 7302250) (hi : i + 6 ≤ L) (hL : L ≤ 3072) (hR : Rel mS cS nt) (hw : Wd D A s.heap (wsC cy nt adC cS ++ wsM cy adM mS) H locs) (hl : lv_has ls 4 [(3, .int (nI i)), (2, .ref (adM 0)), (1, .ref (adC 0)), (0, .ref b)])
    (next : ∀ (nt' : Nat) (adC' : Nat → Nat) (cS' mS' : Sg) (H' : Heap) (locs' : List Loc), adC' 0 = adC 0 → Rel mS' cS' nt' → Wd D A s.heap (wsC cy nt' adC' cS' ++ wsM cy adM mS') H' locs' → W p l e room_1 s m #[Value.ref b] below meth c H' locs' (cells + 3) (slots + 324) (lw_Z below #[Value.ref b] s) (F0 m 1083 ls [])) : W p l e room_1 s m #[Value.ref b] below meth c H locs cells slots (lw_Z below #[Value.ref b] s) (F0 m 306 ls []) := by
  have h1 : vp_in (nI i + 1) L := by rw [show nI i + 1 = nI (i + 1) from nI_add i 1]; exact vp_in_nI (by omega) (by omega)
  refine lv_aload_n K.1 K.2.1 dL_law_306 rfl (lv_at hl 2 rfl) ?_
  refine lv_aload_n K.1 K.2.1 dL_law_307 rfl (lv_at hl 3 rfl) ?_
  refine lv_iload_n K.1 K.2.1 dL_law_308 rfl (lv_at hl 0 rfl) ?_
  refine lv_iconst (v := (1 : Int32)) K.1 K.2.1 dL_law_309 (by decide) ?_
  refine lv_iadd K.1 K.2.1 dL_law_310 ?_
  refine va_sld K.1 K.2.1 hX hbl hbA hw.2.2 h1 dL_law_311 ?_
  refine fr_ci (wl := []) (wf := wsC cy nt adC) (wr := wsM cy adM mS) (As := [.int (xs (nI i + 1).toNatClampNeg)]) (rest := []) K KX hA hw (cc_X7_feed l D cy nt adC _ X cS _ (xs (nI i + 1).toNatClampNeg) (eq_feed hR (xs (nI i + 1).toNatClampNeg))) lk_L_32 (ci := 7) rfl (wc_O cy nt adC _) ⟨Nat.le_of_ble_eq_true rfl, Nat.le_of_ble_eq_true rfl⟩ ⟨Nat.le_trans (Nat.le_add_right _ _) hC.1, Nat.le_trans (Nat.le_add_right _ _) hC.2⟩ rfl hl.1 (Nat.le_of_ble_eq_true rfl) rfl dL_law_312 (fun r u H locs hd hw => ?_)
  have hw : Wd D A s.heap (wsC cy nt adC u ++ (wsM cy adM mS ++ [])) H locs := by rw [List.append_nil]; exact hw
  refine lv_aload_n K.1 K.2.1 dL_law_315 rfl (lv_at hl 1 rfl) ?_
  refine lv_aload_n K.1 K.2.1 dL_law_316 rfl (lv_at hl 3 rfl) ?_
  refine lv_iload_n K.1 K.2.1 dL_law_317 rfl (lv_at hl 0 rfl) ?_
  refine lv_iconst (v := (1 : Int32)) K.1 K.2.1 dL_law_318 (by decide) ?_
  refine lv_iadd K.1 K.2.1 dL_law_319 ?_
  refine va_sld K.1 K.2.1 hX hbl hbA hw.2.2 h1 dL_law_320 ?_
  refine fr_gi (wl := wsC cy nt adC u) (wf := wsM cy adM) (wr := []) (As := [.int (xs (nI i + 1).toNatClampNeg)]) (rest := [.int r]) K hA hw (cc_X8_feed l D cy adM _ mS _ (xs (nI i + 1).toNatClampNeg) hd) lk_L_35 (ci := 8) rfl (q0 := 0) (wsM_at cy adM _ (by decide)) ⟨Nat.le_of_ble_eq_true rfl, Nat.le_of_ble_eq_true rfl⟩ ⟨Nat.le_trans (Nat.le_add_right _ _) hC.1, Nat.le_trans (Nat.le_add_right _ _) hC.2⟩ rfl hl.1 (Nat.le_of_ble_eq_true rfl) rfl dL_law_321 (fun r2 mS2 H locs hd hw => ?_)
  obtain ⟨er, hR2⟩ := hd
  rw [List.append_nil] at hw
  refine W.widen (k := cells + 3) (n := slots + 324) (Nat.le_add_right _ _) (Nat.le_add_right _ _) ?_
  exact lv_icmp_eq (tgt := 1083) K.1 K.2.1 dL_law_324 (by decide) (fun _ => next nt adC u mS2 H locs rfl hR2 hw) (fun h => absurd er h)
theorem law_c5 {p : Program} {l : Launch} {e : Env} {s : State} {m : MethodId} {below : List Frame} {meth : Method} {c : Code} {b L : Nat} {xs : Nat → Int32} {D : va_G} {cy : Nat → ClassId} {X : Nat → Nat} {A : Nat → Prop} {nt : Nat} {adC adM : Nat → Nat} {cS mS : Sg} {i cells slots : Nat} {H : Heap} {locs : List Loc} {ls : Array Slot} (K : Kx p s m #[Value.ref b] meth c code 4 RL D cy) (KX : XC X A s s.heap) (KS : SX s) (hA : ∀ q, s.heap.size ≤ q → A q) (hX : va_X b L xs s s.heap) (hbl : b < s.heap.size) (hbA : ¬ A b) (hC : cells + 3 ≤ 600000 ∧ slots + 324 ≤ 7302250) (hi : i + 6 ≤ L) (hL : L ≤ 3072) (hR : Rel mS cS nt) (hw : Wd D A s.heap (wsC cy nt adC cS ++ wsM cy adM mS) H locs) (hl : lv_has ls 4 [(3, .int (nI i)), (2, .ref (adM 0)), (1, .ref (adC 0)), (0, .ref b)])
    (next : ∀ (nt' : Nat) (adC' : Nat → Nat) (cS' mS' : Sg) (H' : Heap) (locs' : List Loc), adC' 0 = adC 0 → Rel mS' cS' nt' → Wd D A s.heap (wsC cy nt' adC' cS' ++ wsM cy adM mS') H' locs' → W p l e room_1 s m #[Value.ref b] below meth c H' locs' (cells + 3) (slots + 324) (lw_Z below #[Value.ref b] s) (F0 m 1083 ls [])) : W p l e room_1 s m #[Value.ref b] below meth c H locs cells slots (lw_Z below #[Value.ref b] s) (F0 m 329 ls []) := by
  refine lv_aload_n K.1 K.2.1 dL_law_329 rfl (lv_at hl 2 rfl) ?_
  refine rx_V (wl := []) (wc := wsC cy nt adC cS) (wr := wsM cy adM mS) (As := []) (rest := []) K KX KS hA hw (cx_X7_text l D cy nt adC _ X _ (fun q h => Or.inr h) cS _ _ (eq_text hR)) lk_L_36 (ci := 7) rfl (wc_O cy nt adC _) ⟨Nat.le_of_ble_eq_true rfl, Nat.le_of_ble_eq_true rfl⟩ hC rfl hl.1 (Nat.le_of_ble_eq_true rfl) rfl dL_law_330 (fun v w1 H locs hB hw => ?_)
  rcases hB with ⟨r, u, rfl, hd, rfl⟩ | ⟨r, u, adC1, rfl, hd, a0, rfl⟩
  · have hw : Wd D A s.heap (wsC cy nt adC u ++ (wsM cy adM mS ++ [])) H locs := by rw [List.append_nil]; exact hw
    refine W.eq (g2 := F0 m 333 ls [.int r]) rfl ?_
    refine lv_aload_n K.1 K.2.1 dL_law_333 rfl (lv_at hl 1 rfl) ?_
    refine fr_gi (wl := wsC cy nt adC u) (wf := wsM cy adM) (wr := []) (As := []) (rest := [.int r]) K hA hw (cc_X8_text l D cy adM _ mS _ hd) lk_L_40 (ci := 8) rfl (q0 := 0) (wsM_at cy adM _ (by decide)) ⟨Nat.le_of_ble_eq_true rfl, Nat.le_of_ble_eq_true rfl⟩ hC rfl hl.1 (Nat.le_of_ble_eq_true rfl) rfl dL_law_334 (fun r2 mS2 H locs hd hw => ?_)
    obtain ⟨er, hR2⟩ := hd
    rw [List.append_nil] at hw
    exact lv_icmp_eq (tgt := 1083) K.1 K.2.1 dL_law_337 (by decide) (fun _ => next nt adC u mS2 H locs rfl hR2 hw) (fun h => absurd er h)
  · have hw : Wd D A s.heap (wsC cy (nt + 1) adC1 u ++ (wsM cy adM mS ++ [])) H locs := by rw [List.append_nil]; exact hw
    refine W.eq (g2 := F0 m 333 ls [.int r]) rfl ?_
    refine lv_aload_n K.1 K.2.1 dL_law_333 rfl (lv_at hl 1 rfl) ?_
    refine fr_gi (wl := wsC cy (nt + 1) adC1 u) (wf := wsM cy adM) (wr := []) (As := []) (rest := [.int r]) K hA hw (cc_X8_text l D cy adM _ mS _ hd) lk_L_40 (ci := 8) rfl (q0 := 0) (wsM_at cy adM _ (by decide)) ⟨Nat.le_of_ble_eq_true rfl, Nat.le_of_ble_eq_true rfl⟩ hC rfl hl.1 (Nat.le_of_ble_eq_true rfl) rfl dL_law_334 (fun r2 mS2 H locs hd hw => ?_)
    obtain ⟨er, hR2⟩ := hd
    rw [List.append_nil] at hw
    exact lv_icmp_eq (tgt := 1083) K.1 K.2.1 dL_law_337 (by decide) (fun _ => next (nt + 1) adC1 u mS2 H locs a0 hR2 hw) (fun h => absurd er h)
theorem law_c6 {p : Program} {l : Launch} {e : Env} {s : State} {m : MethodId} {below : List Frame} {meth : Method} {c : Code} {b L : Nat} {xs : Nat → Int32} {D : va_G} {cy : Nat → ClassId} {X : Nat → Nat} {A : Nat → Prop} {nt : Nat} {adC adM : Nat → Nat} {cS mS : Sg} {i cells slots : Nat} {H : Heap} {locs : List Loc} {ls : Array Slot} (K : Kx p s m #[Value.ref b] meth c code 4 RL D cy) (KX : XC X A s s.heap) (KS : SX s) (hA : ∀ q, s.heap.size ≤ q → A q) (hX : va_X b L xs s s.heap) (hbl : b < s.heap.size) (hbA : ¬ A b) (hC : cells + 3 ≤ 600000 ∧ slots + 324 ≤ 7302250) (hi : i + 6 ≤ L) (hL : L ≤ 3072) (hR : Rel mS cS nt) (hw : Wd D A s.heap (wsC cy nt adC cS ++ wsM cy adM mS) H locs) (hl : lv_has ls 4 [(3, .int (nI i)), (2, .ref (adM 0)), (1, .ref (adC 0)), (0, .ref b)])
    (next : ∀ (nt' : Nat) (adC' : Nat → Nat) (cS' mS' : Sg) (H' : Heap) (locs' : List Loc), adC' 0 = adC 0 → Rel mS' cS' nt' → Wd D A s.heap (wsC cy nt' adC' cS' ++ wsM cy adM mS') H' locs' → W p l e room_1 s m #[Value.ref b] below meth c H' locs' (cells + 3) (slots + 324) (lw_Z below #[Value.ref b] s) (F0 m 1083 ls [])) : W p l e room_1 s m #[Value.ref b] below meth c H locs cells slots (lw_Z below #[Value.ref b] s) (F0 m 342 ls []) := by
  have h1 : vp_in (nI i + 1) L := by rw [show nI i + 1 = nI (i + 1) from nI_add i 1]; exact vp_in_nI (by omega) (by omega)
  refine lv_aload_n K.1 K.2.1 dL_law_342 rfl (lv_at hl 2 rfl) ?_
  refine lv_aload_n K.1 K.2.1 dL_law_343 rfl (lv_at hl 3 rfl) ?_
  refine lv_iload_n K.1 K.2.1 dL_law_344 rfl (lv_at hl 0 rfl) ?_
  refine lv_iconst (v := (1 : Int32)) K.1 K.2.1 dL_law_345 (by decide) ?_
  refine lv_iadd K.1 K.2.1 dL_law_346 ?_
  refine va_sld K.1 K.2.1 hX hbl hbA hw.2.2 h1 dL_law_347 ?_
  refine fr_ci (wl := []) (wf := wsC cy nt adC) (wr := wsM cy adM mS) (As := [.int (xs (nI i + 1).toNatClampNeg)]) (rest := []) K KX hA hw (cc_X7_force l D cy nt adC _ X cS _ (xs (nI i + 1).toNatClampNeg) (eq_force hR (xs (nI i + 1).toNatClampNeg))) lk_L_41 (ci := 7) rfl (wc_O cy nt adC _) ⟨Nat.le_of_ble_eq_true rfl, Nat.le_of_ble_eq_true rfl⟩ ⟨Nat.le_trans (Nat.le_add_right _ _) hC.1, Nat.le_trans (Nat.le_add_right _ _) hC.2⟩ rfl hl.1 (Nat.le_of_ble_eq_true rfl) rfl dL_law_348 (fun r u H locs hd hw => ?_)
  have hw : Wd D A s.heap (wsC cy nt adC u ++ (wsM cy adM mS ++ [])) H locs := by rw [List.append_nil]; exact hw
  refine lv_aload_n K.1 K.2.1 dL_law_351 rfl (lv_at hl 1 rfl) ?_
  refine lv_aload_n K.1 K.2.1 dL_law_352 rfl (lv_at hl 3 rfl) ?_
  refine lv_iload_n K.1 K.2.1 dL_law_353 rfl (lv_at hl 0 rfl) ?_
  refine lv_iconst (v := (1 : Int32)) K.1 K.2.1 dL_law_354 (by decide) ?_
  refine lv_iadd K.1 K.2.1 dL_law_355 ?_
  refine va_sld K.1 K.2.1 hX hbl hbA hw.2.2 h1 dL_law_356 ?_
  refine fr_gi (wl := wsC cy nt adC u) (wf := wsM cy adM) (wr := []) (As := [.int (xs (nI i + 1).toNatClampNeg)]) (rest := [.int r]) K hA hw (cc_X8_force l D cy adM _ mS _ (xs (nI i + 1).toNatClampNeg) hd) lk_L_44 (ci := 8) rfl (q0 := 0) (wsM_at cy adM _ (by decide)) ⟨Nat.le_of_ble_eq_true rfl, Nat.le_of_ble_eq_true rfl⟩ ⟨Nat.le_trans (Nat.le_add_right _ _) hC.1, Nat.le_trans (Nat.le_add_right _ _) hC.2⟩ rfl hl.1 (Nat.le_of_ble_eq_true rfl) rfl dL_law_357 (fun r2 mS2 H locs hd hw => ?_)
  obtain ⟨er, hR2⟩ := hd
  rw [List.append_nil] at hw
  refine W.widen (k := cells + 3) (n := slots + 324) (Nat.le_add_right _ _) (Nat.le_add_right _ _) ?_
  exact lv_icmp_eq (tgt := 1083) K.1 K.2.1 dL_law_360 (by decide) (fun _ => next nt adC u mS2 H locs rfl hR2 hw) (fun h => absurd er h)
theorem law_c7 {p : Program} {l : Launch} {e : Env} {s : State} {m : MethodId} {below : List Frame} {meth : Method} {c : Code} {b L : Nat} {xs : Nat → Int32} {D : va_G} {cy : Nat → ClassId} {X : Nat → Nat} {A : Nat → Prop} {nt : Nat} {adC adM : Nat → Nat} {cS mS : Sg} {i cells slots : Nat} {H : Heap} {locs : List Loc} {ls : Array Slot} (K : Kx p s m #[Value.ref b] meth c code 4 RL D cy) (KX : XC X A s s.heap) (KS : SX s) (hA : ∀ q, s.heap.size ≤ q → A q) (hX : va_X b L xs s s.heap) (hbl : b < s.heap.size) (hbA : ¬ A b) (hC : cells + 3 ≤ 600000 ∧ slots + 324 ≤ 7302250) (hi : i + 6 ≤ L) (hL : L ≤ 3072) (hR : Rel mS cS nt) (hw : Wd D A s.heap (wsC cy nt adC cS ++ wsM cy adM mS) H locs) (hl : lv_has ls 4 [(3, .int (nI i)), (2, .ref (adM 0)), (1, .ref (adC 0)), (0, .ref b)])
    (next : ∀ (nt' : Nat) (adC' : Nat → Nat) (cS' mS' : Sg) (H' : Heap) (locs' : List Loc), adC' 0 = adC 0 → Rel mS' cS' nt' → Wd D A s.heap (wsC cy nt' adC' cS' ++ wsM cy adM mS') H' locs' → W p l e room_1 s m #[Value.ref b] below meth c H' locs' (cells + 3) (slots + 324) (lw_Z below #[Value.ref b] s) (F0 m 1083 ls [])) : W p l e room_1 s m #[Value.ref b] below meth c H locs cells slots (lw_Z below #[Value.ref b] s) (F0 m 365 ls []) := by
  have h1 : vp_in (nI i + 1) L := by rw [show nI i + 1 = nI (i + 1) from nI_add i 1]; exact vp_in_nI (by omega) (by omega)
  have h2 : vp_in (nI i + 2) L := by rw [show nI i + 2 = nI (i + 2) from nI_add i 2]; exact vp_in_nI (by omega) (by omega)
  refine lv_aload_n K.1 K.2.1 dL_law_365 rfl (lv_at hl 2 rfl) ?_
  refine lv_aload_n K.1 K.2.1 dL_law_366 rfl (lv_at hl 3 rfl) ?_
  refine lv_iload_n K.1 K.2.1 dL_law_367 rfl (lv_at hl 0 rfl) ?_
  refine lv_iconst (v := (1 : Int32)) K.1 K.2.1 dL_law_368 (by decide) ?_
  refine lv_iadd K.1 K.2.1 dL_law_369 ?_
  refine va_sld K.1 K.2.1 hX hbl hbA hw.2.2 h1 dL_law_370 ?_
  refine lv_aload_n K.1 K.2.1 dL_law_371 rfl (lv_at hl 3 rfl) ?_
  refine lv_iload_n K.1 K.2.1 dL_law_372 rfl (lv_at hl 0 rfl) ?_
  refine lv_iconst (v := (2 : Int32)) K.1 K.2.1 dL_law_373 (by decide) ?_
  refine lv_iadd K.1 K.2.1 dL_law_374 ?_
  refine va_sld K.1 K.2.1 hX hbl hbA hw.2.2 h2 dL_law_375 ?_
  refine fr_ci (wl := []) (wf := wsC cy nt adC) (wr := wsM cy adM mS) (As := [.int (xs (nI i + 1).toNatClampNeg), .int (xs (nI i + 2).toNatClampNeg)]) (rest := []) K KX hA hw (cc_X7_division l D cy nt adC _ X cS _ (xs (nI i + 1).toNatClampNeg) (xs (nI i + 2).toNatClampNeg) (eq_division hR (xs (nI i + 1).toNatClampNeg) (xs (nI i + 2).toNatClampNeg))) lk_L_45 (ci := 7) rfl (wc_O cy nt adC _) ⟨Nat.le_of_ble_eq_true rfl, Nat.le_of_ble_eq_true rfl⟩ ⟨Nat.le_trans (Nat.le_add_right _ _) hC.1, Nat.le_trans (Nat.le_add_right _ _) hC.2⟩ rfl hl.1 (Nat.le_of_ble_eq_true rfl) rfl dL_law_376 (fun r u H locs hd hw => ?_)
  have hw : Wd D A s.heap (wsC cy nt adC u ++ (wsM cy adM mS ++ [])) H locs := by rw [List.append_nil]; exact hw
  refine lv_aload_n K.1 K.2.1 dL_law_379 rfl (lv_at hl 1 rfl) ?_
  refine lv_aload_n K.1 K.2.1 dL_law_380 rfl (lv_at hl 3 rfl) ?_
  refine lv_iload_n K.1 K.2.1 dL_law_381 rfl (lv_at hl 0 rfl) ?_
  refine lv_iconst (v := (1 : Int32)) K.1 K.2.1 dL_law_382 (by decide) ?_
  refine lv_iadd K.1 K.2.1 dL_law_383 ?_
  refine va_sld K.1 K.2.1 hX hbl hbA hw.2.2 h1 dL_law_384 ?_
  refine lv_aload_n K.1 K.2.1 dL_law_385 rfl (lv_at hl 3 rfl) ?_
  refine lv_iload_n K.1 K.2.1 dL_law_386 rfl (lv_at hl 0 rfl) ?_
  refine lv_iconst (v := (2 : Int32)) K.1 K.2.1 dL_law_387 (by decide) ?_
  refine lv_iadd K.1 K.2.1 dL_law_388 ?_
  refine va_sld K.1 K.2.1 hX hbl hbA hw.2.2 h2 dL_law_389 ?_
  refine fr_gi (wl := wsC cy nt adC u) (wf := wsM cy adM) (wr := []) (As := [.int (xs (nI i + 1).toNatClampNeg), .int (xs (nI i + 2).toNatClampNeg)]) (rest := [.int r]) K hA hw (cc_X8_division l D cy adM _ mS _ (xs (nI i + 1).toNatClampNeg) (xs (nI i + 2).toNatClampNeg) hd) lk_L_48 (ci := 8) rfl (q0 := 0) (wsM_at cy adM _ (by decide)) ⟨Nat.le_of_ble_eq_true rfl, Nat.le_of_ble_eq_true rfl⟩ ⟨Nat.le_trans (Nat.le_add_right _ _) hC.1, Nat.le_trans (Nat.le_add_right _ _) hC.2⟩ rfl hl.1 (Nat.le_of_ble_eq_true rfl) rfl dL_law_390 (fun r2 mS2 H locs hd hw => ?_)
  obtain ⟨er, hR2⟩ := hd
  rw [List.append_nil] at hw
  refine W.widen (k := cells + 3) (n := slots + 324) (Nat.le_add_right _ _) (Nat.le_add_right _ _) ?_
  exact lv_icmp_eq (tgt := 1083) K.1 K.2.1 dL_law_393 (by decide) (fun _ => next nt adC u mS2 H locs rfl hR2 hw) (fun h => absurd er h)
theorem law_c8 {p : Program} {l : Launch} {e : Env} {s : State} {m : MethodId} {below : List Frame} {meth : Method} {c : Code} {b L : Nat} {xs : Nat → Int32} {D : va_G} {cy : Nat → ClassId} {X : Nat → Nat} {A : Nat → Prop} {nt : Nat} {adC adM : Nat → Nat} {cS mS : Sg} {i cells slots : Nat} {H : Heap} {locs : List Loc} {ls : Array Slot} (K : Kx p s m #[Value.ref b] meth c code 4 RL D cy) (KX : XC X A s s.heap) (KS : SX s) (hA : ∀ q, s.heap.size ≤ q → A q) (hX : va_X b L xs s s.heap) (hbl : b < s.heap.size) (hbA : ¬ A b) (hC : cells + 3 ≤ 600000 ∧ slots + 324 ≤ 7302250) (hi : i + 6 ≤ L) (hL : L ≤ 3072) (hR : Rel mS cS nt) (hw : Wd D A s.heap (wsC cy nt adC cS ++ wsM cy adM mS) H locs) (hl : lv_has ls 4 [(3, .int (nI i)), (2, .ref (adM 0)), (1, .ref (adC 0)), (0, .ref b)])
    (next : ∀ (nt' : Nat) (adC' : Nat → Nat) (cS' mS' : Sg) (H' : Heap) (locs' : List Loc), adC' 0 = adC 0 → Rel mS' cS' nt' → Wd D A s.heap (wsC cy nt' adC' cS' ++ wsM cy adM mS') H' locs' → W p l e room_1 s m #[Value.ref b] below meth c H' locs' (cells + 3) (slots + 324) (lw_Z below #[Value.ref b] s) (F0 m 1083 ls [])) : W p l e room_1 s m #[Value.ref b] below meth c H locs cells slots (lw_Z below #[Value.ref b] s) (F0 m 398 ls []) := by
  have h1 : vp_in (nI i + 1) L := by rw [show nI i + 1 = nI (i + 1) from nI_add i 1]; exact vp_in_nI (by omega) (by omega)
  refine lv_aload_n K.1 K.2.1 dL_law_398 rfl (lv_at hl 2 rfl) ?_
  refine lv_aload_n K.1 K.2.1 dL_law_399 rfl (lv_at hl 3 rfl) ?_
  refine lv_iload_n K.1 K.2.1 dL_law_400 rfl (lv_at hl 0 rfl) ?_
  refine lv_iconst (v := (1 : Int32)) K.1 K.2.1 dL_law_401 (by decide) ?_
  refine lv_iadd K.1 K.2.1 dL_law_402 ?_
  refine va_sld K.1 K.2.1 hX hbl hbA hw.2.2 h1 dL_law_403 ?_
  refine fr_ci (wl := []) (wf := wsC cy nt adC) (wr := wsM cy adM mS) (As := [.int (xs (nI i + 1).toNatClampNeg)]) (rest := []) K KX hA hw (cc_X7_topics l D cy nt adC _ X cS _ (xs (nI i + 1).toNatClampNeg) (eq_topics hR (xs (nI i + 1).toNatClampNeg))) lk_L_49 (ci := 7) rfl (wc_O cy nt adC _) ⟨Nat.le_of_ble_eq_true rfl, Nat.le_of_ble_eq_true rfl⟩ ⟨Nat.le_trans (Nat.le_add_right _ _) hC.1, Nat.le_trans (Nat.le_add_right _ _) hC.2⟩ rfl hl.1 (Nat.le_of_ble_eq_true rfl) rfl dL_law_404 (fun r u H locs hd hw => ?_)
  have hw : Wd D A s.heap (wsC cy nt adC u ++ (wsM cy adM mS ++ [])) H locs := by rw [List.append_nil]; exact hw
  refine lv_aload_n K.1 K.2.1 dL_law_407 rfl (lv_at hl 1 rfl) ?_
  refine lv_aload_n K.1 K.2.1 dL_law_408 rfl (lv_at hl 3 rfl) ?_
  refine lv_iload_n K.1 K.2.1 dL_law_409 rfl (lv_at hl 0 rfl) ?_
  refine lv_iconst (v := (1 : Int32)) K.1 K.2.1 dL_law_410 (by decide) ?_
  refine lv_iadd K.1 K.2.1 dL_law_411 ?_
  refine va_sld K.1 K.2.1 hX hbl hbA hw.2.2 h1 dL_law_412 ?_
  refine fr_gi (wl := wsC cy nt adC u) (wf := wsM cy adM) (wr := []) (As := [.int (xs (nI i + 1).toNatClampNeg)]) (rest := [.int r]) K hA hw (cc_X8_topics l D cy adM _ mS _ (xs (nI i + 1).toNatClampNeg) hd) lk_L_52 (ci := 8) rfl (q0 := 0) (wsM_at cy adM _ (by decide)) ⟨Nat.le_of_ble_eq_true rfl, Nat.le_of_ble_eq_true rfl⟩ ⟨Nat.le_trans (Nat.le_add_right _ _) hC.1, Nat.le_trans (Nat.le_add_right _ _) hC.2⟩ rfl hl.1 (Nat.le_of_ble_eq_true rfl) rfl dL_law_413 (fun r2 mS2 H locs hd hw => ?_)
  obtain ⟨er, hR2⟩ := hd
  rw [List.append_nil] at hw
  refine W.widen (k := cells + 3) (n := slots + 324) (Nat.le_add_right _ _) (Nat.le_add_right _ _) ?_
  exact lv_icmp_eq (tgt := 1083) K.1 K.2.1 dL_law_416 (by decide) (fun _ => next nt adC u mS2 H locs rfl hR2 hw) (fun h => absurd er h)
theorem law_c9 {p : Program} {l : Launch} {e : Env} {s : State} {m : MethodId} {below : List Frame} {meth : Method} {c : Code} {b L : Nat} {xs : Nat → Int32} {D : va_G} {cy : Nat → ClassId} {X : Nat → Nat} {A : Nat → Prop} {nt : Nat} {adC adM : Nat → Nat} {cS mS : Sg} {i cells slots : Nat} {H : Heap} {locs : List Loc} {ls : Array Slot} (K : Kx p s m #[Value.ref b] meth c code 4 RL D cy) (KX : XC X A s s.heap) (KS : SX s) (hA : ∀ q, s.heap.size ≤ q → A q) (hX : va_X b L xs s s.heap) (hbl : b < s.heap.size) (hbA : ¬ A b) (hC : cells + 3 ≤ 600000 ∧ slots + 324 ≤ 7302250) (hi : i + 6 ≤ L) (hL : L ≤ 3072) (hR : Rel mS cS nt) (hw : Wd D A s.heap (wsC cy nt adC cS ++ wsM cy adM mS) H locs) (hl : lv_has ls 4 [(3, .int (nI i)), (2, .ref (adM 0)), (1, .ref (adC 0)), (0, .ref b)])
    (next : ∀ (nt' : Nat) (adC' : Nat → Nat) (cS' mS' : Sg) (H' : Heap) (locs' : List Loc), adC' 0 = adC 0 → Rel mS' cS' nt' → Wd D A s.heap (wsC cy nt' adC' cS' ++ wsM cy adM mS') H' locs' → W p l e room_1 s m #[Value.ref b] below meth c H' locs' (cells + 3) (slots + 324) (lw_Z below #[Value.ref b] s) (F0 m 1083 ls [])) : W p l e room_1 s m #[Value.ref b] below meth c H locs cells slots (lw_Z below #[Value.ref b] s) (F0 m 421 ls []) := by
  refine lv_aload_n K.1 K.2.1 dL_law_421 rfl (lv_at hl 2 rfl) ?_
  refine fr_ci (wl := []) (wf := wsC cy nt adC) (wr := wsM cy adM mS) (As := []) (rest := []) K KX hA hw (cc_X7_day l D cy nt adC _ X cS _ (eq_day hR)) lk_L_53 (ci := 7) rfl (wc_O cy nt adC _) ⟨Nat.le_of_ble_eq_true rfl, Nat.le_of_ble_eq_true rfl⟩ ⟨Nat.le_trans (Nat.le_add_right _ _) hC.1, Nat.le_trans (Nat.le_add_right _ _) hC.2⟩ rfl hl.1 (Nat.le_of_ble_eq_true rfl) rfl dL_law_422 (fun r u H locs hd hw => ?_)
  have hw : Wd D A s.heap (wsC cy nt adC u ++ (wsM cy adM mS ++ [])) H locs := by rw [List.append_nil]; exact hw
  refine lv_aload_n K.1 K.2.1 dL_law_425 rfl (lv_at hl 1 rfl) ?_
  refine fr_gi (wl := wsC cy nt adC u) (wf := wsM cy adM) (wr := []) (As := []) (rest := [.int r]) K hA hw (cc_X8_day l D cy adM _ mS _ hd) lk_L_56 (ci := 8) rfl (q0 := 0) (wsM_at cy adM _ (by decide)) ⟨Nat.le_of_ble_eq_true rfl, Nat.le_of_ble_eq_true rfl⟩ ⟨Nat.le_trans (Nat.le_add_right _ _) hC.1, Nat.le_trans (Nat.le_add_right _ _) hC.2⟩ rfl hl.1 (Nat.le_of_ble_eq_true rfl) rfl dL_law_426 (fun r2 mS2 H locs hd hw => ?_)
  obtain ⟨er, hR2⟩ := hd
  rw [List.append_nil] at hw
  refine W.widen (k := cells + 3) (n := slots + 324) (Nat.le_add_right _ _) (Nat.le_add_right _ _) ?_
  exact lv_icmp_eq (tgt := 1083) K.1 K.2.1 dL_law_429 (by decide) (fun _ => next nt adC u mS2 H locs rfl hR2 hw) (fun h => absurd er h)
theorem law_c10 {p : Program} {l : Launch} {e : Env} {s : State} {m : MethodId} {below : List Frame} {meth : Method} {c : Code} {b L : Nat} {xs : Nat → Int32} {D : va_G} {cy : Nat → ClassId} {X : Nat → Nat} {A : Nat → Prop} {nt : Nat} {adC adM : Nat → Nat} {cS mS : Sg} {i cells slots : Nat} {H : Heap} {locs : List Loc} {ls : Array Slot} (K : Kx p s m #[Value.ref b] meth c code 4 RL D cy) (KX : XC X A s s.heap) (KS : SX s) (hA : ∀ q, s.heap.size ≤ q → A q) (hX : va_X b L xs s s.heap) (hbl : b < s.heap.size) (hbA : ¬ A b) (hC : cells + 3 ≤ 600000 ∧ slots + 324 ≤ 7302250) (hi : i + 6 ≤ L) (hL : L ≤ 3072) (hR : Rel mS cS nt) (hw : Wd D A s.heap (wsC cy nt adC cS ++ wsM cy adM mS) H locs) (hl : lv_has ls 4 [(3, .int (nI i)), (2, .ref (adM 0)), (1, .ref (adC 0)), (0, .ref b)])
    (next : ∀ (nt' : Nat) (adC' : Nat → Nat) (cS' mS' : Sg) (H' : Heap) (locs' : List Loc), adC' 0 = adC 0 → Rel mS' cS' nt' → Wd D A s.heap (wsC cy nt' adC' cS' ++ wsM cy adM mS') H' locs' → W p l e room_1 s m #[Value.ref b] below meth c H' locs' (cells + 3) (slots + 324) (lw_Z below #[Value.ref b] s) (F0 m 1083 ls [])) : W p l e room_1 s m #[Value.ref b] below meth c H locs cells slots (lw_Z below #[Value.ref b] s) (F0 m 434 ls []) := by
  have h1 : vp_in (nI i + 1) L := by rw [show nI i + 1 = nI (i + 1) from nI_add i 1]; exact vp_in_nI (by omega) (by omega)
  have h2 : vp_in (nI i + 2) L := by rw [show nI i + 2 = nI (i + 2) from nI_add i 2]; exact vp_in_nI (by omega) (by omega)
  refine lv_aload_n K.1 K.2.1 dL_law_434 rfl (lv_at hl 2 rfl) ?_
  refine lv_aload_n K.1 K.2.1 dL_law_435 rfl (lv_at hl 3 rfl) ?_
  refine lv_iload_n K.1 K.2.1 dL_law_436 rfl (lv_at hl 0 rfl) ?_
  refine lv_iconst (v := (1 : Int32)) K.1 K.2.1 dL_law_437 (by decide) ?_
  refine lv_iadd K.1 K.2.1 dL_law_438 ?_
  refine va_sld K.1 K.2.1 hX hbl hbA hw.2.2 h1 dL_law_439 ?_
  refine lv_aload_n K.1 K.2.1 dL_law_440 rfl (lv_at hl 3 rfl) ?_
  refine lv_iload_n K.1 K.2.1 dL_law_441 rfl (lv_at hl 0 rfl) ?_
  refine lv_iconst (v := (2 : Int32)) K.1 K.2.1 dL_law_442 (by decide) ?_
  refine lv_iadd K.1 K.2.1 dL_law_443 ?_
  refine va_sld K.1 K.2.1 hX hbl hbA hw.2.2 h2 dL_law_444 ?_
  refine fr_ci (wl := []) (wf := wsC cy nt adC) (wr := wsM cy adM mS) (As := [.int (xs (nI i + 1).toNatClampNeg), .int (xs (nI i + 2).toNatClampNeg)]) (rest := []) K KX hA hw (cc_X7_run l D cy nt adC _ X cS _ (xs (nI i + 1).toNatClampNeg) (xs (nI i + 2).toNatClampNeg) (eq_run hR (xs (nI i + 1).toNatClampNeg) (xs (nI i + 2).toNatClampNeg))) lk_L_57 (ci := 7) rfl (wc_O cy nt adC _) ⟨Nat.le_of_ble_eq_true rfl, Nat.le_of_ble_eq_true rfl⟩ ⟨Nat.le_trans (Nat.le_add_right _ _) hC.1, Nat.le_trans (Nat.le_add_right _ _) hC.2⟩ rfl hl.1 (Nat.le_of_ble_eq_true rfl) rfl dL_law_445 (fun r u H locs hd hw => ?_)
  have hw : Wd D A s.heap (wsC cy nt adC u ++ (wsM cy adM mS ++ [])) H locs := by rw [List.append_nil]; exact hw
  refine lv_aload_n K.1 K.2.1 dL_law_448 rfl (lv_at hl 1 rfl) ?_
  refine lv_aload_n K.1 K.2.1 dL_law_449 rfl (lv_at hl 3 rfl) ?_
  refine lv_iload_n K.1 K.2.1 dL_law_450 rfl (lv_at hl 0 rfl) ?_
  refine lv_iconst (v := (1 : Int32)) K.1 K.2.1 dL_law_451 (by decide) ?_
  refine lv_iadd K.1 K.2.1 dL_law_452 ?_
  refine va_sld K.1 K.2.1 hX hbl hbA hw.2.2 h1 dL_law_453 ?_
  refine lv_aload_n K.1 K.2.1 dL_law_454 rfl (lv_at hl 3 rfl) ?_
  refine lv_iload_n K.1 K.2.1 dL_law_455 rfl (lv_at hl 0 rfl) ?_
  refine lv_iconst (v := (2 : Int32)) K.1 K.2.1 dL_law_456 (by decide) ?_
  refine lv_iadd K.1 K.2.1 dL_law_457 ?_
  refine va_sld K.1 K.2.1 hX hbl hbA hw.2.2 h2 dL_law_458 ?_
  refine fr_gi (wl := wsC cy nt adC u) (wf := wsM cy adM) (wr := []) (As := [.int (xs (nI i + 1).toNatClampNeg), .int (xs (nI i + 2).toNatClampNeg)]) (rest := [.int r]) K hA hw (cc_X8_run l D cy adM _ mS _ (xs (nI i + 1).toNatClampNeg) (xs (nI i + 2).toNatClampNeg) hd) lk_L_60 (ci := 8) rfl (q0 := 0) (wsM_at cy adM _ (by decide)) ⟨Nat.le_of_ble_eq_true rfl, Nat.le_of_ble_eq_true rfl⟩ ⟨Nat.le_trans (Nat.le_add_right _ _) hC.1, Nat.le_trans (Nat.le_add_right _ _) hC.2⟩ rfl hl.1 (Nat.le_of_ble_eq_true rfl) rfl dL_law_459 (fun r2 mS2 H locs hd hw => ?_)
  obtain ⟨er, hR2⟩ := hd
  rw [List.append_nil] at hw
  refine W.widen (k := cells + 3) (n := slots + 324) (Nat.le_add_right _ _) (Nat.le_add_right _ _) ?_
  exact lv_icmp_eq (tgt := 1083) K.1 K.2.1 dL_law_462 (by decide) (fun _ => next nt adC u mS2 H locs rfl hR2 hw) (fun h => absurd er h)
theorem law_c11 {p : Program} {l : Launch} {e : Env} {s : State} {m : MethodId} {below : List Frame} {meth : Method} {c : Code} {b L : Nat} {xs : Nat → Int32} {D : va_G} {cy : Nat → ClassId} {X : Nat → Nat} {A : Nat → Prop} {nt : Nat} {adC adM : Nat → Nat} {cS mS : Sg} {i cells slots : Nat} {H : Heap} {locs : List Loc} {ls : Array Slot} (K : Kx p s m #[Value.ref b] meth c code 4 RL D cy) (KX : XC X A s s.heap) (KS : SX s) (hA : ∀ q, s.heap.size ≤ q → A q) (hX : va_X b L xs s s.heap) (hbl : b < s.heap.size) (hbA : ¬ A b) (hC : cells + 3 ≤ 600000 ∧ slots + 324 ≤ 7302250) (hi : i + 6 ≤ L) (hL : L ≤ 3072) (hR : Rel mS cS nt) (hw : Wd D A s.heap (wsC cy nt adC cS ++ wsM cy adM mS) H locs) (hl : lv_has ls 4 [(3, .int (nI i)), (2, .ref (adM 0)), (1, .ref (adC 0)), (0, .ref b)])
    (next : ∀ (nt' : Nat) (adC' : Nat → Nat) (cS' mS' : Sg) (H' : Heap) (locs' : List Loc), adC' 0 = adC 0 → Rel mS' cS' nt' → Wd D A s.heap (wsC cy nt' adC' cS' ++ wsM cy adM mS') H' locs' → W p l e room_1 s m #[Value.ref b] below meth c H' locs' (cells + 3) (slots + 324) (lw_Z below #[Value.ref b] s) (F0 m 1083 ls [])) : W p l e room_1 s m #[Value.ref b] below meth c H locs cells slots (lw_Z below #[Value.ref b] s) (F0 m 467 ls []) := by
  have h1 : vp_in (nI i + 1) L := by rw [show nI i + 1 = nI (i + 1) from nI_add i 1]; exact vp_in_nI (by omega) (by omega)
  refine lv_aload_n K.1 K.2.1 dL_law_467 rfl (lv_at hl 2 rfl) ?_
  refine lv_aload_n K.1 K.2.1 dL_law_468 rfl (lv_at hl 3 rfl) ?_
  refine lv_iload_n K.1 K.2.1 dL_law_469 rfl (lv_at hl 0 rfl) ?_
  refine lv_iconst (v := (1 : Int32)) K.1 K.2.1 dL_law_470 (by decide) ?_
  refine lv_iadd K.1 K.2.1 dL_law_471 ?_
  refine va_sld K.1 K.2.1 hX hbl hbA hw.2.2 h1 dL_law_472 ?_
  refine fr_ci (wl := []) (wf := wsC cy nt adC) (wr := wsM cy adM mS) (As := [.int (xs (nI i + 1).toNatClampNeg)]) (rest := []) K KX hA hw (cc_X7_often l D cy nt adC _ X cS _ (xs (nI i + 1).toNatClampNeg) (eq_often hR (xs (nI i + 1).toNatClampNeg))) lk_L_61 (ci := 7) rfl (wc_O cy nt adC _) ⟨Nat.le_of_ble_eq_true rfl, Nat.le_of_ble_eq_true rfl⟩ ⟨Nat.le_trans (Nat.le_add_right _ _) hC.1, Nat.le_trans (Nat.le_add_right _ _) hC.2⟩ rfl hl.1 (Nat.le_of_ble_eq_true rfl) rfl dL_law_473 (fun r u H locs hd hw => ?_)
  have hw : Wd D A s.heap (wsC cy nt adC u ++ (wsM cy adM mS ++ [])) H locs := by rw [List.append_nil]; exact hw
  refine lv_aload_n K.1 K.2.1 dL_law_476 rfl (lv_at hl 1 rfl) ?_
  refine lv_aload_n K.1 K.2.1 dL_law_477 rfl (lv_at hl 3 rfl) ?_
  refine lv_iload_n K.1 K.2.1 dL_law_478 rfl (lv_at hl 0 rfl) ?_
  refine lv_iconst (v := (1 : Int32)) K.1 K.2.1 dL_law_479 (by decide) ?_
  refine lv_iadd K.1 K.2.1 dL_law_480 ?_
  refine va_sld K.1 K.2.1 hX hbl hbA hw.2.2 h1 dL_law_481 ?_
  refine fr_gi (wl := wsC cy nt adC u) (wf := wsM cy adM) (wr := []) (As := [.int (xs (nI i + 1).toNatClampNeg)]) (rest := [.int r]) K hA hw (cc_X8_often l D cy adM _ mS _ (xs (nI i + 1).toNatClampNeg) hd) lk_L_64 (ci := 8) rfl (q0 := 0) (wsM_at cy adM _ (by decide)) ⟨Nat.le_of_ble_eq_true rfl, Nat.le_of_ble_eq_true rfl⟩ ⟨Nat.le_trans (Nat.le_add_right _ _) hC.1, Nat.le_trans (Nat.le_add_right _ _) hC.2⟩ rfl hl.1 (Nat.le_of_ble_eq_true rfl) rfl dL_law_482 (fun r2 mS2 H locs hd hw => ?_)
  obtain ⟨er, hR2⟩ := hd
  rw [List.append_nil] at hw
  refine W.widen (k := cells + 3) (n := slots + 324) (Nat.le_add_right _ _) (Nat.le_add_right _ _) ?_
  exact lv_icmp_eq (tgt := 1083) K.1 K.2.1 dL_law_485 (by decide) (fun _ => next nt adC u mS2 H locs rfl hR2 hw) (fun h => absurd er h)
theorem law_c12 {p : Program} {l : Launch} {e : Env} {s : State} {m : MethodId} {below : List Frame} {meth : Method} {c : Code} {b L : Nat} {xs : Nat → Int32} {D : va_G} {cy : Nat → ClassId} {X : Nat → Nat} {A : Nat → Prop} {nt : Nat} {adC adM : Nat → Nat} {cS mS : Sg} {i cells slots : Nat} {H : Heap} {locs : List Loc} {ls : Array Slot} (K : Kx p s m #[Value.ref b] meth c code 4 RL D cy) (KX : XC X A s s.heap) (KS : SX s) (hA : ∀ q, s.heap.size ≤ q → A q) (hX : va_X b L xs s s.heap) (hbl : b < s.heap.size) (hbA : ¬ A b) (hC : cells + 3 ≤ 600000 ∧ slots + 324 ≤ 7302250) (hi : i + 6 ≤ L) (hL : L ≤ 3072) (hR : Rel mS cS nt) (hw : Wd D A s.heap (wsC cy nt adC cS ++ wsM cy adM mS) H locs) (hl : lv_has ls 4 [(3, .int (nI i)), (2, .ref (adM 0)), (1, .ref (adC 0)), (0, .ref b)])
    (next : ∀ (nt' : Nat) (adC' : Nat → Nat) (cS' mS' : Sg) (H' : Heap) (locs' : List Loc), adC' 0 = adC 0 → Rel mS' cS' nt' → Wd D A s.heap (wsC cy nt' adC' cS' ++ wsM cy adM mS') H' locs' → W p l e room_1 s m #[Value.ref b] below meth c H' locs' (cells + 3) (slots + 324) (lw_Z below #[Value.ref b] s) (F0 m 1083 ls [])) : W p l e room_1 s m #[Value.ref b] below meth c H locs cells slots (lw_Z below #[Value.ref b] s) (F0 m 490 ls []) := by
  have h1 : vp_in (nI i + 1) L := by rw [show nI i + 1 = nI (i + 1) from nI_add i 1]; exact vp_in_nI (by omega) (by omega)
  have h2 : vp_in (nI i + 2) L := by rw [show nI i + 2 = nI (i + 2) from nI_add i 2]; exact vp_in_nI (by omega) (by omega)
  refine lv_aload_n K.1 K.2.1 dL_law_490 rfl (lv_at hl 2 rfl) ?_
  refine lv_aload_n K.1 K.2.1 dL_law_491 rfl (lv_at hl 3 rfl) ?_
  refine lv_iload_n K.1 K.2.1 dL_law_492 rfl (lv_at hl 0 rfl) ?_
  refine lv_iconst (v := (1 : Int32)) K.1 K.2.1 dL_law_493 (by decide) ?_
  refine lv_iadd K.1 K.2.1 dL_law_494 ?_
  refine va_sld K.1 K.2.1 hX hbl hbA hw.2.2 h1 dL_law_495 ?_
  refine lv_aload_n K.1 K.2.1 dL_law_496 rfl (lv_at hl 3 rfl) ?_
  refine lv_iload_n K.1 K.2.1 dL_law_497 rfl (lv_at hl 0 rfl) ?_
  refine lv_iconst (v := (2 : Int32)) K.1 K.2.1 dL_law_498 (by decide) ?_
  refine lv_iadd K.1 K.2.1 dL_law_499 ?_
  refine va_sld K.1 K.2.1 hX hbl hbA hw.2.2 h2 dL_law_500 ?_
  refine fr_cl (wl := []) (wf := wsC cy nt adC) (wr := wsM cy adM mS) (As := [.int (xs (nI i + 1).toNatClampNeg), .int (xs (nI i + 2).toNatClampNeg)]) (rest := []) K KX hA hw (cc_X7_power l D cy nt adC _ X cS _ (xs (nI i + 1).toNatClampNeg) (xs (nI i + 2).toNatClampNeg) (eq_power hR (xs (nI i + 1).toNatClampNeg) (xs (nI i + 2).toNatClampNeg))) lk_L_65 (ci := 7) rfl (wc_O cy nt adC _) ⟨Nat.le_of_ble_eq_true rfl, Nat.le_of_ble_eq_true rfl⟩ ⟨Nat.le_trans (Nat.le_add_right _ _) hC.1, Nat.le_trans (Nat.le_add_right _ _) hC.2⟩ rfl hl.1 (Nat.le_of_ble_eq_true rfl) rfl dL_law_501 (fun r u H locs hd hw => ?_)
  have hw : Wd D A s.heap (wsC cy nt adC u ++ (wsM cy adM mS ++ [])) H locs := by rw [List.append_nil]; exact hw
  refine lv_aload_n K.1 K.2.1 dL_law_504 rfl (lv_at hl 1 rfl) ?_
  refine lv_aload_n K.1 K.2.1 dL_law_505 rfl (lv_at hl 3 rfl) ?_
  refine lv_iload_n K.1 K.2.1 dL_law_506 rfl (lv_at hl 0 rfl) ?_
  refine lv_iconst (v := (1 : Int32)) K.1 K.2.1 dL_law_507 (by decide) ?_
  refine lv_iadd K.1 K.2.1 dL_law_508 ?_
  refine va_sld K.1 K.2.1 hX hbl hbA hw.2.2 h1 dL_law_509 ?_
  refine lv_aload_n K.1 K.2.1 dL_law_510 rfl (lv_at hl 3 rfl) ?_
  refine lv_iload_n K.1 K.2.1 dL_law_511 rfl (lv_at hl 0 rfl) ?_
  refine lv_iconst (v := (2 : Int32)) K.1 K.2.1 dL_law_512 (by decide) ?_
  refine lv_iadd K.1 K.2.1 dL_law_513 ?_
  refine va_sld K.1 K.2.1 hX hbl hbA hw.2.2 h2 dL_law_514 ?_
  refine fr_gl (wl := wsC cy nt adC u) (wf := wsM cy adM) (wr := []) (As := [.int (xs (nI i + 1).toNatClampNeg), .int (xs (nI i + 2).toNatClampNeg)]) (rest := [.long r]) K hA hw (cc_X8_power l D cy adM _ mS _ (xs (nI i + 1).toNatClampNeg) (xs (nI i + 2).toNatClampNeg) hd) lk_L_69 (ci := 8) rfl (q0 := 0) (wsM_at cy adM _ (by decide)) ⟨Nat.le_of_ble_eq_true rfl, Nat.le_of_ble_eq_true rfl⟩ ⟨Nat.le_trans (Nat.le_add_right _ _) hC.1, Nat.le_trans (Nat.le_add_right _ _) hC.2⟩ rfl hl.1 (Nat.le_of_ble_eq_true rfl) rfl dL_law_515 (fun r2 mS2 H locs hd hw => ?_)
  obtain ⟨er, hR2⟩ := hd
  rw [List.append_nil] at hw
  refine W.widen (k := cells + 3) (n := slots + 324) (Nat.le_add_right _ _) (Nat.le_add_right _ _) ?_
  subst er
  refine W.lcmp K.1 K.2.1 dL_law_518 ?_
  exact lv_if_eq (tgt := 1083) K.1 K.2.1 dL_law_519 (by decide) (fun _ => next nt adC u mS2 H locs rfl hR2 hw) (fun h => absurd (lg_same _) h)
theorem law_c13 {p : Program} {l : Launch} {e : Env} {s : State} {m : MethodId} {below : List Frame} {meth : Method} {c : Code} {b L : Nat} {xs : Nat → Int32} {D : va_G} {cy : Nat → ClassId} {X : Nat → Nat} {A : Nat → Prop} {nt : Nat} {adC adM : Nat → Nat} {cS mS : Sg} {i cells slots : Nat} {H : Heap} {locs : List Loc} {ls : Array Slot} (K : Kx p s m #[Value.ref b] meth c code 4 RL D cy) (KX : XC X A s s.heap) (KS : SX s) (hA : ∀ q, s.heap.size ≤ q → A q) (hX : va_X b L xs s s.heap) (hbl : b < s.heap.size) (hbA : ¬ A b) (hC : cells + 3 ≤ 600000 ∧ slots + 324 ≤ 7302250) (hi : i + 6 ≤ L) (hL : L ≤ 3072) (hR : Rel mS cS nt) (hw : Wd D A s.heap (wsC cy nt adC cS ++ wsM cy adM mS) H locs) (hl : lv_has ls 4 [(3, .int (nI i)), (2, .ref (adM 0)), (1, .ref (adC 0)), (0, .ref b)])
    (next : ∀ (nt' : Nat) (adC' : Nat → Nat) (cS' mS' : Sg) (H' : Heap) (locs' : List Loc), adC' 0 = adC 0 → Rel mS' cS' nt' → Wd D A s.heap (wsC cy nt' adC' cS' ++ wsM cy adM mS') H' locs' → W p l e room_1 s m #[Value.ref b] below meth c H' locs' (cells + 3) (slots + 324) (lw_Z below #[Value.ref b] s) (F0 m 1083 ls [])) : W p l e room_1 s m #[Value.ref b] below meth c H locs cells slots (lw_Z below #[Value.ref b] s) (F0 m 524 ls []) := by
  have h1 : vp_in (nI i + 1) L := by rw [show nI i + 1 = nI (i + 1) from nI_add i 1]; exact vp_in_nI (by omega) (by omega)
  refine lv_aload_n K.1 K.2.1 dL_law_524 rfl (lv_at hl 2 rfl) ?_
  refine lv_aload_n K.1 K.2.1 dL_law_525 rfl (lv_at hl 3 rfl) ?_
  refine lv_iload_n K.1 K.2.1 dL_law_526 rfl (lv_at hl 0 rfl) ?_
  refine lv_iconst (v := (1 : Int32)) K.1 K.2.1 dL_law_527 (by decide) ?_
  refine lv_iadd K.1 K.2.1 dL_law_528 ?_
  refine va_sld K.1 K.2.1 hX hbl hbA hw.2.2 h1 dL_law_529 ?_
  refine fr_ci (wl := []) (wf := wsC cy nt adC) (wr := wsM cy adM mS) (As := [.int (xs (nI i + 1).toNatClampNeg)]) (rest := []) K KX hA hw (cc_X7_torn l D cy nt adC _ X cS _ (xs (nI i + 1).toNatClampNeg) (eq_torn hR (xs (nI i + 1).toNatClampNeg))) lk_L_70 (ci := 7) rfl (wc_O cy nt adC _) ⟨Nat.le_of_ble_eq_true rfl, Nat.le_of_ble_eq_true rfl⟩ ⟨Nat.le_trans (Nat.le_add_right _ _) hC.1, Nat.le_trans (Nat.le_add_right _ _) hC.2⟩ rfl hl.1 (Nat.le_of_ble_eq_true rfl) rfl dL_law_530 (fun r u H locs hd hw => ?_)
  have hw : Wd D A s.heap (wsC cy nt adC u ++ (wsM cy adM mS ++ [])) H locs := by rw [List.append_nil]; exact hw
  refine lv_aload_n K.1 K.2.1 dL_law_533 rfl (lv_at hl 1 rfl) ?_
  refine lv_aload_n K.1 K.2.1 dL_law_534 rfl (lv_at hl 3 rfl) ?_
  refine lv_iload_n K.1 K.2.1 dL_law_535 rfl (lv_at hl 0 rfl) ?_
  refine lv_iconst (v := (1 : Int32)) K.1 K.2.1 dL_law_536 (by decide) ?_
  refine lv_iadd K.1 K.2.1 dL_law_537 ?_
  refine va_sld K.1 K.2.1 hX hbl hbA hw.2.2 h1 dL_law_538 ?_
  refine fr_gi (wl := wsC cy nt adC u) (wf := wsM cy adM) (wr := []) (As := [.int (xs (nI i + 1).toNatClampNeg)]) (rest := [.int r]) K hA hw (cc_X8_torn l D cy adM _ mS _ (xs (nI i + 1).toNatClampNeg) hd) lk_L_73 (ci := 8) rfl (q0 := 0) (wsM_at cy adM _ (by decide)) ⟨Nat.le_of_ble_eq_true rfl, Nat.le_of_ble_eq_true rfl⟩ ⟨Nat.le_trans (Nat.le_add_right _ _) hC.1, Nat.le_trans (Nat.le_add_right _ _) hC.2⟩ rfl hl.1 (Nat.le_of_ble_eq_true rfl) rfl dL_law_539 (fun r2 mS2 H locs hd hw => ?_)
  obtain ⟨er, hR2⟩ := hd
  rw [List.append_nil] at hw
  refine W.widen (k := cells + 3) (n := slots + 324) (Nat.le_add_right _ _) (Nat.le_add_right _ _) ?_
  exact lv_icmp_eq (tgt := 1083) K.1 K.2.1 dL_law_542 (by decide) (fun _ => next nt adC u mS2 H locs rfl hR2 hw) (fun h => absurd er h)
theorem law_c14 {p : Program} {l : Launch} {e : Env} {s : State} {m : MethodId} {below : List Frame} {meth : Method} {c : Code} {b L : Nat} {xs : Nat → Int32} {D : va_G} {cy : Nat → ClassId} {X : Nat → Nat} {A : Nat → Prop} {nt : Nat} {adC adM : Nat → Nat} {cS mS : Sg} {i cells slots : Nat} {H : Heap} {locs : List Loc} {ls : Array Slot} (K : Kx p s m #[Value.ref b] meth c code 4 RL D cy) (KX : XC X A s s.heap) (KS : SX s) (hA : ∀ q, s.heap.size ≤ q → A q) (hX : va_X b L xs s s.heap) (hbl : b < s.heap.size) (hbA : ¬ A b) (hC : cells + 3 ≤ 600000 ∧ slots + 324 ≤ 7302250) (hi : i + 6 ≤ L) (hL : L ≤ 3072) (hR : Rel mS cS nt) (hw : Wd D A s.heap (wsC cy nt adC cS ++ wsM cy adM mS) H locs) (hl : lv_has ls 4 [(3, .int (nI i)), (2, .ref (adM 0)), (1, .ref (adC 0)), (0, .ref b)])
    (next : ∀ (nt' : Nat) (adC' : Nat → Nat) (cS' mS' : Sg) (H' : Heap) (locs' : List Loc), adC' 0 = adC 0 → Rel mS' cS' nt' → Wd D A s.heap (wsC cy nt' adC' cS' ++ wsM cy adM mS') H' locs' → W p l e room_1 s m #[Value.ref b] below meth c H' locs' (cells + 3) (slots + 324) (lw_Z below #[Value.ref b] s) (F0 m 1083 ls [])) : W p l e room_1 s m #[Value.ref b] below meth c H locs cells slots (lw_Z below #[Value.ref b] s) (F0 m 547 ls []) := by
  have h1 : vp_in (nI i + 1) L := by rw [show nI i + 1 = nI (i + 1) from nI_add i 1]; exact vp_in_nI (by omega) (by omega)
  refine lv_aload_n K.1 K.2.1 dL_law_547 rfl (lv_at hl 2 rfl) ?_
  refine lv_aload_n K.1 K.2.1 dL_law_548 rfl (lv_at hl 3 rfl) ?_
  refine lv_iload_n K.1 K.2.1 dL_law_549 rfl (lv_at hl 0 rfl) ?_
  refine lv_iconst (v := (1 : Int32)) K.1 K.2.1 dL_law_550 (by decide) ?_
  refine lv_iadd K.1 K.2.1 dL_law_551 ?_
  refine va_sld K.1 K.2.1 hX hbl hbA hw.2.2 h1 dL_law_552 ?_
  refine fr_ci (wl := []) (wf := wsC cy nt adC) (wr := wsM cy adM mS) (As := [.int (xs (nI i + 1).toNatClampNeg)]) (rest := []) K KX hA hw (cc_X7_fewest l D cy nt adC _ X cS _ (xs (nI i + 1).toNatClampNeg) (eq_fewest hR (xs (nI i + 1).toNatClampNeg))) lk_L_74 (ci := 7) rfl (wc_O cy nt adC _) ⟨Nat.le_of_ble_eq_true rfl, Nat.le_of_ble_eq_true rfl⟩ ⟨Nat.le_trans (Nat.le_add_right _ _) hC.1, Nat.le_trans (Nat.le_add_right _ _) hC.2⟩ rfl hl.1 (Nat.le_of_ble_eq_true rfl) rfl dL_law_553 (fun r u H locs hd hw => ?_)
  have hw : Wd D A s.heap (wsC cy nt adC u ++ (wsM cy adM mS ++ [])) H locs := by rw [List.append_nil]; exact hw
  refine lv_aload_n K.1 K.2.1 dL_law_556 rfl (lv_at hl 1 rfl) ?_
  refine lv_aload_n K.1 K.2.1 dL_law_557 rfl (lv_at hl 3 rfl) ?_
  refine lv_iload_n K.1 K.2.1 dL_law_558 rfl (lv_at hl 0 rfl) ?_
  refine lv_iconst (v := (1 : Int32)) K.1 K.2.1 dL_law_559 (by decide) ?_
  refine lv_iadd K.1 K.2.1 dL_law_560 ?_
  refine va_sld K.1 K.2.1 hX hbl hbA hw.2.2 h1 dL_law_561 ?_
  refine fr_gi (wl := wsC cy nt adC u) (wf := wsM cy adM) (wr := []) (As := [.int (xs (nI i + 1).toNatClampNeg)]) (rest := [.int r]) K hA hw (cc_X8_fewest l D cy adM _ mS _ (xs (nI i + 1).toNatClampNeg) hd) lk_L_77 (ci := 8) rfl (q0 := 0) (wsM_at cy adM _ (by decide)) ⟨Nat.le_of_ble_eq_true rfl, Nat.le_of_ble_eq_true rfl⟩ ⟨Nat.le_trans (Nat.le_add_right _ _) hC.1, Nat.le_trans (Nat.le_add_right _ _) hC.2⟩ rfl hl.1 (Nat.le_of_ble_eq_true rfl) rfl dL_law_562 (fun r2 mS2 H locs hd hw => ?_)
  obtain ⟨er, hR2⟩ := hd
  rw [List.append_nil] at hw
  refine W.widen (k := cells + 3) (n := slots + 324) (Nat.le_add_right _ _) (Nat.le_add_right _ _) ?_
  exact lv_icmp_eq (tgt := 1083) K.1 K.2.1 dL_law_565 (by decide) (fun _ => next nt adC u mS2 H locs rfl hR2 hw) (fun h => absurd er h)
theorem law_c15 {p : Program} {l : Launch} {e : Env} {s : State} {m : MethodId} {below : List Frame} {meth : Method} {c : Code} {b L : Nat} {xs : Nat → Int32} {D : va_G} {cy : Nat → ClassId} {X : Nat → Nat} {A : Nat → Prop} {nt : Nat} {adC adM : Nat → Nat} {cS mS : Sg} {i cells slots : Nat} {H : Heap} {locs : List Loc} {ls : Array Slot} (K : Kx p s m #[Value.ref b] meth c code 4 RL D cy) (KX : XC X A s s.heap) (KS : SX s) (hA : ∀ q, s.heap.size ≤ q → A q) (hX : va_X b L xs s s.heap) (hbl : b < s.heap.size) (hbA : ¬ A b) (hC : cells + 3 ≤ 600000 ∧ slots + 324 ≤ 7302250) (hi : i + 6 ≤ L) (hL : L ≤ 3072) (hR : Rel mS cS nt) (hw : Wd D A s.heap (wsC cy nt adC cS ++ wsM cy adM mS) H locs) (hl : lv_has ls 4 [(3, .int (nI i)), (2, .ref (adM 0)), (1, .ref (adC 0)), (0, .ref b)])
    (next : ∀ (nt' : Nat) (adC' : Nat → Nat) (cS' mS' : Sg) (H' : Heap) (locs' : List Loc), adC' 0 = adC 0 → Rel mS' cS' nt' → Wd D A s.heap (wsC cy nt' adC' cS' ++ wsM cy adM mS') H' locs' → W p l e room_1 s m #[Value.ref b] below meth c H' locs' (cells + 3) (slots + 324) (lw_Z below #[Value.ref b] s) (F0 m 1083 ls [])) : W p l e room_1 s m #[Value.ref b] below meth c H locs cells slots (lw_Z below #[Value.ref b] s) (F0 m 570 ls []) := by
  have h1 : vp_in (nI i + 1) L := by rw [show nI i + 1 = nI (i + 1) from nI_add i 1]; exact vp_in_nI (by omega) (by omega)
  have h2 : vp_in (nI i + 2) L := by rw [show nI i + 2 = nI (i + 2) from nI_add i 2]; exact vp_in_nI (by omega) (by omega)
  refine lv_aload_n K.1 K.2.1 dL_law_570 rfl (lv_at hl 2 rfl) ?_
  refine lv_aload_n K.1 K.2.1 dL_law_571 rfl (lv_at hl 3 rfl) ?_
  refine lv_iload_n K.1 K.2.1 dL_law_572 rfl (lv_at hl 0 rfl) ?_
  refine lv_iconst (v := (1 : Int32)) K.1 K.2.1 dL_law_573 (by decide) ?_
  refine lv_iadd K.1 K.2.1 dL_law_574 ?_
  refine va_sld K.1 K.2.1 hX hbl hbA hw.2.2 h1 dL_law_575 ?_
  refine lv_aload_n K.1 K.2.1 dL_law_576 rfl (lv_at hl 3 rfl) ?_
  refine lv_iload_n K.1 K.2.1 dL_law_577 rfl (lv_at hl 0 rfl) ?_
  refine lv_iconst (v := (2 : Int32)) K.1 K.2.1 dL_law_578 (by decide) ?_
  refine lv_iadd K.1 K.2.1 dL_law_579 ?_
  refine va_sld K.1 K.2.1 hX hbl hbA hw.2.2 h2 dL_law_580 ?_
  refine fr_ci (wl := []) (wf := wsC cy nt adC) (wr := wsM cy adM mS) (As := [.int (xs (nI i + 1).toNatClampNeg), .int (xs (nI i + 2).toNatClampNeg)]) (rest := []) K KX hA hw (cc_X7_stop l D cy nt adC _ X cS _ (xs (nI i + 1).toNatClampNeg) (xs (nI i + 2).toNatClampNeg) (eq_stop hR (xs (nI i + 1).toNatClampNeg) (xs (nI i + 2).toNatClampNeg))) lk_L_78 (ci := 7) rfl (wc_O cy nt adC _) ⟨Nat.le_of_ble_eq_true rfl, Nat.le_of_ble_eq_true rfl⟩ ⟨Nat.le_trans (Nat.le_add_right _ _) hC.1, Nat.le_trans (Nat.le_add_right _ _) hC.2⟩ rfl hl.1 (Nat.le_of_ble_eq_true rfl) rfl dL_law_581 (fun r u H locs hd hw => ?_)
  have hw : Wd D A s.heap (wsC cy nt adC u ++ (wsM cy adM mS ++ [])) H locs := by rw [List.append_nil]; exact hw
  refine lv_aload_n K.1 K.2.1 dL_law_584 rfl (lv_at hl 1 rfl) ?_
  refine lv_aload_n K.1 K.2.1 dL_law_585 rfl (lv_at hl 3 rfl) ?_
  refine lv_iload_n K.1 K.2.1 dL_law_586 rfl (lv_at hl 0 rfl) ?_
  refine lv_iconst (v := (1 : Int32)) K.1 K.2.1 dL_law_587 (by decide) ?_
  refine lv_iadd K.1 K.2.1 dL_law_588 ?_
  refine va_sld K.1 K.2.1 hX hbl hbA hw.2.2 h1 dL_law_589 ?_
  refine lv_aload_n K.1 K.2.1 dL_law_590 rfl (lv_at hl 3 rfl) ?_
  refine lv_iload_n K.1 K.2.1 dL_law_591 rfl (lv_at hl 0 rfl) ?_
  refine lv_iconst (v := (2 : Int32)) K.1 K.2.1 dL_law_592 (by decide) ?_
  refine lv_iadd K.1 K.2.1 dL_law_593 ?_
  refine va_sld K.1 K.2.1 hX hbl hbA hw.2.2 h2 dL_law_594 ?_
  refine fr_gi (wl := wsC cy nt adC u) (wf := wsM cy adM) (wr := []) (As := [.int (xs (nI i + 1).toNatClampNeg), .int (xs (nI i + 2).toNatClampNeg)]) (rest := [.int r]) K hA hw (cc_X8_stop l D cy adM _ mS _ (xs (nI i + 1).toNatClampNeg) (xs (nI i + 2).toNatClampNeg) hd) lk_L_81 (ci := 8) rfl (q0 := 0) (wsM_at cy adM _ (by decide)) ⟨Nat.le_of_ble_eq_true rfl, Nat.le_of_ble_eq_true rfl⟩ ⟨Nat.le_trans (Nat.le_add_right _ _) hC.1, Nat.le_trans (Nat.le_add_right _ _) hC.2⟩ rfl hl.1 (Nat.le_of_ble_eq_true rfl) rfl dL_law_595 (fun r2 mS2 H locs hd hw => ?_)
  obtain ⟨er, hR2⟩ := hd
  rw [List.append_nil] at hw
  refine W.widen (k := cells + 3) (n := slots + 324) (Nat.le_add_right _ _) (Nat.le_add_right _ _) ?_
  exact lv_icmp_eq (tgt := 1083) K.1 K.2.1 dL_law_598 (by decide) (fun _ => next nt adC u mS2 H locs rfl hR2 hw) (fun h => absurd er h)
theorem law_c16 {p : Program} {l : Launch} {e : Env} {s : State} {m : MethodId} {below : List Frame} {meth : Method} {c : Code} {b L : Nat} {xs : Nat → Int32} {D : va_G} {cy : Nat → ClassId} {X : Nat → Nat} {A : Nat → Prop} {nt : Nat} {adC adM : Nat → Nat} {cS mS : Sg} {i cells slots : Nat} {H : Heap} {locs : List Loc} {ls : Array Slot} (K : Kx p s m #[Value.ref b] meth c code 4 RL D cy) (KX : XC X A s s.heap) (KS : SX s) (hA : ∀ q, s.heap.size ≤ q → A q) (hX : va_X b L xs s s.heap) (hbl : b < s.heap.size) (hbA : ¬ A b) (hC : cells + 3 ≤ 600000 ∧ slots + 324 ≤ 7302250) (hi : i + 6 ≤ L) (hL : L ≤ 3072) (hR : Rel mS cS nt) (hw : Wd D A s.heap (wsC cy nt adC cS ++ wsM cy adM mS) H locs) (hl : lv_has ls 4 [(3, .int (nI i)), (2, .ref (adM 0)), (1, .ref (adC 0)), (0, .ref b)])
    (next : ∀ (nt' : Nat) (adC' : Nat → Nat) (cS' mS' : Sg) (H' : Heap) (locs' : List Loc), adC' 0 = adC 0 → Rel mS' cS' nt' → Wd D A s.heap (wsC cy nt' adC' cS' ++ wsM cy adM mS') H' locs' → W p l e room_1 s m #[Value.ref b] below meth c H' locs' (cells + 3) (slots + 324) (lw_Z below #[Value.ref b] s) (F0 m 1083 ls [])) : W p l e room_1 s m #[Value.ref b] below meth c H locs cells slots (lw_Z below #[Value.ref b] s) (F0 m 603 ls []) := by
  have h1 : vp_in (nI i + 1) L := by rw [show nI i + 1 = nI (i + 1) from nI_add i 1]; exact vp_in_nI (by omega) (by omega)
  have h2 : vp_in (nI i + 2) L := by rw [show nI i + 2 = nI (i + 2) from nI_add i 2]; exact vp_in_nI (by omega) (by omega)
  refine lv_aload_n K.1 K.2.1 dL_law_603 rfl (lv_at hl 2 rfl) ?_
  refine lv_aload_n K.1 K.2.1 dL_law_604 rfl (lv_at hl 3 rfl) ?_
  refine lv_iload_n K.1 K.2.1 dL_law_605 rfl (lv_at hl 0 rfl) ?_
  refine lv_iconst (v := (1 : Int32)) K.1 K.2.1 dL_law_606 (by decide) ?_
  refine lv_iadd K.1 K.2.1 dL_law_607 ?_
  refine va_sld K.1 K.2.1 hX hbl hbA hw.2.2 h1 dL_law_608 ?_
  refine lv_aload_n K.1 K.2.1 dL_law_609 rfl (lv_at hl 3 rfl) ?_
  refine lv_iload_n K.1 K.2.1 dL_law_610 rfl (lv_at hl 0 rfl) ?_
  refine lv_iconst (v := (2 : Int32)) K.1 K.2.1 dL_law_611 (by decide) ?_
  refine lv_iadd K.1 K.2.1 dL_law_612 ?_
  refine va_sld K.1 K.2.1 hX hbl hbA hw.2.2 h2 dL_law_613 ?_
  refine fr_ci (wl := []) (wf := wsC cy nt adC) (wr := wsM cy adM mS) (As := [.int (xs (nI i + 1).toNatClampNeg), .int (xs (nI i + 2).toNatClampNeg)]) (rest := []) K KX hA hw (cc_X7_goesWith l D cy nt adC _ X cS _ (xs (nI i + 1).toNatClampNeg) (xs (nI i + 2).toNatClampNeg) (eq_goesWith hR (xs (nI i + 1).toNatClampNeg) (xs (nI i + 2).toNatClampNeg))) lk_L_82 (ci := 7) rfl (wc_O cy nt adC _) ⟨Nat.le_of_ble_eq_true rfl, Nat.le_of_ble_eq_true rfl⟩ ⟨Nat.le_trans (Nat.le_add_right _ _) hC.1, Nat.le_trans (Nat.le_add_right _ _) hC.2⟩ rfl hl.1 (Nat.le_of_ble_eq_true rfl) rfl dL_law_614 (fun r u H locs hd hw => ?_)
  have hw : Wd D A s.heap (wsC cy nt adC u ++ (wsM cy adM mS ++ [])) H locs := by rw [List.append_nil]; exact hw
  refine lv_aload_n K.1 K.2.1 dL_law_617 rfl (lv_at hl 1 rfl) ?_
  refine lv_aload_n K.1 K.2.1 dL_law_618 rfl (lv_at hl 3 rfl) ?_
  refine lv_iload_n K.1 K.2.1 dL_law_619 rfl (lv_at hl 0 rfl) ?_
  refine lv_iconst (v := (1 : Int32)) K.1 K.2.1 dL_law_620 (by decide) ?_
  refine lv_iadd K.1 K.2.1 dL_law_621 ?_
  refine va_sld K.1 K.2.1 hX hbl hbA hw.2.2 h1 dL_law_622 ?_
  refine lv_aload_n K.1 K.2.1 dL_law_623 rfl (lv_at hl 3 rfl) ?_
  refine lv_iload_n K.1 K.2.1 dL_law_624 rfl (lv_at hl 0 rfl) ?_
  refine lv_iconst (v := (2 : Int32)) K.1 K.2.1 dL_law_625 (by decide) ?_
  refine lv_iadd K.1 K.2.1 dL_law_626 ?_
  refine va_sld K.1 K.2.1 hX hbl hbA hw.2.2 h2 dL_law_627 ?_
  refine fr_gi (wl := wsC cy nt adC u) (wf := wsM cy adM) (wr := []) (As := [.int (xs (nI i + 1).toNatClampNeg), .int (xs (nI i + 2).toNatClampNeg)]) (rest := [.int r]) K hA hw (cc_X8_goesWith l D cy adM _ mS _ (xs (nI i + 1).toNatClampNeg) (xs (nI i + 2).toNatClampNeg) hd) lk_L_85 (ci := 8) rfl (q0 := 0) (wsM_at cy adM _ (by decide)) ⟨Nat.le_of_ble_eq_true rfl, Nat.le_of_ble_eq_true rfl⟩ ⟨Nat.le_trans (Nat.le_add_right _ _) hC.1, Nat.le_trans (Nat.le_add_right _ _) hC.2⟩ rfl hl.1 (Nat.le_of_ble_eq_true rfl) rfl dL_law_628 (fun r2 mS2 H locs hd hw => ?_)
  obtain ⟨er, hR2⟩ := hd
  rw [List.append_nil] at hw
  refine W.widen (k := cells + 3) (n := slots + 324) (Nat.le_add_right _ _) (Nat.le_add_right _ _) ?_
  exact lv_icmp_eq (tgt := 1083) K.1 K.2.1 dL_law_631 (by decide) (fun _ => next nt adC u mS2 H locs rfl hR2 hw) (fun h => absurd er h)
theorem law_c17 {p : Program} {l : Launch} {e : Env} {s : State} {m : MethodId} {below : List Frame} {meth : Method} {c : Code} {b L : Nat} {xs : Nat → Int32} {D : va_G} {cy : Nat → ClassId} {X : Nat → Nat} {A : Nat → Prop} {nt : Nat} {adC adM : Nat → Nat} {cS mS : Sg} {i cells slots : Nat} {H : Heap} {locs : List Loc} {ls : Array Slot} (K : Kx p s m #[Value.ref b] meth c code 4 RL D cy) (KX : XC X A s s.heap) (KS : SX s) (hA : ∀ q, s.heap.size ≤ q → A q) (hX : va_X b L xs s s.heap) (hbl : b < s.heap.size) (hbA : ¬ A b) (hC : cells + 3 ≤ 600000 ∧ slots + 324 ≤ 7302250) (hi : i + 6 ≤ L) (hL : L ≤ 3072) (hR : Rel mS cS nt) (hw : Wd D A s.heap (wsC cy nt adC cS ++ wsM cy adM mS) H locs) (hl : lv_has ls 4 [(3, .int (nI i)), (2, .ref (adM 0)), (1, .ref (adC 0)), (0, .ref b)])
    (next : ∀ (nt' : Nat) (adC' : Nat → Nat) (cS' mS' : Sg) (H' : Heap) (locs' : List Loc), adC' 0 = adC 0 → Rel mS' cS' nt' → Wd D A s.heap (wsC cy nt' adC' cS' ++ wsM cy adM mS') H' locs' → W p l e room_1 s m #[Value.ref b] below meth c H' locs' (cells + 3) (slots + 324) (lw_Z below #[Value.ref b] s) (F0 m 1083 ls [])) : W p l e room_1 s m #[Value.ref b] below meth c H locs cells slots (lw_Z below #[Value.ref b] s) (F0 m 636 ls []) := by
  have h1 : vp_in (nI i + 1) L := by rw [show nI i + 1 = nI (i + 1) from nI_add i 1]; exact vp_in_nI (by omega) (by omega)
  have h2 : vp_in (nI i + 2) L := by rw [show nI i + 2 = nI (i + 2) from nI_add i 2]; exact vp_in_nI (by omega) (by omega)
  have h3 : vp_in (nI i + 3) L := by rw [show nI i + 3 = nI (i + 3) from nI_add i 3]; exact vp_in_nI (by omega) (by omega)
  refine lv_aload_n K.1 K.2.1 dL_law_636 rfl (lv_at hl 2 rfl) ?_
  refine lv_aload_n K.1 K.2.1 dL_law_637 rfl (lv_at hl 3 rfl) ?_
  refine lv_iload_n K.1 K.2.1 dL_law_638 rfl (lv_at hl 0 rfl) ?_
  refine lv_iconst (v := (1 : Int32)) K.1 K.2.1 dL_law_639 (by decide) ?_
  refine lv_iadd K.1 K.2.1 dL_law_640 ?_
  refine va_sld K.1 K.2.1 hX hbl hbA hw.2.2 h1 dL_law_641 ?_
  refine lv_aload_n K.1 K.2.1 dL_law_642 rfl (lv_at hl 3 rfl) ?_
  refine lv_iload_n K.1 K.2.1 dL_law_643 rfl (lv_at hl 0 rfl) ?_
  refine lv_iconst (v := (2 : Int32)) K.1 K.2.1 dL_law_644 (by decide) ?_
  refine lv_iadd K.1 K.2.1 dL_law_645 ?_
  refine va_sld K.1 K.2.1 hX hbl hbA hw.2.2 h2 dL_law_646 ?_
  refine lv_aload_n K.1 K.2.1 dL_law_647 rfl (lv_at hl 3 rfl) ?_
  refine lv_iload_n K.1 K.2.1 dL_law_648 rfl (lv_at hl 0 rfl) ?_
  refine lv_iconst (v := (3 : Int32)) K.1 K.2.1 dL_law_649 (by decide) ?_
  refine lv_iadd K.1 K.2.1 dL_law_650 ?_
  refine va_sld K.1 K.2.1 hX hbl hbA hw.2.2 h3 dL_law_651 ?_
  refine fr_ci (wl := []) (wf := wsC cy nt adC) (wr := wsM cy adM mS) (As := [.int (xs (nI i + 1).toNatClampNeg), .int (xs (nI i + 2).toNatClampNeg), .int (xs (nI i + 3).toNatClampNeg)]) (rest := []) K KX hA hw (cc_X7_tells l D cy nt adC _ X cS _ (xs (nI i + 1).toNatClampNeg) (xs (nI i + 2).toNatClampNeg) (xs (nI i + 3).toNatClampNeg) (eq_tells hR (xs (nI i + 1).toNatClampNeg) (xs (nI i + 2).toNatClampNeg) (xs (nI i + 3).toNatClampNeg))) lk_L_86 (ci := 7) rfl (wc_O cy nt adC _) ⟨Nat.le_of_ble_eq_true rfl, Nat.le_of_ble_eq_true rfl⟩ ⟨Nat.le_trans (Nat.le_add_right _ _) hC.1, Nat.le_trans (Nat.le_add_right _ _) hC.2⟩ rfl hl.1 (Nat.le_of_ble_eq_true rfl) rfl dL_law_652 (fun r u H locs hd hw => ?_)
  have hw : Wd D A s.heap (wsC cy nt adC u ++ (wsM cy adM mS ++ [])) H locs := by rw [List.append_nil]; exact hw
  refine lv_aload_n K.1 K.2.1 dL_law_655 rfl (lv_at hl 1 rfl) ?_
  refine lv_aload_n K.1 K.2.1 dL_law_656 rfl (lv_at hl 3 rfl) ?_
  refine lv_iload_n K.1 K.2.1 dL_law_657 rfl (lv_at hl 0 rfl) ?_
  refine lv_iconst (v := (1 : Int32)) K.1 K.2.1 dL_law_658 (by decide) ?_
  refine lv_iadd K.1 K.2.1 dL_law_659 ?_
  refine va_sld K.1 K.2.1 hX hbl hbA hw.2.2 h1 dL_law_660 ?_
  refine lv_aload_n K.1 K.2.1 dL_law_661 rfl (lv_at hl 3 rfl) ?_
  refine lv_iload_n K.1 K.2.1 dL_law_662 rfl (lv_at hl 0 rfl) ?_
  refine lv_iconst (v := (2 : Int32)) K.1 K.2.1 dL_law_663 (by decide) ?_
  refine lv_iadd K.1 K.2.1 dL_law_664 ?_
  refine va_sld K.1 K.2.1 hX hbl hbA hw.2.2 h2 dL_law_665 ?_
  refine lv_aload_n K.1 K.2.1 dL_law_666 rfl (lv_at hl 3 rfl) ?_
  refine lv_iload_n K.1 K.2.1 dL_law_667 rfl (lv_at hl 0 rfl) ?_
  refine lv_iconst (v := (3 : Int32)) K.1 K.2.1 dL_law_668 (by decide) ?_
  refine lv_iadd K.1 K.2.1 dL_law_669 ?_
  refine va_sld K.1 K.2.1 hX hbl hbA hw.2.2 h3 dL_law_670 ?_
  refine fr_gi (wl := wsC cy nt adC u) (wf := wsM cy adM) (wr := []) (As := [.int (xs (nI i + 1).toNatClampNeg), .int (xs (nI i + 2).toNatClampNeg), .int (xs (nI i + 3).toNatClampNeg)]) (rest := [.int r]) K hA hw (cc_X8_tells l D cy adM _ mS _ (xs (nI i + 1).toNatClampNeg) (xs (nI i + 2).toNatClampNeg) (xs (nI i + 3).toNatClampNeg) hd) lk_L_89 (ci := 8) rfl (q0 := 0) (wsM_at cy adM _ (by decide)) ⟨Nat.le_of_ble_eq_true rfl, Nat.le_of_ble_eq_true rfl⟩ ⟨Nat.le_trans (Nat.le_add_right _ _) hC.1, Nat.le_trans (Nat.le_add_right _ _) hC.2⟩ rfl hl.1 (Nat.le_of_ble_eq_true rfl) rfl dL_law_671 (fun r2 mS2 H locs hd hw => ?_)
  obtain ⟨er, hR2⟩ := hd
  rw [List.append_nil] at hw
  refine W.widen (k := cells + 3) (n := slots + 324) (Nat.le_add_right _ _) (Nat.le_add_right _ _) ?_
  exact lv_icmp_eq (tgt := 1083) K.1 K.2.1 dL_law_674 (by decide) (fun _ => next nt adC u mS2 H locs rfl hR2 hw) (fun h => absurd er h)
theorem law_c18 {p : Program} {l : Launch} {e : Env} {s : State} {m : MethodId} {below : List Frame} {meth : Method} {c : Code} {b L : Nat} {xs : Nat → Int32} {D : va_G} {cy : Nat → ClassId} {X : Nat → Nat} {A : Nat → Prop} {nt : Nat} {adC adM : Nat → Nat} {cS mS : Sg} {i cells slots : Nat} {H : Heap} {locs : List Loc} {ls : Array Slot} (K : Kx p s m #[Value.ref b] meth c code 4 RL D cy) (KX : XC X A s s.heap) (KS : SX s) (hA : ∀ q, s.heap.size ≤ q → A q) (hX : va_X b L xs s s.heap) (hbl : b < s.heap.size) (hbA : ¬ A b) (hC : cells + 3 ≤ 600000 ∧ slots + 324 ≤ 7302250) (hi : i + 6 ≤ L) (hL : L ≤ 3072) (hR : Rel mS cS nt) (hw : Wd D A s.heap (wsC cy nt adC cS ++ wsM cy adM mS) H locs) (hl : lv_has ls 4 [(3, .int (nI i)), (2, .ref (adM 0)), (1, .ref (adC 0)), (0, .ref b)])
    (next : ∀ (nt' : Nat) (adC' : Nat → Nat) (cS' mS' : Sg) (H' : Heap) (locs' : List Loc), adC' 0 = adC 0 → Rel mS' cS' nt' → Wd D A s.heap (wsC cy nt' adC' cS' ++ wsM cy adM mS') H' locs' → W p l e room_1 s m #[Value.ref b] below meth c H' locs' (cells + 3) (slots + 324) (lw_Z below #[Value.ref b] s) (F0 m 1083 ls [])) : W p l e room_1 s m #[Value.ref b] below meth c H locs cells slots (lw_Z below #[Value.ref b] s) (F0 m 679 ls []) := by
  have h1 : vp_in (nI i + 1) L := by rw [show nI i + 1 = nI (i + 1) from nI_add i 1]; exact vp_in_nI (by omega) (by omega)
  have h2 : vp_in (nI i + 2) L := by rw [show nI i + 2 = nI (i + 2) from nI_add i 2]; exact vp_in_nI (by omega) (by omega)
  refine lv_aload_n K.1 K.2.1 dL_law_679 rfl (lv_at hl 2 rfl) ?_
  refine lv_aload_n K.1 K.2.1 dL_law_680 rfl (lv_at hl 3 rfl) ?_
  refine lv_iload_n K.1 K.2.1 dL_law_681 rfl (lv_at hl 0 rfl) ?_
  refine lv_iconst (v := (1 : Int32)) K.1 K.2.1 dL_law_682 (by decide) ?_
  refine lv_iadd K.1 K.2.1 dL_law_683 ?_
  refine va_sld K.1 K.2.1 hX hbl hbA hw.2.2 h1 dL_law_684 ?_
  refine lv_aload_n K.1 K.2.1 dL_law_685 rfl (lv_at hl 3 rfl) ?_
  refine lv_iload_n K.1 K.2.1 dL_law_686 rfl (lv_at hl 0 rfl) ?_
  refine lv_iconst (v := (2 : Int32)) K.1 K.2.1 dL_law_687 (by decide) ?_
  refine lv_iadd K.1 K.2.1 dL_law_688 ?_
  refine va_sld K.1 K.2.1 hX hbl hbA hw.2.2 h2 dL_law_689 ?_
  refine fr_ci (wl := []) (wf := wsC cy nt adC) (wr := wsM cy adM mS) (As := [.int (xs (nI i + 1).toNatClampNeg), .int (xs (nI i + 2).toNatClampNeg)]) (rest := []) K KX hA hw (cc_X7_film l D cy nt adC _ X cS _ (xs (nI i + 1).toNatClampNeg) (xs (nI i + 2).toNatClampNeg) (eq_film hR (xs (nI i + 1).toNatClampNeg) (xs (nI i + 2).toNatClampNeg))) lk_L_90 (ci := 7) rfl (wc_O cy nt adC _) ⟨Nat.le_of_ble_eq_true rfl, Nat.le_of_ble_eq_true rfl⟩ ⟨Nat.le_trans (Nat.le_add_right _ _) hC.1, Nat.le_trans (Nat.le_add_right _ _) hC.2⟩ rfl hl.1 (Nat.le_of_ble_eq_true rfl) rfl dL_law_690 (fun r u H locs hd hw => ?_)
  have hw : Wd D A s.heap (wsC cy nt adC u ++ (wsM cy adM mS ++ [])) H locs := by rw [List.append_nil]; exact hw
  refine lv_aload_n K.1 K.2.1 dL_law_693 rfl (lv_at hl 1 rfl) ?_
  refine lv_aload_n K.1 K.2.1 dL_law_694 rfl (lv_at hl 3 rfl) ?_
  refine lv_iload_n K.1 K.2.1 dL_law_695 rfl (lv_at hl 0 rfl) ?_
  refine lv_iconst (v := (1 : Int32)) K.1 K.2.1 dL_law_696 (by decide) ?_
  refine lv_iadd K.1 K.2.1 dL_law_697 ?_
  refine va_sld K.1 K.2.1 hX hbl hbA hw.2.2 h1 dL_law_698 ?_
  refine lv_aload_n K.1 K.2.1 dL_law_699 rfl (lv_at hl 3 rfl) ?_
  refine lv_iload_n K.1 K.2.1 dL_law_700 rfl (lv_at hl 0 rfl) ?_
  refine lv_iconst (v := (2 : Int32)) K.1 K.2.1 dL_law_701 (by decide) ?_
  refine lv_iadd K.1 K.2.1 dL_law_702 ?_
  refine va_sld K.1 K.2.1 hX hbl hbA hw.2.2 h2 dL_law_703 ?_
  refine fr_gi (wl := wsC cy nt adC u) (wf := wsM cy adM) (wr := []) (As := [.int (xs (nI i + 1).toNatClampNeg), .int (xs (nI i + 2).toNatClampNeg)]) (rest := [.int r]) K hA hw (cc_X8_film l D cy adM _ mS _ (xs (nI i + 1).toNatClampNeg) (xs (nI i + 2).toNatClampNeg) hd) lk_L_93 (ci := 8) rfl (q0 := 0) (wsM_at cy adM _ (by decide)) ⟨Nat.le_of_ble_eq_true rfl, Nat.le_of_ble_eq_true rfl⟩ ⟨Nat.le_trans (Nat.le_add_right _ _) hC.1, Nat.le_trans (Nat.le_add_right _ _) hC.2⟩ rfl hl.1 (Nat.le_of_ble_eq_true rfl) rfl dL_law_704 (fun r2 mS2 H locs hd hw => ?_)
  obtain ⟨er, hR2⟩ := hd
  rw [List.append_nil] at hw
  refine W.widen (k := cells + 3) (n := slots + 324) (Nat.le_add_right _ _) (Nat.le_add_right _ _) ?_
  exact lv_icmp_eq (tgt := 1083) K.1 K.2.1 dL_law_707 (by decide) (fun _ => next nt adC u mS2 H locs rfl hR2 hw) (fun h => absurd er h)
theorem law_c19 {p : Program} {l : Launch} {e : Env} {s : State} {m : MethodId} {below : List Frame} {meth : Method} {c : Code} {b L : Nat} {xs : Nat → Int32} {D : va_G} {cy : Nat → ClassId} {X : Nat → Nat} {A : Nat → Prop} {nt : Nat} {adC adM : Nat → Nat} {cS mS : Sg} {i cells slots : Nat} {H : Heap} {locs : List Loc} {ls : Array Slot} (K : Kx p s m #[Value.ref b] meth c code 4 RL D cy) (KX : XC X A s s.heap) (KS : SX s) (hA : ∀ q, s.heap.size ≤ q → A q) (hX : va_X b L xs s s.heap) (hbl : b < s.heap.size) (hbA : ¬ A b) (hC : cells + 3 ≤ 600000 ∧ slots + 324 ≤ 7302250) (hi : i + 6 ≤ L) (hL : L ≤ 3072) (hR : Rel mS cS nt) (hw : Wd D A s.heap (wsC cy nt adC cS ++ wsM cy adM mS) H locs) (hl : lv_has ls 4 [(3, .int (nI i)), (2, .ref (adM 0)), (1, .ref (adC 0)), (0, .ref b)])
    (next : ∀ (nt' : Nat) (adC' : Nat → Nat) (cS' mS' : Sg) (H' : Heap) (locs' : List Loc), adC' 0 = adC 0 → Rel mS' cS' nt' → Wd D A s.heap (wsC cy nt' adC' cS' ++ wsM cy adM mS') H' locs' → W p l e room_1 s m #[Value.ref b] below meth c H' locs' (cells + 3) (slots + 324) (lw_Z below #[Value.ref b] s) (F0 m 1083 ls [])) : W p l e room_1 s m #[Value.ref b] below meth c H locs cells slots (lw_Z below #[Value.ref b] s) (F0 m 712 ls []) := by
  have h1 : vp_in (nI i + 1) L := by rw [show nI i + 1 = nI (i + 1) from nI_add i 1]; exact vp_in_nI (by omega) (by omega)
  have h2 : vp_in (nI i + 2) L := by rw [show nI i + 2 = nI (i + 2) from nI_add i 2]; exact vp_in_nI (by omega) (by omega)
  refine lv_aload_n K.1 K.2.1 dL_law_712 rfl (lv_at hl 2 rfl) ?_
  refine lv_aload_n K.1 K.2.1 dL_law_713 rfl (lv_at hl 3 rfl) ?_
  refine lv_iload_n K.1 K.2.1 dL_law_714 rfl (lv_at hl 0 rfl) ?_
  refine lv_iconst (v := (1 : Int32)) K.1 K.2.1 dL_law_715 (by decide) ?_
  refine lv_iadd K.1 K.2.1 dL_law_716 ?_
  refine va_sld K.1 K.2.1 hX hbl hbA hw.2.2 h1 dL_law_717 ?_
  refine lv_aload_n K.1 K.2.1 dL_law_718 rfl (lv_at hl 3 rfl) ?_
  refine lv_iload_n K.1 K.2.1 dL_law_719 rfl (lv_at hl 0 rfl) ?_
  refine lv_iconst (v := (2 : Int32)) K.1 K.2.1 dL_law_720 (by decide) ?_
  refine lv_iadd K.1 K.2.1 dL_law_721 ?_
  refine va_sld K.1 K.2.1 hX hbl hbA hw.2.2 h2 dL_law_722 ?_
  refine fr_ci (wl := []) (wf := wsC cy nt adC) (wr := wsM cy adM mS) (As := [.int (xs (nI i + 1).toNatClampNeg), .int (xs (nI i + 2).toNatClampNeg)]) (rest := []) K KX hA hw (cc_X7_drawn l D cy nt adC _ X cS _ (xs (nI i + 1).toNatClampNeg) (xs (nI i + 2).toNatClampNeg) (eq_drawn hR (xs (nI i + 1).toNatClampNeg) (xs (nI i + 2).toNatClampNeg))) lk_L_94 (ci := 7) rfl (wc_O cy nt adC _) ⟨Nat.le_of_ble_eq_true rfl, Nat.le_of_ble_eq_true rfl⟩ ⟨Nat.le_trans (Nat.le_add_right _ _) hC.1, Nat.le_trans (Nat.le_add_right _ _) hC.2⟩ rfl hl.1 (Nat.le_of_ble_eq_true rfl) rfl dL_law_723 (fun r u H locs hd hw => ?_)
  have hw : Wd D A s.heap (wsC cy nt adC u ++ (wsM cy adM mS ++ [])) H locs := by rw [List.append_nil]; exact hw
  refine lv_aload_n K.1 K.2.1 dL_law_726 rfl (lv_at hl 1 rfl) ?_
  refine lv_aload_n K.1 K.2.1 dL_law_727 rfl (lv_at hl 3 rfl) ?_
  refine lv_iload_n K.1 K.2.1 dL_law_728 rfl (lv_at hl 0 rfl) ?_
  refine lv_iconst (v := (1 : Int32)) K.1 K.2.1 dL_law_729 (by decide) ?_
  refine lv_iadd K.1 K.2.1 dL_law_730 ?_
  refine va_sld K.1 K.2.1 hX hbl hbA hw.2.2 h1 dL_law_731 ?_
  refine lv_aload_n K.1 K.2.1 dL_law_732 rfl (lv_at hl 3 rfl) ?_
  refine lv_iload_n K.1 K.2.1 dL_law_733 rfl (lv_at hl 0 rfl) ?_
  refine lv_iconst (v := (2 : Int32)) K.1 K.2.1 dL_law_734 (by decide) ?_
  refine lv_iadd K.1 K.2.1 dL_law_735 ?_
  refine va_sld K.1 K.2.1 hX hbl hbA hw.2.2 h2 dL_law_736 ?_
  refine fr_gi (wl := wsC cy nt adC u) (wf := wsM cy adM) (wr := []) (As := [.int (xs (nI i + 1).toNatClampNeg), .int (xs (nI i + 2).toNatClampNeg)]) (rest := [.int r]) K hA hw (cc_X8_drawn l D cy adM _ mS _ (xs (nI i + 1).toNatClampNeg) (xs (nI i + 2).toNatClampNeg) hd) lk_L_97 (ci := 8) rfl (q0 := 0) (wsM_at cy adM _ (by decide)) ⟨Nat.le_of_ble_eq_true rfl, Nat.le_of_ble_eq_true rfl⟩ ⟨Nat.le_trans (Nat.le_add_right _ _) hC.1, Nat.le_trans (Nat.le_add_right _ _) hC.2⟩ rfl hl.1 (Nat.le_of_ble_eq_true rfl) rfl dL_law_737 (fun r2 mS2 H locs hd hw => ?_)
  obtain ⟨er, hR2⟩ := hd
  rw [List.append_nil] at hw
  refine W.widen (k := cells + 3) (n := slots + 324) (Nat.le_add_right _ _) (Nat.le_add_right _ _) ?_
  exact lv_icmp_eq (tgt := 1083) K.1 K.2.1 dL_law_740 (by decide) (fun _ => next nt adC u mS2 H locs rfl hR2 hw) (fun h => absurd er h)
theorem law_c20 {p : Program} {l : Launch} {e : Env} {s : State} {m : MethodId} {below : List Frame} {meth : Method} {c : Code} {b L : Nat} {xs : Nat → Int32} {D : va_G} {cy : Nat → ClassId} {X : Nat → Nat} {A : Nat → Prop} {nt : Nat} {adC adM : Nat → Nat} {cS mS : Sg} {i cells slots : Nat} {H : Heap} {locs : List Loc} {ls : Array Slot} (K : Kx p s m #[Value.ref b] meth c code 4 RL D cy) (KX : XC X A s s.heap) (KS : SX s) (hA : ∀ q, s.heap.size ≤ q → A q) (hX : va_X b L xs s s.heap) (hbl : b < s.heap.size) (hbA : ¬ A b) (hC : cells + 3 ≤ 600000 ∧ slots + 324 ≤ 7302250) (hi : i + 6 ≤ L) (hL : L ≤ 3072) (hR : Rel mS cS nt) (hw : Wd D A s.heap (wsC cy nt adC cS ++ wsM cy adM mS) H locs) (hl : lv_has ls 4 [(3, .int (nI i)), (2, .ref (adM 0)), (1, .ref (adC 0)), (0, .ref b)])
    (next : ∀ (nt' : Nat) (adC' : Nat → Nat) (cS' mS' : Sg) (H' : Heap) (locs' : List Loc), adC' 0 = adC 0 → Rel mS' cS' nt' → Wd D A s.heap (wsC cy nt' adC' cS' ++ wsM cy adM mS') H' locs' → W p l e room_1 s m #[Value.ref b] below meth c H' locs' (cells + 3) (slots + 324) (lw_Z below #[Value.ref b] s) (F0 m 1083 ls [])) : W p l e room_1 s m #[Value.ref b] below meth c H locs cells slots (lw_Z below #[Value.ref b] s) (F0 m 745 ls []) := by
  have h1 : vp_in (nI i + 1) L := by rw [show nI i + 1 = nI (i + 1) from nI_add i 1]; exact vp_in_nI (by omega) (by omega)
  have h2 : vp_in (nI i + 2) L := by rw [show nI i + 2 = nI (i + 2) from nI_add i 2]; exact vp_in_nI (by omega) (by omega)
  have h3 : vp_in (nI i + 3) L := by rw [show nI i + 3 = nI (i + 3) from nI_add i 3]; exact vp_in_nI (by omega) (by omega)
  have h4 : vp_in (nI i + 4) L := by rw [show nI i + 4 = nI (i + 4) from nI_add i 4]; exact vp_in_nI (by omega) (by omega)
  refine lv_aload_n K.1 K.2.1 dL_law_745 rfl (lv_at hl 2 rfl) ?_
  refine lv_aload_n K.1 K.2.1 dL_law_746 rfl (lv_at hl 3 rfl) ?_
  refine lv_iload_n K.1 K.2.1 dL_law_747 rfl (lv_at hl 0 rfl) ?_
  refine lv_iconst (v := (1 : Int32)) K.1 K.2.1 dL_law_748 (by decide) ?_
  refine lv_iadd K.1 K.2.1 dL_law_749 ?_
  refine va_sld K.1 K.2.1 hX hbl hbA hw.2.2 h1 dL_law_750 ?_
  refine lv_aload_n K.1 K.2.1 dL_law_751 rfl (lv_at hl 3 rfl) ?_
  refine lv_iload_n K.1 K.2.1 dL_law_752 rfl (lv_at hl 0 rfl) ?_
  refine lv_iconst (v := (2 : Int32)) K.1 K.2.1 dL_law_753 (by decide) ?_
  refine lv_iadd K.1 K.2.1 dL_law_754 ?_
  refine va_sld K.1 K.2.1 hX hbl hbA hw.2.2 h2 dL_law_755 ?_
  refine lv_aload_n K.1 K.2.1 dL_law_756 rfl (lv_at hl 3 rfl) ?_
  refine lv_iload_n K.1 K.2.1 dL_law_757 rfl (lv_at hl 0 rfl) ?_
  refine lv_iconst (v := (3 : Int32)) K.1 K.2.1 dL_law_758 (by decide) ?_
  refine lv_iadd K.1 K.2.1 dL_law_759 ?_
  refine va_sld K.1 K.2.1 hX hbl hbA hw.2.2 h3 dL_law_760 ?_
  refine lv_aload_n K.1 K.2.1 dL_law_761 rfl (lv_at hl 3 rfl) ?_
  refine lv_iload_n K.1 K.2.1 dL_law_762 rfl (lv_at hl 0 rfl) ?_
  refine lv_iconst (v := (4 : Int32)) K.1 K.2.1 dL_law_763 (by decide) ?_
  refine lv_iadd K.1 K.2.1 dL_law_764 ?_
  refine va_sld K.1 K.2.1 hX hbl hbA hw.2.2 h4 dL_law_765 ?_
  refine fr_cl (wl := []) (wf := wsC cy nt adC) (wr := wsM cy adM mS) (As := [.int (xs (nI i + 1).toNatClampNeg), .int (xs (nI i + 2).toNatClampNeg), .int (xs (nI i + 3).toNatClampNeg), .int (xs (nI i + 4).toNatClampNeg)]) (rest := []) K KX hA hw (cc_X7_chance l D cy nt adC _ X cS _ (xs (nI i + 1).toNatClampNeg) (xs (nI i + 2).toNatClampNeg) (xs (nI i + 3).toNatClampNeg) (xs (nI i + 4).toNatClampNeg) (eq_chance hR (xs (nI i + 1).toNatClampNeg) (xs (nI i + 2).toNatClampNeg) (xs (nI i + 3).toNatClampNeg) (xs (nI i + 4).toNatClampNeg))) lk_L_98 (ci := 7) rfl (wc_O cy nt adC _) ⟨Nat.le_of_ble_eq_true rfl, Nat.le_of_ble_eq_true rfl⟩ ⟨Nat.le_trans (Nat.le_add_right _ _) hC.1, Nat.le_trans (Nat.le_add_right _ _) hC.2⟩ rfl hl.1 (Nat.le_of_ble_eq_true rfl) rfl dL_law_766 (fun r u H locs hd hw => ?_)
  have hw : Wd D A s.heap (wsC cy nt adC u ++ (wsM cy adM mS ++ [])) H locs := by rw [List.append_nil]; exact hw
  refine lv_aload_n K.1 K.2.1 dL_law_769 rfl (lv_at hl 1 rfl) ?_
  refine lv_aload_n K.1 K.2.1 dL_law_770 rfl (lv_at hl 3 rfl) ?_
  refine lv_iload_n K.1 K.2.1 dL_law_771 rfl (lv_at hl 0 rfl) ?_
  refine lv_iconst (v := (1 : Int32)) K.1 K.2.1 dL_law_772 (by decide) ?_
  refine lv_iadd K.1 K.2.1 dL_law_773 ?_
  refine va_sld K.1 K.2.1 hX hbl hbA hw.2.2 h1 dL_law_774 ?_
  refine lv_aload_n K.1 K.2.1 dL_law_775 rfl (lv_at hl 3 rfl) ?_
  refine lv_iload_n K.1 K.2.1 dL_law_776 rfl (lv_at hl 0 rfl) ?_
  refine lv_iconst (v := (2 : Int32)) K.1 K.2.1 dL_law_777 (by decide) ?_
  refine lv_iadd K.1 K.2.1 dL_law_778 ?_
  refine va_sld K.1 K.2.1 hX hbl hbA hw.2.2 h2 dL_law_779 ?_
  refine lv_aload_n K.1 K.2.1 dL_law_780 rfl (lv_at hl 3 rfl) ?_
  refine lv_iload_n K.1 K.2.1 dL_law_781 rfl (lv_at hl 0 rfl) ?_
  refine lv_iconst (v := (3 : Int32)) K.1 K.2.1 dL_law_782 (by decide) ?_
  refine lv_iadd K.1 K.2.1 dL_law_783 ?_
  refine va_sld K.1 K.2.1 hX hbl hbA hw.2.2 h3 dL_law_784 ?_
  refine lv_aload_n K.1 K.2.1 dL_law_785 rfl (lv_at hl 3 rfl) ?_
  refine lv_iload_n K.1 K.2.1 dL_law_786 rfl (lv_at hl 0 rfl) ?_
  refine lv_iconst (v := (4 : Int32)) K.1 K.2.1 dL_law_787 (by decide) ?_
  refine lv_iadd K.1 K.2.1 dL_law_788 ?_
  refine va_sld K.1 K.2.1 hX hbl hbA hw.2.2 h4 dL_law_789 ?_
  refine fr_gl (wl := wsC cy nt adC u) (wf := wsM cy adM) (wr := []) (As := [.int (xs (nI i + 1).toNatClampNeg), .int (xs (nI i + 2).toNatClampNeg), .int (xs (nI i + 3).toNatClampNeg), .int (xs (nI i + 4).toNatClampNeg)]) (rest := [.long r]) K hA hw (cc_X8_chance l D cy adM _ mS _ (xs (nI i + 1).toNatClampNeg) (xs (nI i + 2).toNatClampNeg) (xs (nI i + 3).toNatClampNeg) (xs (nI i + 4).toNatClampNeg) hd) lk_L_102 (ci := 8) rfl (q0 := 0) (wsM_at cy adM _ (by decide)) ⟨Nat.le_of_ble_eq_true rfl, Nat.le_of_ble_eq_true rfl⟩ ⟨Nat.le_trans (Nat.le_add_right _ _) hC.1, Nat.le_trans (Nat.le_add_right _ _) hC.2⟩ rfl hl.1 (Nat.le_of_ble_eq_true rfl) rfl dL_law_790 (fun r2 mS2 H locs hd hw => ?_)
  obtain ⟨er, hR2⟩ := hd
  rw [List.append_nil] at hw
  refine W.widen (k := cells + 3) (n := slots + 324) (Nat.le_add_right _ _) (Nat.le_add_right _ _) ?_
  subst er
  refine W.lcmp K.1 K.2.1 dL_law_793 ?_
  exact lv_if_eq (tgt := 1083) K.1 K.2.1 dL_law_794 (by decide) (fun _ => next nt adC u mS2 H locs rfl hR2 hw) (fun h => absurd (lg_same _) h)
theorem law_c21 {p : Program} {l : Launch} {e : Env} {s : State} {m : MethodId} {below : List Frame} {meth : Method} {c : Code} {b L : Nat} {xs : Nat → Int32} {D : va_G} {cy : Nat → ClassId} {X : Nat → Nat} {A : Nat → Prop} {nt : Nat} {adC adM : Nat → Nat} {cS mS : Sg} {i cells slots : Nat} {H : Heap} {locs : List Loc} {ls : Array Slot} (K : Kx p s m #[Value.ref b] meth c code 4 RL D cy) (KX : XC X A s s.heap) (KS : SX s) (hA : ∀ q, s.heap.size ≤ q → A q) (hX : va_X b L xs s s.heap) (hbl : b < s.heap.size) (hbA : ¬ A b) (hC : cells + 3 ≤ 600000 ∧ slots + 324 ≤ 7302250) (hi : i + 6 ≤ L) (hL : L ≤ 3072) (hR : Rel mS cS nt) (hw : Wd D A s.heap (wsC cy nt adC cS ++ wsM cy adM mS) H locs) (hl : lv_has ls 4 [(3, .int (nI i)), (2, .ref (adM 0)), (1, .ref (adC 0)), (0, .ref b)])
    (next : ∀ (nt' : Nat) (adC' : Nat → Nat) (cS' mS' : Sg) (H' : Heap) (locs' : List Loc), adC' 0 = adC 0 → Rel mS' cS' nt' → Wd D A s.heap (wsC cy nt' adC' cS' ++ wsM cy adM mS') H' locs' → W p l e room_1 s m #[Value.ref b] below meth c H' locs' (cells + 3) (slots + 324) (lw_Z below #[Value.ref b] s) (F0 m 1083 ls [])) : W p l e room_1 s m #[Value.ref b] below meth c H locs cells slots (lw_Z below #[Value.ref b] s) (F0 m 799 ls []) := by
  refine lv_aload_n K.1 K.2.1 dL_law_799 rfl (lv_at hl 2 rfl) ?_
  refine fr_ci (wl := []) (wf := wsC cy nt adC) (wr := wsM cy adM mS) (As := []) (rest := []) K KX hA hw (cc_X7_image l D cy nt adC _ X cS _ (eq_image hR)) lk_L_103 (ci := 7) rfl (wc_O cy nt adC _) ⟨Nat.le_of_ble_eq_true rfl, Nat.le_of_ble_eq_true rfl⟩ ⟨Nat.le_trans (Nat.le_add_right _ _) hC.1, Nat.le_trans (Nat.le_add_right _ _) hC.2⟩ rfl hl.1 (Nat.le_of_ble_eq_true rfl) rfl dL_law_800 (fun r u H locs hd hw => ?_)
  have hw : Wd D A s.heap (wsC cy nt adC u ++ (wsM cy adM mS ++ [])) H locs := by rw [List.append_nil]; exact hw
  refine lv_aload_n K.1 K.2.1 dL_law_803 rfl (lv_at hl 1 rfl) ?_
  refine fr_gi (wl := wsC cy nt adC u) (wf := wsM cy adM) (wr := []) (As := []) (rest := [.int r]) K hA hw (cc_X8_image l D cy adM _ mS _ hd) lk_L_106 (ci := 8) rfl (q0 := 0) (wsM_at cy adM _ (by decide)) ⟨Nat.le_of_ble_eq_true rfl, Nat.le_of_ble_eq_true rfl⟩ ⟨Nat.le_trans (Nat.le_add_right _ _) hC.1, Nat.le_trans (Nat.le_add_right _ _) hC.2⟩ rfl hl.1 (Nat.le_of_ble_eq_true rfl) rfl dL_law_804 (fun r2 mS2 H locs hd hw => ?_)
  obtain ⟨er, hR2⟩ := hd
  rw [List.append_nil] at hw
  refine W.widen (k := cells + 3) (n := slots + 324) (Nat.le_add_right _ _) (Nat.le_add_right _ _) ?_
  exact lv_icmp_eq (tgt := 1083) K.1 K.2.1 dL_law_807 (by decide) (fun _ => next nt adC u mS2 H locs rfl hR2 hw) (fun h => absurd er h)
theorem law_c22 {p : Program} {l : Launch} {e : Env} {s : State} {m : MethodId} {below : List Frame} {meth : Method} {c : Code} {b L : Nat} {xs : Nat → Int32} {D : va_G} {cy : Nat → ClassId} {X : Nat → Nat} {A : Nat → Prop} {nt : Nat} {adC adM : Nat → Nat} {cS mS : Sg} {i cells slots : Nat} {H : Heap} {locs : List Loc} {ls : Array Slot} (K : Kx p s m #[Value.ref b] meth c code 4 RL D cy) (KX : XC X A s s.heap) (KS : SX s) (hA : ∀ q, s.heap.size ≤ q → A q) (hX : va_X b L xs s s.heap) (hbl : b < s.heap.size) (hbA : ¬ A b) (hC : cells + 3 ≤ 600000 ∧ slots + 324 ≤ 7302250) (hi : i + 6 ≤ L) (hL : L ≤ 3072) (hR : Rel mS cS nt) (hw : Wd D A s.heap (wsC cy nt adC cS ++ wsM cy adM mS) H locs) (hl : lv_has ls 4 [(3, .int (nI i)), (2, .ref (adM 0)), (1, .ref (adC 0)), (0, .ref b)])
    (next : ∀ (nt' : Nat) (adC' : Nat → Nat) (cS' mS' : Sg) (H' : Heap) (locs' : List Loc), adC' 0 = adC 0 → Rel mS' cS' nt' → Wd D A s.heap (wsC cy nt' adC' cS' ++ wsM cy adM mS') H' locs' → W p l e room_1 s m #[Value.ref b] below meth c H' locs' (cells + 3) (slots + 324) (lw_Z below #[Value.ref b] s) (F0 m 1083 ls [])) : W p l e room_1 s m #[Value.ref b] below meth c H locs cells slots (lw_Z below #[Value.ref b] s) (F0 m 812 ls []) := by
  refine lv_aload_n K.1 K.2.1 dL_law_812 rfl (lv_at hl 2 rfl) ?_
  refine fr_ci (wl := []) (wf := wsC cy nt adC) (wr := wsM cy adM mS) (As := []) (rest := []) K KX hA hw (cc_X7_back l D cy nt adC _ X cS _ (eq_back hR)) lk_L_107 (ci := 7) rfl (wc_O cy nt adC _) ⟨Nat.le_of_ble_eq_true rfl, Nat.le_of_ble_eq_true rfl⟩ ⟨Nat.le_trans (Nat.le_add_right _ _) hC.1, Nat.le_trans (Nat.le_add_right _ _) hC.2⟩ rfl hl.1 (Nat.le_of_ble_eq_true rfl) rfl dL_law_813 (fun r u H locs hd hw => ?_)
  have hw : Wd D A s.heap (wsC cy nt adC u ++ (wsM cy adM mS ++ [])) H locs := by rw [List.append_nil]; exact hw
  refine lv_aload_n K.1 K.2.1 dL_law_816 rfl (lv_at hl 1 rfl) ?_
  refine fr_gi (wl := wsC cy nt adC u) (wf := wsM cy adM) (wr := []) (As := []) (rest := [.int r]) K hA hw (cc_X8_back l D cy adM _ mS _ hd) lk_L_110 (ci := 8) rfl (q0 := 0) (wsM_at cy adM _ (by decide)) ⟨Nat.le_of_ble_eq_true rfl, Nat.le_of_ble_eq_true rfl⟩ ⟨Nat.le_trans (Nat.le_add_right _ _) hC.1, Nat.le_trans (Nat.le_add_right _ _) hC.2⟩ rfl hl.1 (Nat.le_of_ble_eq_true rfl) rfl dL_law_817 (fun r2 mS2 H locs hd hw => ?_)
  obtain ⟨er, hR2⟩ := hd
  rw [List.append_nil] at hw
  refine W.widen (k := cells + 3) (n := slots + 324) (Nat.le_add_right _ _) (Nat.le_add_right _ _) ?_
  exact lv_icmp_eq (tgt := 1083) K.1 K.2.1 dL_law_820 (by decide) (fun _ => next nt adC u mS2 H locs rfl hR2 hw) (fun h => absurd er h)
theorem law_c23 {p : Program} {l : Launch} {e : Env} {s : State} {m : MethodId} {below : List Frame} {meth : Method} {c : Code} {b L : Nat} {xs : Nat → Int32} {D : va_G} {cy : Nat → ClassId} {X : Nat → Nat} {A : Nat → Prop} {nt : Nat} {adC adM : Nat → Nat} {cS mS : Sg} {i cells slots : Nat} {H : Heap} {locs : List Loc} {ls : Array Slot} (K : Kx p s m #[Value.ref b] meth c code 4 RL D cy) (KX : XC X A s s.heap) (KS : SX s) (hA : ∀ q, s.heap.size ≤ q → A q) (hX : va_X b L xs s s.heap) (hbl : b < s.heap.size) (hbA : ¬ A b) (hC : cells + 3 ≤ 600000 ∧ slots + 324 ≤ 7302250) (hi : i + 6 ≤ L) (hL : L ≤ 3072) (hR : Rel mS cS nt) (hw : Wd D A s.heap (wsC cy nt adC cS ++ wsM cy adM mS) H locs) (hl : lv_has ls 4 [(3, .int (nI i)), (2, .ref (adM 0)), (1, .ref (adC 0)), (0, .ref b)])
    (next : ∀ (nt' : Nat) (adC' : Nat → Nat) (cS' mS' : Sg) (H' : Heap) (locs' : List Loc), adC' 0 = adC 0 → Rel mS' cS' nt' → Wd D A s.heap (wsC cy nt' adC' cS' ++ wsM cy adM mS') H' locs' → W p l e room_1 s m #[Value.ref b] below meth c H' locs' (cells + 3) (slots + 324) (lw_Z below #[Value.ref b] s) (F0 m 1083 ls [])) : W p l e room_1 s m #[Value.ref b] below meth c H locs cells slots (lw_Z below #[Value.ref b] s) (F0 m 825 ls []) := by
  have h1 : vp_in (nI i + 1) L := by rw [show nI i + 1 = nI (i + 1) from nI_add i 1]; exact vp_in_nI (by omega) (by omega)
  refine lv_aload_n K.1 K.2.1 dL_law_825 rfl (lv_at hl 2 rfl) ?_
  refine lv_aload_n K.1 K.2.1 dL_law_826 rfl (lv_at hl 3 rfl) ?_
  refine lv_iload_n K.1 K.2.1 dL_law_827 rfl (lv_at hl 0 rfl) ?_
  refine lv_iconst (v := (1 : Int32)) K.1 K.2.1 dL_law_828 (by decide) ?_
  refine lv_iadd K.1 K.2.1 dL_law_829 ?_
  refine va_sld K.1 K.2.1 hX hbl hbA hw.2.2 h1 dL_law_830 ?_
  refine fr_ci (wl := []) (wf := wsC cy nt adC) (wr := wsM cy adM mS) (As := [.int (xs (nI i + 1).toNatClampNeg)]) (rest := []) K KX hA hw (cc_X7_count l D cy nt adC _ X cS _ (xs (nI i + 1).toNatClampNeg) (eq_count hR (xs (nI i + 1).toNatClampNeg))) lk_L_111 (ci := 7) rfl (wc_O cy nt adC _) ⟨Nat.le_of_ble_eq_true rfl, Nat.le_of_ble_eq_true rfl⟩ ⟨Nat.le_trans (Nat.le_add_right _ _) hC.1, Nat.le_trans (Nat.le_add_right _ _) hC.2⟩ rfl hl.1 (Nat.le_of_ble_eq_true rfl) rfl dL_law_831 (fun r u H locs hd hw => ?_)
  have hw : Wd D A s.heap (wsC cy nt adC u ++ (wsM cy adM mS ++ [])) H locs := by rw [List.append_nil]; exact hw
  refine lv_aload_n K.1 K.2.1 dL_law_834 rfl (lv_at hl 1 rfl) ?_
  refine lv_aload_n K.1 K.2.1 dL_law_835 rfl (lv_at hl 3 rfl) ?_
  refine lv_iload_n K.1 K.2.1 dL_law_836 rfl (lv_at hl 0 rfl) ?_
  refine lv_iconst (v := (1 : Int32)) K.1 K.2.1 dL_law_837 (by decide) ?_
  refine lv_iadd K.1 K.2.1 dL_law_838 ?_
  refine va_sld K.1 K.2.1 hX hbl hbA hw.2.2 h1 dL_law_839 ?_
  refine fr_gi (wl := wsC cy nt adC u) (wf := wsM cy adM) (wr := []) (As := [.int (xs (nI i + 1).toNatClampNeg)]) (rest := [.int r]) K hA hw (cc_X8_count l D cy adM _ mS _ (xs (nI i + 1).toNatClampNeg) hd) lk_L_114 (ci := 8) rfl (q0 := 0) (wsM_at cy adM _ (by decide)) ⟨Nat.le_of_ble_eq_true rfl, Nat.le_of_ble_eq_true rfl⟩ ⟨Nat.le_trans (Nat.le_add_right _ _) hC.1, Nat.le_trans (Nat.le_add_right _ _) hC.2⟩ rfl hl.1 (Nat.le_of_ble_eq_true rfl) rfl dL_law_840 (fun r2 mS2 H locs hd hw => ?_)
  obtain ⟨er, hR2⟩ := hd
  rw [List.append_nil] at hw
  refine W.widen (k := cells + 3) (n := slots + 324) (Nat.le_add_right _ _) (Nat.le_add_right _ _) ?_
  exact lv_icmp_eq (tgt := 1083) K.1 K.2.1 dL_law_843 (by decide) (fun _ => next nt adC u mS2 H locs rfl hR2 hw) (fun h => absurd er h)
theorem law_c24 {p : Program} {l : Launch} {e : Env} {s : State} {m : MethodId} {below : List Frame} {meth : Method} {c : Code} {b L : Nat} {xs : Nat → Int32} {D : va_G} {cy : Nat → ClassId} {X : Nat → Nat} {A : Nat → Prop} {nt : Nat} {adC adM : Nat → Nat} {cS mS : Sg} {i cells slots : Nat} {H : Heap} {locs : List Loc} {ls : Array Slot} (K : Kx p s m #[Value.ref b] meth c code 4 RL D cy) (KX : XC X A s s.heap) (KS : SX s) (hA : ∀ q, s.heap.size ≤ q → A q) (hX : va_X b L xs s s.heap) (hbl : b < s.heap.size) (hbA : ¬ A b) (hC : cells + 3 ≤ 600000 ∧ slots + 324 ≤ 7302250) (hi : i + 6 ≤ L) (hL : L ≤ 3072) (hR : Rel mS cS nt) (hw : Wd D A s.heap (wsC cy nt adC cS ++ wsM cy adM mS) H locs) (hl : lv_has ls 4 [(3, .int (nI i)), (2, .ref (adM 0)), (1, .ref (adC 0)), (0, .ref b)])
    (next : ∀ (nt' : Nat) (adC' : Nat → Nat) (cS' mS' : Sg) (H' : Heap) (locs' : List Loc), adC' 0 = adC 0 → Rel mS' cS' nt' → Wd D A s.heap (wsC cy nt' adC' cS' ++ wsM cy adM mS') H' locs' → W p l e room_1 s m #[Value.ref b] below meth c H' locs' (cells + 3) (slots + 324) (lw_Z below #[Value.ref b] s) (F0 m 1083 ls [])) : W p l e room_1 s m #[Value.ref b] below meth c H locs cells slots (lw_Z below #[Value.ref b] s) (F0 m 848 ls []) := by
  have h1 : vp_in (nI i + 1) L := by rw [show nI i + 1 = nI (i + 1) from nI_add i 1]; exact vp_in_nI (by omega) (by omega)
  have h2 : vp_in (nI i + 2) L := by rw [show nI i + 2 = nI (i + 2) from nI_add i 2]; exact vp_in_nI (by omega) (by omega)
  have h3 : vp_in (nI i + 3) L := by rw [show nI i + 3 = nI (i + 3) from nI_add i 3]; exact vp_in_nI (by omega) (by omega)
  refine lv_aload_n K.1 K.2.1 dL_law_848 rfl (lv_at hl 2 rfl) ?_
  refine lv_aload_n K.1 K.2.1 dL_law_849 rfl (lv_at hl 3 rfl) ?_
  refine lv_iload_n K.1 K.2.1 dL_law_850 rfl (lv_at hl 0 rfl) ?_
  refine lv_iconst (v := (1 : Int32)) K.1 K.2.1 dL_law_851 (by decide) ?_
  refine lv_iadd K.1 K.2.1 dL_law_852 ?_
  refine va_sld K.1 K.2.1 hX hbl hbA hw.2.2 h1 dL_law_853 ?_
  refine lv_aload_n K.1 K.2.1 dL_law_854 rfl (lv_at hl 3 rfl) ?_
  refine lv_iload_n K.1 K.2.1 dL_law_855 rfl (lv_at hl 0 rfl) ?_
  refine lv_iconst (v := (2 : Int32)) K.1 K.2.1 dL_law_856 (by decide) ?_
  refine lv_iadd K.1 K.2.1 dL_law_857 ?_
  refine va_sld K.1 K.2.1 hX hbl hbA hw.2.2 h2 dL_law_858 ?_
  refine lv_aload_n K.1 K.2.1 dL_law_859 rfl (lv_at hl 3 rfl) ?_
  refine lv_iload_n K.1 K.2.1 dL_law_860 rfl (lv_at hl 0 rfl) ?_
  refine lv_iconst (v := (3 : Int32)) K.1 K.2.1 dL_law_861 (by decide) ?_
  refine lv_iadd K.1 K.2.1 dL_law_862 ?_
  refine va_sld K.1 K.2.1 hX hbl hbA hw.2.2 h3 dL_law_863 ?_
  refine fr_ci (wl := []) (wf := wsC cy nt adC) (wr := wsM cy adM mS) (As := [.int (xs (nI i + 1).toNatClampNeg), .int (xs (nI i + 2).toNatClampNeg), .int (xs (nI i + 3).toNatClampNeg)]) (rest := []) K KX hA hw (cc_X7_sheet l D cy nt adC _ X cS _ (xs (nI i + 1).toNatClampNeg) (xs (nI i + 2).toNatClampNeg) (xs (nI i + 3).toNatClampNeg) (eq_sheet hR (xs (nI i + 1).toNatClampNeg) (xs (nI i + 2).toNatClampNeg) (xs (nI i + 3).toNatClampNeg))) lk_L_115 (ci := 7) rfl (wc_O cy nt adC _) ⟨Nat.le_of_ble_eq_true rfl, Nat.le_of_ble_eq_true rfl⟩ ⟨Nat.le_trans (Nat.le_add_right _ _) hC.1, Nat.le_trans (Nat.le_add_right _ _) hC.2⟩ rfl hl.1 (Nat.le_of_ble_eq_true rfl) rfl dL_law_864 (fun r u H locs hd hw => ?_)
  have hw : Wd D A s.heap (wsC cy nt adC u ++ (wsM cy adM mS ++ [])) H locs := by rw [List.append_nil]; exact hw
  refine lv_aload_n K.1 K.2.1 dL_law_867 rfl (lv_at hl 1 rfl) ?_
  refine lv_aload_n K.1 K.2.1 dL_law_868 rfl (lv_at hl 3 rfl) ?_
  refine lv_iload_n K.1 K.2.1 dL_law_869 rfl (lv_at hl 0 rfl) ?_
  refine lv_iconst (v := (1 : Int32)) K.1 K.2.1 dL_law_870 (by decide) ?_
  refine lv_iadd K.1 K.2.1 dL_law_871 ?_
  refine va_sld K.1 K.2.1 hX hbl hbA hw.2.2 h1 dL_law_872 ?_
  refine lv_aload_n K.1 K.2.1 dL_law_873 rfl (lv_at hl 3 rfl) ?_
  refine lv_iload_n K.1 K.2.1 dL_law_874 rfl (lv_at hl 0 rfl) ?_
  refine lv_iconst (v := (2 : Int32)) K.1 K.2.1 dL_law_875 (by decide) ?_
  refine lv_iadd K.1 K.2.1 dL_law_876 ?_
  refine va_sld K.1 K.2.1 hX hbl hbA hw.2.2 h2 dL_law_877 ?_
  refine lv_aload_n K.1 K.2.1 dL_law_878 rfl (lv_at hl 3 rfl) ?_
  refine lv_iload_n K.1 K.2.1 dL_law_879 rfl (lv_at hl 0 rfl) ?_
  refine lv_iconst (v := (3 : Int32)) K.1 K.2.1 dL_law_880 (by decide) ?_
  refine lv_iadd K.1 K.2.1 dL_law_881 ?_
  refine va_sld K.1 K.2.1 hX hbl hbA hw.2.2 h3 dL_law_882 ?_
  refine fr_gi (wl := wsC cy nt adC u) (wf := wsM cy adM) (wr := []) (As := [.int (xs (nI i + 1).toNatClampNeg), .int (xs (nI i + 2).toNatClampNeg), .int (xs (nI i + 3).toNatClampNeg)]) (rest := [.int r]) K hA hw (cc_X8_sheet l D cy adM _ mS _ (xs (nI i + 1).toNatClampNeg) (xs (nI i + 2).toNatClampNeg) (xs (nI i + 3).toNatClampNeg) hd) lk_L_118 (ci := 8) rfl (q0 := 0) (wsM_at cy adM _ (by decide)) ⟨Nat.le_of_ble_eq_true rfl, Nat.le_of_ble_eq_true rfl⟩ ⟨Nat.le_trans (Nat.le_add_right _ _) hC.1, Nat.le_trans (Nat.le_add_right _ _) hC.2⟩ rfl hl.1 (Nat.le_of_ble_eq_true rfl) rfl dL_law_883 (fun r2 mS2 H locs hd hw => ?_)
  obtain ⟨er, hR2⟩ := hd
  rw [List.append_nil] at hw
  refine W.widen (k := cells + 3) (n := slots + 324) (Nat.le_add_right _ _) (Nat.le_add_right _ _) ?_
  exact lv_icmp_eq (tgt := 1083) K.1 K.2.1 dL_law_886 (by decide) (fun _ => next nt adC u mS2 H locs rfl hR2 hw) (fun h => absurd er h)
theorem law_c25 {p : Program} {l : Launch} {e : Env} {s : State} {m : MethodId} {below : List Frame} {meth : Method} {c : Code} {b L : Nat} {xs : Nat → Int32} {D : va_G} {cy : Nat → ClassId} {X : Nat → Nat} {A : Nat → Prop} {nt : Nat} {adC adM : Nat → Nat} {cS mS : Sg} {i cells slots : Nat} {H : Heap} {locs : List Loc} {ls : Array Slot} (K : Kx p s m #[Value.ref b] meth c code 4 RL D cy) (KX : XC X A s s.heap) (KS : SX s) (hA : ∀ q, s.heap.size ≤ q → A q) (hX : va_X b L xs s s.heap) (hbl : b < s.heap.size) (hbA : ¬ A b) (hC : cells + 3 ≤ 600000 ∧ slots + 324 ≤ 7302250) (hi : i + 6 ≤ L) (hL : L ≤ 3072) (hR : Rel mS cS nt) (hw : Wd D A s.heap (wsC cy nt adC cS ++ wsM cy adM mS) H locs) (hl : lv_has ls 4 [(3, .int (nI i)), (2, .ref (adM 0)), (1, .ref (adC 0)), (0, .ref b)])
    (next : ∀ (nt' : Nat) (adC' : Nat → Nat) (cS' mS' : Sg) (H' : Heap) (locs' : List Loc), adC' 0 = adC 0 → Rel mS' cS' nt' → Wd D A s.heap (wsC cy nt' adC' cS' ++ wsM cy adM mS') H' locs' → W p l e room_1 s m #[Value.ref b] below meth c H' locs' (cells + 3) (slots + 324) (lw_Z below #[Value.ref b] s) (F0 m 1083 ls [])) : W p l e room_1 s m #[Value.ref b] below meth c H locs cells slots (lw_Z below #[Value.ref b] s) (F0 m 891 ls []) := by
  have h1 : vp_in (nI i + 1) L := by rw [show nI i + 1 = nI (i + 1) from nI_add i 1]; exact vp_in_nI (by omega) (by omega)
  have h2 : vp_in (nI i + 2) L := by rw [show nI i + 2 = nI (i + 2) from nI_add i 2]; exact vp_in_nI (by omega) (by omega)
  have h3 : vp_in (nI i + 3) L := by rw [show nI i + 3 = nI (i + 3) from nI_add i 3]; exact vp_in_nI (by omega) (by omega)
  refine lv_aload_n K.1 K.2.1 dL_law_891 rfl (lv_at hl 2 rfl) ?_
  refine lv_aload_n K.1 K.2.1 dL_law_892 rfl (lv_at hl 3 rfl) ?_
  refine lv_iload_n K.1 K.2.1 dL_law_893 rfl (lv_at hl 0 rfl) ?_
  refine lv_iconst (v := (1 : Int32)) K.1 K.2.1 dL_law_894 (by decide) ?_
  refine lv_iadd K.1 K.2.1 dL_law_895 ?_
  refine va_sld K.1 K.2.1 hX hbl hbA hw.2.2 h1 dL_law_896 ?_
  refine lv_aload_n K.1 K.2.1 dL_law_897 rfl (lv_at hl 3 rfl) ?_
  refine lv_iload_n K.1 K.2.1 dL_law_898 rfl (lv_at hl 0 rfl) ?_
  refine lv_iconst (v := (2 : Int32)) K.1 K.2.1 dL_law_899 (by decide) ?_
  refine lv_iadd K.1 K.2.1 dL_law_900 ?_
  refine va_sld K.1 K.2.1 hX hbl hbA hw.2.2 h2 dL_law_901 ?_
  refine lv_aload_n K.1 K.2.1 dL_law_902 rfl (lv_at hl 3 rfl) ?_
  refine lv_iload_n K.1 K.2.1 dL_law_903 rfl (lv_at hl 0 rfl) ?_
  refine lv_iconst (v := (3 : Int32)) K.1 K.2.1 dL_law_904 (by decide) ?_
  refine lv_iadd K.1 K.2.1 dL_law_905 ?_
  refine va_sld K.1 K.2.1 hX hbl hbA hw.2.2 h3 dL_law_906 ?_
  refine fr_ci (wl := []) (wf := wsC cy nt adC) (wr := wsM cy adM mS) (As := [.int (xs (nI i + 1).toNatClampNeg), .int (xs (nI i + 2).toNatClampNeg), .int (xs (nI i + 3).toNatClampNeg)]) (rest := []) K KX hA hw (cc_X7_cell l D cy nt adC _ X cS _ (xs (nI i + 1).toNatClampNeg) (xs (nI i + 2).toNatClampNeg) (xs (nI i + 3).toNatClampNeg) (eq_cell hR (xs (nI i + 1).toNatClampNeg) (xs (nI i + 2).toNatClampNeg) (xs (nI i + 3).toNatClampNeg))) lk_L_119 (ci := 7) rfl (wc_O cy nt adC _) ⟨Nat.le_of_ble_eq_true rfl, Nat.le_of_ble_eq_true rfl⟩ ⟨Nat.le_trans (Nat.le_add_right _ _) hC.1, Nat.le_trans (Nat.le_add_right _ _) hC.2⟩ rfl hl.1 (Nat.le_of_ble_eq_true rfl) rfl dL_law_907 (fun r u H locs hd hw => ?_)
  have hw : Wd D A s.heap (wsC cy nt adC u ++ (wsM cy adM mS ++ [])) H locs := by rw [List.append_nil]; exact hw
  refine lv_aload_n K.1 K.2.1 dL_law_910 rfl (lv_at hl 1 rfl) ?_
  refine lv_aload_n K.1 K.2.1 dL_law_911 rfl (lv_at hl 3 rfl) ?_
  refine lv_iload_n K.1 K.2.1 dL_law_912 rfl (lv_at hl 0 rfl) ?_
  refine lv_iconst (v := (1 : Int32)) K.1 K.2.1 dL_law_913 (by decide) ?_
  refine lv_iadd K.1 K.2.1 dL_law_914 ?_
  refine va_sld K.1 K.2.1 hX hbl hbA hw.2.2 h1 dL_law_915 ?_
  refine lv_aload_n K.1 K.2.1 dL_law_916 rfl (lv_at hl 3 rfl) ?_
  refine lv_iload_n K.1 K.2.1 dL_law_917 rfl (lv_at hl 0 rfl) ?_
  refine lv_iconst (v := (2 : Int32)) K.1 K.2.1 dL_law_918 (by decide) ?_
  refine lv_iadd K.1 K.2.1 dL_law_919 ?_
  refine va_sld K.1 K.2.1 hX hbl hbA hw.2.2 h2 dL_law_920 ?_
  refine lv_aload_n K.1 K.2.1 dL_law_921 rfl (lv_at hl 3 rfl) ?_
  refine lv_iload_n K.1 K.2.1 dL_law_922 rfl (lv_at hl 0 rfl) ?_
  refine lv_iconst (v := (3 : Int32)) K.1 K.2.1 dL_law_923 (by decide) ?_
  refine lv_iadd K.1 K.2.1 dL_law_924 ?_
  refine va_sld K.1 K.2.1 hX hbl hbA hw.2.2 h3 dL_law_925 ?_
  refine fr_gi (wl := wsC cy nt adC u) (wf := wsM cy adM) (wr := []) (As := [.int (xs (nI i + 1).toNatClampNeg), .int (xs (nI i + 2).toNatClampNeg), .int (xs (nI i + 3).toNatClampNeg)]) (rest := [.int r]) K hA hw (cc_X8_cell l D cy adM _ mS _ (xs (nI i + 1).toNatClampNeg) (xs (nI i + 2).toNatClampNeg) (xs (nI i + 3).toNatClampNeg) hd) lk_L_122 (ci := 8) rfl (q0 := 0) (wsM_at cy adM _ (by decide)) ⟨Nat.le_of_ble_eq_true rfl, Nat.le_of_ble_eq_true rfl⟩ ⟨Nat.le_trans (Nat.le_add_right _ _) hC.1, Nat.le_trans (Nat.le_add_right _ _) hC.2⟩ rfl hl.1 (Nat.le_of_ble_eq_true rfl) rfl dL_law_926 (fun r2 mS2 H locs hd hw => ?_)
  obtain ⟨er, hR2⟩ := hd
  rw [List.append_nil] at hw
  refine W.widen (k := cells + 3) (n := slots + 324) (Nat.le_add_right _ _) (Nat.le_add_right _ _) ?_
  exact lv_icmp_eq (tgt := 1083) K.1 K.2.1 dL_law_929 (by decide) (fun _ => next nt adC u mS2 H locs rfl hR2 hw) (fun h => absurd er h)
theorem law_c26 {p : Program} {l : Launch} {e : Env} {s : State} {m : MethodId} {below : List Frame} {meth : Method} {c : Code} {b L : Nat} {xs : Nat → Int32} {D : va_G} {cy : Nat → ClassId} {X : Nat → Nat} {A : Nat → Prop} {nt : Nat} {adC adM : Nat → Nat} {cS mS : Sg} {i cells slots : Nat} {H : Heap} {locs : List Loc} {ls : Array Slot} (K : Kx p s m #[Value.ref b] meth c code 4 RL D cy) (KX : XC X A s s.heap) (KS : SX s) (hA : ∀ q, s.heap.size ≤ q → A q) (hX : va_X b L xs s s.heap) (hbl : b < s.heap.size) (hbA : ¬ A b) (hC : cells + 3 ≤ 600000 ∧ slots + 324 ≤ 7302250) (hi : i + 6 ≤ L) (hL : L ≤ 3072) (hR : Rel mS cS nt) (hw : Wd D A s.heap (wsC cy nt adC cS ++ wsM cy adM mS) H locs) (hl : lv_has ls 4 [(3, .int (nI i)), (2, .ref (adM 0)), (1, .ref (adC 0)), (0, .ref b)])
    (next : ∀ (nt' : Nat) (adC' : Nat → Nat) (cS' mS' : Sg) (H' : Heap) (locs' : List Loc), adC' 0 = adC 0 → Rel mS' cS' nt' → Wd D A s.heap (wsC cy nt' adC' cS' ++ wsM cy adM mS') H' locs' → W p l e room_1 s m #[Value.ref b] below meth c H' locs' (cells + 3) (slots + 324) (lw_Z below #[Value.ref b] s) (F0 m 1083 ls [])) : W p l e room_1 s m #[Value.ref b] below meth c H locs cells slots (lw_Z below #[Value.ref b] s) (F0 m 934 ls []) := by
  have h1 : vp_in (nI i + 1) L := by rw [show nI i + 1 = nI (i + 1) from nI_add i 1]; exact vp_in_nI (by omega) (by omega)
  have h2 : vp_in (nI i + 2) L := by rw [show nI i + 2 = nI (i + 2) from nI_add i 2]; exact vp_in_nI (by omega) (by omega)
  have h3 : vp_in (nI i + 3) L := by rw [show nI i + 3 = nI (i + 3) from nI_add i 3]; exact vp_in_nI (by omega) (by omega)
  have h4 : vp_in (nI i + 4) L := by rw [show nI i + 4 = nI (i + 4) from nI_add i 4]; exact vp_in_nI (by omega) (by omega)
  have h5 : vp_in (nI i + 5) L := by rw [show nI i + 5 = nI (i + 5) from nI_add i 5]; exact vp_in_nI (by omega) (by omega)
  refine lv_aload_n K.1 K.2.1 dL_law_934 rfl (lv_at hl 2 rfl) ?_
  refine lv_aload_n K.1 K.2.1 dL_law_935 rfl (lv_at hl 3 rfl) ?_
  refine lv_iload_n K.1 K.2.1 dL_law_936 rfl (lv_at hl 0 rfl) ?_
  refine lv_iconst (v := (1 : Int32)) K.1 K.2.1 dL_law_937 (by decide) ?_
  refine lv_iadd K.1 K.2.1 dL_law_938 ?_
  refine va_sld K.1 K.2.1 hX hbl hbA hw.2.2 h1 dL_law_939 ?_
  refine lv_aload_n K.1 K.2.1 dL_law_940 rfl (lv_at hl 3 rfl) ?_
  refine lv_iload_n K.1 K.2.1 dL_law_941 rfl (lv_at hl 0 rfl) ?_
  refine lv_iconst (v := (2 : Int32)) K.1 K.2.1 dL_law_942 (by decide) ?_
  refine lv_iadd K.1 K.2.1 dL_law_943 ?_
  refine va_sld K.1 K.2.1 hX hbl hbA hw.2.2 h2 dL_law_944 ?_
  refine lv_aload_n K.1 K.2.1 dL_law_945 rfl (lv_at hl 3 rfl) ?_
  refine lv_iload_n K.1 K.2.1 dL_law_946 rfl (lv_at hl 0 rfl) ?_
  refine lv_iconst (v := (3 : Int32)) K.1 K.2.1 dL_law_947 (by decide) ?_
  refine lv_iadd K.1 K.2.1 dL_law_948 ?_
  refine va_sld K.1 K.2.1 hX hbl hbA hw.2.2 h3 dL_law_949 ?_
  refine lv_aload_n K.1 K.2.1 dL_law_950 rfl (lv_at hl 3 rfl) ?_
  refine lv_iload_n K.1 K.2.1 dL_law_951 rfl (lv_at hl 0 rfl) ?_
  refine lv_iconst (v := (4 : Int32)) K.1 K.2.1 dL_law_952 (by decide) ?_
  refine lv_iadd K.1 K.2.1 dL_law_953 ?_
  refine va_sld K.1 K.2.1 hX hbl hbA hw.2.2 h4 dL_law_954 ?_
  refine lv_aload_n K.1 K.2.1 dL_law_955 rfl (lv_at hl 3 rfl) ?_
  refine lv_iload_n K.1 K.2.1 dL_law_956 rfl (lv_at hl 0 rfl) ?_
  refine lv_iconst (v := (5 : Int32)) K.1 K.2.1 dL_law_957 (by decide) ?_
  refine lv_iadd K.1 K.2.1 dL_law_958 ?_
  refine va_sld K.1 K.2.1 hX hbl hbA hw.2.2 h5 dL_law_959 ?_
  refine fr_ci (wl := []) (wf := wsC cy nt adC) (wr := wsM cy adM mS) (As := [.int (xs (nI i + 1).toNatClampNeg), .int (xs (nI i + 2).toNatClampNeg), .int (xs (nI i + 3).toNatClampNeg), .int (xs (nI i + 4).toNatClampNeg), .int (xs (nI i + 5).toNatClampNeg)]) (rest := []) K KX hA hw (cc_X7_copy l D cy nt adC _ X cS _ (xs (nI i + 1).toNatClampNeg) (xs (nI i + 2).toNatClampNeg) (xs (nI i + 3).toNatClampNeg) (xs (nI i + 4).toNatClampNeg) (xs (nI i + 5).toNatClampNeg) (eq_copy hR (xs (nI i + 1).toNatClampNeg) (xs (nI i + 2).toNatClampNeg) (xs (nI i + 3).toNatClampNeg) (xs (nI i + 4).toNatClampNeg) (xs (nI i + 5).toNatClampNeg))) lk_L_123 (ci := 7) rfl (wc_O cy nt adC _) ⟨Nat.le_of_ble_eq_true rfl, Nat.le_of_ble_eq_true rfl⟩ ⟨Nat.le_trans (Nat.le_add_right _ _) hC.1, Nat.le_trans (Nat.le_add_right _ _) hC.2⟩ rfl hl.1 (Nat.le_of_ble_eq_true rfl) rfl dL_law_960 (fun r u H locs hd hw => ?_)
  have hw : Wd D A s.heap (wsC cy nt adC u ++ (wsM cy adM mS ++ [])) H locs := by rw [List.append_nil]; exact hw
  refine lv_aload_n K.1 K.2.1 dL_law_963 rfl (lv_at hl 1 rfl) ?_
  refine lv_aload_n K.1 K.2.1 dL_law_964 rfl (lv_at hl 3 rfl) ?_
  refine lv_iload_n K.1 K.2.1 dL_law_965 rfl (lv_at hl 0 rfl) ?_
  refine lv_iconst (v := (1 : Int32)) K.1 K.2.1 dL_law_966 (by decide) ?_
  refine lv_iadd K.1 K.2.1 dL_law_967 ?_
  refine va_sld K.1 K.2.1 hX hbl hbA hw.2.2 h1 dL_law_968 ?_
  refine lv_aload_n K.1 K.2.1 dL_law_969 rfl (lv_at hl 3 rfl) ?_
  refine lv_iload_n K.1 K.2.1 dL_law_970 rfl (lv_at hl 0 rfl) ?_
  refine lv_iconst (v := (2 : Int32)) K.1 K.2.1 dL_law_971 (by decide) ?_
  refine lv_iadd K.1 K.2.1 dL_law_972 ?_
  refine va_sld K.1 K.2.1 hX hbl hbA hw.2.2 h2 dL_law_973 ?_
  refine lv_aload_n K.1 K.2.1 dL_law_974 rfl (lv_at hl 3 rfl) ?_
  refine lv_iload_n K.1 K.2.1 dL_law_975 rfl (lv_at hl 0 rfl) ?_
  refine lv_iconst (v := (3 : Int32)) K.1 K.2.1 dL_law_976 (by decide) ?_
  refine lv_iadd K.1 K.2.1 dL_law_977 ?_
  refine va_sld K.1 K.2.1 hX hbl hbA hw.2.2 h3 dL_law_978 ?_
  refine lv_aload_n K.1 K.2.1 dL_law_979 rfl (lv_at hl 3 rfl) ?_
  refine lv_iload_n K.1 K.2.1 dL_law_980 rfl (lv_at hl 0 rfl) ?_
  refine lv_iconst (v := (4 : Int32)) K.1 K.2.1 dL_law_981 (by decide) ?_
  refine lv_iadd K.1 K.2.1 dL_law_982 ?_
  refine va_sld K.1 K.2.1 hX hbl hbA hw.2.2 h4 dL_law_983 ?_
  refine lv_aload_n K.1 K.2.1 dL_law_984 rfl (lv_at hl 3 rfl) ?_
  refine lv_iload_n K.1 K.2.1 dL_law_985 rfl (lv_at hl 0 rfl) ?_
  refine lv_iconst (v := (5 : Int32)) K.1 K.2.1 dL_law_986 (by decide) ?_
  refine lv_iadd K.1 K.2.1 dL_law_987 ?_
  refine va_sld K.1 K.2.1 hX hbl hbA hw.2.2 h5 dL_law_988 ?_
  refine fr_gi (wl := wsC cy nt adC u) (wf := wsM cy adM) (wr := []) (As := [.int (xs (nI i + 1).toNatClampNeg), .int (xs (nI i + 2).toNatClampNeg), .int (xs (nI i + 3).toNatClampNeg), .int (xs (nI i + 4).toNatClampNeg), .int (xs (nI i + 5).toNatClampNeg)]) (rest := [.int r]) K hA hw (cc_X8_copy l D cy adM _ mS _ (xs (nI i + 1).toNatClampNeg) (xs (nI i + 2).toNatClampNeg) (xs (nI i + 3).toNatClampNeg) (xs (nI i + 4).toNatClampNeg) (xs (nI i + 5).toNatClampNeg) hd) lk_L_127 (ci := 8) rfl (q0 := 0) (wsM_at cy adM _ (by decide)) ⟨Nat.le_of_ble_eq_true rfl, Nat.le_of_ble_eq_true rfl⟩ ⟨Nat.le_trans (Nat.le_add_right _ _) hC.1, Nat.le_trans (Nat.le_add_right _ _) hC.2⟩ rfl hl.1 (Nat.le_of_ble_eq_true rfl) rfl dL_law_989 (fun r2 mS2 H locs hd hw => ?_)
  obtain ⟨er, hR2⟩ := hd
  rw [List.append_nil] at hw
  refine W.widen (k := cells + 3) (n := slots + 324) (Nat.le_add_right _ _) (Nat.le_add_right _ _) ?_
  exact lv_icmp_eq (tgt := 1083) K.1 K.2.1 dL_law_992 (by decide) (fun _ => next nt adC u mS2 H locs rfl hR2 hw) (fun h => absurd er h)
theorem law_c27 {p : Program} {l : Launch} {e : Env} {s : State} {m : MethodId} {below : List Frame} {meth : Method} {c : Code} {b L : Nat} {xs : Nat → Int32} {D : va_G} {cy : Nat → ClassId} {X : Nat → Nat} {A : Nat → Prop} {nt : Nat} {adC adM : Nat → Nat} {cS mS : Sg} {i cells slots : Nat} {H : Heap} {locs : List Loc} {ls : Array Slot} (K : Kx p s m #[Value.ref b] meth c code 4 RL D cy) (KX : XC X A s s.heap) (KS : SX s) (hA : ∀ q, s.heap.size ≤ q → A q) (hX : va_X b L xs s s.heap) (hbl : b < s.heap.size) (hbA : ¬ A b) (hC : cells + 3 ≤ 600000 ∧ slots + 324 ≤ 7302250) (hi : i + 6 ≤ L) (hL : L ≤ 3072) (hR : Rel mS cS nt) (hw : Wd D A s.heap (wsC cy nt adC cS ++ wsM cy adM mS) H locs) (hl : lv_has ls 4 [(3, .int (nI i)), (2, .ref (adM 0)), (1, .ref (adC 0)), (0, .ref b)])
    (next : ∀ (nt' : Nat) (adC' : Nat → Nat) (cS' mS' : Sg) (H' : Heap) (locs' : List Loc), adC' 0 = adC 0 → Rel mS' cS' nt' → Wd D A s.heap (wsC cy nt' adC' cS' ++ wsM cy adM mS') H' locs' → W p l e room_1 s m #[Value.ref b] below meth c H' locs' (cells + 3) (slots + 324) (lw_Z below #[Value.ref b] s) (F0 m 1083 ls [])) : W p l e room_1 s m #[Value.ref b] below meth c H locs cells slots (lw_Z below #[Value.ref b] s) (F0 m 997 ls []) := by
  have h1 : vp_in (nI i + 1) L := by rw [show nI i + 1 = nI (i + 1) from nI_add i 1]; exact vp_in_nI (by omega) (by omega)
  have h2 : vp_in (nI i + 2) L := by rw [show nI i + 2 = nI (i + 2) from nI_add i 2]; exact vp_in_nI (by omega) (by omega)
  have h3 : vp_in (nI i + 3) L := by rw [show nI i + 3 = nI (i + 3) from nI_add i 3]; exact vp_in_nI (by omega) (by omega)
  have h4 : vp_in (nI i + 4) L := by rw [show nI i + 4 = nI (i + 4) from nI_add i 4]; exact vp_in_nI (by omega) (by omega)
  refine lv_aload_n K.1 K.2.1 dL_law_997 rfl (lv_at hl 2 rfl) ?_
  refine lv_aload_n K.1 K.2.1 dL_law_998 rfl (lv_at hl 3 rfl) ?_
  refine lv_iload_n K.1 K.2.1 dL_law_999 rfl (lv_at hl 0 rfl) ?_
  refine lv_iconst (v := (1 : Int32)) K.1 K.2.1 dL_law_1000 (by decide) ?_
  refine lv_iadd K.1 K.2.1 dL_law_1001 ?_
  refine va_sld K.1 K.2.1 hX hbl hbA hw.2.2 h1 dL_law_1002 ?_
  refine lv_aload_n K.1 K.2.1 dL_law_1003 rfl (lv_at hl 3 rfl) ?_
  refine lv_iload_n K.1 K.2.1 dL_law_1004 rfl (lv_at hl 0 rfl) ?_
  refine lv_iconst (v := (2 : Int32)) K.1 K.2.1 dL_law_1005 (by decide) ?_
  refine lv_iadd K.1 K.2.1 dL_law_1006 ?_
  refine va_sld K.1 K.2.1 hX hbl hbA hw.2.2 h2 dL_law_1007 ?_
  refine lv_aload_n K.1 K.2.1 dL_law_1008 rfl (lv_at hl 3 rfl) ?_
  refine lv_iload_n K.1 K.2.1 dL_law_1009 rfl (lv_at hl 0 rfl) ?_
  refine lv_iconst (v := (3 : Int32)) K.1 K.2.1 dL_law_1010 (by decide) ?_
  refine lv_iadd K.1 K.2.1 dL_law_1011 ?_
  refine va_sld K.1 K.2.1 hX hbl hbA hw.2.2 h3 dL_law_1012 ?_
  refine lv_aload_n K.1 K.2.1 dL_law_1013 rfl (lv_at hl 3 rfl) ?_
  refine lv_iload_n K.1 K.2.1 dL_law_1014 rfl (lv_at hl 0 rfl) ?_
  refine lv_iconst (v := (4 : Int32)) K.1 K.2.1 dL_law_1015 (by decide) ?_
  refine lv_iadd K.1 K.2.1 dL_law_1016 ?_
  refine va_sld K.1 K.2.1 hX hbl hbA hw.2.2 h4 dL_law_1017 ?_
  refine fr_ci (wl := []) (wf := wsC cy nt adC) (wr := wsM cy adM mS) (As := [.int (xs (nI i + 1).toNatClampNeg), .int (xs (nI i + 2).toNatClampNeg), .int (xs (nI i + 3).toNatClampNeg), .int (xs (nI i + 4).toNatClampNeg)]) (rest := []) K KX hA hw (cc_X7_papers l D cy nt adC _ X cS _ (xs (nI i + 1).toNatClampNeg) (xs (nI i + 2).toNatClampNeg) (xs (nI i + 3).toNatClampNeg) (xs (nI i + 4).toNatClampNeg) (eq_papers hR (xs (nI i + 1).toNatClampNeg) (xs (nI i + 2).toNatClampNeg) (xs (nI i + 3).toNatClampNeg) (xs (nI i + 4).toNatClampNeg))) lk_L_128 (ci := 7) rfl (wc_O cy nt adC _) ⟨Nat.le_of_ble_eq_true rfl, Nat.le_of_ble_eq_true rfl⟩ ⟨Nat.le_trans (Nat.le_add_right _ _) hC.1, Nat.le_trans (Nat.le_add_right _ _) hC.2⟩ rfl hl.1 (Nat.le_of_ble_eq_true rfl) rfl dL_law_1018 (fun r u H locs hd hw => ?_)
  have hw : Wd D A s.heap (wsC cy nt adC u ++ (wsM cy adM mS ++ [])) H locs := by rw [List.append_nil]; exact hw
  refine lv_aload_n K.1 K.2.1 dL_law_1021 rfl (lv_at hl 1 rfl) ?_
  refine lv_aload_n K.1 K.2.1 dL_law_1022 rfl (lv_at hl 3 rfl) ?_
  refine lv_iload_n K.1 K.2.1 dL_law_1023 rfl (lv_at hl 0 rfl) ?_
  refine lv_iconst (v := (1 : Int32)) K.1 K.2.1 dL_law_1024 (by decide) ?_
  refine lv_iadd K.1 K.2.1 dL_law_1025 ?_
  refine va_sld K.1 K.2.1 hX hbl hbA hw.2.2 h1 dL_law_1026 ?_
  refine lv_aload_n K.1 K.2.1 dL_law_1027 rfl (lv_at hl 3 rfl) ?_
  refine lv_iload_n K.1 K.2.1 dL_law_1028 rfl (lv_at hl 0 rfl) ?_
  refine lv_iconst (v := (2 : Int32)) K.1 K.2.1 dL_law_1029 (by decide) ?_
  refine lv_iadd K.1 K.2.1 dL_law_1030 ?_
  refine va_sld K.1 K.2.1 hX hbl hbA hw.2.2 h2 dL_law_1031 ?_
  refine lv_aload_n K.1 K.2.1 dL_law_1032 rfl (lv_at hl 3 rfl) ?_
  refine lv_iload_n K.1 K.2.1 dL_law_1033 rfl (lv_at hl 0 rfl) ?_
  refine lv_iconst (v := (3 : Int32)) K.1 K.2.1 dL_law_1034 (by decide) ?_
  refine lv_iadd K.1 K.2.1 dL_law_1035 ?_
  refine va_sld K.1 K.2.1 hX hbl hbA hw.2.2 h3 dL_law_1036 ?_
  refine lv_aload_n K.1 K.2.1 dL_law_1037 rfl (lv_at hl 3 rfl) ?_
  refine lv_iload_n K.1 K.2.1 dL_law_1038 rfl (lv_at hl 0 rfl) ?_
  refine lv_iconst (v := (4 : Int32)) K.1 K.2.1 dL_law_1039 (by decide) ?_
  refine lv_iadd K.1 K.2.1 dL_law_1040 ?_
  refine va_sld K.1 K.2.1 hX hbl hbA hw.2.2 h4 dL_law_1041 ?_
  refine fr_gi (wl := wsC cy nt adC u) (wf := wsM cy adM) (wr := []) (As := [.int (xs (nI i + 1).toNatClampNeg), .int (xs (nI i + 2).toNatClampNeg), .int (xs (nI i + 3).toNatClampNeg), .int (xs (nI i + 4).toNatClampNeg)]) (rest := [.int r]) K hA hw (cc_X8_papers l D cy adM _ mS _ (xs (nI i + 1).toNatClampNeg) (xs (nI i + 2).toNatClampNeg) (xs (nI i + 3).toNatClampNeg) (xs (nI i + 4).toNatClampNeg) hd) lk_L_132 (ci := 8) rfl (q0 := 0) (wsM_at cy adM _ (by decide)) ⟨Nat.le_of_ble_eq_true rfl, Nat.le_of_ble_eq_true rfl⟩ ⟨Nat.le_trans (Nat.le_add_right _ _) hC.1, Nat.le_trans (Nat.le_add_right _ _) hC.2⟩ rfl hl.1 (Nat.le_of_ble_eq_true rfl) rfl dL_law_1042 (fun r2 mS2 H locs hd hw => ?_)
  obtain ⟨er, hR2⟩ := hd
  rw [List.append_nil] at hw
  refine W.widen (k := cells + 3) (n := slots + 324) (Nat.le_add_right _ _) (Nat.le_add_right _ _) ?_
  exact lv_icmp_eq (tgt := 1083) K.1 K.2.1 dL_law_1045 (by decide) (fun _ => next nt adC u mS2 H locs rfl hR2 hw) (fun h => absurd er h)
theorem law_c28 {p : Program} {l : Launch} {e : Env} {s : State} {m : MethodId} {below : List Frame} {meth : Method} {c : Code} {b L : Nat} {xs : Nat → Int32} {D : va_G} {cy : Nat → ClassId} {X : Nat → Nat} {A : Nat → Prop} {nt : Nat} {adC adM : Nat → Nat} {cS mS : Sg} {i cells slots : Nat} {H : Heap} {locs : List Loc} {ls : Array Slot} (K : Kx p s m #[Value.ref b] meth c code 4 RL D cy) (KX : XC X A s s.heap) (KS : SX s) (hA : ∀ q, s.heap.size ≤ q → A q) (hX : va_X b L xs s s.heap) (hbl : b < s.heap.size) (hbA : ¬ A b) (hC : cells + 3 ≤ 600000 ∧ slots + 324 ≤ 7302250) (hi : i + 6 ≤ L) (hL : L ≤ 3072) (hR : Rel mS cS nt) (hw : Wd D A s.heap (wsC cy nt adC cS ++ wsM cy adM mS) H locs) (hl : lv_has ls 4 [(3, .int (nI i)), (2, .ref (adM 0)), (1, .ref (adC 0)), (0, .ref b)])
    (next : ∀ (nt' : Nat) (adC' : Nat → Nat) (cS' mS' : Sg) (H' : Heap) (locs' : List Loc), adC' 0 = adC 0 → Rel mS' cS' nt' → Wd D A s.heap (wsC cy nt' adC' cS' ++ wsM cy adM mS') H' locs' → W p l e room_1 s m #[Value.ref b] below meth c H' locs' (cells + 3) (slots + 324) (lw_Z below #[Value.ref b] s) (F0 m 1083 ls [])) : W p l e room_1 s m #[Value.ref b] below meth c H locs cells slots (lw_Z below #[Value.ref b] s) (F0 m 1050 ls []) := by
  have h1 : vp_in (nI i + 1) L := by rw [show nI i + 1 = nI (i + 1) from nI_add i 1]; exact vp_in_nI (by omega) (by omega)
  have h2 : vp_in (nI i + 2) L := by rw [show nI i + 2 = nI (i + 2) from nI_add i 2]; exact vp_in_nI (by omega) (by omega)
  refine lv_aload_n K.1 K.2.1 dL_law_1050 rfl (lv_at hl 2 rfl) ?_
  refine lv_aload_n K.1 K.2.1 dL_law_1051 rfl (lv_at hl 3 rfl) ?_
  refine lv_iload_n K.1 K.2.1 dL_law_1052 rfl (lv_at hl 0 rfl) ?_
  refine lv_iconst (v := (1 : Int32)) K.1 K.2.1 dL_law_1053 (by decide) ?_
  refine lv_iadd K.1 K.2.1 dL_law_1054 ?_
  refine va_sld K.1 K.2.1 hX hbl hbA hw.2.2 h1 dL_law_1055 ?_
  refine lv_aload_n K.1 K.2.1 dL_law_1056 rfl (lv_at hl 3 rfl) ?_
  refine lv_iload_n K.1 K.2.1 dL_law_1057 rfl (lv_at hl 0 rfl) ?_
  refine lv_iconst (v := (2 : Int32)) K.1 K.2.1 dL_law_1058 (by decide) ?_
  refine lv_iadd K.1 K.2.1 dL_law_1059 ?_
  refine va_sld K.1 K.2.1 hX hbl hbA hw.2.2 h2 dL_law_1060 ?_
  refine fr_ci (wl := []) (wf := wsC cy nt adC) (wr := wsM cy adM mS) (As := [.int (xs (nI i + 1).toNatClampNeg), .int (xs (nI i + 2).toNatClampNeg)]) (rest := []) K KX hA hw (cc_X7_taken l D cy nt adC _ X cS _ (xs (nI i + 1).toNatClampNeg) (xs (nI i + 2).toNatClampNeg) (eq_taken hR (xs (nI i + 1).toNatClampNeg) (xs (nI i + 2).toNatClampNeg))) lk_L_133 (ci := 7) rfl (wc_O cy nt adC _) ⟨Nat.le_of_ble_eq_true rfl, Nat.le_of_ble_eq_true rfl⟩ ⟨Nat.le_trans (Nat.le_add_right _ _) hC.1, Nat.le_trans (Nat.le_add_right _ _) hC.2⟩ rfl hl.1 (Nat.le_of_ble_eq_true rfl) rfl dL_law_1061 (fun r u H locs hd hw => ?_)
  have hw : Wd D A s.heap (wsC cy nt adC u ++ (wsM cy adM mS ++ [])) H locs := by rw [List.append_nil]; exact hw
  refine lv_aload_n K.1 K.2.1 dL_law_1064 rfl (lv_at hl 1 rfl) ?_
  refine lv_aload_n K.1 K.2.1 dL_law_1065 rfl (lv_at hl 3 rfl) ?_
  refine lv_iload_n K.1 K.2.1 dL_law_1066 rfl (lv_at hl 0 rfl) ?_
  refine lv_iconst (v := (1 : Int32)) K.1 K.2.1 dL_law_1067 (by decide) ?_
  refine lv_iadd K.1 K.2.1 dL_law_1068 ?_
  refine va_sld K.1 K.2.1 hX hbl hbA hw.2.2 h1 dL_law_1069 ?_
  refine lv_aload_n K.1 K.2.1 dL_law_1070 rfl (lv_at hl 3 rfl) ?_
  refine lv_iload_n K.1 K.2.1 dL_law_1071 rfl (lv_at hl 0 rfl) ?_
  refine lv_iconst (v := (2 : Int32)) K.1 K.2.1 dL_law_1072 (by decide) ?_
  refine lv_iadd K.1 K.2.1 dL_law_1073 ?_
  refine va_sld K.1 K.2.1 hX hbl hbA hw.2.2 h2 dL_law_1074 ?_
  refine fr_gi (wl := wsC cy nt adC u) (wf := wsM cy adM) (wr := []) (As := [.int (xs (nI i + 1).toNatClampNeg), .int (xs (nI i + 2).toNatClampNeg)]) (rest := [.int r]) K hA hw (cc_X8_taken l D cy adM _ mS _ (xs (nI i + 1).toNatClampNeg) (xs (nI i + 2).toNatClampNeg) hd) lk_L_136 (ci := 8) rfl (q0 := 0) (wsM_at cy adM _ (by decide)) ⟨Nat.le_of_ble_eq_true rfl, Nat.le_of_ble_eq_true rfl⟩ ⟨Nat.le_trans (Nat.le_add_right _ _) hC.1, Nat.le_trans (Nat.le_add_right _ _) hC.2⟩ rfl hl.1 (Nat.le_of_ble_eq_true rfl) rfl dL_law_1075 (fun r2 mS2 H locs hd hw => ?_)
  obtain ⟨er, hR2⟩ := hd
  rw [List.append_nil] at hw
  refine W.widen (k := cells + 3) (n := slots + 324) (Nat.le_add_right _ _) (Nat.le_add_right _ _) ?_
  exact lv_icmp_eq (tgt := 1083) K.1 K.2.1 dL_law_1078 (by decide) (fun _ => next nt adC u mS2 H locs rfl hR2 hw) (fun h => absurd er h)
end
