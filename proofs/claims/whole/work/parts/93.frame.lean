section
/-! ===== calls of what makes no cells, in a world cut in three ===== -/
section FR
variable {p : Program} {l : Launch} {e : Env} {R : Room} {s : State} {m : MethodId} {args : Array Value} {below : List Frame} {meth : Method} {c : Code} {H : Heap} {locs : List Loc} {cells slots : Nat} {Q : State → Prop}
  {pc : Nat} {ls : Array Slot} {rest st0 : List Value} {cc : ByteArray} {nL : Nat} {own : String} {D : va_G} {cy : Nat → ClassId} {A : Nat → Prop} {X : Nat → Nat} {wf : Sg → va_W} {σ : Sg} {wl wr : va_W}
theorem fr_ci {idx : Nat} {y : MethodName} {cb : ByteArray} {mL n : Nat} {ret : Option FieldType} {d : Nat} {a q0 ci : Nat} {q : vw_C} {fs : List Value} {As : List Value} {P : Int32 → Sg → Prop}
    (K : Kx p s m args meth c cc nL own D cy) (KX : XC X A s s.heap) (hA : ∀ q, s.heap.size ≤ q → A q) (hw : Wd D A s.heap (wl ++ (wf σ ++ wr)) H locs)
    (hM : Met l y (Cond.code y cb mL ret :: TT) (rmD d) (va_Pc (.ref a :: As) (PreC wf D cy (va_A (wf σ) H.size) X σ)) (va_Qi P (PostG wf D (va_A (wf σ) H.size)) (va_A (wf σ) H.size)) 0 0 (va_A (wf σ) H.size))
    (L : LkV own idx q.1 y cb mL ret n) (hc : rk_cl[ci]? = some q) (he : (wf σ)[q0]? = some (a, .inr (ci, fs)))
    (hR : d + 1 ≤ R.frames ∧ 8 + (mL + 11) + 60 * d ≤ R.locals) (hC : cells ≤ R.cells ∧ slots ≤ R.slots) (hn : As.length = n) (hls : ls.size = nL) (hst : (rest.map fun v => v.category).sum ≤ 8)
    (hs0 : st0 = As.reverse ++ .ref a :: rest) (hdg : decode cc pc = .ok (.invokevirtual idx, 3))
    (kk : ∀ (r : Int32) (u : Sg) (H1 : Heap) (locs1 : List Loc), P r u → Wd D A s.heap (wl ++ (wf u ++ wr)) H1 locs1 → W p l e R s m args below meth c H1 locs1 cells slots Q (F0 m (pc + 3) ls (.int r :: rest))) : W p l e R s m args below meth c H locs cells slots Q (F0 m pc ls st0) := by
  subst hs0
  obtain ⟨hx, hb, hml, hown, hts, hK, -⟩ := id K
  have hF := vz_F hw.2.1 hw.2.2 hA
  refine va_calli (cells := cells) (slots := slots) (A1 := va_A (wf σ) H.size) (va_runV (As := As) (rest := rest) ⟨hx, hb, hml, hown, hts⟩ hM (rk_cwV K L hR) ⟨rkc_blind, va_recv hK (vz_c hw.1) hc he, fun U hU hW => ⟨rfl, ⟨by rw [hU]; exact vz_c hw.1, va_K.moved hW.alike hK, vz_d hw.2.1⟩, (KX.step hw.2.2 hU hW).narrow hF⟩⟩ rfl hn hls rfl (lv_room hst) hdg hC) hw.2.2 (fun q _ h => hF q h) hF (fun r u t H1 locs1 ht hvm hq hB hz hk hS => ?_)
  obtain ⟨hP, hD⟩ := va_joinM hw.1 hw.2.1 hk hF (by rw [← ht]; exact hB.1) hB.2
  exact kk r u H1 locs1 hq ⟨hP, hD, hS⟩
theorem fr_gi {idx : Nat} {y : MethodName} {cb : ByteArray} {mL n : Nat} {ret : Option FieldType} {d : Nat} {a q0 ci : Nat} {q : vw_C} {fs : List Value} {As : List Value} {P : Int32 → Sg → Prop}
    (K : Kx p s m args meth c cc nL own D cy) (hA : ∀ q, s.heap.size ≤ q → A q) (hw : Wd D A s.heap (wl ++ (wf σ ++ wr)) H locs)
    (hM : Met l y (Cond.code y cb mL ret :: TT) (rmD d) (va_Pc (.ref a :: As) (PreG wf D cy (va_A (wf σ) H.size) σ)) (va_Qi P (PostG wf D (va_A (wf σ) H.size)) (va_A (wf σ) H.size)) 0 0 (va_A (wf σ) H.size))
    (L : LkV own idx q.1 y cb mL ret n) (hc : rk_cl[ci]? = some q) (he : (wf σ)[q0]? = some (a, .inr (ci, fs)))
    (hR : d + 1 ≤ R.frames ∧ 8 + (mL + 11) + 60 * d ≤ R.locals) (hC : cells ≤ R.cells ∧ slots ≤ R.slots) (hn : As.length = n) (hls : ls.size = nL) (hst : (rest.map fun v => v.category).sum ≤ 8)
    (hs0 : st0 = As.reverse ++ .ref a :: rest) (hdg : decode cc pc = .ok (.invokevirtual idx, 3))
    (kk : ∀ (r : Int32) (u : Sg) (H1 : Heap) (locs1 : List Loc), P r u → Wd D A s.heap (wl ++ (wf u ++ wr)) H1 locs1 → W p l e R s m args below meth c H1 locs1 cells slots Q (F0 m (pc + 3) ls (.int r :: rest))) : W p l e R s m args below meth c H locs cells slots Q (F0 m pc ls st0) := by
  subst hs0
  obtain ⟨hx, hb, hml, hown, hts, hK, -⟩ := id K
  have hF := vz_F hw.2.1 hw.2.2 hA
  refine va_calli (cells := cells) (slots := slots) (A1 := va_A (wf σ) H.size) (va_runV (As := As) (rest := rest) ⟨hx, hb, hml, hown, hts⟩ hM (rk_cwV K L hR) ⟨rk_blind, va_recv hK (vz_c hw.1) hc he, fun U hU hW => ⟨rfl, by rw [hU]; exact vz_c hw.1, va_K.moved hW.alike hK, vz_d hw.2.1⟩⟩ rfl hn hls rfl (lv_room hst) hdg hC) hw.2.2 (fun q _ h => hF q h) hF (fun r u t H1 locs1 ht hvm hq hB hz hk hS => ?_)
  obtain ⟨hP, hD⟩ := va_joinM hw.1 hw.2.1 hk hF (by rw [← ht]; exact hB.1) hB.2
  exact kk r u H1 locs1 hq ⟨hP, hD, hS⟩
theorem fr_cl {idx : Nat} {y : MethodName} {cb : ByteArray} {mL n : Nat} {ret : Option FieldType} {d : Nat} {a q0 ci : Nat} {q : vw_C} {fs : List Value} {As : List Value} {P : Int64 → Sg → Prop}
    (K : Kx p s m args meth c cc nL own D cy) (KX : XC X A s s.heap) (hA : ∀ q, s.heap.size ≤ q → A q) (hw : Wd D A s.heap (wl ++ (wf σ ++ wr)) H locs)
    (hM : Met l y (Cond.code y cb mL ret :: TT) (rmD d) (va_Pc (.ref a :: As) (PreC wf D cy (va_A (wf σ) H.size) X σ)) (va_Ql P (PostG wf D (va_A (wf σ) H.size)) (va_A (wf σ) H.size)) 0 0 (va_A (wf σ) H.size))
    (L : LkV own idx q.1 y cb mL ret n) (hc : rk_cl[ci]? = some q) (he : (wf σ)[q0]? = some (a, .inr (ci, fs)))
    (hR : d + 1 ≤ R.frames ∧ 8 + (mL + 11) + 60 * d ≤ R.locals) (hC : cells ≤ R.cells ∧ slots ≤ R.slots) (hn : As.length = n) (hls : ls.size = nL) (hst : (rest.map fun v => v.category).sum ≤ 8)
    (hs0 : st0 = As.reverse ++ .ref a :: rest) (hdg : decode cc pc = .ok (.invokevirtual idx, 3))
    (kk : ∀ (r : Int64) (u : Sg) (H1 : Heap) (locs1 : List Loc), P r u → Wd D A s.heap (wl ++ (wf u ++ wr)) H1 locs1 → W p l e R s m args below meth c H1 locs1 cells slots Q (F0 m (pc + 3) ls (.long r :: rest))) : W p l e R s m args below meth c H locs cells slots Q (F0 m pc ls st0) := by
  subst hs0
  obtain ⟨hx, hb, hml, hown, hts, hK, -⟩ := id K
  have hF := vz_F hw.2.1 hw.2.2 hA
  refine va_calll (cells := cells) (slots := slots) (A1 := va_A (wf σ) H.size) (va_runV (As := As) (rest := rest) ⟨hx, hb, hml, hown, hts⟩ hM (rk_cwV K L hR) ⟨rkc_blind, va_recv hK (vz_c hw.1) hc he, fun U hU hW => ⟨rfl, ⟨by rw [hU]; exact vz_c hw.1, va_K.moved hW.alike hK, vz_d hw.2.1⟩, (KX.step hw.2.2 hU hW).narrow hF⟩⟩ rfl hn hls rfl (lv_room hst) hdg hC) hw.2.2 (fun q _ h => hF q h) hF (fun r u t H1 locs1 ht hvm hq hB hz hk hS => ?_)
  obtain ⟨hP, hD⟩ := va_joinM hw.1 hw.2.1 hk hF (by rw [← ht]; exact hB.1) hB.2
  exact kk r u H1 locs1 hq ⟨hP, hD, hS⟩
theorem fr_gl {idx : Nat} {y : MethodName} {cb : ByteArray} {mL n : Nat} {ret : Option FieldType} {d : Nat} {a q0 ci : Nat} {q : vw_C} {fs : List Value} {As : List Value} {P : Int64 → Sg → Prop}
    (K : Kx p s m args meth c cc nL own D cy) (hA : ∀ q, s.heap.size ≤ q → A q) (hw : Wd D A s.heap (wl ++ (wf σ ++ wr)) H locs)
    (hM : Met l y (Cond.code y cb mL ret :: TT) (rmD d) (va_Pc (.ref a :: As) (PreG wf D cy (va_A (wf σ) H.size) σ)) (va_Ql P (PostG wf D (va_A (wf σ) H.size)) (va_A (wf σ) H.size)) 0 0 (va_A (wf σ) H.size))
    (L : LkV own idx q.1 y cb mL ret n) (hc : rk_cl[ci]? = some q) (he : (wf σ)[q0]? = some (a, .inr (ci, fs)))
    (hR : d + 1 ≤ R.frames ∧ 8 + (mL + 11) + 60 * d ≤ R.locals) (hC : cells ≤ R.cells ∧ slots ≤ R.slots) (hn : As.length = n) (hls : ls.size = nL) (hst : (rest.map fun v => v.category).sum ≤ 8)
    (hs0 : st0 = As.reverse ++ .ref a :: rest) (hdg : decode cc pc = .ok (.invokevirtual idx, 3))
    (kk : ∀ (r : Int64) (u : Sg) (H1 : Heap) (locs1 : List Loc), P r u → Wd D A s.heap (wl ++ (wf u ++ wr)) H1 locs1 → W p l e R s m args below meth c H1 locs1 cells slots Q (F0 m (pc + 3) ls (.long r :: rest))) : W p l e R s m args below meth c H locs cells slots Q (F0 m pc ls st0) := by
  subst hs0
  obtain ⟨hx, hb, hml, hown, hts, hK, -⟩ := id K
  have hF := vz_F hw.2.1 hw.2.2 hA
  refine va_calll (cells := cells) (slots := slots) (A1 := va_A (wf σ) H.size) (va_runV (As := As) (rest := rest) ⟨hx, hb, hml, hown, hts⟩ hM (rk_cwV K L hR) ⟨rk_blind, va_recv hK (vz_c hw.1) hc he, fun U hU hW => ⟨rfl, by rw [hU]; exact vz_c hw.1, va_K.moved hW.alike hK, vz_d hw.2.1⟩⟩ rfl hn hls rfl (lv_room hst) hdg hC) hw.2.2 (fun q _ h => hF q h) hF (fun r u t H1 locs1 ht hvm hq hB hz hk hS => ?_)
  obtain ⟨hP, hD⟩ := va_joinM hw.1 hw.2.1 hk hF (by rw [← ht]; exact hB.1) hB.2
  exact kk r u H1 locs1 hq ⟨hP, hD, hS⟩
theorem fr_cv {idx : Nat} {y : MethodName} {cb : ByteArray} {mL n : Nat} {ret : Option FieldType} {d : Nat} {a q0 ci : Nat} {q : vw_C} {fs : List Value} {As : List Value} {P : Sg → Prop}
    (K : Kx p s m args meth c cc nL own D cy) (KX : XC X A s s.heap) (hA : ∀ q, s.heap.size ≤ q → A q) (hw : Wd D A s.heap (wl ++ (wf σ ++ wr)) H locs)
    (hM : Met l y (Cond.code y cb mL ret :: TT) (rmD d) (va_Pc (.ref a :: As) (PreC wf D cy (va_A (wf σ) H.size) X σ)) (va_Qv P (PostG wf D (va_A (wf σ) H.size)) (va_A (wf σ) H.size)) 0 0 (va_A (wf σ) H.size))
    (L : LkV own idx q.1 y cb mL ret n) (hc : rk_cl[ci]? = some q) (he : (wf σ)[q0]? = some (a, .inr (ci, fs)))
    (hR : d + 1 ≤ R.frames ∧ 8 + (mL + 11) + 60 * d ≤ R.locals) (hC : cells ≤ R.cells ∧ slots ≤ R.slots) (hn : As.length = n) (hls : ls.size = nL) (hst : (rest.map fun v => v.category).sum ≤ 8)
    (hs0 : st0 = As.reverse ++ .ref a :: rest) (hdg : decode cc pc = .ok (.invokevirtual idx, 3))
    (kk : ∀ (u : Sg) (H1 : Heap) (locs1 : List Loc), P u → Wd D A s.heap (wl ++ (wf u ++ wr)) H1 locs1 → W p l e R s m args below meth c H1 locs1 cells slots Q (F0 m (pc + 3) ls (rest))) : W p l e R s m args below meth c H locs cells slots Q (F0 m pc ls st0) := by
  subst hs0
  obtain ⟨hx, hb, hml, hown, hts, hK, -⟩ := id K
  have hF := vz_F hw.2.1 hw.2.2 hA
  refine va_callv (cells := cells) (slots := slots) (A1 := va_A (wf σ) H.size) (va_runV (As := As) (rest := rest) ⟨hx, hb, hml, hown, hts⟩ hM (rk_cwV K L hR) ⟨rkc_blind, va_recv hK (vz_c hw.1) hc he, fun U hU hW => ⟨rfl, ⟨by rw [hU]; exact vz_c hw.1, va_K.moved hW.alike hK, vz_d hw.2.1⟩, (KX.step hw.2.2 hU hW).narrow hF⟩⟩ rfl hn hls rfl (lv_room hst) hdg hC) hw.2.2 (fun q _ h => hF q h) hF (fun u t H1 locs1 ht hvm hq hB hz hk hS => ?_)
  obtain ⟨hP, hD⟩ := va_joinM hw.1 hw.2.1 hk hF (by rw [← ht]; exact hB.1) hB.2
  exact kk u H1 locs1 hq ⟨hP, hD, hS⟩
theorem fr_gv {idx : Nat} {y : MethodName} {cb : ByteArray} {mL n : Nat} {ret : Option FieldType} {d : Nat} {a q0 ci : Nat} {q : vw_C} {fs : List Value} {As : List Value} {P : Sg → Prop}
    (K : Kx p s m args meth c cc nL own D cy) (hA : ∀ q, s.heap.size ≤ q → A q) (hw : Wd D A s.heap (wl ++ (wf σ ++ wr)) H locs)
    (hM : Met l y (Cond.code y cb mL ret :: TT) (rmD d) (va_Pc (.ref a :: As) (PreG wf D cy (va_A (wf σ) H.size) σ)) (va_Qv P (PostG wf D (va_A (wf σ) H.size)) (va_A (wf σ) H.size)) 0 0 (va_A (wf σ) H.size))
    (L : LkV own idx q.1 y cb mL ret n) (hc : rk_cl[ci]? = some q) (he : (wf σ)[q0]? = some (a, .inr (ci, fs)))
    (hR : d + 1 ≤ R.frames ∧ 8 + (mL + 11) + 60 * d ≤ R.locals) (hC : cells ≤ R.cells ∧ slots ≤ R.slots) (hn : As.length = n) (hls : ls.size = nL) (hst : (rest.map fun v => v.category).sum ≤ 8)
    (hs0 : st0 = As.reverse ++ .ref a :: rest) (hdg : decode cc pc = .ok (.invokevirtual idx, 3))
    (kk : ∀ (u : Sg) (H1 : Heap) (locs1 : List Loc), P u → Wd D A s.heap (wl ++ (wf u ++ wr)) H1 locs1 → W p l e R s m args below meth c H1 locs1 cells slots Q (F0 m (pc + 3) ls (rest))) : W p l e R s m args below meth c H locs cells slots Q (F0 m pc ls st0) := by
  subst hs0
  obtain ⟨hx, hb, hml, hown, hts, hK, -⟩ := id K
  have hF := vz_F hw.2.1 hw.2.2 hA
  refine va_callv (cells := cells) (slots := slots) (A1 := va_A (wf σ) H.size) (va_runV (As := As) (rest := rest) ⟨hx, hb, hml, hown, hts⟩ hM (rk_cwV K L hR) ⟨rk_blind, va_recv hK (vz_c hw.1) hc he, fun U hU hW => ⟨rfl, by rw [hU]; exact vz_c hw.1, va_K.moved hW.alike hK, vz_d hw.2.1⟩⟩ rfl hn hls rfl (lv_room hst) hdg hC) hw.2.2 (fun q _ h => hF q h) hF (fun u t H1 locs1 ht hvm hq hB hz hk hS => ?_)
  obtain ⟨hP, hD⟩ := va_joinM hw.1 hw.2.1 hk hF (by rw [← ht]; exact hB.1) hB.2
  exact kk u H1 locs1 hq ⟨hP, hD, hS⟩
end FR
/-- another order, other words of a cell -/
def PkW (D : va_G) (H : Heap) (ws : va_W) : List Nat → va_W → Prop
  | [], [] => True
  | i :: is, q' :: ws' => (∃ q, ws[i]? = some q ∧ q'.1 = q.1 ∧ (va_at D rk_cl q H → va_at D rk_cl q' H)) ∧ PkW D H ws is ws'
  | _, _ => False
theorem PkW.get {D : va_G} {H : Heap} {ws : va_W} : ∀ (is : List Nat) (ws' : va_W), PkW D H ws is ws' → ∀ (k : Nat) (q' : Nat × va_E), ws'[k]? = some q' → ∃ i q, is[k]? = some i ∧ ws[i]? = some q ∧ q'.1 = q.1 ∧ (va_at D rk_cl q H → va_at D rk_cl q' H)
  | [], [], _, k, q', hk => by simp at hk
  | [], _ :: _, h, _, _, _ => h.elim
  | _ :: _, [], _, k, q', hk => by simp at hk
  | i :: is, x :: ws', h, 0, q', hk => by
    obtain ⟨⟨q, h1, h2, h3⟩, -⟩ := h
    obtain rfl : x = q' := by simpa using hk
    exact ⟨i, q, rfl, h1, h2, h3⟩
  | i :: is, x :: ws', h, k + 1, q', hk => by
    obtain ⟨j, q, h1, h2⟩ := PkW.get is ws' h.2 k q' (by simpa using hk)
    exact ⟨j, q, by simpa using h1, h2⟩
theorem Wd.pick {D : va_G} {A : Nat → Prop} {H0 H : Heap} {ws ws' : va_W} {locs : List Loc} (hw : Wd D A H0 ws H locs) (is : List Nat) (hn : va_nd is = true) (h : PkW D H ws is ws') : Wd D A H0 ws' H locs := by
  refine ⟨fun k q' hk => ?_, ⟨fun i j p q hi hj e => ?_, fun k q' hk => ?_⟩, hw.2.2⟩
  · obtain ⟨i, q, g0, g1, g2, g3⟩ := PkW.get is ws' h k q' hk
    exact g3 (hw.1 i q g1)
  · obtain ⟨i1, p1, a0, a1, a2, -⟩ := PkW.get is ws' h i p hi
    obtain ⟨j1, q1, b0, b1, b2, -⟩ := PkW.get is ws' h j q hj
    have e1 : i1 = j1 := hw.2.1.1 i1 j1 p1 q1 a1 b1 (by rw [← a2, ← b2]; exact e)
    exact va_nd_inj is hn i j i1 a0 (by rw [e1]; exact b0)
  · obtain ⟨i, q, g0, g1, g2, -⟩ := PkW.get is ws' h k q' hk
    rw [g2]; exact hw.2.1.2 i q g1
end
