/-! ===== what nobody writes: the three tables of the class, its texts; and rows over its world ===== -/
def tL (j : Nat) : Int32 := ([0, 1, 0, -9, 0, 0, 0, 0] : List Int32).getD j 0
def tG (j : Nat) : Int32 := ([999, 999, 9, 9, 3, 99, 1, 5] : List Int32).getD j 0
def tA (j : Nat) : Int32 := ([-1, 0, 0, 1, 2, 0] : List Int32).getD j 0
def sO (i : Nat) : String := (["OppositionInBaskets", "OppositionInBaskets$Tape", "OppositionInBaskets$Tape", "OppositionInBaskets$Tape", "OppositionInBaskets$Tape", "OppositionInBaskets$Tape", "OppositionInBaskets$Tape", "OppositionInBaskets$Tape", "OppositionInBaskets$Tape", "OppositionInBaskets$Tape", "OppositionInBaskets$Tape", "OppositionInBaskets$Tape", "OppositionInBaskets$Tape"] : List String).getD i ""
def sI (i : Nat) : Nat := ([64, 67, 73, 75, 77, 79, 81, 83, 85, 87, 89, 91, 93] : List Nat).getD i 0
def sT (i : Nat) : String := (["feels mood ; weighs 1 + number ; smooths 5 ;", "crumpled", "number", "topic", "mood", "day", "desk", "feels", "weighs", "smooths", "or", "and", "not"] : List String).getD i ""
def sN : List Nat := [44, 8, 6, 5, 4, 3, 4, 5, 6, 7, 2, 3, 3]
def sB : List (List Int32) := [[102, 101, 101, 108, 115, 32, 109, 111, 111, 100, 32, 59, 32, 119, 101, 105, 103, 104, 115, 32, 49, 32, 43, 32, 110, 117, 109, 98, 101, 114, 32, 59, 32, 115, 109, 111, 111, 116, 104, 115, 32, 53, 32, 59], [99, 114, 117, 109, 112, 108, 101, 100], [110, 117, 109, 98, 101, 114], [116, 111, 112, 105, 99], [109, 111, 111, 100], [100, 97, 121], [100, 101, 115, 107], [102, 101, 101, 108, 115], [119, 101, 105, 103, 104, 115], [115, 109, 111, 111, 116, 104, 115], [111, 114], [97, 110, 100], [110, 111, 116]]
def XC (X : Nat → Nat) (A : Nat → Prop) (U : State) (H : Heap) : Prop :=
  va_Z RX7 "LEAST" "[I" (.ref (X 0)) A U H ∧ va_Z RX7 "GREATEST" "[I" (.ref (X 1)) A U H ∧ va_Z RX7 "ABOVE" "[I" (.ref (X 2)) A U H ∧
  va_T .int (X 0) 8 (fun j => .int (tL j)) A U H ∧ va_T .int (X 1) 8 (fun j => .int (tG j)) A U H ∧ va_T .int (X 2) 6 (fun j => .int (tA j)) A U H ∧
  vk_S 13 sN sB (fun i => X (10 + i)) (fun i => X (30 + i)) A U H ∧ (∀ i, i < 13 → vk_R (sO i) (sI i) (sT i) (X (10 + i)) U) ∧
  va_Z "java/lang/String" "COMPACT_STRINGS" "Z" (.int 1) A U H ∧ va_Zq "jdk/internal/util/Preconditions" "SIOOBE_FORMATTER" "Ljava/util/function/BiFunction;" A U H
theorem XC.step {X : Nat → Nat} {A : Nat → Prop} {s U : State} {H : Heap} {locs : List Loc} (h : XC X A s s.heap) (hS : va_S A s.heap H locs) (hU : U.heap = H) (hW : s.WarmedH U.vm) : XC X A U U.heap := by
  obtain ⟨h1, h2, h3, h4, h5, h6, h7, h8, h9, h10⟩ := h
  have k := hS.2.1
  have a := hW.alike
  rw [hU]
  exact ⟨(h1.kept k).moved a, (h2.kept k).moved a, (h3.kept k).moved a, (h4.kept k).moved a, (h5.kept k).moved a, (h6.kept k).moved a, (h7.kept k).moved a, fun i hi => (h8 i hi).warm hW, (h9.kept k).moved a, (h10.kept k).moved a⟩
theorem XC.call {X : Nat → Nat} {A : Nat → Prop} {U : State} {g : JFrame} {mk : MethodId} {a : Array Value} (h : XC X A U U.heap) : XC X A (U.calling g mk a) (U.calling g mk a).heap := by
  obtain ⟨h1, h2, h3, h4, h5, h6, h7, h8, h9, h10⟩ := h
  have al : U.vm.Alike (U.calling g mk a).vm := Vm.Alike.refl U.vm
  exact ⟨h1.moved al, h2.moved al, h3.moved al, h4.moved al, h5.moved al, h6.moved al, h7.moved al, fun i hi => (h8 i hi).same rfl, h9.moved al, h10.moved al⟩
def PreC (wf : Sg → va_W) (D : va_G) (cy : Nat → ClassId) (A : Nat → Prop) (X : Nat → Nat) (σ : Sg) (U : State) : Prop := PreG wf D cy A σ U ∧ XC X A U U.heap
theorem rkc_blind {av : List Value} {wf : Sg → va_W} {D : va_G} {cy : Nat → ClassId} {A : Nat → Prop} {X : Nat → Nat} {σ : Sg} : FrameBlind (va_Pc av (PreC wf D cy A X σ)) := fun a U g mk q => by
  obtain ⟨q0, ⟨qP, qK, qD⟩, qX⟩ := q
  exact ⟨q0, ⟨qP, va_K.moved (u := U) (U := U.calling g mk a) (Vm.Alike.refl U.vm) qK, qD⟩, qX.call⟩
section RKC
variable {p : Program} {l : Launch} {e : Env} {R : Room} {s : State} {m : MethodId} {args : Array Value} {below : List Frame} {meth : Method} {c : Code} {H : Heap} {locs : List Loc} {cells slots : Nat} {Q : State → Prop}
  {pc : Nat} {ls : Array Slot} {rest : List Value} {cc : ByteArray} {nL : Nat} {own : String} {D : va_G} {cy : Nat → ClassId} {A : Nat → Prop} {H0 : Heap} {wf : Sg → va_W} {σ : Sg} {X : Nat → Nat}
theorem rkc_vi {idx : Nat} {y : MethodName} {cb : ByteArray} {mL n : Nat} {ret : Option FieldType} {d : Nat} {a q0 ci : Nat} {q : vw_C} {fs : List Value} {As : List Value} {P : Int32 → Sg → Prop}
    (K : Kx p s m args meth c cc nL own D cy) (KX : XC X A s s.heap) (hw : Wd D A s.heap (wf σ) H locs)
    (hM : Met l y (Cond.code y cb mL ret :: TT) (rmD d) (va_Pc (.ref a :: As) (PreC wf D cy A X σ)) (va_Qi P (PostG wf D A) A) 0 0 A)
    (L : LkV own idx q.1 y cb mL ret n) (hc : rk_cl[ci]? = some q) (he : (wf σ)[q0]? = some (a, .inr (ci, fs)))
    (hR : d + 1 ≤ R.frames ∧ 8 + (mL + 11) + 60 * d ≤ R.locals) (hC : cells ≤ R.cells ∧ slots ≤ R.slots) (hn : As.length = n) (hls : ls.size = nL) (hst : (rest.map fun v => v.category).sum ≤ 8)
    {st0 : List Value} (hs0 : st0 = As.reverse ++ .ref a :: rest) (hdg : decode cc pc = .ok (.invokevirtual idx, 3))
    (kk : ∀ (r : Int32) (u : Sg) (H1 : Heap) (locs1 : List Loc), P r u → Wd D A s.heap (wf u) H1 locs1 → W p l e R s m args below meth c H1 locs1 cells slots Q (F0 m (pc + 3) ls (.int r :: rest))) : W p l e R s m args below meth c H locs cells slots Q (F0 m pc ls st0) := by
  subst hs0
  obtain ⟨hx, hb, hml, hown, hts, hK, -⟩ := id K
  refine va_calli (cells := cells) (slots := slots) (A1 := A) (va_runV (As := As) (rest := rest) ⟨hx, hb, hml, hown, hts⟩ hM (rk_cwV K L hR) ⟨rkc_blind, va_recv hK hw.1 hc he, fun U hU hW => ⟨rfl, ⟨by rw [hU]; exact hw.1, va_K.moved hW.alike hK, hw.2.1⟩, KX.step hw.2.2 hU hW⟩⟩ rfl hn hls rfl (lv_room hst) hdg hC) hw.2.2 (fun q _ h => h) (fun q h => h) (fun r u t H1 locs1 ht hvm hq hB hz hk hS => ?_)
  exact kk r u H1 locs1 hq ⟨by rw [← ht]; exact hB.1, hB.2, hS⟩
theorem rkc_vl {idx : Nat} {y : MethodName} {cb : ByteArray} {mL n : Nat} {ret : Option FieldType} {d : Nat} {a q0 ci : Nat} {q : vw_C} {fs : List Value} {As : List Value} {P : Int64 → Sg → Prop}
    (K : Kx p s m args meth c cc nL own D cy) (KX : XC X A s s.heap) (hw : Wd D A s.heap (wf σ) H locs)
    (hM : Met l y (Cond.code y cb mL ret :: TT) (rmD d) (va_Pc (.ref a :: As) (PreC wf D cy A X σ)) (va_Ql P (PostG wf D A) A) 0 0 A)
    (L : LkV own idx q.1 y cb mL ret n) (hc : rk_cl[ci]? = some q) (he : (wf σ)[q0]? = some (a, .inr (ci, fs)))
    (hR : d + 1 ≤ R.frames ∧ 8 + (mL + 11) + 60 * d ≤ R.locals) (hC : cells ≤ R.cells ∧ slots ≤ R.slots) (hn : As.length = n) (hls : ls.size = nL) (hst : (rest.map fun v => v.category).sum ≤ 8)
    {st0 : List Value} (hs0 : st0 = As.reverse ++ .ref a :: rest) (hdg : decode cc pc = .ok (.invokevirtual idx, 3))
    (kk : ∀ (r : Int64) (u : Sg) (H1 : Heap) (locs1 : List Loc), P r u → Wd D A s.heap (wf u) H1 locs1 → W p l e R s m args below meth c H1 locs1 cells slots Q (F0 m (pc + 3) ls (.long r :: rest))) : W p l e R s m args below meth c H locs cells slots Q (F0 m pc ls st0) := by
  subst hs0
  obtain ⟨hx, hb, hml, hown, hts, hK, -⟩ := id K
  refine va_calll (cells := cells) (slots := slots) (A1 := A) (va_runV (As := As) (rest := rest) ⟨hx, hb, hml, hown, hts⟩ hM (rk_cwV K L hR) ⟨rkc_blind, va_recv hK hw.1 hc he, fun U hU hW => ⟨rfl, ⟨by rw [hU]; exact hw.1, va_K.moved hW.alike hK, hw.2.1⟩, KX.step hw.2.2 hU hW⟩⟩ rfl hn hls rfl (lv_room hst) hdg hC) hw.2.2 (fun q _ h => h) (fun q h => h) (fun r u t H1 locs1 ht hvm hq hB hz hk hS => ?_)
  exact kk r u H1 locs1 hq ⟨by rw [← ht]; exact hB.1, hB.2, hS⟩
theorem rkc_vv {idx : Nat} {y : MethodName} {cb : ByteArray} {mL n : Nat} {ret : Option FieldType} {d : Nat} {a q0 ci : Nat} {q : vw_C} {fs : List Value} {As : List Value} {P : Sg → Prop}
    (K : Kx p s m args meth c cc nL own D cy) (KX : XC X A s s.heap) (hw : Wd D A s.heap (wf σ) H locs)
    (hM : Met l y (Cond.code y cb mL ret :: TT) (rmD d) (va_Pc (.ref a :: As) (PreC wf D cy A X σ)) (va_Qv P (PostG wf D A) A) 0 0 A)
    (L : LkV own idx q.1 y cb mL ret n) (hc : rk_cl[ci]? = some q) (he : (wf σ)[q0]? = some (a, .inr (ci, fs)))
    (hR : d + 1 ≤ R.frames ∧ 8 + (mL + 11) + 60 * d ≤ R.locals) (hC : cells ≤ R.cells ∧ slots ≤ R.slots) (hn : As.length = n) (hls : ls.size = nL) (hst : (rest.map fun v => v.category).sum ≤ 8)
    {st0 : List Value} (hs0 : st0 = As.reverse ++ .ref a :: rest) (hdg : decode cc pc = .ok (.invokevirtual idx, 3))
    (kk : ∀ (u : Sg) (H1 : Heap) (locs1 : List Loc), P u → Wd D A s.heap (wf u) H1 locs1 → W p l e R s m args below meth c H1 locs1 cells slots Q (F0 m (pc + 3) ls rest)) : W p l e R s m args below meth c H locs cells slots Q (F0 m pc ls st0) := by
  subst hs0
  obtain ⟨hx, hb, hml, hown, hts, hK, -⟩ := id K
  refine va_callv (cells := cells) (slots := slots) (A1 := A) (va_runV (As := As) (rest := rest) ⟨hx, hb, hml, hown, hts⟩ hM (rk_cwV K L hR) ⟨rkc_blind, va_recv hK hw.1 hc he, fun U hU hW => ⟨rfl, ⟨by rw [hU]; exact hw.1, va_K.moved hW.alike hK, hw.2.1⟩, KX.step hw.2.2 hU hW⟩⟩ rfl hn hls rfl (lv_room hst) hdg hC) hw.2.2 (fun q _ h => h) (fun q h => h) (fun u t H1 locs1 ht hvm hq hB hz hk hS => ?_)
  exact kk u H1 locs1 hq ⟨by rw [← ht]; exact hB.1, hB.2, hS⟩
theorem rkc_si {idx : Nat} {y : MethodName} {cb : ByteArray} {mL n : Nat} {ret : Option FieldType} {d : Nat} {As : List Value} {P : Int32 → Sg → Prop}
    (K : Kx p s m args meth c cc nL own D cy) (KX : XC X A s s.heap) (hw : Wd D A s.heap (wf σ) H locs)
    (hM : Met l y (Cond.code y cb mL ret :: TT) (rmD d) (va_Pc As (PreC wf D cy A X σ)) (va_Qi P (PostG wf D A) A) 0 0 A)
    (L : LkS own idx y cb mL ret n)
    (hR : d + 1 ≤ R.frames ∧ 8 + (mL + 11) + 60 * d ≤ R.locals) (hC : cells ≤ R.cells ∧ slots ≤ R.slots) (hn : As.length = n) (hls : ls.size = nL) (hst : (rest.map fun v => v.category).sum ≤ 8)
    {st0 : List Value} (hs0 : st0 = As.reverse ++ rest) (hdg : decode cc pc = .ok (.invokestatic idx, 3))
    (kk : ∀ (r : Int32) (u : Sg) (H1 : Heap) (locs1 : List Loc), P r u → Wd D A s.heap (wf u) H1 locs1 → W p l e R s m args below meth c H1 locs1 cells slots Q (F0 m (pc + 3) ls (.int r :: rest))) : W p l e R s m args below meth c H locs cells slots Q (F0 m pc ls st0) := by
  subst hs0
  obtain ⟨hx, hb, hml, hown, hts, hK, -⟩ := id K
  refine va_calli (cells := cells) (slots := slots) (A1 := A) (va_runS (As := As) (rest := rest) ⟨hx, hb, hml, hown, hts⟩ hM (rk_cwS K L hR) ⟨rkc_blind, fun U hU hW => ⟨rfl, ⟨by rw [hU]; exact hw.1, va_K.moved hW.alike hK, hw.2.1⟩, KX.step hw.2.2 hU hW⟩⟩ rfl hn hls rfl (lv_room hst) hdg hC) hw.2.2 (fun q _ h => h) (fun q h => h) (fun r u t H1 locs1 ht hvm hq hB hz hk hS => ?_)
  exact kk r u H1 locs1 hq ⟨by rw [← ht]; exact hB.1, hB.2, hS⟩
theorem rkc_sl {idx : Nat} {y : MethodName} {cb : ByteArray} {mL n : Nat} {ret : Option FieldType} {d : Nat} {As : List Value} {P : Int64 → Sg → Prop}
    (K : Kx p s m args meth c cc nL own D cy) (KX : XC X A s s.heap) (hw : Wd D A s.heap (wf σ) H locs)
    (hM : Met l y (Cond.code y cb mL ret :: TT) (rmD d) (va_Pc As (PreC wf D cy A X σ)) (va_Ql P (PostG wf D A) A) 0 0 A)
    (L : LkS own idx y cb mL ret n)
    (hR : d + 1 ≤ R.frames ∧ 8 + (mL + 11) + 60 * d ≤ R.locals) (hC : cells ≤ R.cells ∧ slots ≤ R.slots) (hn : As.length = n) (hls : ls.size = nL) (hst : (rest.map fun v => v.category).sum ≤ 8)
    {st0 : List Value} (hs0 : st0 = As.reverse ++ rest) (hdg : decode cc pc = .ok (.invokestatic idx, 3))
    (kk : ∀ (r : Int64) (u : Sg) (H1 : Heap) (locs1 : List Loc), P r u → Wd D A s.heap (wf u) H1 locs1 → W p l e R s m args below meth c H1 locs1 cells slots Q (F0 m (pc + 3) ls (.long r :: rest))) : W p l e R s m args below meth c H locs cells slots Q (F0 m pc ls st0) := by
  subst hs0
  obtain ⟨hx, hb, hml, hown, hts, hK, -⟩ := id K
  refine va_calll (cells := cells) (slots := slots) (A1 := A) (va_runS (As := As) (rest := rest) ⟨hx, hb, hml, hown, hts⟩ hM (rk_cwS K L hR) ⟨rkc_blind, fun U hU hW => ⟨rfl, ⟨by rw [hU]; exact hw.1, va_K.moved hW.alike hK, hw.2.1⟩, KX.step hw.2.2 hU hW⟩⟩ rfl hn hls rfl (lv_room hst) hdg hC) hw.2.2 (fun q _ h => h) (fun q h => h) (fun r u t H1 locs1 ht hvm hq hB hz hk hS => ?_)
  exact kk r u H1 locs1 hq ⟨by rw [← ht]; exact hB.1, hB.2, hS⟩
theorem rkc_sv {idx : Nat} {y : MethodName} {cb : ByteArray} {mL n : Nat} {ret : Option FieldType} {d : Nat} {As : List Value} {P : Sg → Prop}
    (K : Kx p s m args meth c cc nL own D cy) (KX : XC X A s s.heap) (hw : Wd D A s.heap (wf σ) H locs)
    (hM : Met l y (Cond.code y cb mL ret :: TT) (rmD d) (va_Pc As (PreC wf D cy A X σ)) (va_Qv P (PostG wf D A) A) 0 0 A)
    (L : LkS own idx y cb mL ret n)
    (hR : d + 1 ≤ R.frames ∧ 8 + (mL + 11) + 60 * d ≤ R.locals) (hC : cells ≤ R.cells ∧ slots ≤ R.slots) (hn : As.length = n) (hls : ls.size = nL) (hst : (rest.map fun v => v.category).sum ≤ 8)
    {st0 : List Value} (hs0 : st0 = As.reverse ++ rest) (hdg : decode cc pc = .ok (.invokestatic idx, 3))
    (kk : ∀ (u : Sg) (H1 : Heap) (locs1 : List Loc), P u → Wd D A s.heap (wf u) H1 locs1 → W p l e R s m args below meth c H1 locs1 cells slots Q (F0 m (pc + 3) ls rest)) : W p l e R s m args below meth c H locs cells slots Q (F0 m pc ls st0) := by
  subst hs0
  obtain ⟨hx, hb, hml, hown, hts, hK, -⟩ := id K
  refine va_callv (cells := cells) (slots := slots) (A1 := A) (va_runS (As := As) (rest := rest) ⟨hx, hb, hml, hown, hts⟩ hM (rk_cwS K L hR) ⟨rkc_blind, fun U hU hW => ⟨rfl, ⟨by rw [hU]; exact hw.1, va_K.moved hW.alike hK, hw.2.1⟩, KX.step hw.2.2 hU hW⟩⟩ rfl hn hls rfl (lv_room hst) hdg hC) hw.2.2 (fun q _ h => h) (fun q h => h) (fun u t H1 locs1 ht hvm hq hB hz hk hS => ?_)
  exact kk u H1 locs1 hq ⟨by rw [← ht]; exact hB.1, hB.2, hS⟩
end RKC
section RC
variable {p : Program} {l : Launch} {e : Env} {R : Room} {s : State} {m : MethodId} {args : Array Value} {below : List Frame} {meth : Method} {c : Code} {H : Heap} {locs : List Loc} {cells slots : Nat} {Q : State → Prop}
  {pc : Nat} {ls : Array Slot} {rest : List Value} {cc : ByteArray} {nL : Nat} {own : String} {D : va_G} {cy : Nat → ClassId} {A : Nat → Prop} {H0 : Heap} {ad : Nat → Nat} {σ : Sg} {nt : Nat} {X : Nat → Nat}
theorem rc_get {C : String} {T : u_T} {N ci : Nat} (lay : ∀ w ∈ u_ws C T N, w ∈ TT) (hc : rk_cl[ci]? = some (C, T, N)) (j : Nat) (hj : j < N) {idx k a : Nat} {fs : List Value} {v : Value} {ws : va_W} (K : Kx p s m args meth c cc nL own D cy) (hw : Wd D A H0 ws H locs) (he : ws[k]? = some (a, .inr (ci, fs))) (hL : Cond.fieldLink own idx (T j).1 (T j).2.1 (T j).2.2.1 ∈ TT) (hv : fs[j]? = some v) (hdg : decode cc pc = .ok (.getfield idx, 3))
    (kk : W p l e R s m args below meth c H locs cells slots Q (F0 m (pc + 3) ls (v :: rest))) : W p l e R s m args below meth c H locs cells slots Q (F0 m pc ls (.ref a :: rest)) := by
  obtain ⟨hx, hb, hml, hown, hts, hK, -⟩ := id K
  exact va_get (D := D) (ci := ci) (C := C) (T := T) (N := N) hx hb hts lay hown hK hw.1 k he hc j hj (hts _ hL) (fun _ h => h) hv hdg kk
theorem rc_put {C : String} {T : u_T} {N ci : Nat} (lay : ∀ w ∈ u_ws C T N, w ∈ TT) (hc : rk_cl[ci]? = some (C, T, N)) {ty0 : Nat → FieldType} (hty : ∀ k, k < N → parseFieldDescriptor (T k).2.2.1 = some (ty0 k)) (hnm : ∀ a, a < N → ∀ b, b < N → a ≠ b → (T a).2.1 ≠ (T b).2.1) (j : Nat) (hj : j < N) {idx k : Nat} {fs : List Value} {x : Int32} {ty : FieldType} (K : Kx p s m args meth c cc nL own D cy) (hw : Wd D A H0 (wsC cy nt ad σ) H locs) (he : (wsC cy nt ad σ)[k]? = some (ad k, .inr (ci, fs))) (hL : Cond.fieldLink own idx (T j).1 (T j).2.1 (T j).2.2.1 ∈ TT) (hfin : (T j).2.2.2 = false) (htyj : parseFieldDescriptor (T j).2.2.1 = some ty) (hn : narrow ty (.int x) = .int x) (hf : fits ty (.int x) = true) (hlen : j < fs.length) (hset : (wsC cy nt ad σ).set k (ad k, .inr (ci, fs.set j (.int x))) = wsC cy nt ad (st σ k j x)) (hdg : decode cc pc = .ok (.putfield idx, 3))
    (kk : ∀ (σ1 : Sg), σ1 = st σ k j x → ∀ (H1 : Heap) (locs1 : List Loc), Wd D A H0 (wsC cy nt ad σ1) H1 locs1 → W p l e R s m args below meth c H1 locs1 cells slots Q (F0 m (pc + 3) ls rest)) : W p l e R s m args below meth c H locs cells slots Q (F0 m pc ls (.int x :: .ref (ad k) :: rest)) := by
  obtain ⟨hx, hb, hml, hown, hts, hK, -⟩ := id K
  refine va_put (D := D) (ci := ci) (C := C) (T := T) (N := N) hx hb hts lay ty0 hty hnm hown hK hw.1 hw.2.1 hw.2.2 k he hc j hj (hts _ hL) (fun _ h => h) hfin htyj hn hf hlen hdg (fun H1 locs1 hP hD hS => ?_)
  rw [hset] at hP hD
  exact kk _ rfl H1 locs1 ⟨hP, hD, hS⟩
theorem rc_iald {k a n : Nat} {f : Nat → Int32} {i : Int32} {ws : va_W} (K : Kx p s m args meth c cc nL own D cy) (hw : Wd D A H0 ws H locs) (he : ws[k]? = some (a, .inl (cy 0, n, .inl f))) (hin : vp_in i n) (hdg : decode cc pc = .ok (.iaload, 1))
    (kk : W p l e R s m args below meth c H locs cells slots Q (F0 m (pc + 1) ls (.int (f i.toNatClampNeg) :: rest))) : W p l e R s m args below meth c H locs cells slots Q (F0 m pc ls (.int i :: .ref a :: rest)) := by
  obtain ⟨hx, hb, hml, hown, hts, hK, -⟩ := id K
  exact va_iald hx hb hK hw.1 k 0 he rfl hin hdg kk
theorem rc_alen {k a n : Nat} {f : Nat → Int32} {ws : va_W} {v : Int32} (K : Kx p s m args meth c cc nL own D cy) (hw : Wd D A H0 ws H locs) (he : ws[k]? = some (a, .inl (cy 0, n, .inl f))) (hv : Int32.ofNat n = v) (hdg : decode cc pc = .ok (.arraylength, 1))
    (kk : W p l e R s m args below meth c H locs cells slots Q (F0 m (pc + 1) ls (.int v :: rest))) : W p l e R s m args below meth c H locs cells slots Q (F0 m pc ls (.ref a :: rest)) := by
  obtain ⟨hx, hb, hml, hown, hts, hK, -⟩ := id K
  exact va_alen hx hb hK hw.1 k 0 he rfl hv hdg kk
theorem rc_iast {k n : Nat} {i x : Int32} (K : Kx p s m args meth c cc nL own D cy) (hw : Wd D A H0 (wsC cy nt ad σ) H locs) (he : (wsC cy nt ad σ)[k]? = some (ad k, .inl (cy 0, n, .inl (σ k)))) (hset : (wsC cy nt ad σ).set k (ad k, .inl (cy 0, n, .inl (upd (σ k) i.toNatClampNeg x))) = wsC cy nt ad (st σ k i.toNatClampNeg x)) (hin : vp_in i n) (hdg : decode cc pc = .ok (.iastore, 1))
    (kk : ∀ (σ1 : Sg), σ1 = st σ k i.toNatClampNeg x → ∀ (H1 : Heap) (locs1 : List Loc), Wd D A H0 (wsC cy nt ad σ1) H1 locs1 → W p l e R s m args below meth c H1 locs1 cells slots Q (F0 m (pc + 1) ls rest)) : W p l e R s m args below meth c H locs cells slots Q (F0 m pc ls (.int x :: .int i :: .ref (ad k) :: rest)) := by
  obtain ⟨hx, hb, hml, hown, hts, hK, -⟩ := id K
  refine va_iast hx hb hK hw.1 hw.2.1 hw.2.2 k 0 he rfl hin hdg (fun H1 locs1 hP hD hS => ?_)
  rw [hset] at hP hD
  exact kk _ rfl H1 locs1 ⟨hP, hD, hS⟩
theorem rc_aald {k a n t0 b : Nat} {cA : ClassId} {C : String} {f : Nat → Option Nat} {i : Int32} {ws : va_W} (K : Kx p s m args meth c cc nL own D cy) (hw : Wd D A H0 ws H locs) (he : ws[k]? = some (a, .inl (cA, n, rf5 f))) (ht : (rk_tys cy)[t0]? = some (cA, .object C)) (hv : va_rf (f i.toNatClampNeg) = .ref b) (hin : vp_in i n) (hdg : decode cc pc = .ok (.aaload, 1))
    (kk : W p l e R s m args below meth c H locs cells slots Q (F0 m (pc + 1) ls (.ref b :: rest))) : W p l e R s m args below meth c H locs cells slots Q (F0 m pc ls (.int i :: .ref a :: rest)) := by
  obtain ⟨hx, hb, hml, hown, hts, hK, -⟩ := id K
  refine va_aldq hx hb hK hw.1 k t0 he ht hin hdg ?_
  rw [hv]
  exact kk
theorem rc_gets {n d : String} {v : Value} {idx : Nat} {ws : va_W} {C : String} (hZ : va_Z C n d v A s s.heap) (K : Kx p s m args meth c cc nL own D cy) (hw : Wd D A s.heap ws H locs) (hL : Cond.fieldLink own idx C n d ∈ TT) (hdg : decode cc pc = .ok (.getstatic idx, 3))
    (kk : W p l e R s m args below meth c H locs cells slots Q (F0 m (pc + 3) ls (v :: rest))) : W p l e R s m args below meth c H locs cells slots Q (F0 m pc ls rest) := by
  obtain ⟨hx, hb, hml, hown, hts, hK, -⟩ := id K
  exact va_gets hx hb hZ hw.2.2 hown (hts _ hL) (fun _ h => h) hdg kk
theorem rc_ti {t N : Nat} {f : Nat → Int32} {i : Int32} {ws : va_W} (hT : va_T .int t N (fun j => .int (f j)) A s s.heap) (K : Kx p s m args meth c cc nL own D cy) (hw : Wd D A s.heap ws H locs) (hin : vp_in i N) (hdg : decode cc pc = .ok (.iaload, 1))
    (kk : W p l e R s m args below meth c H locs cells slots Q (F0 m (pc + 1) ls (.int (f i.toNatClampNeg) :: rest))) : W p l e R s m args below meth c H locs cells slots Q (F0 m pc ls (.int i :: .ref t :: rest)) := by
  obtain ⟨hx, hb, hml, hown, hts, hK, -⟩ := id K
  exact va_ti hx hb hT hw.2.2 hin rfl hdg kk
theorem rc_tlen {t N : Nat} {f : Nat → Value} {ty : FieldType} {v : Int32} {ws : va_W} (hT : va_T ty t N f A s s.heap) (K : Kx p s m args meth c cc nL own D cy) (hw : Wd D A s.heap ws H locs) (hv : Int32.ofNat N = v) (hdg : decode cc pc = .ok (.arraylength, 1))
    (kk : W p l e R s m args below meth c H locs cells slots Q (F0 m (pc + 1) ls (.int v :: rest))) : W p l e R s m args below meth c H locs cells slots Q (F0 m pc ls (.ref t :: rest)) := by
  obtain ⟨hx, hb, hml, hown, hts, hK, -⟩ := id K
  exact va_tlen hx hb hT hw.2.2 hv hdg kk
end RC
