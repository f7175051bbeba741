/-! ===== BEGIN words of one list among another's, by their places ===== -/
theorem goodIn_r {big : List Cond} (ws : List Cond) (ps : List Nat) (hp : ws = ps.filterMap (fun i => big[i]?)) (h : ws.all goodWord = true) : GoodIn big ws := by
  intro w hw
  have h1 := List.all_eq_true.mp h w hw
  rw [hp] at hw
  obtain ⟨i, -, hi⟩ := List.mem_filterMap.mp hw
  have hm : w ∈ big := by first | exact List.mem_of_getElem? hi | exact List.getElem?_mem hi
  exact ⟨hm, good_of_word h1⟩
theorem goodIn_app {big a b : List Cond} (ha : GoodIn big a) (hb : GoodIn big b) : GoodIn big (a ++ b) := fun w h => (List.mem_append.mp h).elim (ha w) (hb w)
theorem goodIn_ca {big a b : List Cond} {c : Cond} (ha : GoodIn big (c :: a)) (hb : GoodIn big b) : GoodIn big (c :: (a ++ b)) := fun w h => (List.mem_cons.mp h).elim (fun e => ha w (List.mem_cons.mpr (Or.inl e))) (fun h => (List.mem_append.mp h).elim (fun h => ha w (List.mem_cons.mpr (Or.inr h))) (hb w))
theorem goodIn_sub {big ws : List Cond} (hm : ∀ w ∈ ws, w ∈ big) (h : ws.all goodWord = true) : GoodIn big ws := fun w hw => ⟨hm w hw, good_of_word (List.all_eq_true.mp h w hw)⟩
/-! ===== END ===== -/
/-! ===== abstract states, worlds, and rows over them ===== -/
abbrev Sg : Type := Nat → Nat → Int32
def st (σ : Sg) (k j : Nat) (v : Int32) : Sg := fun a b => if a = k then (if b = j then v else σ a b) else σ a b
def wr (σ : Sg) (k : Nat) (f : Nat → Int32) : Sg := fun a b => if a = k then f b else σ a b
abbrev rk_cl : List vw_C := [(RX0, TX0, 5), (RX1, TX1, 6), (RX2, TX2, 3), (RX3, TX3, 3), (RX4, TX4, 6), (RX5, TX5, 6), (RX6, TX6, 4), (RX7, TX7, 11), (RX8, TX8, 40)]
abbrev rk_tys (cy : Nat → ClassId) : List (ClassId × FieldType) := [(cy 0, .int), (cy 1, .boolean), (cy 2, .object RX1), (cy 3, .object RX3), (cy 4, .object RX6)]
abbrev rmD (d : Nat) : Room := { frames := d, cells := 0, slots := 0, locals := 60 * d }
def TT : List Cond := lw_tbl.filter goodWord
theorem TTm {w : Cond} (h : w ∈ lw_tbl) (g : goodWord w = true) : w ∈ TT := List.mem_filter.mpr ⟨h, g⟩
theorem rk_good : GoodIn TT TT := fun w hw => ⟨hw, good_of_word (List.mem_filter.mp hw).2⟩
def Kx (p : Program) (s : State) (m : MethodId) (args : Array Value) (meth : Method) (c : Code) (cc : ByteArray) (nL : Nat) (own : String) (D : va_G) (cy : Nat → ClassId) : Prop :=
  p.tables.exec = Jvm.exec ∧ c.code = cc ∧ c.maxLocals = nL ∧ s.vm.findClass own = some m.cls ∧ (∀ w ∈ TT, w.before args s = true) ∧ va_K D rk_cl (rk_tys cy) s ∧ meth.locks = false
def Wd (D : va_G) (A : Nat → Prop) (H0 : Heap) (ws : va_W) (H : Heap) (locs : List Loc) : Prop := va_P D rk_cl ws H ∧ va_D A ws ∧ va_S A H0 H locs
def PreG (wf : Sg → va_W) (D : va_G) (cy : Nat → ClassId) (A : Nat → Prop) (σ : Sg) (U : State) : Prop := va_P D rk_cl (wf σ) U.heap ∧ va_K D rk_cl (rk_tys cy) U ∧ va_D A (wf σ)
def PostG (wf : Sg → va_W) (D : va_G) (A : Nat → Prop) (u : Sg) (t : State) : Prop := va_P D rk_cl (wf u) t.heap ∧ va_D A (wf u)
theorem rk_blind {av : List Value} {wf : Sg → va_W} {D : va_G} {cy : Nat → ClassId} {A : Nat → Prop} {σ : Sg} : FrameBlind (va_Pc av (PreG wf D cy A σ)) := fun a U g mk q => by
  obtain ⟨q0, qP, qK, qD⟩ := q
  exact ⟨q0, qP, va_K.moved (u := U) (U := U.calling g mk a) (Vm.Alike.refl U.vm) qK, qD⟩
/-- a link to a method that is called on an object, a link to a static one -/
def LkV (own : String) (idx : Nat) (C : String) (y : MethodName) (cc : ByteArray) (nL : Nat) (ret : Option FieldType) (n : Nat) : Prop :=
  Cond.methodLink own idx y ∈ TT ∧ Cond.instanceMethod y ∈ TT ∧ Cond.selects C y y ∈ TT ∧ Cond.initialized C ∈ TT ∧ Cond.code y cc nL ret ∈ TT ∧ (y.cls = C ∧ y.cls ≠ "java/lang/invoke/MethodHandle" ∧ y.cls ≠ "java/lang/invoke/VarHandle" ∧ (parseMethodDescriptor y.desc).map (fun d => d.parameters.length) = some n)
def LkS (own : String) (idx : Nat) (y : MethodName) (cc : ByteArray) (nL : Nat) (ret : Option FieldType) (n : Nat) : Prop :=
  Cond.methodLink own idx y ∈ TT ∧ Cond.static y ∈ TT ∧ Cond.initialized y.cls ∈ TT ∧ Cond.code y cc nL ret ∈ TT ∧ (y.cls ≠ "java/lang/invoke/MethodHandle" ∧ y.cls ≠ "java/lang/invoke/VarHandle" ∧ (parseMethodDescriptor y.desc).map (fun d => d.parameters.length) = some n)
section RK
variable {p : Program} {l : Launch} {e : Env} {R : Room} {s : State} {m : MethodId} {args : Array Value} {below : List Frame} {meth : Method} {c : Code} {H : Heap} {locs : List Loc} {cells slots : Nat} {Q : State → Prop}
  {pc : Nat} {ls : Array Slot} {rest : List Value} {cc : ByteArray} {nL : Nat} {own : String} {D : va_G} {cy : Nat → ClassId} {A : Nat → Prop} {H0 : Heap} {wf : Sg → va_W} {σ : Sg}
theorem rk_cwV {C : String} {idx : Nat} {y : MethodName} {cb : ByteArray} {mL n : Nat} {ret : Option FieldType} {d : Nat} (K : Kx p s m args meth c cc nL own D cy) (L : LkV own idx C y cb mL ret n) (hR : d + 1 ≤ R.frames ∧ 8 + (mL + 11) + 60 * d ≤ R.locals) : CallW R s args own C idx y cb mL ret (Cond.code y cb mL ret :: TT) (rmD d) 0 0 n := by
  obtain ⟨h1, h2, h3, h4, h5, h6⟩ := L
  refine cwV (Ts := TT) n K.2.2.2.2.1 (fun w hw => ?_) rfl rfl rfl h6 hR
  have hm : w ∈ TT := by
    simp only [wsV, List.mem_append, List.mem_cons, List.not_mem_nil, or_false] at hw
    rcases hw with (rfl | rfl | rfl | rfl) | rfl | hw
    · exact h1
    · exact h2
    · exact h3
    · exact h4
    · exact h5
    · exact hw
  exact rk_good w hm
theorem rk_cwS {idx : Nat} {y : MethodName} {cb : ByteArray} {mL n : Nat} {ret : Option FieldType} {d : Nat} (K : Kx p s m args meth c cc nL own D cy) (L : LkS own idx y cb mL ret n) (hR : d + 1 ≤ R.frames ∧ 8 + (mL + 11) + 60 * d ≤ R.locals) : CallB R s args own idx y cb mL ret (Cond.code y cb mL ret :: TT) (rmD d) 0 0 n ∧ (Cond.static y).before args s = true := by
  obtain ⟨h1, h2, h3, h4, h5⟩ := L
  have hts := K.2.2.2.2.1
  refine ⟨callB_of (Ts := TT) n hts (fun w hw => ?_) rfl rfl rfl (hts _ h3) (hts _ h1) h5 hR, hts _ h2⟩
  have hm : w ∈ TT := by
    rcases List.mem_cons.mp hw with rfl | hw
    · exact h4
    · exact hw
  exact rk_good w hm
/-- calls on an object of the world: the answer an int, a long, nothing -/
theorem rk_vi {idx : Nat} {y : MethodName} {cb : ByteArray} {mL n : Nat} {ret : Option FieldType} {d : Nat} {a q0 ci : Nat} {q : vw_C} {fs : List Value} {As : List Value} {P : Int32 → Sg → Prop}
    (K : Kx p s m args meth c cc nL own D cy) (hw : Wd D A H0 (wf σ) H locs)
    (hM : Met l y (Cond.code y cb mL ret :: TT) (rmD d) (va_Pc (.ref a :: As) (PreG wf D cy A σ)) (va_Qi P (PostG wf D A) A) 0 0 A)
    (L : LkV own idx q.1 y cb mL ret n) (hc : rk_cl[ci]? = some q) (he : (wf σ)[q0]? = some (a, .inr (ci, fs)))
    (hR : d + 1 ≤ R.frames ∧ 8 + (mL + 11) + 60 * d ≤ R.locals) (hC : cells ≤ R.cells ∧ slots ≤ R.slots) (hn : As.length = n) (hls : ls.size = nL) (hst : (rest.map fun v => v.category).sum ≤ 8)
    {st0 : List Value} (hs0 : st0 = As.reverse ++ .ref a :: rest) (hdg : decode cc pc = .ok (.invokevirtual idx, 3))
    (kk : ∀ (r : Int32) (u : Sg) (H1 : Heap) (locs1 : List Loc), P r u → Wd D A H0 (wf u) H1 locs1 → W p l e R s m args below meth c H1 locs1 cells slots Q (F0 m (pc + 3) ls (.int r :: rest))) : W p l e R s m args below meth c H locs cells slots Q (F0 m pc ls st0) := by
  subst hs0
  obtain ⟨hx, hb, hml, hown, hts, hK, -⟩ := id K
  refine va_calli (cells := cells) (slots := slots) (A1 := A) (va_runV (As := As) (rest := rest) ⟨hx, hb, hml, hown, hts⟩ hM (rk_cwV K L hR) ⟨rk_blind, va_recv hK hw.1 hc he, fun U hU hW => ⟨rfl, by rw [hU]; exact hw.1, va_K.moved hW.alike hK, hw.2.1⟩⟩ rfl hn hls rfl (lv_room hst) hdg hC) hw.2.2 (fun q _ h => h) (fun q h => h) (fun r u t H1 locs1 ht hvm hq hB hz hk hS => ?_)
  exact kk r u H1 locs1 hq ⟨by rw [← ht]; exact hB.1, hB.2, hS⟩
theorem rk_vl {idx : Nat} {y : MethodName} {cb : ByteArray} {mL n : Nat} {ret : Option FieldType} {d : Nat} {a q0 ci : Nat} {q : vw_C} {fs : List Value} {As : List Value} {P : Int64 → Sg → Prop}
    (K : Kx p s m args meth c cc nL own D cy) (hw : Wd D A H0 (wf σ) H locs)
    (hM : Met l y (Cond.code y cb mL ret :: TT) (rmD d) (va_Pc (.ref a :: As) (PreG wf D cy A σ)) (va_Ql P (PostG wf D A) A) 0 0 A)
    (L : LkV own idx q.1 y cb mL ret n) (hc : rk_cl[ci]? = some q) (he : (wf σ)[q0]? = some (a, .inr (ci, fs)))
    (hR : d + 1 ≤ R.frames ∧ 8 + (mL + 11) + 60 * d ≤ R.locals) (hC : cells ≤ R.cells ∧ slots ≤ R.slots) (hn : As.length = n) (hls : ls.size = nL) (hst : (rest.map fun v => v.category).sum ≤ 8)
    {st0 : List Value} (hs0 : st0 = As.reverse ++ .ref a :: rest) (hdg : decode cc pc = .ok (.invokevirtual idx, 3))
    (kk : ∀ (r : Int64) (u : Sg) (H1 : Heap) (locs1 : List Loc), P r u → Wd D A H0 (wf u) H1 locs1 → W p l e R s m args below meth c H1 locs1 cells slots Q (F0 m (pc + 3) ls (.long r :: rest))) : W p l e R s m args below meth c H locs cells slots Q (F0 m pc ls st0) := by
  subst hs0
  obtain ⟨hx, hb, hml, hown, hts, hK, -⟩ := id K
  refine va_calll (cells := cells) (slots := slots) (A1 := A) (va_runV (As := As) (rest := rest) ⟨hx, hb, hml, hown, hts⟩ hM (rk_cwV K L hR) ⟨rk_blind, va_recv hK hw.1 hc he, fun U hU hW => ⟨rfl, by rw [hU]; exact hw.1, va_K.moved hW.alike hK, hw.2.1⟩⟩ rfl hn hls rfl (lv_room hst) hdg hC) hw.2.2 (fun q _ h => h) (fun q h => h) (fun r u t H1 locs1 ht hvm hq hB hz hk hS => ?_)
  exact kk r u H1 locs1 hq ⟨by rw [← ht]; exact hB.1, hB.2, hS⟩
theorem rk_vv {idx : Nat} {y : MethodName} {cb : ByteArray} {mL n : Nat} {ret : Option FieldType} {d : Nat} {a q0 ci : Nat} {q : vw_C} {fs : List Value} {As : List Value} {P : Sg → Prop}
    (K : Kx p s m args meth c cc nL own D cy) (hw : Wd D A H0 (wf σ) H locs)
    (hM : Met l y (Cond.code y cb mL ret :: TT) (rmD d) (va_Pc (.ref a :: As) (PreG wf D cy A σ)) (va_Qv P (PostG wf D A) A) 0 0 A)
    (L : LkV own idx q.1 y cb mL ret n) (hc : rk_cl[ci]? = some q) (he : (wf σ)[q0]? = some (a, .inr (ci, fs)))
    (hR : d + 1 ≤ R.frames ∧ 8 + (mL + 11) + 60 * d ≤ R.locals) (hC : cells ≤ R.cells ∧ slots ≤ R.slots) (hn : As.length = n) (hls : ls.size = nL) (hst : (rest.map fun v => v.category).sum ≤ 8)
    {st0 : List Value} (hs0 : st0 = As.reverse ++ .ref a :: rest) (hdg : decode cc pc = .ok (.invokevirtual idx, 3))
    (kk : ∀ (u : Sg) (H1 : Heap) (locs1 : List Loc), P u → Wd D A H0 (wf u) H1 locs1 → W p l e R s m args below meth c H1 locs1 cells slots Q (F0 m (pc + 3) ls rest)) : W p l e R s m args below meth c H locs cells slots Q (F0 m pc ls st0) := by
  subst hs0
  obtain ⟨hx, hb, hml, hown, hts, hK, -⟩ := id K
  refine va_callv (cells := cells) (slots := slots) (A1 := A) (va_runV (As := As) (rest := rest) ⟨hx, hb, hml, hown, hts⟩ hM (rk_cwV K L hR) ⟨rk_blind, va_recv hK hw.1 hc he, fun U hU hW => ⟨rfl, by rw [hU]; exact hw.1, va_K.moved hW.alike hK, hw.2.1⟩⟩ rfl hn hls rfl (lv_room hst) hdg hC) hw.2.2 (fun q _ h => h) (fun q h => h) (fun u t H1 locs1 ht hvm hq hB hz hk hS => ?_)
  exact kk u H1 locs1 hq ⟨by rw [← ht]; exact hB.1, hB.2, hS⟩
/-- static calls -/
theorem rk_si {idx : Nat} {y : MethodName} {cb : ByteArray} {mL n : Nat} {ret : Option FieldType} {d : Nat} {As : List Value} {P : Int32 → Sg → Prop}
    (K : Kx p s m args meth c cc nL own D cy) (hw : Wd D A H0 (wf σ) H locs)
    (hM : Met l y (Cond.code y cb mL ret :: TT) (rmD d) (va_Pc As (PreG wf D cy A σ)) (va_Qi P (PostG wf D A) A) 0 0 A)
    (L : LkS own idx y cb mL ret n)
    (hR : d + 1 ≤ R.frames ∧ 8 + (mL + 11) + 60 * d ≤ R.locals) (hC : cells ≤ R.cells ∧ slots ≤ R.slots) (hn : As.length = n) (hls : ls.size = nL) (hst : (rest.map fun v => v.category).sum ≤ 8)
    {st0 : List Value} (hs0 : st0 = As.reverse ++ rest) (hdg : decode cc pc = .ok (.invokestatic idx, 3))
    (kk : ∀ (r : Int32) (u : Sg) (H1 : Heap) (locs1 : List Loc), P r u → Wd D A H0 (wf u) H1 locs1 → W p l e R s m args below meth c H1 locs1 cells slots Q (F0 m (pc + 3) ls (.int r :: rest))) : W p l e R s m args below meth c H locs cells slots Q (F0 m pc ls st0) := by
  subst hs0
  obtain ⟨hx, hb, hml, hown, hts, hK, -⟩ := id K
  refine va_calli (cells := cells) (slots := slots) (A1 := A) (va_runS (As := As) (rest := rest) ⟨hx, hb, hml, hown, hts⟩ hM (rk_cwS K L hR) ⟨rk_blind, fun U hU hW => ⟨rfl, by rw [hU]; exact hw.1, va_K.moved hW.alike hK, hw.2.1⟩⟩ rfl hn hls rfl (lv_room hst) hdg hC) hw.2.2 (fun q _ h => h) (fun q h => h) (fun r u t H1 locs1 ht hvm hq hB hz hk hS => ?_)
  exact kk r u H1 locs1 hq ⟨by rw [← ht]; exact hB.1, hB.2, hS⟩
theorem rk_sl {idx : Nat} {y : MethodName} {cb : ByteArray} {mL n : Nat} {ret : Option FieldType} {d : Nat} {As : List Value} {P : Int64 → Sg → Prop}
    (K : Kx p s m args meth c cc nL own D cy) (hw : Wd D A H0 (wf σ) H locs)
    (hM : Met l y (Cond.code y cb mL ret :: TT) (rmD d) (va_Pc As (PreG wf D cy A σ)) (va_Ql P (PostG wf D A) A) 0 0 A)
    (L : LkS own idx y cb mL ret n)
    (hR : d + 1 ≤ R.frames ∧ 8 + (mL + 11) + 60 * d ≤ R.locals) (hC : cells ≤ R.cells ∧ slots ≤ R.slots) (hn : As.length = n) (hls : ls.size = nL) (hst : (rest.map fun v => v.category).sum ≤ 8)
    {st0 : List Value} (hs0 : st0 = As.reverse ++ rest) (hdg : decode cc pc = .ok (.invokestatic idx, 3))
    (kk : ∀ (r : Int64) (u : Sg) (H1 : Heap) (locs1 : List Loc), P r u → Wd D A H0 (wf u) H1 locs1 → W p l e R s m args below meth c H1 locs1 cells slots Q (F0 m (pc + 3) ls (.long r :: rest))) : W p l e R s m args below meth c H locs cells slots Q (F0 m pc ls st0) := by
  subst hs0
  obtain ⟨hx, hb, hml, hown, hts, hK, -⟩ := id K
  refine va_calll (cells := cells) (slots := slots) (A1 := A) (va_runS (As := As) (rest := rest) ⟨hx, hb, hml, hown, hts⟩ hM (rk_cwS K L hR) ⟨rk_blind, fun U hU hW => ⟨rfl, by rw [hU]; exact hw.1, va_K.moved hW.alike hK, hw.2.1⟩⟩ rfl hn hls rfl (lv_room hst) hdg hC) hw.2.2 (fun q _ h => h) (fun q h => h) (fun r u t H1 locs1 ht hvm hq hB hz hk hS => ?_)
  exact kk r u H1 locs1 hq ⟨by rw [← ht]; exact hB.1, hB.2, hS⟩
/-- ends -/
theorem rk_iret {P : Int32 → Sg → Prop} {v : Int32} (K : Kx p s m args meth c cc nL own D cy) (hw : Wd D A s.heap (wf σ) H locs) (hr : meth.sig.returnType = some .int) (hd : P v σ) (hdg : decode cc pc = .ok (.ireturn, 1)) :
    W p l e R s m args below meth c H locs 0 0 (MQ below (va_Qi P (PostG wf D A) A) args s 0 0 A) (F0 m pc ls [.int v]) := by
  obtain ⟨hx, hb, hml, hown, hts, hK, hlocks⟩ := id K
  exact W.iret (v := v) hx hb hr (fun t ht hW => ⟨⟨v, σ, rfl, hd, by rw [ht]; exact hw.1, hw.2.1⟩, hw.2.2.F ht⟩) hw.2.2.2.2 hdg hlocks
theorem rk_zret {P : Int32 → Sg → Prop} {v : Int32} (K : Kx p s m args meth c cc nL own D cy) (hw : Wd D A s.heap (wf σ) H locs) (hr : meth.sig.returnType = some .boolean) (hz : v = 0 ∨ v = 1) (hd : P v σ) (hdg : decode cc pc = .ok (.ireturn, 1)) :
    W p l e R s m args below meth c H locs 0 0 (MQ below (va_Qi P (PostG wf D A) A) args s 0 0 A) (F0 m pc ls [.int v]) := by
  obtain ⟨hx, hb, hml, hown, hts, hK, hlocks⟩ := id K
  exact W.zret (v := v) hx hb hr (by rcases hz with rfl | rfl <;> rfl) (fun t ht hW => ⟨⟨v, σ, rfl, hd, by rw [ht]; exact hw.1, hw.2.1⟩, hw.2.2.F ht⟩) hw.2.2.2.2 hdg hlocks
theorem rk_lret {P : Int64 → Sg → Prop} {v : Int64} (K : Kx p s m args meth c cc nL own D cy) (hw : Wd D A s.heap (wf σ) H locs) (hr : meth.sig.returnType = some .long) (hd : P v σ) (hdg : decode cc pc = .ok (.lreturn, 1)) :
    W p l e R s m args below meth c H locs 0 0 (MQ below (va_Ql P (PostG wf D A) A) args s 0 0 A) (F0 m pc ls [.long v]) := by
  obtain ⟨hx, hb, hml, hown, hts, hK, hlocks⟩ := id K
  exact W.lret (v := v) hx hb hr (fun t ht hW => ⟨⟨v, σ, rfl, hd, by rw [ht]; exact hw.1, hw.2.1⟩, hw.2.2.F ht⟩) hw.2.2.2.2 hdg hlocks
theorem rk_vret {P : Sg → Prop} (K : Kx p s m args meth c cc nL own D cy) (hw : Wd D A s.heap (wf σ) H locs) (hr : meth.sig.returnType = none) (hd : P σ) (hdg : decode cc pc = .ok (.return_, 1)) :
    W p l e R s m args below meth c H locs 0 0 (MQ below (va_Qv P (PostG wf D A) A) args s 0 0 A) (F0 m pc ls []) := by
  obtain ⟨hx, hb, hml, hown, hts, hK, hlocks⟩ := id K
  exact W.vret hx hb hr (fun t ht hW => ⟨⟨σ, rfl, hd, by rw [ht]; exact hw.1, hw.2.1⟩, hw.2.2.F ht⟩) hw.2.2.2.2 hdg hlocks
end RK
