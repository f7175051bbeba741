section
/-! ===== worlds cut in three; calls that make cells ===== -/
theorem vz_D {A : Nat → Prop} {ws : va_W} : va_D A ws ↔ ws.Pairwise (fun p q => p.1 ≠ q.1) ∧ ∀ q ∈ ws, A q.1 := by
  constructor
  · rintro ⟨h1, h2⟩
    refine ⟨List.pairwise_iff_getElem.mpr (fun i j hi hj hij e => ?_), fun q hq => ?_⟩
    · have := h1 i j _ _ (List.getElem?_eq_getElem hi) (List.getElem?_eq_getElem hj) e
      omega
    · obtain ⟨k, hk⟩ := List.getElem?_of_mem hq
      exact h2 k q hk
  · rintro ⟨h1, h2⟩
    have h1 := List.pairwise_iff_getElem.mp h1
    refine ⟨fun i j p q hi hj e => ?_, fun k q hk => h2 q (List.mem_of_getElem? hk)⟩
    obtain ⟨li, rfl⟩ := List.getElem?_eq_some_iff.mp hi
    obtain ⟨lj, rfl⟩ := List.getElem?_eq_some_iff.mp hj
    rcases Nat.lt_trichotomy i j with z | z | z
    · exact absurd e (h1 i j li lj z)
    · exact z
    · exact absurd e.symm (h1 j i lj li z)
theorem vz_P {D : va_G} {cl : List vw_C} {ws : va_W} {H : Heap} : va_P D cl ws H ↔ ∀ q ∈ ws, va_at D cl q H :=
  ⟨fun h q hq => by obtain ⟨k, hk⟩ := List.getElem?_of_mem hq; exact h k q hk, fun h k q hk => h q (List.mem_of_getElem? hk)⟩
theorem va_joinM {A0 : Nat → Prop} {D : va_G} {cl : List vw_C} {wl wc wr w1 : va_W} {H H1 : Heap} (hP : va_P D cl (wl ++ (wc ++ wr)) H) (hD : va_D A0 (wl ++ (wc ++ wr))) (hk : ∀ q : Nat, q < H.size → ¬ va_A wc H.size q → H1[q]? = H[q]?) (hF : ∀ q, va_A wc H.size q → A0 q) (hP1 : va_P D cl w1 H1) (hD1 : va_D (va_A wc H.size) w1) : va_P D cl (wl ++ (w1 ++ wr)) H1 ∧ va_D A0 (wl ++ (w1 ++ wr)) := by
  rw [vz_P] at hP hP1
  rw [vz_D] at hD hD1
  obtain ⟨dp, da⟩ := hD
  obtain ⟨d1, d1a⟩ := hD1
  obtain ⟨pl, pcr, plx⟩ := List.pairwise_append.mp dp
  obtain ⟨pc, pr, pcx⟩ := List.pairwise_append.mp pcr
  have lt : ∀ q ∈ wl ++ (wc ++ wr), q.1 < H.size := fun q hq => (hP q hq).lt
  have nl : ∀ q ∈ wl, ¬ va_A wc H.size q.1 := fun q hq z => by
    rcases z with ⟨k, e, hk⟩ | z
    · exact plx q hq (q.1, e) (List.mem_append_left _ (List.mem_of_getElem? hk)) rfl
    · have := lt q (List.mem_append_left _ hq); omega
  have nr : ∀ q ∈ wr, ¬ va_A wc H.size q.1 := fun q hq z => by
    rcases z with ⟨k, e, hk⟩ | z
    · exact pcx (q.1, e) (List.mem_of_getElem? hk) q hq rfl
    · have := lt q (List.mem_append_right _ (List.mem_append_right _ hq)); omega
  refine ⟨vz_P.mpr (fun q hq => ?_), vz_D.mpr ⟨List.pairwise_append.mpr ⟨pl, List.pairwise_append.mpr ⟨d1, pr, fun a ha b hb e => nr b hb (by rw [← e]; exact d1a a ha)⟩, fun a ha b hb e => ?_⟩, fun q hq => ?_⟩⟩
  · rcases List.mem_append.mp hq with h | h
    · exact (hP q (List.mem_append_left _ h)).kept (hk q.1 (lt q (List.mem_append_left _ h)) (nl q h))
    · rcases List.mem_append.mp h with h | h
      · exact hP1 q h
      · exact (hP q (List.mem_append_right _ (List.mem_append_right _ h))).kept (hk q.1 (lt q (List.mem_append_right _ (List.mem_append_right _ h))) (nr q h))
  · rcases List.mem_append.mp hb with h | h
    · exact nl a ha (by rw [e]; exact d1a b h)
    · exact plx a ha b (List.mem_append_right _ h) e
  · rcases List.mem_append.mp hq with h | h
    · exact da q (List.mem_append_left _ h)
    · rcases List.mem_append.mp h with h | h
      · exact hF _ (d1a q h)
      · exact da q (List.mem_append_right _ (List.mem_append_right _ h))
theorem vz_F {A0 : Nat → Prop} {wl wc wr : va_W} {H0 H : Heap} {locs : List Loc} (hD : va_D A0 (wl ++ (wc ++ wr))) (hS : va_S A0 H0 H locs) (hA : ∀ q, H0.size ≤ q → A0 q) : ∀ q, va_A wc H.size q → A0 q := by
  rintro q (⟨k, e, hk⟩ | h)
  · exact (vz_D.mp hD).2 (q, e) (List.mem_append_right _ (List.mem_append_left _ (List.mem_of_getElem? hk)))
  · exact hA q (Nat.le_trans hS.1 h)
theorem vz_c {D : va_G} {cl : List vw_C} {wl wc wr : va_W} {H : Heap} (hP : va_P D cl (wl ++ (wc ++ wr)) H) : va_P D cl wc H := vz_P.mpr (fun q hq => vz_P.mp hP q (List.mem_append_right _ (List.mem_append_left _ hq)))
theorem vz_d {A0 : Nat → Prop} {wl wc wr : va_W} {sz : Nat} (hD : va_D A0 (wl ++ (wc ++ wr))) : va_D (va_A wc sz) wc := (vz_D.mpr ⟨(List.pairwise_append.mp (List.pairwise_append.mp (vz_D.mp hD).1).2.1).1, fun _ _ => trivial⟩ : va_D (fun _ => True) wc).self
def va_Qx (B : Option Value → State → Prop) (A : Nat → Prop) : Array Value → State → Outcome → State → Prop := fun _ st oc t => (∃ v : Option Value, oc = .returned v ∧ B v t) ∧ va_F A st t
def SX (U : State) : Prop := va_AO RX1 U ∧ va_AO RX6 U ∧ va_AO RX3 U ∧ va_Nw (.methodLinkNest RX0 21 yX1_init RX7) U ∧ va_Nw (.methodLinkNest RX7 24 yX1_init RX7) U ∧ va_Nw (.methodLinkNest RX7 31 yX5_init RX7) U ∧ va_Nw (.methodLinkNest RX7 59 yX4_init RX7) U ∧ va_Nw (.methodLinkNest RX7 84 yX3_init RX7) U
theorem SX.warm {s U : State} (hW : s.WarmedH U.vm) (h : SX s) : SX U := by
  obtain ⟨h1, h2, h3, h4, h5, h6, h7, h8⟩ := h
  have a := hW.alike
  exact ⟨h1.moved a, h2.moved a, h3.moved a, h4.warmM hW, h5.warmM hW, h6.warmM hW, h7.warmM hW, h8.warmM hW⟩
theorem SX.call {U : State} {g : JFrame} {mk : MethodId} {a : Array Value} (h : SX U) : SX (U.calling g mk a) := by
  obtain ⟨h1, h2, h3, h4, h5, h6, h7, h8⟩ := h
  have al : U.vm.Alike (U.calling g mk a).vm := Vm.Alike.refl U.vm
  exact ⟨h1.moved al, h2.moved al, h3.moved al, h4.same rfl rfl, h5.same rfl rfl, h6.same rfl rfl, h7.same rfl rfl, h8.same rfl rfl⟩
theorem XC.narrow {X : Nat → Nat} {A B : Nat → Prop} {U : State} {H : Heap} (h : XC X A U H) (hAB : ∀ q, B q → A q) : XC X B U H := by
  obtain ⟨h1, h2, h3, h4, h5, h6, h7, h8, h9, h10⟩ := h
  exact ⟨h1.narrow hAB, h2.narrow hAB, h3.narrow hAB, h4.narrow hAB, h5.narrow hAB, h6.narrow hAB, h7.narrow hAB, h8, h9.narrow hAB, h10.narrow hAB⟩
def PreX (ws : va_W) (D : va_G) (cy : Nat → ClassId) (A : Nat → Prop) (X : Nat → Nat) (sz : Nat) (U : State) : Prop := U.heap.size = sz ∧ va_P D rk_cl ws U.heap ∧ va_K D rk_cl (rk_tys cy) U ∧ va_D A ws ∧ XC X A U U.heap ∧ SX U
theorem rx_blind {av : List Value} {ws : va_W} {D : va_G} {cy : Nat → ClassId} {A : Nat → Prop} {X : Nat → Nat} {sz : Nat} : FrameBlind (va_Pc av (PreX ws D cy A X sz)) := fun a U g mk q => by
  obtain ⟨q0, qz, qP, qK, qD, qX, qS⟩ := q
  exact ⟨q0, qz, qP, va_K.moved (u := U) (U := U.calling g mk a) (Vm.Alike.refl U.vm) qK, qD, qX.call, qS.call⟩
def PostX (B : Option Value → va_W → Prop) (D : va_G) (A : Nat → Prop) (v : Option Value) (t : State) : Prop := ∃ w1, B v w1 ∧ va_P D rk_cl w1 t.heap ∧ va_D A w1
abbrev rmA (d mc ms : Nat) : Room := { frames := d, cells := mc, slots := ms, locals := 60 * d }
abbrev MetX (l : Launch) (y : MethodName) (cb : ByteArray) (mL : Nat) (ret : Option FieldType) (d mc ms : Nat) (av : List Value) (ws : va_W) (D : va_G) (cy : Nat → ClassId) (A : Nat → Prop) (X : Nat → Nat) (sz : Nat) (B : Option Value → va_W → Prop) : Prop :=
  Met l y (Cond.code y cb mL ret :: TT) (rmA d mc ms) (va_Pc av (PreX ws D cy A X sz)) (va_Qx (PostX B D A) A) mc ms A
def LkI (own : String) (idx : Nat) (y : MethodName) (cb : ByteArray) (mL n : Nat) : Prop :=
  Cond.methodLink own idx y ∈ TT ∧ Cond.instanceMethod y ∈ TT ∧ Cond.initialized y.cls ∈ TT ∧ Cond.code y cb mL none ∈ TT ∧ y.name = "<init>" ∧ (y.cls ≠ "java/lang/invoke/MethodHandle" ∧ y.cls ≠ "java/lang/invoke/VarHandle" ∧ (parseMethodDescriptor y.desc).map (fun d => d.parameters.length) = some n)
def LkJ (y : MethodName) (cb : ByteArray) (mL n : Nat) : Prop :=
  Cond.instanceMethod y ∈ TT ∧ Cond.initialized y.cls ∈ TT ∧ Cond.code y cb mL none ∈ TT ∧ y.name = "<init>" ∧ (y.cls ≠ "java/lang/invoke/MethodHandle" ∧ y.cls ≠ "java/lang/invoke/VarHandle" ∧ (parseMethodDescriptor y.desc).map (fun d => d.parameters.length) = some n)
section RX
variable {p : Program} {l : Launch} {e : Env} {R : Room} {s : State} {m : MethodId} {args : Array Value} {below : List Frame} {meth : Method} {c : Code} {H : Heap} {locs : List Loc} {cells slots : Nat} {Q : State → Prop}
  {pc : Nat} {ls : Array Slot} {rest st0 : List Value} {cc : ByteArray} {nL : Nat} {own : String} {D : va_G} {cy : Nat → ClassId} {A : Nat → Prop} {H0 : Heap} {X : Nat → Nat}
theorem va_callx {a : Array Value} {A0 A1 : Nat → Prop} {mc ms : Nat} {free : Addr → Prop} {B : Option Value → State → Prop} (hr : va_Run p l e R s m args below meth c H locs cells slots mc ms (F0 m pc ls st0) rest (va_Qx B A1 a) free) (hS : va_S A0 H0 H locs) (hA : ∀ q, q < H.size → A1 q → A0 q) (hf : ∀ q, free q → A0 q)
    (kk : ∀ (v : Option Value) (t : State) (H1 : Heap) (locs1 : List Loc), t.heap = H1 → s.vm.Alike t.vm → B v t → H.size ≤ H1.size → (∀ q : Nat, q < H.size → ¬ A1 q → H1[q]? = H[q]?) → va_S A0 H0 H1 locs1 → W p l e R s m args below meth c H1 locs1 (cells + mc) (slots + ms) Q (F0 m (pc + 3) ls (v.toList ++ rest))) : W p l e R s m args below meth c H locs cells slots Q (F0 m pc ls st0) := by
  intro T hT X
  obtain ⟨v, st₀, t, T', L, h0, X', hL, e1, e2, ⟨⟨v', hv, hb⟩, hz, hk⟩, st⟩ := hr T hT X
  cases hv
  rw [h0] at hz hk
  obtain ⟨t2, a1, b1⟩ := kk v t T'.heap (locs ++ L) e1.symm (by rw [← e2]; exact X'.warmed.alike) hb (by rw [e1]; exact hz) (fun q h1 h2 => by rw [e1]; exact hk q h1 h2)
    ⟨Nat.le_trans hS.1 (by rw [e1]; exact hz), fun q h1 h2 => by rw [e1, hk q (Nat.lt_of_lt_of_le h1 hS.1) (fun z => h2 (hA q (Nat.lt_of_lt_of_le h1 hS.1) z))]; exact hS.2.1 q h1 h2, fun q hq => by
      rcases List.mem_append.mp hq with h | h
      · exact hS.2.2 q h
      · exact hf _ (hL q h)⟩ T' rfl X'
  exact ⟨t2, st t2 a1, b1⟩
theorem rx_go {wl wc wr : va_W} {B : Option Value → va_W → Prop} {mc ms : Nat} {av : Array Value} (hr : va_Run p l e R s m args below meth c H locs cells slots mc ms (F0 m pc ls st0) rest (va_Qx (PostX B D (va_A wc H.size)) (va_A wc H.size) av) (va_A wc H.size)) (hw : Wd D A H0 (wl ++ (wc ++ wr)) H locs) (hA : ∀ q, H0.size ≤ q → A q)
    (kk : ∀ (v : Option Value) (w1 : va_W) (H1 : Heap) (locs1 : List Loc), B v w1 → Wd D A H0 (wl ++ (w1 ++ wr)) H1 locs1 → W p l e R s m args below meth c H1 locs1 (cells + mc) (slots + ms) Q (F0 m (pc + 3) ls (v.toList ++ rest))) : W p l e R s m args below meth c H locs cells slots Q (F0 m pc ls st0) := by
  have hF := vz_F hw.2.1 hw.2.2 hA
  refine va_callx hr hw.2.2 (fun q _ h => hF q h) hF (fun v t H1 locs1 ht hvm hB hz hk hS => ?_)
  obtain ⟨w1, hB, hP1, hD1⟩ := hB
  rw [ht] at hP1
  obtain ⟨hP, hD⟩ := va_joinM hw.1 hw.2.1 hk hF hP1 hD1
  exact kk v w1 H1 locs1 hB ⟨hP, hD, hS⟩
theorem rx_pre {wl wc wr : va_W} {av : List Value} (K : Kx p s m args meth c cc nL own D cy) (KX : XC X A s s.heap) (KS : SX s) (hw : Wd D A s.heap (wl ++ (wc ++ wr)) H locs) (hA : ∀ q, s.heap.size ≤ q → A q) : ∀ U : State, U.heap = H → s.WarmedH U.vm → va_Pc av (PreX wc D cy (va_A wc H.size) X H.size) av.toArray U :=
  fun U hU hW => ⟨rfl, by rw [hU], by rw [hU]; exact vz_c hw.1, va_K.moved hW.alike K.2.2.2.2.2.1, vz_d hw.2.1, (KX.step hw.2.2 hU hW).narrow (vz_F hw.2.1 hw.2.2 hA), KS.warm hW⟩
theorem rx_I {wl wc wr : va_W} {B : Option Value → va_W → Prop} {idx : Nat} {y : MethodName} {cb : ByteArray} {mL n d mc ms a : Nat} {As : List Value} (K : Kx p s m args meth c cc nL own D cy) (KX : XC X A s s.heap) (KS : SX s) (hA : ∀ q, s.heap.size ≤ q → A q) (hw : Wd D A s.heap (wl ++ (wc ++ wr)) H locs)
    (hM : MetX l y cb mL none d mc ms (.ref a :: As) wc D cy (va_A wc H.size) X H.size B) (L : LkI own idx y cb mL n) (hR : d + 1 ≤ R.frames ∧ 8 + (mL + 11) + 60 * d ≤ R.locals) (hC : cells + mc ≤ R.cells ∧ slots + ms ≤ R.slots) (hn : As.length = n) (hls : ls.size = nL) (hst : (rest.map fun v => v.category).sum ≤ 8) (hs0 : st0 = As.reverse ++ .ref a :: rest) (hdg : decode cc pc = .ok (.invokespecial idx, 3))
    (kk : ∀ (v : Option Value) (w1 : va_W) (H1 : Heap) (locs1 : List Loc), B v w1 → Wd D A s.heap (wl ++ (w1 ++ wr)) H1 locs1 → W p l e R s m args below meth c H1 locs1 (cells + mc) (slots + ms) Q (F0 m (pc + 3) ls (v.toList ++ rest))) : W p l e R s m args below meth c H locs cells slots Q (F0 m pc ls st0) := by
  subst hs0
  obtain ⟨hx, hb, hml, hown, hts, hK, -⟩ := id K
  obtain ⟨h1, h2, h3, h4, h5, h6⟩ := L
  refine rx_go (va_runI (As := As) (rest := rest) ⟨hx, hb, hml, hown, hts⟩ hM (cwI (Ts := TT) n hts (fun w hw => ?_) rfl rfl rfl (hts _ h3) (hts _ h1) (hts _ h2) h5 h6 hR) ⟨rx_blind, rx_pre K KX KS hw hA⟩ rfl hn hls rfl (lv_room hst) hdg hC) hw hA kk
  rcases List.mem_cons.mp hw with rfl | hw
  · exact rk_good _ h4
  · exact rk_good _ hw
theorem rx_J {wl wc wr : va_W} {B : Option Value → va_W → Prop} {idx : Nat} {host : String} {y : MethodName} {cb : ByteArray} {mL n d mc ms a : Nat} {As : List Value} (K : Kx p s m args meth c cc nL own D cy) (KX : XC X A s s.heap) (KS : SX s) (hA : ∀ q, s.heap.size ≤ q → A q) (hw : Wd D A s.heap (wl ++ (wc ++ wr)) H locs)
    (hM : MetX l y cb mL none d mc ms (.ref a :: As) wc D cy (va_A wc H.size) X H.size B) (hl : va_Nw (.methodLinkNest own idx y host) s) (L : LkJ y cb mL n) (hR : d + 1 ≤ R.frames ∧ 8 + (mL + 11) + 60 * d ≤ R.locals) (hC : cells + mc ≤ R.cells ∧ slots + ms ≤ R.slots) (hn : As.length = n) (hls : ls.size = nL) (hst : (rest.map fun v => v.category).sum ≤ 8) (hs0 : st0 = As.reverse ++ .ref a :: rest) (hdg : decode cc pc = .ok (.invokespecial idx, 3))
    (kk : ∀ (v : Option Value) (w1 : va_W) (H1 : Heap) (locs1 : List Loc), B v w1 → Wd D A s.heap (wl ++ (w1 ++ wr)) H1 locs1 → W p l e R s m args below meth c H1 locs1 (cells + mc) (slots + ms) Q (F0 m (pc + 3) ls (v.toList ++ rest))) : W p l e R s m args below meth c H locs cells slots Q (F0 m pc ls st0) := by
  subst hs0
  obtain ⟨hx, hb, hml, hown, hts, hK, -⟩ := id K
  obtain ⟨h2, h3, h4, h5, h6⟩ := L
  refine rx_go (va_runIN (As := As) (rest := rest) ⟨hx, hb, hml, hown, hts⟩ hM ⟨va_cnB (Ts := TT) n hts (fun w hw => ?_) rfl rfl rfl hl (hts _ h3) h6 hR, h5, hts _ h2⟩ ⟨rx_blind, rx_pre K KX KS hw hA⟩ rfl hn hls rfl (lv_room hst) hdg hC) hw hA kk
  rcases List.mem_cons.mp hw with rfl | hw
  · exact rk_good _ h4
  · exact rk_good _ hw
theorem rx_V {wl wc wr : va_W} {B : Option Value → va_W → Prop} {idx : Nat} {y : MethodName} {cb : ByteArray} {ret : Option FieldType} {mL n d mc ms a q0 ci : Nat} {q : vw_C} {fs : List Value} {As : List Value} (K : Kx p s m args meth c cc nL own D cy) (KX : XC X A s s.heap) (KS : SX s) (hA : ∀ q, s.heap.size ≤ q → A q) (hw : Wd D A s.heap (wl ++ (wc ++ wr)) H locs)
    (hM : MetX l y cb mL ret d mc ms (.ref a :: As) wc D cy (va_A wc H.size) X H.size B) (L : LkV own idx q.1 y cb mL ret n) (hc : rk_cl[ci]? = some q) (he : wc[q0]? = some (a, .inr (ci, fs))) (hR : d + 1 ≤ R.frames ∧ 8 + (mL + 11) + 60 * d ≤ R.locals) (hC : cells + mc ≤ R.cells ∧ slots + ms ≤ R.slots) (hn : As.length = n) (hls : ls.size = nL) (hst : (rest.map fun v => v.category).sum ≤ 8) (hs0 : st0 = As.reverse ++ .ref a :: rest) (hdg : decode cc pc = .ok (.invokevirtual idx, 3))
    (kk : ∀ (v : Option Value) (w1 : va_W) (H1 : Heap) (locs1 : List Loc), B v w1 → Wd D A s.heap (wl ++ (w1 ++ wr)) H1 locs1 → W p l e R s m args below meth c H1 locs1 (cells + mc) (slots + ms) Q (F0 m (pc + 3) ls (v.toList ++ rest))) : W p l e R s m args below meth c H locs cells slots Q (F0 m pc ls st0) := by
  subst hs0
  obtain ⟨hx, hb, hml, hown, hts, hK, -⟩ := id K
  obtain ⟨h1, h2, h3, h4, h5, h6⟩ := L
  refine rx_go (va_runV (As := As) (rest := rest) ⟨hx, hb, hml, hown, hts⟩ hM (cwV (Ts := TT) n hts (fun w hw => ?_) rfl rfl rfl h6 hR) ⟨rx_blind, va_recv hK (vz_c hw.1) hc he, rx_pre K KX KS hw hA⟩ rfl hn hls rfl (lv_room hst) hdg hC) hw hA kk
  have hm : w ∈ TT := by
    simp only [wsV, List.mem_append, List.mem_cons, List.not_mem_nil, or_false] at hw
    rcases hw with (rfl | rfl | rfl | rfl) | rfl | hw
    · exact h1
    · exact h2
    · exact h3
    · exact h4
    · exact h5
    · exact hw
  exact rk_good w hm
theorem rx_S {wl wc wr : va_W} {B : Option Value → va_W → Prop} {idx : Nat} {y : MethodName} {cb : ByteArray} {ret : Option FieldType} {mL n d mc ms : Nat} {As : List Value} (K : Kx p s m args meth c cc nL own D cy) (KX : XC X A s s.heap) (KS : SX s) (hA : ∀ q, s.heap.size ≤ q → A q) (hw : Wd D A s.heap (wl ++ (wc ++ wr)) H locs)
    (hM : MetX l y cb mL ret d mc ms As wc D cy (va_A wc H.size) X H.size B) (L : LkS own idx y cb mL ret n) (hR : d + 1 ≤ R.frames ∧ 8 + (mL + 11) + 60 * d ≤ R.locals) (hC : cells + mc ≤ R.cells ∧ slots + ms ≤ R.slots) (hn : As.length = n) (hls : ls.size = nL) (hst : (rest.map fun v => v.category).sum ≤ 8) (hs0 : st0 = As.reverse ++ rest) (hdg : decode cc pc = .ok (.invokestatic idx, 3))
    (kk : ∀ (v : Option Value) (w1 : va_W) (H1 : Heap) (locs1 : List Loc), B v w1 → Wd D A s.heap (wl ++ (w1 ++ wr)) H1 locs1 → W p l e R s m args below meth c H1 locs1 (cells + mc) (slots + ms) Q (F0 m (pc + 3) ls (v.toList ++ rest))) : W p l e R s m args below meth c H locs cells slots Q (F0 m pc ls st0) := by
  subst hs0
  obtain ⟨hx, hb, hml, hown, hts, hK, -⟩ := id K
  obtain ⟨h1, h2, h3, h4, h5⟩ := L
  refine rx_go (va_runS (As := As) (rest := rest) ⟨hx, hb, hml, hown, hts⟩ hM ⟨callB_of (Ts := TT) n hts (fun w hw => ?_) rfl rfl rfl (hts _ h3) (hts _ h1) h5 hR, hts _ h2⟩ ⟨rx_blind, rx_pre K KX KS hw hA⟩ rfl hn hls rfl (lv_room hst) hdg hC) hw hA kk
  rcases List.mem_cons.mp hw with rfl | hw
  · exact rk_good _ h4
  · exact rk_good _ hw
/-- new objects and arrays -/
theorem rx_new {C : String} {T : u_T} {N ci : Nat} (lay : ∀ w ∈ u_ws C T N, w ∈ TT) (hc : rk_cl[ci]? = some (C, T, N)) {ty0 : Nat → FieldType} (hty : ∀ k, k < N → parseFieldDescriptor (T k).2.2.1 = some (ty0 k)) {idx : Nat} {fs : List Value} {ws : va_W} (K : Kx p s m args meth c cc nL own D cy) (hA : ∀ q, H0.size ≤ q → A q) (hw : Wd D A H0 ws H locs)
    (hcl : Cond.classLink own idx C ∈ TT) (hinst : Cond.instantiable C N ∈ TT) (hini : Cond.initialized C ∈ TT) (hfs : ∀ j, j < N → defaultValue (ty0 j) = vp_V fs j) (hcells : cells + 1 ≤ R.cells) (hslots : slots + N ≤ R.slots) (hdg : decode cc pc = .ok (.new idx, 3))
    (kk : ∀ (q : Nat) (H1 : Heap), Wd D A H0 (ws ++ [(q, .inr (ci, fs))]) H1 locs → W p l e R s m args below meth c H1 locs (cells + 1) (slots + N) Q (F0 m (pc + 3) ls (.ref q :: rest))) : W p l e R s m args below meth c H locs cells slots Q (F0 m pc ls rest) := by
  obtain ⟨hx, hb, hml, hown, hts, hK, -⟩ := id K
  exact va_new (ci := ci) (fs := fs) (C := C) (T := T) (N := N) hx hb hts lay ty0 hty hown (hts _ hcl) (hts _ hinst) (hts _ hini) hK hw.1 hw.2.1 hw.2.2 hA hc hfs hcells hslots hdg (fun q H1 hP hD hS => kk q H1 ⟨hP, hD, hS⟩)
theorem rx_newi {n : Int32} {N : Nat} {ws : va_W} (K : Kx p s m args meth c cc nL own D cy) (hA : ∀ q, H0.size ≤ q → A q) (hw : Wd D A H0 ws H locs) (har : Cond.arrayClass .int ∈ TT) (hn : ¬ n < 0) (hN : n.toNatClampNeg = N) (hbytes : N * 4 ≤ 536870912) (hcells : cells + 1 ≤ R.cells) (hslots : slots + N ≤ R.slots) (hdg : decode cc pc = .ok (.newarray .int, 2))
    (kk : ∀ (q : Nat) (H1 : Heap), Wd D A H0 (ws ++ [(q, .inl (cy 0, N, .inl (fun _ => 0)))]) H1 locs → W p l e R s m args below meth c H1 locs (cells + 1) (slots + N) Q (F0 m (pc + 2) ls (.ref q :: rest))) : W p l e R s m args below meth c H locs cells slots Q (F0 m pc ls (.int n :: rest)) := by
  obtain ⟨hx, hb, hml, hown, hts, hK, -⟩ := id K
  refine va_newa (atype := .int) (ty := .int) (a0 := (N, .inl (fun _ => 0))) hx hb (hts _ har) rfl hK hw.1 hw.2.1 hw.2.2 hA (fun cA => by rw [vp_cell_i]; rfl) hn hN hbytes hcells hslots hdg (fun q cA H1 hKn hP hD hS => ?_)
  have e1 : va_RA s (cy 0) .int := (hK.2 0 (cy 0, .int) rfl).2
  have e2 : va_RA s cA .int := (hKn.2 5 (cA, .int) rfl).2
  have e : cA = cy 0 := Option.some.inj (Eq.trans (Eq.symm e2) e1)
  subst e
  exact kk q H1 ⟨hP, hD, hS⟩
theorem rx_newz {n : Int32} {N : Nat} {ws : va_W} (K : Kx p s m args meth c cc nL own D cy) (hA : ∀ q, H0.size ≤ q → A q) (hw : Wd D A H0 ws H locs) (har : Cond.arrayClass .boolean ∈ TT) (hn : ¬ n < 0) (hN : n.toNatClampNeg = N) (hbytes : N * 1 ≤ 536870912) (hcells : cells + 1 ≤ R.cells) (hslots : slots + N ≤ R.slots) (hdg : decode cc pc = .ok (.newarray .boolean, 2))
    (kk : ∀ (q : Nat) (H1 : Heap), Wd D A H0 (ws ++ [(q, .inl (cy 1, N, .inl (fun _ => 0)))]) H1 locs → W p l e R s m args below meth c H1 locs (cells + 1) (slots + N) Q (F0 m (pc + 2) ls (.ref q :: rest))) : W p l e R s m args below meth c H locs cells slots Q (F0 m pc ls (.int n :: rest)) := by
  obtain ⟨hx, hb, hml, hown, hts, hK, -⟩ := id K
  refine va_newa (atype := .boolean) (ty := .boolean) (a0 := (N, .inl (fun _ => 0))) hx hb (hts _ har) rfl hK hw.1 hw.2.1 hw.2.2 hA (fun cA => by rw [vp_cell_i]; rfl) hn hN hbytes hcells hslots hdg (fun q cA H1 hKn hP hD hS => ?_)
  have e1 : va_RA s (cy 1) .boolean := (hK.2 1 (cy 1, .boolean) rfl).2
  have e2 : va_RA s cA .boolean := (hKn.2 5 (cA, .boolean) rfl).2
  have e : cA = cy 1 := Option.some.inj (Eq.trans (Eq.symm e2) e1)
  subst e
  exact kk q H1 ⟨hP, hD, hS⟩
theorem rx_newq {n : Int32} {N t0 idx : Nat} {C : String} {ws : va_W} (K : Kx p s m args meth c cc nL own D cy) (hA : ∀ q, H0.size ≤ q → A q) (hw : Wd D A H0 ws H locs) (hao : va_AO C s) (hcl : Cond.classLink own idx C ∈ TT) (ht : (rk_tys cy)[t0]? = some (cy t0, .object C)) (hn : ¬ n < 0) (hN : n.toNatClampNeg = N) (hbytes : N * 4 ≤ 536870912) (hcells : cells + 1 ≤ R.cells) (hslots : slots + N ≤ R.slots) (hdg : decode cc pc = .ok (.anewarray idx, 3))
    (kk : ∀ (q : Nat) (H1 : Heap), Wd D A H0 (ws ++ [(q, .inl (cy t0, N, rf5 (fun _ => none)))]) H1 locs → W p l e R s m args below meth c H1 locs (cells + 1) (slots + N) Q (F0 m (pc + 3) ls (.ref q :: rest))) : W p l e R s m args below meth c H locs cells slots Q (F0 m pc ls (.int n :: rest)) := by
  obtain ⟨hx, hb, hml, hown, hts, hK, -⟩ := id K
  refine va_newq (C := C) hx hb hown (hts _ hcl) hao hK hw.1 hw.2.1 hw.2.2 hA hn hN hbytes hcells hslots hdg (fun q cA H1 hKn hP hD hS => ?_)
  obtain ⟨-, -, -, -, -, e1⟩ := (hK.2 t0 (cy t0, .object C) ht).2
  obtain ⟨-, -, -, -, -, e2⟩ := (hKn.2 5 (cA, .object C) rfl).2
  have e : cA = cy t0 := Option.some.inj (Eq.trans (Eq.symm e2) e1)
  subst e
  exact kk q H1 ⟨hP, hD, hS⟩
/-- fields of any world -/
theorem rx_put {C : String} {T : u_T} {N ci : Nat} (lay : ∀ w ∈ u_ws C T N, w ∈ TT) (hc : rk_cl[ci]? = some (C, T, N)) {ty0 : Nat → FieldType} (hty : ∀ k, k < N → parseFieldDescriptor (T k).2.2.1 = some (ty0 k)) (hnm : ∀ a, a < N → ∀ b, b < N → a ≠ b → (T a).2.1 ≠ (T b).2.1) (j : Nat) (hj : j < N) {idx k a : Nat} {fs : List Value} {v : Value} {ty : FieldType} {ws : va_W} (K : Kx p s m args meth c cc nL own D cy) (hw : Wd D A H0 ws H locs) (he : ws[k]? = some (a, .inr (ci, fs))) (hL : Cond.fieldLink own idx (T j).1 (T j).2.1 (T j).2.2.1 ∈ TT) (hfin : (T j).2.2.2 = false) (htyj : parseFieldDescriptor (T j).2.2.1 = some ty) (hn : narrow ty v = v) (hf : fits ty v = true) (hlen : j < fs.length) (hdg : decode cc pc = .ok (.putfield idx, 3))
    (kk : ∀ (H1 : Heap) (locs1 : List Loc), Wd D A H0 (ws.set k (a, .inr (ci, fs.set j v))) H1 locs1 → W p l e R s m args below meth c H1 locs1 cells slots Q (F0 m (pc + 3) ls rest)) : W p l e R s m args below meth c H locs cells slots Q (F0 m pc ls (v :: .ref a :: rest)) := by
  obtain ⟨hx, hb, hml, hown, hts, hK, -⟩ := id K
  exact va_put (D := D) (ci := ci) (C := C) (T := T) (N := N) hx hb hts lay ty0 hty hnm hown hK hw.1 hw.2.1 hw.2.2 k he hc j hj (hts _ hL) (fun _ h => h) hfin htyj hn hf hlen hdg (fun H1 locs1 hP hD hS => kk H1 locs1 ⟨hP, hD, hS⟩)
theorem rx_putF {C : String} {T : u_T} {N ci : Nat} (lay : ∀ w ∈ u_ws C T N, w ∈ TT) (hc : rk_cl[ci]? = some (C, T, N)) {ty0 : Nat → FieldType} (hty : ∀ k, k < N → parseFieldDescriptor (T k).2.2.1 = some (ty0 k)) (hnm : ∀ a, a < N → ∀ b, b < N → a ≠ b → (T a).2.1 ≠ (T b).2.1) (j : Nat) (hj : j < N) {idx k a : Nat} {fs : List Value} {v : Value} {ty : FieldType} {ws : va_W} (K : Kx p s m args meth c cc nL own D cy) (hw : Wd D A H0 ws H locs) (he : ws[k]? = some (a, .inr (ci, fs))) (hL : Cond.fieldLink own idx (T j).1 (T j).2.1 (T j).2.2.1 ∈ TT) (hfin : (T j).2.2.2 = true) (hin : meth.name = "<init>") (hdc : (T j).1 = own) (htyj : parseFieldDescriptor (T j).2.2.1 = some ty) (hn : narrow ty v = v) (hf : fits ty v = true) (hlen : j < fs.length) (hdg : decode cc pc = .ok (.putfield idx, 3))
    (kk : ∀ (H1 : Heap) (locs1 : List Loc), Wd D A H0 (ws.set k (a, .inr (ci, fs.set j v))) H1 locs1 → W p l e R s m args below meth c H1 locs1 cells slots Q (F0 m (pc + 3) ls rest)) : W p l e R s m args below meth c H locs cells slots Q (F0 m pc ls (v :: .ref a :: rest)) := by
  obtain ⟨hx, hb, hml, hown, hts, hK, -⟩ := id K
  exact va_putF (D := D) (ci := ci) (C := C) (T := T) (N := N) hx hb hts lay ty0 hty hnm hown hK hw.1 hw.2.1 hw.2.2 k he hc j hj (hts _ hL) (fun _ h => h) hfin hin hdc htyj hn hf hlen hdg (fun H1 locs1 hP hD hS => kk H1 locs1 ⟨hP, hD, hS⟩)
theorem rx_astq {k qk ci t0 a n v : Nat} {i : Int32} {r : vw_C} {vs : List Value} {f : Nat → Option Nat} {ws : va_W} (K : Kx p s m args meth c cc nL own D cy) (hw : Wd D A H0 ws H locs) (he : ws[k]? = some (a, .inl (cy t0, n, rf5 f))) (ht : (rk_tys cy)[t0]? = some (cy t0, .object r.1)) (hv : ws[qk]? = some (v, .inr (ci, vs))) (hc : rk_cl[ci]? = some r) (hin : vp_in i n) (hdg : decode cc pc = .ok (.aastore, 1))
    (kk : ∀ (H1 : Heap) (locs1 : List Loc), Wd D A H0 (ws.set k (a, .inl (cy t0, n, rf5 (va_up f i.toNatClampNeg (some v))))) H1 locs1 → W p l e R s m args below meth c H1 locs1 cells slots Q (F0 m (pc + 1) ls rest)) : W p l e R s m args below meth c H locs cells slots Q (F0 m pc ls (.ref v :: .int i :: .ref a :: rest)) := by
  obtain ⟨hx, hb, hml, hown, hts, hK, -⟩ := id K
  exact va_astq hx hb hK hw.1 hw.2.1 hw.2.2 k t0 qk ci he ht hv hc hin hdg (fun H1 locs1 hP hD hS => kk H1 locs1 ⟨hP, hD, hS⟩)
theorem rx_iast {k a n : Nat} {i x : Int32} {f : Nat → Int32} {ws : va_W} (K : Kx p s m args meth c cc nL own D cy) (hw : Wd D A H0 ws H locs) (he : ws[k]? = some (a, .inl (cy 0, n, .inl f))) (hin : vp_in i n) (hdg : decode cc pc = .ok (.iastore, 1))
    (kk : ∀ (H1 : Heap) (locs1 : List Loc), Wd D A H0 (ws.set k (a, .inl (cy 0, n, .inl (upd f i.toNatClampNeg x)))) H1 locs1 → W p l e R s m args below meth c H1 locs1 cells slots Q (F0 m (pc + 1) ls rest)) : W p l e R s m args below meth c H locs cells slots Q (F0 m pc ls (.int x :: .int i :: .ref a :: rest)) := by
  obtain ⟨hx, hb, hml, hown, hts, hK, -⟩ := id K
  exact va_iast hx hb hK hw.1 hw.2.1 hw.2.2 k 0 he rfl hin hdg (fun H1 locs1 hP hD hS => kk H1 locs1 ⟨hP, hD, hS⟩)
/-- ends -/
theorem rx_vret {B : Option Value → va_W → Prop} {ws : va_W} {mc ms : Nat} (K : Kx p s m args meth c cc nL own D cy) (hw : Wd D A s.heap ws H locs) (hr : meth.sig.returnType = none) (hd : B none ws) (hdg : decode cc pc = .ok (.return_, 1)) : W p l e R s m args below meth c H locs mc ms (MQ below (va_Qx (PostX B D A) A) args s mc ms A) (F0 m pc ls []) := by
  obtain ⟨hx, hb, hml, hown, hts, hK, hlocks⟩ := id K
  exact W.vret hx hb hr (fun t ht hW => ⟨⟨none, rfl, ws, hd, by rw [ht]; exact hw.1, hw.2.1⟩, hw.2.2.F ht⟩) hw.2.2.2.2 hdg hlocks
theorem rx_aret {B : Option Value → va_W → Prop} {ws : va_W} {mc ms : Nat} {v : Value} {rt : FieldType} (K : Kx p s m args meth c cc nL own D cy) (hw : Wd D A s.heap ws H locs) (hr : meth.sig.returnType = some rt) (hrt : (∃ n, rt = .object n) ∨ ∃ t, rt = .array t) (hv : v = .null ∨ ∃ a, v = .ref a) (hd : B (some v) ws) (hdg : decode cc pc = .ok (.areturn, 1)) : W p l e R s m args below meth c H locs mc ms (MQ below (va_Qx (PostX B D A) A) args s mc ms A) (F0 m pc ls [v]) := by
  obtain ⟨hx, hb, hml, hown, hts, hK, hlocks⟩ := id K
  exact W.aret (v := v) hx hb hr hrt hv (fun t ht hW => ⟨⟨some v, rfl, ws, hd, by rw [ht]; exact hw.1, hw.2.1⟩, hw.2.2.F ht⟩) hw.2.2.2.2 hdg hlocks
theorem rx_iret {B : Option Value → va_W → Prop} {ws : va_W} {mc ms : Nat} {v : Int32} (K : Kx p s m args meth c cc nL own D cy) (hw : Wd D A s.heap ws H locs) (hr : meth.sig.returnType = some .int) (hd : B (some (.int v)) ws) (hdg : decode cc pc = .ok (.ireturn, 1)) : W p l e R s m args below meth c H locs mc ms (MQ below (va_Qx (PostX B D A) A) args s mc ms A) (F0 m pc ls [.int v]) := by
  obtain ⟨hx, hb, hml, hown, hts, hK, hlocks⟩ := id K
  exact W.iret (v := v) hx hb hr (fun t ht hW => ⟨⟨some (.int v), rfl, ws, hd, by rw [ht]; exact hw.1, hw.2.1⟩, hw.2.2.F ht⟩) hw.2.2.2.2 hdg hlocks
end RX
end
