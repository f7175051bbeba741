/-! ===== more rows over the world of the class ===== -/
abbrev va_Qt (ad : Nat → Nat) (Q : Nat → Sg → Prop) (B : Sg → State → Prop) (A : Nat → Prop) : Array Value → State → Outcome → State → Prop := va_Qr (fun q : Sg × Nat => Q q.2 q.1) (fun q a t => a = ad q.2 ∧ B q.1 t) A
def LkN (own : String) (idx : Nat) : Prop := Cond.methodLink own idx arraycopyName ∈ TT ∧ Cond.native arraycopyName ∈ TT ∧ Cond.static arraycopyName ∈ TT ∧ Cond.initialized "java/lang/System" ∈ TT
section RKD
variable {p : Program} {l : Launch} {e : Env} {R : Room} {s : State} {m : MethodId} {args : Array Value} {below : List Frame} {meth : Method} {c : Code} {H : Heap} {locs : List Loc} {cells slots : Nat} {Q : State → Prop}
  {pc : Nat} {ls : Array Slot} {rest : List Value} {cc : ByteArray} {nL : Nat} {own : String} {D : va_G} {cy : Nat → ClassId} {A : Nat → Prop} {H0 : Heap} {wf : Sg → va_W} {σ : Sg} {X : Nat → Nat} {ad : Nat → Nat} {nt : Nat}
theorem rkc_ui {idx : Nat} {y : MethodName} {cb : ByteArray} {mL n : Nat} {ret : Option FieldType} {d : Nat} {a : Nat} {C : String} {As : List Value} {P : Int32 → Sg → Prop}
    (K : Kx p s m args meth c cc nL own D cy) (KX : XC X A s s.heap) (hw : Wd D A s.heap (wf σ) H locs)
    (hM : Met l y (Cond.code y cb mL ret :: TT) (rmD d) (va_Pc (.ref a :: As) (PreC wf D cy A X σ)) (va_Qi P (PostG wf D A) A) 0 0 A)
    (L : LkV own idx C y cb mL ret n) (hrc : ∃ cell : Cell, H[a]? = some cell ∧ cell.vm.isStatics = false ∧ s.vm.findClass C = some cell.cls)
    (hR : d + 1 ≤ R.frames ∧ 8 + (mL + 11) + 60 * d ≤ R.locals) (hC : cells ≤ R.cells ∧ slots ≤ R.slots) (hn : As.length = n) (hls : ls.size = nL) (hst : (rest.map fun v => v.category).sum ≤ 8)
    {st0 : List Value} (hs0 : st0 = As.reverse ++ .ref a :: rest) (hdg : decode cc pc = .ok (.invokevirtual idx, 3))
    (kk : ∀ (r : Int32) (u : Sg) (H1 : Heap) (locs1 : List Loc), P r u → Wd D A s.heap (wf u) H1 locs1 → W p l e R s m args below meth c H1 locs1 cells slots Q (F0 m (pc + 3) ls (.int r :: rest))) : W p l e R s m args below meth c H locs cells slots Q (F0 m pc ls st0) := by
  subst hs0
  obtain ⟨hx, hb, hml, hown, hts, hK, -⟩ := id K
  refine va_calli (cells := cells) (slots := slots) (A1 := A) (va_runV (As := As) (rest := rest) ⟨hx, hb, hml, hown, hts⟩ hM (rk_cwV K L hR) ⟨rkc_blind, hrc, fun U hU hW => ⟨rfl, ⟨by rw [hU]; exact hw.1, va_K.moved hW.alike hK, hw.2.1⟩, KX.step hw.2.2 hU hW⟩⟩ rfl hn hls rfl (lv_room hst) hdg hC) hw.2.2 (fun q _ h => h) (fun q h => h) (fun r u t H1 locs1 ht hvm hq hB hz hk hS => ?_)
  exact kk r u H1 locs1 hq ⟨by rw [← ht]; exact hB.1, hB.2, hS⟩
theorem rkc_vt {idx : Nat} {y : MethodName} {cb : ByteArray} {mL n : Nat} {ret : Option FieldType} {d : Nat} {a q0 ci : Nat} {q : vw_C} {fs : List Value} {As : List Value} {P : Nat → Sg → Prop}
    (K : Kx p s m args meth c cc nL own D cy) (KX : XC X A s s.heap) (hw : Wd D A s.heap (wf σ) H locs)
    (hM : Met l y (Cond.code y cb mL ret :: TT) (rmD d) (va_Pc (.ref a :: As) (PreC wf D cy A X σ)) (va_Qt ad P (PostG wf D A) A) 0 0 A)
    (L : LkV own idx q.1 y cb mL ret n) (hc : rk_cl[ci]? = some q) (he : (wf σ)[q0]? = some (a, .inr (ci, fs)))
    (hR : d + 1 ≤ R.frames ∧ 8 + (mL + 11) + 60 * d ≤ R.locals) (hC : cells ≤ R.cells ∧ slots ≤ R.slots) (hn : As.length = n) (hls : ls.size = nL) (hst : (rest.map fun v => v.category).sum ≤ 8)
    {st0 : List Value} (hs0 : st0 = As.reverse ++ .ref a :: rest) (hdg : decode cc pc = .ok (.invokevirtual idx, 3))
    (kk : ∀ (r : Nat) (u : Sg) (H1 : Heap) (locs1 : List Loc), P r u → Wd D A s.heap (wf u) H1 locs1 → W p l e R s m args below meth c H1 locs1 cells slots Q (F0 m (pc + 3) ls (.ref (ad r) :: rest))) : W p l e R s m args below meth c H locs cells slots Q (F0 m pc ls st0) := by
  subst hs0
  obtain ⟨hx, hb, hml, hown, hts, hK, -⟩ := id K
  refine va_callr (cells := cells) (slots := slots) (A1 := A) (va_runV (As := As) (rest := rest) ⟨hx, hb, hml, hown, hts⟩ hM (rk_cwV K L hR) ⟨rkc_blind, va_recv hK hw.1 hc he, fun U hU hW => ⟨rfl, ⟨by rw [hU]; exact hw.1, va_K.moved hW.alike hK, hw.2.1⟩, KX.step hw.2.2 hU hW⟩⟩ rfl hn hls rfl (lv_room hst) hdg hC) hw.2.2 (fun q _ h => h) (fun q h => h) (fun u a2 t H1 locs1 ht hvm hq hB hz hk hS => ?_)
  obtain ⟨u, r⟩ := u
  obtain ⟨rfl, hB⟩ := hB
  exact kk r u H1 locs1 hq ⟨by rw [← ht]; exact hB.1, hB.2, hS⟩
theorem rk_nret {P : Int32 → Sg → Prop} {v : Int32} {ty : FieldType} (K : Kx p s m args meth c cc nL own D cy) (hw : Wd D A s.heap (wf σ) H locs) (hr : meth.sig.returnType = some ty) (hz : narrow ty (.int v) = .int v) (hd : P v σ) (hdg : decode cc pc = .ok (.ireturn, 1)) :
    W p l e R s m args below meth c H locs 0 0 (MQ below (va_Qi P (PostG wf D A) A) args s 0 0 A) (F0 m pc ls [.int v]) := by
  obtain ⟨hx, hb, hml, hown, hts, hK, hlocks⟩ := id K
  exact W.zret (v := v) hx hb hr hz (fun t ht hW => ⟨⟨v, σ, rfl, hd, by rw [ht]; exact hw.1, hw.2.1⟩, hw.2.2.F ht⟩) hw.2.2.2.2 hdg hlocks
theorem rkc_tret {P : Nat → Sg → Prop} {v : Nat} {C : String} (K : Kx p s m args meth c cc nL own D cy) (hw : Wd D A s.heap (wf σ) H locs) (hr : meth.sig.returnType = some (.object C)) (hd : P v σ) (hdg : decode cc pc = .ok (.areturn, 1)) :
    W p l e R s m args below meth c H locs 0 0 (MQ below (va_Qt ad P (PostG wf D A) A) args s 0 0 A) (F0 m pc ls [.ref (ad v)]) := by
  obtain ⟨hx, hb, hml, hown, hts, hK, hlocks⟩ := id K
  exact W.aret (v := .ref (ad v)) hx hb hr (Or.inl ⟨_, rfl⟩) (Or.inr ⟨_, rfl⟩) (fun t ht hW => ⟨⟨(σ, v), ad v, rfl, hd, rfl, by rw [ht]; exact hw.1, hw.2.1⟩, hw.2.2.F ht⟩) hw.2.2.2.2 hdg hlocks
theorem cellC_eq (cy : Nat → ClassId) (ad : Nat → Nat) {σ σ' : Sg} {i : Nat} (e : σ' i = σ i) (el : 50 ≤ i → lenT σ' i = lenT σ i) : cellC cy ad σ' i = cellC cy ad σ i := by
  have e0 : i = 0 → ∀ b, σ' 0 b = σ 0 b := fun q b => by subst q; rw [e]
  have e8 : i = 8 → ∀ b, σ' 8 b = σ 8 b := fun q b => by subst q; rw [e]
  have e10 : i = 10 → ∀ b, σ' 10 b = σ 10 b := fun q b => by subst q; rw [e]
  have e12 : i = 12 → ∀ b, σ' 12 b = σ 12 b := fun q b => by subst q; rw [e]
  have e22 : i = 22 → ∀ b, σ' 22 b = σ 22 b := fun q b => by subst q; rw [e]
  unfold cellC
  by_cases h0 : i = 0
  · simp only [h0, if_true, fsO, e0 h0]
  rw [if_neg h0, if_neg h0]
  by_cases h1 : i < 4
  · simp only [h1, if_true, fsB, e]
  rw [if_neg h1, if_neg h1]
  by_cases h2 : i < 7
  · simp only [h2, if_true]
  rw [if_neg h2, if_neg h2]
  by_cases h3 : i = 7
  · simp only [if_pos h3, fsP, e]
  rw [if_neg h3, if_neg h3]
  by_cases h4 : i = 8
  · simp only [if_pos h4, fsTp, e8 h4]
  rw [if_neg h4, if_neg h4]
  by_cases h5 : i = 10
  · simp only [if_pos h5, fsPr, e10 h5]
  rw [if_neg h5, if_neg h5]
  by_cases h6 : i = 12
  · simp only [if_pos h6, e12 h6]
  rw [if_neg h6, if_neg h6]
  by_cases h7 : i = 13
  · simp only [if_pos h7]
  rw [if_neg h7, if_neg h7]
  by_cases h8 : i = 22
  · simp only [if_pos h8, fsTa, e22 h8]
  rw [if_neg h8, if_neg h8]
  by_cases h9 : 14 ≤ i ∧ i < 18
  · simp only [if_pos h9, fsS, e]
  rw [if_neg h9, if_neg h9]
  by_cases ha : 26 ≤ i ∧ i < 50
  · simp only [if_pos ha, fsP, e]
  rw [if_neg ha, if_neg ha]
  by_cases hb : i < 50
  · simp only [if_pos hb, e]
  rw [if_neg hb, if_neg hb]
  by_cases hc : i % 3 = 2
  · simp only [if_pos hc, fsT, e]
  · simp only [if_neg hc, e, el (by omega)]
theorem wr_ne {σ : Sg} {k i : Nat} {f : Nat → Int32} (h : i ≠ k) : wr σ k f i = σ i := by funext b; simp [wr, h]
theorem wr_at {σ : Sg} {k : Nat} {f : Nat → Int32} : wr σ k f k = f := by funext b; simp [wr]
theorem ww_I (cy : Nat → ClassId) (nt : Nat) (ad : Nat → Nat) (σ : Sg) {k : Nat} (f : Nat → Int32) (h : isI k) : (wsC cy nt ad σ).set k (ad k, .inl (cy 0, 40, .inl f)) = wsC cy nt ad (wr σ k f) :=
  wsC_set (by have := h.2; omega) (by rw [cc_I cy ad _ h, wr_at]) (fun j hj => cellC_eq cy ad (wr_ne hj) (fun h5 => by unfold lenT; rw [wr_ne (by have := h.2; omega)]))
theorem rc_copy {k1 k2 idx : Nat} {sp dp n : Int32} (K : Kx p s m args meth c cc nL own D cy) (hw : Wd D A s.heap (wsC cy nt ad σ) H locs) (hml : c.maxLocals = ls.size) (L : LkN own idx) (h1 : isI k1) (h2 : isI k2)
    (hb : ¬ sp < 0 ∧ ¬ dp < 0 ∧ ¬ n < 0 ∧ sp.toNatClampNeg + n.toNatClampNeg ≤ 40 ∧ dp.toNatClampNeg + n.toNatClampNeg ≤ 40) (hf : 1 ≤ R.frames) (hl : (rest.map fun v => v.category).sum + (nativeFrameWords "java/lang/System" "arraycopy" 5 + 11) ≤ R.locals) (hdg : decode cc pc = .ok (.invokestatic idx, 3))
    (kk : ∀ (σ1 : Sg), σ1 = wr σ k2 (va_cpy (σ k1) (σ k2) sp.toNatClampNeg dp.toNatClampNeg n.toNatClampNeg) → ∀ (H1 : Heap) (locs1 : List Loc), Wd D A s.heap (wsC cy nt ad σ1) H1 locs1 → W p l e R s m args below meth c H1 locs1 cells slots Q (F0 m (pc + 3) ls rest)) : W p l e R s m args below meth c H locs cells slots Q (F0 m pc ls (.int n :: .int dp :: .ref (ad k2) :: .int sp :: .ref (ad k1) :: rest)) := by
  obtain ⟨hx, hb0, -, hown, hts, hK, -⟩ := id K
  obtain ⟨l1, l2, l3, l4⟩ := L
  refine va_copyi (ty := .int) hx hb0 hml hown (hts _ l1) (hts _ l2) (hts _ l3) (hts _ l4) hK hw.1 hw.2.1 hw.2.2 k1 k2 0 0 (wc_I cy nt ad σ h1) (wc_I cy nt ad σ h2) rfl rfl rfl hb.1 hb.2.1 hb.2.2.1 hb.2.2.2.1 hb.2.2.2.2 (fun i _ => rfl) hf hl hdg (fun H1 locs1 hP hD hS => ?_)
  rw [ww_I cy nt ad σ _ h2] at hP hD
  exact kk _ rfl H1 locs1 ⟨hP, hD, hS⟩
end RKD
abbrev RT : Type := Nat → Int32 → Sg → (Int32 → Sg → Prop) → Prop
def HrecP (l : Launch) (D : va_G) (cy : Nat → ClassId) (nt : Nat) (ad : Nat → Nat) (A : Nat → Prop) (X : Nat → Nat) (rec : RT) (r : Nat) : Prop :=
  (∀ (g : Sg) (Q : Int32 → Sg → Prop) (x : Int32), rec 0 x g Q → Met l yX2_either (Cond.code yX2_either cX2_either 3 (some .boolean) :: TT) (rmD r) (va_Pc [.ref (ad 10), .int x] (PreC (wsC cy nt ad) D cy A X g)) (va_Qi Q (PostG (wsC cy nt ad) D A) A) 0 0 A) ∧
  (∀ (g : Sg) (Q : Int32 → Sg → Prop) (x : Int32), rec 1 x g Q → Met l yX2_both (Cond.code yX2_both cX2_both 3 (some .boolean) :: TT) (rmD r) (va_Pc [.ref (ad 10), .int x] (PreC (wsC cy nt ad) D cy A X g)) (va_Qi Q (PostG (wsC cy nt ad) D A) A) 0 0 A) ∧
  (∀ (g : Sg) (Q : Int32 → Sg → Prop) (x : Int32), rec 2 x g Q → Met l yX2_negation (Cond.code yX2_negation cX2_negation 3 (some .boolean) :: TT) (rmD r) (va_Pc [.ref (ad 10), .int x] (PreC (wsC cy nt ad) D cy A X g)) (va_Qi Q (PostG (wsC cy nt ad) D A) A) 0 0 A) ∧
  (∀ (g : Sg) (Q : Int32 → Sg → Prop) (x : Int32), rec 3 x g Q → Met l yX2_sum (Cond.code yX2_sum cX2_sum 4 (some .boolean) :: TT) (rmD r) (va_Pc [.ref (ad 10), .int x] (PreC (wsC cy nt ad) D cy A X g)) (va_Qi Q (PostG (wsC cy nt ad) D A) A) 0 0 A) ∧
  (∀ (g : Sg) (Q : Int32 → Sg → Prop) (x : Int32), rec 4 x g Q → Met l yX2_term (Cond.code yX2_term cX2_term 3 (some .boolean) :: TT) (rmD r) (va_Pc [.ref (ad 10), .int x] (PreC (wsC cy nt ad) D cy A X g)) (va_Qi Q (PostG (wsC cy nt ad) D A) A) 0 0 A) ∧
  (∀ (g : Sg) (Q : Int32 → Sg → Prop) (x : Int32), rec 5 x g Q → Met l yX2_one (Cond.code yX2_one cX2_one 3 (some .boolean) :: TT) (rmD r) (va_Pc [.ref (ad 10), .int x] (PreC (wsC cy nt ad) D cy A X g)) (va_Qi Q (PostG (wsC cy nt ad) D A) A) 0 0 A)
theorem lk_copy : LkN RX7 294 := ⟨(TTm (List.mem_of_getElem? (i := 814) (by decide +kernel)) rfl), (TTm (List.mem_of_getElem? (i := 432) (by decide +kernel)) rfl), (TTm (List.mem_of_getElem? (i := 431) (by decide +kernel)) rfl), (TTm (List.mem_of_getElem? (i := 117) (by decide +kernel)) rfl)⟩
