/-! ===== the world of the reference: its object (cell 0), its arrays (cells 1 .. 12) ===== -/
def fsM (ad : Nat → Nat) (σ : Sg) : List Value := [.int (σ 0 0), .ref (ad 1), .ref (ad 2), .int (σ 0 3), .int (σ 0 4), .ref (ad 3), .int (σ 0 6), .int (σ 0 7), .int (σ 0 8), .ref (ad 4), .ref (ad 5), .int (σ 0 11), .int (σ 0 12), .int (σ 0 13), .int (σ 0 14), .int (σ 0 15), .int (σ 0 16), .int (σ 0 17), .int (σ 0 18), .int (σ 0 19), .int (σ 0 20), .int (σ 0 21), .int (σ 0 22), .long (σ 0 23).toInt64, .int (σ 0 24), .int (σ 0 25), .int (σ 0 26), .ref (ad 6), .ref (ad 7), .int (σ 0 29), .int (σ 0 30), .ref (ad 8), .int (σ 0 32), .int (σ 0 33), .int (σ 0 34), .int (σ 0 35), .ref (ad 9), .ref (ad 10), .ref (ad 11), .ref (ad 12)]
def lenM (k : Nat) : Nat := match k with
  | 1 => 960
  | 2 => 6
  | 3 => 160
  | 4 => 8
  | 5 => 40
  | 6 => 8
  | 7 => 9
  | 8 => 40
  | 9 => 4
  | 10 => 4
  | 11 => 4
  | 12 => 160
  | _ => 0
def cellM (cy : Nat → ClassId) (ad : Nat → Nat) (σ : Sg) (k : Nat) : va_E := if k = 0 then .inr (8, fsM ad σ) else .inl (if k = 9 then cy 1 else cy 0, lenM k, .inl (σ k))
def wsM (cy : Nat → ClassId) (ad : Nat → Nat) (σ : Sg) : va_W := (List.range 13).map (fun k => (ad k, cellM cy ad σ k))
theorem wsM_at (cy : Nat → ClassId) (ad : Nat → Nat) (σ : Sg) {k : Nat} (h : k < 13) : (wsM cy ad σ)[k]? = some (ad k, cellM cy ad σ k) := by
  simp [wsM, h]
theorem wsM_set {cy : Nat → ClassId} {ad : Nat → Nat} {σ σ' : Sg} {k : Nat} {x : va_E} (h : k < 13) (hx : x = cellM cy ad σ' k) (ho : ∀ j, j ≠ k → cellM cy ad σ' j = cellM cy ad σ j) : (wsM cy ad σ).set k (ad k, x) = wsM cy ad σ' := by
  subst hx
  apply List.ext_getElem?
  intro j
  by_cases hj : j = k
  · subst hj
    rw [List.getElem?_set_self (by simp [wsM, h])]
    simp [wsM, h]
  · rw [List.getElem?_set_ne (Ne.symm hj)]
    by_cases hl : j < 13
    · simp [wsM, hl, ho j hj]
    · simp [wsM, hl]
theorem cellM_o (cy : Nat → ClassId) (ad : Nat → Nat) (σ : Sg) (j : Nat) (v : Int32) : ∀ i, i ≠ 0 → cellM cy ad (st σ 0 j v) i = cellM cy ad σ i := by
  intro i hi
  simp only [cellM, hi, if_false]
  have : st σ 0 j v i = σ i := by funext b; simp [st, hi]
  rw [this]
theorem cellM_a (cy : Nat → ClassId) (ad : Nat → Nat) (σ : Sg) {k : Nat} (hk : k ≠ 0) (j : Nat) (v : Int32) : ∀ i, i ≠ k → cellM cy ad (st σ k j v) i = cellM cy ad σ i := by
  intro i hi
  by_cases h0 : i = 0
  · subst h0
    have : ∀ b, st σ k j v 0 b = σ 0 b := fun b => by simp [st, hi]
    simp only [cellM, if_true, fsM, this]
  · simp only [cellM, h0, if_false]
    have : st σ k j v i = σ i := by funext b; simp [st, hi]
    rw [this]
theorem rk_lay8 : ∀ w ∈ u_ws RX8 TX8 40, w ∈ TT := fun w h => TTm ((by decide +kernel : ∀ w ∈ u_ws RX8 TX8 40, w ∈ lw_tbl) w h) ((by decide +kernel : ∀ w ∈ u_ws RX8 TX8 40, goodWord w = true) w h)
section RM
variable {p : Program} {l : Launch} {e : Env} {R : Room} {s : State} {m : MethodId} {args : Array Value} {below : List Frame} {meth : Method} {c : Code} {H : Heap} {locs : List Loc} {cells slots : Nat} {Q : State → Prop}
  {pc : Nat} {ls : Array Slot} {rest : List Value} {cc : ByteArray} {nL : Nat} {own : String} {D : va_G} {cy : Nat → ClassId} {A : Nat → Prop} {H0 : Heap} {ad : Nat → Nat} {σ : Sg}
theorem rm_get (k : Nat) {idx : Nat} {v : Value} (K : Kx p s m args meth c cc nL own D cy) (hw : Wd D A H0 (wsM cy ad σ) H locs) (hk : k < 40) (hL : Cond.fieldLink own idx (TX8 k).1 (TX8 k).2.1 (TX8 k).2.2.1 ∈ TT) (hv : (fsM ad σ)[k]? = some v) (hdg : decode cc pc = .ok (.getfield idx, 3))
    (kk : W p l e R s m args below meth c H locs cells slots Q (F0 m (pc + 3) ls (v :: rest))) : W p l e R s m args below meth c H locs cells slots Q (F0 m pc ls (.ref (ad 0) :: rest)) := by
  obtain ⟨hx, hb, hml, hown, hts, hK, -⟩ := id K
  exact va_get (D := D) (ci := 8) (C := RX8) (T := TX8) (N := 40) hx hb hts rk_lay8 hown hK hw.1 0 (wsM_at cy ad σ (by decide)) rfl k hk (hts _ hL) (fun _ h => h) hv hdg kk
theorem rm_put (k : Nat) {idx : Nat} {v : Value} {x : Int32} {ty : FieldType} (K : Kx p s m args meth c cc nL own D cy) (hw : Wd D A H0 (wsM cy ad σ) H locs) (hk : k < 40) (hL : Cond.fieldLink own idx (TX8 k).1 (TX8 k).2.1 (TX8 k).2.2.1 ∈ TT) (hfin : (TX8 k).2.2.2 = false) (hty : parseFieldDescriptor (TX8 k).2.2.1 = some ty) (hn : narrow ty v = v) (hf : fits ty v = true) (hset : (fsM ad σ).set k v = fsM ad (st σ 0 k x)) (hdg : decode cc pc = .ok (.putfield idx, 3))
    (kk : ∀ (σ1 : Sg), σ1 = st σ 0 k x → ∀ (H1 : Heap) (locs1 : List Loc), Wd D A H0 (wsM cy ad σ1) H1 locs1 → W p l e R s m args below meth c H1 locs1 cells slots Q (F0 m (pc + 3) ls rest)) : W p l e R s m args below meth c H locs cells slots Q (F0 m pc ls (v :: .ref (ad 0) :: rest)) := by
  obtain ⟨hx, hb, hml, hown, hts, hK, -⟩ := id K
  refine va_put (D := D) (ci := 8) (C := RX8) (T := TX8) (N := 40) hx hb hts rk_lay8 tyX8 tyX8_ok nmX8 hown hK hw.1 hw.2.1 hw.2.2 0 (wsM_at cy ad σ (by decide)) rfl k hk (hts _ hL) (fun _ h => h) hfin hty hn hf hk hdg (fun H1 locs1 hP hD hS => ?_)
  have e1 := wsM_set (cy := cy) (ad := ad) (σ := σ) (σ' := st σ 0 k x) (k := 0) (x := .inr (8, (fsM ad σ).set k v)) (by decide) (by rw [hset]; rfl) (cellM_o cy ad σ k x)
  rw [e1] at hP hD
  exact kk _ rfl H1 locs1 ⟨hP, hD, hS⟩
theorem rm_iald (k : Nat) {i : Int32} (K : Kx p s m args meth c cc nL own D cy) (hw : Wd D A H0 (wsM cy ad σ) H locs) (hk : k < 13 ∧ k ≠ 0 ∧ k ≠ 9) (hin : vp_in i (lenM k)) (hdg : decode cc pc = .ok (.iaload, 1))
    (kk : W p l e R s m args below meth c H locs cells slots Q (F0 m (pc + 1) ls (.int (σ k i.toNatClampNeg) :: rest))) : W p l e R s m args below meth c H locs cells slots Q (F0 m pc ls (.int i :: .ref (ad k) :: rest)) := by
  obtain ⟨hx, hb, hml, hown, hts, hK, -⟩ := id K
  have h0 := wsM_at cy ad σ hk.1
  rw [show cellM cy ad σ k = .inl (cy 0, lenM k, .inl (σ k)) by simp [cellM, hk.2.1, hk.2.2]] at h0
  exact va_iald hx hb hK hw.1 k 0 h0 rfl hin hdg kk
theorem rm_zald {i : Int32} (K : Kx p s m args meth c cc nL own D cy) (hw : Wd D A H0 (wsM cy ad σ) H locs) (hin : vp_in i (lenM 9)) (hdg : decode cc pc = .ok (.baload, 1))
    (kk : W p l e R s m args below meth c H locs cells slots Q (F0 m (pc + 1) ls (.int (σ 9 i.toNatClampNeg) :: rest))) : W p l e R s m args below meth c H locs cells slots Q (F0 m pc ls (.int i :: .ref (ad 9) :: rest)) := by
  obtain ⟨hx, hb, hml, hown, hts, hK, -⟩ := id K
  exact va_zald hx hb hK hw.1 9 1 (wsM_at cy ad σ (by decide)) rfl hin hdg kk
theorem rm_iast (k : Nat) {i x : Int32} (K : Kx p s m args meth c cc nL own D cy) (hw : Wd D A H0 (wsM cy ad σ) H locs) (hk : k < 13 ∧ k ≠ 0 ∧ k ≠ 9) (hin : vp_in i (lenM k)) (hdg : decode cc pc = .ok (.iastore, 1))
    (kk : ∀ (σ1 : Sg), σ1 = st σ k i.toNatClampNeg x → ∀ (H1 : Heap) (locs1 : List Loc), Wd D A H0 (wsM cy ad σ1) H1 locs1 → W p l e R s m args below meth c H1 locs1 cells slots Q (F0 m (pc + 1) ls rest)) : W p l e R s m args below meth c H locs cells slots Q (F0 m pc ls (.int x :: .int i :: .ref (ad k) :: rest)) := by
  obtain ⟨hx, hb, hml, hown, hts, hK, -⟩ := id K
  have h0 := wsM_at cy ad σ hk.1
  rw [show cellM cy ad σ k = .inl (cy 0, lenM k, .inl (σ k)) by simp [cellM, hk.2.1, hk.2.2]] at h0
  refine va_iast hx hb hK hw.1 hw.2.1 hw.2.2 k 0 h0 rfl hin hdg (fun H1 locs1 hP hD hS => ?_)
  have hu : upd (σ k) i.toNatClampNeg x = st σ k i.toNatClampNeg x k := by funext b; simp [st, upd]
  have e1 := wsM_set (cy := cy) (ad := ad) (σ := σ) (σ' := st σ k i.toNatClampNeg x) (k := k) (x := .inl (cy 0, lenM k, .inl (upd (σ k) i.toNatClampNeg x))) hk.1 (by rw [hu]; simp [cellM, hk.2.1, hk.2.2]) (cellM_a cy ad σ hk.2.1 _ x)
  rw [e1] at hP hD
  exact kk _ rfl H1 locs1 ⟨hP, hD, hS⟩
theorem rm_zast {i x : Int32} (K : Kx p s m args meth c cc nL own D cy) (hw : Wd D A H0 (wsM cy ad σ) H locs) (hin : vp_in i (lenM 9)) (hz : x = 0 ∨ x = 1) (hdg : decode cc pc = .ok (.bastore, 1))
    (kk : ∀ (σ1 : Sg), σ1 = st σ 9 i.toNatClampNeg x → ∀ (H1 : Heap) (locs1 : List Loc), Wd D A H0 (wsM cy ad σ1) H1 locs1 → W p l e R s m args below meth c H1 locs1 cells slots Q (F0 m (pc + 1) ls rest)) : W p l e R s m args below meth c H locs cells slots Q (F0 m pc ls (.int x :: .int i :: .ref (ad 9) :: rest)) := by
  obtain ⟨hx, hb, hml, hown, hts, hK, -⟩ := id K
  have hnar : vp_nar .boolean x = x := by rcases hz with rfl | rfl <;> rfl
  have hu : upd (σ 9) i.toNatClampNeg (vp_nar .boolean x) = st σ 9 i.toNatClampNeg x 9 := by rw [hnar]; funext b; simp [st, upd]
  have h0 : (wsM cy ad σ)[9]? = some (ad 9, .inl (cy 1, lenM 9, .inl (σ 9))) := wsM_at cy ad σ (by decide)
  refine va_zast hx hb hK hw.1 hw.2.1 hw.2.2 9 1 h0 rfl hin hdg (fun H1 locs1 hP hD hS => ?_)
  have e1 := wsM_set (cy := cy) (ad := ad) (σ := σ) (σ' := st σ 9 i.toNatClampNeg x) (k := 9) (x := .inl (cy 1, lenM 9, .inl (upd (σ 9) i.toNatClampNeg (vp_nar .boolean x)))) (by decide) (by rw [hu]; rfl) (cellM_a cy ad σ (by decide) _ x)
  rw [e1] at hP hD
  exact kk _ rfl H1 locs1 ⟨hP, hD, hS⟩
end RM
theorem fsM_0 (ad : Nat → Nat) (σ : Sg) (v : Int32) : (fsM ad σ).set 0 (.int v) = fsM ad (st σ 0 0 v) := rfl
theorem fsM_3 (ad : Nat → Nat) (σ : Sg) (v : Int32) : (fsM ad σ).set 3 (.int v) = fsM ad (st σ 0 3 v) := rfl
theorem fsM_4 (ad : Nat → Nat) (σ : Sg) (v : Int32) : (fsM ad σ).set 4 (.int v) = fsM ad (st σ 0 4 v) := rfl
theorem fsM_6 (ad : Nat → Nat) (σ : Sg) (v : Int32) : (fsM ad σ).set 6 (.int v) = fsM ad (st σ 0 6 v) := rfl
theorem fsM_7 (ad : Nat → Nat) (σ : Sg) (v : Int32) : (fsM ad σ).set 7 (.int v) = fsM ad (st σ 0 7 v) := rfl
theorem fsM_8 (ad : Nat → Nat) (σ : Sg) (v : Int32) : (fsM ad σ).set 8 (.int v) = fsM ad (st σ 0 8 v) := rfl
theorem fsM_11 (ad : Nat → Nat) (σ : Sg) (v : Int32) : (fsM ad σ).set 11 (.int v) = fsM ad (st σ 0 11 v) := rfl
theorem fsM_12 (ad : Nat → Nat) (σ : Sg) (v : Int32) : (fsM ad σ).set 12 (.int v) = fsM ad (st σ 0 12 v) := rfl
theorem fsM_13 (ad : Nat → Nat) (σ : Sg) (v : Int32) : (fsM ad σ).set 13 (.int v) = fsM ad (st σ 0 13 v) := rfl
theorem fsM_14 (ad : Nat → Nat) (σ : Sg) (v : Int32) : (fsM ad σ).set 14 (.int v) = fsM ad (st σ 0 14 v) := rfl
theorem fsM_15 (ad : Nat → Nat) (σ : Sg) (v : Int32) : (fsM ad σ).set 15 (.int v) = fsM ad (st σ 0 15 v) := rfl
theorem fsM_16 (ad : Nat → Nat) (σ : Sg) (v : Int32) : (fsM ad σ).set 16 (.int v) = fsM ad (st σ 0 16 v) := rfl
theorem fsM_17 (ad : Nat → Nat) (σ : Sg) (v : Int32) : (fsM ad σ).set 17 (.int v) = fsM ad (st σ 0 17 v) := rfl
theorem fsM_18 (ad : Nat → Nat) (σ : Sg) (v : Int32) : (fsM ad σ).set 18 (.int v) = fsM ad (st σ 0 18 v) := rfl
theorem fsM_19 (ad : Nat → Nat) (σ : Sg) (v : Int32) : (fsM ad σ).set 19 (.int v) = fsM ad (st σ 0 19 v) := rfl
theorem fsM_20 (ad : Nat → Nat) (σ : Sg) (v : Int32) : (fsM ad σ).set 20 (.int v) = fsM ad (st σ 0 20 v) := rfl
theorem fsM_21 (ad : Nat → Nat) (σ : Sg) (v : Int32) : (fsM ad σ).set 21 (.int v) = fsM ad (st σ 0 21 v) := rfl
theorem fsM_22 (ad : Nat → Nat) (σ : Sg) (v : Int32) : (fsM ad σ).set 22 (.int v) = fsM ad (st σ 0 22 v) := rfl
theorem fsM_23 (ad : Nat → Nat) (σ : Sg) (v : Int32) : (fsM ad σ).set 23 (.long v.toInt64) = fsM ad (st σ 0 23 v) := rfl
theorem fsM_24 (ad : Nat → Nat) (σ : Sg) (v : Int32) : (fsM ad σ).set 24 (.int v) = fsM ad (st σ 0 24 v) := rfl
theorem fsM_25 (ad : Nat → Nat) (σ : Sg) (v : Int32) : (fsM ad σ).set 25 (.int v) = fsM ad (st σ 0 25 v) := rfl
theorem fsM_26 (ad : Nat → Nat) (σ : Sg) (v : Int32) : (fsM ad σ).set 26 (.int v) = fsM ad (st σ 0 26 v) := rfl
theorem fsM_29 (ad : Nat → Nat) (σ : Sg) (v : Int32) : (fsM ad σ).set 29 (.int v) = fsM ad (st σ 0 29 v) := rfl
theorem fsM_30 (ad : Nat → Nat) (σ : Sg) (v : Int32) : (fsM ad σ).set 30 (.int v) = fsM ad (st σ 0 30 v) := rfl
theorem fsM_32 (ad : Nat → Nat) (σ : Sg) (v : Int32) : (fsM ad σ).set 32 (.int v) = fsM ad (st σ 0 32 v) := rfl
theorem fsM_33 (ad : Nat → Nat) (σ : Sg) (v : Int32) : (fsM ad σ).set 33 (.int v) = fsM ad (st σ 0 33 v) := rfl
theorem fsM_34 (ad : Nat → Nat) (σ : Sg) (v : Int32) : (fsM ad σ).set 34 (.int v) = fsM ad (st σ 0 34 v) := rfl
theorem fsM_35 (ad : Nat → Nat) (σ : Sg) (v : Int32) : (fsM ad σ).set 35 (.int v) = fsM ad (st σ 0 35 v) := rfl
