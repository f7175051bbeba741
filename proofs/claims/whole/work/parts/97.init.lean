section
/-! ===== at the start both belong together ===== -/
theorem rel0 {m u : Sg} {f : Nat → Int32} (hm : IniM m) (hf : ∀ i, i < 5 → f i = cF.getD i 0) : Rel m (sgI u f) 1 := by
  obtain ⟨m3, m4, m6, m7, m8, m11, m32, m1, m2, m9⟩ := hm
  refine ⟨0, ⟨m11, rfl, by decide, fun i hi => absurd hi (by omega)⟩, ⟨m7, by rw [m7]; exact ⟨by decide, by decide⟩, m8, by rw [m8]; exact ⟨by decide, by decide⟩, rfl⟩, ⟨0, by decide, m4, rfl⟩, ⟨m3, rfl, by decide, by decide, fun i hi => ?_, fun t ht => ?_⟩, ⟨0, m6, rfl, by decide, fun i hi => absurd hi (by omega)⟩, Or.inl ⟨m32, rfl⟩, fun s hs => Or.inl ⟨m9 s hs, ?_⟩⟩
  · show (0 : Int32) = _
    by_cases q : i < 1
    · rw [if_pos q, show i = 0 by omega]; rfl
    · rw [if_neg q]; rfl
  · have e : t = 0 := by omega
    subst e
    refine ⟨bR, 48, 48, fun i => if i = 0 then [10003] else if i = 1 then [1, 10001, 20004] else [5], ⟨m2, by decide, by decide, fun i hi => by rw [show 160 * 0 + i = i by omega]; exact m1 i hi, by decide +kernel⟩, pr48, ?_⟩
    exact cod_new (n := 5) rfl (by decide) rfl rfl rfl (fun i hi => hf i hi)
  · rcases (show s = 0 ∨ s = 1 ∨ s = 2 ∨ s = 3 by omega) with rfl | rfl | rfl | rfl <;> rfl
theorem and31 (v : Int32) : ∃ j, j < 32 ∧ v &&& 31 = nI j := by
  refine ⟨(v.toBitVec &&& 31#32).toNat, ?_, ?_⟩
  · rw [BitVec.toNat_and]; exact Nat.lt_of_le_of_lt Nat.and_le_right (by decide)
  · apply Int32.toBitVec_inj.mp
    show (v &&& 31).toBitVec = BitVec.ofNat 32 _
    rw [Int32.toBitVec_and, BitVec.ofNat_toNat]
    simp
theorem cond_gt {i L : Nat} (hi : i < 2 ^ 31) (hL : L ≤ 3072) : (nI L - 6 < nI i) ↔ L < i + 6 := by
  rcases Nat.lt_or_ge L 6 with h | h
  · have e : nI L - 6 < 0 := (by decide : ∀ L, L < 6 → nI L - 6 < 0) L h
    exact ⟨fun _ => by omega, fun _ => Int32.lt_of_lt_of_le e (nI_pos' hi)⟩
  · rw [show (6 : Int32) = nI 6 from rfl, pk_sub h, nI_ltI (by omega) hi]
    omega
end
