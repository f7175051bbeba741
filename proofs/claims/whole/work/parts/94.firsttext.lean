section
/-! ===== the first text ===== -/
def bF : By := fun i => (sB.getD 0 []).getD i 0
def cF : List Int32 := [10003, 1, 10001, 20004, 5]
def bR : By := fun i => ([102, 101, 101, 108, 115, 32, 109, 111, 111, 100, 32, 59, 32, 119, 101, 105, 103, 104, 115, 32, 49, 32, 43, 32, 110, 117, 109, 98, 101, 114, 32, 59, 32, 115, 109, 111, 111, 116, 104, 115, 32, 53, 32, 59, 32, 32, 32, 32] : List Int32).getD i 0
theorem pr44 : pRead bF 44 = (44, some ([10003], [1, 10001, 20004], [5])) := by decide +kernel
theorem pr48 : pRead bR 48 = (48, some ([10003], [1, 10001, 20004], [5])) := by decide +kernel
theorem put_L {nt : Nat} {g0 : Sg} {Q : Sg → Prop} (hQ : ∀ u, (∀ k, k ≠ 8 → k ≠ 9 → u k = g0 k) → LetC u bF 44 → (∀ j, j ≠ 1 → u 8 j = g0 8 j) → Q u) : ∀ d i g, i + d = 44 → (∀ k, k ≠ 8 → k ≠ 9 → g k = g0 k) → (∀ j, j ≠ 1 → g 8 j = g0 8 j) → g 8 1 = nI i → (∀ j, j < i → g 9 j = bF j) → vv_X5_put_L2 nt Q (d + 1) 0 (nI i) g := by
  intro d
  induction d with
  | zero =>
    intro i g hi F F8 h1 hb
    have e : i = 44 := by omega
    subst e
    unfold vv_X5_put_L2
    refine h_slen (by decide) ⟨fun _ => hQ g F ⟨h1, by decide, hb⟩ F8, fun z => absurd (by decide) z⟩
  | succ d ih =>
    intro i g hi F F8 h1 hb
    unfold vv_X5_put_L2
    refine h_slen (by decide) ⟨fun z => absurd z (nI_ge (b := 44) (by omega) (by decide)), fun _ => h_schr (by decide) (show i < 44 by omega) ?_⟩
    unfold vv_X5_add
    rw [h1]
    refine ⟨fun q => absurd q (nI_ge (b := 160) (by omega) (by decide)), fun _ => ⟨vp_in_nI (by omega) (by decide), ?_⟩⟩
    rintro c1 rfl c2 rfl x rfl
    rw [nI_clamp (by omega), st_ne (show (8 : Nat) ≠ 9 by decide), h1, nI_1]
    refine ih (i + 1) _ (by omega) (fun k a b => by rw [st_ne a, st_ne b]; exact F k a b) (fun j hj => by rw [st_off _ hj, st_ne (by decide)]; exact F8 j hj) (st_on _ _ _ _) (fun j hj => ?_)
    rw [st_ne (by decide), st_at]
    by_cases q : j = i
    · rw [if_pos q, q]; rfl
    · rw [if_neg q]; exact hb j (by omega)
theorem h_put {nt : Nat} {g : Sg} {Q : Sg → Prop} (hg : g 8 1 = 0) (hQ : ∀ u, (∀ k, k ≠ 8 → k ≠ 9 → u k = g k) → LetC u bF 44 → (∀ j, j ≠ 1 → u 8 j = g 8 j) → Q u) : vv_X5_put nt 0 g Q := by
  unfold vv_X5_put
  refine ⟨by decide, ?_⟩
  rintro x rfl
  exact ⟨45, put_L hQ 44 0 g (by omega) (fun _ _ _ => rfl) (fun _ _ => rfl) hg (fun j hj => absurd hj (by omega))⟩
theorem h_firstText {nt : Nat} {g : Sg} (hL : LetC g bF 44) : vv_X2_readText nt g (fun _ => False) (fun x z n u => x = nI 1 ∧ z = nI 4 ∧ n = 5 ∧ ∀ i, i < 5 → u 11 i = cF.getD i 0) := by
  refine h_readC hL (fun q e => absurd (pr44.symm.trans e) (by intro z; cases z)) (fun q c0 c1 c2 e hl u F hc => ?_)
  have z := pr44.symm.trans e
  cases z
  exact ⟨rfl, rfl, rfl, hc⟩
end
