/-! What only reads the reference's state. -/
/-- the program answers r, and the heap stays -/
def RO {R : Type} (M : Nat) (P : Mo R) (σ : MS) (r : R) : Prop := ∀ h, IM h M σ → P h = some (r, h)
theorem ro_rn {R : Type} {M : Nat} {r : R} {σ : MS} : RO M (rn r) σ r := fun _ _ => rfl
theorem ro_rnZ {M : Nat} {x : Int32} {σ : MS} (hx : x = 0 ∨ x = 1) : RO M (rnZ x) σ x := fun _ _ => rnZ_e hx
theorem ro_bd {A B : Type} {M : Nat} {p : Mo A} {k : A → Mo B} {σ : MS} {r : A} {r2 : B} (hp : RO M p σ r) (hk : RO M (k r) σ r2) : RO M (bd p k) σ r2 := by
  intro h hI
  rw [bd_e (hp h hI)]
  exact hk h hI
theorem ro_eq {A B : Type} {M : Nat} {p : Mo A} {k : A → Mo B} {σ : MS} {r : A} {r2 : B} (hp : ∀ h, p h = some (r, h)) (hk : RO M (k r) σ r2) : RO M (bd p k) σ r2 := ro_bd (fun h _ => hp h) hk
theorem ro_of {R : Type} {M : Nat} {p : Mo R} {σ : MS} {r : R} (hp : ∀ h, p h = some (r, h)) : RO M p σ r := fun h _ => hp h
theorem ro_vc {R : Type} {M : Nat} {f : Nat → Mo R} {σ : MS} {r : R} (hf : RO M (f M) σ r) : RO M (vc 11 (some M) f) σ r := by
  intro h hI
  rw [vc_e hI.1]
  exact hf h hI
theorem rm_ro {A B : Type} {M : Nat} {p : Mo A} {k : A → Mo B} {σ : MS} {Q : B → MS → Prop} {r : A} (hp : RO M p σ r) (hk : RM M (k r) σ Q) : RM M (bd p k) σ Q := by
  intro h hI
  rw [bd_e (hp h hI)]
  exact hk h hI
theorem rm_r {R : Type} {M : Nat} {p : Mo R} {σ : MS} {Q : R → MS → Prop} {r : R} (hp : RO M p σ r) (q : Q r σ) : RM M p σ Q := fun h hI => ⟨r, h, σ, hp h hI, hI, FrM.rf M h, q⟩
section ROs
variable {R : Type} {M : Nat} {σ : MS} {r : R}
theorem ro_gI {k : Nat} {f : Int32 → Mo R} (hf : RO M (f (σ.i k)) σ r) (hk : k < 41 := by decide) (h0 : kdM k = 0 := by decide) : RO M (bd (gI (some M) 11 k) f) σ r := by
  intro h hI
  rw [bd_e (gI_e hI.1 (obj_i hk h0 σ.1))]
  exact hf h hI
theorem ro_gA {k : Nat} {f : Option Nat → Mo R} (hf : RO M (f (some (M + adM k))) σ r) (hk : k < 41 := by decide) (h0 : kdM k ≠ 0 := by decide) : RO M (bd (gA (some M) 11 k) f) σ r := by
  intro h hI
  rw [bd_e (gA_e hI.1 (obj_a hk h0 σ.1))]
  exact hf h hI
theorem ro_ldI {k : Nat} {i : Int32} (j : Nat) (hi : i = nI j) (hj : j < lnM k) {f : Int32 → Mo R} (hf : RO M (f (σ.a k j)) σ r) (hk : k < 41 := by decide) (h0 : kdM k = 1 := by decide) : RO M (bd (ldI 0 (some (M + adM k)) i) f) σ r := by
  intro h hI
  subst hi
  have hl := lnM_le k hk
  have hc := hI.2 k hk (by omega)
  rw [cel_i h0] at hc
  rw [bd_e (ldI_e hc (by rw [arI_len]; exact hj) (by rw [arI_len]; omega)), arI_get _ hj]
  exact hf h hI
theorem ro_ldZ {k : Nat} {i : Int32} (j : Nat) (hi : i = nI j) (hj : j < lnM k) {f : Int32 → Mo R} (hf : RO M (f (σ.a k j)) σ r) (hk : k < 41 := by decide) (h0 : kdM k = 2 := by decide) : RO M (bd (ldI 2 (some (M + adM k)) i) f) σ r := by
  intro h hI
  subst hi
  have hl := lnM_le k hk
  have hc := hI.2 k hk (by omega)
  rw [cel_z h0] at hc
  rw [bd_e (ldI_e hc (by rw [arI_len]; exact hj) (by rw [arI_len]; omega)), arI_get _ hj]
  exact hf h hI
theorem ro_ldL {k : Nat} {i : Int32} (j : Nat) (hi : i = nI j) (hj : j < lnM k) {f : Int64 → Mo R} (hf : RO M (f (σ.l k j)) σ r) (hk : k < 41 := by decide) (h0 : kdM k = 3 := by decide) : RO M (bd (ldL (some (M + adM k)) i) f) σ r := by
  intro h hI
  subst hi
  have hl := lnM_le k hk
  have hc := hI.2 k hk (by omega)
  rw [cel_l h0] at hc
  rw [bd_e (ldL_e hc (by rw [arL_len]; exact hj) (by rw [arL_len]; omega)), arL_get _ hj]
  exact hf h hI
end ROs
/-! numbers -/
def inB (v lo hi : Int32) : Bool := decide (lo ≤ v ∧ v ≤ hi)
theorem le_w (a b : Int32) : a.toInt64 ≤ b.toInt64 ↔ a ≤ b := by rw [Int64.le_iff_toInt_le, Int32.le_iff_toInt_le, Int32.toInt_toInt64, Int32.toInt_toInt64]
theorem lt_w (a b : Int32) : a.toInt64 < b.toInt64 ↔ a < b := by rw [Int64.lt_iff_toInt_lt, Int32.lt_iff_toInt_lt, Int32.toInt_toInt64, Int32.toInt_toInt64]
theorem in_e (v lo hi : Int32) (h : Hp) : pX11_in v.toInt64 lo.toInt64 hi.toInt64 h = some (bI (inB v lo hi), h) := by
  unfold pX11_in
  simp only [lt_w]
  by_cases h1 : v < lo
  · have h2 : ¬ lo ≤ v := by simpa using h1
    simp [h1, h2, rnZ, bI, inB]
  · have h2 : lo ≤ v := by simpa using h1
    by_cases h3 : hi < v
    · have h4 : ¬ v ≤ hi := by simpa using h3
      simp [h1, h3, h4, rnZ, bI, inB]
    · have h4 : v ≤ hi := by simpa using h3
      simp [h1, h2, h3, h4, rnZ, bI, inB]
/-- an index below n -/
theorem inB_ix {v : Int32} {n : Nat} (hn : n < 2 ^ 30) (h : inB v 0 (nI n - 1) = true) : ∃ j, j < n ∧ v = nI j := by
  simp only [inB, decide_eq_true_eq] at h
  obtain ⟨h1, h2⟩ := h
  obtain ⟨j, hj, rfl⟩ := nI_of (x := v) (by simpa using h1)
  refine ⟨j, ?_, rfl⟩
  cases n with
  | zero =>
    exfalso
    have h3 : nI j ≤ -1 := h2
    rw [Int32.le_iff_toInt_le, nI_toInt hj] at h3
    have : (-1 : Int32).toInt = -1 := by decide
    omega
  | succ n =>
    rw [nI_pred] at h2
    have := (nI_leI hj (by omega)).mp h2
    omega
theorem inB_of {j n : Nat} (hj : j < n) (hn : n < 2 ^ 30) : inB (nI j) 0 (nI n - 1) = true := by
  simp only [inB, decide_eq_true_eq]
  refine ⟨nI_pos' (by omega), ?_⟩
  cases n with
  | zero => omega
  | succ n =>
    rw [nI_pred]
    exact nI_le (by omega) (by omega)
theorem inB_le {v : Int32} {n : Nat} (hn : n < 2 ^ 30) (h : inB v 0 (nI n) = true) : ∃ j, j ≤ n ∧ v = nI j := by
  simp only [inB, decide_eq_true_eq] at h
  obtain ⟨j, hj, rfl⟩ := nI_of (x := v) (by simpa using h.1)
  exact ⟨j, (nI_leI hj (by omega)).mp h.2, rfl⟩
/-! the small tests -/
theorem noBridge_r {M : Nat} {σ : MS} (b : Int32) : RO M (pX11_noBridge M b) σ (bI (!inB b 0 (σ.i 0 - 1))) := by
  unfold pX11_noBridge
  refine ro_gI ?_
  refine ro_eq (in_e b 0 (σ.i 0 - 1)) ?_
  cases inB b 0 (σ.i 0 - 1)
  · exact ro_rnZ (Or.inr rfl)
  · exact ro_rnZ (Or.inl rfl)
theorem noTrain_r {M : Nat} {σ : MS} (b : Int32) : RO M (pX11_noTrain M b) σ (bI (!inB b 0 (σ.i 12 - 1))) := by
  unfold pX11_noTrain
  refine ro_gI ?_
  refine ro_eq (in_e b 0 (σ.i 12 - 1)) ?_
  cases inB b 0 (σ.i 12 - 1)
  · exact ro_rnZ (Or.inr rfl)
  · exact ro_rnZ (Or.inl rfl)
theorem noSupport_r {M : Nat} {σ : MS} {b : Nat} (hb : b < 6) (kind at_ : Int32) : RO M (pX11_noSupport M (nI b) kind at_) σ (bI (decide (kind = 0) && !inB at_ 0 (σ.a 2 b - 1))) := by
  unfold pX11_noSupport
  by_cases hk : kind = 0
  · rw [if_pos hk]
    refine ro_gA ?_
    refine ro_ldI b rfl (by simpa [lnM] using hb) ?_
    refine ro_eq (in_e at_ 0 (σ.a 2 b - 1)) ?_
    cases inB at_ 0 (σ.a 2 b - 1)
    · rw [if_pos (by rfl)]; simp only [hk]; exact ro_rnZ (Or.inr rfl)
    · rw [if_neg (by decide)]; simp only [hk]; exact ro_rnZ (Or.inl rfl)
  · rw [if_neg hk]
    simp only [hk]
    exact ro_rnZ (Or.inl rfl)
theorem isResponse_r {M : Nat} {σ : MS} {b : Nat} (hb : b < 6) (kind at_ : Int32) : RO M (pX11_isResponse M (nI b) kind at_) σ (bI (decide (kind = 0) || (decide (kind = 1) && inB at_ 0 (σ.a 1 b)))) := by
  unfold pX11_isResponse
  by_cases hk : kind = 0
  · rw [if_pos hk]
    simp only [hk]
    exact ro_rnZ (Or.inr rfl)
  · rw [if_neg hk]
    by_cases h1 : kind = 1
    · rw [if_pos h1]
      refine ro_gA ?_
      refine ro_ldI b rfl (by simpa [lnM] using hb) ?_
      refine ro_eq (in_e at_ 0 (σ.a 1 b)) ?_
      cases inB at_ 0 (σ.a 1 b)
      · rw [if_pos (by rfl)]; simp [h1]; exact ro_rnZ (Or.inl rfl)
      · rw [if_neg (by decide)]; simp [h1]; exact ro_rnZ (Or.inr rfl)
    · rw [if_neg h1]
      simp [hk, h1]
      exact ro_rnZ (Or.inl rfl)
