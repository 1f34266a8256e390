/-! The start: what holds behind both constructors. -/
/-- the reference's state before its bridges have rules -/
def σZ : MS := (fun k => if k = 17 then -1 else if k = 18 then 100 else if k = 20 then -1 else 0, fun _ _ => 0, fun _ _ => 0)
/-- the heap behind both constructors, but for the bridges' rules -/
def hZ (B : Nat) : Hp := LH (LH (fun _ => none) B 1678 (c10 B)).1 (B + 42) 4290 (c11 B)
theorem hZ_g (B k : Nat) (hk : k < 42) : (hZ B).1 (B + k) = (c10 B)[k]? := (LH_b _ (by omega)).trans (LH_g _ B 1678 (c10 B) k)
set_option maxRecDepth 100000 in
theorem im0 (B : Nat) : IM (hZ B) (B + 42) σZ := by
  unfold hZ
  refine ⟨(LH_g _ (B + 42) 4290 (c11 B) 0).trans rfl, fun k hk hz => ?_⟩
  rw [LH_g]
  match k, hk, hz with
  | 0, _, hz => exact absurd rfl hz
  | 1, _, _ => exact rfl
  | 2, _, _ => exact rfl
  | 3, _, _ => exact rfl
  | 4, _, _ => exact rfl
  | 5, _, _ => exact rfl
  | 6, _, _ => exact rfl
  | 7, _, _ => exact rfl
  | 8, _, _ => exact rfl
  | 9, _, _ => exact rfl
  | 10, _, _ => exact rfl
  | 11, _, _ => exact rfl
  | 12, _, hz => exact absurd rfl hz
  | 13, _, _ => exact rfl
  | 14, _, _ => exact rfl
  | 15, _, _ => exact rfl
  | 16, _, _ => exact rfl
  | 17, _, hz => exact absurd rfl hz
  | 18, _, hz => exact absurd rfl hz
  | 19, _, hz => exact absurd rfl hz
  | 20, _, hz => exact absurd rfl hz
  | 21, _, hz => exact absurd rfl hz
  | 22, _, hz => exact absurd rfl hz
  | 23, _, _ => exact rfl
  | 24, _, _ => exact rfl
  | 25, _, _ => exact rfl
  | 26, _, _ => exact rfl
  | 27, _, _ => exact rfl
  | 28, _, hz => exact absurd rfl hz
  | 29, _, _ => exact rfl
  | 30, _, _ => exact rfl
  | 31, _, _ => exact rfl
  | 32, _, _ => exact rfl
  | 33, _, _ => exact rfl
  | 34, _, _ => exact rfl
  | 35, _, _ => exact rfl
  | 36, _, _ => exact rfl
  | 37, _, _ => exact rfl
  | 38, _, hz => exact absurd rfl hz
  | 39, _, hz => exact absurd rfl hz
  | 40, _, hz => exact absurd rfl hz
  | k + 41, hk, _ => omega
/-- the first b bridges have their rules -/
def IB (b : Nat) (τ : MS) : Prop := (∀ k, τ.i k = σZ.i k) ∧ (∀ k j, k ≠ 5 → k ≠ 6 → k ≠ 7 → τ.a k j = 0) ∧ ∀ j, j < b → τ.a 5 j = 30 ∧ τ.a 6 j = 1 ∧ τ.a 7 j = 50
theorem ini_l {M : Nat} {Q : Unit → MS → Prop} (q : ∀ τ, IB 6 τ → Q () τ) : ∀ (f b : Nat) (τ : MS), b ≤ 6 → 6 < b + f → IB b τ → RM M (fX11_init_256 f M (nI b)) τ Q
  | 0, b, τ, h1, h2, x => by omega
  | f + 1, b, τ, h1, h2, x => by
    show RM M (bX11_init_256 (fX11_init_256 f) M (nI b)) τ Q
    unfold bX11_init_256
    by_cases c : 6 ≤ b
    · have : b = 6 := by omega
      subst this
      rw [if_pos (show (6 : Int32) ≤ nI 6 by decide)]
      exact rm_rn (q τ x)
    · rw [if_neg (show ¬ (6 : Int32) ≤ nI b from nI_ge (b := 6) (by omega) (by omega))]
      refine rm_gA (rm_stI b rfl (by show _ < 6; omega) (rm_gA (rm_stI b rfl (by show _ < 6; omega) (rm_gA (rm_stI b rfl (by show _ < 6; omega) ?_)))))
      rw [nI_1]
      obtain ⟨x1, x2, x3⟩ := x
      refine ini_l q f (b + 1) _ (by omega) (by omega) ⟨x1, fun k j a1 a2 a3 => ?_, fun j hj => ?_⟩
      · rw [sa_a, if_neg (by omega), sa_a, if_neg (by omega), sa_a, if_neg (by omega)]
        exact x2 k j a1 a2 a3
      · simp only [sa_a]
        by_cases z : j = b
        · subst z
          simp
        · have := x3 j (by omega)
          simp [z, this]
theorem IB.n {τ : MS} (x : IB 6 τ) : nbd τ = 0 ∧ ntd τ = 0 ∧ nrd τ = 0 := by
  unfold nbd ntd nrd
  rw [x.1 0, x.1 12, x.1 28]
  exact ⟨rfl, rfl, rfl⟩
theorem IB.wf {τ : MS} (x : IB 6 τ) : WF τ := by
  obtain ⟨n1, n2, n3⟩ := x.n
  unfold WF
  rw [n1, n2, n3]
  refine ⟨⟨x.1 0, by omega⟩, ⟨x.1 12, by omega⟩, ⟨x.1 28, by omega⟩, ⟨x.1 20, x.1 18, x.1 19⟩, Or.inl (x.1 17), fun b hb => by omega, fun b hb => ?_, fun t ht => by omega, fun r hr => by omega⟩
  obtain ⟨a1, a2, a3⟩ := x.2.2 b hb
  exact ⟨30, 1, 50, a1, by omega, a2, by omega, by omega, a3, by omega, fun _ => ⟨rfl, rfl, rfl⟩⟩
def gZ : Gh := (fun _ => 0, fun _ _ => 0, fun _ => 0, fun _ => 0)
theorem prL0 : arL 2 (fun _ => (0 : Int64)) = arL 2 (pr 0 0) := arL_c (fun j _ => by unfold pr; split <;> rfl)
theorem prI0 : arI 2 (fun _ => (0 : Int32)) = arI 2 (pr 0 0) := arI_c (fun j _ => by unfold pr; split <;> rfl)
set_option maxRecDepth 100000 in
theorem sx0 (B : Nat) : SX (hZ B) B := by
  have g := hZ_g B
  refine ⟨?_, ?_, ?_, ?_, ?_, ?_, ?_, ?_, ?_, ?_, ?_, ?_⟩
  · refine ⟨0, 0, fun i => B + 13 + i, fun _ _ => 0, (g 11 (by omega)).trans rfl, (g 12 (by omega)).trans rfl, fun i hi => ⟨by show B + 11 + 2 ≤ B + 13 + i; omega, by show B + 13 + i < B + 11 + 7; omega⟩, fun i j _ _ e => by have e' : B + 13 + i = B + 13 + j := e; omega, fun i hi => ?_⟩
    show (hZ B).1 (B + 13 + i) = _
    rw [Nat.add_assoc, g _ (by omega)]
    match i, hi with
    | 0, _ => exact rfl
    | 1, _ => exact rfl
    | 2, _ => exact rfl
    | 3, _ => exact rfl
    | 4, _ => exact rfl
    | i + 5, hi => omega
  · exact ⟨1, 0, fun _ => 0, (g 18 (by omega)).trans rfl, (g 19 (by omega)).trans rfl⟩
  · exact ⟨0, fun _ => 0, (g 20 (by omega)).trans rfl, (g 21 (by omega)).trans rfl⟩
  · refine ⟨(0, 0, 0), (0, 0, 0), (g 22 (by omega)).trans rfl, ?_, ?_, ?_⟩
    · rw [g _ (by omega)]; show _ = some (al (arL 2 (pr 0 0))); rw [← prL0]; rfl
    · rw [g _ (by omega)]; show _ = some (ai 0 (arI 2 (pr 0 0))); rw [← prI0]; rfl
    · rw [g _ (by omega)]; show _ = some (ai 0 (arI 2 (pr 0 0))); rw [← prI0]; rfl
  · exact ⟨100, -1, 0, -1, -1, (g 26 (by omega)).trans rfl, Or.inl rfl, Or.inl rfl⟩
  · exact ⟨0, fun _ => 0, (g 27 (by omega)).trans rfl, (g 28 (by omega)).trans rfl⟩
  · refine ⟨(0, 0, 0), (0, 0, 0), (g 29 (by omega)).trans rfl, ?_, ?_, ?_⟩
    · rw [g _ (by omega)]; show _ = some (al (arL 2 (pr 0 0))); rw [← prL0]; rfl
    · rw [g _ (by omega)]; show _ = some (ai 0 (arI 2 (pr 0 0))); rw [← prI0]; rfl
    · rw [g _ (by omega)]; show _ = some (ai 0 (arI 2 (pr 0 0))); rw [← prI0]; rfl
  · exact ⟨(g 33 (by omega)).trans rfl, fun _ => 0, fun _ => 0, (g 34 (by omega)).trans rfl, (g 35 (by omega)).trans rfl⟩
  · exact ⟨0, 0, 0, 0, fun _ => 0, (g 36 (by omega)).trans rfl, (g 37 (by omega)).trans rfl⟩
  · exact ⟨0, 0, fun _ => 0, fun _ => 0, (g 38 (by omega)).trans rfl, (g 39 (by omega)).trans rfl, (g 40 (by omega)).trans rfl⟩
  · exact ⟨fun _ => 0, (g 41 (by omega)).trans rfl⟩
  · exact ⟨fun _ => 0, fun _ => 0, fun _ => 0, (g 8 (by omega)).trans rfl, (g 9 (by omega)).trans rfl, (g 10 (by omega)).trans rfl⟩
set_option maxRecDepth 100000 in
theorem px0 (B : Nat) {σ : MS} (x : IB 6 σ) : PX (hZ B) B gZ σ := by
  have g := hZ_g B
  obtain ⟨n1, n2, n3⟩ := x.n
  have i17 : σ.i 17 = -1 := x.1 17
  have z : ∀ k, k ≠ 5 → k ≠ 6 → k ≠ 7 → arI 24 (fun _ => 0) = arI 24 (σ.a k) := fun k a b c => arI_c (fun j _ => (x.2.1 k j a b c).symm)
  have q6 : arQ 6 (fun _ => none) = arQ 6 (fun b => if b < 0 then some (gB gZ b + 2) else none) := by
    congr 1
  have q8 : arQ 8 (fun _ => none) = arQ 8 (fun b => if b < 0 then some (gT gZ b) else none) := by
    congr 1
  refine ⟨?_, ⟨?_, ?_⟩, ⟨⟨0, 0, ?_⟩, ?_, ?_, ?_, ?_⟩, fun b hb => ?_, fun b c hb _ => ?_, fun t ht => ?_, ?_, fun b hb => ?_, fun b c hb _ => ?_, fun t ht => ?_⟩
  · unfold PM; rw [n1, n2, i17]; exact (g 0 (by omega)).trans rfl
  · rw [n1, ← q6]; exact (g 1 (by omega)).trans rfl
  · rw [n2, ← q8]; exact (g 2 (by omega)).trans rfl
  · rw [n3]; exact (g 3 (by omega)).trans rfl
  · rw [← z 29 (by omega) (by omega) (by omega)]; exact (g 4 (by omega)).trans rfl
  · rw [← z 30 (by omega) (by omega) (by omega)]; exact (g 5 (by omega)).trans rfl
  · rw [← z 31 (by omega) (by omega) (by omega)]; exact (g 6 (by omega)).trans rfl
  · rw [← z 32 (by omega) (by omega) (by omega)]; exact (g 7 (by omega)).trans rfl
  · rw [n1] at hb; omega
  · rw [n1] at hb; omega
  · rw [n2] at ht; omega
  · show B + 72 ≤ B + 42 + (c11 B).length
    exact Nat.le_refl (B + 72)
  · rw [n1] at hb; omega
  · rw [n1] at hb; omega
  · rw [n2] at ht; omega
theorem start_w {R : Type} {B : Nat} {K : Mo R} {Q : R → Hp → Prop} (q : ∀ h g σ, Inv h B g σ → h.2.1 ≤ B + 72 → h.2.2 ≤ 6000 → WP K h Q) : WP (fX11_init_256 FU (B + 42) 0) (hZ B) (fun _ h => WP K h Q) := by
  have r := ini_l (M := B + 42) (Q := fun _ τ => IB 6 τ) (fun τ x => x) FU 0 σZ (by omega) (by unfold FU; omega) ⟨fun _ => rfl, fun _ _ _ _ _ => rfl, fun j hj => by omega⟩
  obtain ⟨_, h', τ, e, im, fm, x⟩ := r _ (im0 B)
  refine wp_r e (q h' gZ τ ⟨IX.frM x.wf ⟨px0 B x, sx0 B⟩ fm, im, x.wf⟩ ?_ ?_)
  · rw [fm.1]; show B + 42 + (c11 B).length ≤ B + 72; exact Nat.le_refl (B + 72)
  · rw [fm.1]; show 4290 ≤ 6000; omega
