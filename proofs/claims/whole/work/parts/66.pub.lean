/-! The calls that only look: told, axles, count. -/
theorem stp_g {R : Type} {B : Nat} {P P' : Mo R} (H : ∀ h g σ, IX h B g σ → WF σ → ∃ r σ' g', WP P h (fun r' h' => r' = r ∧ IX h' B g' σ' ∧ FrC B h h') ∧ RM (B + 42) P' σ (fun r' τ => r' = r ∧ SmE σ' τ) ∧ WF σ') : StC B P P' := by
  intro h g σ ⟨hx, hm, hw⟩
  obtain ⟨r, σ', g', ⟨r1, h1, e1, q1, q2, q3⟩, hr, hw'⟩ := H h g σ hx hw
  obtain ⟨r2, h2, τ, e2, im, fm, q4, q5⟩ := hr h1 (hm.fr (fun a a1 a2 => q3.1 a (by omega) (by omega)))
  subst q1 q4
  have t2 := hw'.br (q5.br (nbd σ')) (q5.1 0 (by omega) (by omega) (by omega) (by omega) (by omega)) (Nat.le_refl _)
  have f2 := IX.frM hw' q2 fm
  refine ⟨r2, h1, h2, g', τ, e1, e2, ⟨⟨PX.br hw' f2.1 (q5.br (nbd σ')) (q5.1 0 (by omega) (by omega) (by omega) (by omega) (by omega)) (Nat.le_refl _), f2.2⟩, im, t2.1⟩, ?_, ?_, ⟨_, (hm.fr (fun a a1 a2 => q3.1 a (by omega) (by omega))).1⟩⟩
  · rw [fm.1]; exact q3.2.1
  · rw [fm.1]; exact q3.2.2
theorem FrC.rf (B : Nat) (h : Hp) : FrC B h h := ⟨fun _ _ _ => rfl, by omega, by omega⟩
theorem FrC.fr {B : Nat} {h h' : Hp} {S : Nat → Prop} (F : Fr S h h') (d : ∀ a, S a → a < B + 42 ∨ B + 72 ≤ a) : FrC B h h' := ⟨fun a h1 h2 => F.2 a (fun q => by have := d a q; omega), by rw [F.1]; omega, by rw [F.1]; omega⟩
section At
variable {h : Hp} {B : Nat} {g : Gh} {σ : MS}
theorem brAt (x : IX h B g σ) (w : WF σ) (v : Int32) : (inB v 0 (σ.i 0 - 1) = false ∧ pX10_bridgeAt B v h = some (none, h)) ∨ (inB v 0 (σ.i 0 - 1) = true ∧ ∃ b, b < nbd σ ∧ v = nI b ∧ pX10_bridgeAt B v h = some (some (gB g b + 2), h)) := by
  obtain ⟨⟨x1, x2, _⟩, _⟩ := x
  have w1 := w.1
  rw [w1.1]
  unfold pX10_bridgeAt
  rw [bd_e (gI_e (k := 1) x1 rfl), bd_e (within_e _ _ _ h)]
  cases hi : inB v 0 (nI (nbd σ) - 1)
  · left
    exact ⟨rfl, by rw [if_pos (by rfl)]; rfl⟩
  · right
    obtain ⟨b, hb, rfl⟩ := inB_ix (by omega) hi
    refine ⟨rfl, b, hb, rfl, ?_⟩
    rw [if_neg (by decide), bd_e (gA_e (k := 0) x1 rfl), bd_e (ldQ_e x2.1 (by rw [arQ_len]; omega) (by rw [arQ_len]; omega)), arQ_get _ (by omega), if_pos hb]
    rfl
theorem trAt (x : IX h B g σ) (w : WF σ) (v : Int32) : (inB v 0 (σ.i 12 - 1) = false ∧ pX10_trainAt B v h = some (none, h)) ∨ (inB v 0 (σ.i 12 - 1) = true ∧ ∃ t, t < ntd σ ∧ v = nI t ∧ pX10_trainAt B v h = some (some (gT g t), h)) := by
  obtain ⟨⟨x1, x2, _⟩, _⟩ := x
  have w1 := w.2.1
  rw [w1.1]
  unfold pX10_trainAt
  rw [bd_e (gI_e (k := 3) x1 rfl), bd_e (within_e _ _ _ h)]
  cases hi : inB v 0 (nI (ntd σ) - 1)
  · left
    exact ⟨rfl, by rw [if_pos (by rfl)]; rfl⟩
  · right
    obtain ⟨b, hb, rfl⟩ := inB_ix (by omega) hi
    refine ⟨rfl, b, hb, rfl, ?_⟩
    rw [if_neg (by decide), bd_e (gA_e (k := 2) x1 rfl), bd_e (ldQ_e x2.2 (by rw [arQ_len]; omega) (by rw [arQ_len]; omega)), arQ_get _ (by omega), if_pos hb]
    rfl
end At
theorem swt_d {R : Type} {x : Int32} {ps : List (Mo R)} {d : Mo R} (h : x < 0 ∨ ps.length ≤ x.toNatClampNeg) : swt x ps d = d := by unfold swt; rw [if_pos h]
theorem swt_i {R : Type} {ps : List (Mo R)} {d : Mo R} {k : Nat} (h : k < ps.length) (hl : ps.length < 2 ^ 31) : swt (nI k) ps d = ps.getD k d := by
  unfold swt
  rw [nI_clamp (by omega), if_neg]
  intro z
  rcases z with z | z
  · exact absurd z (by have := nI_pos' (n := k) (by omega); simpa using this)
  · omega
theorem swt_c (x : Int32) (n : Nat) : (x < 0 ∨ n ≤ x.toNatClampNeg) ∨ ∃ k, k < n ∧ x = nI k := by
  by_cases c : x < 0
  · exact Or.inl (Or.inl c)
  · obtain ⟨k, hk, rfl⟩ := nI_of (x := x) c
    by_cases c2 : k < n
    · exact Or.inr ⟨k, c2, rfl⟩
    · exact Or.inl (Or.inr (by rw [nI_clamp hk]; omega))
theorem told_s (B : Nat) (v1 v2 : Int32) : StC B (pX10_told B v1 v2) (pX11_told (B + 42) v1 v2) := by
  refine stp_ro (fun h g σ x w => ?_)
  have x1 := x.1.1
  unfold pX10_told pX11_told
  rcases brAt x w v1 with ⟨hi, e⟩ | ⟨hi, b, hb, rfl, e⟩
  · refine ⟨-1001, wp_e (by rw [vc_e x1]; exact e) ?_, rm_ro (ro_vc (noBridge_r v1)) ?_⟩
    · rw [if_pos rfl]; exact wp_rn ⟨rfl, x, FrC.rf B h⟩
    · rw [hi]; exact rm_rn ⟨rfl, SmE.rf σ⟩
  · have wb := w.2.2.2.2.2.1 b hb
    have b6 := w.1.2
    have y := x.1.2.2.2.1 b hb
    have pre : ∀ (r : Int32), WP (swt v2 [
        (bd (gI (some (gB g b + 2)) 0 0) fun x57 => rn x57), (bd (gA (some (gB g b + 2)) 0 1) fun x62 => bd (aln x62) fun x65 => rn x65), (bd (gI (some (gB g b + 2)) 0 2) fun x68 => rn x68), (bd (gI (some (gB g b + 2)) 0 7) fun x73 => rn x73), (bd (gA (some (gB g b + 2)) 0 5) fun x78 => bd (ldI 0 x78 (0 : Int32)) fun x82 => rn x82), (bd (gA (some (gB g b + 2)) 0 5) fun x85 => bd (ldI 0 x85 (1 : Int32)) fun x89 => rn x89), (bd (gA (some (gB g b + 2)) 0 5) fun x92 => bd (ldI 0 x92 (2 : Int32)) fun x96 => rn x96)] (rn (-1002 : Int32))) h (fun r' h' => r' = r ∧ h' = h) → RO (B + 42) (swt v2 [
        (bd (gA (some (B + 42)) 11 1) fun x57 => bd (ldI 0 x57 (nI b)) fun x61 => rn x61), (bd (gA (some (B + 42)) 11 2) fun x64 => bd (ldI 0 x64 (nI b)) fun x68 => rn x68), (bd (gA (some (B + 42)) 11 3) fun x71 => bd (ldI 0 x71 (nI b)) fun x75 => rn x75), (bd (gA (some (B + 42)) 11 23) fun x78 => bd (ldI 0 x78 (nI b)) fun x82 => rn x82), (bd (gA (some (B + 42)) 11 5) fun x85 => bd (ldI 0 x85 (nI b)) fun x89 => rn x89), (bd (gA (some (B + 42)) 11 6) fun x92 => bd (ldI 0 x92 (nI b)) fun x96 => rn x96), (bd (gA (some (B + 42)) 11 7) fun x99 => bd (ldI 0 x99 (nI b)) fun x103 => rn x103)] (rn (-1002 : Int32))) σ r → ∃ r, WP (bd (vc 10 (some B) (fun o => pX10_bridgeAt o (nI b))) fun x2 => if x2 = none then rn (-1001 : Int32) else swt v2 [
        (bd (gI x2 0 0) fun x57 => rn x57), (bd (gA x2 0 1) fun x62 => bd (aln x62) fun x65 => rn x65), (bd (gI x2 0 2) fun x68 => rn x68), (bd (gI x2 0 7) fun x73 => rn x73), (bd (gA x2 0 5) fun x78 => bd (ldI 0 x78 (0 : Int32)) fun x82 => rn x82), (bd (gA x2 0 5) fun x85 => bd (ldI 0 x85 (1 : Int32)) fun x89 => rn x89), (bd (gA x2 0 5) fun x92 => bd (ldI 0 x92 (2 : Int32)) fun x96 => rn x96)] (rn (-1002 : Int32))) h (fun r' h' => r' = r ∧ IX h' B g σ ∧ FrC B h h') ∧ RM (B + 42) (bd (vc 11 (some (B + 42)) (fun o => pX11_noBridge o (nI b))) fun x2 => if x2 = 0 then swt v2 [
        (bd (gA (some (B + 42)) 11 1) fun x57 => bd (ldI 0 x57 (nI b)) fun x61 => rn x61), (bd (gA (some (B + 42)) 11 2) fun x64 => bd (ldI 0 x64 (nI b)) fun x68 => rn x68), (bd (gA (some (B + 42)) 11 3) fun x71 => bd (ldI 0 x71 (nI b)) fun x75 => rn x75), (bd (gA (some (B + 42)) 11 23) fun x78 => bd (ldI 0 x78 (nI b)) fun x82 => rn x82), (bd (gA (some (B + 42)) 11 5) fun x85 => bd (ldI 0 x85 (nI b)) fun x89 => rn x89), (bd (gA (some (B + 42)) 11 6) fun x92 => bd (ldI 0 x92 (nI b)) fun x96 => rn x96), (bd (gA (some (B + 42)) 11 7) fun x99 => bd (ldI 0 x99 (nI b)) fun x103 => rn x103)] (rn (-1002 : Int32)) else rn (-1001 : Int32)) σ (fun r' τ => r' = r ∧ SmE σ τ) := by
      intro r q q'
      refine ⟨r, wp_e (by rw [vc_e x1]; exact e) ?_, rm_ro (ro_vc (noBridge_r (nI b))) ?_⟩
      · rw [if_neg (by simp)]
        exact wp_mono q (fun r' h' z => ⟨z.1, by rw [z.2]; exact x, by rw [z.2]; exact FrC.rf B h⟩)
      · rw [hi, if_pos (by rfl)]
        exact rm_r q' ⟨rfl, SmE.rf σ⟩
    rcases swt_c v2 7 with c | ⟨k, hk, rfl⟩
    · refine pre (-1002) ?_ ?_
      · rw [swt_d c]; exact wp_rn ⟨rfl, rfl⟩
      · rw [swt_d c]; exact ro_rn
    · match k, hk with
      | 0, _ =>
        refine pre (σ.a 1 b) ?_ ?_
        · rw [swt_i (by simp) (by simp)]; exact wp_gI (k := 0) y.1 rfl (wp_rn ⟨wb.1.symm, rfl⟩)
        · rw [swt_i (by simp) (by simp)]; exact ro_gA (ro_ldI b rfl (by show _ < 6; omega) ro_rn)
      | 1, _ =>
        refine pre (σ.a 2 b) ?_ ?_
        · rw [swt_i (by simp) (by simp)]; exact wp_gA (k := 1) y.1 rfl (wp_alnI y.2.1 (wp_rn ⟨wb.2.2.1.symm, rfl⟩))
        · rw [swt_i (by simp) (by simp)]; exact ro_gA (ro_ldI b rfl (by show _ < 6; omega) ro_rn)
      | 2, _ =>
        refine pre (σ.a 3 b) ?_ ?_
        · rw [swt_i (by simp) (by simp)]; exact wp_gI (k := 2) y.1 rfl (wp_rn ⟨wb.2.2.2.1.symm, rfl⟩)
        · rw [swt_i (by simp) (by simp)]; exact ro_gA (ro_ldI b rfl (by show _ < 6; omega) ro_rn)
      | 3, _ =>
        refine pre (σ.a 23 b) ?_ ?_
        · rw [swt_i (by simp) (by simp)]; exact wp_gI (k := 7) y.1 rfl (wp_rn ⟨wb.2.2.2.2.2.1.symm, rfl⟩)
        · rw [swt_i (by simp) (by simp)]; exact ro_gA (ro_ldI b rfl (by show _ < 6; omega) ro_rn)
      | 4, _ =>
        refine pre (σ.a 5 b) ?_ ?_
        · rw [swt_i (by simp) (by simp)]; exact wp_gA (k := 5) y.1 rfl (wp_ldI (j := 0) y.2.2.2.2.1 rfl (by omega) (by omega) (wp_rn ⟨rfl, rfl⟩))
        · rw [swt_i (by simp) (by simp)]; exact ro_gA (ro_ldI b rfl (by show _ < 6; omega) ro_rn)
      | 5, _ =>
        refine pre (σ.a 6 b) ?_ ?_
        · rw [swt_i (by simp) (by simp)]; exact wp_gA (k := 5) y.1 rfl (wp_ldI (j := 1) y.2.2.2.2.1 rfl (by omega) (by omega) (wp_rn ⟨rfl, rfl⟩))
        · rw [swt_i (by simp) (by simp)]; exact ro_gA (ro_ldI b rfl (by show _ < 6; omega) ro_rn)
      | 6, _ =>
        refine pre (σ.a 7 b) ?_ ?_
        · rw [swt_i (by simp) (by simp)]; exact wp_gA (k := 5) y.1 rfl (wp_ldI (j := 2) y.2.2.2.2.1 rfl (by omega) (by omega) (wp_rn ⟨rfl, rfl⟩))
        · rw [swt_i (by simp) (by simp)]; exact ro_gA (ro_ldI b rfl (by show _ < 6; omega) ro_rn)
