/-! The reference: open. -/
theorem SmE.eq {σ τ : MS} (x : SmE σ τ) : EQr σ τ := by
  have a := fun k j (h : k < 33) (h2 : k ≠ 11) => x.2.1 k j h2 (by omega) (by omega) (by omega) (by omega)
  exact ⟨x.1 18 (by omega) (by omega) (by omega) (by omega) (by omega), x.1 19 (by omega) (by omega) (by omega) (by omega) (by omega), x.1 20 (by omega) (by omega) (by omega) (by omega) (by omega), fun j => a _ j (by omega) (by omega), fun j => a _ j (by omega) (by omega), fun j => a _ j (by omega) (by omega), fun j => a _ j (by omega) (by omega), fun j => a _ j (by omega) (by omega), fun j => a _ j (by omega) (by omega), fun j => x.2.2 _ j (by omega) (by omega), fun j => x.2.2 _ j (by omega) (by omega)⟩
theorem SmE.si20 {σ τ : MS} (x : SmE σ τ) : SmE (σ.si 20 (-1)) (τ.si 20 (-1)) :=
  ⟨fun k a b c d e => by rw [si_i, si_i]; by_cases z : k = 20 <;> simp only [z, if_true, if_false]; exact x.1 k a b c d e, x.2.1, x.2.2⟩
theorem SmE.met {σ τ : MS} (x : SmE σ τ) (b c t : Nat) (mode : Int32) : metM τ b c t mode = metM σ b c t mode := by
  have a := fun k j (h : k < 33) (h2 : k ≠ 11) => x.2.1 k j h2 (by omega) (by omega) (by omega) (by omega)
  have kd : kdC τ b c = kdC σ b c := a 24 _ (by omega) (by omega)
  have at' : atC τ b c = atC σ b c := by unfold atC; rw [a 25 _ (by omega) (by omega)]
  have i17 : τ.i 17 = σ.i 17 := x.1 17 (by omega) (by omega) (by omega) (by omega) (by omega)
  have tot : ∀ en, totM τ b c t mode en = totM σ b c t mode en := by
    intro en
    unfold totM othM shkM
    rw [kd, at', i17, GRx_c b _ _ t en x.eq, GRx_c b _ _ _ en x.si20.eq, a 6 b (by omega) (by omega), a 7 b (by omega) (by omega), a 5 b (by omega) (by omega)]
  unfold metM oneM
  rw [tot, tot, a 26 _ (by omega) (by omega), a 27 _ (by omega) (by omega), x.2.2 9 b (by omega) (by omega)]
theorem SmE.fail {σ τ : MS} (x : SmE σ τ) (b t : Nat) (mode : Int32) : failM τ b t mode = failM σ b t mode := by
  have key : ∀ k c, flM τ b t mode k c = flM σ b t mode k c := by
    intro k
    induction k with
    | zero => intro c; rfl
    | succ k ih => intro c; rw [flM, flM, x.met, ih]
  unfold failM
  rw [key, show ncd τ b = ncd σ b by unfold ncd; rw [x.2.1 23 b (by omega) (by omega) (by omega) (by omega) (by omega)]]
theorem SmE.wf {σ τ : MS} (x : SmE σ τ) (w : WF σ) : WF τ := (w.br (x.br (nbd σ)) (x.1 0 (by omega) (by omega) (by omega) (by omega) (by omega)) (Nat.le_refl _)).1
theorem SmE.nb {σ τ : MS} (x : SmE σ τ) : nbd τ = nbd σ ∧ ntd τ = ntd σ ∧ nrd τ = nrd σ := by
  unfold nbd ntd nrd
  rw [x.1 0 (by omega) (by omega) (by omega) (by omega) (by omega), x.1 12 (by omega) (by omega) (by omega) (by omega) (by omega), x.1 28 (by omega) (by omega) (by omega) (by omega) (by omega)]
  exact ⟨rfl, rfl, rfl⟩
/-- which roads are open: all, or those whose bridge lets the train through -/
def opX (σ : MS) (t : Nat) (mode : Int32) (all : Bool) (r : Nat) : Bool := all || opN σ t mode r
theorem open_l {M t : Nat} {mode : Int32} {all : Bool} {σ : MS} {Q : Unit → MS → Prop} (w : WF σ) (ht : t < ntd σ) (q : ∀ τ, SmE σ τ → RdS τ (nrd σ) (rdF σ) (rdT σ) (rdM σ) (opX σ t mode all) → Q () τ) : ∀ (F r : Nat) (τ : MS), r ≤ nrd σ → nrd σ < r + F → SmE σ τ → (∀ y, y < r → τ.a 33 y = bI (opX σ t mode all y)) → RM M (fX11_open_3 F M (nI t) mode (bI all) (nI r)) τ Q
  | 0, r, τ, h1, h2, sm, hl => by omega
  | F + 1, r, τ, h1, h2, sm, hl => by
    have r24 := w.2.2.1.2
    show RM M (bX11_open_3 (fX11_open_3 F) M (nI t) mode (bI all) (nI r)) τ Q
    unfold bX11_open_3
    refine rm_gI ?_
    rw [sm.1 28 (by omega) (by omega) (by omega) (by omega) (by omega), w.2.2.1.1]
    by_cases c : nrd σ ≤ r
    · have : r = nrd σ := by omega
      subst this
      rw [if_pos ((nI_leI (by omega) (by omega)).mpr c)]
      refine rm_rn (q τ sm ⟨?_, r24, fun r hr => ?_⟩)
      · rw [sm.1 28 (by omega) (by omega) (by omega) (by omega) (by omega)]; exact w.2.2.1.1
      · obtain ⟨a1, a2, a3⟩ := w.rg.2 r hr
        refine ⟨?_, ?_, ?_, hl r hr⟩
        · rw [sm.2.1 29 r (by omega) (by omega) (by omega) (by omega) (by omega)]; exact a1
        · rw [sm.2.1 30 r (by omega) (by omega) (by omega) (by omega) (by omega)]; exact a2
        · rw [sm.2.1 31 r (by omega) (by omega) (by omega) (by omega) (by omega)]; exact a3
    · rw [if_neg (fun z => c ((nI_leI (by omega) (by omega)).mp z))]
      refine rm_gA ?_
      have put : ∀ (τ : MS) (v : Int32), SmE σ τ → (∀ y, y < r → τ.a 33 y = bI (opX σ t mode all y)) → v = bI (opX σ t mode all r) → RM M (bX11_open_53 (fX11_open_3 F) M (nI t) mode (bI all) (nI r) (some (M + adM 33)) (nI r) v) τ Q := by
        intro τ v sm hl hv
        unfold bX11_open_53
        refine rm_stZ r rfl (by show _ < 24; omega) (by rw [hv]; exact bI_01 _) ?_
        rw [nI_1]
        refine open_l w ht q F (r + 1) _ (by omega) (by omega) (sm.sa (by omega) _ _) (fun y hy => ?_)
        rw [sa_a]
        by_cases z : y = r
        · subst z; rw [if_pos ⟨rfl, rfl⟩]; exact hv
        · rw [if_neg (by omega)]; exact hl y (by omega)
      cases all
      · rw [if_pos (show bI false = 0 from rfl)]
        obtain ⟨_, _, _, _, _, _, _, _, _, _, _, ov⟩ := w.2.2.2.2.2.2.2.2 r (by omega)
        have e32 : τ.a 32 r = σ.a 32 r := sm.2.1 32 r (by omega) (by omega) (by omega) (by omega) (by omega)
        refine rm_gA (rm_ldI r rfl (by show _ < 24; omega) ?_)
        rw [e32]
        rcases ov with z | ⟨b, hb, z⟩
        · rw [z, if_pos (by decide)]
          exact put τ 1 sm hl (by unfold opX opN; rw [z]; rfl)
        · have b6 := w.1.2
          rw [z, if_neg (show ¬ nI b < 0 from nI_nlt (b := 0) (by omega) (by omega))]
          refine rm_gA (rm_ldI r rfl (by show _ < 24; omega) ?_)
          rw [e32, z]
          have w' := sm.wf w
          obtain ⟨n1, n2, n3⟩ := sm.nb
          have hb' : b < nbd τ := by omega
          refine rm_bd (rm_vc (failing_m (w'.wb hb').2 (w'.tr (t := t) (by omega)).2.2.2.1 w'.wu (w'.wc hb') (fun s => ?_)))
          rw [sm.fail]
          have sm2 := sm.tr (stB_Sm τ s)
          have eo : opX σ t mode false r = decide (¬ 0 ≤ failM σ b t mode) := by
            unfold opX opN
            rw [z, show toN (nI b) = b by unfold toN nI; simp; omega, decide_eq_false (show ¬ nI b < 0 from nI_nlt (b := 0) (by omega) (by omega))]
            rfl
          by_cases c0 : 0 ≤ failM σ b t mode
          · rw [if_pos c0]
            exact put _ 0 sm2 hl (by rw [eo, decide_eq_false (fun q => q c0)]; rfl)
          · rw [if_neg c0]
            exact put _ 1 sm2 hl (by rw [eo, decide_eq_true c0]; rfl)
      · rw [if_neg (show ¬ bI true = 0 by decide)]
        exact put τ 1 sm hl rfl
theorem open_m {M t : Nat} {mode : Int32} {all : Bool} {σ τ : MS} {Q : Unit → MS → Prop} (w : WF σ) (ht : t < ntd σ) (sm : SmE σ τ) (q : ∀ τ, SmE σ τ → RdS τ (nrd σ) (rdF σ) (rdT σ) (rdM σ) (opX σ t mode all) → Q () τ) : RM M (pX11_open M (nI t) mode (bI all)) τ Q :=
  open_l w ht q FU 0 τ (by omega) (by have := w.2.2.1.2; unfold FU; omega) sm (fun y hy => by omega)
