/-! limit, check. -/
theorem noCheck_r {M : Nat} {σ : MS} {b : Nat} (hb : b < 6) (hi : inB (nI b) 0 (σ.i 0 - 1) = true) (c : Int32) : RO M (pX11_noCheck M (nI b) c) σ (bI (!inB c 0 (σ.a 23 b - 1))) := by
  unfold pX11_noCheck
  refine ro_bd (ro_vc (noBridge_r (nI b))) ?_
  rw [hi, if_pos (show bI (!true) = 0 from rfl)]
  refine ro_gA (ro_ldI b rfl (by show _ < 6; omega) ?_)
  refine ro_eq (in_e c 0 (σ.a 23 b - 1)) ?_
  cases inB c 0 (σ.a 23 b - 1)
  · rw [if_pos (show bI false = 0 from rfl)]; exact ro_rnZ (Or.inr rfl)
  · rw [if_neg (show ¬ bI true = 0 by decide)]; exact ro_rnZ (Or.inl rfl)
theorem noCheck_n {M : Nat} {σ : MS} {b : Int32} (hi : inB b 0 (σ.i 0 - 1) = false) (c : Int32) : RO M (pX11_noCheck M b c) σ 1 := by
  unfold pX11_noCheck
  refine ro_bd (ro_vc (noBridge_r b)) ?_
  rw [hi, if_neg (show ¬ bI (!false) = 0 by decide)]
  exact ro_rnZ (Or.inr rfl)
/-- the check of a bridge -/
theorem ckAt {h : Hp} {B : Nat} {g : Gh} {σ : MS} (x : IX h B g σ) (w : WF σ) {b : Nat} (hb : b < nbd σ) (v : Int32) : (inB v 0 (σ.a 23 b - 1) = false ∧ pX0_checkAt (gB g b + 2) v h = some (none, h)) ∨ (inB v 0 (σ.a 23 b - 1) = true ∧ ∃ c, c < ncd σ b ∧ v = nI c ∧ pX0_checkAt (gB g b + 2) v h = some (some (gC g b c), h)) := by
  have y := x.1.2.2.2.1 b hb
  have wb := (w.wb hb).1
  have e := checkAt_e y wb.2.2.2.2.2.2.1 v
  rw [wb.2.2.2.2.2.1]
  cases hi : inB v 0 (nI (ncd σ b) - 1)
  · rw [hi] at e
    exact Or.inl ⟨rfl, by simpa using e⟩
  · rw [hi] at e
    obtain ⟨c, hc, rfl⟩ := inB_ix (by have := wb.2.2.2.2.2.2.1; omega) hi
    refine Or.inr ⟨rfl, c, hc, rfl, ?_⟩
    have : toN (nI c) = c := by
      have := wb.2.2.2.2.2.2.1
      unfold toN nI
      simp
      omega
    rw [this] at e
    simpa using e
theorem limit_s (B : Nat) (v1 v2 v3 v4 : Int32) : StC B (pX10_limit B v1 v2 v3 v4) (pX11_limit (B + 42) v1 v2 v3 v4) := by
  refine stp_bw (fun h g σ x w => ?_)
  have x1 := x.1.1
  have rf := FrC.rf B h
  unfold pX10_limit pX11_limit
  rcases brAt x w v1 with ⟨hi, e⟩ | ⟨hi, b, hb, rfl, e⟩
  · refine bw_eL (by rw [vc_e x1]; exact e) (bw_eR (ro_vc (noCheck_n hi v2)) ?_)
    rw [if_pos (show (none : Option Nat) = none from rfl), if_neg (show ¬ (1 : Int32) = 0 by decide)]
    unfold bX10_limit_22
    rw [if_pos rfl]
    exact bw_rn x w rf
  · have wb := (w.wb hb).1
    have b6 := w.1.2
    have y := x.1.2.2.2.1 b hb
    refine bw_eL (by rw [vc_e x1]; exact e) (bw_eR (ro_vc (noCheck_r (by omega) hi v2)) ?_)
    rw [if_neg (show ¬ (some (gB g b + 2) = none) by simp)]
    rcases ckAt x w hb v2 with ⟨hi2, e2⟩ | ⟨hi2, c, hc, rfl, e2⟩
    · refine bw_eL (by rw [vc_e y.1]; exact e2) ?_
      rw [hi2, if_neg (show ¬ bI (!false) = 0 by decide)]
      unfold bX10_limit_22
      rw [if_pos rfl]
      exact bw_rn x w rf
    · refine bw_eL (by rw [vc_e y.1]; exact e2) ?_
      rw [hi2, if_pos (show bI (!true) = 0 from rfl)]
      unfold bX10_limit_22
      rw [if_neg (show ¬ (some (gC g b c) = none) by simp)]
      refine bw_eL (limits_e v3 v4 h) (bw_eR (ro_of (isLimit_e v3 v4)) ?_)
      cases hl : limB v3 v4
      · rw [if_pos (show bI false = 0 from rfl), if_pos (show bI false = 0 from rfl)]
        exact bw_rn x w rf
      · rw [if_neg (show ¬ bI true = 0 by decide), if_neg (show ¬ bI true = 0 by decide)]
        obtain ⟨lm1, lm2⟩ := limB_t hl
        have o := x.1.2.2.2.2.2.2.2.1 b hb
        have o2 := x.1.2.2.2.2.2.2.2.2.1
        obtain ⟨oc1, oc2⟩ := o2 b c hb hc
        have n5 := wb.n
        have c5 := wb.2.2.2.2.2.2.1
        generalize hs : (σ.sa 26 (5 * b + c) v3).sa 27 (5 * b + c) v4 = σ'
        have e26 : ∀ j, σ'.a 26 j = if j = 5 * b + c then v3 else σ.a 26 j := fun j => by rw [← hs]; simp [sa_a]
        have e27 : ∀ j, σ'.a 27 j = if j = 5 * b + c then v4 else σ.a 27 j := fun j => by rw [← hs]; simp [sa_a]
        have ea' : ∀ k j, k ≠ 26 → k ≠ 27 → σ'.a k j = σ.a k j := fun k j h1 h2 => by rw [← hs, sa_a, if_neg (by omega), sa_a, if_neg (by omega)]
        have ei : σ'.1 = σ.1 := by rw [← hs]; rfl
        have el : σ'.2.2 = σ.2.2 := by rw [← hs]; rfl
        have sl : ∀ b, SlE σ σ' b := fun b => ⟨fun k hk => ea' k b (by omega) (by omega), fun k _ => ea' 4 _ (by omega) (by omega), fun a k _ _ => by show σ'.2.2 8 _ = _; rw [el]; rfl, by show σ'.2.2 9 _ = _; rw [el]; rfl⟩
        have ec : ∀ b' c', c' < 5 → ¬ (b' = b ∧ c' = c) → CkE σ σ' b' c' := by
          intro b' c' h5 hne k hk
          by_cases k1 : k = 26
          · rw [k1, e26, if_neg (by omega)]
          · by_cases k2 : k = 27
            · rw [k2, e27, if_neg (by omega)]
            · exact ea' k _ k1 k2
        refine ⟨1, σ', g, ?_, ?_, ?_⟩
        · obtain ⟨f, f1, f2⟩ := x.1.2.2.2.2.1 b c hb hc
          refine wp_pF (k := 1) f1.1 (by simp) ?_
          have g1 : Fr (fun y => y = gC g b c) h (up h (gC g b c) (ob 1 ([vr (some (gC g b c + 1)), vi (σ.a 26 (5 * b + c)), vi (σ.a 27 (5 * b + c))].set 1 (vi v3)))) := (Fr.rf _ h).put _ rfl
          have a1 : (up h (gC g b c) (ob 1 ([vr (some (gC g b c + 1)), vi (σ.a 26 (5 * b + c)), vi (σ.a 27 (5 * b + c))].set 1 (vi v3)))).1 (gC g b c) = some (ob 1 [vr (some (gC g b c + 1)), vi v3, vi (σ.a 27 (5 * b + c))]) := up_s _ _ _
          generalize up h (gC g b c) (ob 1 ([vr (some (gC g b c + 1)), vi (σ.a 26 (5 * b + c)), vi (σ.a 27 (5 * b + c))].set 1 (vi v3))) = h1 at g1 a1 ⊢
          refine wp_pF (k := 2) a1 (by simp) ?_
          have g2 : Fr (fun y => y = gC g b c) h (up h1 (gC g b c) (ob 1 ([vr (some (gC g b c + 1)), vi v3, vi (σ.a 27 (5 * b + c))].set 2 (vi v4)))) := g1.put _ rfl
          have a2 : (up h1 (gC g b c) (ob 1 ([vr (some (gC g b c + 1)), vi v3, vi (σ.a 27 (5 * b + c))].set 2 (vi v4)))).1 (gC g b c) = some (ob 1 [vr (some (gC g b c + 1)), vi v3, vi v4]) := up_s _ _ _
          generalize up h1 (gC g b c) (ob 1 ([vr (some (gC g b c + 1)), vi v3, vi (σ.a 27 (5 * b + c))].set 2 (vi v4))) = h2 at g2 a2 ⊢
          have lab : ∀ y, gW g y ≠ 3 * (5 * b + c) + 1 → h2.1 y = h.1 y := fun y hy => g2.2 y (fun q => hy (by rw [q]; exact (oc2 0 (by omega)).2))
          refine wp_rn ⟨rfl, ⟨x.1.br1 w hb (fun _ _ => rfl) (fun _ _ _ _ => rfl) (fun _ _ => rfl) (fun _ _ => rfl) (fun a a1 a2 => g2.2 a (fun q => by omega)) (fun a a1 a2 a3 => lab a (fun q => a3 (Or.inr ⟨c, by omega, q⟩))) (by rw [g2.1]; exact Nat.le_refl _) ei el (fun k j h1 h2 => ea' k j (by omega) (by omega)) (fun b' k _ hk => ea' k b' (by omega) (by omega)) (fun b' c' _ hne h5 => ec b' c' h5 (fun q => hne q.1)) ?_ (fun c' hc' => ?_), x.2.ag (fun a a1 a2 => g2.2 a (fun q => by omega))⟩, FrC.fr g2 (fun a ha => by omega)⟩
          · refine Br1.tr wb (sl b) (y.ag (fun i hi => lab _ (fun q => ?_)) (by omega))
            have := (o.2 i hi).2
            omega
          · rw [(sl b).c] at hc'
            obtain ⟨p1, p2⟩ := o2 b c' hb hc'
            refine ⟨?_, p1, fun i hi => ⟨by rw [g2.1]; exact (p2 i hi).1, (p2 i hi).2⟩⟩
            by_cases q : c' = c
            · subst q
              refine ⟨f, ?_, fun a ha => ?_⟩
              · rw [(sl b).L, (sl b).2.2.2, e26, if_pos rfl, e27, if_pos rfl]
                exact ⟨a2, g2.at f1.2.1 (show ¬ gC g b c' + 1 = gC g b c' by omega), g2.at f1.2.2 (show ¬ gC g b c' + 2 = gC g b c' by omega)⟩
              · rw [(sl b).L] at ha
                unfold kdC atC
                rw [ea' 24 _ (by omega) (by omega), ea' 25 _ (by omega) (by omega), (sl b).n, f2 a ha]
                have rx := rsB_x wb (wb.2.2.2.2.2.2.2 c' hc').1
                exact ((sl b).inf (by have := wb.2.1; omega) n5.2 rx.2).symm
            · obtain ⟨f', f1', f2'⟩ := x.1.2.2.2.2.1 b c' hb hc'
              have old : Ck1 h2 g σ b c' := ⟨f', f1'.ag (fun i hi => lab _ (by rw [(p2 i hi).2]; omega)), f2'⟩
              exact old.tr wb hc' (sl b) (ec b c' (by omega) (fun z => q z.2))
        · refine rm_gA (rm_stI (5 * b + c) (ix5 b c) (by show _ < 30; omega) (rm_gA (rm_stI (5 * b + c) (ix5 b c) (by show _ < 30; omega) ?_)))
          rw [hs]
          exact rm_rn ⟨rfl, SmE.rf _⟩
        · refine w.br1 (b0 := b) ei el (fun k j h1 h2 => ea' k j (by omega) (by omega)) (fun b' k _ hk => ea' k b' (by omega) (by omega)) (fun b' c' _ hne h5 => ec b' c' h5 (fun q => hne q.1)) ?_ ?_
          · obtain ⟨p1, p2, p3, p4, ⟨z, p, p5⟩, p6, p7, p8⟩ := wb
            unfold WFb
            rw [(sl b).L, (sl b).n, (sl b).c, ea' 1 b (by omega) (by omega), ea' 2 b (by omega) (by omega), ea' 3 b (by omega) (by omega), ea' 23 b (by omega) (by omega)]
            refine ⟨p1, p2, p3, p4, ⟨z, p, (sl b).bq p5 (fun k hk => (sl b).s (by omega))⟩, p6, p7, fun c' hc' => ?_⟩
            by_cases q : c' = c
            · subst q
              have := p8 c' hc'
              unfold WFc RsB kdC atC at this ⊢
              rw [ea' 24 _ (by omega) (by omega), ea' 25 _ (by omega) (by omega), (sl b).L, (sl b).n, e26, if_pos rfl, e27, if_pos rfl]
              exact ⟨this.1, this.2.1, lm1, lm2⟩
            · exact (p8 c' hc').tr (sl b) (ec b c' (by omega) (fun z => q z.2))
          · unfold WFr
            rw [ea' 5 b (by omega) (by omega), ea' 6 b (by omega) (by omega), ea' 7 b (by omega) (by omega), show nbd σ' = nbd σ by unfold nbd MS.i; rw [ei]]
            exact w.2.2.2.2.2.2.1 b (by omega)
