/-! Both sides at once: calls that change the state. -/
def Bw {R : Type} (B : Nat) (h0 h : Hp) (g : Gh) (σ : MS) (P P' : Mo R) : Prop := ∃ r σ' g', WP P h (fun r' h' => r' = r ∧ IX h' B g' σ' ∧ FrC B h0 h') ∧ RM (B + 42) P' σ (fun r' τ => r' = r ∧ SmE σ' τ) ∧ WF σ'
theorem stp_bw {R : Type} {B : Nat} {P P' : Mo R} (H : ∀ h g σ, IX h B g σ → WF σ → Bw B h h g σ P P') : StC B P P' := stp_g H
section Bw
variable {R A : Type} {B : Nat} {h0 h : Hp} {g : Gh} {σ : MS}
theorem bw_rn {r : R} (x : IX h B g σ) (w : WF σ) (f : FrC B h0 h) : Bw B h0 h g σ (rn r) (rn r) := ⟨r, σ, g, wp_rn ⟨rfl, x, f⟩, rm_rn ⟨rfl, SmE.rf σ⟩, w⟩
theorem bw_eL {P : Mo A} {K : A → Mo R} {P' : Mo R} {a : A} (e : P h = some (a, h)) (k : Bw B h0 h g σ (K a) P') : Bw B h0 h g σ (bd P K) P' := by
  obtain ⟨r, s, g', k1, k2, k3⟩ := k
  exact ⟨r, s, g', wp_e e k1, k2, k3⟩
theorem bw_eR {P : Mo R} {P' : Mo A} {K' : A → Mo R} {a : A} (e : RO (B + 42) P' σ a) (k : Bw B h0 h g σ P (K' a)) : Bw B h0 h g σ P (bd P' K') := by
  obtain ⟨r, s, g', k1, k2, k3⟩ := k
  exact ⟨r, s, g', k1, rm_ro e k2, k3⟩
theorem bw_gA {P : Mo R} {k : Nat} {f : Option Nat → Mo R} (q : Bw B h0 h g σ P (f (some (B + 42 + adM k)))) (hk : k < 41 := by decide) (hz : kdM k ≠ 0 := by decide) : Bw B h0 h g σ P (bd (gA (some (B + 42)) 11 k) f) := by
  obtain ⟨r, s, g', k1, k2, k3⟩ := q
  exact ⟨r, s, g', k1, rm_gA k2 hk hz, k3⟩
theorem bw_gI {P : Mo R} {k : Nat} {f : Int32 → Mo R} (q : Bw B h0 h g σ P (f (σ.i k))) (hk : k < 41 := by decide) (hz : kdM k = 0 := by decide) : Bw B h0 h g σ P (bd (gI (some (B + 42)) 11 k) f) := by
  obtain ⟨r, s, g', k1, k2, k3⟩ := q
  exact ⟨r, s, g', k1, rm_gI k2 hk hz, k3⟩
theorem bw_ldI {P : Mo R} {k : Nat} {i : Int32} (j : Nat) (hi : i = nI j) (hj : j < lnM k) {f : Int32 → Mo R} (q : Bw B h0 h g σ P (f (σ.a k j))) (hk : k < 41 := by decide) (hz : kdM k = 1 := by decide) : Bw B h0 h g σ P (bd (ldI 0 (some (B + 42 + adM k)) i) f) := by
  obtain ⟨r, s, g', k1, k2, k3⟩ := q
  exact ⟨r, s, g', k1, rm_ldI j hi hj k2 hk hz, k3⟩
theorem bw_in {v lo hi : Int32} {a b a' b' : Mo R} (k0 : inB v lo hi = false → Bw B h0 h g σ a a') (k1 : inB v lo hi = true → Bw B h0 h g σ b b') : Bw B h0 h g σ (bd (pX10_within v lo hi) fun x => if x = 0 then a else b) (bd (pX11_in v.toInt64 lo.toInt64 hi.toInt64) fun x => if x = 0 then a' else b') := by
  refine bw_eL (within_e v lo hi h) (bw_eR (ro_of (in_e v lo hi)) ?_)
  cases hi : inB v lo hi
  · rw [if_pos (by rfl), if_pos (by rfl)]; exact k0 hi
  · rw [if_neg (by decide), if_neg (by decide)]; exact k1 hi
theorem bw_sup (x : IX h B g σ) (w : WF σ) {b : Nat} (hb : b < nbd σ) {kind at_ : Int32} {a u a' u' : Mo R} (k0 : Bw B h0 h g σ u u') (k1 : (kind = 0 → inB at_ 0 (nI (nsd σ b) - 1) = true) → Bw B h0 h g σ a a') : Bw B h0 h g σ (bd (vc 0 (some (gB g b + 2)) (fun o => pX0_lacksSupport o kind at_)) fun x => if x = 0 then a else u) (bd (vc 11 (some (B + 42)) (fun o => pX11_noSupport o (nI b) kind at_)) fun x => if x = 0 then a' else u') := by
  have y := x.1.2.2.2.1 b hb
  have wb := (w.wb hb).1
  have b6 := w.1.2
  refine bw_eL (by rw [vc_e y.1]; exact lacks_e y kind at_) (bw_eR (ro_vc (noSupport_r (by omega) kind at_)) ?_)
  rw [wb.2.2.1]
  by_cases c : kind = 0
  · cases hi : inB at_ 0 (nI (nsd σ b) - 1)
    · rw [decide_eq_true c, if_neg (by decide), if_neg (by decide)]; exact k0
    · rw [decide_eq_true c, if_pos (by rfl), if_pos (by rfl)]; exact k1 (fun _ => hi)
  · rw [decide_eq_false c, if_pos (by rfl), if_pos (by rfl)]; exact k1 (fun q => absurd q c)
theorem bw_res (x : IX h B g σ) (w : WF σ) {b : Nat} (hb : b < nbd σ) {kind at_ : Int32} (hs : kind = 0 → inB at_ 0 (nI (nsd σ b) - 1) = true) {a u a' u' : Mo R} (k0 : Bw B h0 h g σ u u') (k1 : ∀ x0, at_ = nI x0 → RsB σ b kind x0 → Bw B h0 h g σ a a') : Bw B h0 h g σ (bd (vc 0 (some (gB g b + 2)) (fun o => pX0_hasResponse o kind at_)) fun x => if x = 0 then u else a) (bd (vc 11 (some (B + 42)) (fun o => pX11_isResponse o (nI b) kind at_)) fun x => if x = 0 then u' else a') := by
  have y := x.1.2.2.2.1 b hb
  have wb := (w.wb hb).1
  have b6 := w.1.2
  refine bw_eL (by rw [vc_e y.1]; exact hasR_e y kind at_) (bw_eR (ro_vc (isResponse_r (by omega) kind at_)) ?_)
  rw [wb.1]
  by_cases c : kind = 0
  · have hi := hs c
    obtain ⟨j, hj, e⟩ := inB_ix (by have := wb.n; omega) hi
    rw [if_pos c, hi, if_neg (by decide), decide_eq_true c, if_neg (by cases inB at_ 0 (nI (Ld σ b)) <;> cases decide (kind = 1) <;> decide)]
    exact k1 j e (Or.inl ⟨c, hj⟩)
  · rw [if_neg c, decide_eq_false c]
    by_cases c1 : kind = 1
    · rw [decide_eq_true c1]
      cases hi : inB at_ 0 (nI (Ld σ b))
      · rw [if_pos (by rfl), if_pos (by rfl)]; exact k0
      · obtain ⟨j, hj, e⟩ := inB_le (by have := wb.2.1; omega) hi
        rw [if_neg (by decide), if_neg (by decide)]; exact k1 j e (Or.inr ⟨c1, hj⟩)
    · rw [decide_eq_false c1, if_pos (by rfl), if_pos (by rfl)]; exact k0
end Bw
/-- limits -/
def limB (hi lo : Int32) : Bool := inB hi 0 100000 && inB lo (-100000) 0
theorem limits_e (hi lo : Int32) (h : Hp) : pX10_limitsHold hi lo h = some (bI (limB hi lo), h) := by
  unfold pX10_limitsHold limB
  rw [bd_e (within_e _ _ _ h)]
  cases inB hi 0 100000
  · rw [if_pos (by rfl)]; rfl
  · rw [if_neg (by decide), bd_e (within_e _ _ _ h)]
    cases inB lo (-100000) 0
    · rw [if_pos (by rfl)]; rfl
    · rw [if_neg (by decide)]; rfl
theorem isLimit_e (hi lo : Int32) (h : Hp) : pX11_isLimit hi lo h = some (bI (limB hi lo), h) := by
  have e1 : pX11_in hi.toInt64 0 100000 h = some (bI (inB hi 0 100000), h) := in_e hi 0 100000 h
  have e2 : pX11_in lo.toInt64 (-100000) 0 h = some (bI (inB lo (-100000) 0), h) := in_e lo (-100000) 0 h
  unfold pX11_isLimit limB
  rw [bd_e e1]
  cases inB hi 0 100000
  · rw [if_pos (by rfl)]; rfl
  · rw [if_neg (by decide), bd_e e2]
    cases inB lo (-100000) 0
    · rw [if_pos (by rfl)]; rfl
    · rw [if_neg (by decide)]; rfl
theorem limB_t {hi lo : Int32} (h : limB hi lo = true) : (∃ k, k ≤ 100000 ∧ hi = nI k) ∧ -100000 ≤ lo.toInt ∧ lo.toInt ≤ 0 := by
  unfold limB at h
  rw [Bool.and_eq_true] at h
  obtain ⟨k, k1, k2⟩ := inB_le (n := 100000) (by omega) h.1
  refine ⟨⟨k, k1, k2⟩, ?_⟩
  have h2 := h.2
  simp only [inB, decide_eq_true_eq, Int32.le_iff_toInt_le] at h2
  have e1 : (-100000 : Int32).toInt = -100000 := by decide
  have e2 : (0 : Int32).toInt = 0 := by decide
  omega
theorem rule_s (B : Nat) (v1 v2 v3 : Int32) : StC B (pX10_rule B v1 v2 v3) (pX11_rule (B + 42) v1 v2 v3) := by
  refine stp_bw (fun h g σ x w => ?_)
  have x1 := x.1.1
  have rf := FrC.rf B h
  unfold pX10_rule pX11_rule
  rcases brAt x w v1 with ⟨hi, e⟩ | ⟨hi, b, hb, rfl, e⟩
  · refine bw_eL (by rw [vc_e x1]; exact e) (bw_eR (ro_vc (noBridge_r v1)) ?_)
    rw [if_pos rfl, hi, if_neg (show ¬ bI (!false) = 0 by decide)]
    exact bw_rn x w rf
  · have wb := (w.wb hb).1
    have b6 := w.1.2
    have y := x.1.2.2.2.1 b hb
    have o := x.1.2.2.2.2.2.2.2.1 b hb
    have o2 := x.1.2.2.2.2.2.2.2.2.1
    refine bw_eL (by rw [vc_e x1]; exact e) (bw_eR (ro_vc (noBridge_r _)) ?_)
    rw [if_neg (show ¬ (some (gB g b + 2) = none) by simp), hi, if_pos (show bI (!true) = 0 from rfl)]
    -- the change
    have chg : ∀ (k : Nat) (v : Int32), k < 3 → WFr (σ.sa (5 + k) b v) b → ∃ h', WP (bd (gA (some (gB g b + 2)) 0 5) fun x48 => bd (ldI 0 x48 (nI k)) fun x52 => bd (gA (some (gB g b + 2)) 0 5) fun x57 => bd (stI x57 (nI k) v) fun _ => rn x52) h (fun r h'' => r = σ.a (5 + k) b ∧ h'' = h') ∧ IX h' B g (σ.sa (5 + k) b v) ∧ FrC B h h' ∧ WF (σ.sa (5 + k) b v) := by
      intro k v hk hr
      have ea : ∀ k' j, ¬ (5 ≤ k' ∧ k' ≤ 7) → ¬ (23 ≤ k' ∧ k' ≤ 27) → (σ.sa (5 + k) b v).a k' j = σ.a k' j := fun k' j h1 h2 => by rw [sa_a, if_neg (by omega)]
      have eb : ∀ b' k', b' ≠ b → (k' = 5 ∨ k' = 6 ∨ k' = 7 ∨ k' = 23) → (σ.sa (5 + k) b v).a k' b' = σ.a k' b' := fun b' k' h1 _ => by rw [sa_a, if_neg (by omega)]
      have ec : ∀ b' c, CkE σ (σ.sa (5 + k) b v) b' c := fun b' c k' hk' => by rw [sa_a, if_neg (by omega)]
      have nc : ncd (σ.sa (5 + k) b v) b = ncd σ b := by unfold ncd; rw [sa_a, if_neg (by omega)]
      refine ⟨up h (gB g b + 3) (ai 0 (arI 3 (fun y => if y = k then v else σ.a (5 + y) b))), ?_, ⟨?_, x.2.ag (fun a a1 a2 => up_n (by omega))⟩, FrC.up _ (by omega), ?_⟩
      · refine wp_gA (k := 5) y.1 rfl ?_
        refine wp_ldI y.2.2.2.2.1 rfl hk (by omega) ?_
        refine wp_gA (k := 5) y.1 rfl ?_
        refine wp_stI y.2.2.2.2.1 rfl hk (by omega) ?_
        exact wp_rn ⟨rfl, rfl⟩
      · refine x.1.br1 w hb (fun _ _ => rfl) (fun _ _ _ _ => rfl) (fun _ _ => rfl) (fun _ _ => rfl) (fun a a1 a2 => up_n (by omega)) (fun a a1 a2 a3 => up_n (fun q => a3 (Or.inl (by rw [q]; exact (o.2 3 (by have := wb.n; omega)).2)))) (Nat.le_refl _) rfl rfl ea eb (fun b' c _ _ _ => ec b' c) ?_ (fun c hc => ?_)
        · obtain ⟨y1, y2, y3, y4, y5, y6⟩ := y
          have n5 := wb.n
          unfold Br1
          rw [show Ld (σ.sa (5 + k) b v) b = Ld σ b by unfold Ld; rw [ea 1 b (by omega) (by omega)], show nsd (σ.sa (5 + k) b v) b = nsd σ b by unfold nsd; rw [ea 2 b (by omega) (by omega)], nc]
          refine ⟨(up_n (by omega)).trans y1, ?_, (up_n (by omega)).trans y3, fun i hi => (up_n (by omega)).trans (y4 i hi), ?_, (up_n (by omega)).trans y6⟩
          · rw [up_n (by omega), y2]
            congr 2
            exact arI_c (fun j _ => by unfold spd; rw [ea 4 _ (by omega) (by omega)])
          · rw [up_s]
            congr 2
            refine arI_c (fun j _ => ?_)
            rw [sa_a]
            by_cases c : j = k
            · rw [if_pos c, if_pos ⟨by omega, rfl⟩]
            · rw [if_neg c, if_neg (by omega)]
        · rw [nc] at hc
          obtain ⟨c1, c2⟩ := o2 b c hb hc
          have ck := x.1.2.2.2.2.1 b c hb hc
          obtain ⟨f, f1, f2⟩ := ck
          have ck' : Ck1 (up h (gB g b + 3) (ai 0 (arI 3 (fun y => if y = k then v else σ.a (5 + y) b)))) g σ b c := ⟨f, f1.ag (fun i hi => up_n (fun q => by
            have e1 := (c2 i hi).2
            have e2 := (o.2 3 (by have := wb.n; omega)).2
            rw [q, e2] at e1
            omega)), f2⟩
          refine ⟨?_, c1, c2⟩
          obtain ⟨f, f1, f2⟩ := ck'
          refine ⟨f, ?_, fun a ha => ?_⟩
          · rw [show Ld (σ.sa (5 + k) b v) b = Ld σ b by unfold Ld; rw [ea 1 b (by omega) (by omega)], show (σ.sa (5 + k) b v).a 26 (5 * b + c) = σ.a 26 (5 * b + c) from ec b c 26 (by omega), show (σ.sa (5 + k) b v).a 27 (5 * b + c) = σ.a 27 (5 * b + c) from ec b c 27 (by omega)]
            exact f1
          · rw [show Ld (σ.sa (5 + k) b v) b = Ld σ b by unfold Ld; rw [ea 1 b (by omega) (by omega)]] at ha
            rw [f2 a ha]
            have e24 := ec b c 24 (by omega)
            have e25 := ec b c 25 (by omega)
            unfold kdC atC
            rw [e24, e25, show nsd (σ.sa (5 + k) b v) b = nsd σ b by unfold nsd; rw [ea 2 b (by omega) (by omega)]]
            have rr := (wb.2.2.2.2.2.2.2 c hc).1
            have rx := rsB_x wb rr
            have sl : EQr σ (σ.sa (5 + k) b v) := ⟨rfl, rfl, rfl, fun j => ea 1 j (by omega) (by omega), fun j => ea 2 j (by omega) (by omega), fun j => ea 4 j (by omega) (by omega), fun j => ea 13 j (by omega) (by omega), fun j => ea 14 j (by omega) (by omega), fun j => ea 15 j (by omega) (by omega), fun _ => rfl, fun _ => rfl⟩
            exact (infM_c b _ _ a _ sl).symm
      · refine w.br1 (b0 := b) rfl rfl ea eb (fun b' c _ _ _ => ec b' c) ?_ hr
        have sl : EQr σ (σ.sa (5 + k) b v) := ⟨rfl, rfl, rfl, fun j => ea 1 j (by omega) (by omega), fun j => ea 2 j (by omega) (by omega), fun j => ea 4 j (by omega) (by omega), fun j => ea 13 j (by omega) (by omega), fun j => ea 14 j (by omega) (by omega), fun j => ea 15 j (by omega) (by omega), fun _ => rfl, fun _ => rfl⟩
        obtain ⟨p1, p2, p3, p4, ⟨z, p, p5⟩, p6, p7, p8⟩ := wb
        have eL : Ld (σ.sa (5 + k) b v) b = Ld σ b := by unfold Ld; rw [ea 1 b (by omega) (by omega)]
        have en : nsd (σ.sa (5 + k) b v) b = nsd σ b := by unfold nsd; rw [ea 2 b (by omega) (by omega)]
        unfold WFb
        rw [eL, en, nc, ea 1 b (by omega) (by omega), ea 2 b (by omega) (by omega), ea 3 b (by omega) (by omega), sa_a, if_neg (by omega)]
        refine ⟨p1, p2, p3, p4, ⟨z, p, ?_⟩, p6, p7, fun c hc => ?_⟩
        · obtain ⟨q1, q2, q3, q4, q5, q6, q7, q8⟩ := p5
          refine ⟨q1, q2, q3, q4, q5, q6, q7, fun j hj => ?_⟩
          have es : ∀ j, spd (σ.sa (5 + k) b v) b j = spd σ b j := fun j => by unfold spd; rw [ea 4 _ (by omega) (by omega)]
          rw [es, es, ea 4 _ (by omega) (by omega)]
          exact q8 j hj
        · have := p8 c hc
          unfold WFc RsB kdC atC at this ⊢
          rw [ec b c 24 (by omega), ec b c 25 (by omega), ec b c 26 (by omega), ec b c 27 (by omega), eL, en]
          exact this
    obtain ⟨s, l, q, r1, r2, r3, r4, r5, r6, r7, r8⟩ := w.2.2.2.2.2.2.1 b (by omega)
    have hreg : ¬ nbd σ ≤ b := by omega
    cases hv2 : inB v2 0 2
    · -- no such rule
      have n0 : ¬ v2 = 0 := fun q => by subst q; exact absurd hv2 (by decide)
      have n1 : ¬ v2 = 1 := fun q => by subst q; exact absurd hv2 (by decide)
      have n2 : ¬ v2 = 2 := fun q => by subst q; exact absurd hv2 (by decide)
      refine bw_eL (within_e _ _ _ h) ?_
      rw [hv2, if_pos (show bI false = 0 from rfl), if_neg n0]
      unfold bX11_rule_51
      rw [if_neg n1]
      unfold bX11_rule_86
      rw [if_neg n2]
      exact bw_rn x w rf
    · obtain ⟨k, hk, rfl⟩ := inB_le (n := 2) (by omega) hv2
      refine bw_eL (within_e _ _ _ h) ?_
      rw [hv2, if_neg (show ¬ bI true = 0 by decide)]
      have tb1 : tb least (nI k) h = some (least.getD k 0, h) := by
        unfold tb
        rw [nI_clamp (by omega), if_neg]
        intro z
        rcases z with z | z
        · exact absurd z (by have := nI_pos' (n := k) (by omega); simpa using this)
        · have : least.length = 3 := rfl
          omega
      have tb2 : tb most (nI k) h = some (most.getD k 0, h) := by
        unfold tb
        rw [nI_clamp (by omega), if_neg]
        intro z
        rcases z with z | z
        · exact absurd z (by have := nI_pos' (n := k) (by omega); simpa using this)
        · have : most.length = 3 := rfl
          omega
      refine bw_eL tb1 (bw_eL tb2 ?_)
      match k, hk with
      | 0, _ =>
        rw [if_pos (show nI 0 = 0 from rfl)]
        refine bw_in (lo := 0) (hi := 60) (fun hv => ?_) (fun hv => ?_)
        · unfold bX11_rule_51
          rw [if_neg (show ¬ nI 0 = 1 by decide)]
          unfold bX11_rule_86
          rw [if_neg (show ¬ nI 0 = 2 by decide)]
          exact bw_rn x w rf
        · obtain ⟨m, hm, rfl⟩ := inB_le (n := 60) (by omega) hv
          obtain ⟨h', c1, c2, c3, c4⟩ := chg 0 (nI m) (by omega) ⟨m, l, q, by rw [sa_a]; simp, hm, by rw [sa_a, if_neg (by omega)]; exact r3, r4, r5, by rw [sa_a, if_neg (by omega)]; exact r6, r7, fun z => absurd z hreg⟩
          exact ⟨σ.a 5 b, _, g, wp_mono c1 (fun r h'' z => ⟨z.1, by rw [z.2]; exact c2, by rw [z.2]; exact c3⟩), rm_gA (rm_ldI b rfl (by show _ < 6; omega) (rm_gA (rm_stI b rfl (by show _ < 6; omega) (rm_rn ⟨rfl, SmE.rf _⟩)))), c4⟩
      | 1, _ =>
        rw [if_neg (show ¬ nI 1 = 0 by decide)]
        unfold bX11_rule_51
        rw [if_pos (show nI 1 = 1 from rfl)]
        refine bw_in (lo := 1) (hi := 4) (fun hv => ?_) (fun hv => ?_)
        · unfold bX11_rule_86
          rw [if_neg (show ¬ nI 1 = 2 by decide)]
          exact bw_rn x w rf
        · obtain ⟨m, hm0, hm, rfl⟩ := inB_of2 (lo := 1) (hi := 4) (by omega) (by omega) hv
          obtain ⟨h', c1, c2, c3, c4⟩ := chg 1 (nI m) (by omega) ⟨s, m, q, by rw [sa_a, if_neg (by omega)]; exact r1, r2, by rw [sa_a]; simp, hm0, hm, by rw [sa_a, if_neg (by omega)]; exact r6, r7, fun z => absurd z hreg⟩
          exact ⟨σ.a 6 b, _, g, wp_mono c1 (fun r h'' z => ⟨z.1, by rw [z.2]; exact c2, by rw [z.2]; exact c3⟩), rm_gA (rm_ldI b rfl (by show _ < 6; omega) (rm_gA (rm_stI b rfl (by show _ < 6; omega) (rm_rn ⟨rfl, SmE.rf _⟩)))), c4⟩
      | 2, _ =>
        rw [if_neg (show ¬ nI 2 = 0 by decide)]
        unfold bX11_rule_51
        rw [if_neg (show ¬ nI 2 = 1 by decide)]
        unfold bX11_rule_86
        rw [if_pos (show nI 2 = 2 from rfl)]
        refine bw_in (lo := 0) (hi := 100) (fun hv => bw_rn x w rf) (fun hv => ?_)
        obtain ⟨m, hm, rfl⟩ := inB_le (n := 100) (by omega) hv
        obtain ⟨h', c1, c2, c3, c4⟩ := chg 2 (nI m) (by omega) ⟨s, l, m, by rw [sa_a, if_neg (by omega)]; exact r1, r2, by rw [sa_a, if_neg (by omega)]; exact r3, r4, r5, by rw [sa_a]; simp, hm, fun z => absurd z hreg⟩
        exact ⟨σ.a 7 b, _, g, wp_mono c1 (fun r h'' z => ⟨z.1, by rw [z.2]; exact c2, by rw [z.2]; exact c3⟩), rm_gA (rm_ldI b rfl (by show _ < 6; omega) (rm_gA (rm_stI b rfl (by show _ < 6; omega) (rm_rn ⟨rfl, SmE.rf _⟩)))), c4⟩
