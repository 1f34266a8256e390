/-! posted, spread. -/
theorem vm_0 {τ : MS} {b t n x : Nat} {kind : Int32} {W : Nat → Int32} {gn : Nat → Nat} (v : TrV τ t n W gn) (hL : Ld τ b ≤ 60) (hz : ∀ k, k < n → W k = 0) (way : Int32) {j : Nat} (hj : j ≤ 2000) : VM τ b kind x t way j = 0 := by
  rw [v.eff (b := b) (kind := kind) (x := x) (lf := fun a => infM τ b kind x a (nsd τ b)) hL (fun _ _ => rfl) way hj]
  have : ∀ k, k ≤ n → cS (Ld τ b) W (fun a => infM τ b kind x a (nsd τ b)) (bhW gn n way) j k = 0 := by
    intro k
    induction k with
    | zero => intro _; rfl
    | succ k ih =>
      intro hk
      rw [cS, ih (by omega), hz k (by omega)]
      split
      · rw [show (0 : Int32).toInt64 = (0 : Int64) from rfl, Int64.zero_mul, Int64.add_zero]
      · rw [Int64.add_zero]
  exact this n (Nat.le_refl n)
/-- what holds with weights holds without -/
theorem hold_0 {σ : MS} (w : WF σ) {b t p : Nat} (hb : b < nbd σ) (ht : t < ntd σ) (hp : p ≤ 300) (h : holdM σ b t 0 (nI p) 0 = true) : holdM σ b t 0 (nI 0) 0 = true := by
  obtain ⟨t8, wt, hn, wT, ea⟩ := w.tr ht
  have wb := (w.wb hb).1
  have n5 := wb.2.2.2.2.2.2.1
  have mk : ∀ p, p ≤ 300 → TrV (scl σ (nI t) (nI p) (nI 0)) t (nad σ t) (fun k => σ.a 14 (8 * t + k) * nI p / 100) (fun k => if k = 0 then 0 else gnd σ t k + 0) := fun p hp => tv_scl w ht hp (by omega) (fun _ _ => rfl) (fun _ _ => rfl)
  have vp := mk p hp
  have v0 := mk 0 (by omega)
  unfold holdM at h ⊢
  simp only [Bool.not_eq_true', decide_eq_false_iff_not] at h ⊢
  rcases fail_all (τ := scl σ (nI t) (nI p) (nI 0)) (b := b) (t := t) (mode := 0) n5 with ⟨_, z⟩ | ⟨z, _⟩
  · rcases fail_all (τ := scl σ (nI t) (nI 0) (nI 0)) (b := b) (t := t) (mode := 0) n5 with ⟨z0, _⟩ | ⟨_, _, c, hc, z0⟩
    · intro q
      rw [show failM (scl σ (nI t) (nI 0) 0) b t 0 = failM (scl σ (nI t) (nI 0) (nI 0)) b t 0 from rfl, z0] at q
      exact absurd q (by decide)
    · exfalso
      have hc' : c < ncd σ b := hc
      have zc := z c hc'
      have e1 := met_e (σ := σ) (ι := (scl σ (nI t) (nI p) (nI 0)).1) (mode := 0) w rfl hb hc' vp
      have e0 := met_e (σ := σ) (ι := (scl σ (nI t) (nI 0) (nI 0)).1) (mode := 0) w rfl hb hc' v0
      rw [show metM (scl σ (nI t) (nI p) (nI 0)) b c t 0 = metM ((scl σ (nI t) (nI p) (nI 0)).1, σ.2) b c t 0 from rfl, e1] at zc
      rw [show metM (scl σ (nI t) (nI 0) (nI 0)) b c t 0 = metM ((scl σ (nI t) (nI 0) (nI 0)).1, σ.2) b c t 0 from rfl, e0] at z0
      have hr := (wb.2.2.2.2.2.2.2 c hc').1
      have tl := tm_le (ι := (scl σ (nI t) (nI 0) (nI 0)).1) w hb v0
      have wz : ∀ k, k < nad σ t → (σ.a 14 (8 * t + k) * nI 0 / 100 : Int32) = 0 := by
        intro k hk
        obtain ⟨wg, g1, _, g3⟩ := wt.2.2.1 k hk
        rw [g1, pk_mul, show (100 : Int32) = nI 100 from rfl, nI_div (by omega) (by omega) (by omega), Nat.mul_zero, Nat.zero_div]
        rfl
      have em0 : ∀ en, (EM ((scl σ (nI t) (nI 0) (nI 0)).1, σ.2) b (kdC σ b c) (atC σ b c) t en).1 = oL 0 := by
        intro en
        have key : ∀ s, exN (VM ((scl σ (nI t) (nI 0) (nI 0)).1, σ.2) b (kdC σ b c) (atC σ b c) t) (TM ((scl σ (nI t) (nI 0) (nI 0)).1, σ.2) b t) s → s.1 = oL 0 := by
          intro s hs
          rcases hs with rfl | ⟨way, i, _, hi, rfl⟩
          · rfl
          · exact vm_0 v0 wb.2.1.2 wz way (by omega)
        unfold EM
        split
        · exact key _ (cG_mem _ tl.2)
        · exact key _ (cL_mem _ tl.2)
      rw [em0, em0] at z0
      obtain ⟨gz, g1, g2⟩ := em_b (ι := (scl σ (nI t) (nI p) (nI 0)).1) (kind := kdC σ b c) (x := atC σ b c) w hb hr vp 0
      obtain ⟨lz, l1, l2⟩ := em_b (ι := (scl σ (nI t) (nI p) (nI 0)).1) (kind := kdC σ b c) (x := atC σ b c) w hb hr vp 1
      have G := (cG_ge (VM ((scl σ (nI t) (nI p) (nI 0)).1, σ.2) b (kdC σ b c) (atC σ b c) t) (TM ((scl σ (nI t) (nI p) (nI 0)).1, σ.2) b t)).1
      have L := (cL_le (VM ((scl σ (nI t) (nI p) (nI 0)).1, σ.2) b (kdC σ b c) (atC σ b c) t) (TM ((scl σ (nI t) (nI p) (nI 0)).1, σ.2) b t)).1
      rw [show (cG' (VM ((scl σ (nI t) (nI p) (nI 0)).1, σ.2) b (kdC σ b c) (atC σ b c) t) (TM ((scl σ (nI t) (nI p) (nI 0)).1, σ.2) b t)) = GM ((scl σ (nI t) (nI p) (nI 0)).1, σ.2) b (kdC σ b c) (atC σ b c) t from rfl, ← EM_0, g1, show (0 : Int64) = oL 0 from rfl, oL_leZ (by decide) (by omega)] at G
      rw [show (cL' (VM ((scl σ (nI t) (nI p) (nI 0)).1, σ.2) b (kdC σ b c) (atC σ b c) t) (TM ((scl σ (nI t) (nI p) (nI 0)).1, σ.2) b t)) = LM ((scl σ (nI t) (nI p) (nI 0)).1, σ.2) b (kdC σ b c) (atC σ b c) t from rfl, ← EM_1, l1, show (0 : Int64) = oL 0 from rfl, oL_leZ (by omega) (by decide)] at L
      rw [g1, l1, Bool.and_eq_true] at zc
      have a0 := (al_mono (mode := 0) w hb hc' (by decide) g2 G).1 zc.1
      have a1 := (al_mono (mode := 0) w hb hc' l2 (by decide) L).2 zc.2
      rw [a0, a1] at z0
      exact absurd z0 (by decide)
  · exact absurd z h
theorem pst_n {σ : MS} (w : WF σ) {b t : Nat} (hb : b < nbd σ) (ht : t < ntd σ) (h : holdM σ b t 0 (nI 0) 0 = false) : ∀ p, p ≤ 300 → pstM σ b t p = -1
  | 0, _ => by rw [pstM, h]; rfl
  | p + 1, hp => by
    rw [pstM, if_neg, pst_n w hb ht h p (by omega)]
    intro q
    rw [hold_0 w hb ht hp q] at h
    exact absurd h (by decide)
theorem posted_cl {h0 : Hp} {B : Nat} {g : Gh} {σ : MS} (w : WF σ) {b t : Nat} (hb : b < nbd σ) (ht : t < ntd σ) (h00 : holdM σ b t 0 (nI 0) 0 = true) : ∀ (p f : Nat) (h : Hp) (fc fe fw ft : Int32), p ≤ 300 → p < f → IX h B g σ → FrC B h0 h → PrI h B σ b 0 fc fe fw ft → WP (fX10_posted_75 f B (some (gB g b + 2)) (some (gT g t)) (nI p)) h (fun r h' => r = pstM σ b t p ∧ IX h' B g σ ∧ FrC B h0 h')
  | p, 0, h, fc, fe, fw, ft, h1, h2, h3, h4, h5 => by omega
  | 0, f + 1, h, fc, fe, fw, ft, h1, h2, h3, h4, h5 => by
    show WP (bX10_posted_75 (fX10_posted_75 f) B (some (gB g b + 2)) (some (gT g t)) (nI 0)) h _
    unfold bX10_posted_75
    rw [if_pos (show nI 0 ≤ (0 : Int32) by decide)]
    exact wp_rn ⟨by rw [pstM, h00]; rfl, h3, h4⟩
  | p + 1, f + 1, h, fc, fe, fw, ft, h1, h2, h3, h4, h5 => by
    show WP (bX10_posted_75 (fX10_posted_75 f) B (some (gB g b + 2)) (some (gT g t)) (nI (p + 1))) h _
    unfold bX10_posted_75
    rw [if_neg (show ¬ nI (p + 1) ≤ (0 : Int32) from nI_ge (a := 0) (b := p + 1) (by omega) (by omega))]
    obtain ⟨_, _, _, _, e1, _, _⟩ := h3.2.2.2.2.2.2.2.2.2.2.1
    refine wp_gA (k := 12) h3.1.1 rfl ?_
    refine wp_bd (wp_vc e1 (trial_w h3 w h4 ht h1 h5 (fun k r W gn x2 f2 p2 t2 v2 => ?_)))
    refine wp_gA (k := 10) x2.1.1 rfl (wp_gA (k := 12) x2.1.1 rfl ?_)
    refine wp_bd (wp_vc p2.1 (allMet_w (ι := (scl σ (nI t) (nI (p + 1)) (nI 0)).1) x2 w f2 rfl hb p2 v2 t2 (Or.inr rfl) (fun k3 fc3 fe3 fw3 ft3 x3 f3 p3 _ => ?_)))
    have eh : holdM σ b t 0 (nI (p + 1)) 0 = !decide (0 ≤ failM ((scl σ (nI t) (nI (p + 1)) (nI 0)).1, σ.2) b t 0) := rfl
    rw [← eh]
    cases hh : holdM σ b t 0 (nI (p + 1)) 0
    · rw [if_pos (show bI false = 0 from rfl), pk_m1]
      refine wp_mono (posted_cl w hb ht h00 p f k3 fc3 fe3 fw3 ft3 (by omega) (by omega) x3 f3 p3) (fun r' h' z => ⟨?_, z.2⟩)
      rw [z.1, pstM, hh]
      rfl
    · rw [if_neg (show ¬ bI true = 0 by decide)]
      exact wp_rn ⟨by rw [pstM, hh]; rfl, x3, f3⟩
theorem posted_s (B : Nat) (v1 v2 : Int32) : StC B (pX10_posted B v1 v2) (pX11_posted (B + 42) v1 v2) := by
  refine stp_bt (fun h g σ x w => ?_)
  have rf := FrC.rf B h
  unfold pX10_posted pX11_posted
  refine bt_bt x w (bt_rn x rf) (fun b t hb ht e1 e2 => ?_)
  subst e1 e2
  obtain ⟨us, hus, eus⟩ := usAt x w
  obtain ⟨t8, wt, hn, wT, ea⟩ := w.tr ht
  refine ⟨pstM σ b t 300, ?_, ?_⟩
  · refine wp_gA (k := 10) x.1.1 rfl (wp_gI (k := 4) x.1.1 rfl ?_)
    refine wp_e (by rw [vc_e x.1.1]; exact eus) ?_
    obtain ⟨_, _, _, _, _, i5, _⟩ := x.2.2.2.2.2.1
    refine wp_bd (wp_vc i5 (prepare_w x w rf hb hus (fun h2 fe fw ft x2 f2 p2 => ?_)))
    obtain ⟨_, _, _, _, e1, _, _⟩ := x2.2.2.2.2.2.2.2.2.2.2.1
    refine wp_gA (k := 12) x2.1.1 rfl ?_
    refine wp_bd (wp_vc e1 (trial_w (p := 0) x2 w f2 ht (by omega) p2 (fun k r W gn x3 f3 p3 t3 v3 => ?_)))
    refine wp_gA (k := 10) x3.1.1 rfl (wp_gA (k := 12) x3.1.1 rfl ?_)
    refine wp_bd (wp_vc p3.1 (allMet_w (ι := (scl σ (nI t) (nI 0) (nI 0)).1) x3 w f3 rfl hb p3 v3 t3 (Or.inr rfl) (fun k4 fc4 fe4 fw4 ft4 x4 f4 p4 _ => ?_)))
    have eh : holdM σ b t 0 (nI 0) 0 = !decide (0 ≤ failM ((scl σ (nI t) (nI 0) (nI 0)).1, σ.2) b t 0) := rfl
    rw [← eh]
    cases hh : holdM σ b t 0 (nI 0) 0
    · rw [if_pos (show bI false = 0 from rfl)]
      exact wp_rn ⟨(pst_n w hb ht hh 300 (by omega)).symm, x4, f4⟩
    · rw [if_neg (show ¬ bI true = 0 by decide)]
      exact posted_cl w hb ht hh 300 FU k4 fc4 fe4 fw4 ft4 (by omega) (by unfold FU; omega) x4 f4 p4
  · have q := posted_l (M := B + 42) (σ := σ) (b := b) (t := t) (Q := fun r' τ => r' = pstM σ b t 300 ∧ SmE σ τ) w.2.2.2.1 (w.wb hb).2 (fun p hp => (tv_scl (s := 0) w ht hp (by omega) (W' := fun k => σ.a 14 (8 * t + k) * nI p / 100) (gn' := fun k => if k = 0 then 0 else gnd σ t k + 0) (fun _ _ => rfl) (fun _ _ => rfl)).n.2.2) (fun p hp => WU_2 (σ := σ) (ι := (scl σ (nI t) (nI p) 0).1) w rfl) (w.wc hb) 300 FU (0, σ.i 21, σ.i 22) (by omega) (by unfold FU; omega) (fun s => ⟨rfl, stB_Sm σ s⟩)
    rw [← stB_self] at q
    exact q
theorem spread_cl {h0 : Hp} {B : Nat} {g : Gh} {σ : MS} (w : WF σ) {b t : Nat} {mode : Int32} (hb : b < nbd σ) (ht : t < ntd σ) : ∀ (f k : Nat) (h : Hp) (fc fe fw ft : Int32), k ≤ 21 → 21 < k + f → IX h B g σ → FrC B h0 h → PrI h B σ b mode fc fe fw ft → WP (fX10_spread_62 f B (some (gB g b + 2)) (some (gT g t)) (nI k)) h (fun r h' => r = sprM σ b t mode (21 - k) k ∧ IX h' B g σ ∧ FrC B h0 h')
  | 0, k, h, fc, fe, fw, ft, h1, h2, h3, h4, h5 => by omega
  | f + 1, k, h, fc, fe, fw, ft, h1, h2, h3, h4, h5 => by
    show WP (bX10_spread_62 (fX10_spread_62 f) B (some (gB g b + 2)) (some (gT g t)) (nI k)) h _
    unfold bX10_spread_62
    by_cases hk : 20 < k
    · have e : k = 21 := by omega
      subst e
      rw [if_pos (show (20 : Int32) < nI 21 by decide)]
      exact wp_rn ⟨rfl, h3, h4⟩
    · rw [if_neg (show ¬ (20 : Int32) < nI k from nI_nlt (a := 20) (by omega) (by omega))]
      obtain ⟨_, _, _, _, e1, _, _⟩ := h3.2.2.2.2.2.2.2.2.2.2.1
      refine wp_gA (k := 12) h3.1.1 rfl ?_
      refine wp_bd (wp_vc e1 (trialS_w (s := k) h3 w h4 ht (by omega) h5 (fun k2 r W gn x2 f2 p2 t2 v2 => ?_)))
      refine wp_gA (k := 10) x2.1.1 rfl (wp_gA (k := 12) x2.1.1 rfl ?_)
      refine wp_bd (wp_vc p2.1 (allMet_w (ι := (scl σ (nI t) (nI 100) (nI k)).1) x2 w f2 rfl hb p2 v2 t2 (Or.inr rfl) (fun k3 fc3 fe3 fw3 ft3 x3 f3 p3 _ => ?_)))
      have eh : holdM σ b t mode 100 (nI k) = !decide (0 ≤ failM ((scl σ (nI t) (nI 100) (nI k)).1, σ.2) b t mode) := rfl
      rw [← eh, show 21 - k = (21 - (k + 1)) + 1 by omega, sprM]
      cases hh : holdM σ b t mode 100 (nI k)
      · rw [if_pos (show bI false = 0 from rfl), nI_1]
        exact spread_cl w hb ht f (k + 1) k3 fc3 fe3 fw3 ft3 (by omega) (by omega) x3 f3 p3
      · rw [if_neg (show ¬ bI true = 0 by decide)]
        exact wp_rn ⟨rfl, x3, f3⟩
theorem spread_s (B : Nat) (v1 v2 v3 : Int32) : StC B (pX10_spread B v1 v2 v3) (pX11_spread (B + 42) v1 v2 v3) := by
  refine stp_bt (fun h g σ x w => ?_)
  have rf := FrC.rf B h
  unfold pX10_spread pX11_spread
  refine bt_bt x w (bt_rn x rf) (fun b t hb ht e1 e2 => ?_)
  subst e1 e2
  refine bt_md (bt_rn x rf) (fun _ => ?_)
  obtain ⟨us, hus, eus⟩ := usAt x w
  obtain ⟨t8, wt, hn, wT, ea⟩ := w.tr ht
  refine ⟨sprM σ b t v3 21 0, ?_, ?_⟩
  · refine wp_gA (k := 10) x.1.1 rfl (wp_gI (k := 4) x.1.1 rfl ?_)
    refine wp_e (by rw [vc_e x.1.1]; exact eus) ?_
    obtain ⟨_, _, _, _, _, i5, _⟩ := x.2.2.2.2.2.1
    refine wp_bd (wp_vc i5 (prepare_w x w rf hb hus (fun h2 fe fw ft x2 f2 p2 => ?_)))
    exact spread_cl w hb ht FU 0 h2 _ fe fw ft (by omega) (by unfold FU; omega) x2 f2 p2
  · have q := spread_l (M := B + 42) (σ := σ) (b := b) (t := t) (mode := v3) (Q := fun r' τ => r' = sprM σ b t v3 21 0 ∧ SmE σ τ) w.2.2.2.1 (w.wb hb).2 (fun k hk => (tv_scl (p := 100) (s := k) w ht (by omega) hk (W' := fun k => σ.a 14 (8 * t + k) * nI 100 / 100) (gn' := fun k' => if k' = 0 then 0 else gnd σ t k' + k) (fun _ _ => rfl) (fun _ _ => rfl)).n.2.2) (fun k hk => WU_2 (σ := σ) (ι := (scl σ (nI t) 100 (nI k)).1) w rfl) (w.wc hb) FU 0 (0, σ.i 21, σ.i 22) (by omega) (by unfold FU; omega) (fun s => ⟨rfl, stB_Sm σ s⟩)
    rw [← stB_self] at q
    exact q
