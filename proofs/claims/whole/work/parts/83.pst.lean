/-! total, fails, posted, spread. -/
theorem nI_div {a b : Nat} (ha : a < 2 ^ 31) (hb : 0 < b) (hb2 : b < 2 ^ 31) : nI a / nI b = nI (a / b) := pk_div ha hb hb2
/-- an unscaled train in any state with the same arrays -/
theorem tv_2 {σ : MS} {ι : Nat → Int32} (w : WF σ) {u : Nat} (hu : u < ntd σ) (h20 : ι 20 = -1) : TrV (ι, σ.2) u (nad σ u) (fun k => σ.a 14 (8 * u + k)) (gnd σ u) := by
  have t8 := w.nt
  obtain ⟨tt, wt, hn, wT, ea⟩ := w.tr hu
  obtain ⟨v1, v2, v3, v4, v5, v6, v7⟩ := w.tv hu (W := fun k => σ.a 14 (8 * u + k)) (gn := gnd σ u) (fun _ _ => rfl) (fun _ _ => rfl)
  have n1 : ¬ nI u = ι 20 := by rw [h20]; exact nI_nm1 (by omega)
  refine ⟨v1, v2, v3, fun k hk => ⟨?_, ?_⟩, v5, v6, v7⟩
  · rw [wt_2 (σ := σ) (τ := (ι, σ.2)) rfl n1 hn]; exact (v4 k hk).1
  · rw [gp_2 (σ := σ) (τ := (ι, σ.2)) rfl n1 hn]; exact (v4 k hk).2
theorem WU_2 {σ : MS} {ι : Nat → Int32} (w : WF σ) (h17 : ι 17 = σ.i 17) : WU (ι, σ.2) := by
  intro hn
  have t8 := w.nt
  rw [show MS.i (ι, σ.2) 17 = σ.i 17 from h17] at hn ⊢
  rcases w.2.2.2.2.1 with z | ⟨u, u1, u2⟩
  · rw [z] at hn; exact absurd (by decide) hn
  · rw [u2, nI_clamp (by omega)]
    refine ⟨rfl, ?_⟩
    have v := tv_2 (ι := fun x => if x = 20 then -1 else ι x) w u1 (by simp)
    exact v.n.2.2
theorem WF.wu {σ : MS} (w : WF σ) : WU σ := WU_2 (σ := σ) (ι := σ.1) w rfl
theorem WF.wc {σ : MS} (w : WF σ) {b : Nat} (hb : b < nbd σ) : WCs σ b := by
  have wb := (w.wb hb).1
  refine ⟨wb.2.2.2.2.2.1, wb.2.2.2.2.2.2.1, fun c hc => ?_⟩
  obtain ⟨c1, c2, _⟩ := wb.2.2.2.2.2.2.2 c hc
  have rx := rsB_x wb c1
  exact ⟨c2, rx.1, rx.2⟩
/-- the prologue of calls with a bridge and a train -/
theorem bt_bt {R : Type} {B : Nat} {h : Hp} {g : Gh} {σ : MS} (x : IX h B g σ) (w : WF σ) {v1 v2 : Int32} {U U' : Mo R} {K : Option Nat → Option Nat → Mo R} {K' : Mo R} (hU : Bt B h h g σ U U') (hk : ∀ b t, b < nbd σ → t < ntd σ → v1 = nI b → v2 = nI t → Bt B h h g σ (K (some (gB g b + 2)) (some (gT g t))) K') : Bt B h h g σ (bd (vc 10 (some B) (fun o => pX10_bridgeAt o v1)) fun x2 => bd (vc 10 (some B) (fun o => pX10_trainAt o v2)) fun x9 => if x2 = none then U else if x9 = none then U else K x2 x9) (bd (vc 11 (some (B + 42)) (fun o => pX11_noBridge o v1)) fun x2 => if x2 = 0 then bd (vc 11 (some (B + 42)) (fun o => pX11_noTrain o v2)) fun x10 => if x10 = 0 then K' else U' else U') := by
  have x1 := x.1.1
  rcases brAt x w v1 with ⟨hi, e⟩ | ⟨hi, b, hb, rfl, e⟩
  · rcases trAt x w v2 with ⟨hi2, e2⟩ | ⟨hi2, t, ht, rfl, e2⟩
    · refine bt_eL (by rw [vc_e x1]; exact e) (bt_eL (by rw [vc_e x1]; exact e2) (bt_eR (ro_vc (noBridge_r v1)) ?_))
      rw [if_pos (show (none : Option Nat) = none from rfl), hi, if_neg (show ¬ bI (!false) = 0 by decide)]
      exact hU
    · refine bt_eL (by rw [vc_e x1]; exact e) (bt_eL (by rw [vc_e x1]; exact e2) (bt_eR (ro_vc (noBridge_r v1)) ?_))
      rw [if_pos (show (none : Option Nat) = none from rfl), hi, if_neg (show ¬ bI (!false) = 0 by decide)]
      exact hU
  · rcases trAt x w v2 with ⟨hi2, e2⟩ | ⟨hi2, t, ht, rfl, e2⟩
    · refine bt_eL (by rw [vc_e x1]; exact e) (bt_eL (by rw [vc_e x1]; exact e2) (bt_eR (ro_vc (noBridge_r _)) ?_))
      rw [if_neg (show ¬ (some (gB g b + 2) = none) by simp), if_pos (show (none : Option Nat) = none from rfl), hi, if_pos (show bI (!true) = 0 from rfl)]
      refine bt_eR (ro_vc (noTrain_r v2)) ?_
      rw [hi2, if_neg (show ¬ bI (!false) = 0 by decide)]
      exact hU
    · refine bt_eL (by rw [vc_e x1]; exact e) (bt_eL (by rw [vc_e x1]; exact e2) (bt_eR (ro_vc (noBridge_r _)) ?_))
      rw [if_neg (show ¬ (some (gB g b + 2) = none) by simp), if_neg (show ¬ (some (gT g t) = none) by simp), hi, if_pos (show bI (!true) = 0 from rfl)]
      refine bt_eR (ro_vc (noTrain_r _)) ?_
      rw [hi2, if_pos (show bI (!true) = 0 from rfl)]
      exact hk b t hb ht rfl rfl
theorem bt_md {R : Type} {B : Nat} {h0 h : Hp} {g : Gh} {σ : MS} {v : Int32} {a b a' b' : Mo R} (k0 : Bt B h0 h g σ a a') (k1 : inB v 0 2 = true → Bt B h0 h g σ b b') : Bt B h0 h g σ (bd (pX10_within v (0 : Int32) (2 : Int32)) fun x => if x = 0 then a else b) (bd (pX11_isMode v) fun x => if x = 0 then a' else b') := by
  refine bt_eL (within_e v 0 2 h) (bt_eR (ro_of (isMode_m v)) ?_)
  cases hi : inB v 0 2
  · rw [if_pos (show bI false = 0 from rfl), if_pos (show bI false = 0 from rfl)]; exact k0
  · rw [if_neg (show ¬ bI true = 0 by decide), if_neg (show ¬ bI true = 0 by decide)]; exact k1 hi
theorem fails_s (B : Nat) (v1 v2 v3 : Int32) : StC B (pX10_fails B v1 v2 v3) (pX11_fails (B + 42) v1 v2 v3) := by
  refine stp_bt (fun h g σ x w => ?_)
  have rf := FrC.rf B h
  unfold pX10_fails pX11_fails
  refine bt_bt x w (bt_rn x rf) (fun b t hb ht e1 e2 => ?_)
  subst e1 e2
  refine bt_md (bt_rn x rf) (fun _ => ?_)
  obtain ⟨us, hus, eus⟩ := usAt x w
  obtain ⟨t8, wt, hn, wT, ea⟩ := w.tr ht
  refine ⟨failM σ b t v3, ?_, ?_⟩
  · refine wp_gA (k := 10) x.1.1 rfl (wp_gI (k := 4) x.1.1 rfl ?_)
    refine wp_e (by rw [vc_e x.1.1]; exact eus) ?_
    obtain ⟨_, _, _, _, _, i5, _⟩ := x.2.2.2.2.2.1
    refine wp_bd (wp_vc i5 (prepare_w x w rf hb hus (fun h2 fe fw ft x2 f2 p2 => ?_)))
    refine wp_gA (k := 10) x2.1.1 rfl ?_
    obtain ⟨W, gn, t1, hW, hg⟩ := trV (x2.1.2.2.2.2.2.1 t ht) wt
    have v := w.tv ht hW hg
    have o := (x2.1.2.2.2.2.2.2.2.2.2 t ht).1
    refine wp_bd (wp_vc p2.1 (first_w (ι := σ.1) x2 w f2 rfl hb p2 v t1 (by omega) (fun h3 _ _ _ _ x3 f3 p3 _ => wp_rn ⟨rfl, x3, f3⟩)))
  · refine rm_bd (rm_vc (failing_m (w.wb hb).2 wT w.wu (w.wc hb) (fun s => rm_rn ⟨rfl, stB_Sm σ s⟩)))
theorem total_s (B : Nat) (v1 v2 v3 v4 v5 v6 : Int32) : StC B (pX10_total B v1 v2 v3 v4 v5 v6) (pX11_total (B + 42) v1 v2 v3 v4 v5 v6) := by
  refine stp_bt (fun h g σ x w => ?_)
  have rf := FrC.rf B h
  have x1 := x.1.1
  unfold pX10_total pX11_total
  rcases brAt x w v1 with ⟨hi, e⟩ | ⟨hi, b, hb, rfl, e⟩
  · refine bt_eL (by rw [vc_e x1]; exact e) (bt_eR (ro_vc (noCheck_n hi v2)) ?_)
    rw [if_pos (show (none : Option Nat) = none from rfl), if_neg (show ¬ (1 : Int32) = 0 by decide)]
    unfold bX10_total_22
    rcases trAt x w v3 with ⟨hi2, e2⟩ | ⟨hi2, t, ht, rfl, e2⟩
    · refine bt_eL (by rw [vc_e x1]; exact e2) ?_
      rw [if_pos (show (none : Option Nat) = none from rfl)]
      exact bt_rn x rf
    · refine bt_eL (by rw [vc_e x1]; exact e2) ?_
      rw [if_pos (show (none : Option Nat) = none from rfl)]
      exact bt_rn x rf
  · have wb := (w.wb hb).1
    have b6 := w.1.2
    have y := x.1.2.2.2.1 b hb
    refine bt_eL (by rw [vc_e x1]; exact e) (bt_eR (ro_vc (noCheck_r (by omega) hi v2)) ?_)
    rw [if_neg (show ¬ (some (gB g b + 2) = none) by simp)]
    rcases ckAt x w hb v2 with ⟨hi2, e2⟩ | ⟨hi2, c, hc, rfl, e2⟩
    · refine bt_eL (by rw [vc_e y.1]; exact e2) ?_
      rw [hi2, if_neg (show ¬ bI (!false) = 0 by decide)]
      unfold bX10_total_22
      rcases trAt x w v3 with ⟨hi3, e3⟩ | ⟨hi3, t, ht, rfl, e3⟩
      · refine bt_eL (by rw [vc_e x1]; exact e3) ?_
        rw [if_neg (show ¬ (some (gB g b + 2) = none) by simp), if_pos (show (none : Option Nat) = none from rfl)]
        exact bt_rn x rf
      · refine bt_eL (by rw [vc_e x1]; exact e3) ?_
        rw [if_neg (show ¬ (some (gB g b + 2) = none) by simp), if_pos (show (none : Option Nat) = none from rfl)]
        exact bt_rn x rf
    · refine bt_eL (by rw [vc_e y.1]; exact e2) ?_
      rw [hi2, if_pos (show bI (!true) = 0 from rfl)]
      unfold bX10_total_22
      rcases trAt x w v3 with ⟨hi3, e3⟩ | ⟨hi3, t, ht, rfl, e3⟩
      · refine bt_eL (by rw [vc_e x1]; exact e3) (bt_eR (ro_vc (noTrain_r v3)) ?_)
        rw [if_neg (show ¬ (some (gB g b + 2) = none) by simp), if_neg (show ¬ (some (gC g b c) = none) by simp), if_pos (show (none : Option Nat) = none from rfl), hi3, if_neg (show ¬ bI (!false) = 0 by decide)]
        exact bt_rn x rf
      · refine bt_eL (by rw [vc_e x1]; exact e3) (bt_eR (ro_vc (noTrain_r _)) ?_)
        rw [if_neg (show ¬ (some (gB g b + 2) = none) by simp), if_neg (show ¬ (some (gC g b c) = none) by simp), if_neg (show ¬ (some (gT g t) = none) by simp), hi3, if_pos (show bI (!true) = 0 from rfl)]
        refine bt_md (bt_rn x rf) (fun _ => ?_)
        refine bt_in (lo := 0) (hi := 1) (fun _ => bt_rn x rf) (fun hien => ?_)
        refine bt_in (lo := 0) (hi := 1) (fun _ => bt_rn x rf) (fun _ => ?_)
        have he := inB_01 hien
        obtain ⟨us, hus, eus⟩ := usAt x w
        obtain ⟨t8, wt, hn, wT, ea⟩ := w.tr ht
        have v0 := w.tv ht (W := fun k => σ.a 14 (8 * t + k)) (gn := gnd σ t) (fun _ _ => rfl) (fun _ _ => rfl)
        have hr := (wb.2.2.2.2.2.2.2 c hc).1
        have n5 := wb.2.2.2.2.2.2.1
        obtain ⟨em, em1, em2⟩ := em_b (ι := σ.1) (kind := kdC σ b c) (x := atC σ b c) w hb hr v0 v5
        obtain ⟨o, s, s1, s2, o1, ff⟩ := tt_o (mode := v4) w hb hc he
        obtain ⟨f1, f2⟩ := ff em em2
        obtain ⟨z, p, bq⟩ := w.bq hb
        have F : Fra (ttC σ b c v4 v5 (EM σ b (kdC σ b c) (atC σ b c) t v5).1) (oneM σ b) := by
          refine ⟨(100 * em + o) * s, 10000 * p, ?_, f2, ?_, by have := bq.2.2.2.2.1.1; omega, by have := bq.2.2.2.2.1.2; omega⟩
          · apply Int64.toInt_inj.mp
            rw [oL_toInt f2, ← f1]
            rw [show EM σ b (kdC σ b c) (atC σ b c) t v5 = EM (σ.1, σ.2) b (kdC σ b c) (atC σ b c) t v5 from rfl, em1]
          · unfold oneM
            rw [bq.2.2.2.1, show (10000 : Int64) = oL 10000 from rfl, oL_mul]
        refine ⟨ptV (ttC σ b c v4 v5 (EM σ b (kdC σ b c) (atC σ b c) t v5).1) (oneM σ b) v6, ?_, ?_⟩
        · refine wp_gA (k := 10) x1 rfl (wp_gI (k := 4) x1 rfl ?_)
          refine wp_e (by rw [vc_e x1]; exact eus) ?_
          obtain ⟨_, _, _, _, _, i5, _⟩ := x.2.2.2.2.2.1
          refine wp_bd (wp_vc i5 (prepare_w x w rf hb hus (fun h2 fe fw ft x2 f2 p2 => ?_)))
          obtain ⟨lf, l1, l2⟩ := x2.1.2.2.2.2.1 b c hb hc
          obtain ⟨W, gn, t1, hW, hg⟩ := trV (x2.1.2.2.2.2.2.1 t ht) wt
          have v := w.tv ht hW hg
          have oo := (x2.1.2.2.2.2.2.2.2.2.2 t ht).1
          have oc := (x2.1.2.2.2.2.2.2.2.2.1 b c hb hc).1
          obtain ⟨T0, F0, s0⟩ := x2.2.2.2.1
          obtain ⟨g0, l0, e0⟩ := x2.2.2.2.2.1
          refine wp_gA (k := 9) x2.1.1 rfl (wp_gA (k := 0) l1.1 rfl (wp_gA (k := 8) x2.1.1 rfl ?_))
          refine wp_bd (wp_vc e0.1 (find_m (τ := σ) (B := B) (b := b) (kind := kdC σ b c) (x := atC σ b c) v wb.2.1.2 l2 l1.2 t1 s0 e0 rfl (by omega) (fun y hy => by omega) (fun h3 T3 F3 f3 s3 e3 => ?_)))
          have x3 : IX h3 B g σ := ⟨x2.1.fr w f3 (fun a ha => by omega), x2.2.u34 f3 (fun a ha => by omega) ⟨_, _, s3⟩ ⟨_, _, e3⟩⟩
          have g3 := f2.tr f3 (fun a ha => by omega)
          have p3 := p2.ag (h' := h3) (fun k hk => f3.2 _ (by omega))
          obtain ⟨j, ej, hj, epr⟩ := pr_i (GM σ b (kdC σ b c) (atC σ b c) t).1 (LM σ b (kdC σ b c) (atC σ b c) t).1 he
          refine wp_gA (k := 10) x3.1.1 rfl (wp_gA (k := 9) x3.1.1 rfl (wp_gA (k := 0) e3.1 rfl (wp_ldL e3.2.1 ej hj (by omega) ?_)))
          rw [epr, show (if v5 = 0 then (GM σ b (kdC σ b c) (atC σ b c) t).1 else (LM σ b (kdC σ b c) (atC σ b c) t).1) = (EM σ b (kdC σ b c) (atC σ b c) t v5).1 by unfold EM; by_cases q : v5 = 0 <;> simp [q]]
          refine wp_e (by rw [vc_e p3.1]; exact totalOf_ce p3 hc n5 he _) ?_
          have ck3 := x3.1.2.2.2.2.1 b c hb hc
          obtain ⟨_, ck1, _⟩ := id ck3
          refine wp_e (by rw [vc_e ck1.1]; exact totalLower_e ck3) ?_
          refine wp_e (part_cls F v6 h3) (wp_rn ⟨rfl, x3, g3⟩)
        · refine rm_bd (rm_vc (totalOf_m (w.wb hb).2 wT w.wu (by omega) ((w.wc hb).2.2 c hc) (fun s => ?_)))
          have et : totM σ b c t v4 v5 = ttC σ b c v4 v5 (EM σ b (kdC σ b c) (atC σ b c) t v5).1 := tot_e (ι := σ.1) w rfl hb hc v0 he
          rw [et]
          refine rm_gA (rm_ldL b rfl (by show _ < 6; omega) ?_)
          refine rm_eq (part_ref (lo := oneM σ b) F v6) (rm_rn ⟨rfl, stB_Sm σ s⟩)
/-- a train with its weights in hundredths p, its gaps wider by s -/
theorem tv_scl {σ : MS} (w : WF σ) {t p s : Nat} (ht : t < ntd σ) (hp : p ≤ 300) (hs : s ≤ 20) {W' : Nat → Int32} {gn' : Nat → Nat} (hW : ∀ k, k < nad σ t → W' k = σ.a 14 (8 * t + k) * nI p / 100) (hg : ∀ k, k < nad σ t → gn' k = if k = 0 then 0 else gnd σ t k + s) : TrV (scl σ (nI t) (nI p) (nI s)) t (nad σ t) W' gn' := by
  obtain ⟨t8, wt, hn, wT, ea⟩ := w.tr ht
  have n8 := wt.2.1
  have i20 : (scl σ (nI t) (nI p) (nI s)).i 20 = nI t := rfl
  have i18 : (scl σ (nI t) (nI p) (nI s)).i 18 = nI p := rfl
  have i19 : (scl σ (nI t) (nI p) (nI s)).i 19 = nI s := rfl
  refine ⟨t8, wt.1, n8, fun k hk => ⟨?_, ?_⟩, by rw [hg 0 (by omega)]; rfl, ?_, fun k hk => ?_⟩
  · unfold wtM
    rw [i20, i18, if_pos rfl, hW k hk]
    rfl
  · unfold gpM
    rw [i20, i19, if_pos rfl, hg k hk]
    by_cases k0 : k = 0
    · rw [if_pos k0, if_pos k0]; rfl
    · rw [if_neg k0, if_neg k0]
      rw [show (scl σ (nI t) (nI p) (nI s)).a 15 (8 * t + k) = nI (gnd σ t k) from (wt.2.2.2.1 k hk).1, nI_add]
  · have : ∀ m, m ≤ nad σ t → 1 ≤ m → bhN gn' m ≤ (m - 1) * 40 := by
      intro m
      induction m with
      | zero => intro _ h; omega
      | succ m ih =>
        intro hm _
        have h1 := hg m (by omega)
        by_cases c : m = 0
        · subst c
          rw [bhN, bhN, h1]
          simp
        · have := ih (by omega) (by omega)
          have h2 := (wt.2.2.2.1 m (by omega)).2
          rw [if_neg c] at h1
          rw [bhN, h1]
          omega
    have := this (nad σ t) (Nat.le_refl _) n8.1
    omega
  · obtain ⟨wg, e1, _, e3⟩ := wt.2.2.1 k hk
    have m1 : wg * p ≤ 200 * 300 := Nat.mul_le_mul e3 hp
    rw [hW k hk, e1, pk_mul, show (100 : Int32) = nI 100 from rfl, nI_div (by omega) (by omega) (by omega)]
    exact ⟨wg * p / 100, by omega, rfl⟩
/-- the trial train -/
theorem trial_w {h0 h : Hp} {B : Nat} {g : Gh} {σ : MS} (x : IX h B g σ) (w : WF σ) (f0 : FrC B h0 h) {b t p : Nat} {mode fc fe fw ft : Int32} (ht : t < ntd σ) (hp : p ≤ 300) (pi : PrI h B σ b mode fc fe fw ft) {Q : Unit → Hp → Prop} (q : ∀ h2 r W gn, IX h2 B g σ → FrC B h0 h2 → PrI h2 B σ b mode fc fe fw ft → Trn h2 (B + 38) (B + 39) (B + 40) (nad σ t) r W (fun k => nI (gn k)) → TrV (scl σ (nI t) (nI p) (nI 0)) t (nad σ t) W gn → Q () h2) : WP (pX8_copyWeighing (B + 38) (some (gT g t)) (nI p)) h Q := by
  obtain ⟨t8, wt, hn, wT, ea⟩ := w.tr ht
  obtain ⟨W, gn, t1, hW, hg⟩ := trV (x.1.2.2.2.2.2.1 t ht) wt
  obtain ⟨n2, r2, W2, G2, e1, e2, e3⟩ := x.2.2.2.2.2.2.2.2.2.2.1
  have o := (x.1.2.2.2.2.2.2.2.2.2 t ht).1
  refine copyWeighing_w t1 e1 e2 e3 wt.2.1.2 (by omega) (by omega) (fun h2 W' gn' F2 t2 z2 => ?_)
  have t3 : Trn h2 (B + 38) (B + 39) (B + 40) (nad σ t) r2 W' (fun k => nI ((fun k => if k < nad σ t then gnd σ t k else gn' k) k)) := by
    refine t2.cg (fun k _ => ?_)
    by_cases c : k < nad σ t
    · simp only [if_pos c]; rw [(z2 k c).2, hg k c]
    · simp only [if_neg c]
  refine q h2 r2 W' _ ⟨x.1.fr w F2 (fun a ha => by omega), x.2.u10 F2 (fun a ha => by omega) ⟨_, _, _, _, t2.1, t2.2.1, t2.2.2⟩⟩ (f0.tr F2 (fun a ha => by omega)) (pi.ag (fun k hk => F2.2 _ (by omega))) t3 (tv_scl w ht hp (by omega) (fun k hk => by rw [(z2 k hk).1, hW k hk]) (fun k hk => ?_))
  simp only [if_pos hk]
  by_cases k0 : k = 0
  · subst k0; rw [if_pos rfl]; exact wt.2.2.2.2.1
  · rw [if_neg k0]; rfl
theorem trialS_w {h0 h : Hp} {B : Nat} {g : Gh} {σ : MS} (x : IX h B g σ) (w : WF σ) (f0 : FrC B h0 h) {b t s : Nat} {mode fc fe fw ft : Int32} (ht : t < ntd σ) (hs : s ≤ 20) (pi : PrI h B σ b mode fc fe fw ft) {Q : Unit → Hp → Prop} (q : ∀ h2 r W gn, IX h2 B g σ → FrC B h0 h2 → PrI h2 B σ b mode fc fe fw ft → Trn h2 (B + 38) (B + 39) (B + 40) (nad σ t) r W (fun k => nI (gn k)) → TrV (scl σ (nI t) (nI 100) (nI s)) t (nad σ t) W gn → Q () h2) : WP (pX8_copySpread (B + 38) (some (gT g t)) (nI s)) h Q := by
  obtain ⟨t8, wt, hn, wT, ea⟩ := w.tr ht
  obtain ⟨W, gn, t1, hW, hg⟩ := trV (x.1.2.2.2.2.2.1 t ht) wt
  obtain ⟨n2, r2, W2, G2, e1, e2, e3⟩ := x.2.2.2.2.2.2.2.2.2.2.1
  have o := (x.1.2.2.2.2.2.2.2.2.2 t ht).1
  refine copySpread_w t1 e1 e2 e3 wt.2.1.2 (by omega) (by omega) (fun h2 W' gn' F2 t2 z2 => ?_)
  have t3 : Trn h2 (B + 38) (B + 39) (B + 40) (nad σ t) r2 W' (fun k => nI ((fun k => if k < nad σ t then (if k = 0 then 0 else gnd σ t k + s) else gn' k) k)) := by
    refine t2.cg (fun k _ => ?_)
    by_cases c : k < nad σ t
    · simp only [if_pos c]
      rw [(z2 k c).2]
      by_cases k0 : k = 0
      · rw [if_pos k0, if_pos k0]; rfl
      · rw [if_neg k0, if_neg k0, hg k c, nI_add]
    · simp only [if_neg c]
  refine q h2 r2 W' _ ⟨x.1.fr w F2 (fun a ha => by omega), x.2.u10 F2 (fun a ha => by omega) ⟨_, _, _, _, t2.1, t2.2.1, t2.2.2⟩⟩ (f0.tr F2 (fun a ha => by omega)) (pi.ag (fun k hk => F2.2 _ (by omega))) t3 (tv_scl w ht (by omega) hs (fun k hk => ?_) (fun k hk => by simp only [if_pos hk]))
  rw [(z2 k hk).1, hW k hk]
  obtain ⟨wg, g1, _, g3⟩ := wt.2.2.1 k hk
  rw [g1, pk_mul, show (100 : Int32) = nI 100 from rfl, nI_div (by omega) (by omega) (by omega)]
  congr 1
  omega
