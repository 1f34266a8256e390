/-! effect, worst, axles, count. -/
theorem WF.bq {σ : MS} (w : WF σ) {b : Nat} (hb : b < nbd σ) : ∃ z p, BQ σ b (Ld σ b) (nsd σ b) (spd σ b) z p := (w.wb hb).1.2.2.2.2.1
theorem eff_fra {σ : MS} (w : WF σ) {b t x j : Nat} {kind way : Int32} {n : Nat} {W : Nat → Int32} {gn : Nat → Nat} (hb : b < nbd σ) (hr : RsB σ b kind x) (v : TrV σ t n W gn) (hj : j ≤ 2000) : Fra (VM σ b kind x t way j) (σ.l 9 b) := by
  obtain ⟨z, p, bq⟩ := w.bq hb
  obtain ⟨e, e1, e2⟩ := v.bnd bq hr way hj
  exact ⟨e, p, e1, by omega, bq.2.2.2.1, bq.2.2.2.2.1.1, by have := bq.2.2.2.2.1.2; omega⟩
theorem effect_s (B : Nat) (v1 v2 v3 v4 v5 v6 v7 : Int32) : StC B (pX10_effect B v1 v2 v3 v4 v5 v6 v7) (pX11_effect (B + 42) v1 v2 v3 v4 v5 v6 v7) := by
  refine stp_bt (fun h g σ x w => ?_)
  have x1 := x.1.1
  have rf := FrC.rf B h
  unfold pX10_effect pX11_effect
  rcases brAt x w v1 with ⟨hi, e⟩ | ⟨hi, b, hb, rfl, e⟩
  · rcases trAt x w v4 with ⟨hi2, e2⟩ | ⟨hi2, t, ht, rfl, e2⟩
    · refine bt_eL (by rw [vc_e x1]; exact e) (bt_eL (by rw [vc_e x1]; exact e2) (bt_eR (ro_vc (noBridge_r v1)) ?_))
      rw [if_pos rfl, hi, if_neg (by decide)]
      exact bt_rn x rf
    · refine bt_eL (by rw [vc_e x1]; exact e) (bt_eL (by rw [vc_e x1]; exact e2) (bt_eR (ro_vc (noBridge_r v1)) ?_))
      rw [if_pos rfl, hi, if_neg (by decide)]
      exact bt_rn x rf
  · have wb := (w.wb hb).1
    have b6 := w.1.2
    have y := x.1.2.2.2.1 b hb
    have L6 := wb.2.1
    rcases trAt x w v4 with ⟨hi2, e2⟩ | ⟨hi2, t, ht, rfl, e2⟩
    · refine bt_eL (by rw [vc_e x1]; exact e) (bt_eL (by rw [vc_e x1]; exact e2) (bt_eR (ro_vc (noBridge_r _)) ?_))
      rw [if_neg (show ¬ (some (gB g b + 2) = none) by simp), if_pos (show (none : Option Nat) = none from rfl), hi, if_pos (show bI (!true) = 0 from rfl)]
      refine bt_sup x w hb (bt_rn x rf) (fun hs => ?_)
      refine bt_eR (ro_vc (noTrain_r v4)) ?_
      rw [hi2, if_neg (show ¬ bI (!false) = 0 by decide)]
      exact bt_rn x rf
    · refine bt_eL (by rw [vc_e x1]; exact e) (bt_eL (by rw [vc_e x1]; exact e2) (bt_eR (ro_vc (noBridge_r _)) ?_))
      rw [if_neg (show ¬ (some (gB g b + 2) = none) by simp), if_neg (show ¬ (some (gT g t) = none) by simp), hi, if_pos (show bI (!true) = 0 from rfl)]
      refine bt_sup x w hb (bt_rn x rf) (fun hs => ?_)
      refine bt_eR (ro_vc (noTrain_r _)) ?_
      rw [hi2, if_pos (show bI (!true) = 0 from rfl)]
      refine bt_res x w hb hs (bt_rn x rf) (fun x0 ex hr => ?_)
      subst ex
      refine bt_in (lo := 0) (hi := 1) (fun _ => bt_rn x rf) (fun hiw => ?_)
      obtain ⟨t8, wt, hn, wT, ea⟩ := w.tr ht
      obtain ⟨W, gn, t1, hW, hg⟩ := trV (x.1.2.2.2.2.2.1 t ht) wt
      have v := w.tv ht hW hg
      have le := gnd_le wt
      have eg : bhN gn (nad σ t) = agd σ t := by rw [ea]; exact bhN_c _ hg
      refine bt_eL (gI_e (k := 0) y.1 rfl) (bt_eL (by rw [vc_e t1.1]; exact allGaps_w t1 wt.2.1.2) (bt_gA (bt_ldI b rfl (by show _ < 6; omega) (bt_eR (ro_vc (allGapsM_r t8 wt.2.1.2 wt.1)) ?_))))
      rw [wT.2.2.2.1, wb.1, eg, nI_add]
      refine bt_in (fun _ => bt_rn x rf) (fun hit => ?_)
      obtain ⟨j, hj, rfl⟩ := inB_le (by omega) hit
      refine bt_in (lo := 0) (hi := 1) (fun _ => bt_rn x rf) (fun hiwh => ?_)
      have rx := rsB_x wb hr
      have F := eff_fra (way := v5) (kind := v2) w hb hr v (show j ≤ 2000 by omega)
      refine ⟨ptV (VM σ b v2 x0 t v5 j) (σ.l 9 b) v7, ?_, ?_⟩
      · refine wp_gA (k := 7) x1 rfl ?_
        refine wp_bd (wp_vc x.2.2.1.choose_spec.choose_spec.choose_spec.1 (line_w x w rf hb hr (fun h2 lf x2 f2 l2 v2' => ?_)))
        obtain ⟨W', gn', t1', hW', hg'⟩ := trV (x2.1.2.2.2.2.2.1 t ht) wt
        have v' := w.tv ht hW' hg'
        refine wp_gA (k := 7) x2.1.1 rfl ?_
        refine wp_e (by rw [vc_e l2.1]; exact effectOf_w l2 t1' L6.2 wt.2.1.2 (by rw [bhN_c _ hg']; omega) (show j ≤ 2000 by omega)) ?_
        refine wp_gA (k := 7) x2.1.1 rfl ?_
        refine wp_gL (k := 1) l2.1 rfl ?_
        rw [← v'.eff L6.2 v2' v5 (show j ≤ 2000 by omega)]
        refine wp_e (part_cls F v7 h2) (wp_rn ⟨rfl, x2, f2⟩)
      · refine rm_ro (ro_vc (effectAt_r (by omega) wb.1 L6.2 wb.n.2 wb.2.2.1 rx.1 rx.2 t8 wt.2.1.2 wt.1)) ?_
        refine rm_gA ?_
        refine rm_ldL b rfl (by show _ < 6; omega) ?_
        refine rm_eq (part_ref F v7) (rm_rn ⟨rfl, SmE.rf σ⟩)
theorem eff_nm {σ : MS} (w : WF σ) {b t x : Nat} {kind : Int32} {n : Nat} {W : Nat → Int32} {gn : Nat → Nat} (hb : b < nbd σ) (hr : RsB σ b kind x) (v : TrV σ t n W gn) : ∀ way i, i < TM σ b t → nMn (VM σ b kind x t way i) := by
  intro way i hi
  obtain ⟨z, p, bq⟩ := w.bq hb
  obtain ⟨e1, e2, _⟩ := v.n
  have v6 := v.2.2.2.2.2.1
  have L6 := bq.2.1
  unfold TM at hi
  obtain ⟨e, h1, h2⟩ := v.bnd bq hr way (show i ≤ 2000 by omega)
  rw [h1]
  exact oL_nMn (by omega)
theorem ex_fra {σ : MS} (w : WF σ) {b t x : Nat} {kind : Int32} {n : Nat} {W : Nat → Int32} {gn : Nat → Nat} (hb : b < nbd σ) (hr : RsB σ b kind x) (v : TrV σ t n W gn) (en : Int32) : ∃ e : Int, (EM σ b kind x t en).1 = oL e ∧ e.natAbs ≤ 8 * (600 * 46656000000) := by
  obtain ⟨z, p, bq⟩ := w.bq hb
  obtain ⟨e1, e2, _⟩ := v.n
  have v6 := v.2.2.2.2.2.1
  have L6 := bq.2.1
  have key : ∀ s, exN (VM σ b kind x t) (TM σ b t) s → ∃ e : Int, s.1 = oL e ∧ e.natAbs ≤ 8 * (600 * 46656000000) := by
    intro s hs
    rcases hs with rfl | ⟨way, i, _, hi, rfl⟩
    · exact ⟨0, rfl, by decide⟩
    · unfold TM at hi
      exact v.bnd bq hr way (by omega)
  unfold EM
  split
  · exact key _ (cG_mem _ (by unfold TM; omega))
  · exact key _ (cL_mem _ (by unfold TM; omega))
theorem inB_01 {v : Int32} (h : inB v 0 1 = true) : v = 0 ∨ v = 1 := by
  obtain ⟨j, hj, rfl⟩ := inB_le (n := 1) (by omega) h
  match j, hj with
  | 0, _ => exact Or.inl rfl
  | 1, _ => exact Or.inr rfl
theorem pr_i {A : Type} (p l : A) {v : Int32} (h : v = 0 ∨ v = 1) : ∃ j, v = nI j ∧ j < 2 ∧ pr p l j = if v = 0 then p else l := by
  rcases h with rfl | rfl
  · exact ⟨0, rfl, by omega, rfl⟩
  · exact ⟨1, rfl, by omega, rfl⟩
theorem worst_s (B : Nat) (v1 v2 v3 v4 v5 v6 : Int32) : StC B (pX10_worst B v1 v2 v3 v4 v5 v6) (pX11_worst (B + 42) v1 v2 v3 v4 v5 v6) := by
  refine stp_bt (fun h g σ x w => ?_)
  have x1 := x.1.1
  have rf := FrC.rf B h
  unfold pX10_worst pX11_worst
  rcases brAt x w v1 with ⟨hi, e⟩ | ⟨hi, b, hb, rfl, e⟩
  · rcases trAt x w v4 with ⟨hi2, e2⟩ | ⟨hi2, t, ht, rfl, e2⟩
    · refine bt_eL (by rw [vc_e x1]; exact e) (bt_eL (by rw [vc_e x1]; exact e2) (bt_eR (ro_vc (noBridge_r v1)) ?_))
      rw [if_pos rfl, hi, if_neg (by decide)]
      exact bt_rn x rf
    · refine bt_eL (by rw [vc_e x1]; exact e) (bt_eL (by rw [vc_e x1]; exact e2) (bt_eR (ro_vc (noBridge_r v1)) ?_))
      rw [if_pos rfl, hi, if_neg (by decide)]
      exact bt_rn x rf
  · have wb := (w.wb hb).1
    have b6 := w.1.2
    have y := x.1.2.2.2.1 b hb
    have L6 := wb.2.1
    rcases trAt x w v4 with ⟨hi2, e2⟩ | ⟨hi2, t, ht, rfl, e2⟩
    · refine bt_eL (by rw [vc_e x1]; exact e) (bt_eL (by rw [vc_e x1]; exact e2) (bt_eR (ro_vc (noBridge_r _)) ?_))
      rw [if_neg (show ¬ (some (gB g b + 2) = none) by simp), if_pos (show (none : Option Nat) = none from rfl), hi, if_pos (show bI (!true) = 0 from rfl)]
      refine bt_sup x w hb (bt_rn x rf) (fun hs => ?_)
      refine bt_eR (ro_vc (noTrain_r v4)) ?_
      rw [hi2, if_neg (show ¬ bI (!false) = 0 by decide)]
      exact bt_rn x rf
    · refine bt_eL (by rw [vc_e x1]; exact e) (bt_eL (by rw [vc_e x1]; exact e2) (bt_eR (ro_vc (noBridge_r _)) ?_))
      rw [if_neg (show ¬ (some (gB g b + 2) = none) by simp), if_neg (show ¬ (some (gT g t) = none) by simp), hi, if_pos (show bI (!true) = 0 from rfl)]
      refine bt_sup x w hb (bt_rn x rf) (fun hs => ?_)
      refine bt_eR (ro_vc (noTrain_r _)) ?_
      rw [hi2, if_pos (show bI (!true) = 0 from rfl)]
      refine bt_res x w hb hs (bt_rn x rf) (fun x0 ex hr => ?_)
      subst ex
      refine bt_in (lo := 0) (hi := 1) (fun _ => bt_rn x rf) (fun hien => ?_)
      refine bt_in (lo := 0) (hi := 3) (fun _ => bt_rn x rf) (fun hiw => ?_)
      have he := inB_01 hien
      obtain ⟨wh, hwh, rfl⟩ := inB_le (n := 3) (by omega) hiw
      obtain ⟨t8, wt, hn, wT, ea⟩ := w.tr ht
      obtain ⟨W0, gn0, t10, hW0, hg0⟩ := trV (x.1.2.2.2.2.2.1 t ht) wt
      have v0 := w.tv ht hW0 hg0
      have rx := rsB_x wb hr
      have nm := eff_nm (kind := v2) w hb hr v0
      obtain ⟨r1, r2, r3⟩ := GR_e (en := v5) he nm
      obtain ⟨z, p, bq⟩ := w.bq hb
      obtain ⟨ee, ee1, ee2⟩ := ex_fra (kind := v2) w hb hr v0 v5
      have F : Fra (EM σ b v2 x0 t v5).1 (σ.l 9 b) := ⟨ee, p, ee1, by omega, bq.2.2.2.1, bq.2.2.2.2.1.1, by have := bq.2.2.2.2.1.2; omega⟩
      refine ⟨if wh = 2 then (EM σ b v2 x0 t v5).2.1.toInt64 else if wh = 3 then (EM σ b v2 x0 t v5).2.2.toInt64 else ptV (EM σ b v2 x0 t v5).1 (σ.l 9 b) (nI wh), ?_, ?_⟩
      · refine wp_gA (k := 7) x1 rfl ?_
        refine wp_bd (wp_vc x.2.2.1.choose_spec.choose_spec.choose_spec.1 (line_w x w rf hb hr (fun h2 lf x2 f2 l2 v2' => ?_)))
        obtain ⟨W', gn', t1', hW', hg'⟩ := trV (x2.1.2.2.2.2.2.1 t ht) wt
        have v' := w.tv ht hW' hg'
        obtain ⟨T0, F0, s0⟩ := x2.2.2.2.1
        obtain ⟨g0, l0, e0⟩ := x2.2.2.2.2.1
        have o := (x2.1.2.2.2.2.2.2.2.2.2 t ht).1
        refine wp_gA (k := 9) x2.1.1 rfl ?_
        refine wp_gA (k := 7) x2.1.1 rfl ?_
        refine wp_gA (k := 8) x2.1.1 rfl ?_
        refine wp_bd (wp_vc e0.1 (find_m (B := B) (b := b) (kind := v2) (x := x0) v' L6.2 v2' l2 t1' s0 e0 rfl (by omega) (fun y hy => by omega) (fun h3 T3 F3 f3 s3 e3 => ?_)))
        have x3 : IX h3 B g σ := ⟨x2.1.fr w f3 (fun a ha => by omega), x2.2.u34 f3 (fun a ha => by omega) ⟨_, _, s3⟩ ⟨_, _, e3⟩⟩
        have f3' := f2.tr f3 (fun a ha => by omega)
        by_cases c2 : wh = 2
        · rw [if_pos c2]
          obtain ⟨j, rfl, hj, ej⟩ := pr_i (GM σ b v2 x0 t).2.1 (LM σ b v2 x0 t).2.1 he
          rw [if_pos (by rw [c2]; rfl)]
          refine wp_gA (k := 9) x3.1.1 rfl ?_
          refine wp_gA (k := 1) e3.1 rfl ?_
          refine wp_ldI e3.2.2.1 rfl hj (by omega) ?_
          refine wp_rn ⟨?_, x3, f3'⟩
          rw [ej]
          unfold EM
          by_cases c : nI j = 0 <;> simp [c]
        · rw [if_neg c2, if_neg (show ¬ nI wh = (2 : Int32) from fun q => c2 ((nI_eq (a := wh) (b := 2) (by omega) (by omega)).mp q))]
          by_cases c3 : wh = 3
          · rw [if_pos c3]
            obtain ⟨j, rfl, hj, ej⟩ := pr_i (GM σ b v2 x0 t).2.2 (LM σ b v2 x0 t).2.2 he
            rw [if_pos (by rw [c3]; rfl)]
            refine wp_gA (k := 9) x3.1.1 rfl ?_
            refine wp_gA (k := 2) e3.1 rfl ?_
            refine wp_ldI e3.2.2.2 rfl hj (by omega) ?_
            refine wp_rn ⟨?_, x3, f3'⟩
            rw [ej]
            unfold EM
            by_cases c : nI j = 0 <;> simp [c]
          · rw [if_neg c3, if_neg (show ¬ nI wh = (3 : Int32) from fun q => c3 ((nI_eq (a := wh) (b := 3) (by omega) (by omega)).mp q))]
            obtain ⟨j, rfl, hj, ej⟩ := pr_i (GM σ b v2 x0 t).1 (LM σ b v2 x0 t).1 he
            have l3 := l2.fr f3 ⟨by omega, by omega⟩
            refine wp_gA (k := 9) x3.1.1 rfl ?_
            refine wp_gA (k := 0) e3.1 rfl ?_
            refine wp_ldL e3.2.1 rfl hj (by omega) ?_
            refine wp_gA (k := 7) x3.1.1 rfl ?_
            refine wp_gL (k := 1) l3.1 rfl ?_
            rw [ej, show (if nI j = 0 then (GM σ b v2 x0 t).1 else (LM σ b v2 x0 t).1) = (EM σ b v2 x0 t (nI j)).1 by unfold EM; by_cases c : nI j = 0 <;> simp [c]]
            refine wp_e (part_cls F _ h3) (wp_rn ⟨rfl, x3, f3'⟩)
      · refine rm_bd (rm_vc (extreme_w (w.wb hb).2 wT rx.1 rx.2 ?_))
        by_cases cw : 2 ≤ wh
        · rw [if_pos (show (2 : Int32) ≤ nI wh from nI_le (a := 2) cw (by omega))]
          by_cases c2 : wh = 2
          · rw [if_pos c2, if_pos (by rw [c2]; rfl)]
            refine rm_gI (rm_rn ⟨?_, stB_Sm σ _⟩)
            show (GRx σ b v2 x0 t v5).2.1.toInt64 = _
            rw [r2]
          · rw [if_neg c2, if_neg (show ¬ nI wh = (2 : Int32) from fun q => c2 ((nI_eq (a := wh) (b := 2) (by omega) (by omega)).mp q)), if_pos (by omega)]
            refine rm_gI (rm_rn ⟨?_, stB_Sm σ _⟩)
            show (GRx σ b v2 x0 t v5).2.2.toInt64 = _
            rw [r3]
        · rw [if_neg (show ¬ (2 : Int32) ≤ nI wh from nI_ge (b := 2) (by omega) (by omega)), if_neg (by omega), if_neg (by omega), r1]
          refine rm_gA ?_
          refine rm_ldL b rfl (by show _ < 6; omega) ?_
          refine rm_eq (part_ref (lo := σ.l 9 b) F _) (rm_rn ⟨rfl, stB_Sm σ _⟩)
theorem axles_s (B : Nat) (v1 v2 v3 : Int32) : StC B (pX10_axles B v1 v2 v3) (pX11_axles (B + 42) v1 v2 v3) := by
  refine stp_bt (fun h g σ x w => ?_)
  have x1 := x.1.1
  have rf := FrC.rf B h
  unfold pX10_axles pX11_axles
  rcases trAt x w v1 with ⟨hi, e⟩ | ⟨hi, t, ht, rfl, e⟩
  · refine bt_eL (by rw [vc_e x1]; exact e) (bt_eR (ro_vc (noTrain_r v1)) ?_)
    rw [if_pos rfl, hi, if_neg (by decide)]
    exact bt_rn x rf
  · refine bt_eL (by rw [vc_e x1]; exact e) (bt_eR (ro_vc (noTrain_r _)) ?_)
    rw [if_neg (show ¬ (some (gT g t) = none) by simp), hi, if_pos (show bI (!true) = 0 from rfl)]
    refine bt_in (lo := 0) (hi := 1) (fun _ => bt_rn x rf) (fun hiw => ?_)
    obtain ⟨t8, wt, hn, wT, ea⟩ := w.tr ht
    obtain ⟨W, gn, t1, hW, hg⟩ := trV (x.1.2.2.2.2.2.1 t ht) wt
    by_cases c : v2 = -1
    · rw [if_pos c, if_pos c]
      by_cases c3 : v3 = 0
      · rw [if_pos c3, if_pos c3]
        refine bt_eL (gI_e (k := 2) t1.1 rfl) (bt_gA (bt_ldI t rfl (by show _ < 8; omega) ?_))
        rw [wt.1]
        exact bt_rn x rf
      · rw [if_neg c3, if_neg c3]
        refine bt_eL (by rw [vc_e t1.1]; exact allGaps_w t1 wt.2.1.2) (bt_eR (ro_vc (allGapsM_r t8 wt.2.1.2 wt.1)) ?_)
        rw [wT.2.2.2.1, ea, bhN_c _ hg]
        exact bt_rn x rf
    · rw [if_neg c, if_neg c]
      refine bt_eL (gI_e (k := 2) t1.1 rfl) (bt_gA (bt_ldI t rfl (by show _ < 8; omega) ?_))
      rw [wt.1]
      refine bt_in (fun _ => bt_rn x rf) (fun hik => ?_)
      obtain ⟨k, hk, rfl⟩ := inB_ix (by have := wt.2.1; omega) hik
      have n8 := wt.2.1
      by_cases c3 : v3 = 0
      · rw [if_pos c3, if_pos c3]
        refine bt_eL (gA_e (k := 0) t1.1 rfl) (bt_eL (ldI_e t1.2.1 (by rw [arI_len]; omega) (by rw [arI_len]; omega)) (bt_gA (bt_ldI (8 * t + k) (ix8 t k) (by show _ < 64; omega) ?_)))
        rw [arI_get _ (by omega), hW k hk]
        exact bt_rn x rf
      · rw [if_neg c3, if_neg c3]
        refine bt_eL (gA_e (k := 1) t1.1 rfl) (bt_eL (ldI_e t1.2.2 (by rw [arI_len]; omega) (by rw [arI_len]; omega)) (bt_gA (bt_ldI (8 * t + k) (ix8 t k) (by show _ < 64; omega) ?_)))
        rw [arI_get _ (by omega), hg k hk, ← (wt.2.2.2.1 k hk).1]
        exact bt_rn x rf
/-- sums over bridges and trains -/
def ckS (σ : MS) : Nat → Int32
  | 0 => 0
  | b + 1 => ckS σ b + σ.a 23 b
def rnS (σ : MS) : Nat → Int32
  | 0 => 0
  | t + 1 => rnS σ t + σ.a 16 t
theorem allChecks_e {h : Hp} {B : Nat} {g : Gh} {σ : MS} (x : IX h B g σ) (w : WF σ) : ∀ (f b : Nat), b ≤ nbd σ → nbd σ < b + f → fX10_allChecks_4 f B (ckS σ b) (nI b) h = some (ckS σ (nbd σ), h)
  | 0, b, h1, h2 => by omega
  | f + 1, b, h1, h2 => by
    have x1 := x.1.1
    have b6 := w.1.2
    show bX10_allChecks_4 (fX10_allChecks_4 f) B (ckS σ b) (nI b) h = _
    unfold bX10_allChecks_4
    rw [bd_e (gI_e (k := 1) x1 rfl)]
    by_cases c : nbd σ ≤ b
    · have e : b = nbd σ := by omega
      subst e
      rw [if_pos (nI_le c (by omega))]
      rfl
    · rw [if_neg (nI_ge (by omega) (by omega))]
      have hb : b < nbd σ := by omega
      have e2 : pX10_bridgeAt B (nI b) h = some (some (gB g b + 2), h) := by
        rcases brAt x w (nI b) with ⟨hi, e⟩ | ⟨hi, b', hb', eb, e⟩
        · rw [w.1.1, inB_of hb (by omega)] at hi
          simp at hi
        · have := (nI_eq (by omega) (by omega)).mp eb
          rw [this]; rw [this] at e; exact e
      have y := x.1.2.2.2.1 b hb
      rw [bd_e (by rw [vc_e x1]; exact e2), if_neg (by simp), bd_e (gI_e (k := 7) y.1 rfl), nI_1, ← (w.wb hb).1.2.2.2.2.2.1]
      exact allChecks_e x w f (b + 1) (by omega) (by omega)
theorem allTraffic_e {h : Hp} {B : Nat} {g : Gh} {σ : MS} (x : IX h B g σ) (w : WF σ) : ∀ (f t : Nat), t ≤ ntd σ → ntd σ < t + f → fX10_allTraffic_4 f B (rnS σ t) (nI t) h = some (rnS σ (ntd σ), h)
  | 0, b, h1, h2 => by omega
  | f + 1, b, h1, h2 => by
    have x1 := x.1.1
    have b6 := w.2.1.2
    show bX10_allTraffic_4 (fX10_allTraffic_4 f) B (rnS σ b) (nI b) h = _
    unfold bX10_allTraffic_4
    rw [bd_e (gI_e (k := 3) x1 rfl)]
    by_cases c : ntd σ ≤ b
    · have e : b = ntd σ := by omega
      subst e
      rw [if_pos (nI_le c (by omega))]
      rfl
    · rw [if_neg (nI_ge (by omega) (by omega))]
      have hb : b < ntd σ := by omega
      have e2 : pX10_trainAt B (nI b) h = some (some (gT g b), h) := by
        rcases trAt x w (nI b) with ⟨hi, e⟩ | ⟨hi, b', hb', eb, e⟩
        · rw [w.2.1.1, inB_of hb (by omega)] at hi
          simp at hi
        · have := (nI_eq (by omega) (by omega)).mp eb
          rw [this]; rw [this] at e; exact e
      obtain ⟨W, gn, t1, _⟩ := x.1.2.2.2.2.2.1 b hb
      rw [bd_e (by rw [vc_e x1]; exact e2), if_neg (by simp), bd_e (gI_e (k := 3) t1.1 rfl), nI_1]
      exact allTraffic_e x w f (b + 1) (by omega) (by omega)
/-- the answer of count -/
def cntV (σ : MS) (v : Int32) : Int32 := if v = 0 then σ.i 0 else if v = 1 then σ.i 12 else if v = 2 then σ.i 28 else if v = 3 then ckS σ (nbd σ) else if v = 4 then σ.i 17 else if v = 5 then rnS σ (ntd σ) else -1002
theorem count_b {M : Nat} {σ : MS} (w : WF σ) (v : Int32) : ∀ (f t : Nat), t ≤ ntd σ → ntd σ < t + f → RO M (fX11_count_35 f M v (ckS σ (nbd σ)) (rnS σ t) (nI t)) σ (cntV σ v)
  | 0, t, h1, h2 => by omega
  | f + 1, t, h1, h2 => by
    have t8 := w.2.1.2
    show RO M (bX11_count_35 (fX11_count_35 f) M v (ckS σ (nbd σ)) (rnS σ t) (nI t)) σ _
    unfold bX11_count_35
    refine ro_gI ?_
    rw [w.2.1.1]
    by_cases c : ntd σ ≤ t
    · have e : t = ntd σ := by omega
      subst e
      rw [if_pos (nI_le c (by omega))]
      rcases swt_c v 6 with q | ⟨k, hk, rfl⟩
      · rw [swt_d q]
        have nv : ∀ k : Nat, k < 6 → v ≠ nI k := by
          intro k hk e
          rw [e, nI_clamp (by omega)] at q
          rcases q with q | q
          · exact absurd q (by have := nI_pos' (n := k) (by omega); simpa using this)
          · omega
        have e : cntV σ v = -1002 := by
          unfold cntV
          rw [if_neg (show ¬ v = (0 : Int32) from nv 0 (by omega)), if_neg (show ¬ v = (1 : Int32) from nv 1 (by omega)), if_neg (show ¬ v = (2 : Int32) from nv 2 (by omega)), if_neg (show ¬ v = (3 : Int32) from nv 3 (by omega)), if_neg (show ¬ v = (4 : Int32) from nv 4 (by omega)), if_neg (show ¬ v = (5 : Int32) from nv 5 (by omega))]
        rw [e]
        exact ro_rn
      · rw [swt_i (by simp; omega) (by simp)]
        match k, hk with
        | 0, _ => exact ro_gI ro_rn
        | 1, _ => exact ro_gI ro_rn
        | 2, _ => exact ro_gI ro_rn
        | 3, _ => exact ro_rn
        | 4, _ => exact ro_gI ro_rn
        | 5, _ => exact ro_rn
    · rw [if_neg (nI_ge (by omega) (by omega))]
      refine ro_gA (ro_ldI t rfl (by show _ < 8; omega) ?_)
      rw [nI_1]
      exact count_b w v f (t + 1) (by omega) (by omega)
theorem count_a {M : Nat} {σ : MS} (w : WF σ) (v : Int32) : ∀ (f b : Nat), b ≤ nbd σ → nbd σ < b + f → RO M (fX11_count_7 f M v (ckS σ b) 0 (nI b)) σ (cntV σ v)
  | 0, t, h1, h2 => by omega
  | f + 1, b, h1, h2 => by
    have b6 := w.1.2
    show RO M (bX11_count_7 (fX11_count_7 f) M v (ckS σ b) 0 (nI b)) σ _
    unfold bX11_count_7
    refine ro_gI ?_
    rw [w.1.1]
    by_cases c : nbd σ ≤ b
    · have e : b = nbd σ := by omega
      subst e
      rw [if_pos (nI_le c (by omega))]
      exact count_b w v FU 0 (by omega) (by have := w.2.1.2; unfold FU; omega)
    · rw [if_neg (nI_ge (by omega) (by omega))]
      refine ro_gA (ro_ldI b rfl (by show _ < 6; omega) ?_)
      rw [nI_1]
      exact count_a w v f (b + 1) (by omega) (by omega)
theorem count_s (B : Nat) (v : Int32) : StC B (pX10_count B v) (pX11_count (B + 42) v) := by
  refine stp_bt (fun h g σ x w => ?_)
  have x1 := x.1.1
  have rf := FrC.rf B h
  refine ⟨cntV σ v, ?_, rm_r (count_a w v FU 0 (by omega) (by have := w.1.2; unfold FU; omega)) ⟨rfl, SmE.rf σ⟩⟩
  unfold pX10_count
  rcases swt_c v 6 with q | ⟨k, hk, rfl⟩
  · rw [swt_d q]
    have nv : ∀ k : Nat, k < 6 → v ≠ nI k := by
      intro k hk e
      rw [e, nI_clamp (by omega)] at q
      rcases q with q | q
      · exact absurd q (by have := nI_pos' (n := k) (by omega); simpa using this)
      · omega
    refine wp_rn ⟨?_, x, rf⟩
    unfold cntV
    rw [if_neg (show ¬ v = (0 : Int32) from nv 0 (by omega)), if_neg (show ¬ v = (1 : Int32) from nv 1 (by omega)), if_neg (show ¬ v = (2 : Int32) from nv 2 (by omega)), if_neg (show ¬ v = (3 : Int32) from nv 3 (by omega)), if_neg (show ¬ v = (4 : Int32) from nv 4 (by omega)), if_neg (show ¬ v = (5 : Int32) from nv 5 (by omega))]
  · rw [swt_i (by simp; omega) (by simp)]
    obtain ⟨wc, wm, e3⟩ := x.1.2.2.1.1
    match k, hk with
    | 0, _ => exact wp_gI (k := 1) x1 rfl (wp_rn ⟨w.1.1.symm, x, rf⟩)
    | 1, _ => exact wp_gI (k := 3) x1 rfl (wp_rn ⟨w.2.1.1.symm, x, rf⟩)
    | 2, _ => exact wp_gA (k := 5) x1 rfl (wp_gI (k := 5) e3 rfl (wp_rn ⟨w.2.2.1.1.symm, x, rf⟩))
    | 3, _ => exact wp_e (by rw [vc_e x1]; exact allChecks_e x w FU 0 (by omega) (by have := w.1.2; unfold FU; omega)) (wp_rn ⟨rfl, x, rf⟩)
    | 4, _ => exact wp_gI (k := 4) x1 rfl (wp_rn ⟨rfl, x, rf⟩)
    | 5, _ => exact wp_e (by rw [vc_e x1]; exact allTraffic_e x w FU 0 (by omega) (by have := w.2.1.2; unfold FU; omega)) (wp_rn ⟨rfl, x, rf⟩)
