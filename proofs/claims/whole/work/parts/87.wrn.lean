/-! wear, worn. -/
theorem wear_w {h0 h : Hp} {B : Nat} {g : Gh} {σ : MS} (x : IX h B g σ) (w : WF σ) (f0 : FrC B h0 h) {b x0 t : Nat} {kind : Int32} {lf : Nat → Int64} (hb : b < nbd σ) (ht : t < ntd σ) (hr : RsB σ b kind x0) (l1 : Lin h (B + 18) (B + 19) (Ld σ b) (σ.l 9 b) lf) (l2 : ∀ a, a ≤ Ld σ b → lf a = infM σ b kind x0 a (nsd σ b)) {R : Type} {K : Mo R} {Q : R → Hp → Prop} (q : ∀ h2 sz F', IX h2 B g σ → FrC B h0 h2 → Lin h2 (B + 18) (B + 19) (Ld σ b) (σ.l 9 b) lf → Trs h2 B sz (wrM (σ.l 9 b) (cgM σ b kind x0 t)).2.2 (nI (wrM (σ.l 9 b) (cgM σ b kind x0 t)).1.length - 1) (weM (σ.l 9 b) (cgM σ b kind x0 t)) F' → WP K h2 Q) : WP (bd (vc 7 (some (B + 20)) fun o => pX7_roll o (some (B + 18)) (some (gT g t)) (0 : Int32)) fun _ => bd (gA (some B) 10 11) fun x89 => bd (gA (some B) 10 8) fun x93 => bd (gA (some B) 10 7) fun x97 => bd (vc 9 x89 (fun o => pX9_take o x93 x97)) fun _ => K) h Q := by
  obtain ⟨t8, wt, hn, wT, ea⟩ := w.tr ht
  obtain ⟨W, gn, t1, hW, hg⟩ := trV (x.1.2.2.2.2.2.1 t ht) wt
  have v := w.tv ht hW hg
  have wb := (w.wb hb).1
  have L6 := wb.2.1
  have le := gnd_le wt
  have eg : bhN gn (nad σ t) = agd σ t := by rw [ea]; exact bhN_c _ hg
  obtain ⟨z, p, bq⟩ := w.bq hb
  have lo0 : ¬ σ.l 9 b = 0 := by
    rw [bq.2.2.2.1]
    intro q
    have := (oL_0 (z := p) (by have := bq.2.2.2.2.1; omega)).mp q
    have := bq.2.2.2.2.1
    omega
  have o := (x.1.2.2.2.2.2.2.2.2.2 t ht).1
  obtain ⟨T0, F0, s0⟩ := x.2.2.2.1
  refine wp_bd (wp_vc s0.1 (roll_w (way := 0) l1 t1 s0 L6.2 wt.2.1.2 (by omega) (by omega) (fun h2 F2 f2 s2 v2 => ?_)))
  have x2 : IX h2 B g σ := ⟨x.1.fr w f2 (fun a ha => by omega), x.2.u34 f2 (fun a ha => by omega) ⟨_, _, s2⟩ (x.2.2.2.2.1.ag (Ag.fr f2 (fun a ha => by omega)))⟩
  have g2 := f0.tr f2 (fun a ha => by omega)
  have ll := l1.fr f2 ⟨by omega, by omega⟩
  obtain ⟨sz, wt', ht', ws, F, y1, y2⟩ := x2.2.2.2.2.2.2.2.2.2.1
  refine wp_gA (k := 11) x2.1.1 rfl (wp_gA (k := 8) x2.1.1 rfl (wp_gA (k := 7) x2.1.1 rfl ?_))
  rw [eg] at s2 v2
  refine wp_bd (wp_vc y1 (take_w (V := fun m => effM σ b kind x0 (Ld σ b) (nsd σ b) t 0 (nad σ t) (nI m)) lo0 (by omega) ll s2 (fun y hy => ?_) (fun y hy => ?_) ⟨y1, y2⟩ (fun h3 sz' F' f3 x3 => ?_)))
  · rw [v2 y hy]
    exact (v.eff L6.2 l2 0 (show y ≤ 2000 by omega)).symm
  · obtain ⟨e, e1, e2⟩ := v.bnd bq hr 0 (show y ≤ 2000 by omega)
    exact ⟨e, e1, by omega⟩
  · have x4 : IX h3 B g σ := ⟨x2.1.fr w f3 (fun a ha => by unfold trS at ha; omega), x2.2.u9 f3 (fun a ha => by unfold trS at ha; omega) ⟨_, _, _, _, _, x3.1, x3.2⟩⟩
    exact q h3 sz' F' x4 (g2.tr f3 (fun a ha => by unfold trS at ha; omega)) (ll.fr f3 ⟨by unfold trS; omega, by unfold trS; omega⟩) x3
theorem wear_hyp {σ : MS} (w : WF σ) {b t : Nat} (hb : b < nbd σ) (ht : t < ntd σ) : Ld σ b + agd σ t ≤ 200 ∧ ¬ σ.l 9 b = 0 := by
  obtain ⟨t8, wt, hn, wT, ea⟩ := w.tr ht
  have le := gnd_le wt
  have L6 := (w.wb hb).1.2.1
  obtain ⟨z, p, bq⟩ := w.bq hb
  refine ⟨by rw [ea]; omega, fun q => ?_⟩
  rw [bq.2.2.2.1] at q
  have := (oL_0 (z := p) (by have := bq.2.2.2.2.1; omega)).mp q
  have := bq.2.2.2.2.1
  omega
theorem wear_s (B : Nat) (v1 v2 v3 v4 v5 : Int32) : StC B (pX10_wear B v1 v2 v3 v4 v5) (pX11_wear (B + 42) v1 v2 v3 v4 v5) := by
  refine stp_bt (fun h g σ x w => ?_)
  have x1 := x.1.1
  have rf := FrC.rf B h
  unfold pX10_wear pX11_wear
  rcases brAt x w v1 with ⟨hi, e⟩ | ⟨hi, b, hb, rfl, e⟩
  · rcases trAt x w v4 with ⟨hi2, e2⟩ | ⟨hi2, t, ht, rfl, e2⟩
    · refine bt_eL (by rw [vc_e x1]; exact e) (bt_eL (by rw [vc_e x1]; exact e2) (bt_eR (ro_vc (noBridge_r v1)) ?_))
      rw [if_pos (show (none : Option Nat) = none from rfl), hi, if_neg (show ¬ bI (!false) = 0 by decide)]
      exact bt_rn x rf
    · refine bt_eL (by rw [vc_e x1]; exact e) (bt_eL (by rw [vc_e x1]; exact e2) (bt_eR (ro_vc (noBridge_r v1)) ?_))
      rw [if_pos (show (none : Option Nat) = none from rfl), hi, if_neg (show ¬ bI (!false) = 0 by decide)]
      exact bt_rn x rf
  · have wb := (w.wb hb).1
    have b6 := w.1.2
    rcases trAt x w v4 with ⟨hi2, e2⟩ | ⟨hi2, t, ht, rfl, e2⟩
    · refine bt_eL (by rw [vc_e x1]; exact e) (bt_eL (by rw [vc_e x1]; exact e2) (bt_eR (ro_vc (noBridge_r _)) ?_))
      rw [if_neg (show ¬ (some (gB g b + 2) = none) by simp), if_pos (show (none : Option Nat) = none from rfl), hi, if_pos (show bI (!true) = 0 from rfl)]
      refine bt_sup x w hb (bt_rn x rf) (fun hs => ?_)
      refine bt_eR (ro_vc (noTrain_r v4)) ?_
      rw [hi2, if_neg (show ¬ bI (!false) = 0 by decide)]
      exact bt_rn x rf
    · refine bt_eL (by rw [vc_e x1]; exact e) (bt_eL (by rw [vc_e x1]; exact e2) (bt_eR (ro_vc (noBridge_r _)) ?_))
      rw [if_neg (show ¬ (some (gB g b + 2) = none) by simp), if_neg (show ¬ (some (gT g t) = none) by simp), hi, if_pos (show bI (!true) = 0 from rfl)]
      refine bt_sup x w hb (bt_rn x rf) (fun hs => ?_)
      refine bt_eR (ro_vc (noTrain_r _)) ?_
      rw [hi2, if_pos (show bI (!true) = 0 from rfl)]
      refine bt_res x w hb hs (bt_rn x rf) (fun x0 ex hr => ?_)
      subst ex
      refine bt_in (lo := 0) (hi := 2) (fun _ => bt_rn x rf) (fun _ => ?_)
      obtain ⟨t8, wt, hn, wT, ea⟩ := w.tr ht
      have rx := rsB_x wb hr
      obtain ⟨hS, lo0⟩ := wear_hyp w hb ht
      refine ⟨if v5 = 0 then weM (σ.l 9 b) (cgM σ b v2 x0 t) else if v5 = 1 then (wrM (σ.l 9 b) (cgM σ b v2 x0 t)).2.2.toInt64 else (nI (wrM (σ.l 9 b) (cgM σ b v2 x0 t)).1.length - 1).toInt64, ?_, ?_⟩
      · refine wp_gA (k := 7) x1 rfl ?_
        refine wp_bd (wp_vc x.2.2.1.choose_spec.choose_spec.choose_spec.1 (line_w x w rf hb hr (fun h2 lf x2 f2 l2 v2' => ?_)))
        refine wp_gA (k := 8) x2.1.1 rfl (wp_gA (k := 7) x2.1.1 rfl ?_)
        refine wear_w x2 w f2 hb ht hr l2 v2' (fun h3 sz F' x3 f3 l3 y3 => ?_)
        by_cases c0 : v5 = 0
        · rw [if_pos c0, if_pos c0]
          exact wp_gA (k := 11) x3.1.1 rfl (wp_gL (k := 4) y3.1 rfl (wp_rn ⟨rfl, x3, f3⟩))
        · rw [if_neg c0, if_neg c0]
          by_cases c1 : v5 = 1
          · rw [if_pos c1, if_pos c1]
            exact wp_gA (k := 11) x3.1.1 rfl (wp_gI (k := 2) y3.1 rfl (wp_rn ⟨rfl, x3, f3⟩))
          · rw [if_neg c1, if_neg c1]
            exact wp_gA (k := 11) x3.1.1 rfl (wp_gI (k := 3) y3.1 rfl (wp_rn ⟨rfl, x3, f3⟩))
      · refine rm_bd (rm_vc (wearOf_m (w.wb hb).2 wT rx.1 rx.2 hS lo0 (fun N gg => ?_)))
        by_cases c0 : v5 = 0
        · rw [if_pos c0, if_pos c0]
          exact rm_rn ⟨rfl, stW_Sm σ _ _ _ _⟩
        · rw [if_neg c0, if_neg c0]
          by_cases c1 : v5 = 1
          · rw [if_pos c1, if_pos c1]
            exact rm_gI (rm_rn ⟨rfl, stW_Sm σ _ _ _ _⟩)
          · rw [if_neg c1, if_neg c1]
            exact rm_gI (rm_rn ⟨rfl, stW_Sm σ _ _ _ _⟩)
/-- the wear of all trains so far -/
def wnS (σ : MS) (b : Nat) (kind : Int32) (x : Nat) : Nat → Int64
  | 0 => 0
  | t + 1 => wnS σ b kind x t + (σ.a 16 t).toInt64 * weM (σ.l 9 b) (cgM σ b kind x t)
theorem stW_stW (σ : MS) (N w hv N' w' hv' : Int32) (f f' : Nat → Int64) : stW (stW σ N w hv f) N' w' hv' f' = stW σ N' w' hv' f' := by
  unfold stW
  refine Prod.ext (funext fun k => ?_) (Prod.ext rfl (funext fun k => funext fun j => ?_))
  · by_cases h1 : k = 38
    · simp [h1]
    · by_cases h2 : k = 39
      · simp [h2]
      · by_cases h3 : k = 40 <;> simp [h1, h2, h3]
  · by_cases h : k = 37 <;> simp [h]
theorem cgM_c (σ : MS) (N w hv : Int32) (f : Nat → Int64) (b : Nat) (kind : Int32) (x t : Nat) : cgM (stW σ N w hv f) b kind x t = cgM σ b kind x t := by
  have e := stW_EQ σ N w hv f
  have ea : agd (stW σ N w hv f) t = agd σ t := by
    show (agM (stW σ N w hv f) t (nad σ t)).toNatClampNeg = _
    rw [agM_c t e]
    rfl
  unfold cgM
  rw [ea]
  show 0 :: ((List.range (Ld σ b + agd σ t + 1)).map (fun m => effM (stW σ N w hv f) b kind x (Ld σ b) (nsd σ b) t 0 (nad σ t) (nI m)) ++ [0]) = _
  congr 2
  apply List.map_congr_left
  intro m _
  exact effM_c b kind x _ _ t 0 _ _ e
theorem worn_ml {M : Nat} {σ : MS} (w : WF σ) {b x0 : Nat} {kind : Int32} (hb : b < nbd σ) (hr : RsB σ b kind x0) : ∀ (f t : Nat) (N w' hv : Int32) (ff : Nat → Int64), t ≤ ntd σ → ntd σ < t + f → RM M (fX11_worn_42 f M (nI b) kind (nI x0) (wnS σ b kind x0 t) (nI t)) (stW σ N w' hv ff) (fun r τ => r = wnS σ b kind x0 (ntd σ) ∧ SmE σ τ)
  | 0, t, N, w', hv, ff, h1, h2 => by omega
  | f + 1, t, N, w', hv, ff, h1, h2 => by
    have t8 := w.nt
    show RM M (bX11_worn_42 (fX11_worn_42 f) M (nI b) kind (nI x0) (wnS σ b kind x0 t) (nI t)) _ _
    unfold bX11_worn_42
    refine rm_gI ?_
    rw [show (stW σ N w' hv ff).i 12 = nI (ntd σ) from w.2.1.1]
    by_cases c : ntd σ ≤ t
    · have e : t = ntd σ := by omega
      subst e
      rw [if_pos (nI_le c (by omega))]
      exact rm_rn ⟨rfl, stW_Sm σ _ _ _ _⟩
    · rw [if_neg (nI_ge (by omega) (by omega))]
      have ht : t < ntd σ := by omega
      refine rm_gA (rm_ldI t rfl (by show _ < 8; omega) ?_)
      obtain ⟨_, wt, hn, wT, ea⟩ := w.tr ht
      have rx := rsB_x (w.wb hb).1 hr
      obtain ⟨hS, lo0⟩ := wear_hyp w hb ht
      have eg : agd (stW σ N w' hv ff) t = agd σ t := by
        show (agM (stW σ N w' hv ff) t (nad σ t)).toNatClampNeg = _
        rw [agM_c t (stW_EQ σ N w' hv ff)]
        rfl
      refine rm_bd (rm_vc (wearOf_m (σ := stW σ N w' hv ff) (show WB (stW σ N w' hv ff) b from (w.wb hb).2) (WT_c (stW_EQ σ N w' hv ff) wT) rx.1 rx.2 (by show Ld σ b + _ ≤ 200; rw [eg]; exact hS) lo0 (fun N2 g2 => ?_)))
      rw [stW_stW, cgM_c, nI_1]
      exact worn_ml w hb hr f (t + 1) _ _ _ _ (by omega) (by omega)
theorem worn_cl {h0 : Hp} {B : Nat} {g : Gh} {σ : MS} (w : WF σ) {b x0 : Nat} {kind : Int32} {lf : Nat → Int64} (hb : b < nbd σ) (hr : RsB σ b kind x0) (l2 : ∀ a, a ≤ Ld σ b → lf a = infM σ b kind x0 a (nsd σ b)) : ∀ (f t : Nat) (h : Hp), t ≤ ntd σ → ntd σ < t + f → IX h B g σ → FrC B h0 h → Lin h (B + 18) (B + 19) (Ld σ b) (σ.l 9 b) lf → WP (fX10_worn_57 f B (wnS σ b kind x0 t) (nI t)) h (fun r h' => r = wnS σ b kind x0 (ntd σ) ∧ IX h' B g σ ∧ FrC B h0 h')
  | 0, t, h, h1, h2, x, f0, l1 => by omega
  | f + 1, t, h, h1, h2, x, f0, l1 => by
    have t8 := w.nt
    have x1 := x.1.1
    show WP (bX10_worn_57 (fX10_worn_57 f) B (wnS σ b kind x0 t) (nI t)) h _
    unfold bX10_worn_57
    refine wp_gI (k := 3) x1 rfl ?_
    by_cases c : ntd σ ≤ t
    · have e : t = ntd σ := by omega
      subst e
      rw [if_pos (nI_le c (by omega))]
      exact wp_rn ⟨rfl, x, f0⟩
    · rw [if_neg (nI_ge (by omega) (by omega))]
      have ht : t < ntd σ := by omega
      have e2 : pX10_trainAt B (nI t) h = some (some (gT g t), h) := by
        rcases trAt x w (nI t) with ⟨hi, e⟩ | ⟨hi, b', hb', eb, e⟩
        · rw [w.2.1.1, inB_of ht (by omega)] at hi
          simp at hi
        · have := (nI_eq (by omega) (by omega)).mp eb
          rw [this]; rw [this] at e; exact e
      refine wp_e (by rw [vc_e x1]; exact e2) ?_
      rw [if_neg (show ¬ (some (gT g t) = none) by simp)]
      obtain ⟨W, gn, t1, _⟩ := x.1.2.2.2.2.2.1 t ht
      refine wp_gI (k := 3) t1.1 rfl ?_
      obtain ⟨_, wt, hn, wT, ea⟩ := w.tr ht
      obtain ⟨r, r1, r2⟩ := wt.2.2.2.2.2
      by_cases z : σ.a 16 t ≤ 0
      · rw [if_pos z, nI_1]
        have r0 : r = 0 := by
          rw [r2] at z
          have := (nI_leI (a := r) (b := 0) (by omega) (by omega)).mp z
          omega
        have ew : wnS σ b kind x0 (t + 1) = wnS σ b kind x0 t := by
          rw [wnS, r2, r0, show (nI 0).toInt64 = (0 : Int64) from rfl, Int64.zero_mul, Int64.add_zero]
        rw [← ew]
        exact worn_cl w hb hr l2 f (t + 1) h (by omega) (by omega) x f0 l1
      · rw [if_neg z]
        refine wp_gA (k := 8) x1 rfl (wp_gA (k := 7) x1 rfl ?_)
        refine wear_w x w f0 hb ht hr l1 l2 (fun h3 sz F' x3 f3 l3 y3 => ?_)
        obtain ⟨W3, gn3, t3, _⟩ := x3.1.2.2.2.2.2.1 t ht
        refine wp_gI (k := 3) t3.1 rfl (wp_gA (k := 11) x3.1.1 rfl (wp_gL (k := 4) y3.1 rfl ?_))
        rw [nI_1]
        exact worn_cl w hb hr l2 f (t + 1) h3 (by omega) (by omega) x3 f3 l3
theorem worn_s (B : Nat) (v1 v2 v3 : Int32) : StC B (pX10_worn B v1 v2 v3) (pX11_worn (B + 42) v1 v2 v3) := by
  refine stp_bt (fun h g σ x w => ?_)
  have x1 := x.1.1
  have rf := FrC.rf B h
  unfold pX10_worn pX11_worn
  rcases brAt x w v1 with ⟨hi, e⟩ | ⟨hi, b, hb, rfl, e⟩
  · refine bt_eL (by rw [vc_e x1]; exact e) (bt_eR (ro_vc (noBridge_r v1)) ?_)
    rw [if_pos (show (none : Option Nat) = none from rfl), hi, if_neg (show ¬ bI (!false) = 0 by decide)]
    exact bt_rn x rf
  · refine bt_eL (by rw [vc_e x1]; exact e) (bt_eR (ro_vc (noBridge_r _)) ?_)
    rw [if_neg (show ¬ (some (gB g b + 2) = none) by simp), hi, if_pos (show bI (!true) = 0 from rfl)]
    refine bt_sup x w hb (bt_rn x rf) (fun hs => ?_)
    refine bt_res x w hb hs (bt_rn x rf) (fun x0 ex hr => ?_)
    subst ex
    refine ⟨wnS σ b v2 x0 (ntd σ), ?_, ?_⟩
    · refine wp_gA (k := 7) x1 rfl ?_
      refine wp_bd (wp_vc x.2.2.1.choose_spec.choose_spec.choose_spec.1 (line_w x w rf hb hr (fun h2 lf x2 f2 l2 v2' => ?_)))
      exact worn_cl w hb hr v2' FU 0 h2 (by omega) (by have := w.nt; unfold FU; omega) x2 f2 l2
    · have q := worn_ml (M := B + 42) w hb hr FU 0 (σ.i 38) (σ.i 39) (σ.i 40) (σ.l 37) (by omega) (by have := w.nt; unfold FU; omega)
      rw [← stW_self] at q
      exact q
