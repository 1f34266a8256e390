/-! route and why. -/
theorem route_s (B : Nat) (v1 v2 v3 v4 v5 : Int32) : StC B (pX10_route B v1 v2 v3 v4 v5) (pX11_route (B + 42) v1 v2 v3 v4 v5) := by
  refine stp_bt (fun h g σ x w => ?_)
  have rf := FrC.rf B h
  unfold pX10_route pX11_route
  refine bt_tr x w (bt_rn x rf) (fun t ht e1 => ?_)
  subst e1
  refine bt_tw (bt_rn x rf) (fun u hu e3 => ?_)
  subst e3
  refine bt_tw (bt_rn x rf) (fun e e10 e4 => ?_)
  subst e4
  refine bt_md (bt_rn x rf) (fun _ => ?_)
  refine bt_in (lo := 0) (hi := 11) (fun _ => bt_rn x rf) (fun h5 => ?_)
  obtain ⟨k, k11, rfl⟩ := inB_le (n := 11) (by omega) h5
  by_cases eq : nI u = nI e
  · rw [if_pos eq, if_pos eq]
    exact bt_rn x rf
  · rw [if_neg eq, if_neg eq]
    obtain ⟨lb, fa, st, fx⟩ := FX.ex w.rg.1 (opX σ t v2 false) e10
    have r24 := w.2.2.1.2
    refine ⟨if lb u = true then (if k = 0 then nI (fa u) else if k = 1 then nI (st u) else if k - 2 < st u then nI (rdN (nrd σ) (rdF σ) (rdT σ) (rdM σ) (opX σ t v2 false) lb fa st u (k - 2)) else -1) else -1, ?_, ?_⟩
    · refine wp_bd (wp_vc x.1.1 (cru_w x w rf ht (fun h2 wc wm C K Y U x2 f2 rc2 cu2 hU2 hu2 => ?_)))
      refine wp_gA (k := 5) x2.1.1 rfl (wp_bd (wp_vc rc2.1.1 (search_w w e10 rc2 (fun r hr => cu2.op w hr) fx hu (fun h3 wc3 wm3 K3 Y3 rc3 fr3 hz => ?_))))
      have x3 := x2.rc w rc3 (fr3.mono (fun y hy => by omega))
      have f3 := f2.tr fr3 (fun a ha => by omega)
      cases lu : lb u
      · rw [if_pos (show bI false = 0 from rfl), if_neg (show ¬ false = true by decide)]
        exact wp_rn ⟨rfl, x3, f3⟩
      · rw [if_neg (show ¬ bI true = 0 by decide), if_pos rfl]
        obtain ⟨z1, z2, z3⟩ := hz lu
        subst z1 z2
        have s9 := fx.le w.rg.1 hu lu
        by_cases k0 : k = 0
        · subst k0
          rw [if_pos (show nI 0 = 0 from rfl), if_pos rfl]
          exact wp_gA (k := 5) x3.1.1 rfl (wp_gI (k := 9) rc3.1.1 rfl (wp_rn ⟨rfl, x3, f3⟩))
        · rw [if_neg (show ¬ nI k = 0 from fun z => k0 ((nI_eq (b := 0) (by omega) (by omega)).mp z)), if_neg k0]
          by_cases k1 : k = 1
          · subst k1
            rw [if_pos (show nI 1 = 1 from rfl), if_pos rfl]
            exact wp_gA (k := 5) x3.1.1 rfl (wp_gI (k := 8) rc3.1.1 rfl (wp_rn ⟨rfl, x3, f3⟩))
          · rw [if_neg (show ¬ nI k = 1 from fun z => k1 ((nI_eq (b := 1) (by omega) (by omega)).mp z)), if_neg k1]
            refine wp_gA (k := 5) x3.1.1 rfl (wp_e (by rw [vc_e rc3.1.1, show (2 : Int32) = nI 2 from rfl, pk_sub (by omega)]; exact wayRoad_e rc3 (by omega) (by omega)) ?_)
            by_cases c : k - 2 < st u
            · rw [if_pos c, if_pos c, z3 _ c]
              exact wp_rn ⟨rfl, x3, f3⟩
            · rw [if_neg c, if_neg c]
              exact wp_rn ⟨rfl, x3, f3⟩
    · refine rm_bd (rm_vc (open_m (all := false) w ht (SmE.rf σ) (fun τ sm rd => ?_)))
      refine rm_bd (rm_vc (layRoute_m w.rg.1 e10 fx hu rd sm (fun τ2 hd2 hl2 sm2 hj => ?_)))
      cases lu : lb u
      · rw [if_neg (show ¬ false = true by decide), if_neg (by decide)]
        exact rm_rn ⟨rfl, sm2⟩
      · have s9 := fx.le w.rg.1 hu lu
        rw [if_pos rfl, if_pos (nI_pos' (by omega)), if_pos rfl]
        by_cases k0 : k = 0
        · subst k0
          rw [if_pos (show nI 0 = 0 from rfl), if_pos rfl]
          refine rm_gA (rm_ldI u rfl (by show _ < 10; omega) ?_)
          rw [(hl2 u hu).1, lbI, lu, if_pos rfl]
          exact rm_rn ⟨rfl, sm2⟩
        · rw [if_neg (show ¬ nI k = 0 from fun z => k0 ((nI_eq (b := 0) (by omega) (by omega)).mp z)), if_neg k0]
          by_cases k1 : k = 1
          · subst k1
            rw [if_pos (show nI 1 = 1 from rfl), if_pos rfl]
            exact rm_rn ⟨rfl, sm2⟩
          · rw [if_neg (show ¬ nI k = 1 from fun z => k1 ((nI_eq (b := 1) (by omega) (by omega)).mp z)), if_neg k1, show (2 : Int32) = nI 2 from rfl, pk_sub (by omega)]
            by_cases c : k - 2 < st u
            · rw [if_neg (nI_ge c (by omega)), if_pos c]
              refine rm_gA (rm_ldI (k - 2) rfl (by show _ < 12; omega) ?_)
              rw [hj lu _ c]
              exact rm_rn ⟨rfl, sm2⟩
            · rw [if_pos (nI_le (by omega) (by omega)), if_neg c]
              exact rm_rn ⟨rfl, sm2⟩
/-- the first check unmet on a way -/
def wyA (σ : MS) (t : Nat) (mode : Int32) (rd : Nat → Nat) : Nat → Nat → Int32
  | 0, _ => -1
  | c + 1, i => if σ.a 32 (rd i) = -1 then wyA σ t mode rd c (i + 1) else if failM σ (toN (σ.a 32 (rd i))) t mode = -1 then wyA σ t mode rd c (i + 1) else 10 * σ.a 32 (rd i) + failM σ (toN (σ.a 32 (rd i))) t mode
theorem fuo_l {B : Nat} {g : Gh} {σ : MS} {h : Hp} {s t : Nat} {wm mode : Int32} {C K Y U : Nat → Int32} {rd : Nat → Nat} (w : WF σ) (x : IX h B g σ) (rc : RC h B σ (nI s) wm C K Y) (hU : h.1 (B + 41) = some (ai 0 (arI 6 U))) (hu : ∀ b, b < nbd σ → U b = failM σ b t mode) (hs : s ≤ 9) (hY : ∀ j, j < s → Y j = nI (rd j) ∧ rd j < nrd σ) {Q : Int32 → Hp → Prop} (q : Q (wyA σ t mode rd s 0) h) :
    ∀ (f i : Nat), i ≤ s → s < i + f → wyA σ t mode rd (s - i) i = wyA σ t mode rd s 0 → WP (fX10_firstUnmetOnWay_2 f B (nI i)) h Q
  | 0, i, h1, h2, h3 => by omega
  | f + 1, i, h1, h2, h3 => by
    have b6 := w.1.2
    show WP (bX10_firstUnmetOnWay_2 (fX10_firstUnmetOnWay_2 f) B (nI i)) h Q
    unfold bX10_firstUnmetOnWay_2
    refine wp_gA (k := 5) x.1.1 rfl (wp_gI (k := 8) rc.1.1 rfl ?_)
    by_cases c : s ≤ i
    · rw [if_pos (nI_le c (by omega))]
      rw [show s - i = 0 by omega, wyA] at h3
      rw [← h3] at q
      exact wp_rn q
    · rw [if_neg (nI_ge (by omega) (by omega))]
      have hi : i < s := by omega
      obtain ⟨y1, y2⟩ := hY i hi
      rw [show s - i = (s - (i + 1)) + 1 by omega, wyA] at h3
      refine wp_gA (k := 5) x.1.1 rfl (wp_gA (k := 5) x.1.1 rfl ?_)
      refine wp_e (by rw [vc_e rc.1.1]; exact wayRoad_e rc (by omega) (by omega)) ?_
      rw [if_pos hi, y1]
      refine wp_e (by rw [vc_e rc.1.1]; exact bridgeOf_e w rc y2) ?_
      refine wp_gI (k := 1) x.1.1 rfl ?_
      obtain ⟨_, _, _, _, _, _, _, _, _, _, _, ov⟩ := w.2.2.2.2.2.2.2.2 (rd i) y2
      rcases ov with z | ⟨b, hb, z⟩
      · have nin : inB (-1) 0 (nI (nbd σ) - 1) = false := by
          cases hz : inB (-1) 0 (nI (nbd σ) - 1)
          · rfl
          · obtain ⟨j, hj, ej⟩ := inB_ix (by omega) hz
            exact absurd ej.symm (nI_nm1 (by omega))
        rw [z] at h3 ⊢
        rw [if_pos rfl] at h3
        refine wp_e (within_e _ _ _ h) ?_
        rw [nin, if_pos (by rfl), nI_1]
        exact fuo_l w x rc hU hu hs hY q f (i + 1) (by omega) (by omega) h3
      · rw [z, if_neg (nI_nm1 (by omega)), show toN (nI b) = b by unfold toN nI; simp; omega] at h3
        rw [z]
        refine wp_e (within_e _ _ _ h) ?_
        rw [inB_of hb (by omega), if_neg (by decide)]
        refine wp_gA (k := 13) x.1.1 rfl (wp_ldI hU rfl (by omega) (by omega) ?_)
        rw [hu b hb]
        by_cases fl1 : failM σ b t mode = -1
        · rw [if_pos fl1] at h3
          rw [if_pos fl1, nI_1]
          exact fuo_l w x rc hU hu hs hY q f (i + 1) (by omega) (by omega) h3
        · rw [if_neg fl1] at h3
          rw [if_neg fl1]
          refine wp_gA (k := 13) x.1.1 rfl (wp_ldI hU rfl (by omega) (by omega) ?_)
          rw [hu b hb, h3]
          exact wp_rn q
theorem why_l {M s t : Nat} {σ : MS} {mode : Int32} {rd : Nat → Nat} (w : WF σ) (ht : t < ntd σ) (hs : s ≤ 9) (hr : ∀ j, j < s → rd j < nrd σ) {Q : Int32 → MS → Prop} (q : ∀ τ, SmE σ τ → Q (wyA σ t mode rd s 0) τ) :
    ∀ (f i : Nat) (τ : MS), i ≤ s → s < i + f → SmE σ τ → (∀ j, j < s → τ.a 36 j = nI (rd j)) → wyA σ t mode rd (s - i) i = wyA σ t mode rd s 0 → RM M (fX11_why_82 f M (nI t) mode (nI s) (nI i)) τ Q
  | 0, i, τ, h1, h2, sm, ha, h3 => by omega
  | f + 1, i, τ, h1, h2, sm, ha, h3 => by
    have b6 := w.1.2
    have r24 := w.2.2.1.2
    show RM M (bX11_why_82 (fX11_why_82 f) M (nI t) mode (nI s) (nI i)) τ Q
    unfold bX11_why_82
    by_cases c : s ≤ i
    · rw [if_pos (nI_le c (by omega))]
      rw [show s - i = 0 by omega, wyA] at h3
      have := q τ sm
      rw [← h3] at this
      exact rm_rn this
    · rw [if_neg (nI_ge (by omega) (by omega))]
      have hi : i < s := by omega
      have y2 := hr i hi
      rw [show s - i = (s - (i + 1)) + 1 by omega, wyA] at h3
      refine rm_gA (rm_gA (rm_ldI i rfl (by show _ < 12; omega) ?_))
      rw [ha i hi]
      refine rm_ldI (rd i) rfl (by show _ < 24; omega) ?_
      rw [sm.2.1 32 (rd i) (by omega) (by omega) (by omega) (by omega) (by omega)]
      obtain ⟨_, _, _, _, _, _, _, _, _, _, _, ov⟩ := w.2.2.2.2.2.2.2.2 (rd i) y2
      rcases ov with z | ⟨b, hb, z⟩
      · rw [z] at h3 ⊢
        rw [if_pos rfl] at h3
        rw [if_neg (by decide)]
        unfold bX11_why_120
        rw [if_pos (by decide), nI_1]
        exact why_l w ht hs hr q f (i + 1) τ (by omega) (by omega) sm ha h3
      · rw [z, if_neg (nI_nm1 (by omega)), show toN (nI b) = b by unfold toN nI; simp; omega] at h3
        rw [z, if_pos (nI_pos' (by omega))]
        have w' := sm.wf w
        obtain ⟨n1, n2, n3⟩ := sm.nb
        have hb' : b < nbd τ := by omega
        refine rm_bd (rm_vc (failing_m (w'.wb hb').2 (w'.tr (t := t) (by omega)).2.2.2.1 w'.wu (w'.wc hb') (fun bs => ?_)))
        rw [sm.fail]
        have sm2 := sm.tr (stB_Sm τ bs)
        unfold bX11_why_120
        rcases fail_all (τ := σ) (b := b) (t := t) (mode := mode) (w.wb hb).1.2.2.2.2.2.2.1 with ⟨e, _⟩ | ⟨e1, e2, _⟩
        · rw [if_pos e] at h3
          rw [e, if_pos (by decide), nI_1]
          exact why_l w ht hs hr q f (i + 1) _ (by omega) (by omega) sm2 ha h3
        · rw [if_neg e2] at h3
          rw [if_neg (show ¬ failM σ b t mode < 0 from fun y => absurd e1 (Int32.not_le.mpr y)), h3]
          exact rm_rn (q _ sm2)
theorem why_s (B : Nat) (v1 v2 v3 v4 : Int32) : StC B (pX10_why B v1 v2 v3 v4) (pX11_why (B + 42) v1 v2 v3 v4) := by
  refine stp_bt (fun h g σ x w => ?_)
  have rf := FrC.rf B h
  unfold pX10_why pX11_why
  refine bt_tr x w (bt_rn x rf) (fun t ht e1 => ?_)
  subst e1
  refine bt_tw (bt_rn x rf) (fun u hu e3 => ?_)
  subst e3
  refine bt_tw (bt_rn x rf) (fun e e10 e4 => ?_)
  subst e4
  refine bt_md (bt_rn x rf) (fun _ => ?_)
  by_cases eq : nI u = nI e
  · rw [if_pos eq, if_pos eq]
    exact bt_rn x rf
  · rw [if_neg eq, if_neg eq]
    obtain ⟨lb, fa, st, fx⟩ := FX.ex w.rg.1 (opX σ t v2 false) e10
    obtain ⟨lb', fa', st', fx'⟩ := FX.ex w.rg.1 (opX σ t v2 true) e10
    have r24 := w.2.2.1.2
    refine ⟨if lb u = true then -1 else if lb' u = true then wyA σ t v2 (rdN (nrd σ) (rdF σ) (rdT σ) (rdM σ) (opX σ t v2 true) lb' fa' st' u) (st' u) 0 else -1, ?_, ?_⟩
    · refine wp_bd (wp_vc x.1.1 (cru_w x w rf ht (fun h2 wc wm C K Y U x2 f2 rc2 cu2 hU2 hu2 => ?_)))
      refine wp_gA (k := 5) x2.1.1 rfl (wp_bd (wp_vc rc2.1.1 (search_w w e10 rc2 (fun r hr => cu2.op w hr) fx hu (fun h3 wc3 wm3 K3 Y3 rc3 fr3 hz => ?_))))
      have x3 := x2.rc w rc3 (fr3.mono (fun y hy => by omega))
      have f3 := f2.tr fr3 (fun a ha => by omega)
      cases lu : lb u
      · rw [if_pos (show bI false = 0 from rfl), if_neg (show ¬ false = true by decide)]
        refine wp_gA (k := 5) x3.1.1 rfl (wp_bd (wp_vc rc3.1.1 (openAll_w w rc3 (fun h4 C4 rc4 fr4 hC4 => ?_))))
        have x4 := x3.rc w rc4 (fr4.mono (fun y hy => by omega))
        have f4 := f3.tr fr4 (fun a ha => by omega)
        refine wp_gA (k := 5) x4.1.1 rfl (wp_bd (wp_vc rc4.1.1 (search_w (op := opX σ t v2 true) w e10 rc4 (fun r hr => hC4 r hr) fx' hu (fun h5 wc5 wm5 K5 Y5 rc5 fr5 hz5 => ?_))))
        have x5 := x4.rc w rc5 (fr5.mono (fun y hy => by omega))
        have f5 := f4.tr fr5 (fun a ha => by omega)
        cases lu' : lb' u
        · rw [if_pos (show bI false = 0 from rfl), if_neg (show ¬ false = true by decide)]
          exact wp_rn ⟨rfl, x5, f5⟩
        · rw [if_neg (show ¬ bI true = 0 by decide), if_pos rfl]
          obtain ⟨z1, z2, z3⟩ := hz5 lu'
          subst z1 z2
          have s9 := fx'.le w.rg.1 hu lu'
          have hU5 := fr5.at (fr4.at (fr3.at hU2 (by omega)) (by omega)) (by omega)
          refine wp_bd (wp_vc x5.1.1 (fuo_l w x5 rc5 hU5 hu2 s9.1 (fun j hj => ⟨z3 j hj, rdN_lt w.rg.1 fx' hu lu' hj⟩) ?_ FU 0 (by omega) (by unfold FU; omega) rfl))
          exact wp_rn ⟨rfl, x5, f5⟩
      · rw [if_neg (show ¬ bI true = 0 by decide), if_pos rfl]
        exact wp_rn ⟨rfl, x3, f3⟩
    · refine rm_bd (rm_vc (open_m (all := false) w ht (SmE.rf σ) (fun τ sm rd => ?_)))
      refine rm_bd (rm_vc (layRoute_m w.rg.1 e10 fx hu rd sm (fun τ2 hd2 hl2 sm2 hj => ?_)))
      cases lu : lb u
      · rw [if_neg (show ¬ false = true by decide), if_pos (by decide), if_neg (show ¬ false = true by decide)]
        refine rm_bd (rm_vc (open_m (all := true) w ht sm2 (fun τ3 sm3 rd3 => ?_)))
        refine rm_bd (rm_vc (layRoute_m w.rg.1 e10 fx' hu rd3 sm3 (fun τ4 hd4 hl4 sm4 hj4 => ?_)))
        cases lu' : lb' u
        · rw [if_neg (show ¬ false = true by decide), if_neg (show ¬ false = true by decide)]
          obtain ⟨F, hF⟩ : ∃ F, FU = F + 1 := ⟨999999999, rfl⟩
          rw [hF]
          show RM _ (bX11_why_82 (fX11_why_82 F) (B + 42) (nI t) v2 (-1) 0) τ4 _
          unfold bX11_why_82
          rw [if_pos (by decide)]
          exact rm_rn ⟨rfl, sm4⟩
        · rw [if_pos rfl, if_pos rfl]
          have s9 := fx'.le w.rg.1 hu lu'
          exact why_l w ht s9.1 (fun j hj => rdN_lt w.rg.1 fx' hu lu' hj) (fun τ5 sm5 => ⟨rfl, sm5⟩) FU 0 τ4 (by omega) (by unfold FU; omega) sm4 (hj4 lu') rfl
      · have s9 := fx.le w.rg.1 hu lu
        rw [if_pos rfl, if_neg (nI_pos (by omega)), if_pos rfl]
        exact rm_rn ⟨rfl, sm2⟩
