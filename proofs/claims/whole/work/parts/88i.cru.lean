/-! The class: roads closed over bridges with a check unmet; what a way tells. -/
theorem inB_d {j n : Nat} (hj : j < 2 ^ 30) (hn : n < 2 ^ 30) : inB (nI j) 0 (nI n - 1) = decide (j < n) := by
  by_cases c : j < n
  · rw [inB_of c hn, decide_eq_true c]
  · rw [decide_eq_false c]
    cases hz : inB (nI j) 0 (nI n - 1)
    · rfl
    · obtain ⟨i, hi, ei⟩ := inB_ix hn hz
      have := (nI_eq (by omega) (by omega)).mp ei
      omega
section cru
variable {B : Nat} {g : Gh} {σ : MS} {wc wm : Int32} {C K Y : Nat → Int32} {t : Nat} {mode : Int32}
theorem wayRoad_e {h : Hp} {s j : Nat} (x : RC h B σ (nI s) wm C K Y) (hs : s ≤ 10) (hj : j < 2 ^ 30) : pX5_wayRoad (B + 3) (nI j) h = some (if j < s then Y j else -1, h) := by
  unfold pX5_wayRoad
  rw [bd_e (gI_e (k := 8) x.1.1 rfl), bd_e (within_e _ _ _ h), inB_d hj (by omega)]
  by_cases c : j < s
  · rw [decide_eq_true c, if_neg (by decide), if_pos c, bd_e (gA_e (k := 7) x.1.1 rfl), bd_e (ldI_e x.2.2.2 (by rw [arI_len]; omega) (by rw [arI_len]; omega)), arI_get _ (by omega)]
    rfl
  · rw [decide_eq_false c, if_pos (by rfl), if_neg c]
    rfl
theorem bridgeOf_e {h : Hp} {r : Nat} (w : WF σ) (x : RC h B σ wc wm C K Y) (hr : r < nrd σ) : pX5_bridgeOf (B + 3) (nI r) h = some (σ.a 32 r, h) := by
  have r24 := w.2.2.1.2
  unfold pX5_bridgeOf
  rw [bd_e (gI_e (k := 5) x.1.1 rfl), bd_e (within_e _ _ _ h), inB_d (by omega) (by omega), decide_eq_true hr, if_neg (by decide), bd_e (gA_e (k := 3) x.1.1 rfl), bd_e (ldI_e x.1.2.2.2.2 (by rw [arI_len]; omega) (by rw [arI_len]; omega)), arI_get _ (by omega)]
  rfl
theorem IX.u41 {h : Hp} (w : WF σ) (x : IX h B g σ) (U : Nat → Int32) : IX (up h (B + 41) (ai 0 (arI 6 U))) B g σ := by
  have F : Fr (fun y => y = B + 41) h (up h (B + 41) (ai 0 (arI 6 U))) := (Fr.rf _ h).put _ rfl
  exact ⟨x.1.fr w F (fun a ha => by omega), x.2.u11 F (fun a ha => ha) ⟨U, up_s _ _ _⟩⟩
/-- closed over the first b bridges -/
def CU (σ : MS) (t : Nat) (mode : Int32) (b : Nat) (C : Nat → Int32) : Prop := ∀ r, r < nrd σ → (∀ b', b' < b → σ.a 32 r = nI b' → C r = if failM σ b' t mode = -1 then 0 else 1) ∧ ((∀ b', b' < b → σ.a 32 r ≠ nI b') → C r = 0)
theorem CU.op (w : WF σ) (c : CU σ t mode (nbd σ) C) {r : Nat} (hr : r < nrd σ) : C r = bI (!opX σ t mode false r) := by
  have b6 := w.1.2
  obtain ⟨_, _, _, _, _, _, _, _, _, _, _, ov⟩ := w.2.2.2.2.2.2.2.2 r hr
  rcases ov with z | ⟨b, hb, z⟩
  · rw [(c r hr).2 (fun b' hb' e => nI_nm1 (t := b') (by omega) (e.symm.trans z))]
    unfold opX opN
    rw [z]
    rfl
  · have eo : opX σ t mode false r = decide (¬ 0 ≤ failM σ b t mode) := by
      unfold opX opN
      rw [z, show toN (nI b) = b by unfold toN nI; simp; omega, decide_eq_false (show ¬ nI b < 0 from nI_nlt (b := 0) (by omega) (by omega))]
      rfl
    rw [(c r hr).1 b hb z, eo]
    rcases fail_all (τ := σ) (b := b) (t := t) (mode := mode) (w.wb hb).1.2.2.2.2.2.2.1 with ⟨e, _⟩ | ⟨e1, e2, _⟩
    · rw [e, if_pos rfl]; rfl
    · rw [if_neg e2, decide_eq_false (fun q => q e1)]; rfl
theorem cru_l {h0 : Hp} (w : WF σ) (ht : t < ntd σ) {Q : Unit → Hp → Prop} (q : ∀ h2 C U, IX h2 B g σ → FrC B h0 h2 → RC h2 B σ wc wm C K Y → CU σ t mode (nbd σ) C → h2.1 (B + 41) = some (ai 0 (arI 6 U)) → (∀ b, b < nbd σ → U b = failM σ b t mode) → Q () h2) :
    ∀ (f b : Nat) (h : Hp) (C U : Nat → Int32), b ≤ nbd σ → nbd σ < b + f → IX h B g σ → FrC B h0 h → RC h B σ wc wm C K Y → CU σ t mode b C → h.1 (B + 41) = some (ai 0 (arI 6 U)) → (∀ b', b' < b → U b' = failM σ b' t mode) → WP (fX10_closeRoadsUnmet_9 f B (some (gT g t)) mode (nI b)) h Q
  | 0, b, h, C, U, h1, h2, x, f0, rc, cu, hU, hu => by omega
  | f + 1, b, h, C, U, h1, h2, x, f0, rc, cu, hU, hu => by
    have b6 := w.1.2
    have x1 := x.1.1
    show WP (bX10_closeRoadsUnmet_9 (fX10_closeRoadsUnmet_9 f) B (some (gT g t)) mode (nI b)) h Q
    unfold bX10_closeRoadsUnmet_9
    refine wp_gI (k := 1) x1 rfl ?_
    by_cases c : nbd σ ≤ b
    · have : b = nbd σ := by omega
      subst this
      rw [if_pos (nI_le c (by omega))]
      exact wp_rn (q h C U x f0 rc cu hU hu)
    · rw [if_neg (nI_ge (by omega) (by omega))]
      have hb : b < nbd σ := by omega
      refine wp_gA (k := 13) x1 rfl (wp_stI hU rfl (by omega) (by omega) ?_)
      have y1 := x.u41 w (fun y => if y = b then -1 else U y)
      have F1 : Fr (fun y => y = B + 41) h (up h (B + 41) (ai 0 (arI 6 (fun y => if y = b then -1 else U y)))) := (Fr.rf _ h).put _ rfl
      have e1 := up_s h (B + 41) (ai 0 (arI 6 (fun y => if y = b then -1 else U y)))
      generalize up h (B + 41) (ai 0 (arI 6 (fun y => if y = b then -1 else U y))) = k1 at y1 F1 e1 ⊢
      have g1 := f0.tr F1 (fun a ha => by omega)
      have rc1 := rc.fr F1 (fun a ha => by omega)
      rcases brAt y1 w (nI b) with ⟨hi, _⟩ | ⟨hi, b2, hb2, eb, e⟩
      · rw [w.1.1, inB_of hb (by omega)] at hi
        cases hi
      · have := (nI_eq (by omega) (by omega)).mp eb
        subst this
        refine wp_e (by rw [vc_e y1.1.1]; exact e) ?_
        rw [if_neg (show ¬ (some (gB g b + 2) = none) by simp)]
        obtain ⟨us, hus, eus⟩ := usAt y1 w
        obtain ⟨t8, wt, hn, wT, ea⟩ := w.tr ht
        refine wp_gA (k := 10) y1.1.1 rfl (wp_gI (k := 4) y1.1.1 rfl ?_)
        refine wp_e (by rw [vc_e y1.1.1]; exact eus) ?_
        obtain ⟨_, _, _, _, _, i5, _⟩ := y1.2.2.2.2.2.1
        refine wp_bd (wp_vc i5 (prepF_w y1 w g1 hb hus (fun h2 fe fw ft x2 f2 p2 r2 => ?_)))
        refine wp_gA (k := 13) x2.1.1 rfl (wp_gA (k := 10) x2.1.1 rfl ?_)
        obtain ⟨W, gn, t1, hW, hg⟩ := trV (x2.1.2.2.2.2.2.1 t ht) wt
        have v := w.tv ht hW hg
        have o := (x2.1.2.2.2.2.2.2.2.2.2 t ht).1
        refine wp_bd (wp_vc p2.1 (first_w (ι := σ.1) x2 w f2 rfl hb p2 v t1 (by omega) (fun h3 _ _ _ _ x3 f3 p3 r3 => ?_)))
        have rc3 := (rc1.fr r2 (fun a ha => by omega)).fr r3 (fun a ha => by omega)
        have e3 := r3.at (r2.at e1 (by omega)) (by omega)
        refine wp_stI e3 rfl (by omega) (by omega) ?_
        have hu4 : ∀ b', b' < b + 1 → (fun y => if y = b then failM (σ.1, σ.2) b t mode else (fun y => if y = b then -1 else U y) y) b' = failM σ b' t mode := by
          intro b' hb'
          by_cases z : b' = b
          · subst z
            exact if_pos rfl
          · simp only [if_neg z]
            exact hu b' (by omega)
        generalize (fun y => if y = b then failM (σ.1, σ.2) b t mode else (fun y => if y = b then -1 else U y) y) = U4 at hu4 ⊢
        have x4 := x3.u41 w U4
        have F4 : Fr (fun y => y = B + 41) h3 (up h3 (B + 41) (ai 0 (arI 6 U4))) := (Fr.rf _ h3).put _ rfl
        have e4 := up_s h3 (B + 41) (ai 0 (arI 6 U4))
        generalize up h3 (B + 41) (ai 0 (arI 6 U4)) = k4 at x4 F4 e4 ⊢
        have f4 := f3.tr F4 (fun a ha => by omega)
        have rc4 := rc3.fr F4 (fun a ha => by omega)
        unfold bX10_closeRoadsUnmet_70
        refine wp_gA (k := 13) x4.1.1 rfl (wp_ldI e4 rfl (by omega) (by omega) ?_)
        rw [hu4 b (by omega)]
        by_cases z : failM σ b t mode = -1
        · rw [if_pos z, nI_1]
          refine cru_l w ht q f (b + 1) k4 C U4 (by omega) (by omega) x4 f4 rc4 (fun r hr => ⟨fun b' hb' e' => ?_, fun e' => ?_⟩) e4 hu4
          · by_cases y : b' = b
            · subst y
              rw [if_pos z]
              refine (cu r hr).2 (fun b3 hb3 e3 => ?_)
              have := (nI_eq (by omega) (by omega)).mp (e3.symm.trans e')
              omega
            · exact (cu r hr).1 b' (by omega) e'
          · exact (cu r hr).2 (fun b3 hb3 => e' b3 (by omega))
        · rw [if_neg z]
          refine wp_gA (k := 5) x4.1.1 rfl (wp_bd (wp_vc rc4.1.1 (closeOver_w w rc4 (fun h5 C5 rc5 fr5 hC5 => ?_))))
          rw [nI_1]
          refine cru_l w ht q f (b + 1) h5 C5 U4 (by omega) (by omega) (x4.rc w rc5 (fr5.mono (fun y hy => by omega))) (f4.tr fr5 (fun a ha => by omega)) rc5 (fun r hr => ⟨fun b' hb' e' => ?_, fun e' => ?_⟩) (fr5.at e4 (by omega)) hu4
          · rw [hC5 r hr]
            by_cases y : b' = b
            · subst y
              rw [if_pos e', if_neg z]
            · rw [if_neg (fun q => y ((nI_eq (by omega) (by omega)).mp (e'.symm.trans q)))]
              exact (cu r hr).1 b' (by omega) e'
          · rw [hC5 r hr, if_neg (e' b (by omega))]
            exact (cu r hr).2 (fun b3 hb3 => e' b3 (by omega))
theorem cru_w {h0 h : Hp} (x : IX h B g σ) (w : WF σ) (f0 : FrC B h0 h) (ht : t < ntd σ) {Q : Unit → Hp → Prop} (q : ∀ h2 wc wm C K Y U, IX h2 B g σ → FrC B h0 h2 → RC h2 B σ wc wm C K Y → CU σ t mode (nbd σ) C → h2.1 (B + 41) = some (ai 0 (arI 6 U)) → (∀ b, b < nbd σ → U b = failM σ b t mode) → Q () h2) : WP (pX10_closeRoadsUnmet B (some (gT g t)) mode) h Q := by
  unfold pX10_closeRoadsUnmet
  obtain ⟨wc, wm, C, K, Y, rc⟩ := x.rc0
  refine wp_gA (k := 5) x.1.1 rfl (wp_bd (wp_vc rc.1.1 (openAll_w w rc (fun h2 C2 rc2 fr2 hC2 => ?_))))
  have x2 := x.rc w rc2 (fr2.mono (fun y hy => by omega))
  obtain ⟨U, hU⟩ := x2.2.2.2.2.2.2.2.2.2.2.2.1
  exact cru_l w ht (fun h3 C3 U3 a1 a2 a3 a4 a5 a6 => q h3 wc wm C3 K Y U3 a1 a2 a3 a4 a5 a6) FU 0 h2 C2 U (by omega) (by have := w.1.2; unfold FU; omega) x2 (f0.tr fr2 (fun a ha => by omega)) rc2 (fun r hr => ⟨fun b' hb' => by omega, fun _ => hC2 r hr⟩) hU (fun b' hb' => by omega)
end cru
theorem bt_tw {R : Type} {B : Nat} {h0 h : Hp} {g : Gh} {σ : MS} {v : Int32} {a b a' b' : Mo R} (k0 : Bt B h0 h g σ a a') (k1 : ∀ u, u < 10 → v = nI u → Bt B h0 h g σ b b') : Bt B h0 h g σ (bd (pX10_isTown v) fun x => if x = 0 then a else b) (bd (pX11_isTown v) fun x => if x = 0 then a' else b') := by
  refine bt_eL (isTown_e v h) (bt_eR (ro_of (isTown_m v)) ?_)
  cases hi : inB v 0 9
  · rw [if_pos (show bI false = 0 from rfl), if_pos (show bI false = 0 from rfl)]; exact k0
  · rw [if_neg (show ¬ bI true = 0 by decide), if_neg (show ¬ bI true = 0 by decide)]
    obtain ⟨u, hu, e⟩ := inB_le (n := 9) (by omega) hi
    exact k1 u (by omega) e
theorem bt_tr {R : Type} {B : Nat} {h : Hp} {g : Gh} {σ : MS} (x : IX h B g σ) (w : WF σ) {v1 : Int32} {U U' : Mo R} {K : Option Nat → Mo R} {K' : Mo R} (hU : Bt B h h g σ U U') (hk : ∀ t, t < ntd σ → v1 = nI t → Bt B h h g σ (K (some (gT g t))) K') : Bt B h h g σ (bd (vc 10 (some B) (fun o => pX10_trainAt o v1)) fun x2 => if x2 = none then U else K x2) (bd (vc 11 (some (B + 42)) (fun o => pX11_noTrain o v1)) fun x2 => if x2 = 0 then K' else U') := by
  have x1 := x.1.1
  rcases trAt x w v1 with ⟨hi, e⟩ | ⟨hi, t, ht, rfl, e⟩
  · refine bt_eL (by rw [vc_e x1]; exact e) (bt_eR (ro_vc (noTrain_r v1)) ?_)
    rw [if_pos (show (none : Option Nat) = none from rfl), hi, if_neg (show ¬ bI (!false) = 0 by decide)]
    exact hU
  · refine bt_eL (by rw [vc_e x1]; exact e) (bt_eR (ro_vc (noTrain_r _)) ?_)
    rw [if_neg (show ¬ (some (gT g t) = none) by simp), hi, if_pos (show bI (!true) = 0 from rfl)]
    exact hk t ht rfl
theorem rdN_lt {n e : Nat} {op : Nat → Bool} {f t m : Nat → Nat} {lb : Nat → Bool} {fa st : Nat → Nat} (g : RdG n f t m) (x : FX n op f t m e lb fa st) {u j : Nat} (hu : u < 10) (lu : lb u = true) (hj : j < st u) : rdN n f t m op lb fa st u j < n := by
  obtain ⟨a1, a2, a3⟩ := wkN_p g x hu lu j (by omega)
  have ne : wkN n f t m op lb fa st u j ≠ e := by
    intro q
    rw [q, x.2.2.1] at a3
    omega
  exact (frN_p g x a1 ne a2).1
