/-! Inspector: firstUnmet, failsAsBefore, allMet. -/
theorem first_l {h0 hs : Hp} {B : Nat} {g : Gh} {σ : MS} {ι : Nat → Int32} {b t n tr : Nat} {mode r : Int32} {W : Nat → Int32} {gn : Nat → Nat} (w : WF σ) (h17 : ι 17 = σ.i 17) (hb : b < nbd σ) (v : TrV (ι, σ.2) t n W gn) (dt : B + 72 ≤ tr ∨ tr = B + 38) {Q : Int32 → Hp → Prop}
    (q : ∀ h2 fc fe fw ft, IX h2 B g σ → FrC B h0 h2 → PrI h2 B σ b mode fc fe fw ft → Fr (fun y => B + 26 ≤ y ∧ y < B + 33) hs h2 → Q (failM (ι, σ.2) b t mode) h2) : ∀ (f c : Nat) (h : Hp) (fc fe fw ft : Int32), c ≤ ncd σ b → ncd σ b < c + f → IX h B g σ → FrC B h0 h → PrI h B σ b mode fc fe fw ft → Trn h tr (tr + 1) (tr + 2) n r W (fun k => nI (gn k)) → Fr (fun y => B + 26 ≤ y ∧ y < B + 33) hs h → flM (ι, σ.2) b t mode (ncd σ b - c) c = failM (ι, σ.2) b t mode → WP (fX3_firstUnmet_2 f (B + 26) (some (gB g b + 2)) (some tr) (nI c)) h Q
  | 0, c, h, fc, fe, fw, ft, h1, h2, h3, h4, h5, h6, h7, h8 => by omega
  | f + 1, c, h, fc, fe, fw, ft, h1, h2, h3, h4, h5, h6, h7, h8 => by
    have wb := (w.wb hb).1
    have n5 := wb.2.2.2.2.2.2.1
    have y := h3.1.2.2.2.1 b hb
    show WP (bX3_firstUnmet_2 (fX3_firstUnmet_2 f) (B + 26) (some (gB g b + 2)) (some tr) (nI c)) h Q
    unfold bX3_firstUnmet_2
    refine wp_gI (k := 7) y.1 rfl ?_
    by_cases hc : ncd σ b ≤ c
    · rw [if_pos (nI_le hc (by omega))]
      rw [show ncd σ b - c = 0 by omega, flM] at h8
      have := q h fc fe fw ft h3 h4 h5 h7
      rw [← h8] at this
      exact wp_rn this
    · rw [if_neg (nI_ge (by omega) (by omega))]
      have hc' : c < ncd σ b := by omega
      have ck := checkAt_e y n5 (nI c)
      rw [inB_of hc' (by omega), if_pos rfl, show toN (nI c) = c by unfold toN nI; simp; omega] at ck
      refine wp_e (by rw [vc_e y.1]; exact ck) ?_
      rw [if_neg (show ¬ (some (gC g b c) = none) by simp)]
      rw [show ncd σ b - c = (ncd σ b - (c + 1)) + 1 by omega, flM] at h8
      refine wp_bd (wp_vc h5.1 (isMet_w h3 w h4 h17 hb hc' h5 v h6 dt (fun h9 fc9 fe9 fw9 ft9 x9 f9 p9 r9 => ?_)))
      by_cases mt : metM (ι, σ.2) b c t mode = true
      · rw [mt, if_neg (show ¬ bI true = 0 by decide), nI_1]
        rw [if_pos mt] at h8
        refine first_l w h17 hb v dt q f (c + 1) h9 fc9 fe9 fw9 ft9 (by omega) (by omega) x9 f9 p9 (h6.fr r9 ⟨by omega, by omega, by omega⟩) (h7.tr r9) h8
      · rw [Bool.eq_false_iff.mpr mt, if_pos (show bI false = 0 from rfl)]
        rw [if_neg mt] at h8
        have := q h9 fc9 fe9 fw9 ft9 x9 f9 p9 (h7.tr r9)
        rw [← h8] at this
        exact wp_rn this
theorem first_w {h0 h : Hp} {B : Nat} {g : Gh} {σ : MS} {ι : Nat → Int32} {b t n tr : Nat} {mode r fc fe fw ft : Int32} {W : Nat → Int32} {gn : Nat → Nat} (x : IX h B g σ) (w : WF σ) (f0 : FrC B h0 h) (h17 : ι 17 = σ.i 17) (hb : b < nbd σ) (p : PrI h B σ b mode fc fe fw ft) (v : TrV (ι, σ.2) t n W gn) (tn : Trn h tr (tr + 1) (tr + 2) n r W (fun k => nI (gn k))) (dt : B + 72 ≤ tr ∨ tr = B + 38) {Q : Int32 → Hp → Prop}
    (q : ∀ h2 fc fe fw ft, IX h2 B g σ → FrC B h0 h2 → PrI h2 B σ b mode fc fe fw ft → Fr (fun y => B + 26 ≤ y ∧ y < B + 33) h h2 → Q (failM (ι, σ.2) b t mode) h2) : WP (pX3_firstUnmet (B + 26) (some (gB g b + 2)) (some tr)) h Q :=
  first_l (hs := h) w h17 hb v dt q FU 0 h fc fe fw ft (by omega) (by have := (w.wb hb).1.2.2.2.2.2.2.1; unfold FU; omega) x f0 p tn (Fr.rf _ h) rfl
theorem flM_r (τ : MS) (b t : Nat) (mode : Int32) : ∀ k c, c + k ≤ 5 → flM τ b t mode k c = -1 ∧ (∀ i, c ≤ i → i < c + k → metM τ b i t mode = true) ∨ (∃ i, c ≤ i ∧ i < c + k ∧ flM τ b t mode k c = nI i ∧ metM τ b i t mode = false)
  | 0, c, _ => Or.inl ⟨rfl, fun i h1 h2 => by omega⟩
  | k + 1, c, h => by
    rw [flM]
    by_cases m : metM τ b c t mode = true
    · rw [if_pos m]
      rcases flM_r τ b t mode k (c + 1) (by omega) with ⟨e, z⟩ | ⟨i, i1, i2, e, z⟩
      · refine Or.inl ⟨e, fun i h1 h2 => ?_⟩
        by_cases q : i = c
        · subst q; exact m
        · exact z i (by omega) (by omega)
      · exact Or.inr ⟨i, by omega, by omega, e, z⟩
    · rw [if_neg m]
      exact Or.inr ⟨c, by omega, by omega, rfl, Bool.eq_false_iff.mpr m⟩
/-- none fails: all are met -/
theorem fail_all {τ : MS} {b t : Nat} {mode : Int32} (h5 : ncd τ b ≤ 5) : (failM τ b t mode = -1 ∧ ∀ c, c < ncd τ b → metM τ b c t mode = true) ∨ (0 ≤ failM τ b t mode ∧ failM τ b t mode ≠ -1 ∧ ∃ c, c < ncd τ b ∧ metM τ b c t mode = false) := by
  unfold failM
  rcases flM_r τ b t mode (ncd τ b) 0 (by omega) with ⟨e, z⟩ | ⟨i, i1, i2, e, z⟩
  · exact Or.inl ⟨e, fun c hc => z c (by omega) (by omega)⟩
  · rw [e]
    exact Or.inr ⟨nI_pos' (by omega), nI_nm1 (by omega), i, by omega, z⟩
/-! totals grow -/
theorem oth_b {σ : MS} (w : WF σ) {b c : Nat} (hb : b < nbd σ) (hc : c < ncd σ b) {mode en : Int32} (he : en = 0 ∨ en = 1) : ∃ o : Int, othM σ b c mode en = oL o ∧ o.natAbs ≤ 300 * (8 * (200 * 46656000000)) := by
  obtain ⟨z1, z2, z3⟩ := oth_e w hb hc (en := en) he
  by_cases m0 : mode = 0
  · subst m0
    rcases w.2.2.2.2.1 with q | ⟨u, u1, u2⟩
    · exact ⟨0, z2 q, by decide⟩
    · rw [z1 u u1 u2]
      obtain ⟨t8, wt, hn, wT, ea⟩ := w.tr u1
      have v := w.tv u1 (W := fun k => σ.a 14 (8 * u + k)) (gn := gnd σ u) (fun _ _ => rfl) (fun _ _ => rfl)
      have wb := (w.wb hb).1
      have hr := (wb.2.2.2.2.2.2.2 c hc).1
      obtain ⟨z, p, bq⟩ := w.bq hb
      have L6 := wb.2.1.2
      have le := gnd_le wt
      have vb : ∀ way j, j ≤ 2000 → ∃ e : Int, VM σ b (kdC σ b c) (atC σ b c) u way j = oL e ∧ e.natAbs ≤ 8 * (200 * 46656000000) := by
        intro way j hj
        have hw : ∀ k, k < nad σ u → (σ.a 14 (8 * u + k)).toInt64 = oL (σ.a 14 (8 * u + k)).toInt ∧ (σ.a 14 (8 * u + k)).toInt.natAbs ≤ 200 := by
          intro k hk
          obtain ⟨w', w1, _, w3⟩ := wt.2.2.1 k hk
          rw [w1, nI_toInt (by omega), nI_64 (by omega)]
          exact ⟨rfl, by omega⟩
        rw [v.eff (b := b) (kind := kdC σ b c) (x := atC σ b c) (lf := fun a => infM σ b (kdC σ b c) (atC σ b c) a (nsd σ b)) L6 (fun _ _ => rfl) way hj]
        rw [cS_z (w := fun k => (σ.a 14 (8 * u + k)).toInt) (f := fun a => ifI z p (spd σ b) (nsd σ b) (kdC σ b c) (atC σ b c) a) _ (fun i hi => (hw i hi).1) (fun a ha => (inf_z bq hr ha).1)]
        exact ⟨_, rfl, Nat.le_trans (cSI_b (X := 200) (Y := 46656000000) _ (fun i hi => (hw i hi).2) (fun a ha => (inf_z bq hr ha).2)) (Nat.mul_le_mul_right _ wt.2.1.2)⟩
      have tl : 0 < TM σ b u ∧ TM σ b u ≤ 341 := by unfold TM; rw [ea]; omega
      have key : ∀ s, exN (VM σ b (kdC σ b c) (atC σ b c) u) (TM σ b u) s → ∃ e : Int, s.1 = oL e ∧ e.natAbs ≤ 8 * (200 * 46656000000) := by
        intro s hs
        rcases hs with rfl | ⟨way, i, _, hi, rfl⟩
        · exact ⟨0, rfl, by decide⟩
        · exact vb way i (by omega)
      have em : ∃ e : Int, (EM σ b (kdC σ b c) (atC σ b c) u en).1 = oL e ∧ e.natAbs ≤ 8 * (200 * 46656000000) := by
        unfold EM
        split
        · exact key _ (cG_mem _ tl.1)
        · exact key _ (cL_mem _ tl.1)
      obtain ⟨e, e1, e2⟩ := em
      obtain ⟨s, l, q, r1, r2, r3, r4, r5, r6, r7, r8⟩ := w.2.2.2.2.2.2.1 b (by have := w.1.2; omega)
      have lq : (l - 1) * q ≤ 3 * 100 := Nat.mul_le_mul (by omega) r7
      rw [r3, r6, show (nI l - 1 : Int32) = nI (l - 1) from pk_sub (a := l) (b := 1) r4, pk_mul, nI_64 (by omega), e1, oL_mul]
      exact ⟨_, rfl, mulB (by omega) e2⟩
  · exact ⟨0, z3 mode m0, by decide⟩
theorem sh_b {σ : MS} (w : WF σ) {b : Nat} (hb : b < 6) (mode : Int32) : ∃ s : Nat, shI σ b mode = nI s ∧ 100 ≤ s ∧ s ≤ 160 := by
  obtain ⟨s, l, q, r1, r2, _⟩ := w.2.2.2.2.2.2.1 b hb
  unfold shI
  by_cases c : mode = 2
  · rw [if_pos c]; exact ⟨100, rfl, by omega, by omega⟩
  · rw [if_neg c, r1]
    exact ⟨100 + s, nI_add 100 s, by omega, by omega⟩
theorem tt_o {σ : MS} (w : WF σ) {b c : Nat} (hb : b < nbd σ) (hc : c < ncd σ b) {mode en : Int32} (he : en = 0 ∨ en = 1) : ∃ (o : Int) (s : Nat), 100 ≤ s ∧ s ≤ 160 ∧ o.natAbs ≤ 300 * (8 * (200 * 46656000000)) ∧ ∀ z : Int, z.natAbs ≤ 8 * (600 * 46656000000) → (ttC σ b c mode en (oL z)).toInt = (100 * z + o) * s ∧ ((100 * z + o) * s).natAbs < 2 ^ 63 := by
  obtain ⟨o, o1, o2⟩ := oth_b (mode := mode) w hb hc he
  obtain ⟨s, s1, s2, s3⟩ := sh_b w (b := b) (by have := w.1.2; omega) mode
  refine ⟨o, s, s2, s3, o2, fun z hz => ?_⟩
  have b1 := mulB (x := 100 * z + o) (y := (s : Int)) (X := 44789760000000000) (Y := 160) (by omega) (by omega)
  have lt : ((100 * z + o) * s).natAbs < 2 ^ 63 := by omega
  refine ⟨?_, lt⟩
  unfold ttC
  rw [o1, s1, nI_64 (by omega), show (100 : Int64) = oL 100 from rfl, oL_mul, oL_add, oL_mul, oL_toInt lt]
theorem al_mono {σ : MS} (w : WF σ) {b c : Nat} (hb : b < nbd σ) (hc : c < ncd σ b) {mode : Int32} {z z' : Int} (hz : z.natAbs ≤ 8 * (600 * 46656000000)) (hz' : z'.natAbs ≤ 8 * (600 * 46656000000)) (h : z ≤ z') : (alC σ b c 0 (ttC σ b c mode 0 (oL z')) = true → alC σ b c 0 (ttC σ b c mode 0 (oL z)) = true) ∧ (alC σ b c 1 (ttC σ b c mode 1 (oL z)) = true → alC σ b c 1 (ttC σ b c mode 1 (oL z')) = true) := by
  have mono : ∀ (o : Int) (s : Nat), (100 * z + o) * (s : Int) ≤ (100 * z' + o) * (s : Int) := fun o s => Int.mul_le_mul_of_nonneg_right (by omega) (by omega)
  constructor
  · obtain ⟨o, s, s1, s2, o1, f⟩ := tt_o (mode := mode) (en := 0) w hb hc (Or.inl rfl)
    have m := mono o s
    have f1 := (f z hz).1
    have f2 := (f z' hz').1
    unfold alC
    rw [if_pos rfl, if_pos rfl]
    intro q
    simp only [Bool.not_eq_true', decide_eq_false_iff_not] at q ⊢
    intro q2
    apply q
    rw [Int64.lt_iff_toInt_lt] at q2 ⊢
    omega
  · obtain ⟨o, s, s1, s2, o1, f⟩ := tt_o (mode := mode) (en := 1) w hb hc (Or.inr rfl)
    have m := mono o s
    have f1 := (f z hz).1
    have f2 := (f z' hz').1
    unfold alC
    rw [if_neg (by decide), if_neg (by decide)]
    intro q
    simp only [Bool.not_eq_true', decide_eq_false_iff_not] at q ⊢
    intro q2
    apply q
    rw [Int64.lt_iff_toInt_lt] at q2 ⊢
    omega
theorem em_b {σ : MS} {ι : Nat → Int32} (w : WF σ) {b t n x : Nat} {kind : Int32} {W : Nat → Int32} {gn : Nat → Nat} (hb : b < nbd σ) (hr : RsB σ b kind x) (v : TrV (ι, σ.2) t n W gn) (en : Int32) : ∃ e : Int, (EM (ι, σ.2) b kind x t en).1 = oL e ∧ e.natAbs ≤ 8 * (600 * 46656000000) := by
  have tl := tm_le w hb v
  have key : ∀ s, exN (VM (ι, σ.2) b kind x t) (TM (ι, σ.2) b t) s → ∃ e : Int, s.1 = oL e ∧ e.natAbs ≤ 8 * (600 * 46656000000) := by
    intro s hs
    rcases hs with rfl | ⟨way, i, _, hi, rfl⟩
    · exact ⟨0, rfl, by decide⟩
    · exact vm_b w hb hr v way (by omega)
  unfold EM
  split
  · exact key _ (cG_mem _ tl.2)
  · exact key _ (cL_mem _ tl.2)
theorem oL_leZ {a b : Int} (ha : a.natAbs < 2 ^ 63) (hb : b.natAbs < 2 ^ 63) : oL a ≤ oL b ↔ a ≤ b := by rw [Int64.le_iff_toInt_le, oL_toInt ha, oL_toInt hb]
/-- one effect that is not let through: the check is not met -/
theorem fab_met {σ : MS} {ι : Nat → Int32} (w : WF σ) (h17 : ι 17 = σ.i 17) {b c t n j : Nat} {mode en way : Int32} {W : Nat → Int32} {gn : Nat → Nat} (hb : b < nbd σ) (hc : c < ncd σ b) (v : TrV (ι, σ.2) t n W gn) (he : en = 0 ∨ en = 1) (hw : way = 0 ∨ way = 1) (hj : j ≤ 2000) (h : alC σ b c en (ttC σ b c mode en (VM (ι, σ.2) b (kdC σ b c) (atC σ b c) t way j)) = false) : metM (ι, σ.2) b c t mode = false := by
  have wb := (w.wb hb).1
  have hr := (wb.2.2.2.2.2.2.2 c hc).1
  have tl := tm_le w hb v
  obtain ⟨e, e1, e2⟩ := vm_b (kind := kdC σ b c) (x := atC σ b c) w hb hr v way hj
  -- within the least and the greatest
  have zero : TM (ι, σ.2) b t ≤ j → VM (ι, σ.2) b (kdC σ b c) (atC σ b c) t way j = 0 := by
    intro hT
    rw [v.eff (b := b) (kind := kdC σ b c) (x := atC σ b c) (lf := fun a => infM (ι, σ.2) b (kdC σ b c) (atC σ b c) a (nsd (ι, σ.2) b)) wb.2.1.2 (fun _ _ => rfl) way hj]
    refine cS_0 ?_ n (Nat.le_refl n)
    obtain ⟨_, z2, _⟩ := v.n
    unfold TM at hT
    rw [z2] at hT
    omega
  have G := cG_ge (VM (ι, σ.2) b (kdC σ b c) (atC σ b c) t) (TM (ι, σ.2) b t)
  have L := cL_le (VM (ι, σ.2) b (kdC σ b c) (atC σ b c) t) (TM (ι, σ.2) b t)
  have leG : VM (ι, σ.2) b (kdC σ b c) (atC σ b c) t way j ≤ (EM (ι, σ.2) b (kdC σ b c) (atC σ b c) t 0).1 := by
    rw [EM_0]
    by_cases hT : j < TM (ι, σ.2) b t
    · exact G.2 way j hw hT
    · rw [zero (by omega)]; exact G.1
  have leL : (EM (ι, σ.2) b (kdC σ b c) (atC σ b c) t 1).1 ≤ VM (ι, σ.2) b (kdC σ b c) (atC σ b c) t way j := by
    rw [EM_1]
    by_cases hT : j < TM (ι, σ.2) b t
    · exact L.2 way j hw hT
    · rw [zero (by omega)]; exact L.1
  obtain ⟨g, g1, g2⟩ := em_b (kind := kdC σ b c) (x := atC σ b c) w hb hr v 0
  obtain ⟨l, l1, l2⟩ := em_b (kind := kdC σ b c) (x := atC σ b c) w hb hr v 1
  rw [e1, g1, oL_leZ (by omega) (by omega)] at leG
  rw [e1, l1, oL_leZ (by omega) (by omega)] at leL
  rw [met_e w h17 hb hc v, g1, l1]
  rw [e1] at h
  rcases he with rfl | rfl
  · have := (al_mono (mode := mode) w hb hc e2 g2 leG).1
    cases q : alC σ b c 0 (ttC σ b c mode 0 (oL g))
    · rfl
    · rw [this q] at h; exact absurd h (by decide)
  · have := (al_mono (mode := mode) w hb hc l2 e2 leL).2
    cases q : alC σ b c 1 (ttC σ b c mode 1 (oL l))
    · rw [Bool.and_false]
    · rw [this q] at h; exact absurd h (by decide)
theorem allMet_w {h0 h : Hp} {B : Nat} {g : Gh} {σ : MS} {ι : Nat → Int32} {b t n tr : Nat} {mode r fc fe fw ft : Int32} {W : Nat → Int32} {gn : Nat → Nat} (x : IX h B g σ) (w : WF σ) (f0 : FrC B h0 h) (h17 : ι 17 = σ.i 17) (hb : b < nbd σ) (p : PrI h B σ b mode fc fe fw ft) (v : TrV (ι, σ.2) t n W gn) (tn : Trn h tr (tr + 1) (tr + 2) n r W (fun k => nI (gn k))) (dt : B + 72 ≤ tr ∨ tr = B + 38) {Q : Int32 → Hp → Prop}
    (q : ∀ h2 fc fe fw ft, IX h2 B g σ → FrC B h0 h2 → PrI h2 B σ b mode fc fe fw ft → Fr (fun y => B + 26 ≤ y ∧ y < B + 33) h h2 → Q (bI (!decide (0 ≤ failM (ι, σ.2) b t mode))) h2) : WP (pX3_allMet (B + 26) (some (gB g b + 2)) (some tr)) h Q := by
  have wb := (w.wb hb).1
  have n5 := wb.2.2.2.2.2.2.1
  have y := x.1.2.2.2.1 b hb
  have ff := fail_all (τ := (ι, σ.2)) (b := b) (t := t) (mode := mode) n5
  unfold pX3_allMet
  -- the look at what failed before
  have bef : ∃ c : Bool, pX3_failsAsBefore (B + 26) (some (gB g b + 2)) (some tr) h = some (bI c, h) ∧ (c = true → 0 ≤ failM (ι, σ.2) b t mode) := by
    unfold pX3_failsAsBefore
    rw [bd_e (gI_e (k := 4) p.1 rfl), bd_e (by rw [vc_e y.1]; exact checkAt_e y n5 fc)]
    cases hi : inB fc 0 (nI (ncd σ b) - 1)
    · exact ⟨false, by simp [rnZ, bI], fun q => by simp at q⟩
    · obtain ⟨c, hc, rfl⟩ := inB_ix (by omega) hi
      rw [if_pos rfl, if_neg (by simp), bd_e (gI_e (k := 6) p.1 rfl), show toN (nI c) = c by unfold toN nI; simp; omega]
      rcases p.2.1.2 with z | ⟨zw, j, hj, z⟩
      · rw [z, if_pos rfl]
        exact ⟨false, rfl, fun q => by simp at q⟩
      · rw [if_neg (by rcases zw with z | z <;> rw [z] <;> decide)]
        obtain ⟨lf, l1, l2⟩ := x.1.2.2.2.2.1 b c hb hc
        subst z
        rw [bd_e (gA_e (k := 0) l1.1 rfl), bd_e (gI_e (k := 6) p.1 rfl), bd_e (gI_e (k := 7) p.1 rfl), bd_e (by rw [vc_e l1.2.1]; exact effectOf_w l1.2 tn wb.2.1.2 v.2.2.1.2 (by have := v.2.2.2.2.2.1; omega) hj)]
        have ev : cS (Ld σ b) W lf (bhW gn n fw) j n = VM (ι, σ.2) b (kdC σ b c) (atC σ b c) t fw j := (v.eff (b := b) (kind := kdC σ b c) (x := atC σ b c) (lf := lf) wb.2.1.2 (fun a ha => (l2 a ha).trans (infM_2 (σ := σ) (τ := (ι, σ.2)) rfl b _ _ a _).symm) fw hj).symm
        rw [ev]
        rw [bd_e (gI_e (k := 5) p.1 rfl), bd_e (gI_e (k := 4) p.1 rfl), bd_e (gI_e (k := 5) p.1 rfl), bd_e (by rw [vc_e p.1]; exact totalOf_ce p hc n5 p.2.1.1 _)]
        have ck := x.1.2.2.2.2.1 b c hb hc
        rw [bd_e (by rw [vc_e l1.1]; exact allows_e ck _ _)]
        cases al : alC σ b c fe (ttC σ b c mode fe (VM (ι, σ.2) b (kdC σ b c) (atC σ b c) t fw j))
        · refine ⟨true, by rw [if_pos (show bI false = 0 from rfl)]; rfl, fun _ => ?_⟩
          have nm := fab_met w h17 hb hc v p.2.1.1 zw hj al
          rcases ff with ⟨_, z⟩ | ⟨z, _⟩
          · rw [z c hc] at nm; exact absurd nm (by decide)
          · exact z
        · exact ⟨false, by rw [if_neg (show ¬ bI true = 0 by decide)]; rfl, fun q => by simp at q⟩
  obtain ⟨c, ec, hc⟩ := bef
  refine wp_e (by rw [vc_e p.1]; exact ec) ?_
  cases c
  · rw [if_pos (show bI false = 0 from rfl)]
    refine wp_bd (wp_vc p.1 (first_w x w f0 h17 hb p v tn dt (fun h2 fc2 fe2 fw2 ft2 x2 f2 p2 r2 => ?_)))
    have qq := q h2 fc2 fe2 fw2 ft2 x2 f2 p2 r2
    rcases ff with ⟨z, _⟩ | ⟨z1, z2, _⟩
    · rw [z, decide_eq_false (by decide)] at qq
      rw [z, if_pos rfl]
      exact wp_rnZ (Or.inr rfl) qq
    · rw [decide_eq_true z1] at qq
      rw [if_neg z2]
      exact wp_rnZ (Or.inl rfl) qq
  · rw [if_neg (show ¬ bI true = 0 by decide)]
    have qq := q h fc fe fw ft x f0 p (Fr.rf _ h)
    rw [decide_eq_true (hc rfl)] at qq
    exact wp_rnZ (Or.inl rfl) qq
