/-! Inspector: prepare, isMet, firstUnmet. -/
/-- the usual train in the class -/
def UsC (g : Gh) (σ : MS) (us : Option Nat) : Prop := (σ.i 17 = -1 ∧ us = none) ∨ ∃ u, u < ntd σ ∧ σ.i 17 = nI u ∧ us = some (gT g u)
theorem usAt {h : Hp} {B : Nat} {g : Gh} {σ : MS} (x : IX h B g σ) (w : WF σ) : ∃ us, UsC g σ us ∧ pX10_trainAt B (σ.i 17) h = some (us, h) := by
  have t8 := w.nt
  rcases w.2.2.2.2.1 with z | ⟨u, u1, u2⟩
  · rcases trAt x w (σ.i 17) with ⟨_, e⟩ | ⟨_, t, ht, et, e⟩
    · exact ⟨none, Or.inl ⟨z, rfl⟩, e⟩
    · rw [z] at et
      exact absurd et.symm (nI_nm1 (by omega))
  · rcases trAt x w (σ.i 17) with ⟨hi, e⟩ | ⟨_, t, ht, et, e⟩
    · rw [u2, w.2.1.1, inB_of u1 (by omega)] at hi
      simp at hi
    · exact ⟨some (gT g t), Or.inr ⟨t, ht, et, rfl⟩, e⟩
theorem prepF_w {h0 h : Hp} {B : Nat} {g : Gh} {σ : MS} {b : Nat} {mode : Int32} {us : Option Nat} (x : IX h B g σ) (w : WF σ) (f0 : FrC B h0 h) (hb : b < nbd σ) (hu : UsC g σ us) {Q : Unit → Hp → Prop} (q : ∀ h2 fe fw ft, IX h2 B g σ → FrC B h0 h2 → PrI h2 B σ b mode (-1) fe fw ft → Fr (fun y => B + 26 ≤ y ∧ y < B + 36) h h2 → Q () h2) : WP (pX3_prepare (B + 26) (some (gB g b + 2)) us mode) h Q := by
  obtain ⟨sh, fc, fe, fw, ft, e5, hl⟩ := x.2.2.2.2.2.1
  have y := x.1.2.2.2.1 b hb
  have o := x.1.2.2.2.2.2.2.2.1 b hb
  have n5 := (w.wb hb).1.n
  unfold pX3_prepare
  refine wp_pF (k := 4) e5 (by simp) ?_
  have F1 : Fr (fun y => y = B + 26) h (up h (B + 26) (ob 3 ([vr (some (B + 27)), vr (some (B + 29)), vr (some (B + 33)), vi sh, vi fc, vi fe, vi fw, vi ft].set 4 (vi (-1))))) := (Fr.rf _ h).put _ rfl
  have a1 : (up h (B + 26) (ob 3 ([vr (some (B + 27)), vr (some (B + 29)), vr (some (B + 33)), vi sh, vi fc, vi fe, vi fw, vi ft].set 4 (vi (-1))))).1 (B + 26) = some (ob 3 [vr (some (B + 27)), vr (some (B + 29)), vr (some (B + 33)), vi sh, vi (-1), vi fe, vi fw, vi ft]) := up_s _ _ _
  generalize up h (B + 26) (ob 3 ([vr (some (B + 27)), vr (some (B + 29)), vr (some (B + 33)), vi sh, vi fc, vi fe, vi fw, vi ft].set 4 (vi (-1)))) = h1 at F1 a1 ⊢
  have y1 : Br1 h1 g σ b := y.ag (fun i hi => F1.2 _ (by omega)) (by omega)
  have mid : ∀ s1, s1 = shI σ b mode → WP (bX3_prepare_25 (B + 26) (some (gB g b + 2)) us mode (some (B + 26)) s1) h1 Q := by
    intro s1 hs1
    unfold bX3_prepare_25
    refine wp_pF (k := 3) a1 (by simp) ?_
    have F2 : Fr (fun y => y = B + 26) h (up h1 (B + 26) (ob 3 ([vr (some (B + 27)), vr (some (B + 29)), vr (some (B + 33)), vi sh, vi (-1), vi fe, vi fw, vi ft].set 3 (vi s1)))) := F1.put _ rfl
    have a2 : (up h1 (B + 26) (ob 3 ([vr (some (B + 27)), vr (some (B + 29)), vr (some (B + 33)), vi sh, vi (-1), vi fe, vi fw, vi ft].set 3 (vi s1)))).1 (B + 26) = some (ob 3 [vr (some (B + 27)), vr (some (B + 29)), vr (some (B + 33)), vi s1, vi (-1), vi fe, vi fw, vi ft]) := up_s _ _ _
    generalize up h1 (B + 26) (ob 3 ([vr (some (B + 27)), vr (some (B + 29)), vr (some (B + 33)), vi sh, vi (-1), vi fe, vi fw, vi ft].set 3 (vi s1))) = h2 at F2 a2 ⊢
    rw [hs1] at a2
    have x2 : IX h2 B g σ := ⟨x.1.fr w F2 (fun a ha => by omega), x.2.u58 F2 (fun a ha => by omega) ⟨_, _, _, _, _, a2, hl⟩ (x.2.2.2.2.2.2.1.ag (Ag.fr F2 (fun a ha => by omega))) (x.2.2.2.2.2.2.2.1.ag (Ag.fr F2 (fun a ha => by omega))) (x.2.2.2.2.2.2.2.2.1.ag (Ag.fr F2 (fun a ha => by omega)))⟩
    have f2 := f0.tr F2 (fun a ha => by omega)
    obtain ⟨e33, O1, O2, e34, e35⟩ := x2.2.2.2.2.2.2.2.2.1
    have y2 := x2.1.2.2.2.1 b hb
    have zero : (∀ c en, c < ncd σ b → (en = 0 ∨ en = 1) → othM σ b c mode en = 0) → WP (bX3_prepare_41 (B + 26) (some (gB g b + 2)) us 0) h2 Q := by
      intro z
      unfold bX3_prepare_41
      rw [if_pos rfl]
      exact prep_l (h := h2) (us := us) w hb hl (Or.inl ⟨rfl, z⟩) (fun h3 x3 f3 p3 r3 => q h3 fe fw ft x3 f3 p3 r3) FU 0 h2 O1 O2 (F2.mono (fun y hy => by omega)) (by omega) (by unfold FU; omega) x2 f2 a2 e33 e34 e35 (fun c' hc' => by omega)
    by_cases m0 : mode = 0
    · subst m0
      rw [if_pos rfl]
      rcases hu with ⟨u1, u2⟩ | ⟨u, u1, u2, u3⟩
      · rw [if_pos u2]
        exact zero (fun c en hc he => (oth_e w hb hc he).2.1 u1)
      · rw [if_neg (by rw [u3]; simp)]
        unfold bX3_prepare_41
        rw [if_neg (by decide)]
        refine wp_gA (k := 5) y2.1 rfl (wp_ldI (j := 1) y2.2.2.2.2.1 rfl (by omega) (by omega) ?_)
        refine wp_gA (k := 5) y2.1 rfl (wp_ldI (j := 2) y2.2.2.2.2.1 rfl (by omega) (by omega) ?_)
        exact prep_l (h := h2) (us := us) w hb hl (Or.inr ⟨u, u1, u3, fun c en hc he => (oth_e w hb hc he).1 u u1 u2⟩) (fun h3 x3 f3 p3 r3 => q h3 fe fw ft x3 f3 p3 r3) FU 0 h2 O1 O2 (F2.mono (fun y hy => by omega)) (by omega) (by unfold FU; omega) x2 f2 a2 e33 e34 e35 (fun c' hc' => by omega)
    · rw [if_neg m0]
      exact zero (fun c en hc he => (oth_e w hb hc he).2.2 mode m0)
  by_cases m2 : mode = 2
  · rw [if_pos m2]
    exact mid 100 (by rw [shI, if_pos m2])
  · rw [if_neg m2]
    refine wp_gA (k := 5) y1.1 rfl (wp_ldI (j := 0) y1.2.2.2.2.1 rfl (by omega) (by omega) ?_)
    exact mid _ (by rw [shI, if_neg m2])
theorem prepare_w {h0 h : Hp} {B : Nat} {g : Gh} {σ : MS} {b : Nat} {mode : Int32} {us : Option Nat} (x : IX h B g σ) (w : WF σ) (f0 : FrC B h0 h) (hb : b < nbd σ) (hu : UsC g σ us) {Q : Unit → Hp → Prop} (q : ∀ h2 fe fw ft, IX h2 B g σ → FrC B h0 h2 → PrI h2 B σ b mode (-1) fe fw ft → Q () h2) : WP (pX3_prepare (B + 26) (some (gB g b + 2)) us mode) h Q := 
  prepF_w x w f0 hb hu (fun h2 fe fw ft a b c _ => q h2 fe fw ft a b c)
/-- the totals by the class's numbers -/
def ttC (σ : MS) (b c : Nat) (mode en : Int32) (u : Int64) : Int64 := (100 * u + othM σ b c mode en) * (shI σ b mode).toInt64
theorem shk_e (σ : MS) (b : Nat) (mode : Int32) : shkM σ b mode = (shI σ b mode).toInt64 := by
  unfold shkM shI
  by_cases c : mode = 2
  · rw [if_pos c, if_pos c]
  · rw [if_neg c, if_neg c]
theorem vm_b {σ : MS} {ι : Nat → Int32} (w : WF σ) {b t n x : Nat} {kind : Int32} {W : Nat → Int32} {gn : Nat → Nat} (hb : b < nbd σ) (hr : RsB σ b kind x) (v : TrV (ι, σ.2) t n W gn) (way : Int32) {j : Nat} (hj : j ≤ 2000) : ∃ e : Int, VM (ι, σ.2) b kind x t way j = oL e ∧ e.natAbs ≤ 8 * (600 * 46656000000) := by
  obtain ⟨z, p, bq⟩ := w.bq hb
  exact v.bnd (τ := (ι, σ.2)) (b := b) (kind := kind) (x := x) (sn := spd σ b) (z := z) (p := p) bq hr way hj
theorem tm_le {σ : MS} {ι : Nat → Int32} (w : WF σ) {b t n : Nat} {W : Nat → Int32} {gn : Nat → Nat} (hb : b < nbd σ) (v : TrV (ι, σ.2) t n W gn) : TM (ι, σ.2) b t ≤ 341 ∧ 0 < TM (ι, σ.2) b t := by
  obtain ⟨e1, e2, _⟩ := v.n
  have := v.2.2.2.2.2.1
  have L6 := (w.wb hb).1.2.1.2
  have eL : Ld (ι, σ.2) b = Ld σ b := rfl
  unfold TM
  rw [eL, e2]
  omega
theorem vm_nm {σ : MS} {ι : Nat → Int32} (w : WF σ) {b t n x : Nat} {kind : Int32} {W : Nat → Int32} {gn : Nat → Nat} (hb : b < nbd σ) (hr : RsB σ b kind x) (v : TrV (ι, σ.2) t n W gn) : ∀ way i, i < TM (ι, σ.2) b t → nMn (VM (ι, σ.2) b kind x t way i) := by
  intro way i hi
  have := tm_le w hb v
  obtain ⟨e, e1, e2⟩ := vm_b (kind := kind) w hb hr v way (show i ≤ 2000 by omega)
  rw [e1]
  exact oL_nMn (by omega)
theorem tot_e {σ : MS} {ι : Nat → Int32} (w : WF σ) (h17 : ι 17 = σ.i 17) {b c t n : Nat} {mode en : Int32} {W : Nat → Int32} {gn : Nat → Nat} (hb : b < nbd σ) (hc : c < ncd σ b) (v : TrV (ι, σ.2) t n W gn) (he : en = 0 ∨ en = 1) : totM (ι, σ.2) b c t mode en = ttC σ b c mode en (EM (ι, σ.2) b (kdC σ b c) (atC σ b c) t en).1 := by
  have hr := ((w.wb hb).1.2.2.2.2.2.2.2 c hc).1
  obtain ⟨z1, _, _⟩ := GR_e (τ := (ι, σ.2)) (b := b) (kind := kdC σ b c) (x := atC σ b c) (t := t) he (vm_nm w hb hr v)
  unfold totM ttC
  rw [show kdC (ι, σ.2) b c = kdC σ b c from rfl, show atC (ι, σ.2) b c = atC σ b c from rfl, z1, oth_2 (σ := σ) (τ := (ι, σ.2)) rfl h17 w, show shkM (ι, σ.2) b mode = shkM σ b mode from rfl, shk_e]
/-- what a check lets through -/
def alC (σ : MS) (b c : Nat) (en : Int32) (tot : Int64) : Bool := if en = 0 then !decide ((σ.a 26 (5 * b + c)).toInt64 * oneM σ b < tot) else !decide (tot < (σ.a 27 (5 * b + c)).toInt64 * oneM σ b)
theorem met_e {σ : MS} {ι : Nat → Int32} (w : WF σ) (h17 : ι 17 = σ.i 17) {b c t n : Nat} {mode : Int32} {W : Nat → Int32} {gn : Nat → Nat} (hb : b < nbd σ) (hc : c < ncd σ b) (v : TrV (ι, σ.2) t n W gn) : metM (ι, σ.2) b c t mode = (alC σ b c 0 (ttC σ b c mode 0 (EM (ι, σ.2) b (kdC σ b c) (atC σ b c) t 0).1) && alC σ b c 1 (ttC σ b c mode 1 (EM (ι, σ.2) b (kdC σ b c) (atC σ b c) t 1).1)) := by
  unfold metM alC
  rw [tot_e w h17 hb hc v (Or.inl rfl), tot_e w h17 hb hc v (Or.inr rfl), if_pos rfl, if_neg (by decide)]
  rfl
theorem one_e (lo : Int64) : lo * 100 * 100 = 10000 * lo := by
  rw [Int64.mul_assoc, Int64.mul_comm]
  rfl
theorem totalLower_e {h : Hp} {g : Gh} {σ : MS} {b c : Nat} (x : Ck1 h g σ b c) : pX1_totalLower (gC g b c) h = some (oneM σ b, h) := by
  obtain ⟨f, f1, f2⟩ := x
  unfold pX1_totalLower
  rw [bd_e (gA_e (k := 0) f1.1 rfl), bd_e (gL_e (k := 1) f1.2.1 rfl), one_e]
  rfl
theorem allows_e {h : Hp} {g : Gh} {σ : MS} {b c : Nat} (x : Ck1 h g σ b c) (en : Int32) (tot : Int64) : pX1_allows (gC g b c) en tot h = some (bI (alC σ b c en tot), h) := by
  have tl := totalLower_e x
  obtain ⟨f, f1, f2⟩ := x
  unfold pX1_allows alC
  by_cases e : en = 0
  · rw [if_pos e, if_pos e, bd_e (gI_e (k := 1) f1.1 rfl), bd_e (by rw [vc_e f1.1]; exact tl)]
    by_cases q : (σ.a 26 (5 * b + c)).toInt64 * oneM σ b < tot
    · rw [if_pos q, decide_eq_true q]; rfl
    · rw [if_neg q, decide_eq_false q]; rfl
  · rw [if_neg e, if_neg e, bd_e (gI_e (k := 2) f1.1 rfl), bd_e (by rw [vc_e f1.1]; exact tl)]
    by_cases q : tot < (σ.a 27 (5 * b + c)).toInt64 * oneM σ b
    · rw [if_pos q, decide_eq_true q]; rfl
    · rw [if_neg q, decide_eq_false q]; rfl
theorem totalOf_ce {h : Hp} {B : Nat} {σ : MS} {b c : Nat} {mode fc fe fw ft : Int32} (x : PrI h B σ b mode fc fe fw ft) (hc : c < ncd σ b) (h5 : ncd σ b ≤ 5) {en : Int32} (he : en = 0 ∨ en = 1) (u : Int64) : pX3_totalOf (B + 26) (nI c) en u h = some (ttC σ b c mode en u, h) := by
  obtain ⟨a, b', d, O1, O2, e, f, k⟩ := x
  unfold pX3_totalOf ttC
  rcases he with rfl | rfl
  · rw [bd_e (gA_e (k := 2) a rfl), show (0 : Int32) = nI 0 from rfl, bd_e (ldQ_e d (by rw [arQ_len]; omega) (by rw [arQ_len]; omega)), arQ_get _ (by omega), bd_e (ldL_e (show h.1 (B + 34 + 0) = _ from e) (by rw [arL_len]; omega) (by rw [arL_len]; omega)), arL_get _ (by omega), bd_e (gI_e (k := 3) a rfl), (k c hc).1]
    rfl
  · rw [bd_e (gA_e (k := 2) a rfl), show (1 : Int32) = nI 1 from rfl, bd_e (ldQ_e d (by rw [arQ_len]; omega) (by rw [arQ_len]; omega)), arQ_get _ (by omega), bd_e (ldL_e (show h.1 (B + 34 + 1) = _ from f) (by rw [arL_len]; omega) (by rw [arL_len]; omega)), arL_get _ (by omega), bd_e (gI_e (k := 3) a rfl), (k c hc).2]
    rfl
theorem lg_ex {σ : MS} {ι : Nat → Int32} (w : WF σ) {b t n x : Nat} {kind en : Int32} {W : Nat → Int32} {gn : Nat → Nat} (hb : b < nbd σ) (v : TrV (ι, σ.2) t n W gn) (he : en = 0 ∨ en = 1) : lgF en (EM (ι, σ.2) b kind x t en).2.1 (EM (ι, σ.2) b kind x t en).2.2 := by
  have tl := tm_le w hb v
  refine ⟨he, ?_⟩
  have key : ∀ s, exN (VM (ι, σ.2) b kind x t) (TM (ι, σ.2) b t) s → s.2.1 = -1 ∨ (s.2.1 = 0 ∨ s.2.1 = 1) ∧ ∃ j, j ≤ 2000 ∧ s.2.2 = nI j := by
    intro s hs
    rcases hs with rfl | ⟨way, i, hw, hi, rfl⟩
    · exact Or.inl rfl
    · exact Or.inr ⟨hw, i, by omega, rfl⟩
  unfold EM
  split
  · exact key _ (cG_mem _ tl.2)
  · exact key _ (cL_mem _ tl.2)
theorem isMet_w {h0 h : Hp} {B : Nat} {g : Gh} {σ : MS} {ι : Nat → Int32} {b c t n tr : Nat} {mode fc fe fw ft r : Int32} {W : Nat → Int32} {gn : Nat → Nat} (x : IX h B g σ) (w : WF σ) (f0 : FrC B h0 h) (h17 : ι 17 = σ.i 17) (hb : b < nbd σ) (hc : c < ncd σ b) (p : PrI h B σ b mode fc fe fw ft) (v : TrV (ι, σ.2) t n W gn) (tn : Trn h tr (tr + 1) (tr + 2) n r W (fun k => nI (gn k))) (dt : B + 72 ≤ tr ∨ tr = B + 38) {Q : Int32 → Hp → Prop}
    (q : ∀ h2 fc fe fw ft, IX h2 B g σ → FrC B h0 h2 → PrI h2 B σ b mode fc fe fw ft → Fr (fun y => B + 26 ≤ y ∧ y < B + 33) h h2 → Q (bI (metM (ι, σ.2) b c t mode)) h2) : WP (pX3_isMet (B + 26) (nI c) (some (gC g b c)) (some tr)) h Q := by
  have wb := (w.wb hb).1
  have n5 := wb.2.2.2.2.2.2.1
  obtain ⟨lf, l1, l2⟩ := x.1.2.2.2.2.1 b c hb hc
  obtain ⟨T0, F0, s0⟩ := x.2.2.2.2.2.2.1
  obtain ⟨g0, l0, e0⟩ := x.2.2.2.2.2.2.2.1
  have oc := (x.1.2.2.2.2.2.2.2.2.1 b c hb hc).1
  have p26 := p.1
  unfold pX3_isMet
  refine wp_gA (k := 1) p26 rfl (wp_gA (k := 0) l1.1 rfl (wp_gA (k := 0) p26 rfl ?_))
  refine wp_bd (wp_vc e0.1 (find_m (τ := (ι, σ.2)) (B := B) (b := b) (kind := kdC σ b c) (x := atC σ b c) v wb.2.1.2 (fun a ha => (l2 a ha).trans (infM_2 (σ := σ) (τ := (ι, σ.2)) rfl b _ _ a _).symm) l1.2 tn s0 e0 rfl (by omega) (fun y hy => by omega) (fun h3 T3 F3 f3 s3 e3 => ?_)))
  have x3 : IX h3 B g σ := ⟨x.1.fr w f3 (fun a ha => by omega), x.2.u58 f3 (fun a ha => by omega) (x.2.2.2.2.2.1.ag (Ag.fr f3 (fun a ha => by omega))) ⟨_, _, s3⟩ ⟨_, _, e3⟩ (x.2.2.2.2.2.2.2.2.1.ag (Ag.fr f3 (fun a ha => by omega)))⟩
  have p3 := p.ag (h' := h3) (fun k hk => f3.2 _ (by omega))
  have g3 := f0.tr f3 (fun a ha => by omega)
  have ck3 := x3.1.2.2.2.2.1 b c hb hc
  rw [met_e w h17 hb hc v] at q
  generalize hG : EM (ι, σ.2) b (kdC σ b c) (atC σ b c) t 0 = G0 at q
  generalize hLl : EM (ι, σ.2) b (kdC σ b c) (atC σ b c) t 1 = L0 at q
  have lg0 := lg_ex (kind := kdC σ b c) (x := atC σ b c) (en := 0) w hb v (Or.inl rfl)
  have lg1 := lg_ex (kind := kdC σ b c) (x := atC σ b c) (en := 1) w hb v (Or.inr rfl)
  rw [hG] at lg0
  rw [hLl] at lg1
  rw [EM_0] at hG
  rw [EM_1] at hLl
  rw [hG, hLl] at e3
  -- a failing end
  have failE : ∀ (en : Nat) (s : Bs), en < 2 → (if en = 0 then G0 else L0) = s → lgF (nI en) s.2.1 s.2.2 → Q 0 = Q 0 → (∀ h4 , IX h4 B g σ → FrC B h0 h4 → PrI h4 B σ b mode (nI c) (nI en) s.2.1 s.2.2 → Fr (fun y => B + 26 ≤ y ∧ y < B + 33) h h4 → Q 0 h4) → WP (bd (pF (some (B + 26)) 3 4 (vi (nI c))) fun _ => bd (pF (some (B + 26)) 3 5 (vi (nI en))) fun _ => bd (gA (some (B + 26)) 3 1) fun x64 => bd (gA x64 2 1) fun x67 => bd (ldI 0 x67 (nI en)) fun x72 => bd (pF (some (B + 26)) 3 6 (vi x72)) fun _ => bd (gA (some (B + 26)) 3 1) fun x78 => bd (gA x78 2 2) fun x81 => bd (ldI 0 x81 (nI en)) fun x86 => bd (pF (some (B + 26)) 3 7 (vi x86)) fun _ => rnZ (0 : Int32)) h3 Q := by
    intro en s hen hs lg _ qq
    have pw : pr G0.2.1 L0.2.1 en = s.2.1 := by rw [← hs]; unfold pr; by_cases z : en = 0 <;> simp [z]
    have pt : pr G0.2.2 L0.2.2 en = s.2.2 := by rw [← hs]; unfold pr; by_cases z : en = 0 <;> simp [z]
    have q26 := p3.1
    refine wp_pF (k := 4) q26 (by simp) ?_
    refine wp_pF (k := 5) (up_s _ _ _) (by simp) ?_
    rw [up_up]
    have ee : ∀ (k : AC) (a : Nat), a ≠ B + 26 → (up h3 (B + 26) k).1 a = h3.1 a := fun k a ha => up_n ha
    refine wp_gA (k := 1) (up_s _ _ _) rfl (wp_gA (k := 1) ((ee _ (B + 29) (by omega)).trans e3.1) rfl ?_)
    refine wp_ldI ((ee _ (B + 31) (by omega)).trans e3.2.2.1) rfl hen (by omega) ?_
    refine wp_pF (k := 6) (up_s _ _ _) (by simp) ?_
    rw [up_up]
    refine wp_gA (k := 1) (up_s _ _ _) rfl (wp_gA (k := 2) ((ee _ (B + 29) (by omega)).trans e3.1) rfl ?_)
    refine wp_ldI ((ee _ (B + 32) (by omega)).trans e3.2.2.2) rfl hen (by omega) ?_
    refine wp_pF (k := 7) (up_s _ _ _) (by simp) ?_
    rw [up_up, pw, pt]
    have F4 : ∀ k, Fr (fun y => y = B + 26) h3 (up h3 (B + 26) k) := fun k => (Fr.rf _ h3).put _ rfl
    generalize hcc : ob 3 (((([vr (some (B + 27)), vr (some (B + 29)), vr (some (B + 33)), vi (shI σ b mode), vi fc, vi fe, vi fw, vi ft].set 4 (vi (nI c))).set 5 (vi (nI en))).set 6 (vi s.2.1)).set 7 (vi s.2.2)) = cc
    have hcc' : cc = ob 3 [vr (some (B + 27)), vr (some (B + 29)), vr (some (B + 33)), vi (shI σ b mode), vi (nI c), vi (nI en), vi s.2.1, vi s.2.2] := by rw [← hcc]; rfl
    have F5 := F4 cc
    have a5 : (up h3 (B + 26) cc).1 (B + 26) = some (ob 3 [vr (some (B + 27)), vr (some (B + 29)), vr (some (B + 33)), vi (shI σ b mode), vi (nI c), vi (nI en), vi s.2.1, vi s.2.2]) := by rw [up_s, hcc']
    generalize up h3 (B + 26) cc = h5 at F5 a5 ⊢
    refine wp_rnZ (Or.inl rfl) (qq h5 ⟨x3.1.fr w F5 (fun a ha => by omega), x3.2.u58 F5 (fun a ha => by omega) ⟨_, _, _, _, _, a5, lg⟩ (x3.2.2.2.2.2.2.1.ag (Ag.fr F5 (fun a ha => by omega))) (x3.2.2.2.2.2.2.2.1.ag (Ag.fr F5 (fun a ha => by omega))) (x3.2.2.2.2.2.2.2.2.1.ag (Ag.fr F5 (fun a ha => by omega)))⟩ (g3.tr F5 (fun a ha => by omega)) ?_ ((f3.mono (fun y hy => by omega)).tr (F5.mono (fun y hy => by omega))))
    obtain ⟨z1, z2, z3, O1, O2, z4, z5, z6⟩ := p3
    exact ⟨a5, lg, F5.at z3 (by omega), O1, O2, F5.at z4 (by omega), F5.at z5 (by omega), z6⟩
  obtain ⟨fu, hfu⟩ : ∃ f, FU = f + 3 := ⟨999999997, rfl⟩
  rw [hfu]
  show WP (bX3_isMet_19 (fX3_isMet_19 (fu + 2)) (B + 26) (nI c) (some (gC g b c)) (nI 0)) h3 Q
  unfold bX3_isMet_19
  rw [if_neg (show ¬ (1 : Int32) < nI 0 by decide)]
  refine wp_gA (k := 1) p3.1 rfl (wp_gA (k := 0) e3.1 rfl (wp_ldL (j := 0) e3.2.1 rfl (by omega) (by omega) ?_))
  rw [pr_0]
  refine wp_e (by rw [vc_e p3.1]; exact totalOf_ce p3 hc n5 (Or.inl rfl) _) ?_
  obtain ⟨ckf, ckf1, ckf2⟩ := id ck3
  refine wp_e (by rw [vc_e ckf1.1]; exact allows_e ck3 _ _) ?_
  cases a0 : alC σ b c 0 (ttC σ b c mode 0 G0.1)
  · rw [show alC σ b c (nI 0) (ttC σ b c mode 0 G0.1) = false from a0, if_pos (show bI false = 0 from rfl)]
    refine failE 0 G0 (by omega) rfl lg0 rfl (fun h4 x4 f4 p4 r4 => ?_)
    have := q h4 _ _ _ _ x4 f4 p4 r4
    rw [a0, Bool.false_and] at this
    exact this
  · rw [show alC σ b c (nI 0) (ttC σ b c mode 0 G0.1) = true from a0, if_neg (show ¬ bI true = 0 by decide), nI_1]
    show WP (bX3_isMet_19 (fX3_isMet_19 (fu + 1)) (B + 26) (nI c) (some (gC g b c)) (nI 1)) h3 Q
    unfold bX3_isMet_19
    rw [if_neg (show ¬ (1 : Int32) < nI 1 by decide)]
    refine wp_gA (k := 1) p3.1 rfl (wp_gA (k := 0) e3.1 rfl (wp_ldL (j := 1) e3.2.1 rfl (by omega) (by omega) ?_))
    rw [pr_1]
    refine wp_e (by rw [vc_e p3.1]; exact totalOf_ce p3 hc n5 (Or.inr rfl) _) ?_
    refine wp_e (by rw [vc_e ckf1.1]; exact allows_e ck3 _ _) ?_
    cases a1 : alC σ b c 1 (ttC σ b c mode 1 L0.1)
    · rw [show alC σ b c (nI 1) (ttC σ b c mode 1 L0.1) = false from a1, if_pos (show bI false = 0 from rfl)]
      refine failE 1 L0 (by omega) rfl lg1 rfl (fun h4 x4 f4 p4 r4 => ?_)
      have := q h4 _ _ _ _ x4 f4 p4 r4
      rw [a0, a1] at this
      exact this
    · rw [show alC σ b c (nI 1) (ttC σ b c mode 1 L0.1) = true from a1, if_neg (show ¬ bI true = 0 by decide), nI_1]
      show WP (bX3_isMet_19 (fX3_isMet_19 fu) (B + 26) (nI c) (some (gC g b c)) (nI 2)) h3 Q
      unfold bX3_isMet_19
      rw [if_pos (show (1 : Int32) < nI 2 by decide)]
      have := q h3 _ _ _ _ x3 g3 p3 (f3.mono (fun y hy => by omega))
      rw [a0, a1] at this
      exact wp_rnZ (Or.inr rfl) this
