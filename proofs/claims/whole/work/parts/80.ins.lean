/-! Inspector. -/
theorem pr_0 {A : Type} (p l : A) : pr p l 0 = p := rfl
theorem pr_1 {A : Type} (p l : A) : pr p l 1 = l := rfl
theorem EM_0 (τ : MS) (b : Nat) (kind : Int32) (x t : Nat) : EM τ b kind x t 0 = GM τ b kind x t := if_pos rfl
theorem EM_1 (τ : MS) (b : Nat) (kind : Int32) (x t : Nat) : EM τ b kind x t 1 = LM τ b kind x t := if_neg (by decide)
theorem si20 {σ : MS} (h : σ.i 20 = -1) : σ.si 20 (-1) = σ := by
  refine Prod.ext (funext fun k => ?_) rfl
  show (if k = 20 then -1 else σ.1 k) = σ.1 k
  by_cases c : k = 20
  · rw [if_pos c, c]; exact h.symm
  · rw [if_neg c]
/-- the same train in two states with the same bridges -/
theorem efS_t {σ τ : MS} {b : Nat} {kind : Int32} {x L ns t : Nat} {way : Int32} {n : Nat} {time : Int32} (hw : ∀ k, wtM τ t k = wtM σ t k) (hg : ∀ k, gpM τ t k = gpM σ t k) (hi : ∀ a, infM τ b kind x a ns = infM σ b kind x a ns) : ∀ i, efS τ b kind x L ns t way n time i = efS σ b kind x L ns t way n time i
  | 0 => rfl
  | i + 1 => by
    have ih := efS_t (L := L) (way := way) (n := n) (time := time) hw hg hi i
    simp only [efS, ih, hw, hg, hi]
theorem moM_2 {σ τ : MS} (e : τ.2 = σ.2) (b x a : Nat) : ∀ k, moM τ b x a k = moM σ b x a k
  | 0 => by show (if x ≤ a then 0 else 0 - (nI x - nI a).toInt64 * τ.2.2 9 b) = (if x ≤ a then 0 else 0 - (nI x - nI a).toInt64 * σ.2.2 9 b); rw [e]
  | k + 1 => by
    rw [moM, moM, moM_2 e b x a k]
    show _ + (if nI x ≤ τ.2.1 4 (5 * b + k) then 0 else τ.2.2 8 (5 * (61 * b + a) + k) * (nI x - τ.2.1 4 (5 * b + k)).toInt64) = _ + (if nI x ≤ σ.2.1 4 (5 * b + k) then 0 else σ.2.2 8 (5 * (61 * b + a) + k) * (nI x - σ.2.1 4 (5 * b + k)).toInt64)
    rw [e]
theorem infM_2 {σ τ : MS} (e : τ.2 = σ.2) (b : Nat) (kind : Int32) (x a n : Nat) : infM τ b kind x a n = infM σ b kind x a n := by
  unfold infM
  rw [moM_2 e]
  show (if kind = 0 then τ.2.2 8 _ else _) = (if kind = 0 then σ.2.2 8 _ else _)
  rw [e]
theorem wt_2 {σ τ : MS} (e : τ.2 = σ.2) {t : Nat} (h1 : ¬ nI t = τ.i 20) (h2 : ¬ nI t = σ.i 20) (k : Nat) : wtM τ t k = wtM σ t k := by
  rw [wt_e h1, wt_e h2]
  show τ.2.1 _ _ = σ.2.1 _ _
  rw [e]
theorem gp_2 {σ τ : MS} (e : τ.2 = σ.2) {t : Nat} (h1 : ¬ nI t = τ.i 20) (h2 : ¬ nI t = σ.i 20) (k : Nat) : gpM τ t k = gpM σ t k := by
  unfold gpM
  rw [if_neg h1, if_neg h2]
  show (if k = 0 then 0 else τ.2.1 _ _ + 0) = (if k = 0 then 0 else σ.2.1 _ _ + 0)
  rw [e]
theorem agM_2 {σ τ : MS} {t : Nat} (hg : ∀ k, gpM τ t k = gpM σ t k) : ∀ n, agM τ t n = agM σ t n
  | 0 => rfl
  | n + 1 => by rw [agM, agM, agM_2 hg n, hg]
theorem GRx_2 {σ τ : MS} (e : τ.2 = σ.2) {b t x : Nat} {kind en : Int32} (h1 : ¬ nI t = τ.i 20) (h2 : ¬ nI t = σ.i 20) : GRx τ b kind x t en = GRx σ b kind x t en := by
  have hw := wt_2 e h1 h2
  have hg := gp_2 e h1 h2
  have eL : Ld τ b = Ld σ b := by show (τ.2.1 1 b).toNatClampNeg = (σ.2.1 1 b).toNatClampNeg; rw [e]
  have en' : nsd τ b = nsd σ b := by show (τ.2.1 2 b).toNatClampNeg = (σ.2.1 2 b).toNatClampNeg; rw [e]
  have ea : nad τ t = nad σ t := by show (τ.2.1 13 t).toNatClampNeg = (σ.2.1 13 t).toNatClampNeg; rw [e]
  have eg : agd τ t = agd σ t := by unfold agd; rw [ea, agM_2 hg]
  have ev : ∀ way m, exV τ b kind x (Ld σ b) (nsd σ b) t (nad σ t) en way m = exV σ b kind x (Ld σ b) (nsd σ b) t (nad σ t) en way m := by
    intro way m
    unfold exV effM
    rw [efS_t hw hg (fun a => infM_2 e b kind x a _)]
  unfold GRx exM
  rw [eL, en', ea, eg, exS_c 1 _ (ev 1), exS_c 0 _ (ev 0)]
/-- what is counted of the other lanes does not know of the scaling -/
theorem oth_2 {σ τ : MS} (e : τ.2 = σ.2) (e17 : τ.i 17 = σ.i 17) (w : WF σ) (b c : Nat) (mode en : Int32) : othM τ b c mode en = othM σ b c mode en := by
  unfold othM kdC atC
  rw [e17, show τ.a 6 b = σ.a 6 b by show τ.2.1 6 b = σ.2.1 6 b; rw [e], show τ.a 7 b = σ.a 7 b by show τ.2.1 7 b = σ.2.1 7 b; rw [e], show τ.a 24 (5 * b + c) = σ.a 24 (5 * b + c) by show τ.2.1 24 _ = σ.2.1 24 _; rw [e], show τ.a 25 (5 * b + c) = σ.a 25 (5 * b + c) by show τ.2.1 25 _ = σ.2.1 25 _; rw [e]]
  by_cases q : mode = 0 ∧ ¬ σ.i 17 < 0 ∧ ¬ σ.a 6 b ≤ 1
  · rw [if_pos q, if_pos q]
    have hu : (σ.i 17).toNatClampNeg < 2 ^ 31 := by
      rcases w.2.2.2.2.1 with z | ⟨u, u1, u2⟩
      · rw [z] at q; exact absurd (by decide) q.2.1
      · rw [u2, nI_clamp (by have := w.nt; omega)]; have := w.nt; omega
    have n1 : ∀ υ : MS, ¬ nI (σ.i 17).toNatClampNeg = (υ.si 20 (-1)).i 20 := fun υ => by rw [si_i, if_pos rfl]; exact nI_nm1 hu
    rw [GRx_2 (show (τ.si 20 (-1)).2 = (σ.si 20 (-1)).2 from e) (n1 τ) (n1 σ)]
  · rw [if_neg q, if_neg q]
/-- the other lanes' part by the class's numbers -/
theorem oth_e {σ : MS} (w : WF σ) {b c : Nat} (hb : b < nbd σ) (hc : c < ncd σ b) {en : Int32} (he : en = 0 ∨ en = 1) : (∀ u, u < ntd σ → σ.i 17 = nI u → othM σ b c 0 en = ((σ.a 6 b - 1) * σ.a 7 b).toInt64 * (EM σ b (kdC σ b c) (atC σ b c) u en).1) ∧ (σ.i 17 = -1 → othM σ b c 0 en = 0) ∧ ∀ mode, mode ≠ 0 → othM σ b c mode en = 0 := by
  refine ⟨fun u hu eu => ?_, fun eu => ?_, fun mode hm => ?_⟩
  · have t8 := w.nt
    have b6 := w.1.2
    obtain ⟨s, l, q, r1, r2, r3, r4, r5, r6, r7, r8⟩ := w.2.2.2.2.2.2.1 b (by omega)
    have el : (σ.a 6 b - 1) * σ.a 7 b = nI ((l - 1) * q) := by
      rw [r3, r6, show (nI l - 1 : Int32) = nI (l - 1) from pk_sub (a := l) (b := 1) r4, pk_mul]
    have lq : (l - 1) * q ≤ 3 * 100 := Nat.mul_le_mul (by omega) r7
    have ep : (σ.a 6 b - 1).toInt64 * (σ.a 7 b).toInt64 = ((σ.a 6 b - 1) * σ.a 7 b).toInt64 := by
      rw [el, r3, r6, show (nI l - 1 : Int32) = nI (l - 1) from pk_sub (a := l) (b := 1) r4, nI_64 (by omega), nI_64 (by omega), nI_64 (by omega), oL_mul]
      congr 1
    unfold othM
    have hn : ¬ σ.i 17 < 0 := by rw [eu]; have := nI_pos' (n := u) (by omega); simpa using this
    rw [eu] at hn ⊢
    rw [nI_clamp (by omega), si20 w.2.2.2.1.1]
    obtain ⟨tt, wt, hnn, wT, ea⟩ := w.tr hu
    have v := w.tv hu (W := fun k => σ.a 14 (8 * u + k)) (gn := gnd σ u) (fun _ _ => rfl) (fun _ _ => rfl)
    have wb := (w.wb hb).1
    have hr := (wb.2.2.2.2.2.2.2 c hc).1
    have nm := eff_nm w hb hr v
    obtain ⟨z1, _, _⟩ := GR_e (en := en) he nm
    by_cases ll : σ.a 6 b ≤ 1
    · rw [if_neg (fun z => z.2.2 ll)]
      have l1 : l = 1 := by
        rw [r3] at ll
        have := (nI_leI (a := l) (b := 1) (by omega) (by omega)).mp ll
        omega
      rw [el, l1, show (1 - 1) * q = 0 by simp, show (nI 0).toInt64 = (0 : Int64) from rfl, Int64.zero_mul]
    · rw [if_pos ⟨rfl, hn, ll⟩, z1, ep]
  · unfold othM
    rw [if_neg (fun z => z.2.1 (by rw [eu]; decide))]
  · unfold othM
    rw [if_neg (fun z => hm z.1)]
def shI (σ : MS) (b : Nat) (mode : Int32) : Int32 := if mode = 2 then 100 else 100 + σ.a 5 b
/-- prepared for a bridge and a mode -/
def PrI (h : Hp) (B : Nat) (σ : MS) (b : Nat) (mode fc fe fw ft : Int32) : Prop := h.1 (B + 26) = some (ob 3 [vr (some (B + 27)), vr (some (B + 29)), vr (some (B + 33)), vi (shI σ b mode), vi fc, vi fe, vi fw, vi ft]) ∧ lgF fe fw ft ∧ h.1 (B + 33) = some (aq 6 (arQ 2 (fun i => some (B + 34 + i)))) ∧ ∃ O1 O2, h.1 (B + 34) = some (al (arL 5 O1)) ∧ h.1 (B + 35) = some (al (arL 5 O2)) ∧ ∀ c, c < ncd σ b → O1 c = othM σ b c mode 0 ∧ O2 c = othM σ b c mode 1
theorem PrI.ag {h h' : Hp} {B : Nat} {σ : MS} {b : Nat} {mode fc fe fw ft : Int32} (x : PrI h B σ b mode fc fe fw ft) (y : ∀ k, (k = 26 ∨ 33 ≤ k ∧ k < 36) → h'.1 (B + k) = h.1 (B + k)) : PrI h' B σ b mode fc fe fw ft := by
  obtain ⟨a, b', c, O1, O2, d, e, f⟩ := x
  exact ⟨(y 26 (by omega)).trans a, b', (y 33 (by omega)).trans c, O1, O2, (y 34 (by omega)).trans d, (y 35 (by omega)).trans e, f⟩
theorem prep_l {h0 h hs : Hp} {B : Nat} {g : Gh} {σ : MS} {b : Nat} {mode fe fw ft : Int32} {us : Option Nat} {v5 : Int64} (w : WF σ) (hb : b < nbd σ) (hl : lgF fe fw ft) (hus : v5 = 0 ∧ (∀ c en, c < ncd σ b → (en = 0 ∨ en = 1) → othM σ b c mode en = 0) ∨ ∃ u, u < ntd σ ∧ us = some (gT g u) ∧ ∀ c en, c < ncd σ b → (en = 0 ∨ en = 1) → othM σ b c mode en = v5 * (EM σ b (kdC σ b c) (atC σ b c) u en).1) {Q : Unit → Hp → Prop} (q : ∀ h2, IX h2 B g σ → FrC B h0 h2 → PrI h2 B σ b mode (-1) fe fw ft → Fr (fun y => B + 26 ≤ y ∧ y < B + 36) hs h2 → Q () h2) : ∀ (f c : Nat) (h : Hp) (O1 O2 : Nat → Int64), Fr (fun y => B + 26 ≤ y ∧ y < B + 36) hs h → c ≤ 5 → 5 < c + f → IX h B g σ → FrC B h0 h → h.1 (B + 26) = some (ob 3 [vr (some (B + 27)), vr (some (B + 29)), vr (some (B + 33)), vi (shI σ b mode), vi (-1), vi fe, vi fw, vi ft]) → h.1 (B + 33) = some (aq 6 (arQ 2 (fun i => some (B + 34 + i)))) → h.1 (B + 34) = some (al (arL 5 O1)) → h.1 (B + 35) = some (al (arL 5 O2)) → (∀ c', c' < c → c' < ncd σ b → O1 c' = othM σ b c' mode 0 ∧ O2 c' = othM σ b c' mode 1) → WP (fX3_prepare_73 f (B + 26) (some (gB g b + 2)) us v5 (nI c)) h Q
  | 0, c, h, O1, O2, hf, h1, h2, h3, h4, h5, h6, h7, h8, h9 => by omega
  | f + 1, c, h, O1, O2, hf, h1, h2, h3, h4, h5, h6, h7, h8, h9 => by
    have wb := (w.wb hb).1
    have n5 := wb.2.2.2.2.2.2.1
    have y := h3.1.2.2.2.1 b hb
    show WP (bX3_prepare_73 (fX3_prepare_73 f) (B + 26) (some (gB g b + 2)) us v5 (nI c)) h Q
    unfold bX3_prepare_73
    by_cases c5 : 5 ≤ c
    · rw [if_pos (show (5 : Int32) ≤ nI c from nI_le (a := 5) c5 (by omega))]
      exact wp_rn (q h h3 h4 ⟨h5, hl, h6, O1, O2, h7, h8, fun c' hc' => h9 c' (by omega) hc'⟩ hf)
    · rw [if_neg (show ¬ (5 : Int32) ≤ nI c from nI_ge (b := 5) (by omega) (by omega))]
      refine wp_gA (k := 2) h5 rfl (wp_ldQ (j := 0) h6 rfl (by omega) (by omega) ?_)
      refine wp_stL (show h.1 (B + 34 + 0) = _ from h7) rfl (by omega) (by omega) ?_
      have F1 : Fr (fun y => y = B + 34) h (up h (B + 34 + 0) (al (arL 5 fun y => if y = c then 0 else O1 y))) := (Fr.rf _ h).put _ rfl
      have a1 : (up h (B + 34 + 0) (al (arL 5 fun y => if y = c then 0 else O1 y))).1 (B + 34) = some (al (arL 5 fun y => if y = c then 0 else O1 y)) := up_s _ _ _
      generalize up h (B + 34 + 0) (al (arL 5 fun y => if y = c then 0 else O1 y)) = k1 at F1 a1 ⊢
      refine wp_gA (k := 2) (F1.at h5 (by omega)) rfl (wp_ldQ (j := 1) (F1.at h6 (by omega)) rfl (by omega) (by omega) ?_)
      refine wp_stL (show k1.1 (B + 34 + 1) = _ from F1.at h8 (show ¬ B + 35 = B + 34 by omega)) rfl (by omega) (by omega) ?_
      have F2 : Fr (fun y => y = B + 34 ∨ y = B + 35) h (up k1 (B + 34 + 1) (al (arL 5 fun y => if y = c then 0 else O2 y))) := (F1.mono (fun y hy => Or.inl hy)).put _ (Or.inr rfl)
      have a2 : (up k1 (B + 34 + 1) (al (arL 5 fun y => if y = c then 0 else O2 y))).1 (B + 34) = some (al (arL 5 fun y => if y = c then 0 else O1 y)) := by rw [up_n (by omega)]; exact a1
      have b2 : (up k1 (B + 34 + 1) (al (arL 5 fun y => if y = c then 0 else O2 y))).1 (B + 35) = some (al (arL 5 fun y => if y = c then 0 else O2 y)) := up_s _ _ _
      generalize up k1 (B + 34 + 1) (al (arL 5 fun y => if y = c then 0 else O2 y)) = k2 at F2 a2 b2 ⊢
      have x2 : IX k2 B g σ := ⟨h3.1.fr w F2 (fun a ha => by omega), h3.2.u58 F2 (fun a ha => by omega) ⟨_, _, _, _, _, F2.at h5 (by omega), hl⟩ (h3.2.2.2.2.2.2.1.ag (Ag.fr F2 (fun a ha => by omega))) (h3.2.2.2.2.2.2.2.1.ag (Ag.fr F2 (fun a ha => by omega))) ⟨F2.at h6 (by omega), _, _, a2, b2⟩⟩
      have f2 := h4.tr F2 (fun a ha => by omega)
      have y2 := x2.1.2.2.2.1 b hb
      have ck := checkAt_e y2 n5 (nI c)
      have next : ∀ (k : Hp) (P1 P2 : Nat → Int64), Fr (fun y => B + 26 ≤ y ∧ y < B + 36) hs k → IX k B g σ → FrC B h0 k → k.1 (B + 26) = some (ob 3 [vr (some (B + 27)), vr (some (B + 29)), vr (some (B + 33)), vi (shI σ b mode), vi (-1), vi fe, vi fw, vi ft]) → k.1 (B + 33) = some (aq 6 (arQ 2 (fun i => some (B + 34 + i)))) → k.1 (B + 34) = some (al (arL 5 P1)) → k.1 (B + 35) = some (al (arL 5 P2)) → (∀ c', c' < c → P1 c' = O1 c' ∧ P2 c' = O2 c') → (c < ncd σ b → P1 c = othM σ b c mode 0 ∧ P2 c = othM σ b c mode 1) → WP (fX3_prepare_73 f (B + 26) (some (gB g b + 2)) us v5 (nI c + 1)) k Q := by
        intro k P1 P2 e0 e1 e2 e3 e4 e5 e6 e7 e8
        rw [nI_1]
        refine prep_l (h := h) w hb hl hus q f (c + 1) k P1 P2 e0 (by omega) (by omega) e1 e2 e3 e4 e5 e6 (fun c' g1 g2 => ?_)
        by_cases z : c' = c
        · subst z; exact e8 g2
        · rw [(e7 c' (by omega)).1, (e7 c' (by omega)).2]; exact h9 c' (by omega) g2
      by_cases hc : c < ncd σ b
      · rw [inB_of hc (by omega), if_pos rfl, show toN (nI c) = c by unfold toN nI; simp; omega] at ck
        refine wp_e (by rw [vc_e y2.1]; exact ck) ?_
        rw [if_neg (show ¬ (some (gC g b c) = none) by simp)]
        by_cases v0 : v5 = 0
        · rw [if_pos v0]
          refine next k2 _ _ (hf.tr (F2.mono (fun y hy => by omega))) x2 f2 (F2.at h5 (by omega)) (F2.at h6 (by omega)) a2 b2 (fun c' hc' => by simp [show c' ≠ c by omega]) (fun _ => ?_)
          simp only [if_true]
          rcases hus with ⟨_, z⟩ | ⟨u, _, _, z⟩
          · exact ⟨(z c 0 hc (Or.inl rfl)).symm, (z c 1 hc (Or.inr rfl)).symm⟩
          · rw [z c 0 hc (Or.inl rfl), z c 1 hc (Or.inr rfl), v0]
            simp
        · rw [if_neg v0]
          rcases hus with ⟨z, _⟩ | ⟨u, hu, eu, z⟩
          · exact absurd z v0
          · subst eu
            obtain ⟨lf, l1, l2⟩ := x2.1.2.2.2.2.1 b c hb hc
            obtain ⟨t8, wt, hn, wT, ea⟩ := w.tr hu
            obtain ⟨W', gn', t1', hW', hg'⟩ := trV (x2.1.2.2.2.2.2.1 u hu) wt
            have v' := w.tv hu hW' hg'
            obtain ⟨T0, F0, s0⟩ := x2.2.2.2.2.2.2.1
            obtain ⟨g0, l0, e0⟩ := x2.2.2.2.2.2.2.2.1
            have o := (x2.1.2.2.2.2.2.2.2.2.2 u hu).1
            have oc := (x2.1.2.2.2.2.2.2.2.2.1 b c hb hc).1
            have p26 := F2.at h5 (show ¬ (B + 26 = B + 34 ∨ B + 26 = B + 35) by omega)
            have p33 := F2.at h6 (show ¬ (B + 33 = B + 34 ∨ B + 33 = B + 35) by omega)
            refine wp_gA (k := 1) p26 rfl (wp_gA (k := 0) l1.1 rfl (wp_gA (k := 0) p26 rfl ?_))
            refine wp_bd (wp_vc e0.1 (find_m (B := B) (b := b) (kind := kdC σ b c) (x := atC σ b c) v' wb.2.1.2 l2 l1.2 t1' s0 e0 rfl (by omega) (fun y hy => by omega) (fun k3 T3 F3 f3 s3 e3 => ?_)))
            have q26 := f3.at p26 (by omega)
            have q33 := f3.at p33 (by omega)
            refine wp_gA (k := 2) q26 rfl (wp_ldQ (j := 0) q33 rfl (by omega) (by omega) ?_)
            refine wp_gA (k := 1) q26 rfl (wp_gA (k := 0) e3.1 rfl (wp_ldL (j := 0) e3.2.1 rfl (by omega) (by omega) ?_))
            refine wp_stL (show k3.1 (B + 34 + 0) = _ from f3.at a2 (by omega)) rfl (by omega) (by omega) ?_
            rw [pr_0, ← EM_0]
            generalize hP1 : (fun y => if y = c then v5 * (EM σ b (kdC σ b c) (atC σ b c) u 0).1 else if y = c then 0 else O1 y) = P1
            have F4 : Fr (fun y => y = B + 34) k3 (up k3 (B + 34 + 0) (al (arL 5 P1))) := (Fr.rf _ k3).put _ rfl
            have a4 : (up k3 (B + 34 + 0) (al (arL 5 P1))).1 (B + 34) = some (al (arL 5 P1)) := up_s _ _ _
            generalize up k3 (B + 34 + 0) (al (arL 5 P1)) = k4 at F4 a4 ⊢
            have e4 := e3.fr F4 ⟨by omega, by omega, by omega, by omega⟩
            refine wp_gA (k := 2) (F4.at q26 (by omega)) rfl (wp_ldQ (j := 1) (F4.at q33 (by omega)) rfl (by omega) (by omega) ?_)
            refine wp_gA (k := 1) (F4.at q26 (by omega)) rfl (wp_gA (k := 0) e4.1 rfl (wp_ldL (j := 1) e4.2.1 rfl (by omega) (by omega) ?_))
            refine wp_stL (show k4.1 (B + 34 + 1) = _ from F4.at (f3.at b2 (by omega)) (show ¬ B + 35 = B + 34 by omega)) rfl (by omega) (by omega) ?_
            rw [pr_1, ← EM_1]
            generalize hP2 : (fun y => if y = c then v5 * (EM σ b (kdC σ b c) (atC σ b c) u 1).1 else if y = c then 0 else O2 y) = P2
            have F5 : Fr (fun y => y = B + 34 ∨ y = B + 35) k3 (up k4 (B + 34 + 1) (al (arL 5 P2))) := (F4.mono (fun y hy => Or.inl hy)).put _ (Or.inr rfl)
            have a5 : (up k4 (B + 34 + 1) (al (arL 5 P2))).1 (B + 34) = some (al (arL 5 P1)) := by rw [up_n (by omega)]; exact a4
            have b5 : (up k4 (B + 34 + 1) (al (arL 5 P2))).1 (B + 35) = some (al (arL 5 P2)) := up_s _ _ _
            generalize up k4 (B + 34 + 1) (al (arL 5 P2)) = k5 at F5 a5 b5 ⊢
            have FF : Fr (fun y => (B + 27 ≤ y ∧ y < B + 29) ∨ (B + 29 < y ∧ y < B + 33) ∨ y = B + 34 ∨ y = B + 35) k2 k5 := (f3.mono (fun y hy => by omega)).tr (F5.mono (fun y hy => by omega))
            have x5 : IX k5 B g σ := ⟨x2.1.fr w FF (fun a ha => by omega), x2.2.u58 FF (fun a ha => by omega) ⟨_, _, _, _, _, FF.at p26 (by omega), hl⟩ ⟨_, _, s3.fr F5 ⟨by omega, by omega⟩⟩ ⟨_, _, e3.fr F5 ⟨by omega, by omega, by omega, by omega⟩⟩ ⟨FF.at p33 (by omega), _, _, a5, b5⟩⟩
            refine next k5 P1 P2 ((hf.tr (F2.mono (fun y hy => by omega))).tr (FF.mono (fun y hy => by omega))) x5 (f2.tr FF (fun a ha => by omega)) (FF.at p26 (by omega)) (FF.at p33 (by omega)) a5 b5 (fun c' hc' => ?_) (fun _ => ?_)
            · rw [← hP1, ← hP2]; simp [show c' ≠ c by omega]
            · rw [← hP1, ← hP2]
              simp only [if_true]
              exact ⟨(z c 0 hc (Or.inl rfl)).symm, (z c 1 hc (Or.inr rfl)).symm⟩
      · have nin : inB (nI c) 0 (nI (ncd σ b) - 1) = false := by
          cases hz : inB (nI c) 0 (nI (ncd σ b) - 1)
          · rfl
          · obtain ⟨j, hj, ej⟩ := inB_ix (by omega) hz
            have := (nI_eq (by omega) (by omega)).mp ej
            omega
        rw [nin] at ck
        refine wp_e (by rw [vc_e y2.1]; exact ck) ?_
        rw [if_pos (by simp)]
        refine next k2 _ _ (hf.tr (F2.mono (fun y hy => by omega))) x2 f2 (F2.at h5 (by omega)) (F2.at h6 (by omega)) a2 b2 (fun c' hc' => by simp [show c' ≠ c by omega]) (fun z => absurd z hc)
