/-! The class: costs spread, the first road on, the search. -/
section spr
variable {B : Nat} {σ : MS} {wc wm : Int32} {C Y : Nat → Int32} {e : Nat} {op lb : Nat → Bool} {fa st : Nat → Nat}
/-- the costs as numbers -/
def KN (K : Nat → Int32) (κ : Nat → Nat) : Prop := ∀ y, y < 10 → K y = nI (κ y)
theorem KN.up {K : Nat → Int32} {κ : Nat → Nat} (x : KN K κ) {u v c : Nat} {z : Int32} (hz : z = nI (min (κ u) (κ v + c))) : KN (fun y => if y = u then z else K y) (kUp κ u v c) := by
  intro y hy
  unfold kUp
  by_cases q : y = u
  · simp only [if_pos q]; exact hz
  · simp only [if_neg q]; exact x y hy
theorem sp26 {hs : Hp} {k : Nat} {v2 : Int32} {k18 : Nat → Int32 → Mo Unit} (w : WF σ) (hC : ∀ r, r < nrd σ → C r = bI (!op r)) (fx : FX (nrd σ) op (rdF σ) (rdT σ) (rdM σ) e lb fa st) {Q : Unit → Hp → Prop}
    (q : ∀ h2 K κ, RC h2 B σ wc wm C K Y → Fr (fun y => y = B + 9) hs h2 → KN K κ → KB lb fa st κ → KP (rdF σ) (rdT σ) (rdM σ) op lb fa st k (nrd σ) κ → κ e = 0 → WP (k18 (B + 3) (v2 + 1)) h2 Q) :
    ∀ (f r : Nat) (h : Hp) (K : Nat → Int32) (κ : Nat → Nat), r ≤ nrd σ → nrd σ < r + f → RC h B σ wc wm C K Y → Fr (fun y => y = B + 9) hs h → KN K κ → KB lb fa st κ → KP (rdF σ) (rdT σ) (rdM σ) op lb fa st k r κ → κ e = 0 → WP (fX5_spreadCosts_26 k18 f (B + 3) v2 (nI r)) h Q
  | 0, r, h, K, κ, h1, h2, x, fr, hK, kb, kp, k0 => by omega
  | f + 1, r, h, K, κ, h1, h2, x, fr, hK, kb, kp, k0 => by
    have r24 := w.2.2.1.2
    show WP (bX5_spreadCosts_26 k18 (fX5_spreadCosts_26 k18 f) (B + 3) v2 (nI r)) h Q
    unfold bX5_spreadCosts_26
    refine wp_gI (k := 5) x.1.1 rfl ?_
    by_cases c : nrd σ ≤ r
    · have : r = nrd σ := by omega
      subst this
      rw [if_pos (nI_le c (by omega))]
      exact q h K κ x fr hK kb kp k0
    · rw [if_neg (nI_ge (by omega) (by omega))]
      have hr : r < nrd σ := by omega
      refine wp_gA (k := 4) x.1.1 rfl (wp_ldI x.2.1 rfl (by omega) (by omega) ?_)
      rw [hC r hr]
      cases ho : op r
      · rw [if_neg (show ¬ bI (!false) = 0 by decide), nI_1]
        refine sp26 w hC fx q f (r + 1) h K κ (by omega) (by omega) x fr hK kb (fun u hu lu hh => ?_) k0
        refine kp u hu lu ?_
        rcases hh with hh | ⟨hh, r', v, a1, a2, a3⟩
        · exact Or.inl hh
        · refine Or.inr ⟨hh, r', v, ?_, a2, a3⟩
          by_cases z : r' = r
          · subst z; rw [ho] at a2; cases a2
          · omega
      · rw [if_pos (show bI (!true) = 0 from rfl)]
        obtain ⟨g1, g2, g3, g4, g5⟩ := w.rg.1 r hr
        obtain ⟨a1, a2, a3⟩ := w.rg.2 r hr
        have bf := kb _ g1
        have bt := kb _ g2
        refine wp_gA (k := 0) x.1.1 rfl (wp_ldI x.1.2.1 rfl (by omega) (by omega) ?_)
        rw [a1]
        refine wp_gA (k := 1) x.1.1 rfl (wp_ldI x.1.2.2.1 rfl (by omega) (by omega) ?_)
        rw [a2]
        refine wp_gA (k := 6) x.1.1 rfl (wp_gA (k := 6) x.1.1 rfl (wp_ldI x.2.2.1 rfl g1 (by omega) ?_))
        refine wp_gA (k := 6) x.1.1 rfl (wp_ldI x.2.2.1 rfl g2 (by omega) ?_)
        refine wp_e (by rw [vc_e x.1.1]; exact costOf_e w x hr) ?_
        refine wp_stI x.2.2.1 rfl g1 (by omega) ?_
        have x1 := x.k9 (fun y => if y = rdF σ r then mnI (K (rdF σ r)) (K (rdT σ r) + nI (1000 * rdM σ r + 1)) else K y)
        have hK1 : KN (fun y => if y = rdF σ r then mnI (K (rdF σ r)) (K (rdT σ r) + nI (1000 * rdM σ r + 1)) else K y) (kUp κ (rdF σ r) (rdT σ r) (1000 * rdM σ r + 1)) := hK.up (by rw [hK _ g1, hK _ g2, nI_add, mnI_N (by omega) (by omega)])
        have fr1 : Fr (fun y => y = B + 9) hs (up h (B + 9) (ai 0 (arI 10 (fun y => if y = rdF σ r then mnI (K (rdF σ r)) (K (rdT σ r) + nI (1000 * rdM σ r + 1)) else K y)))) := fr.put _ rfl
        generalize up h (B + 9) (ai 0 (arI 10 (fun y => if y = rdF σ r then mnI (K (rdF σ r)) (K (rdT σ r) + nI (1000 * rdM σ r + 1)) else K y))) = hh at x1 fr1 ⊢
        generalize (fun y => if y = rdF σ r then mnI (K (rdF σ r)) (K (rdT σ r) + nI (1000 * rdM σ r + 1)) else K y) = K1 at x1 hK1
        obtain ⟨kb2, kp2⟩ := kp.step w.rg.1 fx hr ho kb
        have kb1 := (kb.up w.rg.1 fx hr ho (Or.inl ⟨rfl, rfl⟩)).1
        have cf := kb1 _ g1
        have ct := kb1 _ g2
        have k1 := kUp_0 k0 (rdF σ r) (rdT σ r) (1000 * rdM σ r + 1)
        generalize kUp κ (rdF σ r) (rdT σ r) (1000 * rdM σ r + 1) = κ1 at hK1 kb2 kp2 cf ct k1
        refine wp_gA (k := 6) x1.1.1 rfl (wp_gA (k := 6) x1.1.1 rfl (wp_ldI x1.2.2.1 rfl g2 (by omega) ?_))
        refine wp_gA (k := 6) x1.1.1 rfl (wp_ldI x1.2.2.1 rfl g1 (by omega) ?_)
        refine wp_e (by rw [vc_e x1.1.1]; exact costOf_e w x1 hr) ?_
        refine wp_stI x1.2.2.1 rfl g2 (by omega) ?_
        rw [nI_1]
        exact sp26 w hC fx q f (r + 1) _ _ _ (by omega) (by omega) (x1.k9 _) (fr1.put _ rfl) (hK1.up (by rw [hK1 _ g1, hK1 _ g2, nI_add, mnI_N (by omega) (by omega)])) kb2 kp2 (kUp_0 k1 _ _ _)
theorem sp18 {hs : Hp} (w : WF σ) (hC : ∀ r, r < nrd σ → C r = bI (!op r)) (fx : FX (nrd σ) op (rdF σ) (rdT σ) (rdM σ) e lb fa st) {Q : Unit → Hp → Prop}
    (q : ∀ h2 K, RC h2 B σ wc wm C K Y → Fr (fun y => y = B + 9) hs h2 → KN K (cN lb fa st) → Q () h2) :
    ∀ (f k : Nat) (h : Hp) (K : Nat → Int32) (κ : Nat → Nat), k ≤ 10 → 10 < k + f → RC h B σ wc wm C K Y → Fr (fun y => y = B + 9) hs h → KN K κ → KB lb fa st κ → KP (rdF σ) (rdT σ) (rdM σ) op lb fa st k 0 κ → κ e = 0 → WP (fX5_spreadCosts_18 f (B + 3) (nI k)) h Q
  | 0, k, h, K, κ, h1, h2, x, fr, hK, kb, kp, k0 => by omega
  | f + 1, k, h, K, κ, h1, h2, x, fr, hK, kb, kp, k0 => by
    have r24 := w.2.2.1.2
    show WP (bX5_spreadCosts_18 (fX5_spreadCosts_18 f) (B + 3) (nI k)) h Q
    unfold bX5_spreadCosts_18
    by_cases c : 10 ≤ k
    · have : k = 10 := by omega
      subst this
      rw [if_pos (show (10 : Int32) ≤ nI 10 by decide)]
      refine wp_rn (q h K x fr (fun u hu => ?_))
      rw [hK u hu]
      congr 1
      cases hl : lb u
      · have := kb u hu
        rw [show cN lb fa st u = 1000000000 by unfold cN; rw [hl, if_neg (by decide)]] at this ⊢
        omega
      · exact kp u hu hl (Or.inl (by have := fx.le w.rg.1 hu hl; omega))
    · rw [if_neg (show ¬ (10 : Int32) ≤ nI k from nI_ge (b := 10) (by omega) (by omega))]
      refine sp26 (hs := hs) (k := k) w hC fx (fun h2 K2 κ2 x2 fr2 hK2 kb2 kp2 k02 => ?_) FU 0 h K κ (by omega) (by unfold FU; omega) x fr hK kb kp k0
      rw [nI_1]
      exact sp18 w hC fx q f (k + 1) h2 K2 κ2 (by omega) (by omega) x2 fr2 hK2 kb2 (kp2.next w.rg.1 fx k02) k02
theorem spread_w {h : Hp} {K : Nat → Int32} (w : WF σ) (e10 : e < 10) (x : RC h B σ wc wm C K Y) (hC : ∀ r, r < nrd σ → C r = bI (!op r)) (fx : FX (nrd σ) op (rdF σ) (rdT σ) (rdM σ) e lb fa st) {Q : Unit → Hp → Prop}
    (q : ∀ h2 K, RC h2 B σ wc wm C K Y → Fr (fun y => y = B + 9) h h2 → KN K (cN lb fa st) → Q () h2) : WP (pX5_spreadCosts (B + 3) (nI e)) h Q := by
  unfold pX5_spreadCosts
  refine wp_gA (k := 6) x.1.1 rfl (wp_bd ?_)
  unfold pJ7_fill_53178
  refine wp_alnI x.2.2.1 ?_
  refine fillI_l (hs := h) (by omega) (fun h2 F x2 fr2 hF => ?_) FU 0 h K (by omega) (by unfold FU; omega) x.2.2.1 (Fr.rf _ h) (fun j hj => by omega)
  have y2 := x.k9f fr2 x2
  refine wp_gA (k := 6) y2.1.1 rfl (wp_stI y2.2.2.1 rfl e10 (by omega) ?_)
  refine sp18 (hs := h) w hC fx q FU 1 _ _ (fun y => if y = e then 0 else 1000000000) (by omega) (by unfold FU; omega) (y2.k9 _) (fr2.put _ rfl) (fun y hy => ?_) (fun u hu => ?_) (fun u hu lu hh => ?_) (by simp)
  · by_cases z : y = e
    · simp only [if_pos z]; rfl
    · simp only [if_neg z]; exact hF y hy
  · by_cases z : u = e
    · subst z
      simp only [if_pos]
      unfold cN
      rw [fx.1, fx.2.1, fx.2.2.1, if_pos rfl]
      omega
    · simp only [if_neg z]
      exact ⟨(cN_le w.rg.1 fx hu).1, Nat.le_refl _⟩
  · have s0 : st u = 0 := by
      rcases hh with hh | ⟨_, r', _, a1, _⟩
      · omega
      · omega
    have : u = e := by
      apply Classical.byContradiction
      intro ne
      obtain ⟨_, _, _, _, _, _, _, a6⟩ := fx.2.2.2.2 u hu ne lu
      omega
    subst this
    simp only [if_pos]
    unfold cN
    rw [fx.1, fx.2.1, fx.2.2.1, if_pos rfl]
theorem tgN_c {n : Nat} {f t m : Nat → Nat} (g : RdG n f t m) (x : FX n op f t m e lb fa st) {k u : Nat} (hk : k < n) (lu : lb u = true) (c : f k = u ∨ t k = u) (ho : op k = true) : (tgN f t m op lb fa st u k = true ↔ cN lb fa st (otN f t k u) + (1000 * m k + 1) = cN lb fa st u) := by
  have en : En f t k u (otN f t k u) := by
    unfold otN
    by_cases z : f k = u
    · rw [if_pos z]; exact Or.inl ⟨z, rfl⟩
    · rw [if_neg z]
      rcases c with q | q
      · exact absurd q z
      · exact Or.inr ⟨q, rfl⟩
  rw [cN_iff g x hk en lu]
  unfold tgN
  simp only [Bool.and_eq_true, decide_eq_true_eq]
  constructor
  · intro h; exact ⟨h.1.1.2, h.1.2, h.2⟩
  · intro h; exact ⟨⟨⟨⟨c, ho⟩, h.1⟩, h.2.1⟩, h.2.2⟩
theorem fro_l {h : Hp} {K : Nat → Int32} {u ρ : Nat} (w : WF σ) (x : RC h B σ wc wm C K Y) (hC : ∀ r, r < nrd σ → C r = bI (!op r)) (hK : KN K (cN lb fa st)) (fx : FX (nrd σ) op (rdF σ) (rdT σ) (rdM σ) e lb fa st) (hu : u < 10) (lu : lb u = true) (hρ : ρ < nrd σ) {Q : Int32 → Hp → Prop} (q : Q (nI ρ) h) :
    ∀ (f k : Nat), k ≤ nrd σ → nrd σ < k + f → fsN (tgN (rdF σ) (rdT σ) (rdM σ) op lb fa st u) (nrd σ - k) k = ρ → WP (fX5_firstRoadOn_2 f (B + 3) (nI u) (nI k)) h Q
  | 0, k, h1, h2, h3 => by omega
  | f + 1, k, h1, h2, h3 => by
    have r24 := w.2.2.1.2
    have kn : k < nrd σ := by
      apply Classical.byContradiction
      intro c
      have : k = nrd σ := by omega
      subst this
      rw [Nat.sub_self, fsN] at h3
      omega
    obtain ⟨g1, g2, g3, g4, g5⟩ := w.rg.1 k kn
    obtain ⟨a1, a2, a3⟩ := w.rg.2 k kn
    rw [show nrd σ - k = (nrd σ - (k + 1)) + 1 by omega, fsN] at h3
    show WP (bX5_firstRoadOn_2 (fX5_firstRoadOn_2 f) (B + 3) (nI u) (nI k)) h Q
    unfold bX5_firstRoadOn_2
    refine wp_gI (k := 5) x.1.1 rfl ?_
    rw [if_neg (nI_ge kn (by omega))]
    refine wp_gA (k := 0) x.1.1 rfl (wp_ldI x.1.2.1 rfl (by omega) (by omega) ?_)
    rw [a1]
    have no : tgN (rdF σ) (rdT σ) (rdM σ) op lb fa st u k = false → WP (fX5_firstRoadOn_2 f (B + 3) (nI u) (nI k + 1)) h Q := by
      intro z
      rw [z, if_neg (by decide)] at h3
      rw [nI_1]
      exact fro_l w x hC hK fx hu lu hρ q f (k + 1) (by omega) (by omega) h3
    have on : (rdF σ k = u ∨ rdT σ k = u) → WP (bX5_firstRoadOn_35 (fX5_firstRoadOn_2 f) (B + 3) (nI u) (nI k) 1) h Q := by
      intro c
      unfold bX5_firstRoadOn_35
      rw [if_neg (by decide)]
      refine wp_gA (k := 4) x.1.1 rfl (wp_ldI x.2.1 rfl (by omega) (by omega) ?_)
      rw [hC k kn]
      cases ho : op k
      · rw [if_neg (show ¬ bI (!false) = 0 by decide)]
        refine no ?_
        unfold tgN
        rw [ho]
        simp
      · rw [if_pos (show bI (!true) = 0 from rfl)]
        have tc := tgN_c w.rg.1 fx kn lu c ho
        have o10 : otN (rdF σ) (rdT σ) k u < 10 := by unfold otN; split <;> omega
        have b1 := (cN_le w.rg.1 fx hu).1
        have b2 := (cN_le w.rg.1 fx o10).1
        refine wp_gA (k := 6) x.1.1 rfl ?_
        refine wp_e (by rw [vc_e x.1.1]; exact otherEnd_e w x kn hu) ?_
        refine wp_ldI x.2.2.1 rfl o10 (by omega) ?_
        refine wp_e (by rw [vc_e x.1.1]; exact costOf_e w x kn) ?_
        refine wp_gA (k := 6) x.1.1 rfl (wp_ldI x.2.2.1 rfl hu (by omega) ?_)
        rw [hK _ o10, hK _ hu, nI_add]
        by_cases z : cN lb fa st (otN (rdF σ) (rdT σ) k u) + (1000 * rdM σ k + 1) = cN lb fa st u
        · rw [if_pos (congrArg nI z)]
          rw [if_pos (tc.mpr z)] at h3
          subst h3
          exact wp_rn q
        · rw [if_neg (fun y => z ((nI_eq (by omega) (by omega)).mp y))]
          exact no (Bool.eq_false_iff.mpr (fun y => z (tc.mp y)))
    by_cases c1 : rdF σ k = u
    · rw [if_pos (congrArg nI c1)]
      exact on (Or.inl c1)
    · rw [if_neg (fun y => c1 ((nI_eq (by omega) (by omega)).mp y))]
      refine wp_gA (k := 1) x.1.1 rfl (wp_ldI x.1.2.2.1 rfl (by omega) (by omega) ?_)
      rw [a2]
      by_cases c2 : rdT σ k = u
      · rw [if_pos (congrArg nI c2)]
        exact on (Or.inr c2)
      · rw [if_neg (fun y => c2 ((nI_eq (by omega) (by omega)).mp y))]
        unfold bX5_firstRoadOn_35
        rw [if_pos rfl]
        refine no ?_
        unfold tgN
        rw [decide_eq_false (by omega)]
        simp
theorem se42 {hs : Hp} {K : Nat → Int32} {u : Nat} (w : WF σ) (e10 : e < 10) (hC : ∀ r, r < nrd σ → C r = bI (!op r)) (hK : KN K (cN lb fa st)) (fx : FX (nrd σ) op (rdF σ) (rdT σ) (rdM σ) e lb fa st) (hu : u < 10) (lu : lb u = true) {Q : Int32 → Hp → Prop}
    (q : ∀ h2 Y, RC h2 B σ (nI (st u)) wm C K Y → Fr (fun y => y = B + 3 ∨ y = B + 9 ∨ y = B + 10) hs h2 → (∀ j, j < st u → Y j = nI (rdN (nrd σ) (rdF σ) (rdT σ) (rdM σ) op lb fa st u j)) → Q 1 h2) :
    ∀ (f i : Nat) (h : Hp) (Y : Nat → Int32), i ≤ st u → st u < i + f → RC h B σ (nI i) wm C K Y → Fr (fun y => y = B + 3 ∨ y = B + 9 ∨ y = B + 10) hs h → (∀ j, j < i → Y j = nI (rdN (nrd σ) (rdF σ) (rdT σ) (rdM σ) op lb fa st u j)) → WP (fX5_search_42 f (B + 3) (nI e) (nI (wkN (nrd σ) (rdF σ) (rdT σ) (rdM σ) op lb fa st u i)) (nI i)) h Q
  | 0, i, h, Y, h1, h2, x, fr, hY => by omega
  | f + 1, i, h, Y, h1, h2, x, fr, hY => by
    have r24 := w.2.2.1.2
    have s9 := fx.le w.rg.1 hu lu
    obtain ⟨a1, a2, a3⟩ := wkN_p w.rg.1 fx hu lu i h1
    have ee := wkN_e w.rg.1 fx hu lu h1
    show WP (bX5_search_42 (fX5_search_42 f) (B + 3) (nI e) (nI (wkN (nrd σ) (rdF σ) (rdT σ) (rdM σ) op lb fa st u i)) (nI i)) h Q
    unfold bX5_search_42
    rw [if_neg (show ¬ (10 : Int32) ≤ nI i from nI_ge (b := 10) (by omega) (by omega))]
    by_cases c : wkN (nrd σ) (rdF σ) (rdT σ) (rdM σ) op lb fa st u i = e
    · rw [if_pos (congrArg nI c)]
      have := ee.mp c
      subst this
      exact wp_rnZ (Or.inr rfl) (q h Y x fr hY)
    · rw [if_neg (fun z => c ((nI_eq (by omega) (by omega)).mp z))]
      have ni : i ≠ st u := fun z => c (ee.mpr z)
      obtain ⟨b1, b2⟩ := frN_p w.rg.1 fx a1 c a2
      refine wp_bd (wp_vc x.1.1 (fro_l w x hC hK fx a1 a2 b1 ?_ FU 0 (by omega) (by unfold FU; omega) rfl))
      rw [if_neg (nI_nm1 (by omega))]
      refine wp_gA (k := 7) x.1.1 rfl (wp_stI x.2.2.2 rfl (by omega) (by omega) ?_)
      have x1 := x.y10 (fun y => if y = i then nI (frN (nrd σ) (rdF σ) (rdT σ) (rdM σ) op lb fa st (wkN (nrd σ) (rdF σ) (rdT σ) (rdM σ) op lb fa st u i)) else Y y)
      refine wp_gI (k := 8) x1.1.1 rfl ?_
      refine wp_pF (k := 8) x1.1.1 (by simp) ?_
      rw [nI_1]
      have x2 := x1.o3 (nI (i + 1)) wm
      refine wp_e (by rw [vc_e (up_s _ _ _)]; exact otherEnd_e w x2 b1 a1) ?_
      refine se42 w e10 hC hK fx hu lu q f (i + 1) _ _ (by omega) (by omega) x2 ((fr.put _ (Or.inr (Or.inr rfl))).put _ (Or.inl rfl)) (fun j hj => ?_)
      by_cases z : j = i
      · subst z
        simp only [if_pos]
        rfl
      · simp only [if_neg z]
        exact hY j (by omega)
/-- the search: is there a way, and which -/
theorem search_w {h : Hp} {K : Nat → Int32} {u : Nat} (w : WF σ) (e10 : e < 10) (x : RC h B σ wc wm C K Y) (hC : ∀ r, r < nrd σ → C r = bI (!op r)) (fx : FX (nrd σ) op (rdF σ) (rdT σ) (rdM σ) e lb fa st) (hu : u < 10) {Q : Int32 → Hp → Prop}
    (q : ∀ h2 wc wm K Y, RC h2 B σ wc wm C K Y → Fr (fun y => y = B + 3 ∨ y = B + 9 ∨ y = B + 10) h h2 → (lb u = true → wc = nI (st u) ∧ wm = nI (fa u) ∧ ∀ j, j < st u → Y j = nI (rdN (nrd σ) (rdF σ) (rdT σ) (rdM σ) op lb fa st u j)) → Q (bI (lb u)) h2) : WP (pX5_search (B + 3) (nI u) (nI e)) h Q := by
  unfold pX5_search
  refine wp_bd (wp_vc x.1.1 (spread_w w e10 x hC fx (fun h2 K2 x2 fr2 hK2 => ?_)))
  refine wp_pF (k := 8) x2.1.1 (by simp) ?_
  have x3 := x2.o3 (nI 0) wm
  refine wp_gA (k := 6) (up_s _ _ _) rfl (wp_ldI x3.2.2.1 rfl hu (by omega) ?_)
  have b1 := cN_le w.rg.1 fx hu
  rw [hK2 u hu]
  refine wp_e (dvI_e (by decide)) ?_
  rw [show (1000 : Int32) = nI 1000 from rfl, nI_div (by omega) (by omega) (by omega)]
  refine wp_pF (k := 9) x3.1.1 (by simp) ?_
  have x4 := x3.o3 (nI 0) (nI (cN lb fa st u / 1000))
  refine wp_gA (k := 6) (up_s _ _ _) rfl (wp_ldI x4.2.2.1 rfl hu (by omega) ?_)
  rw [hK2 u hu]
  have fr4 := (fr2.mono (T := fun y => y = B + 3 ∨ y = B + 9 ∨ y = B + 10) (fun y hy => by omega))
  cases hl : lb u
  · rw [show cN lb fa st u = 1000000000 by unfold cN; rw [hl, if_neg (by decide)], if_neg (show ¬ nI 1000000000 < (1000000000 : Int32) by decide)]
    rw [show cN lb fa st u = 1000000000 by unfold cN; rw [hl, if_neg (by decide)]] at x4
    have := q _ _ _ _ _ x4 ((fr4.put _ (Or.inl rfl)).put _ (Or.inl rfl)) (fun z => by rw [hl] at z; cases z)
    rw [hl] at this
    exact wp_rnZ (Or.inl rfl) this
  · have s9 := fx.le w.rg.1 hu hl
    have ec : cN lb fa st u = 1000 * fa u + st u := by unfold cN; rw [hl, if_pos rfl]
    have ed : cN lb fa st u / 1000 = fa u := by rw [ec]; omega
    rw [if_pos (show nI (cN lb fa st u) < (1000000000 : Int32) from nI_lt (b := 1000000000) (by have := b1.2 hl; omega) (by omega))]
    refine se42 (hs := h) w e10 hC hK2 fx hu hl (fun h5 Y5 x5 fr5 hY5 => ?_) FU 0 _ _ (by omega) (by unfold FU; omega) x4 ((fr4.put _ (Or.inl rfl)).put _ (Or.inl rfl)) (fun j hj => by omega)
    rw [ed] at x5
    have := q _ _ _ _ _ x5 fr5 (fun _ => ⟨rfl, rfl, hY5⟩)
    rw [hl] at this
    exact this
end spr
