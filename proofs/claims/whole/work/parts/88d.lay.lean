/-! The reference: layRoute, open. -/
section lay
variable {n e : Nat} {op : Nat → Bool} {f t m : Nat → Nat} {lb : Nat → Bool} {fa st : Nat → Nat}
def LbX (τ : MS) (lb : Nat → Bool) (fa st : Nat → Nat) : Prop := ∀ u, u < 10 → τ.a 34 u = lbI lb fa u ∧ (lb u = true → τ.a 35 u = nI (st u))
theorem LbX.sa {τ : MS} (x : LbX τ lb fa st) (j : Nat) (v : Int32) : LbX (τ.sa 36 j v) lb fa st := fun u hu => by
  rw [sa_a, sa_a, if_neg (by omega), if_neg (by omega)]; exact x u hu
theorem LbS.x {lb' : Nat → Bool} {fa' st' : Nat → Nat} {τ : MS} (g : RdG n f t m) (l : LbS τ lb' fa' st') (x : FX n op f t m e lb fa st) (y : FX n op f t m e lb' fa' st') : LbX τ lb fa st := by
  intro u hu
  obtain ⟨a, b⟩ := x.uq g y hu
  obtain ⟨c, d⟩ := l u hu
  unfold lbI at c ⊢
  rw [c, d, a]
  constructor
  · by_cases z : lb u = true
    · rw [if_pos z, if_pos z, (b z).1]
    · rw [if_neg z, if_neg z]
  · intro z; rw [(b z).2]
theorem beyond_r {M r u : Nat} {τ : MS} (g : RdG n f t m) (hd : RdS τ n f t m op) (hr : r < n) (hu : u < 10) : RO M (pX11_beyond M (nI r) (nI u)) τ (if f r = u ∨ t r = u then nI (otN f t r u) else -1) := by
  have n24 := hd.2.1
  obtain ⟨g1, g2, g3, _⟩ := g r hr
  obtain ⟨d1, d2, _⟩ := hd.2.2 r hr
  unfold pX11_beyond otN
  refine ro_gA (ro_ldI r rfl (by show _ < 24; omega) ?_)
  rw [d1]
  by_cases c : f r = u
  · rw [if_pos (congrArg nI c), if_pos (Or.inl c), if_pos c]
    refine ro_gA (ro_ldI r rfl (by show _ < 24; omega) ?_)
    rw [d2]
    exact ro_rn
  · rw [if_neg (fun q => c ((nI_eq (by omega) (by omega)).mp q)), if_neg c]
    refine ro_gA (ro_ldI r rfl (by show _ < 24; omega) ?_)
    rw [d2]
    by_cases c2 : t r = u
    · rw [if_pos (congrArg nI c2), if_pos (Or.inr c2)]
      refine ro_gA (ro_ldI r rfl (by show _ < 24; omega) ?_)
      rw [d1]
      exact ro_rn
    · rw [if_neg (fun q => c2 ((nI_eq (by omega) (by omega)).mp q)), if_neg (by omega)]
      exact ro_rn
theorem lay32 {M w i ρ : Nat} {k21 : Nat → Int32 → Int32 → Int32 → Mo Int32} {τ : MS} {Q : Int32 → MS → Prop} (g : RdG n f t m) (x : FX n op f t m e lb fa st) (hd : RdS τ n f t m op) (hl : LbX τ lb fa st) (hw : w < 10) (lw : lb w = true) (hi : i < 12) (hρ : ρ < n) (pρ : tgN f t m op lb fa st w ρ = true) (q : RM M (k21 M (nI e) (nI (otN f t ρ w)) (nI (i + 1))) (τ.sa 36 i (nI ρ)) Q) : ∀ (F k : Nat), k ≤ n → n + 1 < k + F → fsN (tgN f t m op lb fa st w) (n - k) k = ρ → RM M (fX11_layRoute_32 k21 F M (nI e) (nI w) (nI i) (nI k) 0) τ Q
  | 0, k, h1, h2, h3 => by omega
  | F + 1, k, h1, h2, h3 => by
    have n24 := hd.2.1
    have kn : k < n := by
      apply Classical.byContradiction
      intro c
      have : k = n := by omega
      subst this
      rw [Nat.sub_self, fsN] at h3
      omega
    obtain ⟨g1, g2, g3, g4, g5⟩ := g k kn
    rw [show n - k = (n - (k + 1)) + 1 by omega, fsN] at h3
    show RM M (bX11_layRoute_32 k21 (fX11_layRoute_32 k21 F) M (nI e) (nI w) (nI i) (nI k) 0) τ Q
    unfold bX11_layRoute_32
    rw [if_pos rfl]
    refine rm_gA (rm_ldZ k rfl (by show _ < 24; omega) ?_)
    rw [(hd.2.2 k kn).2.2.2]
    have no : tgN f t m op lb fa st w k = false → RM M (bX11_layRoute_122 k21 (fX11_layRoute_32 k21 F) M (nI e) (nI w) (nI i) (nI k) 0) τ Q := by
      intro z
      rw [z, if_neg (by decide)] at h3
      unfold bX11_layRoute_122
      rw [if_pos rfl, nI_1]
      exact lay32 g x hd hl hw lw hi hρ pρ q F (k + 1) (by omega) (by omega) h3
    have yes : tgN f t m op lb fa st w k = true → RM M (bX11_layRoute_122 k21 (fX11_layRoute_32 k21 F) M (nI e) (nI w) (nI i) (nI k) 1) τ Q := by
      intro z
      rw [z, if_pos rfl] at h3
      subst h3
      unfold bX11_layRoute_122
      rw [if_neg (show ¬ (1 : Int32) = 0 by decide), show nI k + 0 = nI k from nI_add k 0]
      obtain ⟨F', rfl⟩ : ∃ F', F = F' + 1 := ⟨F - 1, by omega⟩
      show RM M (bX11_layRoute_32 k21 (fX11_layRoute_32 k21 F') M (nI e) (nI w) (nI i) (nI k) 1) τ Q
      unfold bX11_layRoute_32
      rw [if_neg (show ¬ (1 : Int32) = 0 by decide)]
      refine rm_gA (rm_stI i rfl (by show _ < 12; omega) ?_)
      have be := beyond_r (M := M) (u := w) g (hd.sa (k := 36) (by omega) i (nI k)) kn hw
      rw [if_pos (by
        unfold tgN at z
        simp only [Bool.and_eq_true, decide_eq_true_eq] at z
        exact z.1.1.1.1)] at be
      refine rm_ro (ro_vc be) ?_
      rw [nI_1]
      exact q
    have tg : tgN f t m op lb fa st w k = (decide (f k = w ∨ t k = w) && op k && lb (otN f t k w) && decide (fa (otN f t k w) + m k = fa w) && decide (st (otN f t k w) + 1 = st w)) := rfl
    cases ho : op k
    · rw [if_pos (show bI false = 0 from rfl)]
      unfold bX11_layRoute_58
      rw [if_pos (by decide)]
      exact no (by rw [tg, ho]; simp)
    · rw [if_neg (by decide)]
      refine rm_ro (ro_vc (beyond_r g hd kn hw)) ?_
      unfold bX11_layRoute_58
      by_cases c : f k = w ∨ t k = w
      · have o10 : otN f t k w < 10 := by unfold otN; split <;> omega
        rw [if_pos c, if_neg (show ¬ nI (otN f t k w) < 0 from nI_nlt (b := 0) (by omega) (by omega))]
        refine rm_gA (rm_ldI (otN f t k w) rfl (by show _ < 10; omega) ?_)
        rw [(hl _ o10).1]
        cases lo : lb (otN f t k w)
        · rw [lbI, lo, if_neg (show ¬ false = true by decide), if_pos (show (-1 : Int32) < 0 by decide)]
          exact no (by rw [tg, lo]; simp)
        · have bo := x.le g o10 lo
          have bw := x.le g hw lw
          rw [lbI, lo, if_pos rfl, if_neg (show ¬ nI (fa (otN f t k w)) < 0 from nI_nlt (b := 0) (by omega) (by omega))]
          refine rm_gA (rm_ldI (otN f t k w) rfl (by show _ < 10; omega) (rm_gA (rm_ldI k rfl (by show _ < 24; omega) (rm_gA (rm_ldI w rfl (by show _ < 10; omega) ?_)))))
          rw [(hl _ o10).1, (hl w hw).1, (hd.2.2 k kn).2.2.1, lbI, lo, if_pos rfl, lbI, lw, if_pos rfl, nI_add]
          by_cases c2 : fa (otN f t k w) + m k = fa w
          · rw [if_pos (congrArg nI c2)]
            refine rm_gA (rm_ldI (otN f t k w) rfl (by show _ < 10; omega) (rm_gA (rm_ldI w rfl (by show _ < 10; omega) ?_)))
            rw [(hl _ o10).2 lo, (hl w hw).2 lw, nI_1]
            by_cases c3 : st (otN f t k w) + 1 = st w
            · rw [if_pos (congrArg nI c3)]
              exact yes (by rw [tg, ho, lo]; simp [c, c2, c3])
            · rw [if_neg (fun q => c3 ((nI_eq (by omega) (by omega)).mp q))]
              exact no (by rw [tg]; simp [c3])
          · rw [if_neg (fun q => c2 ((nI_eq (by omega) (by omega)).mp q))]
            exact no (by rw [tg]; simp [c2])
      · rw [if_neg c, if_pos (by decide)]
        exact no (by rw [tg]; simp [c])
/-- the i-th road on the way from u -/
def rdN (n : Nat) (f t m : Nat → Nat) (op : Nat → Bool) (lb : Nat → Bool) (fa st : Nat → Nat) (u i : Nat) : Nat := frN n f t m op lb fa st (wkN n f t m op lb fa st u i)
theorem lay21 {M u : Nat} {σ : MS} {Q : Int32 → MS → Prop} (g : RdG n f t m) (e10 : e < 10) (x : FX n op f t m e lb fa st) (hu : u < 10) (lu : lb u = true) (q : ∀ τ, RdS τ n f t m op → LbX τ lb fa st → SmE σ τ → (∀ j, j < st u → τ.a 36 j = nI (rdN n f t m op lb fa st u j)) → Q (nI (st u)) τ) : ∀ (F i : Nat) (τ : MS), i ≤ st u → st u < i + F → RdS τ n f t m op → LbX τ lb fa st → SmE σ τ → (∀ j, j < i → τ.a 36 j = nI (rdN n f t m op lb fa st u j)) → RM M (fX11_layRoute_21 F M (nI e) (nI (wkN n f t m op lb fa st u i)) (nI i)) τ Q
  | 0, i, τ, h1, h2, hd, hl, sm, hj => by omega
  | F + 1, i, τ, h1, h2, hd, hl, sm, hj => by
    have n24 := hd.2.1
    have s9 := x.le g hu lu
    obtain ⟨a1, a2, a3⟩ := wkN_p g x hu lu i h1
    have ee := wkN_e g x hu lu h1
    show RM M (bX11_layRoute_21 (fX11_layRoute_21 F) M (nI e) (nI (wkN n f t m op lb fa st u i)) (nI i)) τ Q
    unfold bX11_layRoute_21
    by_cases c : wkN n f t m op lb fa st u i = e
    · rw [if_pos (congrArg nI c)]
      have := ee.mp c
      subst this
      exact rm_rn (q τ hd hl sm hj)
    · rw [if_neg (fun z => c ((nI_eq (by omega) (by omega)).mp z))]
      have : i ≠ st u := fun z => c (ee.mpr z)
      obtain ⟨b1, b2⟩ := frN_p g x a1 c a2
      refine lay32 g x hd hl a1 a2 (by omega) b1 b2 ?_ FU 0 (by omega) (by unfold FU; omega) rfl
      refine lay21 g e10 x hu lu q F (i + 1) _ (by omega) (by omega) (hd.sa (by omega) _ _) (hl.sa _ _) (sm.sa (by omega) _ _) (fun j hj' => ?_)
      rw [sa_a]
      by_cases z : j = i
      · subst z
        rw [if_pos ⟨rfl, rfl⟩]
        rfl
      · rw [if_neg (by omega)]
        exact hj j (by omega)
theorem layRoute_m {M u : Nat} {σ τ : MS} {Q : Int32 → MS → Prop} (g : RdG n f t m) (e10 : e < 10) (x : FX n op f t m e lb fa st) (hu : u < 10) (hd : RdS τ n f t m op) (sm : SmE σ τ) (q : ∀ τ, RdS τ n f t m op → LbX τ lb fa st → SmE σ τ → (lb u = true → ∀ j, j < st u → τ.a 36 j = nI (rdN n f t m op lb fa st u j)) → Q (if lb u = true then nI (st u) else -1) τ) : RM M (pX11_layRoute M (nI u) (nI e)) τ Q := by
  unfold pX11_layRoute
  refine rm_bd (rm_vc (findFar_m g e10 hd sm (fun τ2 lb' fa' st' hd2 hl2 y sm2 => ?_)))
  have hx := hl2.x g x y
  refine rm_gA (rm_ldI u rfl (by show _ < 10; omega) ?_)
  rw [(hx u hu).1]
  cases lu : lb u
  · rw [lbI, lu, if_neg (show ¬ false = true by decide), if_neg (by decide)]
    have := q τ2 hd2 hx sm2 (fun z => by rw [lu] at z; cases z)
    rw [lu, if_neg (show ¬ false = true by decide)] at this
    exact rm_rn this
  · have s9 := x.le g hu lu
    rw [lbI, lu, if_pos rfl, if_pos (nI_pos' (by omega))]
    refine lay21 (σ := σ) g e10 x hu lu (fun τ3 hd3 hl3 sm3 hj => ?_) FU 0 τ2 (by omega) (by unfold FU; omega) hd2 hx sm2 (fun j hj => by omega)
    have := q τ3 hd3 hl3 sm3 (fun _ => hj)
    rw [lu, if_pos rfl] at this
    exact this
end lay
/-! the roads of a state -/
def rdF (σ : MS) (r : Nat) : Nat := (σ.a 29 r).toNatClampNeg
def rdT (σ : MS) (r : Nat) : Nat := (σ.a 30 r).toNatClampNeg
def rdM (σ : MS) (r : Nat) : Nat := (σ.a 31 r).toNatClampNeg
def opN (σ : MS) (t : Nat) (mode : Int32) (r : Nat) : Bool := decide (σ.a 32 r < 0) || decide (¬ 0 ≤ failM σ (toN (σ.a 32 r)) t mode)
theorem WF.rg {σ : MS} (w : WF σ) : RdG (nrd σ) (rdF σ) (rdT σ) (rdM σ) ∧ ∀ r, r < nrd σ → σ.a 29 r = nI (rdF σ r) ∧ σ.a 30 r = nI (rdT σ r) ∧ σ.a 31 r = nI (rdM σ r) := by
  constructor
  · intro r hr
    obtain ⟨f, t, m, a1, a2, a3, a4, a5, a6, a7, a8, _⟩ := w.2.2.2.2.2.2.2.2 r hr
    unfold rdF rdT rdM
    rw [a1, a3, a6, nI_clamp (by omega), nI_clamp (by omega), nI_clamp (by omega)]
    exact ⟨a2, a4, a5, a7, a8⟩
  · intro r hr
    obtain ⟨f, t, m, a1, a2, a3, a4, a5, a6, a7, a8, _⟩ := w.2.2.2.2.2.2.2.2 r hr
    unfold rdF rdT rdM
    rw [a1, a3, a6, nI_clamp (by omega), nI_clamp (by omega), nI_clamp (by omega)]
    exact ⟨rfl, rfl, rfl⟩
