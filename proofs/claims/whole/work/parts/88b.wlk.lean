/-! There is one labelling; the walk along it. -/
section wlk
variable {n e : Nat} {op : Nat → Bool} {f t m : Nat → Nat} {lb lb' : Nat → Bool} {fa st fa' st' : Nat → Nat}
theorem FI.ex (g : RdG n f t m) : ∀ (k : Nat) (lb : Nat → Bool) (fa st : Nat → Nat), smN (vlN lb fa st) 10 ≤ k → FI n op f t m e lb fa st → ∃ lb fa st, FX n op f t m e lb fa st := by
  intro k
  induction k with
  | zero =>
    intro lb fa st hk x
    refine ⟨lb, fa, st, x.fx (fun r u v hr ho he hb => ?_)⟩
    have := (x.step g hr ho he hb).2
    omega
  | succ k ih =>
    intro lb fa st hk x
    by_cases c : ∃ r u v, r < n ∧ op r = true ∧ En f t r u v ∧ Btr lb fa st (m r) u v
    · obtain ⟨r, u, v, hr, ho, he, hb⟩ := c
      have := x.step g hr ho he hb
      exact ih _ _ _ (by omega) this.1
    · exact ⟨lb, fa, st, x.fx (fun r u v hr ho he hb => c ⟨r, u, v, hr, ho, he, hb⟩)⟩
theorem FI.ini (e10 : e < 10) : FI n op f t m e (fun u => decide (u = e)) (fun _ => 0) (fun _ => 0) := by
  refine ⟨by simp, rfl, rfl, fun u hu hl => ⟨?_, Nat.le_refl _⟩, fun u hu ue hl => by simp at hl; exact absurd hl ue⟩
  have := cB_lt (p := fun _ => false) (q := fun u => decide (u = e)) (a := e) (fun k hk => by cases hk) rfl (by simp) 10 e10
  show 0 + 500 ≤ _
  omega
theorem FX.ex (g : RdG n f t m) (op : Nat → Bool) (e10 : e < 10) : ∃ lb fa st, FX n op f t m e lb fa st := FI.ex g _ _ _ _ (Nat.le_refl _) (FI.ini e10)
theorem FX.cle (g : RdG n f t m) (x : FX n op f t m e lb fa st) (y : FX n op f t m e lb' fa' st') : ∀ k u, u < 10 → lb' u = true → st' u ≤ k → cN lb fa st u ≤ cN lb' fa' st' u := by
  intro k
  induction k with
  | zero =>
    intro u hu lu hk
    by_cases ue : u = e
    · subst ue
      unfold cN
      rw [x.1, x.2.1, x.2.2.1, if_pos rfl]; omega
    · obtain ⟨r, v, _, _, _, _, a6, _⟩ := cN_ti g y hu ue lu
      omega
  | succ k ih =>
    intro u hu lu hk
    by_cases ue : u = e
    · subst ue
      unfold cN
      rw [x.1, x.2.1, x.2.2.1, if_pos rfl]; omega
    · obtain ⟨r, v, a1, a2, a3, a4, a5, a6⟩ := cN_ti g y hu ue lu
      have := ih v (a3.lt g a1).2.1 a4 (by omega)
      have := cN_ar g x a1 a2 a3
      omega
theorem FX.cle' (g : RdG n f t m) (x : FX n op f t m e lb fa st) (y : FX n op f t m e lb' fa' st') {u : Nat} (hu : u < 10) : cN lb fa st u ≤ cN lb' fa' st' u := by
  cases hl : lb' u
  · rw [show cN lb' fa' st' u = 1000000000 by unfold cN; rw [hl, if_neg (by decide)]]
    exact (cN_le g x hu).1
  · exact x.cle g y (st' u) u hu hl (Nat.le_refl _)
theorem FX.uq (g : RdG n f t m) (x : FX n op f t m e lb fa st) (y : FX n op f t m e lb' fa' st') {u : Nat} (hu : u < 10) : lb' u = lb u ∧ (lb u = true → fa' u = fa u ∧ st' u = st u) := by
  have a := x.cle' g y hu
  have b := y.cle' g x hu
  have c1 := (cN_le g x hu).2
  have c2 := (cN_le g y hu).2
  cases hl : lb u
  · cases hl' : lb' u
    · exact ⟨rfl, fun q => by cases q⟩
    · have := c2 hl'
      rw [show cN lb fa st u = 1000000000 by unfold cN; rw [hl, if_neg (by decide)]] at a
      omega
  · cases hl' : lb' u
    · have := c1 hl
      rw [show cN lb' fa' st' u = 1000000000 by unfold cN; rw [hl', if_neg (by decide)]] at b
      omega
    · have s1 := x.le g hu hl
      have s2 := y.le g hu hl'
      unfold cN at a b
      rw [hl, hl', if_pos rfl, if_pos rfl] at a b
      exact ⟨rfl, fun _ => ⟨by omega, by omega⟩⟩
/-- the town at the other end -/
def otN (f t : Nat → Nat) (r u : Nat) : Nat := if f r = u then t r else f r
/-- the road lies on a least way from u -/
def tgN (f t m : Nat → Nat) (op : Nat → Bool) (lb : Nat → Bool) (fa st : Nat → Nat) (u r : Nat) : Bool := decide (f r = u ∨ t r = u) && op r && lb (otN f t r u) && decide (fa (otN f t r u) + m r = fa u) && decide (st (otN f t r u) + 1 = st u)
def fsN (p : Nat → Bool) : Nat → Nat → Nat
  | 0, k => k
  | c + 1, k => if p k = true then k else fsN p c (k + 1)
theorem fsN_p {p : Nat → Bool} : ∀ (c k r : Nat), k ≤ r → r < k + c → p r = true → fsN p c k < k + c ∧ p (fsN p c k) = true
  | 0, k, r, h1, h2, h3 => by omega
  | c + 1, k, r, h1, h2, h3 => by
    rw [fsN]
    by_cases q : p k = true
    · rw [if_pos q]; exact ⟨by omega, q⟩
    · rw [if_neg q]
      have : r ≠ k := fun z => q (z ▸ h3)
      have := fsN_p c (k + 1) r (by omega) (by omega) h3
      exact ⟨by omega, this.2⟩
def frN (n : Nat) (f t m : Nat → Nat) (op : Nat → Bool) (lb : Nat → Bool) (fa st : Nat → Nat) (u : Nat) : Nat := fsN (tgN f t m op lb fa st u) n 0
def wkN (n : Nat) (f t m : Nat → Nat) (op : Nat → Bool) (lb : Nat → Bool) (fa st : Nat → Nat) (u : Nat) : Nat → Nat
  | 0 => u
  | i + 1 => otN f t (frN n f t m op lb fa st (wkN n f t m op lb fa st u i)) (wkN n f t m op lb fa st u i)
theorem tgN_e {u r : Nat} (h : tgN f t m op lb fa st u r = true) : En f t r u (otN f t r u) ∧ op r = true ∧ lb (otN f t r u) = true ∧ fa (otN f t r u) + m r = fa u ∧ st (otN f t r u) + 1 = st u := by
  unfold tgN at h
  simp only [Bool.and_eq_true, decide_eq_true_eq] at h
  obtain ⟨⟨⟨⟨h1, h2⟩, h3⟩, h4⟩, h5⟩ := h
  refine ⟨?_, h2, h3, h4, h5⟩
  unfold otN
  by_cases c : f r = u
  · rw [if_pos c]; exact Or.inl ⟨c, rfl⟩
  · rw [if_neg c]
    rcases h1 with q | q
    · exact absurd q c
    · exact Or.inr ⟨q, rfl⟩
theorem frN_p (g : RdG n f t m) (x : FX n op f t m e lb fa st) {u : Nat} (hu : u < 10) (ue : u ≠ e) (lu : lb u = true) : frN n f t m op lb fa st u < n ∧ tgN f t m op lb fa st u (frN n f t m op lb fa st u) = true := by
  obtain ⟨r, v, a1, a2, a3, a4, a5, a6⟩ := x.2.2.2.2 u hu ue lu
  have ov : otN f t r u = v := by
    obtain ⟨_, _, g3, _⟩ := g r a1
    unfold otN
    rcases a3 with ⟨q, z⟩ | ⟨q, z⟩
    · rw [if_pos q, z]
    · rw [if_neg (by rw [← q]; exact g3), z]
  have tg : tgN f t m op lb fa st u r = true := by
    unfold tgN
    rw [ov]
    simp only [Bool.and_eq_true, decide_eq_true_eq]
    refine ⟨⟨⟨⟨?_, a2⟩, a4⟩, a5⟩, a6⟩
    rcases a3 with ⟨q, _⟩ | ⟨q, _⟩
    · exact Or.inl q
    · exact Or.inr q
  have := fsN_p (p := tgN f t m op lb fa st u) n 0 r (by omega) (by omega) tg
  unfold frN
  exact ⟨by omega, this.2⟩
theorem wkN_p (g : RdG n f t m) (x : FX n op f t m e lb fa st) {u : Nat} (hu : u < 10) (lu : lb u = true) : ∀ i, i ≤ st u → wkN n f t m op lb fa st u i < 10 ∧ lb (wkN n f t m op lb fa st u i) = true ∧ st (wkN n f t m op lb fa st u i) + i = st u
  | 0, _ => ⟨hu, lu, rfl⟩
  | i + 1, hi => by
    obtain ⟨a1, a2, a3⟩ := wkN_p g x hu lu i (by omega)
    have ne : wkN n f t m op lb fa st u i ≠ e := by
      intro q
      rw [q, x.2.2.1] at a3
      omega
    obtain ⟨b1, b2⟩ := frN_p g x a1 ne a2
    obtain ⟨c1, c2, c3, c4, c5⟩ := tgN_e b2
    rw [wkN]
    exact ⟨(c1.lt g b1).2.1, c3, by omega⟩
theorem wkN_e (g : RdG n f t m) (x : FX n op f t m e lb fa st) {u : Nat} (hu : u < 10) (lu : lb u = true) {i : Nat} (hi : i ≤ st u) : wkN n f t m op lb fa st u i = e ↔ i = st u := by
  obtain ⟨a1, a2, a3⟩ := wkN_p g x hu lu i hi
  constructor
  · intro q
    rw [q, x.2.2.1] at a3
    omega
  · intro q
    apply Classical.byContradiction
    intro ne
    obtain ⟨r, v, _, _, _, _, _, a6⟩ := x.2.2.2.2 _ a1 ne a2
    omega
end wlk
