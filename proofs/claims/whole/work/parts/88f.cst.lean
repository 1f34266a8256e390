/-! The class: Roads' costs. -/
/-- the roads' object and its arrays -/
def RC (h : Hp) (B : Nat) (σ : MS) (wc wm : Int32) (C K Y : Nat → Int32) : Prop := Rds h B (nrd σ) wc wm (σ.a 29) (σ.a 30) (σ.a 31) (σ.a 32) ∧ h.1 (B + 8) = some (ai 2 (arI 24 C)) ∧ h.1 (B + 9) = some (ai 0 (arI 10 K)) ∧ h.1 (B + 10) = some (ai 0 (arI 10 Y))
theorem RC.fr {h h' : Hp} {B : Nat} {σ : MS} {wc wm : Int32} {C K Y : Nat → Int32} (x : RC h B σ wc wm C K Y) {S : Nat → Prop} (F : Fr S h h') (d : ∀ a, S a → a < B + 3 ∨ B + 11 ≤ a) : RC h' B σ wc wm C K Y := by
  have e : ∀ k, 3 ≤ k → k < 11 → h'.1 (B + k) = h.1 (B + k) := fun k h1 h2 => F.2 _ (fun q => by have := d _ q; omega)
  obtain ⟨⟨a0, a1, a2, a3, a4⟩, a5, a6, a7⟩ := x
  exact ⟨⟨(e 3 (by omega) (by omega)).trans a0, (e 4 (by omega) (by omega)).trans a1, (e 5 (by omega) (by omega)).trans a2, (e 6 (by omega) (by omega)).trans a3, (e 7 (by omega) (by omega)).trans a4⟩, (e 8 (by omega) (by omega)).trans a5, (e 9 (by omega) (by omega)).trans a6, (e 10 (by omega) (by omega)).trans a7⟩
theorem RC.c8 {h : Hp} {B : Nat} {σ : MS} {wc wm : Int32} {C K Y : Nat → Int32} (x : RC h B σ wc wm C K Y) (C' : Nat → Int32) : RC (up h (B + 8) (ai 2 (arI 24 C'))) B σ wc wm C' K Y := by
  obtain ⟨⟨a0, a1, a2, a3, a4⟩, a5, a6, a7⟩ := x
  refine ⟨⟨?_, ?_, ?_, ?_, ?_⟩, up_s _ _ _, ?_, ?_⟩ <;> (rw [up_n (by omega)]; assumption)
theorem RC.k9 {h : Hp} {B : Nat} {σ : MS} {wc wm : Int32} {C K Y : Nat → Int32} (x : RC h B σ wc wm C K Y) (K' : Nat → Int32) : RC (up h (B + 9) (ai 0 (arI 10 K'))) B σ wc wm C K' Y := by
  obtain ⟨⟨a0, a1, a2, a3, a4⟩, a5, a6, a7⟩ := x
  refine ⟨⟨?_, ?_, ?_, ?_, ?_⟩, ?_, up_s _ _ _, ?_⟩ <;> (rw [up_n (by omega)]; assumption)
theorem RC.y10 {h : Hp} {B : Nat} {σ : MS} {wc wm : Int32} {C K Y : Nat → Int32} (x : RC h B σ wc wm C K Y) (Y' : Nat → Int32) : RC (up h (B + 10) (ai 0 (arI 10 Y'))) B σ wc wm C K Y' := by
  obtain ⟨⟨a0, a1, a2, a3, a4⟩, a5, a6, a7⟩ := x
  refine ⟨⟨?_, ?_, ?_, ?_, ?_⟩, ?_, ?_, up_s _ _ _⟩ <;> (rw [up_n (by omega)]; assumption)
theorem RC.o3 {h : Hp} {B : Nat} {σ : MS} {wc wm : Int32} {C K Y : Nat → Int32} (x : RC h B σ wc wm C K Y) (wc' wm' : Int32) : RC (up h (B + 3) (ob 5 [vr (some (B + 4)), vr (some (B + 5)), vr (some (B + 6)), vr (some (B + 7)), vr (some (B + 8)), vi (nI (nrd σ)), vr (some (B + 9)), vr (some (B + 10)), vi wc', vi wm'])) B σ wc' wm' C K Y := by
  obtain ⟨⟨a0, a1, a2, a3, a4⟩, a5, a6, a7⟩ := x
  refine ⟨⟨up_s _ _ _, ?_, ?_, ?_, ?_⟩, ?_, ?_, ?_⟩ <;> (rw [up_n (by omega)]; assumption)
theorem costOf_e {h : Hp} {B : Nat} {σ : MS} {wc wm : Int32} {C K Y : Nat → Int32} (w : WF σ) (x : RC h B σ wc wm C K Y) {r : Nat} (hr : r < nrd σ) : pX5_costOf (B + 3) (nI r) h = some (nI (1000 * rdM σ r + 1), h) := by
  have r24 := w.2.2.1.2
  unfold pX5_costOf
  rw [bd_e (gA_e (k := 2) x.1.1 rfl), bd_e (ldI_e x.1.2.2.2.1 (by rw [arI_len]; omega) (by rw [arI_len]; omega)), arI_get _ (by omega), (w.rg.2 r hr).2.2]
  rw [show (1000 : Int32) = nI 1000 from rfl, pk_mul, nI_1, Nat.mul_comm]
  rfl
theorem otherEnd_e {h : Hp} {B : Nat} {σ : MS} {wc wm : Int32} {C K Y : Nat → Int32} (w : WF σ) (x : RC h B σ wc wm C K Y) {r u : Nat} (hr : r < nrd σ) (hu : u < 10) : pX5_otherEnd (B + 3) (nI r) (nI u) h = some (nI (otN (rdF σ) (rdT σ) r u), h) := by
  have r24 := w.2.2.1.2
  obtain ⟨g1, g2, _⟩ := w.rg.1 r hr
  obtain ⟨a1, a2, _⟩ := w.rg.2 r hr
  unfold pX5_otherEnd otN
  rw [bd_e (gA_e (k := 0) x.1.1 rfl), bd_e (ldI_e x.1.2.1 (by rw [arI_len]; omega) (by rw [arI_len]; omega)), arI_get _ (by omega), a1]
  by_cases c : rdF σ r = u
  · rw [if_pos (congrArg nI c), if_pos c, bd_e (gA_e (k := 1) x.1.1 rfl), bd_e (ldI_e x.1.2.2.1 (by rw [arI_len]; omega) (by rw [arI_len]; omega)), arI_get _ (by omega), a2]
    rfl
  · rw [if_neg (fun q => c ((nI_eq (by omega) (by omega)).mp q)), if_neg c, bd_e (gA_e (k := 0) x.1.1 rfl), bd_e (ldI_e x.1.2.1 (by rw [arI_len]; omega) (by rw [arI_len]; omega)), arI_get _ (by omega), a1]
    rfl
theorem mnI_N {a b : Nat} (ha : a < 2 ^ 31) (hb : b < 2 ^ 31) : mnI (nI a) (nI b) = nI (min a b) := by
  unfold mnI
  by_cases c : b < a
  · rw [if_pos ((nI_ltI hb ha).mpr c), Nat.min_eq_right (by omega)]
  · rw [if_neg (fun q => c ((nI_ltI hb ha).mp q)), Nat.min_eq_left (by omega)]
/-! what a round does to the costs -/
def kUp (κ : Nat → Nat) (u v c : Nat) (y : Nat) : Nat := if y = u then min (κ u) (κ v + c) else κ y
section cst
variable {n e : Nat} {op : Nat → Bool} {f t m : Nat → Nat} {lb : Nat → Bool} {fa st : Nat → Nat} {κ : Nat → Nat}
def KB (lb : Nat → Bool) (fa st κ : Nat → Nat) : Prop := ∀ u, u < 10 → cN lb fa st u ≤ κ u ∧ κ u ≤ 1000000000
def KP (f t m : Nat → Nat) (op lb : Nat → Bool) (fa st : Nat → Nat) (k r : Nat) (κ : Nat → Nat) : Prop := ∀ u, u < 10 → lb u = true → (st u < k ∨ st u ≤ k ∧ ∃ r' v, r' < r ∧ op r' = true ∧ En f t r' u v ∧ lb v = true ∧ st v + 1 = st u ∧ cN lb fa st u = cN lb fa st v + (1000 * m r' + 1)) → κ u = cN lb fa st u
theorem KB.up (g : RdG n f t m) (x : FX n op f t m e lb fa st) {r u v : Nat} (hr : r < n) (ho : op r = true) (he : En f t r u v) (b : KB lb fa st κ) : KB lb fa st (kUp κ u v (1000 * m r + 1)) ∧ ∀ y, y < 10 → kUp κ u v (1000 * m r + 1) y ≤ κ y := by
  have z := cN_ar g x hr ho he
  have l := he.lt g hr
  have bv := b v l.2.1
  constructor
  · intro y hy
    have by' := b y hy
    unfold kUp
    by_cases c : y = u
    · subst c
      rw [if_pos rfl]
      omega
    · rw [if_neg c]; exact by'
  · intro y hy
    unfold kUp
    by_cases c : y = u
    · subst c
      rw [if_pos rfl]
      omega
    · rw [if_neg c]; exact Nat.le_refl _
theorem kUp_t {u v c : Nat} (h : κ v = cN lb fa st v) (h2 : cN lb fa st u = cN lb fa st v + c) (b : KB lb fa st (kUp κ u v c)) (hu : u < 10) : kUp κ u v c u = cN lb fa st u := by
  have := (b u hu).1
  unfold kUp at this ⊢
  rw [if_pos rfl] at this ⊢
  omega
theorem KP.step (g : RdG n f t m) (x : FX n op f t m e lb fa st) {k r : Nat} (hr : r < n) (ho : op r = true) (b : KB lb fa st κ) (p : KP f t m op lb fa st k r κ) : KB lb fa st (kUp (kUp κ (f r) (t r) (1000 * m r + 1)) (t r) (f r) (1000 * m r + 1)) ∧ KP f t m op lb fa st k (r + 1) (kUp (kUp κ (f r) (t r) (1000 * m r + 1)) (t r) (f r) (1000 * m r + 1)) := by
  have e1 : En f t r (f r) (t r) := Or.inl ⟨rfl, rfl⟩
  have e2 : En f t r (t r) (f r) := Or.inr ⟨rfl, rfl⟩
  have l := e1.lt g hr
  obtain ⟨b1, m1⟩ := b.up g x hr ho e1
  obtain ⟨b2, m2⟩ := b1.up g x hr ho e2
  refine ⟨b2, fun u hu lu h => ?_⟩
  have keep1 : ∀ y, y < 10 → κ y = cN lb fa st y → kUp κ (f r) (t r) (1000 * m r + 1) y = cN lb fa st y := fun y hy q => by
    have := m1 y hy; have := (b1 y hy).1; omega
  have keep2 : ∀ y, y < 10 → kUp κ (f r) (t r) (1000 * m r + 1) y = cN lb fa st y → kUp (kUp κ (f r) (t r) (1000 * m r + 1)) (t r) (f r) (1000 * m r + 1) y = cN lb fa st y := fun y hy q => by
    have := m2 y hy; have := (b2 y hy).1; omega
  rcases h with h | ⟨h, r', v, a1, a2, a3, a4, a5, a6⟩
  · exact keep2 u hu (keep1 u hu (p u hu lu (Or.inl h)))
  · by_cases c : r' = r
    · subst c
      have pv := p v (a3.lt g hr).2.1 a4 (Or.inl (by omega))
      rcases a3 with ⟨z1, z2⟩ | ⟨z1, z2⟩
      · subst z1 z2
        exact keep2 _ hu (kUp_t pv a6 b1 hu)
      · subst z1 z2
        exact kUp_t (keep1 _ l.1 pv) a6 b2 hu
    · exact keep2 u hu (keep1 u hu (p u hu lu (Or.inr ⟨h, r', v, by omega, a2, a3, a4, a5, a6⟩)))
theorem KP.next (g : RdG n f t m) (x : FX n op f t m e lb fa st) {k : Nat} (p : KP f t m op lb fa st k n κ) (he : κ e = 0) : KP f t m op lb fa st (k + 1) 0 κ := by
  intro u hu lu h
  have hs : st u ≤ k := by
    rcases h with h | ⟨h, r', v, a1, _⟩
    · omega
    · omega
  by_cases ue : u = e
  · subst ue
    rw [he]; unfold cN; rw [x.1, x.2.1, x.2.2.1]; rfl
  · obtain ⟨r, v, a1, a2, a3, a4, a5, a6⟩ := cN_ti g x hu ue lu
    exact p u hu lu (Or.inr ⟨hs, r, v, a1, a2, a3, a4, a5, a6⟩)
end cst
