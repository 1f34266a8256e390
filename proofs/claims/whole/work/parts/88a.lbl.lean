/-! Labels of towns: how far, in how many steps. -/
def En (f t : Nat → Nat) (r u v : Nat) : Prop := (f r = u ∧ t r = v) ∨ (t r = u ∧ f r = v)
def RdG (n : Nat) (f t m : Nat → Nat) : Prop := ∀ r, r < n → f r < 10 ∧ t r < 10 ∧ f r ≠ t r ∧ 1 ≤ m r ∧ m r ≤ 500
def cB (p : Nat → Bool) : Nat → Nat
  | 0 => 0
  | n + 1 => cB p n + (if p n = true then 1 else 0)
def smN (v : Nat → Nat) : Nat → Nat
  | 0 => 0
  | n + 1 => smN v n + v n
theorem cB_le (p : Nat → Bool) : ∀ n, cB p n ≤ n
  | 0 => Nat.le_refl 0
  | n + 1 => by
    have := cB_le p n
    rw [cB]
    split <;> omega
theorem cB_mono {p q : Nat → Bool} (h : ∀ k, p k = true → q k = true) : ∀ n, cB p n ≤ cB q n
  | 0 => Nat.le_refl 0
  | n + 1 => by
    have := cB_mono h n
    rw [cB, cB]
    by_cases c : p n = true
    · rw [if_pos c, if_pos (h n c)]; omega
    · rw [if_neg c]; split <;> omega
theorem cB_lt {p q : Nat → Bool} (h : ∀ k, p k = true → q k = true) {a : Nat} (ha : p a = false) (hb : q a = true) : ∀ n, a < n → cB p n + 1 ≤ cB q n
  | 0, hn => by omega
  | n + 1, hn => by
    rw [cB, cB]
    by_cases e : a = n
    · subst e
      have := cB_mono h a
      rw [ha, hb, if_neg (by decide), if_pos rfl]
      omega
    · have := cB_lt h ha hb n (by omega)
      by_cases c : p n = true
      · rw [if_pos c, if_pos (h n c)]; omega
      · rw [if_neg c]; split <;> omega
theorem cB_c {p q : Nat → Bool} (h : ∀ k, p k = q k) (n : Nat) : cB p n = cB q n := by rw [show p = q from funext h]
theorem smN_le {v : Nat → Nat} {b : Nat} (h : ∀ k, v k ≤ b) : ∀ n, smN v n ≤ n * b
  | 0 => by simp [smN]
  | n + 1 => by
    have := smN_le h n
    have := h n
    rw [smN, Nat.add_mul]
    omega
theorem smN_mono {v w : Nat → Nat} (h : ∀ k, v k ≤ w k) : ∀ n, smN v n ≤ smN w n
  | 0 => Nat.le_refl 0
  | n + 1 => by
    have := smN_mono h n
    have := h n
    rw [smN, smN]
    omega
theorem smN_lt {v w : Nat → Nat} (h : ∀ k, v k ≤ w k) {a : Nat} (ha : v a < w a) : ∀ n, a < n → smN v n < smN w n
  | 0, hn => by omega
  | n + 1, hn => by
    rw [smN, smN]
    by_cases e : a = n
    · subst e
      have := smN_mono h a
      omega
    · have := smN_lt h ha n (by omega)
      have := h n
      omega
/-- v's label with road r in front is better than u's -/
def Btr (lb : Nat → Bool) (fa st : Nat → Nat) (m u v : Nat) : Prop := lb v = true ∧ (lb u = false ∨ fa v + m < fa u ∨ (fa v + m = fa u ∧ st v + 1 < st u))
def FI (n : Nat) (op : Nat → Bool) (f t m : Nat → Nat) (e : Nat) (lb : Nat → Bool) (fa st : Nat → Nat) : Prop :=
  lb e = true ∧ fa e = 0 ∧ st e = 0 ∧ (∀ u, u < 10 → lb u = true → fa u + 500 ≤ 500 * cB lb 10 ∧ st u ≤ fa u) ∧
  ∀ u, u < 10 → u ≠ e → lb u = true → ∃ r v, r < n ∧ op r = true ∧ En f t r u v ∧ lb v = true ∧ (fa v + m r < fa u ∨ fa v + m r = fa u ∧ st v + 1 ≤ st u)
def vlN (lb : Nat → Bool) (fa st : Nat → Nat) (u : Nat) : Nat := if lb u = true then 10000 * fa u + st u else 60000000
def FX (n : Nat) (op : Nat → Bool) (f t m : Nat → Nat) (e : Nat) (lb : Nat → Bool) (fa st : Nat → Nat) : Prop :=
  lb e = true ∧ fa e = 0 ∧ st e = 0 ∧
  (∀ r u v, r < n → op r = true → En f t r u v → lb v = true → lb u = true ∧ (fa u < fa v + m r ∨ fa u = fa v + m r ∧ st u ≤ st v + 1)) ∧
  ∀ u, u < 10 → u ≠ e → lb u = true → ∃ r v, r < n ∧ op r = true ∧ En f t r u v ∧ lb v = true ∧ fa v + m r = fa u ∧ st v + 1 = st u
section lbl
variable {n e : Nat} {op : Nat → Bool} {f t m : Nat → Nat} {lb : Nat → Bool} {fa st : Nat → Nat}
theorem En.lt (g : RdG n f t m) {r u v : Nat} (hr : r < n) (x : En f t r u v) : u < 10 ∧ v < 10 ∧ u ≠ v ∧ 1 ≤ m r ∧ m r ≤ 500 := by
  obtain ⟨g1, g2, g3, g4, g5⟩ := g r hr
  rcases x with ⟨rfl, rfl⟩ | ⟨rfl, rfl⟩
  · exact ⟨g1, g2, g3, g4, g5⟩
  · exact ⟨g2, g1, fun q => g3 q.symm, g4, g5⟩
theorem FI.b (x : FI n op f t m e lb fa st) {u : Nat} (hu : u < 10) (hl : lb u = true) : fa u ≤ 4500 ∧ st u ≤ 4500 := by
  have := x.2.2.2.1 u hu hl
  have := cB_le lb 10
  omega
theorem FI.step (g : RdG n f t m) (x : FI n op f t m e lb fa st) {r u v : Nat} (hr : r < n) (ho : op r = true) (he : En f t r u v) (hb : Btr lb fa st (m r) u v) : FI n op f t m e (fun y => if y = u then true else lb y) (fun y => if y = u then fa v + m r else fa y) (fun y => if y = u then st v + 1 else st y) ∧ smN (vlN (fun y => if y = u then true else lb y) (fun y => if y = u then fa v + m r else fa y) (fun y => if y = u then st v + 1 else st y)) 10 < smN (vlN lb fa st) 10 := by
  obtain ⟨u1, v1, uv, m1, m5⟩ := he.lt g hr
  obtain ⟨lv, hb⟩ := hb
  obtain ⟨x1, x2, x3, x4, x5⟩ := id x
  have vu : v ≠ u := fun q => uv q.symm
  have ue : u ≠ e := by
    intro q
    subst q
    rw [x1, x2] at hb
    rcases hb with q | q | q
    · cases q
    · omega
    · omega
  have bv := x4 v v1 lv
  have eu : e ≠ u := fun q => ue q.symm
  have cm : cB lb 10 ≤ cB (fun y => if y = u then true else lb y) 10 := cB_mono (fun k hk => by show (if k = u then true else lb k) = true; split; rfl; exact hk) 10
  have c1 : lb u = false → cB lb 10 + 1 ≤ cB (fun y => if y = u then true else lb y) 10 := fun q => cB_lt (a := u) (fun k hk => by show (if k = u then true else lb k) = true; split; rfl; exact hk) q (by simp) 10 u1
  refine ⟨⟨by simp only [if_neg eu]; exact x1, by simp only [if_neg eu]; exact x2, by simp only [if_neg eu]; exact x3, fun w hw lw => ?_, fun w hw we lw => ?_⟩, ?_⟩
  · by_cases q : w = u
    · subst q
      simp only [if_pos]
      refine ⟨?_, by omega⟩
      cases hl : lb w
      · have := c1 hl; omega
      · have := x4 w hw hl
        rw [hl] at hb
        rcases hb with z | z | z
        · cases z
        · omega
        · omega
    · simp only [if_neg q] at lw ⊢
      have := x4 w hw lw
      omega
  · by_cases q : w = u
    · subst q
      refine ⟨r, v, hr, ho, he, by simp only [if_neg vu]; exact lv, Or.inr ⟨by simp only [if_neg vu, if_pos], by simp only [if_neg vu, if_pos]; exact Nat.le_refl _⟩⟩
    · simp only [if_neg q] at lw ⊢
      obtain ⟨r', v', a1, a2, a3, a4, a5⟩ := x5 w hw we lw
      refine ⟨r', v', a1, a2, a3, ?_, ?_⟩
      · by_cases z : v' = u
        · rw [if_pos z]
        · rw [if_neg z]; exact a4
      · by_cases z : v' = u
        · rw [if_pos z, if_pos z]
          subst z
          rw [a4] at hb
          rcases hb with z | z | z
          · cases z
          · omega
          · omega
        · rw [if_neg z, if_neg z]; exact a5
  · have bb := x.b v1 lv
    refine smN_lt (a := u) (fun k => ?_) ?_ 10 u1
    · unfold vlN
      by_cases q : k = u
      · subst q
        simp only [if_pos]
        cases hl : lb k
        · rw [if_neg (by decide)]; omega
        · rw [hl] at hb
          rw [if_pos rfl]
          rcases hb with z | z | z
          · cases z
          · omega
          · omega
      · simp only [if_neg q]; exact Nat.le_refl _
    · unfold vlN
      simp only [if_pos]
      cases hl : lb u
      · rw [if_neg (by decide)]; omega
      · rw [hl] at hb
        rw [if_pos rfl]
        rcases hb with z | z | z
        · cases z
        · omega
        · omega
theorem FI.fx (x : FI n op f t m e lb fa st) (h : ∀ r u v, r < n → op r = true → En f t r u v → ¬ Btr lb fa st (m r) u v) : FX n op f t m e lb fa st := by
  obtain ⟨x1, x2, x3, x4, x5⟩ := x
  have key : ∀ r u v, r < n → op r = true → En f t r u v → lb v = true → lb u = true ∧ (fa u < fa v + m r ∨ fa u = fa v + m r ∧ st u ≤ st v + 1) := by
    intro r u v hr ho he lv
    have := h r u v hr ho he
    unfold Btr at this
    cases hl : lb u
    · exact absurd ⟨lv, Or.inl hl⟩ this
    · refine ⟨rfl, ?_⟩
      by_cases c : fa v + m r < fa u
      · exact absurd ⟨lv, Or.inr (Or.inl c)⟩ this
      · by_cases c2 : fa v + m r = fa u ∧ st v + 1 < st u
        · exact absurd ⟨lv, Or.inr (Or.inr c2)⟩ this
        · omega
  refine ⟨x1, x2, x3, key, fun u hu ue lu => ?_⟩
  obtain ⟨r, v, a1, a2, a3, a4, a5⟩ := x5 u hu ue lu
  have := (key r u v a1 a2 a3 a4).2
  exact ⟨r, v, a1, a2, a3, a4, by omega, by omega⟩
theorem FX.rk (g : RdG n f t m) (x : FX n op f t m e lb fa st) : ∀ k u, u < 10 → lb u = true → fa u ≤ k → st u ≤ cB (fun y => lb y && decide (fa y < fa u)) 10 ∧ fa u ≤ 500 * st u := by
  intro k
  induction k with
  | zero =>
    intro u hu lu h0
    by_cases ue : u = e
    · subst ue
      rw [x.2.2.1, x.2.1]
      exact ⟨Nat.zero_le _, by omega⟩
    · obtain ⟨r, v, a1, a2, a3, a4, a5, a6⟩ := x.2.2.2.2 u hu ue lu
      have := a3.lt g a1
      omega
  | succ k ih =>
    intro u hu lu h0
    by_cases ue : u = e
    · subst ue
      rw [x.2.2.1, x.2.1]
      exact ⟨Nat.zero_le _, by omega⟩
    · obtain ⟨r, v, a1, a2, a3, a4, a5, a6⟩ := x.2.2.2.2 u hu ue lu
      have b := a3.lt g a1
      have i := ih v b.2.1 a4 (by omega)
      have c := cB_lt (p := fun y => lb y && decide (fa y < fa v)) (q := fun y => lb y && decide (fa y < fa u)) (a := v) (fun y hy => by
        simp only [Bool.and_eq_true, decide_eq_true_eq] at hy ⊢
        exact ⟨hy.1, by omega⟩) (by simp) (by simp only [Bool.and_eq_true, decide_eq_true_eq]; exact ⟨a4, by omega⟩) 10 b.2.1
      omega
theorem FX.le (g : RdG n f t m) (x : FX n op f t m e lb fa st) {u : Nat} (hu : u < 10) (lu : lb u = true) : st u ≤ 9 ∧ fa u ≤ 4500 := by
  have a := x.rk g (fa u) u hu lu (Nat.le_refl _)
  have c := cB_lt (p := fun y => lb y && decide (fa y < fa u)) (q := fun _ => true) (a := u) (fun _ _ => rfl) (by simp) rfl 10 hu
  have := cB_le (fun _ => true) 10
  omega
/-- the cost of a town -/
def cN (lb : Nat → Bool) (fa st : Nat → Nat) (u : Nat) : Nat := if lb u = true then 1000 * fa u + st u else 1000000000
theorem cN_le (g : RdG n f t m) (x : FX n op f t m e lb fa st) {u : Nat} (hu : u < 10) : cN lb fa st u ≤ 1000000000 ∧ (lb u = true → cN lb fa st u ≤ 4500009) := by
  unfold cN
  cases hl : lb u
  · rw [if_neg (by decide)]; exact ⟨Nat.le_refl _, fun q => by cases q⟩
  · have := x.le g hu hl
    rw [if_pos rfl]
    exact ⟨by omega, fun _ => by omega⟩
theorem cN_ar (g : RdG n f t m) (x : FX n op f t m e lb fa st) {r u v : Nat} (hr : r < n) (ho : op r = true) (he : En f t r u v) : cN lb fa st u ≤ cN lb fa st v + (1000 * m r + 1) := by
  have b := he.lt g hr
  have z := cN_le g x b.1
  cases hl : lb v
  · rw [show cN lb fa st v = 1000000000 by unfold cN; rw [hl, if_neg (by decide)]]; omega
  · obtain ⟨l, y⟩ := x.2.2.2.1 r u v hr ho he hl
    have su := x.le g b.1 l
    unfold cN
    rw [l, hl, if_pos rfl, if_pos rfl]
    omega
/-- one more step, costs that are tight -/
theorem cN_ti (g : RdG n f t m) (x : FX n op f t m e lb fa st) {u : Nat} (hu : u < 10) (ue : u ≠ e) (lu : lb u = true) : ∃ r v, r < n ∧ op r = true ∧ En f t r u v ∧ lb v = true ∧ st v + 1 = st u ∧ cN lb fa st u = cN lb fa st v + (1000 * m r + 1) := by
  obtain ⟨r, v, a1, a2, a3, a4, a5, a6⟩ := x.2.2.2.2 u hu ue lu
  refine ⟨r, v, a1, a2, a3, a4, a6, ?_⟩
  unfold cN
  rw [lu, a4, if_pos rfl, if_pos rfl]
  omega
/-- tight in costs: tight in miles and steps -/
theorem cN_iff (g : RdG n f t m) (x : FX n op f t m e lb fa st) {r u v : Nat} (hr : r < n) (he : En f t r u v) (lu : lb u = true) : cN lb fa st v + (1000 * m r + 1) = cN lb fa st u ↔ lb v = true ∧ fa v + m r = fa u ∧ st v + 1 = st u := by
  have b := he.lt g hr
  have su := x.le g b.1 lu
  have zu := (cN_le g x b.1).2 lu
  cases hl : lb v
  · rw [show cN lb fa st v = 1000000000 by unfold cN; rw [hl, if_neg (by decide)]]
    constructor
    · intro q; omega
    · intro q; cases q.1
  · have sv := x.le g b.2.1 hl
    unfold cN
    rw [lu, hl, if_pos rfl, if_pos rfl]
    constructor
    · intro q; exact ⟨rfl, by omega, by omega⟩
    · intro q; omega
end lbl
