/-- the first row from r on, of m, that has a pivot in column k -/
def pvB (A : Nat → Nat → Int) (k : Nat) : Nat → Nat → Option Nat
  | 0, _ => none
  | m + 1, r => if A r k = 0 then pvB A k m (r + 1) else some r
theorem pvB_s {A : Nat → Nat → Int} {k : Nat} : ∀ {m r x : Nat}, pvB A k m r = some x → r ≤ x ∧ x < r + m ∧ A x k ≠ 0 ∧ ∀ y, r ≤ y → y < x → A y k = 0
  | 0, r, x, h => by simp [pvB] at h
  | m + 1, r, x, h => by
    rw [pvB] at h
    by_cases e : A r k = 0
    · rw [if_pos e] at h
      obtain ⟨a, b, c, d⟩ := pvB_s h
      refine ⟨by omega, by omega, c, fun y h1 h2 => ?_⟩
      by_cases q : y = r
      · subst q; exact e
      · exact d y (by omega) h2
    · rw [if_neg e] at h
      have : r = x := by simpa using h
      subst this
      exact ⟨by omega, by omega, e, fun y h1 h2 => by omega⟩
theorem pvB_n {A : Nat → Nat → Int} {k : Nat} : ∀ {m r : Nat}, pvB A k m r = none → ∀ y, r ≤ y → y < r + m → A y k = 0
  | 0, r, h, y, h1, h2 => by omega
  | m + 1, r, h, y, h1, h2 => by
    rw [pvB] at h
    by_cases e : A r k = 0
    · rw [if_pos e] at h
      by_cases q : y = r
      · subst q; exact e
      · exact pvB_n h y (by omega) (by omega)
    · rw [if_neg e] at h
      simp at h
/-- m more steps from step k on: the last pivot, the rows -/
def elB (n : Nat) : Nat → Nat → Int → (Nat → Nat → Int) → Option (Int × (Nat → Nat → Int))
  | 0, _, pr, A => some (pr, A)
  | m + 1, k, pr, A => match pvB A k (n - k) k with
    | none => none
    | some r => elB n m (k + 1) (A r k) (clB k pr (swB r k A))
/-- the conditions: all loads, and the turning of what lies left of each h -/
def con (hg : Nat → Int) (pos : Nat → Int) (i j : Nat) : Int := if i = 0 then 1 else max 0 (hg i - pos j)
def CoB (n : Nat) (hg pos : Nat → Int) : Prop := (∀ i, 1 ≤ i → i < n → 0 ≤ hg i ∧ hg i ≤ 60) ∧ (∀ j, 0 ≤ pos j) ∧ ∀ j, j < n → pos 0 ≤ pos j
/-- the determinant of the rows 1 .. n - 1 of D, at n - 1 columns -/
def Fdt (n : Nat) (D : Nat → Nat → Int) (j u v w : Nat) : Int := if n = 2 then D 1 j else if n = 3 then e2 D 1 2 j u else if n = 4 then e3 D 1 2 3 j u v else e4 D j u v w
/-- D has the rows of D0, in an order of sign s -/
def Alt (n : Nat) (D0 D : Nat → Nat → Int) (s : Int) : Prop := (s = 1 ∨ s = -1) ∧ ∀ j u v w, Fdt n D j u v w = s * Fdt n D0 j u v w
theorem Fdt_sw {n r k : Nat} (D : Nat → Nat → Int) (hn : 2 ≤ n ∧ n ≤ 5) (hk : 1 ≤ k) (hr : k < r) (hrn : r < n) (j u v w : Nat) : Fdt n (swB r k D) j u v w = - Fdt n D j u v w := by
  unfold Fdt
  have c2 : n = 3 ∨ n = 4 ∨ n = 5 := by omega
  rcases c2 with rfl | rfl | rfl
  · have e1 : r = 2 := by omega
    have e2' : k = 1 := by omega
    subst e1 e2'
    simp [e2, swB]
    grind
  · have c3 : (k = 1 ∧ r = 2) ∨ (k = 1 ∧ r = 3) ∨ (k = 2 ∧ r = 3) := by omega
    rcases c3 with ⟨rfl, rfl⟩ | ⟨rfl, rfl⟩ | ⟨rfl, rfl⟩ <;> simp [e2, e3, swB] <;> grind
  · have c3 : (k = 1 ∧ r = 2) ∨ (k = 1 ∧ r = 3) ∨ (k = 1 ∧ r = 4) ∨ (k = 2 ∧ r = 3) ∨ (k = 2 ∧ r = 4) ∨ (k = 3 ∧ r = 4) := by omega
    rcases c3 with ⟨rfl, rfl⟩ | ⟨rfl, rfl⟩ | ⟨rfl, rfl⟩ | ⟨rfl, rfl⟩ | ⟨rfl, rfl⟩ | ⟨rfl, rfl⟩ <;> simp [e2, e3, e4, swB] <;> grind
theorem Alt_rf (n : Nat) (D : Nat → Nat → Int) : Alt n D D 1 := ⟨Or.inl rfl, fun j u v w => by omega⟩
theorem Alt_sw {n r k : Nat} {D0 D : Nat → Nat → Int} {s : Int} (hn : 2 ≤ n ∧ n ≤ 5) (hk : 1 ≤ k) (hr : k ≤ r) (hrn : r < n) (h : Alt n D0 D s) : ∃ s', Alt n D0 (swB r k D) s' := by
  by_cases e : k = r
  · subst e
    have : swB k k D = D := by
      funext i j
      by_cases e : i = k <;> simp [swB, e]
    rw [this]
    exact ⟨s, h⟩
  · refine ⟨-s, ?_, fun j u v w => ?_⟩
    · have := h.1
      omega
    · rw [Fdt_sw D hn hk (by omega) hrn, h.2, Int.neg_mul]
def PRd (n : Nat) (D : Nat → Nat → Int) : Int := Fdt n D 1 2 3 4
/-- the upper numbers: column i gives place to column j -/
def CRp (n : Nat) (D : Nat → Nat → Int) (i j : Nat) : Int := if i = 1 then Fdt n D j 2 3 4 else if i = 2 then - Fdt n D j 1 3 4 else if i = 3 then Fdt n D j 1 2 4 else - Fdt n D j 1 2 3
def CRd (n : Nat) (D : Nat → Nat → Int) (i j : Nat) : Int := if i = 0 then PRd n D - (if 1 < n then CRp n D 1 j else 0) - (if 2 < n then CRp n D 2 j else 0) - (if 3 < n then CRp n D 3 j else 0) - (if 4 < n then CRp n D 4 j else 0) else CRp n D i j
theorem PRd_s {n : Nat} {D0 D : Nat → Nat → Int} {s : Int} (h : Alt n D0 D s) : PRd n D = s * PRd n D0 := h.2 1 2 3 4
theorem CRp_s {n : Nat} {D0 D : Nat → Nat → Int} {s : Int} (h : Alt n D0 D s) (i j : Nat) : CRp n D i j = s * CRp n D0 i j := by
  unfold CRp
  split
  · exact h.2 _ _ _ _
  · split
    · rw [h.2, Int.mul_neg]
    · split
      · exact h.2 _ _ _ _
      · rw [h.2, Int.mul_neg]
theorem CRd_s {n : Nat} {D0 D : Nat → Nat → Int} {s : Int} (h : Alt n D0 D s) (i j : Nat) : CRd n D i j = s * CRd n D0 i j := by
  unfold CRd
  rw [PRd_s h, CRp_s h, CRp_s h, CRp_s h, CRp_s h, CRp_s h]
  have q : ∀ (p : Prop) [Decidable p] (x : Int), (if p then s * x else 0) = s * (if p then x else 0) := by
    intro p _ x
    by_cases h : p <;> simp [h]
  rw [q, q, q, q]
  split
  · simp only [Int.mul_sub]
  · rfl
/-- the conditions without what the first support bears -/
def dco (hg pos : Nat → Int) (i j : Nat) : Int := con hg pos i j - con hg pos i 0
/-- what holds behind k steps -/
def GdB (n : Nat) (hg pos : Nat → Int) (k : Nat) (pr : Int) (A : Nat → Nat → Int) : Prop := pr ≠ 0 ∧ (k = 0 ∧ pr = 1 ∧ A = con hg pos ∨ 1 ≤ k ∧ ∃ D s, DB n D ∧ StB n pr A D k ∧ Alt n (dco hg pos) D s) ∧ (∀ i, i < k → A i i = pr) ∧ ∀ i j, i < n → j < k → i ≠ j → A i j = 0
theorem GdB_0 (n : Nat) (hg pos : Nat → Int) : GdB n hg pos 0 1 (con hg pos) := ⟨by decide, Or.inl ⟨rfl, rfl, rfl⟩, fun i hi => by omega, fun i j _ hj => by omega⟩
theorem con_b {n : Nat} {hg pos : Nat → Int} (h : CoB n hg pos) {i j : Nat} (hi : i < n) : 0 ≤ con hg pos i j ∧ con hg pos i j ≤ 60 := by
  unfold con
  split
  · omega
  · have := h.1 i (by omega) hi
    have := h.2.1 j
    omega
theorem dco_b {n : Nat} {hg pos : Nat → Int} (hc : CoB n hg pos) : DB n (dco hg pos) := by
  intro i j a b
  have u1 := con_b hc (j := j) b
  have u2 := con_b hc (j := 0) b
  refine ⟨by show -60 ≤ con hg pos i j - con hg pos i 0; omega, by show con hg pos i j - con hg pos i 0 ≤ 60; omega, fun hj => ?_⟩
  have := hc.2.2 j hj
  simp only [dco, con, if_neg (show i ≠ 0 by omega)]
  omega
theorem GdB_b {n k : Nat} {hg pos : Nat → Int} {pr : Int} {A : Nat → Nat → Int} (hn : n ≤ 5) (hk : k ≤ n) (hc : CoB n hg pos) (h : GdB n hg pos k pr A) : pr.natAbs ≤ 155520000 ∧ ∀ i j, i < n → (A i j).natAbs ≤ 777600000 := by
  obtain ⟨_, h | h, _⟩ := h
  · obtain ⟨_, rfl, rfl⟩ := h
    refine ⟨by decide, fun i j hi => ?_⟩
    have := con_b hc (j := j) hi
    omega
  · obtain ⟨_, D, s, h1, h2, _⟩ := h
    have := StB_b hk hn h1 h2
    exact ⟨this.1, this.2.2⟩
theorem clB_diag {n k r : Nat} {pr : Int} {A : Nat → Nat → Int} (hp : pr ≠ 0) (hk : k < n) (hr : k ≤ r) (hrn : r < n) (h1 : ∀ i, i < k → A i i = pr) (h2 : ∀ i j, i < n → j < k → i ≠ j → A i j = 0) :
    (∀ i, i < k + 1 → clB k pr (swB r k A) i i = A r k) ∧ ∀ i j, i < n → j < k + 1 → i ≠ j → clB k pr (swB r k A) i j = 0 := by
  have s1 : ∀ i j, i < k → swB r k A i j = A i j := fun i j hi => by rw [swB_lt A hr hi]
  have s2 : ∀ j, swB r k A k j = A r j := fun j => by simp [swB]
  have s3 : ∀ i j, i < n → j < k → i ≠ j → swB r k A i j = 0 := by
    intro i j a b c
    unfold swB
    split
    · exact h2 r j hrn b (by omega)
    · split
      · exact h2 k j hk b (by omega)
      · exact h2 i j a b c
  refine ⟨fun i hi => ?_, fun i j a b c => ?_⟩
  · by_cases e : i = k
    · subst e; simp [clB, s2]
    · have e3 : swB r k A k i = 0 := s3 k i hk (by omega) (by omega)
      simp only [clB, if_neg e, s1 i i (by omega), h1 i (by omega), s2 k, e3]
      exact tdv hp (by rw [Int.mul_zero, Int.sub_zero, Int.mul_comm])
  · by_cases e : i = k
    · subst e
      have : j < i := by omega
      simp only [clB, if_true]
      exact s3 i j a this c
    · simp only [clB, if_neg e]
      by_cases q : j = k
      · subst q
        rw [show swB r j A j j * swB r j A i j - swB r j A i j * swB r j A j j = 0 by rw [Int.mul_comm]; omega]
        simp
      · rw [s3 i j a (by omega) c, s3 k j hk (by omega) (by omega)]
        simp
theorem GdB_s {n k r : Nat} {hg pos : Nat → Int} {pr : Int} {A : Nat → Nat → Int} (hn : 2 ≤ n ∧ n ≤ 5) (hk : k < n) (hc : CoB n hg pos) (h : GdB n hg pos k pr A) (hr : pvB A k (n - k) k = some r) : GdB n hg pos (k + 1) (A r k) (clB k pr (swB r k A)) := by
  obtain ⟨p1, p2, p3, p4⟩ := pvB_s hr
  obtain ⟨h0, h1, h2, h3⟩ := h
  have hd := clB_diag h0 hk p1 (by omega) h2 h3
  refine ⟨p3, Or.inr ⟨by omega, ?_⟩, hd.1, hd.2⟩
  rcases h1 with h1 | h1
  · obtain ⟨rfl, rfl, rfl⟩ := h1
    have hr0 : r = 0 := by
      by_cases e : r = 0
      · exact e
      · have := p4 0 (by omega) (by omega)
        simp [con] at this
    subst hr0
    have sid : swB 0 0 (con hg pos) = con hg pos := by
      funext i j
      by_cases e : i = 0 <;> simp [swB, e]
    rw [sid]
    refine ⟨dco hg pos, 1, dco_b hc, ⟨rfl, fun j => ?_, fun i j a b => ?_⟩, Alt_rf n _⟩
    · simp [clB, con]
    · simp only [clB, if_neg (show i ≠ 0 by omega)]
      rw [show con hg pos 0 0 = 1 from rfl, show con hg pos 0 j = 1 from rfl, Int.one_mul, Int.mul_one, Int.tdiv_one]
      rfl
  · obtain ⟨k1, D, s, d1, d2, d3⟩ := h1
    have e := StB_cl hk hn.2 h0 (StB_sw hn.2 p1 (by omega) d2)
    rw [show swB r k A k k = A r k by simp [swB]] at e
    obtain ⟨s', d4⟩ := Alt_sw hn k1 p1 (by omega) d3
    exact ⟨swB r k D, s', DB_sw d1 k1 p1 (by omega), e, d4⟩
/-- the end: up to the sign, minors of the conditions as they were -/
def FiB (n : Nat) (D0 : Nat → Nat → Int) (pr : Int) (A : Nat → Nat → Int) : Prop := pr ≠ 0 ∧ (∀ i, i < n → A i i = pr) ∧ ∃ s : Int, (s = 1 ∨ s = -1) ∧ pr = s * PRd n D0 ∧ ∀ i j, i < n → A i j = s * CRd n D0 i j
theorem GdB_f {n : Nat} {hg pos : Nat → Int} {pr : Int} {A : Nat → Nat → Int} (hn : 2 ≤ n ∧ n ≤ 5) (h : GdB n hg pos n pr A) : FiB n (dco hg pos) pr A := by
  obtain ⟨h0, h1, h2, h3⟩ := h
  rcases h1 with h1 | h1
  · omega
  · obtain ⟨_, D, s, d1, d2, d3⟩ := h1
    refine ⟨h0, h2, s, d3.1, ?_, fun i j hi => ?_⟩
    · rw [← PRd_s d3]
      have c2 : n = 2 ∨ n = 3 ∨ n = 4 ∨ n = 5 := by omega
      rcases c2 with rfl | rfl | rfl | rfl
      · exact d2.1
      · exact d2.1
      · exact d2.1
      · exact d2.1
    · rw [← CRd_s d3]
      have c2 : n = 2 ∨ n = 3 ∨ n = 4 ∨ n = 5 := by omega
      rcases c2 with rfl | rfl | rfl | rfl
      · obtain ⟨b0, b1, b2, _⟩ := d2
        have q1 : ∀ j, CRp 2 D 1 j = A 1 j := fun j => by rw [b2]; rfl
        have q0 : PRd 2 D = pr := by rw [b0]; rfl
        match i, hi with
        | 0, _ => rw [b1 j]; simp [CRd, q1, q0]
        | 1, _ => simp [CRd, q1]
      · obtain ⟨b0, b1, b2, b3, _⟩ := d2
        have q1 : ∀ j, CRp 3 D 1 j = A 1 j := fun j => by rw [b2]; rfl
        have q2 : ∀ j, CRp 3 D 2 j = A 2 j := fun j => by rw [b3]; rfl
        have q0 : PRd 3 D = pr := by rw [b0]; rfl
        match i, hi with
        | 0, _ => rw [b1 j]; simp [CRd, q1, q2, q0]
        | 1, _ => simp [CRd, q1]
        | 2, _ => simp [CRd, q2]
      · obtain ⟨b0, b1, b2, b3, b4, _⟩ := d2
        have q1 : ∀ j, CRp 4 D 1 j = A 1 j := fun j => by rw [b2]; rfl
        have q2 : ∀ j, CRp 4 D 2 j = A 2 j := fun j => by rw [b3]; rfl
        have q3 : ∀ j, CRp 4 D 3 j = A 3 j := fun j => by rw [b4]; rfl
        have q0 : PRd 4 D = pr := by rw [b0]; rfl
        match i, hi with
        | 0, _ => rw [b1 j]; simp [CRd, q1, q2, q3, q0]
        | 1, _ => simp [CRd, q1]
        | 2, _ => simp [CRd, q2]
        | 3, _ => simp [CRd, q3]
      · obtain ⟨b0, b1, b2, b3, b4, b5⟩ := d2
        have q1 : ∀ j, CRp 5 D 1 j = A 1 j := fun j => by rw [b2]; rfl
        have q2 : ∀ j, CRp 5 D 2 j = A 2 j := fun j => by rw [b3]; rfl
        have q3 : ∀ j, CRp 5 D 3 j = A 3 j := fun j => by rw [b4]; rfl
        have q4 : ∀ j, CRp 5 D 4 j = A 4 j := fun j => by rw [b5]; rfl
        have q0 : PRd 5 D = pr := by rw [b0]; rfl
        match i, hi with
        | 0, _ => rw [b1 j]; simp [CRd, q1, q2, q3, q4, q0]
        | 1, _ => simp [CRd, q1]
        | 2, _ => simp [CRd, q2]
        | 3, _ => simp [CRd, q3]
        | 4, _ => simp [CRd, q4]
/-- no pivot: no determinant -/
theorem StB_n {n k : Nat} {pr : Int} {A D : Nat → Nat → Int} (hn : 2 ≤ n ∧ n ≤ 5) (hk : k < n) (hp : pr ≠ 0) (h : StB n pr A D k) (hz : ∀ i, k ≤ i → i < n → A i k = 0) : PRd n D = 0 := by
  match k, hk, h, hz with
  | 0, _, h, _ => exact h.elim
  | 1, hk, ⟨h0, h1, h2⟩, hz =>
    have z : ∀ i, 1 ≤ i → i < n → D i 1 = 0 := fun i a b => by rw [← h2 i 1 a b]; exact hz i a b
    have c2 : n = 2 ∨ n = 3 ∨ n = 4 ∨ n = 5 := by omega
    rcases c2 with rfl | rfl | rfl | rfl
    · exact z 1 (by omega) (by omega)
    · show e2 D 1 2 1 2 = 0
      unfold e2
      rw [z 1 (by omega) (by omega), z 2 (by omega) (by omega)]
      simp
    · show e3 D 1 2 3 1 2 3 = 0
      unfold e3
      rw [z 1 (by omega) (by omega), z 2 (by omega) (by omega), z 3 (by omega) (by omega)]
      simp
    · show e4 D 1 2 3 4 = 0
      unfold e4
      rw [z 1 (by omega) (by omega), z 2 (by omega) (by omega), z 3 (by omega) (by omega), z 4 (by omega) (by omega)]
      simp
  | 2, hk, ⟨h0, h1, h2, h3⟩, hz =>
    have z : ∀ i, 2 ≤ i → i < n → e2 D 1 i 2 1 = 0 := fun i a b => by have := h3 i 2 a b; rw [hz i a b] at this; omega
    have c2 : n = 3 ∨ n = 4 ∨ n = 5 := by omega
    rcases c2 with rfl | rfl | rfl
    · have := z 2 (by omega) (by omega)
      show e2 D 1 2 1 2 = 0
      unfold e2 at this ⊢
      grind
    · have z2 := z 2 (by omega) (by omega)
      have z3 := z 3 (by omega) (by omega)
      have : pr * e3 D 1 2 3 1 2 3 = e2 D 1 2 2 1 * e2 D 1 3 3 1 - e2 D 1 3 2 1 * e2 D 1 2 3 1 := by
        subst h0
        unfold e3 e2
        grind
      rw [z2, z3, Int.zero_mul, Int.zero_mul] at this
      exact (Int.mul_eq_zero.mp this).resolve_left hp
    · have z2 := z 2 (by omega) (by omega)
      have z3 := z 3 (by omega) (by omega)
      have z4 := z 4 (by omega) (by omega)
      have : pr * e4 D 1 2 3 4 = e2 D 1 2 2 1 * e3 D 1 3 4 1 3 4 - e2 D 1 3 2 1 * e3 D 1 2 4 1 3 4 + e2 D 1 4 2 1 * e3 D 1 2 3 1 3 4 ∨ pr * e4 D 1 2 3 4 = - (e2 D 1 2 2 1 * e3 D 1 3 4 1 3 4 - e2 D 1 3 2 1 * e3 D 1 2 4 1 3 4 + e2 D 1 4 2 1 * e3 D 1 2 3 1 3 4) := by
        subst h0
        right
        unfold e4 e3 e2
        grind
      rw [z2, z3, z4] at this
      simp only [Int.zero_mul, Int.sub_zero, Int.add_zero, Int.neg_zero, or_self] at this
      exact (Int.mul_eq_zero.mp this).resolve_left hp
  | 3, hk, ⟨h0, h1, h2, h3, h4⟩, hz =>
    have z : ∀ i, 3 ≤ i → i < n → e3 D 1 2 i 3 1 2 = 0 := fun i a b => by rw [← h4 i 3 a b]; exact hz i a b
    have c2 : n = 4 ∨ n = 5 := by omega
    rcases c2 with rfl | rfl
    · have := z 3 (by omega) (by omega)
      show e3 D 1 2 3 1 2 3 = 0
      unfold e3 e2 at this ⊢
      grind
    · have z3 := z 3 (by omega) (by omega)
      have z4 := z 4 (by omega) (by omega)
      have : pr * e4 D 1 2 3 4 = e3 D 1 2 3 3 1 2 * e3 D 1 2 4 4 1 2 - e3 D 1 2 4 3 1 2 * e3 D 1 2 3 4 1 2 := by
        subst h0
        unfold e4 e3 e2
        grind
      rw [z3, z4, Int.zero_mul, Int.zero_mul] at this
      exact (Int.mul_eq_zero.mp this).resolve_left hp
  | 4, hk, ⟨h0, h1, h2, h3, h4, h5⟩, hz =>
    have e5 : n = 5 := by omega
    subst e5
    have := hz 4 (by omega) (by omega)
    rw [h5 4 4 (by omega) (by omega)] at this
    show e4 D 1 2 3 4 = 0
    unfold e4 e3 e2 at this ⊢
    grind
  | 5, hk, _, _ => omega
  | k + 6, hk, h, _ => exact h.elim
theorem GdB_n {n k : Nat} {hg pos : Nat → Int} {pr : Int} {A : Nat → Nat → Int} (hn : 2 ≤ n ∧ n ≤ 5) (hk : k < n) (h : GdB n hg pos k pr A) (hr : pvB A k (n - k) k = none) : PRd n (dco hg pos) = 0 := by
  have hz := pvB_n hr
  obtain ⟨h0, h1, h2, h3⟩ := h
  rcases h1 with h1 | h1
  · obtain ⟨rfl, rfl, rfl⟩ := h1
    have := hz 0 (by omega) (by omega)
    simp [con] at this
  · obtain ⟨k1, D, s, d1, d2, d3⟩ := h1
    have := StB_n hn hk h0 d2 (fun i a b => hz i a (by omega))
    rw [PRd_s d3] at this
    rcases Int.mul_eq_zero.mp this with e | e
    · have := d3.1
      omega
    · exact e
/-- elimination ends with minors, or the determinant is 0 -/
theorem elB_f {n : Nat} {hg pos : Nat → Int} (hn : 2 ≤ n ∧ n ≤ 5) (hc : CoB n hg pos) : ∀ (m k : Nat) (pr : Int) (A : Nat → Nat → Int), m + k = n → GdB n hg pos k pr A → (elB n m k pr A = none → PRd n (dco hg pos) = 0) ∧ ∀ pr' A', elB n m k pr A = some (pr', A') → FiB n (dco hg pos) pr' A'
  | 0, k, pr, A, hm, h => by
    refine ⟨fun e => by simp [elB] at e, fun pr' A' e => ?_⟩
    simp only [elB, Option.some.injEq, Prod.mk.injEq] at e
    obtain ⟨rfl, rfl⟩ := e
    have : k = n := by omega
    subst this
    exact GdB_f hn h
  | m + 1, k, pr, A, hm, h => by
    rw [elB]
    cases hp : pvB A k (n - k) k with
    | none => exact ⟨fun _ => GdB_n hn (by omega) h hp, fun pr' A' e => by simp at e⟩
    | some r => exact elB_f hn hc m (k + 1) _ _ (by omega) (GdB_s hn (by omega) hc h hp)
/-- bounds of the minors -/
theorem Fdt_b {n : Nat} {D : Nat → Nat → Int} (hn : 2 ≤ n ∧ n ≤ 5) (h : DB n D) (j : Nat) {u v w : Nat} (hu : n = 2 ∨ u < n) (hv : n ≤ 3 ∨ v < n) (hw : n ≤ 4 ∨ w < n) : (Fdt n D j u v w).natAbs ≤ 155520000 := by
  have c2 : n = 2 ∨ n = 3 ∨ n = 4 ∨ n = 5 := by omega
  rcases c2 with rfl | rfl | rfl | rfl
  · have := h 1 j (by omega) (by omega)
    show (D 1 j).natAbs ≤ _
    omega
  · have := (e2_b h (a := 1) (b := 2) (j := j) (u := u) (by omega) (by omega) (by omega)).1
    show (e2 D 1 2 j u).natAbs ≤ _
    omega
  · have := e3_b h (a := 1) (b := 2) (c := 3) (j := j) (u := u) (v := v) (by omega) (by omega) (by omega) (by omega) (by omega)
    show (e3 D 1 2 3 j u v).natAbs ≤ _
    omega
  · exact e4_b h (by omega) (by omega) (by omega)
theorem PRd_b {n : Nat} {D : Nat → Nat → Int} (hn : 2 ≤ n ∧ n ≤ 5) (h : DB n D) : (PRd n D).natAbs ≤ 155520000 := Fdt_b hn h 1 (by omega) (by omega) (by omega)
theorem CRp_b {n i : Nat} {D : Nat → Nat → Int} (hn : 2 ≤ n ∧ n ≤ 5) (h : DB n D) (hi : 1 ≤ i ∧ i < n) (j : Nat) : (CRp n D i j).natAbs ≤ 155520000 := by
  unfold CRp
  split
  · exact Fdt_b hn h j (by omega) (by omega) (by omega)
  · split
    · rw [Int.natAbs_neg]; exact Fdt_b hn h j (by omega) (by omega) (by omega)
    · split
      · exact Fdt_b hn h j (by omega) (by omega) (by omega)
      · rw [Int.natAbs_neg]; exact Fdt_b hn h j (by omega) (by omega) (by omega)
/-- the order of the rows: the last one first -/
theorem Fdt_rot {n : Nat} {D D' : Nat → Nat → Int} (hn : 2 ≤ n ∧ n ≤ 5) (h1 : ∀ j, D' (n - 1) j = D 1 j) (h2 : ∀ i j, 1 ≤ i → i < n - 1 → D' i j = D (i + 1) j) : ∃ s, Alt n D D' s := by
  have c2 : n = 2 ∨ n = 3 ∨ n = 4 ∨ n = 5 := by omega
  rcases c2 with rfl | rfl | rfl | rfl
  · refine ⟨1, Or.inl rfl, fun j u v w => ?_⟩
    have a := h1 j
    simp only [Fdt, if_true]
    simp only [Nat.reduceSub] at a
    omega
  · refine ⟨-1, Or.inr rfl, fun j u v w => ?_⟩
    have a := h1
    have b := h2 1
    simp only [Nat.reduceSub, Nat.reduceAdd, Nat.reduceLT, Nat.le_refl, true_implies, forall_const] at a b
    simp only [Fdt, e2, a, b, show ¬ (3 = 2) by omega, if_true, if_false]
    grind
  · refine ⟨1, Or.inl rfl, fun j u v w => ?_⟩
    have a := h1
    have b := fun j => h2 1 j (by omega) (by omega)
    have c := fun j => h2 2 j (by omega) (by omega)
    simp only [Nat.reduceSub, Nat.reduceAdd] at a b c
    simp only [Fdt, e3, e2, a, b, c, show ¬ (4 = 2) by omega, show ¬ (4 = 3) by omega, if_true, if_false]
    grind
  · refine ⟨-1, Or.inr rfl, fun j u v w => ?_⟩
    have a := h1
    have b := fun j => h2 1 j (by omega) (by omega)
    have c := fun j => h2 2 j (by omega) (by omega)
    have d := fun j => h2 3 j (by omega) (by omega)
    simp only [Nat.reduceSub, Nat.reduceAdd] at a b c d
    simp only [Fdt, e4, e3, e2, a, b, c, d, show ¬ (5 = 2) by omega, show ¬ (5 = 3) by omega, show ¬ (5 = 4) by omega, if_false]
    grind
