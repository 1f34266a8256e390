/-! Elimination without fractions, over the whole numbers: minors, bounds. -/
def e2 (D : Nat → Nat → Int) (a b j u : Nat) : Int := D a j * D b u - D b j * D a u
def e3 (D : Nat → Nat → Int) (a b c j u v : Nat) : Int := D a j * e2 D b c u v - D b j * e2 D a c u v + D c j * e2 D a b u v
def e4 (D : Nat → Nat → Int) (j u v w : Nat) : Int := D 1 j * e3 D 2 3 4 u v w - D 2 j * e3 D 1 3 4 u v w + D 3 j * e3 D 1 2 4 u v w - D 4 j * e3 D 1 2 3 u v w
/-- rows r and k change places -/
def swB (r k : Nat) (A : Nat → Nat → Int) : Nat → Nat → Int := fun i j => if i = k then A r j else if i = r then A k j else A i j
/-- column k is cleared by row k -/
def clB (k : Nat) (pr : Int) (A : Nat → Nat → Int) : Nat → Nat → Int := fun i j => if i = k then A k j else (A k k * A i j - A i k * A k j).tdiv pr
/-- behind k steps the rows hold minors of D -/
def StB (n : Nat) (pr : Int) (A D : Nat → Nat → Int) : Nat → Prop
  | 0 => False
  | 1 => pr = 1 ∧ (∀ j, A 0 j = 1) ∧ ∀ i j, 1 ≤ i → i < n → A i j = D i j
  | 2 => pr = D 1 1 ∧ (∀ j, A 0 j = pr - A 1 j) ∧ (∀ j, A 1 j = D 1 j) ∧ ∀ i j, 2 ≤ i → i < n → A i j = - e2 D 1 i j 1
  | 3 => pr = e2 D 1 2 1 2 ∧ (∀ j, A 0 j = pr - A 1 j - A 2 j) ∧ (∀ j, A 1 j = e2 D 1 2 j 2) ∧ (∀ j, A 2 j = - e2 D 1 2 j 1) ∧ ∀ i j, 3 ≤ i → i < n → A i j = e3 D 1 2 i j 1 2
  | 4 => pr = e3 D 1 2 3 1 2 3 ∧ (∀ j, A 0 j = pr - A 1 j - A 2 j - A 3 j) ∧ (∀ j, A 1 j = e3 D 1 2 3 j 2 3) ∧ (∀ j, A 2 j = - e3 D 1 2 3 j 1 3) ∧ (∀ j, A 3 j = e3 D 1 2 3 j 1 2) ∧ ∀ i j, 4 ≤ i → i < n → A i j = - e4 D j 1 2 3
  | 5 => pr = e4 D 1 2 3 4 ∧ (∀ j, A 0 j = pr - A 1 j - A 2 j - A 3 j - A 4 j) ∧ (∀ j, A 1 j = e4 D j 2 3 4) ∧ (∀ j, A 2 j = - e4 D j 1 3 4) ∧ (∀ j, A 3 j = e4 D j 1 2 4) ∧ (∀ j, A 4 j = - e4 D j 1 2 3)
  | _ + 6 => False
theorem swB_lt {r k i : Nat} (A : Nat → Nat → Int) (hr : k ≤ r) (hi : i < k) : swB r k A i = A i := by
  funext j
  simp [swB, show i ≠ k by omega, show i ≠ r by omega]
theorem StB_sw {n k r : Nat} {pr : Int} {A D : Nat → Nat → Int} (hn : n ≤ 5) (hr : k ≤ r) (hrn : r < n) (h : StB n pr A D k) : StB n pr (swB r k A) (swB r k D) k := by
  have key : ∀ (F : (Nat → Int) → Nat → Int), (∀ i j, k ≤ i → i < n → A i j = F (D i) j) → ∀ i j, k ≤ i → i < n → swB r k A i j = F (swB r k D i) j := by
    intro F hF i j h1 h2
    by_cases e : i = k
    · subst e
      have := hF r j (by omega) hrn
      have e3 : swB r i D i = D r := by funext z; simp [swB]
      rw [e3]
      simp only [swB, if_true]
      exact this
    · by_cases e2 : i = r
      · subst e2
        have := hF k j (by omega) (by omega)
        have e3 : swB i k D i = D k := by funext z; simp [swB, e]
        rw [e3]
        simp only [swB, e, if_true, if_false]
        exact this
      · have := hF i j h1 h2
        have e3 : swB r k D i = D i := by funext z; simp [swB, e, e2]
        rw [e3]
        simp only [swB, e, e2, if_false]
        exact this
  match k, hr, h, key with
  | 0, _, h, _ => exact h
  | 1, hr, ⟨h0, h1, h2⟩, key =>
    have r0 := swB_lt (k := 1) A hr (i := 0) (by omega)
    exact ⟨h0, by intro j; rw [r0]; exact h1 j, key (fun d j => d j) h2⟩
  | 2, hr, ⟨h0, h1, h2, h3⟩, key =>
    have r0 := swB_lt (k := 2) A hr (i := 0) (by omega)
    have r1 := swB_lt (k := 2) A hr (i := 1) (by omega)
    have q1 := swB_lt (k := 2) D hr (i := 1) (by omega)
    refine ⟨by rw [q1]; exact h0, by intro j; rw [r0, r1]; exact h1 j, by intro j; rw [r1, q1]; exact h2 j, ?_⟩
    have := key (fun d j => - (D 1 j * d 1 - d j * D 1 1)) h3
    intro i j a b
    rw [this i j a b]
    simp only [e2, q1]
  | 3, hr, ⟨h0, h1, h2, h3, h4⟩, key =>
    have r0 := swB_lt (k := 3) A hr (i := 0) (by omega)
    have r1 := swB_lt (k := 3) A hr (i := 1) (by omega)
    have r2 := swB_lt (k := 3) A hr (i := 2) (by omega)
    have q1 := swB_lt (k := 3) D hr (i := 1) (by omega)
    have q2 := swB_lt (k := 3) D hr (i := 2) (by omega)
    refine ⟨by simp only [e2, q1, q2]; exact h0, by intro j; rw [r0, r1, r2]; exact h1 j, by intro j; rw [r1]; simp only [e2, q1, q2]; exact h2 j, by intro j; rw [r2]; simp only [e2, q1, q2]; exact h3 j, ?_⟩
    have := key (fun d j => D 1 j * (D 2 1 * d 2 - d 1 * D 2 2) - D 2 j * (D 1 1 * d 2 - d 1 * D 1 2) + d j * (D 1 1 * D 2 2 - D 2 1 * D 1 2)) h4
    intro i j a b
    rw [this i j a b]
    simp only [e3, e2, q1, q2]
  | 4, hr, ⟨h0, h1, h2, h3, h4, h5⟩, key =>
    have e : r = 4 := by omega
    subst e
    have : ∀ X : Nat → Nat → Int, swB 4 4 X = X := by
      intro X
      funext i j
      by_cases e : i = 4
      · simp [swB, e]
      · simp [swB, e]
    rw [this, this]
    exact ⟨h0, h1, h2, h3, h4, h5⟩
  | 5, hr, h, _ => omega
  | k + 6, _, h, _ => exact h.elim
theorem tdv {x p y : Int} (hp : p ≠ 0) (h : x = p * y) : x.tdiv p = y := by rw [h]; exact Int.mul_tdiv_cancel_left y hp
theorem StB_cl {n k : Nat} {pr : Int} {A D : Nat → Nat → Int} (hk : k < n) (hn : n ≤ 5) (hp : pr ≠ 0) (h : StB n pr A D k) : StB n (A k k) (clB k pr A) D (k + 1) := by
  have hkk : ∀ j, clB k pr A k j = A k j := fun j => by simp [clB]
  have hkn : ∀ i j, i ≠ k → clB k pr A i j = (A k k * A i j - A i k * A k j).tdiv pr := fun i j hi => by simp [clB, hi]
  match k, hk, h, hkk, hkn with
  | 0, _, h, _, _ => exact h.elim
  | 1, hk, ⟨h0, h1, h2⟩, hkk, hkn =>
    refine ⟨h2 1 1 (by omega) hk, fun j => ?_, fun j => ?_, fun i j a b => ?_⟩
    · rw [hkn 0 j (by omega), hkk, h1, h1]
      exact tdv hp (by subst h0; omega)
    · rw [hkk]; exact h2 1 j (by omega) hk
    · rw [hkn i j (by omega), h2 1 1 (by omega) hk, h2 i j (by omega) b, h2 i 1 (by omega) b, h2 1 j (by omega) hk]
      refine tdv hp ?_
      subst h0
      unfold e2
      grind
  | 2, hk, ⟨h0, h1, h2, h3⟩, hkk, hkn =>
    have g1 : ∀ j, clB 2 pr A 1 j = e2 D 1 2 j 2 := by
      intro j
      rw [hkn 1 j (by omega), h3 2 2 (by omega) hk, h3 2 j (by omega) hk, h2, h2]
      refine tdv hp ?_
      subst h0
      unfold e2
      grind
    have g2 : ∀ j, clB 2 pr A 2 j = - e2 D 1 2 j 1 := by
      intro j
      rw [hkk, h3 2 j (by omega) hk]
    have ep : A 2 2 = e2 D 1 2 1 2 := by
      rw [h3 2 2 (by omega) hk]
      unfold e2
      grind
    refine ⟨ep, fun j => ?_, g1, g2, fun i j a b => ?_⟩
    · rw [hkn 0 j (by omega), h1, h1, g1, hkk]
      refine tdv hp ?_
      have t1 : pr * e2 D 1 2 j 2 = A 2 2 * A 1 j - A 1 2 * A 2 j := by
        rw [h3 2 2 (by omega) hk, h3 2 j (by omega) hk, h2, h2]
        subst h0
        unfold e2
        grind
      generalize e2 D 1 2 j 2 = X at t1 ⊢
      grind
    · rw [hkn i j (by omega), h3 2 2 (by omega) hk, h3 i j (by omega) b, h3 i 2 (by omega) b, h3 2 j (by omega) hk]
      refine tdv hp ?_
      subst h0
      unfold e3 e2
      grind
  | 3, hk, ⟨h0, h1, h2, h3, h4⟩, hkk, hkn =>
    have t1 : ∀ j, A 3 3 * A 1 j - A 1 3 * A 3 j = pr * e3 D 1 2 3 j 2 3 := by
      intro j
      rw [h4 3 3 (by omega) hk, h4 3 j (by omega) hk, h2, h2]
      subst h0
      unfold e3 e2
      grind
    have t2 : ∀ j, A 3 3 * A 2 j - A 2 3 * A 3 j = pr * - e3 D 1 2 3 j 1 3 := by
      intro j
      rw [h4 3 3 (by omega) hk, h4 3 j (by omega) hk, h3, h3]
      subst h0
      unfold e3 e2
      grind
    have g1 : ∀ j, clB 3 pr A 1 j = e3 D 1 2 3 j 2 3 := by
      intro j
      rw [hkn 1 j (by omega)]
      exact tdv hp (t1 j)
    have g2 : ∀ j, clB 3 pr A 2 j = - e3 D 1 2 3 j 1 3 := by
      intro j
      rw [hkn 2 j (by omega)]
      exact tdv hp (t2 j)
    have g3 : ∀ j, clB 3 pr A 3 j = e3 D 1 2 3 j 1 2 := by
      intro j
      rw [hkk, h4 3 j (by omega) hk]
    have ep : A 3 3 = e3 D 1 2 3 1 2 3 := by
      rw [h4 3 3 (by omega) hk]
      unfold e3 e2
      grind
    refine ⟨ep, fun j => ?_, g1, g2, g3, fun i j a b => ?_⟩
    · rw [hkn 0 j (by omega), h1, h1, g1, g2, hkk]
      refine tdv hp ?_
      have u1 := t1 j
      have u2 := t2 j
      generalize e3 D 1 2 3 j 2 3 = X at u1 ⊢
      generalize e3 D 1 2 3 j 1 3 = Y at u2 ⊢
      grind
    · rw [hkn i j (by omega), h4 3 3 (by omega) hk, h4 i j (by omega) b, h4 i 3 (by omega) b, h4 3 j (by omega) hk]
      refine tdv hp ?_
      have ei : i = 4 := by omega
      subst ei
      subst h0
      unfold e4 e3 e2
      grind
  | 4, hk, ⟨h0, h1, h2, h3, h4, h5⟩, hkk, hkn =>
    have t1 : ∀ j, A 4 4 * A 1 j - A 1 4 * A 4 j = pr * e4 D j 2 3 4 := by
      intro j
      rw [h5 4 4 (by omega) hk, h5 4 j (by omega) hk, h2, h2]
      subst h0
      unfold e4 e3 e2
      grind
    have t2 : ∀ j, A 4 4 * A 2 j - A 2 4 * A 4 j = pr * - e4 D j 1 3 4 := by
      intro j
      rw [h5 4 4 (by omega) hk, h5 4 j (by omega) hk, h3, h3]
      subst h0
      unfold e4 e3 e2
      grind
    have t3 : ∀ j, A 4 4 * A 3 j - A 3 4 * A 4 j = pr * e4 D j 1 2 4 := by
      intro j
      rw [h5 4 4 (by omega) hk, h5 4 j (by omega) hk, h4, h4]
      subst h0
      unfold e4 e3 e2
      grind
    have g1 : ∀ j, clB 4 pr A 1 j = e4 D j 2 3 4 := by
      intro j
      rw [hkn 1 j (by omega)]
      exact tdv hp (t1 j)
    have g2 : ∀ j, clB 4 pr A 2 j = - e4 D j 1 3 4 := by
      intro j
      rw [hkn 2 j (by omega)]
      exact tdv hp (t2 j)
    have g3 : ∀ j, clB 4 pr A 3 j = e4 D j 1 2 4 := by
      intro j
      rw [hkn 3 j (by omega)]
      exact tdv hp (t3 j)
    have g4 : ∀ j, clB 4 pr A 4 j = - e4 D j 1 2 3 := by
      intro j
      rw [hkk, h5 4 j (by omega) hk]
    have ep : A 4 4 = e4 D 1 2 3 4 := by
      rw [h5 4 4 (by omega) hk]
      unfold e4 e3 e2
      grind
    refine ⟨ep, fun j => ?_, g1, g2, g3, g4⟩
    rw [hkn 0 j (by omega), h1, h1, g1, g2, g3, hkk]
    refine tdv hp ?_
    have u1 := t1 j
    have u2 := t2 j
    have u3 := t3 j
    generalize e4 D j 2 3 4 = X at u1 ⊢
    generalize e4 D j 1 3 4 = Y at u2 ⊢
    generalize e4 D j 1 2 4 = Z at u3 ⊢
    grind
  | 5, hk, _, _, _ => omega
  | k + 6, hk, h, _, _ => exact h.elim
/-! bounds -/
def DB (n : Nat) (D : Nat → Nat → Int) : Prop := ∀ i j, 1 ≤ i → i < n → -60 ≤ D i j ∧ D i j ≤ 60 ∧ (j < n → D i j ≤ 0)
theorem mulB {x y : Int} {X Y : Nat} (hx : x.natAbs ≤ X) (hy : y.natAbs ≤ Y) : (x * y).natAbs ≤ X * Y := by
  rw [Int.natAbs_mul]
  exact Nat.mul_le_mul hx hy
theorem e2_b {n : Nat} {D : Nat → Nat → Int} (h : DB n D) {a b j u : Nat} (ha : 1 ≤ a ∧ a < n) (hb : 1 ≤ b ∧ b < n) (hu : u < n) : (e2 D a b j u).natAbs ≤ 7200 ∧ (j < n → (e2 D a b j u).natAbs ≤ 3600) := by
  have p1 := h a j ha.1 ha.2
  have p2 := h b u hb.1 hb.2
  have p3 := h b j hb.1 hb.2
  have p4 := h a u ha.1 ha.2
  have m1 := mulB (x := D a j) (y := D b u) (X := 60) (Y := 60) (by omega) (by omega)
  have m2 := mulB (x := D b j) (y := D a u) (X := 60) (Y := 60) (by omega) (by omega)
  unfold e2
  refine ⟨by omega, fun hj => ?_⟩
  have s1 : 0 ≤ D a j * D b u := Int.mul_nonneg_of_nonpos_of_nonpos (p1.2.2 hj) (p2.2.2 hu)
  have s2 : 0 ≤ D b j * D a u := Int.mul_nonneg_of_nonpos_of_nonpos (p3.2.2 hj) (p4.2.2 hu)
  omega
theorem e3_b {n : Nat} {D : Nat → Nat → Int} (h : DB n D) {a b c j u v : Nat} (ha : 1 ≤ a ∧ a < n) (hb : 1 ≤ b ∧ b < n) (hc : 1 ≤ c ∧ c < n) (hu : u < n) (hv : v < n) : (e3 D a b c j u v).natAbs ≤ 648000 := by
  have p1 := h a j ha.1 ha.2
  have p2 := h b j hb.1 hb.2
  have p3 := h c j hc.1 hc.2
  have m1 := mulB (x := D a j) (X := 60) (by omega) ((e2_b h (j := u) (u := v) hb hc hv).2 hu)
  have m2 := mulB (x := D b j) (X := 60) (by omega) ((e2_b h (j := u) (u := v) ha hc hv).2 hu)
  have m3 := mulB (x := D c j) (X := 60) (by omega) ((e2_b h (j := u) (u := v) ha hb hv).2 hu)
  unfold e3
  omega
theorem e4_b {D : Nat → Nat → Int} (h : DB 5 D) {j u v w : Nat} (hu : u < 5) (hv : v < 5) (hw : w < 5) : (e4 D j u v w).natAbs ≤ 155520000 := by
  have p1 := h 1 j (by omega) (by omega)
  have p2 := h 2 j (by omega) (by omega)
  have p3 := h 3 j (by omega) (by omega)
  have p4 := h 4 j (by omega) (by omega)
  have m1 := mulB (x := D 1 j) (X := 60) (by omega) (e3_b h (a := 2) (b := 3) (c := 4) (j := u) (u := v) (v := w) (by omega) (by omega) (by omega) hv hw)
  have m2 := mulB (x := D 2 j) (X := 60) (by omega) (e3_b h (a := 1) (b := 3) (c := 4) (j := u) (u := v) (v := w) (by omega) (by omega) (by omega) hv hw)
  have m3 := mulB (x := D 3 j) (X := 60) (by omega) (e3_b h (a := 1) (b := 2) (c := 4) (j := u) (u := v) (v := w) (by omega) (by omega) (by omega) hv hw)
  have m4 := mulB (x := D 4 j) (X := 60) (by omega) (e3_b h (a := 1) (b := 2) (c := 3) (j := u) (u := v) (v := w) (by omega) (by omega) (by omega) hv hw)
  unfold e4
  omega
theorem DB_sw {n r k : Nat} {D : Nat → Nat → Int} (h : DB n D) (hk : 1 ≤ k) (hr : k ≤ r) (hrn : r < n) : DB n (swB r k D) := by
  intro i j h1 h2
  unfold swB
  by_cases e : i = k
  · rw [if_pos e]; exact h r j (by omega) hrn
  · rw [if_neg e]
    by_cases e2 : i = r
    · rw [if_pos e2]; exact h k j hk (by omega)
    · rw [if_neg e2]; exact h i j h1 h2
/-- every entry is small; the rows but the first are smaller -/
theorem StB_b {n k : Nat} {pr : Int} {A D : Nat → Nat → Int} (hk : k ≤ n) (hn : n ≤ 5) (hD : DB n D) (h : StB n pr A D k) : pr.natAbs ≤ 155520000 ∧ (∀ i j, 1 ≤ i → i < n → (A i j).natAbs ≤ 155520000) ∧ ∀ i j, i < n → (A i j).natAbs ≤ 777600000 := by
  have fin : pr.natAbs ≤ 155520000 → (∀ i j, 1 ≤ i → i < n → (A i j).natAbs ≤ 155520000) → (∀ j, (A 0 j).natAbs ≤ 777600000) → pr.natAbs ≤ 155520000 ∧ (∀ i j, 1 ≤ i → i < n → (A i j).natAbs ≤ 155520000) ∧ ∀ i j, i < n → (A i j).natAbs ≤ 777600000 := by
    intro a b c
    refine ⟨a, b, fun i j hi => ?_⟩
    by_cases e : i = 0
    · subst e; exact c j
    · have := b i j (by omega) hi
      omega
  match k, hk, h with
  | 0, _, h => exact h.elim
  | 1, hk, ⟨h0, h1, h2⟩ =>
    refine fin (by subst h0; decide) (fun i j a b => ?_) (fun j => by rw [h1]; decide)
    have := hD i j a b
    rw [h2 i j a b]
    omega
  | 2, hk, ⟨h0, h1, h2, h3⟩ =>
    have hp : pr.natAbs ≤ 60 := by have := hD 1 1 (by omega) (by omega); rw [h0]; omega
    have b1 : ∀ j, (A 1 j).natAbs ≤ 60 := fun j => by have := hD 1 j (by omega) (by omega); rw [h2]; omega
    refine fin (by omega) (fun i j a b => ?_) (fun j => by rw [h1]; have := b1 j; omega)
    by_cases e : i = 1
    · subst e; have := b1 j; omega
    · have := (e2_b hD (a := 1) (b := i) (j := j) (u := 1) (by omega) (by omega) (by omega)).1
      rw [h3 i j (by omega) b]
      omega
  | 3, hk, ⟨h0, h1, h2, h3, h4⟩ =>
    have hp : pr.natAbs ≤ 7200 := by rw [h0]; exact (e2_b hD (by omega) (by omega) (by omega)).1
    have b1 : ∀ j, (A 1 j).natAbs ≤ 7200 := fun j => by rw [h2]; exact (e2_b hD (by omega) (by omega) (by omega)).1
    have b2 : ∀ j, (A 2 j).natAbs ≤ 7200 := fun j => by rw [h3, Int.natAbs_neg]; exact (e2_b hD (by omega) (by omega) (by omega)).1
    refine fin (by omega) (fun i j a b => ?_) (fun j => by rw [h1]; have := b1 j; have := b2 j; omega)
    by_cases e : i = 1
    · subst e; have := b1 j; omega
    · by_cases e : i = 2
      · subst e; have := b2 j; omega
      · have := e3_b hD (a := 1) (b := 2) (c := i) (j := j) (u := 1) (v := 2) (by omega) (by omega) (by omega) (by omega) (by omega)
        rw [h4 i j (by omega) b]
        omega
  | 4, hk, ⟨h0, h1, h2, h3, h4, h5⟩ =>
    have q : ∀ j u v, u < 4 → v < 4 → (e3 D 1 2 3 j u v).natAbs ≤ 648000 := fun j u v hu hv => e3_b hD (by omega) (by omega) (by omega) (by omega) (by omega)
    have hp : pr.natAbs ≤ 648000 := by rw [h0]; exact q _ _ _ (by omega) (by omega)
    have b1 : ∀ j, (A 1 j).natAbs ≤ 648000 := fun j => by rw [h2]; exact q _ _ _ (by omega) (by omega)
    have b2 : ∀ j, (A 2 j).natAbs ≤ 648000 := fun j => by rw [h3, Int.natAbs_neg]; exact q _ _ _ (by omega) (by omega)
    have b3 : ∀ j, (A 3 j).natAbs ≤ 648000 := fun j => by rw [h4]; exact q _ _ _ (by omega) (by omega)
    refine fin (by omega) (fun i j a b => ?_) (fun j => by rw [h1]; have := b1 j; have := b2 j; have := b3 j; omega)
    by_cases e : i = 1
    · subst e; have := b1 j; omega
    · by_cases e : i = 2
      · subst e; have := b2 j; omega
      · by_cases e : i = 3
        · subst e; have := b3 j; omega
        · have e5 : n = 5 := by omega
          subst e5
          rw [h5 i j (by omega) b, Int.natAbs_neg]
          exact e4_b hD (by omega) (by omega) (by omega)
  | 5, hk, ⟨h0, h1, h2, h3, h4, h5⟩ =>
    have e5 : n = 5 := by omega
    subst e5
    have q : ∀ j u v w, u < 5 → v < 5 → w < 5 → (e4 D j u v w).natAbs ≤ 155520000 := fun j u v w hu hv hw => e4_b hD hu hv hw
    have hp : pr.natAbs ≤ 155520000 := by rw [h0]; exact q _ _ _ _ (by omega) (by omega) (by omega)
    have b1 : ∀ j, (A 1 j).natAbs ≤ 155520000 := fun j => by rw [h2]; exact q _ _ _ _ (by omega) (by omega) (by omega)
    have b2 : ∀ j, (A 2 j).natAbs ≤ 155520000 := fun j => by rw [h3, Int.natAbs_neg]; exact q _ _ _ _ (by omega) (by omega) (by omega)
    have b3 : ∀ j, (A 3 j).natAbs ≤ 155520000 := fun j => by rw [h4]; exact q _ _ _ _ (by omega) (by omega) (by omega)
    have b4 : ∀ j, (A 4 j).natAbs ≤ 155520000 := fun j => by rw [h5, Int.natAbs_neg]; exact q _ _ _ _ (by omega) (by omega) (by omega)
    refine fin hp (fun i j a b => ?_) (fun j => by rw [h1]; have := b1 j; have := b2 j; have := b3 j; have := b4 j; omega)
    by_cases e : i = 1
    · subst e; exact b1 j
    · by_cases e : i = 2
      · subst e; exact b2 j
      · by_cases e : i = 3
        · subst e; exact b3 j
        · have : i = 4 := by omega
          subst this; exact b4 j
  | k + 6, _, h => exact h.elim
