/-! Wear, in the reference. -/
def hfL (lo : Int64) : List Int64 → Int64 → Int64
  | x :: y :: t, w => hfL lo (y :: t) (w + cbL (dL x y / lo))
  | _, w => w
theorem hf_eq (lo : Int64) (g : Nat → Int64) : ∀ (t : List Int64) (x : Int64) (i : Nat) (w : Int64), (∀ j, j < (x :: t).length → g (i + j) = (x :: t).getD j 0) → hfM lo g t.length i w = hfL lo (x :: t) w
  | [], x, i, w, h => rfl
  | y :: t, x, i, w, h => by
    have h0 := h 0 (by simp)
    have h1 := h 1 (by simp)
    simp only [List.getD_cons_zero, List.getD_cons_succ, Nat.add_zero] at h0 h1
    rw [List.length_cons, hfM, hfL, dS, h0, h1]
    exact hf_eq lo g t y (i + 1) _ (fun j hj => by
      have := h (j + 1) (by simp at hj ⊢; omega)
      rw [show i + 1 + j = i + (j + 1) by omega, this]
      simp)
/-- a train's coming and going -/
def cgM (σ : MS) (b : Nat) (kind : Int32) (x t : Nat) : List Int64 := 0 :: ((List.range (Ld σ b + agd σ t + 1)).map (fun m => effM σ b kind x (Ld σ b) (nsd σ b) t 0 (nad σ t) (nI m)) ++ [0])
def wrM (lo : Int64) (r : List Int64) : List Int64 × Int64 × Int32 := rdA lo ([], 0, 0) (NF r)
def weM (lo : Int64) (r : List Int64) : Int64 := hfL lo (wrM lo r).1.reverse (wrM lo r).2.1
theorem pw_len (e : Int64) : ∀ s : List Int64, 1 ≤ (pw e s).length ∧ (pw e s).length ≤ s.length + 1
  | [] => by simp [pw]
  | [a] => by simp [pw]
  | a :: b :: s => by
    rw [pw]
    have ih := pw_len e (b :: s)
    split
    · simp only [List.length_cons] at ih ⊢
      omega
    · simp
theorem pwA_len : ∀ (r st : List Int64), (pwA st r).length ≤ st.length + r.length ∧ (1 ≤ st.length + r.length → 1 ≤ (pwA st r).length)
  | [], st => by simp [pwA]
  | e :: r, st => by
    have h1 := pw_len e st
    have h2 := pwA_len r (pw e st)
    rw [pwA, List.length_cons]
    omega
theorem NF_len (r : List Int64) (h : r ≠ []) : 1 ≤ (NF r).length ∧ (NF r).length ≤ r.length := by
  have h1 := pwA_len r []
  have h2 : 1 ≤ r.length := by rcases r with _ | ⟨x, r⟩ <;> simp_all
  rw [NF, List.length_reverse]
  simp only [List.length_nil, Nat.zero_add] at h1
  exact ⟨h1.2 h2, h1.1⟩
theorem rdE_len (lo e : Int64) : ∀ (s : List Int64) (w : Int64) (n : Int32), 1 ≤ (rdE lo e s w n).1.length ∧ (rdE lo e s w n).1.length ≤ s.length + 1
  | [], w, n => by simp [rdE]
  | [_], w, n => by simp [rdE]
  | [_, _], w, n => by simp [rdE]
  | b :: c :: d :: s, w, n => by
    rw [rdE]
    split
    · have ih := rdE_len lo e (d :: s) (w + 2 * cbL (dL c b / lo)) (n + 1)
      simp only [List.length_cons] at ih ⊢
      omega
    · simp
theorem rdA_len (lo : Int64) : ∀ (r : List Int64) (x : List Int64 × Int64 × Int32), (rdA lo x r).1.length ≤ x.1.length + r.length ∧ (1 ≤ x.1.length + r.length → 1 ≤ (rdA lo x r).1.length)
  | [], x => by simp [rdA]
  | e :: r, x => by
    have h1 := rdE_len lo e x.1 x.2.1 x.2.2
    have h2 := rdA_len lo r (rdE lo e x.1 x.2.1 x.2.2)
    rw [rdA, List.length_cons]
    omega
/-- behind the row: what goes out, whole turns, half turns -/
theorem wear_2 {M : Nat} {σ : MS} {b0 : Nat} {w hv : Int32} {g : Nat → Int64} {r : List Int64} {x0 y0 : Int64} {Q : Int64 → MS → Prop} (hb : b0 < 6) (hlo : ¬ σ.l 9 b0 = 0) (hr : r.length ≤ 203) (hg : Row g (x0 :: y0 :: r))
    (q : ∀ (N : Int32) (g : Nat → Int64), Q (weM (σ.l 9 b0) (x0 :: y0 :: r)) (stW σ N (wrM (σ.l 9 b0) (x0 :: y0 :: r)).2.2 (nI (wrM (σ.l 9 b0) (x0 :: y0 :: r)).1.length - 1) g)) : RM M (fX11_wearOf_93 FU M (nI b0) 1) (stW σ (nI (2 + r.length)) w hv g) Q := by
  have hN := NF_len (x0 :: y0 :: r) (by simp)
  simp only [List.length_cons] at hN
  have h := idle_l (M := M) (σ := σ) (w := w) (hv := hv) (b0 := b0) (R := NF (x0 :: y0 :: r)) (Q := Q) (fun _ g1 hg1 => ?_) FU [] x0 y0 r g (by simp only [List.length_nil]; unfold FU; omega) (by simp; omega) trivial rfl hg
  · simp only [List.length_nil, Nat.zero_add] at h
    exact h
  · refine rm_pI ?_
    rw [stW_39]
    obtain ⟨st2, rest2, hl2, k1, k2, k3⟩ := three_of (NF (x0 :: y0 :: r))
    have hlen : (NF (x0 :: y0 :: r)).length = st2.length + rest2.length := by rw [hl2]; simp
    have h2 := whole_l (M := M) (σ := σ) (hv := hv) (b0 := b0) (R := wrM (σ.l 9 b0) (x0 :: y0 :: r)) (Q := Q) hb hlo (fun g2 hg2 => ?_) FU st2 rest2 g1 0 0 (by unfold FU; omega) (by omega) k2 k3 (by rw [← hl2]; rfl) (by rw [← hl2]; exact hg1)
    · rw [show st2.length - 3 = 0 by omega, ← hlen] at h2
      exact h2
    · have hR := rdA_len (σ.l 9 b0) (NF (x0 :: y0 :: r)) ([], 0, 0)
      simp only [List.length_nil, Nat.zero_add] at hR
      have hR2 : 1 ≤ (wrM (σ.l 9 b0) (x0 :: y0 :: r)).1.length := hR.2 hN.1
      have hR1 : (wrM (σ.l 9 b0) (x0 :: y0 :: r)).1.length ≤ (NF (x0 :: y0 :: r)).length := hR.1
      refine half_l hb hlo (by omega) FU 0 _ (by omega) (by unfold FU; omega) ?_
      have q2 := q (nI (wrM (σ.l 9 b0) (x0 :: y0 :: r)).1.length) g2
      rw [weM] at q2
      generalize hz : (wrM (σ.l 9 b0) (x0 :: y0 :: r)).1.reverse = z at hg2 q2
      have hzl : z.length = (wrM (σ.l 9 b0) (x0 :: y0 :: r)).1.length := by rw [← hz, List.length_reverse]
      rcases z with _ | ⟨x, t⟩
      · simp at hzl; omega
      · rw [← hf_eq (σ.l 9 b0) g2 t x 0 _ (fun j hj => by rw [Nat.zero_add]; exact hg2 j hj)] at q2
        rw [← hzl, List.length_cons, Nat.add_sub_cancel]
        rw [← hzl, List.length_cons] at q2
        exact q2
