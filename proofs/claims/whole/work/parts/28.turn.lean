/-! Turns: rows as lists; what goes out, by a stack. -/
/-- e comes upon the stack (its top first) -/
def pw (e : Int64) : List Int64 → List Int64
  | a :: b :: s => if idM b a e then pw e (b :: s) else e :: a :: b :: s
  | s => e :: s
def pwA : List Int64 → List Int64 → List Int64
  | st, [] => st
  | st, e :: r => pwA (pw e st) r
def NF (r : List Int64) : List Int64 := (pwA [] r).reverse
/-- nobody inside the stack goes out -/
def niS : List Int64 → Prop
  | a :: b :: c :: s => idM c b a = false ∧ niS (b :: c :: s)
  | _ => True
theorem pw_ni : ∀ (e : Int64) (s : List Int64), niS (e :: s) → pw e s = e :: s
  | e, [], _ => rfl
  | e, [a], _ => rfl
  | e, a :: b :: s, h => by rw [pw, h.1]; simp
theorem niS_t {a : Int64} {s : List Int64} (h : niS (a :: s)) : niS s := by
  rcases s with _ | ⟨b, _ | ⟨c, s⟩⟩
  · trivial
  · trivial
  · exact h.2
theorem pwA_ni : ∀ (st rest : List Int64), niS st → pwA [] (st.reverse ++ rest) = pwA st rest
  | [], rest, _ => rfl
  | a :: s, rest, h => by
    have ih := pwA_ni s (a :: rest) (niS_t h)
    rw [List.reverse_cons, List.append_assoc]
    show pwA [] (s.reverse ++ a :: rest) = _
    rw [ih, pwA, pw_ni a s h]
theorem NF_step {b a e : Int64} {s rest : List Int64} (h : niS (a :: b :: s)) (hi : idM b a e = true) : NF (s.reverse ++ b :: a :: e :: rest) = NF (s.reverse ++ b :: e :: rest) := by
  have h1 := pwA_ni (a :: b :: s) (e :: rest) h
  have h2 := pwA_ni (b :: s) (e :: rest) (niS_t h)
  simp only [List.reverse_cons, List.append_assoc, List.cons_append, List.nil_append] at h1 h2
  rw [NF, NF, h1, h2, pwA, pwA, pw, hi]
  simp
theorem NF_end {b a : Int64} {s : List Int64} (h : niS (a :: b :: s)) : NF (s.reverse ++ [b, a]) = s.reverse ++ [b, a] := by
  have h1 := pwA_ni (a :: b :: s) [] h
  simp only [List.reverse_cons, List.append_assoc, List.cons_append, List.nil_append, List.append_nil] at h1
  rw [NF, h1, pwA]
  simp
def Row (g : Nat → Int64) (r : List Int64) : Prop := ∀ j, j < r.length → g j = r.getD j 0
theorem Row_at {g : Nat → Int64} {s t : List Int64} {x : Int64} (h : Row g (s ++ x :: t)) : g s.length = x := by
  rw [h s.length (by simp)]
  simp [List.getD]
theorem Row_cut {f g : Nat → Int64} {u v w : List Int64} (h : Row f (u ++ v ++ w)) (hg : ∀ j, j < (u ++ v ++ w).length - v.length → g j = cutF f u.length v.length j) : Row g (u ++ w) := by
  intro j hj
  simp only [List.length_append] at hj hg
  rw [hg j (by omega), cutF]
  by_cases hu : j < u.length
  · rw [if_pos hu, h j (by simp; omega)]
    simp only [List.getD_eq_getElem?_getD]
    rw [List.append_assoc, List.getElem?_append_left hu, List.getElem?_append_left hu]
  · rw [if_neg hu, h (j + v.length) (by simp; omega)]
    simp only [List.getD_eq_getElem?_getD]
    rw [List.getElem?_append_right (l₁ := u ++ v) (by simp; omega), List.getElem?_append_right (l₁ := u) (by omega)]
    congr 2
    simp
    omega
theorem two_of (s : List Int64) (b e : Int64) (rest : List Int64) : ∃ x y t, s.reverse ++ b :: e :: rest = x :: y :: t := by
  rcases s.reverse with _ | ⟨x, _ | ⟨y, t⟩⟩
  · exact ⟨b, e, rest, rfl⟩
  · exact ⟨x, b, e :: rest, rfl⟩
  · exact ⟨x, y, t ++ b :: e :: rest, rfl⟩
set_option maxRecDepth 100000 in
/-- the first part of the reference's wear: what lies between goes out -/
theorem idle_l {M : Nat} {σ : MS} {w hv : Int32} {b0 : Nat} {R : List Int64} {Q : Int64 → MS → Prop}
    (q : ∀ (fu : Nat) (g : Nat → Int64), Row g R → RM M (bd (pF (some M) 11 39 (vi 0)) fun _ => fX11_wearOf_143 FU M (nI b0) 0 0) (stW σ (nI R.length) w hv g) Q) :
    ∀ (fu : Nat) (s : List Int64) (b a : Int64) (rest : List Int64) (g : Nat → Int64), (s.length + 2 + rest.length) * 300 + rest.length < fu → s.length + 2 + rest.length ≤ 205 → niS (a :: b :: s) → NF (s.reverse ++ b :: a :: rest) = R → Row g (s.reverse ++ b :: a :: rest) →
      RM M (fX11_wearOf_93 fu M (nI b0) (nI (s.length + 1))) (stW σ (nI (s.length + 2 + rest.length)) w hv g) Q
  | 0, s, b, a, rest, g, h1, h2, h3, h4, h5 => by omega
  | fu + 1, s, b, a, rest, g, h1, h2, h3, h4, h5 => by
    show RM M (bX11_wearOf_93 (fX11_wearOf_93 fu) M (nI b0) (nI (s.length + 1))) (stW σ (nI (s.length + 2 + rest.length)) w hv g) Q
    unfold bX11_wearOf_93
    refine rm_gI ?_
    rw [nI_1, show (stW σ (nI (s.length + 2 + rest.length)) w hv g).i 38 = nI (s.length + 2 + rest.length) from rfl]
    cases rest with
    | nil =>
      rw [if_pos (nI_le (by simp) (by omega))]
      rw [NF_end h3] at h4
      subst h4
      have := q 0 g h5
      simp only [List.length_append, List.length_reverse, List.length_cons, List.length_nil] at this
      exact this
    | cons e rest =>
      simp only [List.length_cons] at h1 h2 ⊢
      rw [if_neg (nI_ge (by omega) (by omega))]
      have p0 : g s.length = b := by have := Row_at (s := s.reverse) h5; rw [List.length_reverse] at this; exact this
      have p1 : g (s.length + 1) = a := by
        have := Row_at (s := s.reverse ++ [b]) (x := a) (t := e :: rest) (g := g) (by simpa using h5)
        simpa using this
      have p2 : g (s.length + 1 + 1) = e := by
        have := Row_at (s := s.reverse ++ [b, a]) (x := e) (t := rest) (g := g) (by simpa using h5)
        simpa using this
      have hI := isIdle_r (M := M) (σ := σ) (N := nI (s.length + 2 + (rest.length + 1))) (w := w) (hv := hv) (f := g) (k := s.length + 1) (by omega) (by omega)
      rw [show s.length + 1 - 1 = s.length by omega, p0, p1, p2] at hI
      refine rm_ro (ro_vc hI) ?_
      by_cases hi : idM b a e = true
      · rw [hi, if_neg (by decide)]
        refine rm_bd (rm_vc (out_m (k := s.length + 1) (n := 1) (by omega) (by omega) (fun g' hg' => ?_)))
        have hr : Row g' (s.reverse ++ b :: e :: rest) := by
          have := Row_cut (u := s.reverse ++ [b]) (v := [a]) (w := e :: rest) (f := g) (g := g') (by simpa using h5) (fun j hj => by
            have := hg' j (by simp at hj; omega)
            simpa using this)
          simpa using this
        rw [NF_step h3 hi] at h4
        obtain ⟨x, y, t, hxy⟩ := two_of s b e rest
        rw [hxy] at hr h4
        have hlen : s.length + 2 + rest.length = 2 + t.length := by
          have := congrArg List.length hxy
          simp at this
          omega
        have ih := idle_l (M := M) q fu [] x y t g' (by simp; omega) (by simp; omega) trivial h4 hr
        simp only [List.length_nil, Nat.zero_add] at ih
        rw [show s.length + 2 + (rest.length + 1) - 1 = 2 + t.length by omega]
        exact ih
      · rw [Bool.eq_false_iff.mpr hi, if_pos (by rfl)]
        have ih := idle_l (M := M) q fu (b :: s) a e rest g (by simp; omega) (by simp; omega) ⟨Bool.eq_false_iff.mpr hi, h3⟩ (by simpa using h4) (by simpa using h5)
        simp only [List.length_cons] at ih
        rw [show s.length + 2 + (rest.length + 1) = s.length + 1 + 2 + rest.length by omega]
        exact ih
