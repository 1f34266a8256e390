/-! Whole turns and half turns. -/
def cbL (v : Int64) : Int64 := v * v * v
def dL (x y : Int64) : Int64 := szL (y - x)
/-- of the four d c b e the inner step is the least -/
def wnM (d c b e : Int64) : Bool := !decide (dL d c < dL c b) && !decide (dL b e < dL c b)
/-- e comes upon the stack; whole turns go out: the stack, the wear, how many -/
def rdE (lo e : Int64) : List Int64 → Int64 → Int32 → List Int64 × Int64 × Int32
  | b :: c :: d :: s, w, n => if wnM d c b e then rdE lo e (d :: s) (w + 2 * cbL (dL c b / lo)) (n + 1) else (e :: b :: c :: d :: s, w, n)
  | s, w, n => (e :: s, w, n)
def rdA (lo : Int64) : List Int64 × Int64 × Int32 → List Int64 → List Int64 × Int64 × Int32
  | x, [] => x
  | x, e :: r => rdA lo (rdE lo e x.1 x.2.1 x.2.2) r
/-- no whole turn inside the stack -/
def nwS : List Int64 → Prop
  | a :: b :: c :: d :: s => wnM d c b a = false ∧ nwS (b :: c :: d :: s)
  | _ => True
theorem rdE_nw (lo : Int64) : ∀ (e : Int64) (s : List Int64) (w : Int64) (n : Int32), nwS (e :: s) → rdE lo e s w n = (e :: s, w, n)
  | e, [], w, n, _ => rfl
  | e, [_], w, n, _ => rfl
  | e, [_, _], w, n, _ => rfl
  | e, b :: c :: d :: s, w, n, h => by rw [rdE, h.1]; simp
theorem nwS_t {a : Int64} {s : List Int64} (h : nwS (a :: s)) : nwS s := by
  rcases s with _ | ⟨b, _ | ⟨c, _ | ⟨d, s⟩⟩⟩
  · trivial
  · trivial
  · trivial
  · exact h.2
theorem rdA_nw (lo w : Int64) (n : Int32) : ∀ (st rest : List Int64), nwS st → rdA lo ([], w, n) (st.reverse ++ rest) = rdA lo (st, w, n) rest
  | [], rest, _ => rfl
  | a :: s, rest, h => by
    have ih := rdA_nw lo w n s (a :: rest) (nwS_t h)
    rw [List.reverse_cons, List.append_assoc]
    show rdA lo ([], w, n) (s.reverse ++ a :: rest) = _
    rw [ih, rdA, rdE_nw lo a s w n h]
theorem rdA_step {lo w : Int64} {n : Int32} {d c b e : Int64} {s rest : List Int64} (h : nwS (b :: c :: d :: s)) (hi : wnM d c b e = true) : rdA lo ([], w, n) (s.reverse ++ d :: c :: b :: e :: rest) = rdA lo ([], w + 2 * cbL (dL c b / lo), n + 1) (s.reverse ++ d :: e :: rest) := by
  have h1 := rdA_nw lo w n (b :: c :: d :: s) (e :: rest) h
  have h2 := rdA_nw lo (w + 2 * cbL (dL c b / lo)) (n + 1) (d :: s) (e :: rest) (nwS_t (nwS_t h))
  simp only [List.reverse_cons, List.append_assoc, List.cons_append, List.nil_append] at h1 h2
  rw [h1, h2, rdA, rdA, rdE, hi]
  simp
theorem rdA_end {lo w : Int64} {n : Int32} (st : List Int64) (h : nwS st) : rdA lo ([], w, n) st.reverse = (st, w, n) := by
  have h1 := rdA_nw lo w n st [] h
  rw [List.append_nil] at h1
  exact h1
/-- the half turns' wear -/
def hfM (lo : Int64) (g : Nat → Int64) : Nat → Nat → Int64 → Int64
  | 0, _, w => w
  | m + 1, i, w => hfM lo g m (i + 1) (w + cbL (dS g i / lo))
theorem half_l {M : Nat} {σ : MS} {N b0 : Nat} {w hv : Int32} {g : Nat → Int64} {Q : Int64 → MS → Prop} (hb : b0 < 6) (hlo : ¬ σ.l 9 b0 = 0) (hN : N ≤ 205) : ∀ (fu i : Nat) (v : Int64), i + 1 ≤ N → N < i + 1 + fu → Q (hfM (σ.l 9 b0) g (N - (i + 1)) i v) (stW σ (nI N) w hv g) → RM M (fX11_wearOf_255 fu M (nI b0) v (nI i)) (stW σ (nI N) w hv g) Q
  | 0, i, v, h1, h2, q => by omega
  | fu + 1, i, v, h1, h2, q => by
    show RM M (bX11_wearOf_255 (fX11_wearOf_255 fu) M (nI b0) v (nI i)) (stW σ (nI N) w hv g) Q
    unfold bX11_wearOf_255
    refine rm_gI ?_
    rw [nI_1, show (stW σ (nI N) w hv g).i 38 = nI N from rfl]
    by_cases hi : N ≤ i + 1
    · rw [if_pos (nI_le hi (by omega))]
      rw [show N - (i + 1) = 0 by omega, hfM] at q
      exact rm_rn q
    · rw [if_neg (nI_ge (by omega) (by omega))]
      refine rm_ro (ro_vc (stepAt_r (by omega))) ?_
      refine rm_gA ?_
      refine rm_ldL b0 rfl (by show _ < 6; omega) ?_
      refine rm_eq (fun _ => dvL_e (show ¬ (stW σ (nI N) w hv g).l 9 b0 = 0 from hlo)) ?_
      refine rm_eq (r := cbL (dS g i / σ.l 9 b0)) (fun _ => rfl) ?_
      rw [show N - (i + 1) = (N - (i + 1 + 1)) + 1 by omega, hfM] at q
      exact half_l hb hlo hN fu (i + 1) _ (by omega) (by omega) q
theorem three_of (l : List Int64) : ∃ st rest, l = st.reverse ++ rest ∧ st.length ≤ 3 ∧ (3 ≤ st.length ∨ rest = []) ∧ nwS st := by
  rcases l with _ | ⟨x, _ | ⟨y, _ | ⟨z, t⟩⟩⟩
  · exact ⟨[], [], rfl, by simp, Or.inr rfl, trivial⟩
  · exact ⟨[x], [], rfl, by simp, Or.inr rfl, trivial⟩
  · exact ⟨[y, x], [], rfl, by simp, Or.inr rfl, trivial⟩
  · exact ⟨[z, y, x], t, rfl, by simp, Or.inl (by simp), trivial⟩
set_option maxRecDepth 100000 in
/-- the second part of the reference's wear: whole turns -/
theorem whole_l {M : Nat} {σ : MS} {hv : Int32} {b0 : Nat} {R : List Int64 × Int64 × Int32} {Q : Int64 → MS → Prop} (hb : b0 < 6) (hlo : ¬ σ.l 9 b0 = 0)
    (q : ∀ g : Nat → Int64, Row g R.1.reverse → RM M (fX11_wearOf_255 FU M (nI b0) R.2.1 0) (stW σ (nI R.1.length) R.2.2 (nI R.1.length - 1) g) Q) :
    ∀ (fu : Nat) (st rest : List Int64) (g : Nat → Int64) (w : Int64) (n : Int32), (st.length + rest.length) * 300 + rest.length < fu → st.length + rest.length ≤ 205 → 3 ≤ st.length ∨ rest = [] → nwS st → rdA (σ.l 9 b0) ([], w, n) (st.reverse ++ rest) = R → Row g (st.reverse ++ rest) →
      RM M (fX11_wearOf_143 fu M (nI b0) (nI (st.length - 3)) w) (stW σ (nI (st.length + rest.length)) n hv g) Q
  | 0, st, rest, g, w, n, h1, h2, h0, h3, h4, h5 => by omega
  | fu + 1, st, rest, g, w, n, h1, h2, h0, h3, h4, h5 => by
    show RM M (bX11_wearOf_143 (fX11_wearOf_143 fu) M (nI b0) (nI (st.length - 3)) w) (stW σ (nI (st.length + rest.length)) n hv g) Q
    unfold bX11_wearOf_143
    refine rm_gI ?_
    rw [show nI (st.length - 3) + (3 : Int32) = nI (st.length - 3 + 3) from nI_add _ 3, show (stW σ (nI (st.length + rest.length)) n hv g).i 38 = nI (st.length + rest.length) from rfl]
    cases rest with
    | nil =>
      rw [if_pos (nI_le (by simp; omega) (by omega))]
      refine rm_gI ?_
      refine rm_pI ?_
      rw [stW_40, show (stW σ (nI (st.length + ([] : List Int64).length)) n hv g).i 38 = nI (st.length + ([] : List Int64).length) from rfl]
      simp only [List.append_nil, List.length_nil, Nat.add_zero] at h4 h5 ⊢
      rw [rdA_end st h3] at h4
      subst h4
      exact q g h5
    | cons e rest =>
      obtain ⟨b, c, d, s, rfl⟩ : ∃ b c d s, st = b :: c :: d :: s := by
        rcases st with _ | ⟨b, _ | ⟨c, _ | ⟨d, s⟩⟩⟩
        · rcases h0 with h | h
          · simp at h
          · cases h
        · rcases h0 with h | h
          · simp at h
          · cases h
        · rcases h0 with h | h
          · simp at h
          · cases h
        · exact ⟨b, c, d, s, rfl⟩
      simp only [List.length_cons] at h1 h2 ⊢
      rw [show s.length + 1 + 1 + 1 - 3 = s.length by omega]
      rw [if_neg (nI_ge (by omega) (by omega))]
      simp only [List.reverse_cons, List.append_assoc, List.cons_append, List.nil_append] at h4 h5
      have p0 : g s.length = d := by have := Row_at (s := s.reverse) h5; rw [List.length_reverse] at this; exact this
      have p1 : g (s.length + 1) = c := by
        have := Row_at (s := s.reverse ++ [d]) (x := c) (t := b :: e :: rest) (g := g) (by simpa using h5)
        simpa using this
      have p2 : g (s.length + 2) = b := by
        have := Row_at (s := s.reverse ++ [d, c]) (x := b) (t := e :: rest) (g := g) (by simpa using h5)
        simpa using this
      have p3 : g (s.length + 3) = e := by
        have := Row_at (s := s.reverse ++ [d, c, b]) (x := e) (t := rest) (g := g) (by simpa using h5)
        simpa using this
      have e1 : dS g (s.length + 1) = dL c b := by rw [dS, show s.length + 1 + 1 = s.length + 2 by omega, p1, p2]; rfl
      have e0 : dS g s.length = dL d c := by rw [dS, p0, p1]; rfl
      have e2 : dS g (s.length + 2) = dL b e := by rw [dS, show s.length + 2 + 1 = s.length + 3 by omega, p2, p3]; rfl
      rw [nI_1]
      refine rm_ro (ro_vc (stepAt_r (by omega))) ?_
      refine rm_ro (ro_vc (stepAt_r (by omega))) ?_
      rw [e1, e0]
      have next : wnM d c b e = false → RM M (fX11_wearOf_143 fu M (nI b0) (nI (s.length + 1)) w) (stW σ (nI (s.length + 1 + 1 + 1 + (rest.length + 1))) n hv g) Q := by
        intro hw
        have ih := whole_l (M := M) (hv := hv) hb hlo q fu (e :: b :: c :: d :: s) rest g w n (by simp; omega) (by simp; omega) (Or.inl (by simp)) ⟨hw, h3⟩ (by simpa using h4) (by simpa using h5)
        simp only [List.length_cons] at ih
        rw [show s.length + 1 + 1 + 1 + 1 - 3 = s.length + 1 by omega, show s.length + 1 + 1 + 1 + 1 + rest.length = s.length + 1 + 1 + 1 + (rest.length + 1) by omega] at ih
        exact ih
      by_cases c1 : dL d c < dL c b
      · rw [if_pos c1]
        exact next (by rw [wnM, decide_eq_true c1]; rfl)
      · rw [if_neg c1]
        rw [show nI s.length + (2 : Int32) = nI (s.length + 2) from nI_add _ 2]
        refine rm_ro (ro_vc (stepAt_r (by omega))) ?_
        rw [e2]
        by_cases c2 : dL b e < dL c b
        · rw [if_pos c2]
          exact next (by rw [wnM, decide_eq_false c1, decide_eq_true c2]; rfl)
        · rw [if_neg c2]
          have hw : wnM d c b e = true := by rw [wnM, decide_eq_false c1, decide_eq_false c2]; rfl
          refine rm_gA ?_
          refine rm_ldL b0 rfl (by show _ < 6; omega) ?_
          refine rm_eq (fun _ => dvL_e (show ¬ (stW σ (nI (s.length + 1 + 1 + 1 + (rest.length + 1))) n hv g).l 9 b0 = 0 from hlo)) ?_
          refine rm_eq (r := cbL (dL c b / σ.l 9 b0)) (fun _ => rfl) ?_
          refine rm_gI ?_
          refine rm_pI ?_
          rw [stW_39, show (stW σ (nI (s.length + 1 + 1 + 1 + (rest.length + 1))) n hv g).i 39 = n from rfl]
          refine rm_bd (rm_vc (out_m (k := s.length + 1) (n := 2) (by omega) (by omega) (fun g' hg' => ?_)))
          have hr : Row g' (s.reverse ++ d :: e :: rest) := by
            have := Row_cut (u := s.reverse ++ [d]) (v := [c, b]) (w := e :: rest) (f := g) (g := g') (by simpa using h5) (fun j hj => by
              have := hg' j (by simp at hj; omega)
              simpa using this)
            simpa using this
          rw [rdA_step h3 hw] at h4
          obtain ⟨st2, rest2, hl2, k1, k2, k3⟩ := three_of (s.reverse ++ d :: e :: rest)
          rw [hl2] at hr h4
          have hlen : s.length + 2 + rest.length = st2.length + rest2.length := by
            have := congrArg List.length hl2
            simp at this
            omega
          have ih := whole_l (M := M) (hv := hv) hb hlo q fu st2 rest2 g' _ (n + 1) (by omega) (by omega) k2 k3 h4 hr
          rw [show st2.length - 3 = 0 by omega, ← hlen] at ih
          rw [show s.length + 1 + 1 + 1 + (rest.length + 1) - 2 = s.length + 2 + rest.length by omega]
          exact ih
