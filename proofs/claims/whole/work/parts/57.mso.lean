/-! The reference's table and its elimination. -/
def stN (σ : MS) (N : Nat → Nat → Int64) : MS := (σ.1, σ.2.1, fun k y => if k = 10 then N (y / 6) (y % 6) else σ.2.2 k y)
def upN (N : Nat → Nat → Int64) (i j : Nat) (v : Int64) : Nat → Nat → Int64 := fun a b => if a = i ∧ b = j then v else N a b
theorem stN_c {σ : MS} {N N' : Nat → Nat → Int64} (h : ∀ a b, b < 6 → N a b = N' a b) : stN σ N = stN σ N' := by
  unfold stN
  refine Prod.ext rfl (Prod.ext rfl (funext fun k => funext fun y => ?_))
  by_cases e : k = 10
  · simp [e, h (y / 6) (y % 6) (by omega)]
  · simp [e]
theorem stN_st (σ : MS) (N N' : Nat → Nat → Int64) : stN (stN σ N) N' = stN σ N' := by
  unfold stN
  refine Prod.ext rfl (Prod.ext rfl (funext fun k => funext fun y => ?_))
  by_cases e : k = 10 <;> simp [e]
theorem stN_self (σ : MS) : σ = stN σ (fun i j => σ.l 10 (6 * i + j)) := by
  unfold stN
  refine Prod.ext rfl (Prod.ext rfl (funext fun k => funext fun y => ?_))
  by_cases e : k = 10
  · simp only [e, if_true, MS.l]
    rw [show 6 * (y / 6) + y % 6 = y by omega]
  · simp [e]
section N
variable {R : Type} {M : Nat} {σ : MS} {Q : R → MS → Prop} {N : Nat → Nat → Int64}
theorem rm_ldN {f : Int64 → Mo R} {x : Int32} (i j : Nat) (hx : x = nI (6 * i + j)) (hi : i < 5) (hj : j < 6) (hf : RM M (f (N i j)) (stN σ N) Q) : RM M (bd (ldL (some (M + adM 10)) x) f) (stN σ N) Q := by
  refine rm_ldL (k := 10) (6 * i + j) hx (by show _ < 30; omega) ?_
  have e : (stN σ N).l 10 (6 * i + j) = N i j := by
    show N ((6 * i + j) / 6) ((6 * i + j) % 6) = _
    rw [show (6 * i + j) / 6 = i by omega, show (6 * i + j) % 6 = j by omega]
  rw [e]
  exact hf
theorem rm_stN {f : Unit → Mo R} {x : Int32} {v : Int64} (i j : Nat) (hx : x = nI (6 * i + j)) (hi : i < 5) (hj : j < 6) (hf : RM M (f ()) (stN σ (upN N i j v)) Q) : RM M (bd (stL (some (M + adM 10)) x v) f) (stN σ N) Q := by
  refine rm_stL (k := 10) (6 * i + j) hx (by show _ < 30; omega) ?_
  have e : (stN σ N).sl 10 (6 * i + j) v = stN σ (upN N i j v) := by
    unfold stN MS.sl upN
    refine Prod.ext rfl (Prod.ext rfl (funext fun k => funext fun y => ?_))
    by_cases e : k = 10
    · by_cases e2 : y = 6 * i + j
      · subst e2
        simp [e, show (6 * i + j) / 6 = i by omega, show (6 * i + j) % 6 = j by omega]
      · have : ¬ (y / 6 = i ∧ y % 6 = j) := by omega
        simp [e, e2, this]
    · simp [e]
  rw [e]
  exact hf
end N
theorem ix6 (i j : Nat) : (6 : Int32) * nI i + nI j = nI (6 * i + j) := ix2 6 i j
def swN (r c : Nat) (N : Nat → Nat → Int64) : Nat → Nat → Int64 := fun a b => if a = c then N r b else if a = r then N c b else N a b
theorem change_l {M : Nat} {σ : MS} {N : Nat → Nat → Int64} {r c : Nat} (hr : r < 5) (hc : c < 5) (hn : r ≠ c) {Q : Unit → MS → Prop} (q : Q () (stN σ (swN r c N))) : ∀ (f k : Nat), k ≤ 6 → 6 < k + f → RM M (fX11_change_2 f M (nI r) (nI c) (nI k)) (stN σ (fun a b => if b < k then swN r c N a b else N a b)) Q
  | 0, k, h1, h2 => by omega
  | f + 1, k, h1, h2 => by
    show RM M (bX11_change_2 (fX11_change_2 f) M (nI r) (nI c) (nI k)) _ Q
    unfold bX11_change_2
    by_cases hk : 6 ≤ k
    · have e : k = 6 := by omega
      subst e
      rw [if_pos (by decide)]
      rw [stN_c (N' := swN r c N) (fun a b hb => by simp [hb])]
      exact rm_rn q
    · rw [if_neg (show ¬ (6 : Int32) ≤ nI k from nI_ge (b := 6) (by omega) (by omega))]
      refine rm_gA ?_
      refine rm_ldN r k (ix6 r k) hr (by omega) ?_
      refine rm_gA ?_
      refine rm_gA ?_
      refine rm_ldN c k (ix6 c k) hc (by omega) ?_
      refine rm_stN r k (ix6 r k) hr (by omega) ?_
      refine rm_gA ?_
      refine rm_stN c k (ix6 c k) hc (by omega) ?_
      rw [nI_1]
      have ih := change_l (M := M) (σ := σ) (N := N) hr hc hn q f (k + 1) (by omega) (by omega)
      rw [stN_c (N' := fun a b => if b < k + 1 then swN r c N a b else N a b)]
      · exact ih
      · intro a b hb
        unfold upN swN
        by_cases e1 : b = k
        · subst e1
          by_cases e2 : a = c
          · subst e2
            simp
          · by_cases e3 : a = r
            · subst e3
              simp [hn]
            · simp [e2, e3]
        · by_cases e4 : b < k
          · simp [e1, e4, show b < k + 1 by omega]
          · simp [e1, e4, show ¬ b < k + 1 by omega]
theorem change_m {M : Nat} {σ : MS} {N : Nat → Nat → Int64} {r c : Nat} (hr : r < 5) (hc : c < 5) (hn : r ≠ c) {Q : Unit → MS → Prop} (q : Q () (stN σ (swN r c N))) : RM M (pX11_change M (nI r) (nI c)) (stN σ N) Q := by
  have h := change_l (M := M) (σ := σ) (N := N) hr hc hn q FU 0 (by omega) (by unfold FU; omega)
  rw [stN_c (N' := N) (fun a b hb => by simp)] at h
  exact h
/-- row r negated -/
def ngN (r : Nat) (N : Nat → Nat → Int64) : Nat → Nat → Int64 := fun a b => if a = r then 0 - N r b else N a b
theorem neg_l {M n : Nat} {σ : MS} {N : Nat → Nat → Int64} {r c : Nat} {ah : Int64} {k5 : Nat → Int32 → Int64 → Int32 → Mo Int64} (hr : r < 5) {Q : Int64 → MS → Prop} (q : RM M (bX11_solve_112 k5 M (nI n) ah (nI c)) (stN σ (ngN r N)) Q) : ∀ (f k : Nat), k ≤ 6 → 6 < k + f → RM M (fX11_solve_71 k5 f M (nI n) ah (nI c) (nI r) (nI k)) (stN σ (fun a b => if b < k then ngN r N a b else N a b)) Q
  | 0, k, h1, h2 => by omega
  | f + 1, k, h1, h2 => by
    show RM M (bX11_solve_71 k5 (fX11_solve_71 k5 f) M (nI n) ah (nI c) (nI r) (nI k)) _ Q
    unfold bX11_solve_71
    by_cases hk : 6 ≤ k
    · have e : k = 6 := by omega
      subst e
      rw [if_pos (by decide)]
      rw [stN_c (N' := ngN r N) (fun a b hb => by simp [hb])]
      exact q
    · rw [if_neg (show ¬ (6 : Int32) ≤ nI k from nI_ge (b := 6) (by omega) (by omega))]
      refine rm_gA ?_
      refine rm_gA ?_
      refine rm_ldN r k (ix6 r k) hr (by omega) ?_
      refine rm_stN r k (ix6 r k) hr (by omega) ?_
      rw [nI_1]
      have ih := neg_l (M := M) (σ := σ) (N := N) hr q f (k + 1) (by omega) (by omega)
      rw [stN_c (N' := fun a b => if b < k + 1 then ngN r N a b else N a b)]
      · exact ih
      · intro a b hb
        unfold upN ngN
        by_cases e1 : b = k
        · subst e1
          by_cases e2 : a = r
          · subst e2
            simp
          · simp [e2]
        · by_cases e4 : b < k
          · simp [e1, e4, show b < k + 1 by omega]
          · simp [e1, e4, show ¬ b < k + 1 by omega]
/-- row q cleared by row c -/
def clN (q c : Nat) (ah : Int64) (N : Nat → Nat → Int64) : Nat → Nat → Int64 := fun a b => if a = q then (N q b * N c c - N q c * N c b) / ah else N a b
theorem clear_ml {M n : Nat} {σ : MS} {N : Nat → Nat → Int64} {q c : Nat} {ah tp : Int64} {k5 : Nat → Int32 → Int64 → Int32 → Mo Int64} {k130 : Nat → Int32 → Int64 → Int32 → Int64 → Int32 → Mo Int64} (hq : q < 5) (hc : c < 5) (hqc : q ≠ c) (ha : ¬ ah = 0) {Q : Int64 → MS → Prop} (z : RM M (k130 M (nI n) ah (nI c) (N c c) (nI (q + 1))) (stN σ (clN q c ah N)) Q) : ∀ (f k : Nat), k ≤ 6 → 6 < k + f → RM M (fX11_solve_154 k5 k130 f M (nI n) ah (nI c) (N c c) (nI q) (N q c) (nI k)) (stN σ (fun a b => if b < k then clN q c ah N a b else N a b)) Q
  | 0, k, h1, h2 => by omega
  | f + 1, k, h1, h2 => by
    show RM M (bX11_solve_154 k5 k130 (fX11_solve_154 k5 k130 f) M (nI n) ah (nI c) (N c c) (nI q) (N q c) (nI k)) _ Q
    unfold bX11_solve_154
    by_cases hk : 6 ≤ k
    · have e : k = 6 := by omega
      subst e
      rw [if_pos (by decide), nI_1]
      rw [stN_c (N' := clN q c ah N) (fun a b hb => by simp [hb])]
      exact z
    · rw [if_neg (show ¬ (6 : Int32) ≤ nI k from nI_ge (b := 6) (by omega) (by omega)), if_neg (fun y => hqc ((nI_eq (by omega) (by omega)).mp y))]
      refine rm_gA ?_
      refine rm_gA ?_
      refine rm_ldN q k (ix6 q k) hq (by omega) ?_
      refine rm_gA ?_
      refine rm_ldN c k (ix6 c k) hc (by omega) ?_
      refine rm_eq (fun _ => dvL_e ha) ?_
      refine rm_stN q k (ix6 q k) hq (by omega) ?_
      rw [nI_1]
      have ih := clear_ml (M := M) (σ := σ) (N := N) (tp := tp) (k5 := k5) hq hc hqc ha z f (k + 1) (by omega) (by omega)
      rw [stN_c (N' := fun a b => if b < k + 1 then clN q c ah N a b else N a b)]
      · exact ih
      · intro a b hb
        unfold upN clN
        by_cases e1 : b = k
        · subst e1
          by_cases e2 : a = q
          · subst e2
            simp
          · simp [e2]
        · by_cases e4 : b < k
          · simp [e1, e4, show b < k + 1 by omega]
          · simp [e1, e4, show ¬ b < k + 1 by omega]
/-- the rows below m cleared -/
def crN (c : Nat) (ah : Int64) (N : Nat → Nat → Int64) (m : Nat) : Nat → Nat → Int64 := fun a b => if a < m ∧ a ≠ c then (N a b * N c c - N a c * N c b) / ah else N a b
theorem rows_ml {M n : Nat} {σ : MS} {N : Nat → Nat → Int64} {c : Nat} {ah : Int64} {k5 : Nat → Int32 → Int64 → Int32 → Mo Int64} (hn : n ≤ 5) (hc : c < n) (ha : ¬ ah = 0) {Q : Int64 → MS → Prop} (z : RM M (k5 M (nI n) (N c c) (nI (c + 1))) (stN σ (crN c ah N n)) Q) : ∀ (f q : Nat), q ≤ n → n < q + f → RM M (fX11_solve_130 k5 f M (nI n) ah (nI c) (N c c) (nI q)) (stN σ (crN c ah N q)) Q
  | 0, q, h1, h2 => by omega
  | f + 1, q, h1, h2 => by
    show RM M (bX11_solve_130 k5 (fX11_solve_130 k5 f) M (nI n) ah (nI c) (N c c) (nI q)) _ Q
    unfold bX11_solve_130
    by_cases hq : n ≤ q
    · have e : q = n := by omega
      subst e
      rw [if_pos (nI_le hq (by omega)), nI_1]
      exact z
    · rw [if_neg (nI_ge (by omega) (by omega))]
      refine rm_gA ?_
      refine rm_ldN q c (ix6 q c) (by omega) (by omega) ?_
      have ih := rows_ml (M := M) (σ := σ) (N := N) hn hc ha z f (q + 1) (by omega) (by omega)
      by_cases e : q = c
      · subst e
        obtain ⟨g, hg⟩ : ∃ g, FU = g + 1 := ⟨999999999, rfl⟩
        rw [hg]
        show RM M (bX11_solve_154 k5 _ _ M (nI n) ah (nI q) (N q q) (nI q) _ 0) _ Q
        unfold bX11_solve_154
        rw [if_neg (by decide), if_pos rfl, nI_1]
        have e2 : crN q ah N q = crN q ah N (q + 1) := by
          funext a b
          unfold crN
          by_cases c1 : a = q
          · simp [c1]
          · by_cases c2 : a < q
            · simp [c1, c2, show a < q + 1 by omega]
            · simp [c2, show ¬ a < q + 1 by omega]
        rw [e2]
        exact ih
      · have k1 : crN c ah N q c c = N c c := by simp [crN]
        have k2 : crN c ah N q q c = N q c := by simp [crN]
        have e2 : clN q c ah (crN c ah N q) = crN c ah N (q + 1) := by
          funext a b
          unfold clN crN
          by_cases c1 : a = q
          · subst c1
            simp [e]
          · by_cases c2 : a < q
            · simp [c1, c2, show a < q + 1 by omega]
            · simp [c1, c2, show ¬ a < q + 1 by omega]
        have h := clear_ml (M := M) (n := n) (σ := σ) (N := crN c ah N q) (q := q) (c := c) (ah := ah) (tp := 0) (k5 := k5) (k130 := fX11_solve_130 k5 f) (Q := Q) (by omega) (by omega) e ha (by rw [k1, e2]; exact ih) FU 0 (by omega) (by unfold FU; omega)
        rw [stN_c (N' := crN c ah N q) (fun a b hb => by simp)] at h
        rw [k1] at h
        exact h
theorem sgn_td (s e x y : Int) (hs : s = 1 ∨ s = -1) (he : e = 1 ∨ e = -1) : (s * x).tdiv (e * y) = (s * e) * x.tdiv y := by
  rcases hs with rfl | rfl <;> rcases he with rfl | rfl <;> simp [Int.neg_tdiv, Int.tdiv_neg]
theorem sg_abs {s x : Int} (hs : s = 1 ∨ s = -1) : (s * x).natAbs = x.natAbs := by
  rcases hs with rfl | rfl <;> simp
theorem sg_mul {s e : Int} (hs : s = 1 ∨ s = -1) (he : e = 1 ∨ e = -1) : s * e = 1 ∨ s * e = -1 := by
  rcases hs with rfl | rfl <;> rcases he with rfl | rfl <;> simp
/-- a column of the table as a column of the conditions -/
def phN (n a j : Nat) : Nat := if j = 5 then n + a else j
/-- the table holds A, each row with its sign -/
def HoN (n a : Nat) (N : Nat → Nat → Int64) (A : Nat → Nat → Int) (ε : Nat → Int) : Prop := (∀ i, i < n → ε i = 1 ∨ ε i = -1) ∧ ∀ i j, i < n → (j < n ∨ j = 5) → N i j = oL (ε i * A i (phN n a j))
theorem oL_neg (z : Int) : 0 - oL z = oL (- z) := by
  unfold oL
  rw [Int64.ofInt_neg]
  simp
theorem HoN_step {n a c : Nat} {N : Nat → Nat → Int64} {A : Nat → Nat → Int} {ε : Nat → Int} {e pr : Int} (hn : n ≤ 5) (hc : c < n) (he : e = 1 ∨ e = -1) (hp : pr.natAbs ≤ 155520000) (hA : ∀ i j, i < n → (A i j).natAbs ≤ 777600000) (h : HoN n a N A ε) : HoN n a (crN c (oL (e * pr)) N n) (clB c pr A) (fun i => if i = c then ε c else ε i * ε c * e) := by
  obtain ⟨h1, h2⟩ := h
  refine ⟨fun i hi => ?_, fun i j hi hj => ?_⟩
  · simp only
    split
    · exact h1 c hc
    · exact sg_mul (sg_mul (h1 i hi) (h1 c hc)) he
  · have pc : phN n a c = c := by simp [phN, show c ≠ 5 by omega]
    have m1 := h1 i hi
    have m2 := h1 c hc
    by_cases ic : i = c
    · simp only [crN, ic, ne_eq, not_true_eq_false, and_false, if_false, clB, if_true]
      exact h2 c j hc hj
    · simp only [crN, clB, if_neg ic, if_pos (show i < n ∧ i ≠ c from ⟨hi, ic⟩)]
      rw [h2 i j hi hj, h2 c c hc (Or.inl hc), h2 i c hi (Or.inl hc), h2 c j hc hj, pc]
      rw [oL_step (by rw [sg_abs m1]; exact hA i _ hi) (by rw [sg_abs m2]; exact hA c c hc) (by rw [sg_abs m1]; exact hA i c hi) (by rw [sg_abs m2]; exact hA c _ hc) (by rw [sg_abs he]; omega)]
      congr 1
      rw [show ε i * A i (phN n a j) * (ε c * A c c) - ε i * A i c * (ε c * A c (phN n a j)) = (ε i * ε c) * (A c c * A i (phN n a j) - A i c * A c (phN n a j)) by grind, sgn_td _ _ _ _ (sg_mul m1 m2) he]
theorem HoN_sw {n a c x : Nat} {N : Nat → Nat → Int64} {A : Nat → Nat → Int} {ε : Nat → Int} (hn : n ≤ 5) (hc : c < n) (hx : x < n) (hcx : x ≠ c) (h : HoN n a N A ε) : HoN n a (ngN x (swN x c N)) (swB x c A) (fun i => if i = c then ε x else if i = x then - ε c else ε i) := by
  obtain ⟨h1, h2⟩ := h
  refine ⟨fun i hi => ?_, fun i j hi hj => ?_⟩
  · simp only
    split
    · exact h1 x hx
    · split
      · have := h1 c hc
        omega
      · exact h1 i hi
  · unfold ngN swN swB
    by_cases ic : i = c
    · simp only [ic, if_true, if_neg (show ¬ c = x from fun z => hcx z.symm)]
      exact h2 x j hx hj
    · by_cases ix : i = x
      · simp only [ix, if_true, if_neg hcx]
        rw [h2 c j hc hj, oL_neg, Int.neg_mul]
      · simp only [if_neg ic, if_neg ix]
        exact h2 i j hi hj
theorem solve_ml {M n a : Nat} {σ : MS} {hg pos : Nat → Int} (hn : 2 ≤ n ∧ n ≤ 5) (hc : CoB n hg pos) {Q : Int64 → MS → Prop} (q0 : ∀ N, PRd n (dco hg pos) = 0 → Q 0 (stN σ N)) (q1 : ∀ (N : Nat → Nat → Int64) (t : Int), (t = 1 ∨ t = -1) → PRd n (dco hg pos) ≠ 0 → (∀ i, i < n → N i 5 = oL (t * CRd n (dco hg pos) i (n + a))) → Q (oL (t * PRd n (dco hg pos))) (stN σ N)) : ∀ (f c : Nat) (N : Nat → Nat → Int64) (A : Nat → Nat → Int) (ε : Nat → Int) (e pr : Int), c ≤ n → n < c + f → (e = 1 ∨ e = -1) → HoN n a N A ε → (∀ i, i < c → ε i = e) → GdB n hg pos c pr A → RM M (fX11_solve_5 f M (nI n) (oL (e * pr)) (nI c)) (stN σ N) Q
  | 0, c, N, A, ε, e, pr, h1, h2, h3, h4, h5, h6 => by omega
  | f + 1, c, N, A, ε, e, pr, h1, h2, h3, h4, h5, h6 => by
    obtain ⟨b1, b2⟩ := GdB_b hn.2 h1 hc h6
    show RM M (bX11_solve_5 (fX11_solve_5 f) M (nI n) (oL (e * pr)) (nI c)) _ Q
    unfold bX11_solve_5
    by_cases hcn : n ≤ c
    · have ec : c = n := by omega
      subst ec
      rw [if_pos (nI_le hcn (by omega))]
      obtain ⟨g0, g1, s, g2, g3, g4⟩ := GdB_f hn h6
      have := q1 N (e * s) (sg_mul h3 g2) (fun z => g0 (by rw [g3, z]; simp)) (fun i hi => by rw [h4.2 i 5 hi (Or.inr rfl), h5 i hi, g4 i _ hi, Int.mul_assoc]; simp [phN])
      rw [Int.mul_assoc, ← g3] at this
      exact rm_rn this
    · rw [if_neg (nI_ge (by omega) (by omega))]
      have hz : ∀ i, i < n → (N i c = 0 ↔ A i c = 0) := by
        intro i hi
        have m := h4.1 i hi
        have bb := b2 i c hi
        rw [h4.2 i c hi (Or.inl (by omega)), oL_0 (by rw [sg_abs m]; simp [phN, show c ≠ 5 by omega]; omega)]
        simp only [phN, if_neg (show c ≠ 5 by omega)]
        constructor
        · intro z
          rcases Int.mul_eq_zero.mp z with z | z
          · omega
          · exact z
        · intro z
          rw [z]
          simp
      -- the end of a step
      have fin : ∀ (N' : Nat → Nat → Int64) (A' : Nat → Nat → Int) (ε' : Nat → Int), HoN n a N' A' ε' → (∀ i j, i < n → (A' i j).natAbs ≤ 777600000) → (∀ i, i < c → ε' i = e) → GdB n hg pos (c + 1) (A' c c) (clB c pr A') → RM M (bX11_solve_112 (fX11_solve_5 f) M (nI n) (oL (e * pr)) (nI c)) (stN σ N') Q := by
        intro N' A' ε' H' B' E' G'
        unfold bX11_solve_112
        refine rm_gA ?_
        refine rm_ldN c c (ix6 c c) (by omega) (by omega) ?_
        have hp0 : ¬ oL (e * pr) = 0 := by
          rw [oL_0 (by rw [sg_abs h3]; omega)]
          intro z
          rcases Int.mul_eq_zero.mp z with z | z
          · omega
          · exact h6.1 z
        have h := rows_ml (M := M) (σ := σ) (N := N') (c := c) (ah := oL (e * pr)) (k5 := fX11_solve_5 f) (Q := Q) hn.2 (by omega) hp0 ?_ FU 0 (by omega) (by unfold FU; omega)
        · rw [show crN c (oL (e * pr)) N' 0 = N' by funext a b; simp [crN]] at h
          exact h
        · have ecc : N' c c = oL (ε' c * A' c c) := by
            rw [H'.2 c c (by omega) (Or.inl (by omega))]
            simp [phN, show c ≠ 5 by omega]
          rw [ecc]
          refine solve_ml hn hc q0 q1 f (c + 1) _ (clB c pr A') (fun i => if i = c then ε' c else ε' i * ε' c * e) (ε' c) (A' c c) (by omega) (by omega) (H'.1 c (by omega)) (HoN_step hn.2 (by omega) h3 b1 B' H') (fun i hi => ?_) G'
          by_cases ic : i = c
          · rw [if_pos ic]
          · rw [if_neg ic, E' i (by omega), Int.mul_comm e, Int.mul_assoc]
            rcases h3 with rfl | rfl <;> simp
      have search : ∀ (g r : Nat), c ≤ r → r ≤ n → n < r + g → pvB A c (n - r) r = pvB A c (n - c) c → RM M (fX11_solve_15 (fX11_solve_5 f) g M (nI n) (oL (e * pr)) (nI c) (nI r)) (stN σ N) Q := by
        intro g
        induction g with
        | zero => intro r z1 z2 z3; omega
        | succ g ih =>
          intro r z1 z2 z3 z4
          show RM M (bX11_solve_15 (fX11_solve_5 f) (fX11_solve_15 (fX11_solve_5 f) g) M (nI n) (oL (e * pr)) (nI c) (nI r)) _ Q
          unfold bX11_solve_15
          by_cases hr : n ≤ r
          · have er : r = n := by omega
            rw [if_pos (nI_le hr (by omega))]
            unfold bX11_solve_45
            rw [er, if_pos rfl]
            rw [er, show n - n = 0 by omega, pvB] at z4
            exact rm_rn (q0 N (GdB_n hn (by omega) h6 z4.symm))
          · rw [if_neg (nI_ge (by omega) (by omega))]
            refine rm_gA ?_
            refine rm_ldN r c (ix6 r c) (by omega) (by omega) ?_
            rw [show n - r = (n - (r + 1)) + 1 by omega, pvB] at z4
            by_cases rz : A r c = 0
            · rw [if_pos ((hz r (by omega)).mpr rz), nI_1]
              rw [if_pos rz] at z4
              exact ih (r + 1) (by omega) (by omega) (by omega) z4
            · rw [if_neg (fun y => rz ((hz r (by omega)).mp y))]
              rw [if_neg rz] at z4
              have G' := GdB_s hn (by omega) hc h6 z4.symm
              unfold bX11_solve_45
              rw [if_neg (fun y => by have := (nI_eq (by omega) (by omega)).mp y; omega)]
              by_cases rc : r = c
              · rw [if_pos (by rw [rc])]
                have sid : swB r c A = A := by
                  funext i j
                  rw [rc]
                  by_cases e : i = c <;> simp [swB, e]
                rw [sid] at G'
                rw [rc] at G'
                exact fin N A ε h4 b2 h5 G'
              · rw [if_neg (fun y => rc ((nI_eq (by omega) (by omega)).mp y))]
                refine rm_bd (rm_vc (change_m (by omega) (by omega) rc ?_))
                have h := neg_l (M := M) (n := n) (σ := σ) (N := swN r c N) (r := r) (c := c) (ah := oL (e * pr)) (k5 := fX11_solve_5 f) (Q := Q) (by omega) ?_ FU 0 (by omega) (by unfold FU; omega)
                · rw [stN_c (N' := swN r c N) (fun a b hb => by simp)] at h
                  exact h
                · refine fin _ (swB r c A) _ (HoN_sw hn.2 (by omega) (by omega) rc h4) (fun i j hi => ?_) (fun i hi => ?_) ?_
                  · unfold swB
                    split
                    · exact b2 r j (by omega)
                    · split
                      · exact b2 c j (by omega)
                      · exact b2 i j hi
                  · rw [if_neg (by omega), if_neg (by omega)]
                    exact h5 i hi
                  · rw [show swB r c A c c = A r c by simp [swB]]
                    exact G'
      exact search FU c (by omega) (by omega) (by unfold FU; omega) rfl
theorem solve_m {M n a : Nat} {σ : MS} {hg pos : Nat → Int} {N : Nat → Nat → Int64} (hn : 2 ≤ n ∧ n ≤ 5) (hc : CoB n hg pos) (hN : ∀ i j, i < n → (j < n ∨ j = 5) → N i j = oL (con hg pos i (phN n a j))) {Q : Int64 → MS → Prop} (q0 : ∀ N, PRd n (dco hg pos) = 0 → Q 0 (stN σ N)) (q1 : ∀ (N : Nat → Nat → Int64) (t : Int), (t = 1 ∨ t = -1) → PRd n (dco hg pos) ≠ 0 → (∀ i, i < n → N i 5 = oL (t * CRd n (dco hg pos) i (n + a))) → Q (oL (t * PRd n (dco hg pos))) (stN σ N)) : RM M (pX11_solve M (nI n)) (stN σ N) Q := by
  have h := solve_ml (M := M) (σ := σ) (a := a) hn hc q0 q1 FU 0 N (con hg pos) (fun _ => 1) 1 1 (by omega) (by unfold FU; omega) (Or.inl rfl) ⟨fun _ _ => Or.inl rfl, fun i j hi hj => by rw [hN i j hi hj, Int.one_mul]⟩ (fun i hi => by omega) (GdB_0 _ _ _)
  exact h
