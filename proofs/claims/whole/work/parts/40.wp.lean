/-! THE CLASS'S HEAP: programs run from a heap to an end; frames; its small objects. -/
/-- from the heap h the program comes to an end with Q -/
def WP {R : Type} (P : Mo R) (h : Hp) (Q : R → Hp → Prop) : Prop := ∃ r h', P h = some (r, h') ∧ Q r h'
/-- only cells in S have changed -/
def Fr (S : Nat → Prop) (h h' : Hp) : Prop := h'.2 = h.2 ∧ ∀ a, ¬ S a → h'.1 a = h.1 a
theorem Fr.rf (S : Nat → Prop) (h : Hp) : Fr S h h := ⟨rfl, fun _ _ => rfl⟩
theorem Fr.tr {S : Nat → Prop} {h h1 h2 : Hp} (a : Fr S h h1) (b : Fr S h1 h2) : Fr S h h2 := ⟨b.1.trans a.1, fun x hx => (b.2 x hx).trans (a.2 x hx)⟩
theorem Fr.mono {S T : Nat → Prop} {h h1 : Hp} (a : Fr S h h1) (hs : ∀ x, S x → T x) : Fr T h h1 := ⟨a.1, fun x hx => a.2 x (fun q => hx (hs x q))⟩
theorem Fr.put {S : Nat → Prop} {h h1 : Hp} (a : Fr S h h1) {x : Nat} (c : AC) (hx : S x) : Fr S h (up h1 x c) := ⟨a.1, fun y hy => by rw [up_n (h := h1) (a := x) (b := y) (fun e => hy (by rw [e]; exact hx))]; exact a.2 y hy⟩
theorem Fr.at {S : Nat → Prop} {h h1 : Hp} (a : Fr S h h1) {x : Nat} {c : Option AC} (e : h.1 x = c) (hx : ¬ S x) : h1.1 x = c := (a.2 x hx).trans e
section WPs
variable {R A : Type} {h : Hp} {Q : R → Hp → Prop} {a ci k : Nat} {fs : List TV}
theorem wp_rn {r : R} (q : Q r h) : WP (rn r) h Q := ⟨r, h, rfl, q⟩
theorem wp_rnZ {x : Int32} {Q : Int32 → Hp → Prop} (hx : x = 0 ∨ x = 1) (q : Q x h) : WP (rnZ x) h Q := ⟨x, h, rnZ_e hx, q⟩
theorem wp_bd {p : Mo A} {f : A → Mo R} (hp : WP p h (fun r h' => WP (f r) h' Q)) : WP (bd p f) h Q := by
  obtain ⟨r, h', e, r2, h2, e2, q⟩ := hp
  exact ⟨r2, h2, by rw [bd_e e]; exact e2, q⟩
theorem wp_e {p : Mo A} {f : A → Mo R} {r : A} {h' : Hp} (e : p h = some (r, h')) (k : WP (f r) h' Q) : WP (bd p f) h Q := by
  obtain ⟨r2, h2, e2, q⟩ := k
  exact ⟨r2, h2, by rw [bd_e e]; exact e2, q⟩
theorem wp_r {p : Mo R} {r : R} {h' : Hp} (e : p h = some (r, h')) (q : Q r h') : WP p h Q := ⟨r, h', e, q⟩
theorem wp_mono {p : Mo R} {Q' : R → Hp → Prop} (w : WP p h Q) (m : ∀ r h', Q r h' → Q' r h') : WP p h Q' := by
  obtain ⟨r, h', e, q⟩ := w
  exact ⟨r, h', e, m r h' q⟩
theorem wp_vc {f : Nat → Mo R} (e : h.1 a = some (ob ci fs)) (w : WP (f a) h Q) : WP (vc ci (some a) f) h Q := by
  obtain ⟨r, h', e2, q⟩ := w
  exact ⟨r, h', by rw [vc_e e]; exact e2, q⟩
theorem wp_gI {x : Int32} {f : Int32 → Mo R} (e : h.1 a = some (ob ci fs)) (v : fs[k]? = some (vi x)) (w : WP (f x) h Q) : WP (bd (gI (some a) ci k) f) h Q := wp_e (gI_e e v) w
theorem wp_gL {x : Int64} {f : Int64 → Mo R} (e : h.1 a = some (ob ci fs)) (v : fs[k]? = some (vl x)) (w : WP (f x) h Q) : WP (bd (gL (some a) ci k) f) h Q := wp_e (gL_e e v) w
theorem wp_gA {x : Option Nat} {f : Option Nat → Mo R} (e : h.1 a = some (ob ci fs)) (v : fs[k]? = some (vr x)) (w : WP (f x) h Q) : WP (bd (gA (some a) ci k) f) h Q := wp_e (gA_e e v) w
theorem wp_pF {t : TV} {f : Unit → Mo R} (e : h.1 a = some (ob ci fs)) (hk : k < fs.length) (w : WP (f ()) (up h a (ob ci (fs.set k t))) Q) : WP (bd (pF (some a) ci k t) f) h Q := wp_e (pF_e e hk) w
theorem wp_ldI {t n j : Nat} {i : Int32} {F : Nat → Int32} {f : Int32 → Mo R} (e : h.1 a = some (ai t (arI n F))) (hi : i = nI j) (hj : j < n) (hn : n < 2 ^ 31) (w : WP (f (F j)) h Q) : WP (bd (ldI t (some a) i) f) h Q := by
  subst hi
  refine wp_e (ldI_e e (by rw [arI_len]; exact hj) (by rw [arI_len]; exact hn)) ?_
  rw [arI_get _ hj]
  exact w
theorem wp_ldL {n j : Nat} {i : Int32} {F : Nat → Int64} {f : Int64 → Mo R} (e : h.1 a = some (al (arL n F))) (hi : i = nI j) (hj : j < n) (hn : n < 2 ^ 31) (w : WP (f (F j)) h Q) : WP (bd (ldL (some a) i) f) h Q := by
  subst hi
  refine wp_e (ldL_e e (by rw [arL_len]; exact hj) (by rw [arL_len]; exact hn)) ?_
  rw [arL_get _ hj]
  exact w
theorem wp_stI {n j : Nat} {i v : Int32} {F : Nat → Int32} {f : Unit → Mo R} (e : h.1 a = some (ai 0 (arI n F))) (hi : i = nI j) (hj : j < n) (hn : n < 2 ^ 31) (w : WP (f ()) (up h a (ai 0 (arI n (fun y => if y = j then v else F y)))) Q) : WP (bd (stI (some a) i v) f) h Q := by
  subst hi
  refine wp_e (stI_e e (by rw [arI_len]; exact hj) (by rw [arI_len]; exact hn)) ?_
  rw [arI_set]
  exact w
theorem wp_stZ {n j : Nat} {i v : Int32} {F : Nat → Int32} {f : Unit → Mo R} (e : h.1 a = some (ai 2 (arI n F))) (hi : i = nI j) (hj : j < n) (hn : n < 2 ^ 31) (hv : v = 0 ∨ v = 1) (w : WP (f ()) (up h a (ai 2 (arI n (fun y => if y = j then v else F y)))) Q) : WP (bd (stZ (some a) i v) f) h Q := by
  subst hi
  refine wp_e (stZ_e e (by rw [arI_len]; exact hj) (by rw [arI_len]; exact hn) hv) ?_
  rw [arI_set]
  exact w
theorem wp_stL {n j : Nat} {i : Int32} {v : Int64} {F : Nat → Int64} {f : Unit → Mo R} (e : h.1 a = some (al (arL n F))) (hi : i = nI j) (hj : j < n) (hn : n < 2 ^ 31) (w : WP (f ()) (up h a (al (arL n (fun y => if y = j then v else F y)))) Q) : WP (bd (stL (some a) i v) f) h Q := by
  subst hi
  refine wp_e (stL_e e (by rw [arL_len]; exact hj) (by rw [arL_len]; exact hn)) ?_
  rw [arL_set]
  exact w
theorem wp_alnI {n : Nat} {F : Nat → Int32} {f : Int32 → Mo R} (e : h.1 a = some (ai 0 (arI n F))) (w : WP (f (nI n)) h Q) : WP (bd (aln (some a)) f) h Q := by
  refine wp_e (alnI_e e) ?_
  rw [arI_len]
  exact w
theorem wp_alnL {n : Nat} {F : Nat → Int64} {f : Int32 → Mo R} (e : h.1 a = some (al (arL n F))) (w : WP (f (nI n)) h Q) : WP (bd (aln (some a)) f) h Q := by
  refine wp_e (alnL_e e) ?_
  rw [arL_len]
  exact w
end WPs
def arQ (n : Nat) (f : Nat → Option Nat) : List (Option Nat) := (List.range n).map f
theorem arQ_len (n : Nat) (f : Nat → Option Nat) : (arQ n f).length = n := by simp [arQ]
theorem arQ_get {n j : Nat} (f : Nat → Option Nat) (h : j < n) : (arQ n f).getD j none = f j := by simp [arQ, List.getD, h]
theorem arQ_set (n j : Nat) (f : Nat → Option Nat) (v : Option Nat) : (arQ n f).set j v = arQ n (fun y => if y = j then v else f y) := by
  apply List.ext_getElem?
  intro i
  by_cases h : i = j
  · subst h
    by_cases hi : i < n
    · simp [arQ, hi]
    · simp [arQ, hi]
  · rw [List.getElem?_set_ne (Ne.symm h)]
    by_cases hi : i < n
    · simp [arQ, hi, h]
    · simp [arQ, hi]
theorem wp_ldQ {R : Type} {h : Hp} {Q : R → Hp → Prop} {a t n j : Nat} {i : Int32} {F : Nat → Option Nat} {f : Option Nat → Mo R} (e : h.1 a = some (aq t (arQ n F))) (hi : i = nI j) (hj : j < n) (hn : n < 2 ^ 31) (w : WP (f (F j)) h Q) : WP (bd (ldQ t (some a) i) f) h Q := by
  subst hi
  refine wp_e (ldQ_e e (by rw [arQ_len]; exact hj) (by rw [arQ_len]; exact hn)) ?_
  rw [arQ_get _ hj]
  exact w
theorem arL_c {n : Nat} {F G : Nat → Int64} (h : ∀ j, j < n → F j = G j) : arL n F = arL n G := by
  unfold arL
  apply List.map_congr_left
  intro j hj
  exact h j (List.mem_range.mp hj)
theorem arI_c {n : Nat} {F G : Nat → Int32} (h : ∀ j, j < n → F j = G j) : arI n F = arI n G := by
  unfold arI
  apply List.map_congr_left
  intro j hj
  exact h j (List.mem_range.mp hj)
/-! lines, trains, sweeps, extremes -/
def Lin (h : Hp) (l u L : Nat) (lo : Int64) (f : Nat → Int64) : Prop := h.1 l = some (ob 4 [vr (some u), vl lo, vi (nI L)]) ∧ h.1 u = some (al (arL 61 f))
def Trn (h : Hp) (t w g n : Nat) (r : Int32) (W G : Nat → Int32) : Prop := h.1 t = some (ob 8 [vr (some w), vr (some g), vi (nI n), vi r]) ∧ h.1 w = some (ai 0 (arI 8 W)) ∧ h.1 g = some (ai 0 (arI 8 G))
def Swp (h : Hp) (s e : Nat) (T : Int32) (f : Nat → Int64) : Prop := h.1 s = some (ob 7 [vr (some e), vi T]) ∧ h.1 e = some (al (arL 341 f))
def Ext (h : Hp) (x a b c : Nat) (U : Nat → Int64) (V Z : Nat → Int32) : Prop := h.1 x = some (ob 2 [vr (some a), vr (some b), vr (some c)]) ∧ h.1 a = some (al (arL 2 U)) ∧ h.1 b = some (ai 0 (arI 2 V)) ∧ h.1 c = some (ai 0 (arI 2 Z))
section Move
variable {S : Nat → Prop} {h h' : Hp}
theorem Lin.fr {l u L : Nat} {lo : Int64} {f : Nat → Int64} (x : Lin h l u L lo f) (F : Fr S h h') (d : ¬ S l ∧ ¬ S u) : Lin h' l u L lo f := ⟨F.at x.1 d.1, F.at x.2 d.2⟩
theorem Trn.fr {t w g n : Nat} {r : Int32} {W G : Nat → Int32} (x : Trn h t w g n r W G) (F : Fr S h h') (d : ¬ S t ∧ ¬ S w ∧ ¬ S g) : Trn h' t w g n r W G := ⟨F.at x.1 d.1, F.at x.2.1 d.2.1, F.at x.2.2 d.2.2⟩
theorem Swp.fr {s e : Nat} {T : Int32} {f : Nat → Int64} (x : Swp h s e T f) (F : Fr S h h') (d : ¬ S s ∧ ¬ S e) : Swp h' s e T f := ⟨F.at x.1 d.1, F.at x.2 d.2⟩
theorem Ext.fr {x a b c : Nat} {U : Nat → Int64} {V Z : Nat → Int32} (y : Ext h x a b c U V Z) (F : Fr S h h') (d : ¬ S x ∧ ¬ S a ∧ ¬ S b ∧ ¬ S c) : Ext h' x a b c U V Z := ⟨F.at y.1 d.1, F.at y.2.1 d.2.1, F.at y.2.2.1 d.2.2.1, F.at y.2.2.2 d.2.2.2⟩
end Move
/-! Train.allGaps -/
def bhN (g : Nat → Nat) : Nat → Nat
  | 0 => 0
  | k + 1 => bhN g k + g k
theorem allGaps_w {h : Hp} {t w g n : Nat} {r : Int32} {W : Nat → Int32} {gn : Nat → Nat} (ht : Trn h t w g n r W (fun k => nI (gn k))) (hn : n ≤ 8) : pX8_allGaps t h = some (nI (bhN gn n), h) := by
  have e : ∀ k, k ≤ 8 → sumG (arI 8 (fun k => nI (gn k))) k = nI (bhN gn k) := by
    intro k
    induction k with
    | zero => intro _; rfl
    | succ k ih => intro hk; rw [sumG, ih (by omega), arI_get _ (by omega), nI_add]; rfl
  rw [allGaps_e (ws := []) ht.1 ht.2.2 (arI_len _ _) hn, e n hn]
