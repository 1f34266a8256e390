/-! The start: heaps as lists of cells. -/
def LH (p : Nat → Option AC) (B s : Nat) (cs : List AC) : Hp := (fun a => if a < B then p a else cs[a - B]?, B + cs.length, s)
theorem LH_g (p : Nat → Option AC) (B s : Nat) (cs : List AC) (k : Nat) : (LH p B s cs).1 (B + k) = cs[k]? := by
  show (if B + k < B then p (B + k) else cs[B + k - B]?) = _
  rw [if_neg (by omega), Nat.add_sub_cancel_left]
theorem LH_b (p : Nat → Option AC) {B s : Nat} {cs : List AC} {a : Nat} (h : a < B) : (LH p B s cs).1 a = p a := if_pos h
theorem LH_n (h : Hp) (e : ∀ a, h.2.1 ≤ a → h.1 a = none) : h = LH h.1 h.2.1 h.2.2 [] := by
  refine Prod.ext (funext fun a => ?_) rfl
  show h.1 a = if a < h.2.1 then h.1 a else ([] : List AC)[a - h.2.1]?
  by_cases c : a < h.2.1
  · rw [if_pos c]
  · rw [if_neg c, e a (by omega)]; rfl
theorem LH_0 (B : Nat) : ((fun _ => none, B, 0) : Hp) = LH (fun _ => none) B 0 [] := by
  refine Prod.ext (funext fun a => ?_) rfl
  show none = if a < B then none else ([] : List AC)[a - B]?
  by_cases c : a < B
  · rw [if_pos c]
  · rw [if_neg c]; rfl
theorem LH_mk (p : Nat → Option AC) (B s : Nat) (cs : List AC) (c : AC) (n : Nat) : mk (LH p B s cs) c n = LH p B (s + n) (cs ++ [c]) := by
  refine Prod.ext (funext fun b => ?_) (Prod.ext ?_ rfl)
  · show (if b = B + cs.length then some c else if b < B then p b else cs[b - B]?) = if b < B then p b else (cs ++ [c])[b - B]?
    by_cases q : b < B
    · rw [if_pos q, if_pos q, if_neg (by omega)]
    · rw [if_neg q, if_neg q]
      by_cases z : b = B + cs.length
      · rw [if_pos z, show b - B = cs.length by omega, List.getElem?_append_right (Nat.le_refl _), Nat.sub_self]
        rfl
      · rw [if_neg z]
        by_cases y : b - B < cs.length
        · rw [List.getElem?_append_left y]
        · rw [List.getElem?_eq_none (by omega), List.getElem?_eq_none (by simp; omega)]
  · show B + cs.length + 1 = B + (cs ++ [c]).length
    simp
    omega
theorem LH_up {p : Nat → Option AC} {B s : Nat} {cs : List AC} {k : Nat} (hk : k < cs.length) (c : AC) : up (LH p B s cs) (B + k) c = LH p B s (cs.set k c) := by
  refine Prod.ext (funext fun b => ?_) (Prod.ext ?_ rfl)
  · show (if b = B + k then some c else if b < B then p b else cs[b - B]?) = if b < B then p b else (cs.set k c)[b - B]?
    by_cases q : b < B
    · rw [if_pos q, if_pos q, if_neg (by omega)]
    · rw [if_neg q, if_neg q]
      by_cases z : b = B + k
      · rw [if_pos z, show b - B = k by omega, List.getElem?_set_self hk]
      · rw [if_neg z, List.getElem?_set_ne (by omega)]
  · show B + cs.length = B + (cs.set k c).length
    rw [List.length_set]
section LHs
variable {R : Type} {p : Nat → Option AC} {B s j : Nat} {cs : List AC} {Q : R → Hp → Prop}
theorem li_nwO {ci : Nat} {fs : List TV} {K : Option Nat → Mo R} (hj : cs.length = j) (q : WP (K (some (B + j))) (LH p B (s + fs.length) (cs ++ [ob ci fs])) Q) : WP (bd (nwO ci fs) K) (LH p B s cs) Q := by
  subst hj
  refine wp_nwO ?_
  rw [LH_mk]
  exact q
theorem li_nwI {t n : Nat} {v : Int32} {K : Option Nat → Mo R} (hv : v = nI n) (hn : n ≤ 1000) (hj : cs.length = j) (q : WP (K (some (B + j))) (LH p B (s + n) (cs ++ [ai t (arI n fun _ => 0)])) Q) : WP (bd (nwI t v) K) (LH p B s cs) Q := by
  subst hj
  refine wp_nwI hv hn ?_
  rw [LH_mk]
  exact q
theorem li_nwL {n : Nat} {v : Int32} {K : Option Nat → Mo R} (hv : v = nI n) (hn : n ≤ 5000) (hj : cs.length = j) (q : WP (K (some (B + j))) (LH p B (s + n) (cs ++ [al (arL n fun _ => 0)])) Q) : WP (bd (nwL v) K) (LH p B s cs) Q := by
  subst hj
  refine wp_nwL hv hn ?_
  rw [LH_mk]
  exact q
theorem li_nwQ {t n : Nat} {v : Int32} {K : Option Nat → Mo R} (hv : v = nI n) (hn : n ≤ 1000) (hj : cs.length = j) (q : WP (K (some (B + j))) (LH p B (s + n) (cs ++ [aq t (arQ n fun _ => none)])) Q) : WP (bd (nwQ t v) K) (LH p B s cs) Q := by
  subst hj hv
  refine wp_e (nwQ_e hn) ?_
  rw [LH_mk]
  exact q
theorem li_nwM {n k : Nat} {v u : Int32} {rows : List AC} {K : Option Nat → Mo R} (hv : v = nI n) (hu : u = nI k) (hn : n ≤ 1000) (hk : k ≤ 1000) (hj : cs.length = j) (hr : List.replicate n (al (arL k fun _ => 0)) = rows) (q : WP (K (some (B + j))) (LH p B (s + n + n * k) (cs ++ (aq 6 (arQ n fun i => some (B + j + 1 + i)) :: rows))) Q) : WP (bd (nwM v u) K) (LH p B s cs) Q := by
  subst hj hv hu hr
  refine wp_e (h' := LH p B (s + n + n * k) (cs ++ (aq 6 (arQ n fun i => some (B + cs.length + 1 + i)) :: List.replicate n (al (arL k fun _ => 0))))) (r := some (B + cs.length)) ?_ q
  unfold nwM
  rw [nI_clamp (by omega), nI_clamp (by omega), if_neg]
  · refine congrArg some (Prod.ext rfl (Prod.ext (funext fun b => ?_) (Prod.ext ?_ rfl)))
    · show (if b = B + cs.length then some (aq 6 ((List.range n).map (fun j => some (B + cs.length + 1 + j)))) else if B + cs.length < b ∧ b < B + cs.length + 1 + n then some (al (List.replicate k 0)) else if b < B then p b else cs[b - B]?) = if b < B then p b else (cs ++ (aq 6 (arQ n fun i => some (B + cs.length + 1 + i)) :: List.replicate n (al (arL k fun _ => 0))))[b - B]?
      by_cases q1 : b < B
      · rw [if_neg (by omega), if_neg (by omega), if_pos q1, if_pos q1]
      · rw [if_neg q1, if_neg q1]
        by_cases z : b = B + cs.length
        · rw [if_pos z, show b - B = cs.length by omega, List.getElem?_append_right (Nat.le_refl _), Nat.sub_self]
          rfl
        · rw [if_neg z]
          by_cases y : b - B < cs.length
          · rw [if_neg (by omega), List.getElem?_append_left y]
          · rw [List.getElem?_append_right (by omega), show b - B - cs.length = (b - B - cs.length - 1) + 1 by omega, List.getElem?_cons_succ]
            by_cases x : b < B + cs.length + 1 + n
            · rw [if_pos ⟨by omega, x⟩, List.getElem?_replicate, if_pos (by omega), rep0L]
            · rw [if_neg (fun q => x q.2), List.getElem?_eq_none (by omega), List.getElem?_eq_none (by simp; omega)]
    · show B + cs.length + 1 + n = B + (cs ++ (aq 6 (arQ n fun i => some (B + cs.length + 1 + i)) :: List.replicate n (al (arL k fun _ => 0)))).length
      simp
      omega
  · intro z
    rcases z with z | z | z | z
    · exact absurd z (by have := nI_pos' (n := n) (by omega); simpa using this)
    · exact absurd z (by have := nI_pos' (n := k) (by omega); simpa using this)
    · omega
    · omega
theorem li_pF {a ci k : Nat} {v : TV} {fs : List TV} {f : Unit → Mo R} (ha : a = B + j) (e : cs[j]? = some (ob ci fs)) (hk : k < fs.length) (q : WP (f ()) (LH p B s (cs.set j (ob ci (fs.set k v)))) Q) : WP (bd (pF (some a) ci k v) f) (LH p B s cs) Q := by
  subst ha
  have hj : j < cs.length := by
    apply Classical.byContradiction
    intro c
    rw [List.getElem?_eq_none (by omega)] at e
    cases e
  refine wp_pF (h := LH p B s cs) (a := B + j) ((LH_g p B s cs j).trans e) hk ?_
  rw [LH_up hj]
  exact q
theorem li_vn {A : Type} {h : Hp} {a : Nat} {f : Nat → Mo A} {K : A → Mo R} (k : WP (f a) h (fun r h' => WP (K r) h' Q)) : WP (bd (vn (some a) f) K) h Q := wp_bd k
end LHs
