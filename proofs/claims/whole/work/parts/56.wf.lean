/-! placesOf, wellFormed. -/
theorem and_hi {X k : Nat} (hX : X < 2 ^ 64) (hk : k ≤ 64) : X &&& (2 ^ 64 - 2 ^ k) = 0 ↔ X < 2 ^ k := by
  have p0 := Nat.two_pow_pos k
  have p1 := Nat.pow_le_pow_right (n := 2) (by omega) hk
  have e : 2 ^ 64 - 2 ^ k = 2 ^ k * (2 ^ (64 - k) - 1) := by
    rw [Nat.mul_sub, ← Nat.pow_add, show k + (64 - k) = 64 by omega, Nat.mul_one]
  have h1 := Nat.and_div_two_pow (a := X) (b := 2 ^ 64 - 2 ^ k) (n := k)
  have h2 := Nat.and_mod_two_pow (a := X) (b := 2 ^ 64 - 2 ^ k) (n := k)
  rw [e] at h1 h2 ⊢
  rw [Nat.mul_div_cancel_left _ p0, Nat.and_two_pow_sub_one_eq_mod, Nat.mod_eq_of_lt (Nat.div_lt_of_lt_mul (by rw [← Nat.pow_add, show k + (64 - k) = 64 by omega]; exact hX))] at h1
  rw [Nat.mul_mod_right, Nat.and_zero] at h2
  generalize X &&& 2 ^ k * (2 ^ (64 - k) - 1) = Z at h1 h2 ⊢
  constructor
  · intro hz
    rw [hz, Nat.zero_div] at h1
    exact (Nat.div_eq_zero_iff_lt p0).mp h1.symm
  · intro hx
    rw [Nat.div_eq_of_lt hx] at h1
    have := Nat.div_add_mod Z (2 ^ k)
    rw [h1, h2] at this
    simpa using this.symm
theorem and_in {Y l : Nat} (hY : Y < 2 ^ 64) (hl : 1 ≤ l) (hl6 : l ≤ 64) : Y &&& (2 ^ 64 - 2 ^ l + 1) = 0 ↔ Y < 2 ^ l ∧ Y % 2 = 0 := by
  have p0 := Nat.two_pow_pos l
  have p2 : 2 ≤ 2 ^ l := by
    have := Nat.pow_le_pow_right (n := 2) (by omega) hl
    simpa using this
  have p1 := Nat.pow_le_pow_right (n := 2) (by omega) hl6
  have e : 2 ^ 64 - 2 ^ l + 1 = 2 ^ l * (2 ^ (64 - l) - 1) + 1 := by
    rw [Nat.mul_sub, ← Nat.pow_add, show l + (64 - l) = 64 by omega, Nat.mul_one]
  have h1 := Nat.and_div_two_pow (a := Y) (b := 2 ^ 64 - 2 ^ l + 1) (n := l)
  have h2 := Nat.and_mod_two_pow (a := Y) (b := 2 ^ 64 - 2 ^ l + 1) (n := l)
  rw [e] at h1 h2 ⊢
  rw [Nat.mul_add_div p0, Nat.div_eq_of_lt (show 1 < 2 ^ l by omega), Nat.add_zero (2 ^ (64 - l) - 1), Nat.and_two_pow_sub_one_eq_mod, Nat.mod_eq_of_lt (Nat.div_lt_of_lt_mul (by rw [← Nat.pow_add, show l + (64 - l) = 64 by omega]; exact hY))] at h1
  rw [Nat.mul_add_mod, Nat.mod_eq_of_lt (show 1 < 2 ^ l by omega), Nat.and_one_is_mod, Nat.mod_mod_of_dvd _ (by
    have : 2 ^ 1 ∣ 2 ^ l := Nat.pow_dvd_pow 2 hl
    simpa using this)] at h2
  generalize Y &&& (2 ^ l * (2 ^ (64 - l) - 1) + 1) = Z at h1 h2 ⊢
  constructor
  · intro hz
    rw [hz, Nat.zero_div] at h1
    rw [hz, Nat.zero_mod] at h2
    exact ⟨(Nat.div_eq_zero_iff_lt p0).mp h1.symm, h2.symm⟩
  · intro ⟨hx, h0⟩
    rw [Nat.div_eq_of_lt hx] at h1
    rw [h0] at h2
    have := Nat.div_add_mod Z (2 ^ l)
    rw [h1, h2] at this
    simpa using this.symm
theorem msk1 : ∀ l, l < 61 → nL (((slL (2 : Int64) (nI l)) - (1 : Int64)) ^^^ (-1 : Int64)) = 2 ^ 64 - 2 ^ (l + 1) := by decide +kernel
theorem msk2 : ∀ l, l < 61 → 2 ≤ l → nL (((slL (1 : Int64) (nI l)) - (2 : Int64)) ^^^ (-1 : Int64)) = 2 ^ 64 - 2 ^ l + 1 := by decide +kernel
/-- a bridge that is well formed -/
def okB (l X Y : Nat) : Prop := (2 ≤ l ∧ l ≤ 60) ∧ X < 2 ^ (l + 1) ∧ (Y < 2 ^ l ∧ Y % 2 = 0) ∧ X &&& Y = 0 ∧ (2 ≤ ctN 64 X ∧ ctN 64 X ≤ 5) ∧ ctN 64 Y + 2 = ctN 64 X
theorem within_n {a lo hi : Nat} (ha : a < 2 ^ 30) (hl : lo < 2 ^ 30) (hh : hi < 2 ^ 30) : inB (nI a) (nI lo) (nI hi) = decide (lo ≤ a ∧ a ≤ hi) := by
  unfold inB
  rw [decide_eq_decide]
  rw [nI_leI (by omega) (by omega), nI_leI (by omega) (by omega)]
theorem inB_of2 {v : Int32} {lo hi : Nat} (hh : hi < 2 ^ 30) (hl : lo < 2 ^ 30) (h : inB v (nI lo) (nI hi) = true) : ∃ j, lo ≤ j ∧ j ≤ hi ∧ v = nI j := by
  simp only [inB, decide_eq_true_eq] at h
  have h0 : (0 : Int32) ≤ v := by
    have h1 := h.1
    rw [Int32.le_iff_toInt_le, nI_toInt (by omega)] at h1
    rw [Int32.le_iff_toInt_le, Int32.toInt_zero]
    omega
  obtain ⟨j, hj, rfl⟩ := nI_of (x := v) (by simpa using h0)
  exact ⟨j, (nI_leI (by omega) hj).mp h.1, (nI_leI hj (by omega)).mp h.2, rfl⟩
theorem wellFormed_e (v : Int32) (x y : Int64) (h : Hp) : ∃ c : Bool, pX10_wellFormed v x y h = some (bI c, h) ∧ (c = true ↔ ∃ l, v = nI l ∧ okB l (nL x) (nL y)) := by
  have hX := nL_lt x
  have hY := nL_lt y
  have cX := ctN_le 64 (nL x)
  have cY := ctN_le 64 (nL y)
  have nok : ∀ {P : Prop}, ¬ P → (false = true ↔ P) := fun hp => ⟨fun h => by simp at h, fun h => absurd h hp⟩
  unfold pX10_wellFormed
  rw [bd_e (within_e _ _ _ h)]
  cases hi : inB v 2 60
  · refine ⟨false, ?_, nok (fun ⟨l, e, o⟩ => ?_)⟩
    · rw [if_pos (by rfl)]; rfl
    · subst e
      rw [show inB (nI l) 2 60 = inB (nI l) (nI 2) (nI 60) from rfl, within_n (by have := o.1; omega) (by omega) (by omega), decide_eq_true o.1] at hi
      simp at hi
  · obtain ⟨l, l1, l2, rfl⟩ := inB_of2 (lo := 2) (hi := 60) (by omega) (by omega) hi
    have inj : ∀ l', nI l = nI l' → okB l' (nL x) (nL y) → l' = l := fun l' e o => ((nI_eq (by omega) (by have := o.1; omega)).mp e).symm
    rw [if_neg (by decide), bd_e (bitCount_e x h)]
    have z1 : (x &&& (((slL (2 : Int64) (nI l)) - (1 : Int64)) ^^^ (-1 : Int64))) = (0 : Int64) ↔ nL x < 2 ^ (l + 1) := by
      rw [nL_0, nL_and, msk1 l (by omega)]
      exact and_hi hX (by omega)
    by_cases c1 : nL x < 2 ^ (l + 1)
    · rw [if_pos (z1.mpr c1), bd_e (within_e _ _ _ h)]
      rw [show inB (nI (ctN 64 (nL x))) 2 5 = inB (nI (ctN 64 (nL x))) (nI 2) (nI 5) from rfl, within_n (by omega) (by omega) (by omega)]
      by_cases c2 : 2 ≤ ctN 64 (nL x) ∧ ctN 64 (nL x) ≤ 5
      · rw [decide_eq_true c2, if_neg (by decide)]
        have z2 : (y &&& (((slL (1 : Int64) (nI l)) - (2 : Int64)) ^^^ (-1 : Int64))) = (0 : Int64) ↔ nL y < 2 ^ l ∧ nL y % 2 = 0 := by
          rw [nL_0, nL_and, msk2 l (by omega) l1]
          exact and_in hY (by omega) (by omega)
        by_cases c3 : nL y < 2 ^ l ∧ nL y % 2 = 0
        · rw [if_pos (z2.mpr c3)]
          have z3 : (y &&& x) = (0 : Int64) ↔ nL x &&& nL y = 0 := by rw [nL_0, nL_and, Nat.and_comm]
          by_cases c4 : nL x &&& nL y = 0
          · rw [if_pos (z3.mpr c4), bd_e (bitCount_e y h), show nI (ctN 64 (nL x)) - (2 : Int32) = nI (ctN 64 (nL x) - 2) from pk_sub c2.1]
            by_cases c5 : ctN 64 (nL y) = ctN 64 (nL x) - 2
            · rw [if_pos (by rw [c5])]
              exact ⟨true, rfl, fun _ => ⟨l, rfl, ⟨l1, l2⟩, c1, c3, c4, c2, by omega⟩, fun _ => rfl⟩
            · rw [if_neg (fun z => c5 ((nI_eq (by omega) (by omega)).mp z))]
              exact ⟨false, rfl, nok (fun ⟨l', e, o⟩ => by have := o.2.2.2.2.2; omega)⟩
          · rw [if_neg (fun z => c4 (z3.mp z))]
            exact ⟨false, rfl, nok (fun ⟨l', e, o⟩ => c4 o.2.2.2.1)⟩
        · rw [if_neg (fun z => c3 (z2.mp z))]
          exact ⟨false, rfl, nok (fun ⟨l', e, o⟩ => by have := inj l' e o; subst this; exact c3 o.2.2.1)⟩
      · rw [decide_eq_false c2, if_pos (by rfl)]
        exact ⟨false, rfl, nok (fun ⟨l', e, o⟩ => c2 o.2.2.2.2.1)⟩
    · rw [if_neg (fun z => c1 (z1.mp z))]
      exact ⟨false, rfl, nok (fun ⟨l', e, o⟩ => by have := inj l' e o; subst this; exact c1 o.2.1)⟩
/-- the heap behind one new cell -/
def Nw (h h' : Hp) (c : AC) (u : Nat) : Prop := h'.1 h.2.1 = some c ∧ (∀ a, a ≠ h.2.1 → h'.1 a = h.1 a) ∧ h'.2 = (h.2.1 + 1, h.2.2 + u)
theorem places_l {h : Hp} {x : Int64} {a c K : Nat} (hK : K = 61) (hc : c = ctN K (nL x)) (hc6 : c ≤ 64) {Q : Option Nat → Hp → Prop} (q : ∀ h2, Fr (fun y => y = a) h h2 → h2.1 a = some (ai 0 (arI c (fun k => nI (pls (nL x) K k)))) → Q (some a) h2) : ∀ (f p : Nat) (h' : Hp) (F : Nat → Int32), p ≤ K → K < p + f → Fr (fun y => y = a) h h' → h'.1 a = some (ai 0 (arI c F)) → (∀ k, k < ctN p (nL x) → F k = nI (pls (nL x) p k)) → WP (fX10_placesOf_12 f x (some a) (nI (ctN p (nL x))) (nI p)) h' Q
  | 0, p, h', F, h1, h2, h3, h4, h5 => by omega
  | f + 1, p, h', F, h1, h2, h3, h4, h5 => by
    have le := ctN_mono (nL x) (a := p) (b := K) h1
    rw [← hc] at le
    have fin : c ≤ ctN p (nL x) → WP (rn (some a)) h' Q := by
      intro e
      refine wp_rn (q h' h3 ?_)
      rw [h4]
      congr 2
      exact arI_c (fun k hk => by rw [h5 k (Nat.lt_of_lt_of_le hk e), pls_up (nL x) K (Nat.lt_of_lt_of_le hk e) h1])
    show WP (bX10_placesOf_12 (fX10_placesOf_12 f) x (some a) (nI (ctN p (nL x))) (nI p)) h' Q
    unfold bX10_placesOf_12
    by_cases hp : 60 < p
    · have e : p = K := by omega
      rw [if_pos (show (60 : Int32) < nI p from nI_lt (a := 60) hp (by omega))]
      exact fin (by rw [hc, e]; exact Nat.le_refl _)
    · rw [if_neg (show ¬ (60 : Int32) < nI p from nI_nlt (b := p) (a := 60) (by omega) (by omega))]
      refine wp_alnI h4 ?_
      generalize hm : ctN p (nL x) = m at le fin h5 ⊢
      by_cases hf : c ≤ m
      · rw [if_pos (nI_le hf (by omega))]
        exact fin hf
      · rw [if_neg (nI_ge (by omega) (by omega))]
        have ub := usr_bit x (p := p) (by omega)
        have cs := ctN_b (nL x) p
        rw [hm] at cs
        rcases bt_01 (nL x) p with hb | hb
        · rw [if_pos (ub.mpr hb), nI_1]
          have e : m = ctN (p + 1) (nL x) := by rw [cs, hb, Nat.add_zero]
          rw [e]
          refine places_l hK hc hc6 q f (p + 1) h' F (by omega) (by omega) h3 h4 (fun k hk => ?_)
          rw [h5 k (by rw [e]; exact hk), pls, if_neg (fun z => by rw [hb] at z; exact absurd z.1 (by decide))]
        · rw [if_neg (fun z => by rw [ub.mp z] at hb; exact absurd hb (by decide))]
          refine wp_stI h4 rfl (by omega) (by omega) ?_
          have e : m + 1 = ctN (p + 1) (nL x) := by rw [cs, hb]
          rw [nI_1, nI_1, e]
          refine places_l hK hc hc6 q f (p + 1) _ _ (by omega) (by omega) (h3.put _ rfl) (up_s _ _ _) (fun k hk => ?_)
          rw [← e] at hk
          rw [pls, hm]
          by_cases e : k = m
          · rw [if_pos e, if_pos ⟨hb, e⟩]
          · rw [if_neg e, if_neg (fun z => e z.2)]
            exact h5 k (by omega)
theorem nwI_e {h : Hp} {t n : Nat} (hn : n ≤ 1000) : nwI t (nI n) h = some (some h.2.1, mk h (ai t (List.replicate n 0)) n) := by
  unfold nwI
  rw [nI_clamp (by omega), if_neg]
  intro z
  rcases z with z | z
  · exact absurd z (by have := nI_pos' (n := n) (by omega); simpa using this)
  · omega
theorem rep0 (n : Nat) : List.replicate n (0 : Int32) = arI n (fun _ => 0) := by
  unfold arI
  apply List.ext_getElem?
  intro i
  by_cases h : i < n <;> simp [h]
theorem rep0L (n : Nat) : List.replicate n (0 : Int64) = arL n (fun _ => 0) := by
  unfold arL
  apply List.ext_getElem?
  intro i
  by_cases h : i < n <;> simp [h]
theorem rep0Q (n : Nat) : List.replicate n (none : Option Nat) = arQ n (fun _ => none) := by
  unfold arQ
  apply List.ext_getElem?
  intro i
  by_cases h : i < n <;> simp [h]
theorem places_w {h : Hp} {x : Int64} {c : Nat} (hx : nL x < 2 ^ 61) (hc : ctN 64 (nL x) = c) (hc6 : c ≤ 64) {Q : Option Nat → Hp → Prop} (q : ∀ h2, Nw h h2 (ai 0 (arI c (fun k => nI (pls (nL x) 61 k)))) c → Q (some h.2.1) h2) : WP (pX10_placesOf x) h Q := by
  have e61 : c = ctN 61 (nL x) := hc.symm.trans (ctN_hi hx (by decide))
  unfold pX10_placesOf
  refine wp_e (bitCount_e x h) ?_
  rw [hc]
  refine wp_e (nwI_e (by omega)) ?_
  rw [rep0]
  have e0 : (mk h (ai 0 (arI c fun _ => 0)) c).1 h.2.1 = some (ai 0 (arI c fun _ => 0)) := by simp [mk]
  have e1 : ∀ a, a ≠ h.2.1 → (mk h (ai 0 (arI c fun _ => 0)) c).1 a = h.1 a := fun a ha => by simp [mk, ha]
  have e2 : (mk h (ai 0 (arI c fun _ => 0)) c).2 = (h.2.1 + 1, h.2.2 + c) := rfl
  generalize mk h (ai 0 (arI c fun _ => 0)) c = h1 at e0 e1 e2 ⊢
  clear hc
  refine places_l (K := 61) rfl e61 hc6 (fun h2 f2 g2 => q h2 ⟨g2, fun a ha => ?_, by rw [f2.1, e2]⟩) FU 0 h1 _ (Nat.zero_le _) (by decide) (Fr.rf _ _) e0 (fun k hk => absurd hk (Nat.not_lt_zero k))
  rw [f2.2 a ha, e1 a ha]
