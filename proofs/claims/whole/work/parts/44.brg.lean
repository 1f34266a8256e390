/-! Bridges and checks in the class's heap. -/
/-- a bridge that was made at β: its supports there, the object at β + 2, its rules, checks, reactions behind it -/
def Brg (h : Hp) (β L n nh : Nat) (lo : Int64) (sn : Nat → Nat) (R : Nat → Nat → Int64) (ru : Nat → Int32) (nc : Nat) (κ : Nat → Nat) : Prop :=
  h.1 (β + 2) = some (ob 0 [vi (nI L), vr (some β), vi (nI nh), vl lo, vr (some (β + 5)), vr (some (β + 3)), vr (some (β + 4)), vi (nI nc)]) ∧ h.1 β = some (ai 0 (arI n (fun k => nI (sn k)))) ∧ h.1 (β + 5) = some (aq 6 (arQ n (fun i => some (β + 6 + i)))) ∧ (∀ i, i < n → h.1 (β + 6 + i) = some (al (arL (L + 1) (R i)))) ∧ h.1 (β + 3) = some (ai 0 (arI 3 ru)) ∧ h.1 (β + 4) = some (aq 4 (arQ 5 (fun c => if c < nc then some (κ c) else none)))
theorem Brg.fr {S : Nat → Prop} {h h' : Hp} {β L n nh : Nat} {lo : Int64} {sn : Nat → Nat} {R : Nat → Nat → Int64} {ru : Nat → Int32} {nc : Nat} {κ : Nat → Nat} (b : Brg h β L n nh lo sn R ru nc κ) (F : Fr S h h') (d : ∀ i, i < 6 + n → ¬ S (β + i)) (hn : 0 < n) : Brg h' β L n nh lo sn R ru nc κ := by
  obtain ⟨b1, b2, b3, b4, b5, b6⟩ := b
  refine ⟨F.at b1 (d 2 (by omega)), F.at b2 (d 0 (by omega)), F.at b3 (d 5 (by omega)), fun i hi => F.at (b4 i hi) ?_, F.at b5 (d 3 (by omega)), F.at b6 (d 4 (by omega))⟩
  rw [Nat.add_assoc]
  exact d (6 + i) (by omega)
def Chk (h : Hp) (κ L : Nat) (lo : Int64) (f : Nat → Int64) (hi lw : Int32) : Prop := h.1 κ = some (ob 1 [vr (some (κ + 1)), vi hi, vi lw]) ∧ Lin h (κ + 1) (κ + 2) L lo f
theorem Chk.fr {S : Nat → Prop} {h h' : Hp} {κ L : Nat} {lo : Int64} {f : Nat → Int64} {hi lw : Int32} (b : Chk h κ L lo f hi lw) (F : Fr S h h') (d : ∀ i, i < 3 → ¬ S (κ + i)) : Chk h' κ L lo f hi lw := ⟨F.at b.1 (d 0 (by omega)), b.2.fr F ⟨d 1 (by omega), d 2 (by omega)⟩⟩
section Br
variable {h : Hp} {β L n nh : Nat} {lo : Int64} {sn : Nat → Nat} {R : Nat → Nat → Int64} {ru : Nat → Int32} {nc : Nat} {κ : Nat → Nat}
theorem lacks_e (b : Brg h β L n nh lo sn R ru nc κ) (kind at_ : Int32) : pX0_lacksSupport (β + 2) kind at_ h = some (bI (decide (kind = 0) && !inB at_ 0 (nI n - 1)), h) := by
  unfold pX0_lacksSupport
  by_cases hk : kind = 0
  · rw [if_pos hk, bd_e (gA_e (k := 1) b.1 rfl), bd_e (alnI_e b.2.1), arI_len, bd_e (within_e _ _ _ h)]
    cases inB at_ 0 (nI n - 1) <;> simp [hk, bI, rnZ]
  · rw [if_neg hk]
    simp [hk, bI, rnZ]
theorem hasR_e (b : Brg h β L n nh lo sn R ru nc κ) (kind at_ : Int32) : pX0_hasResponse (β + 2) kind at_ h = some (bI (if kind = 0 then inB at_ 0 (nI n - 1) else decide (kind = 1) && inB at_ 0 (nI L)), h) := by
  unfold pX0_hasResponse
  by_cases hk : kind = 0
  · rw [if_pos hk, bd_e (by rw [vc_e b.1]; exact lacks_e b kind at_)]
    cases inB at_ 0 (nI n - 1) <;> simp [hk, bI, rnZ]
  · rw [if_neg hk]
    by_cases h1 : kind = 1
    · rw [if_pos h1, bd_e (gI_e (k := 0) b.1 rfl), bd_e (within_e _ _ _ h)]
      cases inB at_ 0 (nI L) <;> simp [h1, bI, rnZ]
    · rw [if_neg h1]
      simp [hk, h1, bI, rnZ]
theorem checkAt_e (b : Brg h β L n nh lo sn R ru nc κ) (hc : nc ≤ 5) (c : Int32) : pX0_checkAt (β + 2) c h = some (if inB c 0 (nI nc - 1) then some (κ (toN c)) else none, h) := by
  unfold pX0_checkAt
  rw [bd_e (gI_e (k := 7) b.1 rfl), bd_e (within_e _ _ _ h)]
  cases hi : inB c 0 (nI nc - 1)
  · rw [if_pos (by rfl)]
    simp [rn]
  · obtain ⟨j, hj, rfl⟩ := inB_ix (by omega) hi
    rw [if_neg (by decide), bd_e (gA_e (k := 6) b.1 rfl), bd_e (ldQ_e b.2.2.2.2.2 (by rw [arQ_len]; omega) (by rw [arQ_len]; omega)), arQ_get _ (by omega), if_pos hj]
    have : toN (nI j) = j := by
      unfold toN nI
      simp
      omega
    rw [this]
    simp [rn]
/-- the moment at x of a load at a, by the first k supports -/
def cmo (lo : Int64) (sn : Nat → Nat) (R : Nat → Nat → Int64) (x a : Nat) : Nat → Int64
  | 0 => (-lo) * (mxI 0 (nI x - nI a)).toInt64
  | k + 1 => cmo lo sn R x a k + R k a * (mxI 0 (nI x - nI (sn k))).toInt64
theorem moment_l (b : Brg h β L n nh lo sn R ru nc κ) (hn : n ≤ 5) {x a : Nat} (ha : a ≤ L) (hL : L ≤ 60) : ∀ (f k : Nat), k ≤ n → n < k + f → fX0_momentUpper_18 f (β + 2) (nI x) (nI a) (cmo lo sn R x a k) (nI k) h = some (cmo lo sn R x a n, h)
  | 0, k, h1, h2 => by omega
  | f + 1, k, h1, h2 => by
    show bX0_momentUpper_18 (fX0_momentUpper_18 f) (β + 2) (nI x) (nI a) (cmo lo sn R x a k) (nI k) h = _
    unfold bX0_momentUpper_18
    rw [bd_e (gA_e (k := 1) b.1 rfl), bd_e (alnI_e b.2.1), arI_len]
    by_cases hk : n ≤ k
    · have e : k = n := by omega
      subst e
      rw [if_pos (nI_le hk (by omega))]
      rfl
    · rw [if_neg (nI_ge (by omega) (by omega)), bd_e (gA_e (k := 4) b.1 rfl), bd_e (ldQ_e b.2.2.1 (by rw [arQ_len]; omega) (by rw [arQ_len]; omega)), arQ_get _ (by omega), bd_e (ldL_e (b.2.2.2.1 k (by omega)) (by rw [arL_len]; omega) (by rw [arL_len]; omega)), arL_get _ (by omega), bd_e (gA_e (k := 1) b.1 rfl), bd_e (ldI_e b.2.1 (by rw [arI_len]; omega) (by rw [arI_len]; omega)), arI_get _ (by omega), nI_1]
      exact moment_l b hn ha hL f (k + 1) (by omega) (by omega)
theorem moment_e (b : Brg h β L n nh lo sn R ru nc κ) (hn : n ≤ 5) {x a : Nat} (ha : a ≤ L) (hL : L ≤ 60) : pX0_momentUpper (β + 2) (nI x) (nI a) h = some (cmo lo sn R x a n, h) := by
  unfold pX0_momentUpper
  rw [bd_e (gL_e (k := 3) b.1 rfl)]
  exact moment_l b hn ha hL FU 0 (by omega) (by unfold FU; omega)
/-- the influence of a load at a -/
def cin (lo : Int64) (sn : Nat → Nat) (R : Nat → Nat → Int64) (n : Nat) (kind : Int32) (x a : Nat) : Int64 := if kind = 0 then R x a else cmo lo sn R x a n
theorem draw_l {l u x : Nat} {kind : Int32} {f0 : Nat → Int64} (b : Brg h β L n nh lo sn R ru nc κ) (hl : Lin h l u L lo f0) (hn : 0 < n ∧ n ≤ 5) (hL : L ≤ 60) (hx : kind = 0 → x < n) (hd : ∀ i, i < 6 + n → β + i ≠ u) (hlu : l ≠ u) {Q : Unit → Hp → Prop} (q : ∀ (h2 : Hp) (f2 : Nat → Int64), Fr (fun y => y = u) h h2 → Lin h2 l u L lo f2 → (∀ a, a ≤ L → f2 a = cin lo sn R n kind x a) → Q () h2) : ∀ (f a : Nat) (h' : Hp) (f1 : Nat → Int64), a ≤ L + 1 → L + 1 < a + f → Fr (fun y => y = u) h h' → h'.1 u = some (al (arL 61 f1)) → (∀ i, i < a → f1 i = cin lo sn R n kind x i) →
    WP (fX4_draw_29 f l (some (β + 2)) kind (nI x) (nI a)) h' Q
  | 0, a, h', f1, a1, a2, a3, a4, a5 => by omega
  | f + 1, a, h', f1, a1, a2, a3, a4, a5 => by
    have l1 := a3.at hl.1 hlu
    have b1 := b.fr a3 hd hn.1
    show WP (bX4_draw_29 (fX4_draw_29 f) l (some (β + 2)) kind (nI x) (nI a)) h' Q
    unfold bX4_draw_29
    refine wp_gI (k := 2) l1 rfl ?_
    by_cases ha : L < a
    · have e : a = L + 1 := by omega
      subst e
      rw [if_pos (nI_lt ha (by omega))]
      exact wp_rn (q h' f1 a3 ⟨l1, a4⟩ (fun i hi => a5 i (by omega)))
    · rw [if_neg (nI_nlt (by omega) (by omega))]
      refine wp_gA (k := 0) l1 rfl ?_
      have key : ∀ v : Int64, v = cin lo sn R n kind x a → WP (bX4_draw_67 (fX4_draw_29 f) l (some (β + 2)) kind (nI x) (nI a) (some u) (nI a) v) h' Q := by
        intro v hv
        unfold bX4_draw_67
        refine wp_stL a4 rfl (by omega) (by omega) ?_
        rw [nI_1]
        refine draw_l b hl hn hL hx hd hlu q f (a + 1) _ _ (by omega) (by omega) (a3.put _ rfl) (up_s _ _ _) (fun i hi => ?_)
        by_cases e : i = a
        · subst e
          simp [hv]
        · simp [e, a5 i (by omega)]
      by_cases hk : kind = 0
      · rw [if_pos hk]
        have hxn := hx hk
        refine wp_gA (k := 4) b1.1 rfl ?_
        refine wp_ldQ b1.2.2.1 rfl hxn (by omega) ?_
        refine wp_ldL (b1.2.2.2.1 x hxn) rfl (by omega) (by omega) ?_
        exact key _ (by rw [cin, if_pos hk])
      · rw [if_neg hk]
        refine wp_e (by rw [vc_e b1.1]; exact moment_e b1 hn.2 (by omega) hL) ?_
        exact key _ (by rw [cin, if_neg hk])
theorem draw_w {l u x : Nat} {kind : Int32} {f0 : Nat → Int64} {L0 lo0 : _} (b : Brg h β L n nh lo sn R ru nc κ) (hl : h.1 l = some (ob 4 [vr (some u), vl lo0, vi L0])) (hu : h.1 u = some (al (arL 61 f0))) (hn : 0 < n ∧ n ≤ 5) (hL : L ≤ 60) (hx : kind = 0 ∧ x < n ∨ kind = 1 ∧ x ≤ L) (hd : ∀ i, i < 6 + n → ¬ (β + i = l ∨ β + i = u)) (hlu : l ≠ u) {Q : Unit → Hp → Prop} (q : ∀ (h2 : Hp) (f2 : Nat → Int64), Fr (fun y => y = l ∨ y = u) h h2 → Lin h2 l u L lo f2 → (∀ a, a ≤ L → f2 a = cin lo sn R n kind x a) → Q () h2) : WP (pX4_draw l (some (β + 2)) kind (nI x)) h Q := by
  have hr : (if kind = 0 then inB (nI x) 0 (nI n - 1) else decide (kind = 1) && inB (nI x) 0 (nI L)) = true := by
    rcases hx with ⟨h0, h1⟩ | ⟨h0, h1⟩
    · rw [if_pos h0]
      exact inB_of h1 (by omega)
    · subst h0
      simp only [inB]
      rw [if_neg (by decide), decide_eq_true (⟨nI_pos' (by omega), nI_le h1 (by omega)⟩ : (0 : Int32) ≤ nI x ∧ nI x ≤ nI L)]
      rfl
  unfold pX4_draw
  refine wp_e (by rw [vc_e b.1]; exact hasR_e b kind (nI x)) ?_
  rw [hr, if_neg (by decide)]
  refine wp_gI (k := 0) b.1 rfl ?_
  refine wp_pF (k := 2) hl (by simp) ?_
  have f1 : Fr (fun y => y = l ∨ y = u) h (up h l (ob 4 ([vr (some u), vl lo0, vi L0].set 2 (vi (nI L))))) := (Fr.rf _ h).put _ (Or.inl rfl)
  have e1 : (up h l (ob 4 ([vr (some u), vl lo0, vi L0].set 2 (vi (nI L))))).1 l = some (ob 4 [vr (some u), vl lo0, vi (nI L)]) := up_s _ _ _
  have e2 : (up h l (ob 4 ([vr (some u), vl lo0, vi L0].set 2 (vi (nI L))))).1 u = some (al (arL 61 f0)) := by rw [up_n hlu.symm]; exact hu
  generalize up h l (ob 4 ([vr (some u), vl lo0, vi L0].set 2 (vi (nI L)))) = h1 at f1 e1 e2 ⊢
  have b1 := b.fr f1 hd hn.1
  refine wp_gL (k := 3) b1.1 rfl ?_
  refine wp_pF (k := 1) e1 (by simp) ?_
  have f2 : Fr (fun y => y = l ∨ y = u) h (up h1 l (ob 4 ([vr (some u), vl lo0, vi (nI L)].set 1 (vl lo)))) := f1.put _ (Or.inl rfl)
  have e3 : (up h1 l (ob 4 ([vr (some u), vl lo0, vi (nI L)].set 1 (vl lo)))).1 l = some (ob 4 [vr (some u), vl lo, vi (nI L)]) := up_s _ _ _
  have e4 : (up h1 l (ob 4 ([vr (some u), vl lo0, vi (nI L)].set 1 (vl lo)))).1 u = some (al (arL 61 f0)) := by rw [up_n hlu.symm]; exact e2
  generalize up h1 l (ob 4 ([vr (some u), vl lo0, vi (nI L)].set 1 (vl lo))) = h2 at f2 e3 e4 ⊢
  refine draw_l (b.fr f2 hd hn.1) ⟨e3, e4⟩ hn hL (fun h0 => hx.elim (fun z => z.2) (fun z => by rw [h0] at z; exact absurd z.1 (by decide))) (fun i hi => fun z => hd i hi (Or.inr z)) hlu (fun h3 f3 g1 g2 g3 => q h3 f3 (f2.tr (g1.mono (fun y => Or.inr))) g2 g3) FU 0 h2 f0 (by omega) (by unfold FU; omega) (Fr.rf _ _) e4 (fun i hi => by omega)
end Br
