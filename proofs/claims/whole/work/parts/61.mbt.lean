/-! The reference's bridge: the whole call. -/
theorem okB_bits {l : Nat} {sup hin : Int64} (h : okB l (nL sup) (nL hin)) : ∃ n, n = ctN 64 (nL sup) ∧ BitB n l sup hin (pls (nL sup) 61) (pls (nL hin) 61) := by
  obtain ⟨h1, h2, ⟨h3, h30⟩, h4, h5, h6⟩ := h
  have p1 := Nat.pow_le_pow_right (n := 2) (by omega) (show l + 1 ≤ 61 by omega)
  have p2 := Nat.pow_le_pow_right (n := 2) (by omega) (show l ≤ 61 by omega)
  have x61 : nL sup < 2 ^ 61 := Nat.lt_of_lt_of_le h2 p1
  have y61 : nL hin < 2 ^ 61 := Nat.lt_of_lt_of_le h3 p2
  have c1 : ctN 64 (nL sup) = ctN 61 (nL sup) := ctN_hi x61 (by decide)
  have c2 : ctN 64 (nL hin) = ctN l (nL hin) := ctN_hi h3 (by omega)
  generalize hn : ctN 64 (nL sup) = n at c1 h5 h6
  generalize hm : ctN 64 (nL hin) = m at c2 h6
  refine ⟨n, rfl, h5, h1, x61, y61, ?_, c1.symm, by rw [← c2]; exact h6, fun k _ => rfl, fun k hk => ?_, fun k hk => ?_, fun k hk => ?_⟩
  · unfold bt
    rw [Nat.pow_zero, Nat.div_one]
    exact h30
  · exact pls_up (nL hin) 61 (by rw [← c2]; omega) (by omega)
  · have := (pls_s (nL sup) 61 k (by rw [← c1]; exact hk)).2.1
    have := bt_lt h2 this
    clear c1
    omega
  · have e : pls (nL hin) 61 k = pls (nL hin) l k := pls_up (nL hin) 61 (by rw [← c2]; omega) (by omega)
    rw [e]
    have := (pls_s (nL hin) l k (by rw [← c2]; omega)).1
    clear c1
    omega
theorem BrE_of {m : Nat} {σ τ : MS} (h1 : ∀ k, τ.i k = σ.i k) (h2 : ∀ k j, k ≠ 11 → τ.a k j = σ.a k j) (h3 : ∀ k j, k ≠ 10 → τ.l k j = σ.l k j) : BrE m σ τ :=
  ⟨fun k _ _ _ _ _ _ => h1 k, fun k j _ _ _ _ h _ _ _ _ _ => h2 k j h, fun k j h _ => h2 k j (by omega), fun y _ => h2 4 y (by omega), fun k j _ _ h _ => h3 k j h, fun y _ => h3 8 y (by omega), fun y _ => h3 9 y (by omega)⟩
theorem bridge_m {M nb : Nat} {σ : MS} {v : Int32} {sup hin : Int64} (hnb : σ.i 0 = nI nb) (hnb6 : nb ≤ 6) {Q : Int32 → MS → Prop}
    (qO : ¬ (∃ l, v = nI l ∧ okB l (nL sup) (nL hin)) → Q (-1002) σ)
    (qN : ∀ l n, v = nI l → okB l (nL sup) (nL hin) → n = ctN 64 (nL sup) → PRd n (dco (hgR n l (pls (nL hin) 61)) (posI (pls (nL sup) 61) n)) = 0 → ∀ τ, BrE nb σ τ → τ.i 0 = σ.i 0 → Q (-1003) τ)
    (qF : ∀ l n, v = nI l → okB l (nL sup) (nL hin) → n = ctN 64 (nL sup) → PRd n (dco (hgR n l (pls (nL hin) 61)) (posI (pls (nL sup) 61) n)) ≠ 0 → nb = 6 → ∀ τ, BrE nb σ τ → τ.i 0 = σ.i 0 → Q (-1004) τ)
    (qY : ∀ l n, v = nI l → okB l (nL sup) (nL hin) → n = ctN 64 (nL sup) → PRd n (dco (hgR n l (pls (nL hin) 61)) (posI (pls (nL sup) 61) n)) ≠ 0 → nb < 6 → ∀ τ, BrE nb σ τ → τ.i 0 = nI (nb + 1) → τ.a 1 nb = nI l → τ.a 2 nb = nI n → τ.a 3 nb = nI (n - 2) → τ.a 23 nb = 0 → (∀ k, k < n → τ.a 4 (5 * nb + k) = nI (pls (nL sup) 61 k)) → (∀ a k, a ≤ l → k < n → τ.l 8 (5 * (61 * nb + a) + k) = oL (rcT n (dco (hgR n l (pls (nL hin) 61)) (posI (pls (nL sup) 61) n)) k (n + a))) → τ.l 9 nb = oL (lwT n (dco (hgR n l (pls (nL hin) 61)) (posI (pls (nL sup) 61) n))) → Q (nI nb) τ) : RM M (pX11_bridge M v sup hin) σ Q := by
  have hX := nL_lt sup
  have hY := nL_lt hin
  have cX := ctN_le 64 (nL sup)
  have cY := ctN_le 64 (nL hin)
  unfold pX11_bridge
  refine rm_eq (in_e v 2 60) ?_
  cases hi : inB v 2 60
  · rw [if_pos (by rfl)]
    refine rm_rn (qO (fun ⟨l, e, o⟩ => ?_))
    subst e
    rw [show inB (nI l) 2 60 = inB (nI l) (nI 2) (nI 60) from rfl, within_n (by have := o.1; omega) (by omega) (by omega), decide_eq_true o.1] at hi
    simp at hi
  · obtain ⟨l, l1, l2, rfl⟩ := inB_of2 (lo := 2) (hi := 60) (by omega) (by omega) hi
    have p1 := Nat.pow_le_pow_right (n := 2) (by omega) (show l + 1 ≤ 61 by omega)
    have p2 := Nat.pow_le_pow_right (n := 2) (by omega) (show l ≤ 61 by omega)
    have inj : ∀ l', nI l = nI l' → okB l' (nL sup) (nL hin) → l' = l := fun l' e o => ((nI_eq (by omega) (by have := o.1; omega)).mp e).symm
    rw [if_neg (by decide)]
    by_cases n1 : sup < 0
    · rw [if_pos n1]
      refine rm_rn (qO (fun ⟨l', e, o⟩ => ?_))
      have := inj l' e o
      subst this
      have := (nL_neg sup).mp n1
      have := o.2.1
      omega
    · rw [if_neg n1]
      have n1' : nL sup < 2 ^ 63 := by
        by_cases c : nL sup < 2 ^ 63
        · exact c
        · exact absurd ((nL_neg sup).mpr (by omega)) n1
      by_cases n2 : hin < 0
      · rw [if_pos n2]
        refine rm_rn (qO (fun ⟨l', e, o⟩ => ?_))
        have := inj l' e o
        subst this
        have := (nL_neg hin).mp n2
        have := o.2.2.1.1
        omega
      · rw [if_neg n2]
        have n2' : nL hin < 2 ^ 63 := by
          by_cases c : nL hin < 2 ^ 63
          · exact c
          · exact absurd ((nL_neg hin).mpr (by omega)) n2
        have z1 : srL sup (nI l + 1) = (0 : Int64) ↔ nL sup < 2 ^ (l + 1) := by
          rw [nL_0, nI_1, nL_srL sup n1' (by omega)]
          exact Nat.div_eq_zero_iff_lt (Nat.two_pow_pos _)
        have z2 : srL hin (nI l) = (0 : Int64) ↔ nL hin < 2 ^ l := by
          rw [nL_0, nL_srL hin n2' (by omega)]
          exact Nat.div_eq_zero_iff_lt (Nat.two_pow_pos _)
        by_cases c1 : nL sup < 2 ^ (l + 1)
        · rw [if_pos (z1.mpr c1)]
          by_cases c2 : nL hin < 2 ^ l
          · rw [if_pos (z2.mpr c2)]
            refine rm_eq (countOf_e sup n1') ?_
            refine rm_eq (in_e (nI (ctN 64 (nL sup))) 2 5) ?_
            rw [show inB (nI (ctN 64 (nL sup))) 2 5 = inB (nI (ctN 64 (nL sup))) (nI 2) (nI 5) from rfl, within_n (by omega) (by omega) (by omega)]
            by_cases c3 : 2 ≤ ctN 64 (nL sup) ∧ ctN 64 (nL sup) ≤ 5
            · rw [decide_eq_true c3, if_neg (by decide)]
              refine rm_eq (countOf_e hin n2') ?_
              rw [show nI (ctN 64 (nL sup)) - (2 : Int32) = nI (ctN 64 (nL sup) - 2) from pk_sub c3.1]
              by_cases c4 : ctN 64 (nL hin) = ctN 64 (nL sup) - 2
              · rw [if_pos (by rw [c4])]
                have z3 : (sup &&& hin) = (0 : Int64) ↔ nL sup &&& nL hin = 0 := by rw [nL_0, nL_and]
                by_cases c5 : nL sup &&& nL hin = 0
                · rw [if_pos (z3.mpr c5)]
                  have z4 : (hin &&& (1 : Int64)) = (0 : Int64) ↔ nL hin % 2 = 0 := by rw [nL_0, and1]
                  by_cases c6 : nL hin % 2 = 0
                  · rw [if_pos (z4.mpr c6)]
                    refine rm_gI ?_
                    have ok : okB l (nL sup) (nL hin) := ⟨⟨l1, l2⟩, c1, ⟨c2, c6⟩, c5, c3, by omega⟩
                    obtain ⟨n, en, bits⟩ := okB_bits ok
                    rw [← en]
                    have hc := BitB_R bits
                    rw [hnb]
                    by_cases full : nb = 6
                    · rw [if_pos (by rw [full]; rfl)]
                      unfold bX11_bridge_119
                      rw [if_neg (by decide)]
                      unfold bX11_bridge_134
                      rw [if_neg (by decide)]
                      refine rm_bd (rm_vc (loose_m bits (fun τ t1 t2 t3 => ?_)))
                      by_cases p0 : PRd n (dco (hgR n l (pls (nL hin) 61)) (posI (pls (nL sup) 61) n)) = 0
                      · rw [decide_eq_true p0, if_neg (by decide)]
                        exact rm_rn (qN l n rfl ok en p0 τ (BrE_of t1 t2 t3) (t1 0))
                      · rw [decide_eq_false p0, if_pos (by rfl)]
                        exact rm_rn (qF l n rfl ok en p0 full τ (BrE_of t1 t2 t3) (t1 0))
                    · rw [if_neg (show ¬ nI nb = (6 : Int32) from fun y => full ((nI_eq (a := nb) (b := 6) (by omega) (by omega)).mp y))]
                      unfold bX11_bridge_119
                      rw [if_pos rfl]
                      refine rm_gI ?_
                      rw [hnb]
                      unfold bX11_bridge_134
                      rw [if_pos rfl]
                      obtain ⟨b1, b2, b3, b4, b5, b6, b7, b8, b9, b10, b11⟩ := bits
                      rw [show nI n - (2 : Int32) = nI (n - 2) from pk_sub b1.1]
                      refine rm_gA ?_
                      refine rm_stI nb rfl (by show _ < 6; omega) ?_
                      refine rm_gA ?_
                      refine rm_stI nb rfl (by show _ < 6; omega) ?_
                      refine rm_gA ?_
                      refine rm_stI nb rfl (by show _ < 6; omega) ?_
                      generalize ht : ((σ.sa 1 nb (nI l)).sa 2 nb (nI n)).sa 3 nb (nI (n - 2)) = τ
                      have ti : ∀ k, τ.i k = σ.i k := fun k => by rw [← ht]; rfl
                      have tl : ∀ k j, τ.l k j = σ.l k j := fun k j => by rw [← ht]; rfl
                      have ta : ∀ k j, ¬ ((k = 1 ∨ k = 2 ∨ k = 3) ∧ j = nb) → τ.a k j = σ.a k j := by
                        intro k j hk
                        rw [← ht]
                        simp only [sa_a]
                        rw [if_neg (fun y => hk ⟨Or.inr (Or.inr y.1), y.2⟩), if_neg (fun y => hk ⟨Or.inr (Or.inl y.1), y.2⟩), if_neg (fun y => hk ⟨Or.inl y.1, y.2⟩)]
                      have t1 : τ.a 1 nb = nI l := by rw [← ht]; simp [sa_a]
                      have t2 : τ.a 2 nb = nI n := by rw [← ht]; simp [sa_a]
                      have t3 : τ.a 3 nb = nI (n - 2) := by rw [← ht]; simp [sa_a]
                      clear ht
                      refine rm_bd (rm_vc (laySup_m (K := 61) rfl (by omega) n1' (by rw [b6]; exact b1.2) (fun F f1 f2 => ?_)))
                      rw [b6] at f1
                      have base : ∀ υ : MS, (∀ k, k ≠ 0 → υ.i k = σ.i k) → (∀ k j, k ≠ 4 → k ≠ 23 → υ.a k j = τ.a k j) → (∀ j, j ≠ nb → υ.a 23 j = σ.a 23 j) → (∀ y, υ.a 4 y = F y) → (∀ k j, k ≠ 8 → k ≠ 9 → k ≠ 10 → υ.l k j = σ.l k j) → (∀ y, ¬ (305 * nb ≤ y ∧ y < 305 * nb + 305) → υ.l 8 y = σ.l 8 y) → (∀ y, y ≠ nb → υ.l 9 y = σ.l 9 y) → BrE nb σ υ := by
                        intro υ u1 u2 u3 u4 u5 u6 u7
                        refine ⟨fun k h0 _ _ _ _ _ => u1 k h0, fun k j e1 e2 e3 e4 e5 e6 _ _ _ _ => ?_, fun k j hk hj => ?_, fun y hy => ?_, fun k j e1 e2 e3 _ => u5 k j e1 e2 e3, u6, u7⟩
                        · rw [u2 k j e4 e6]
                          exact ta k j (fun y => y.1.elim e1 (fun y => y.elim e2 e3))
                        · by_cases k23 : k = 23
                          · rw [k23]; exact u3 j hj
                          · rw [u2 k j (by rcases hk with h | h | h | h <;> rw [h] <;> decide) k23]
                            exact ta k j (fun y => hj y.2)
                        · rw [u4 y, f2 y hy]
                          exact ta 4 y (fun z => by rcases z.1 with z | z | z <;> exact absurd z (by decide))
                      refine rm_bd (rm_vc (findB_m (n := n) (L := l) (sn := pls (nL sup) 61) (hn := pls (nL hin) 61) (by omega) b1 b2 t1 t2 (fun k hk => f1 k hk) (fun k hk => by have := b10 k hk; clear en b6; omega) n2' b5 b7 b9 hc (fun N p0 => ?_) (fun T8 T9 N p0 g1 g2 g3 g4 => ?_)))
                      · rw [if_pos rfl]
                        refine rm_rn (qN l n rfl ok en p0 _ (base _ (fun k _ => ti k) (fun k j e4 _ => ?_) (fun j hj => ?_) (fun y => rfl) (fun k j e8 e9 e10 => ?_) (fun y _ => tl 8 y) (fun y _ => tl 9 y)) (ti 0))
                        · show (if k = 4 then F j else τ.a k j) = _
                          rw [if_neg e4]
                        · exact ta 23 j (fun z => hj z.2)
                        · show (if k = 10 then _ else τ.l k j) = _
                          rw [if_neg e10]
                          exact tl k j
                      · rw [if_neg (by decide)]
                        refine rm_gA ?_
                        refine rm_stI nb rfl (by show _ < 6; omega) ?_
                        refine rm_gI ?_
                        refine rm_pI ?_
                        have ei : ((stN (s89 (stS τ F) T8 T9) N).sa 23 nb 0).i 0 = nI nb := (ti 0).trans hnb
                        rw [ei, nI_1]
                        refine rm_rn (qY l n rfl ok en p0 (by omega) _ (base _ (fun k h0 => ?_) (fun k j e4 e23 => ?_) (fun j hj => ?_) (fun y => rfl) (fun k j e8 e9 e10 => ?_) (fun y hy => (g2 y hy).trans (tl 8 y)) ?_) ?_ ?_ ?_ ?_ ?_ (fun k hk => f1 k hk) g1 g3)
                        · rw [si_i, if_neg h0]; exact ti k
                        · rw [si_a, sa_a, if_neg (fun z => e23 z.1)]
                          show (if k = 4 then F j else τ.a k j) = _
                          rw [if_neg e4]
                        · rw [si_a, sa_a, if_neg (fun z => hj z.2)]
                          exact ta 23 j (fun z => hj z.2)
                        · show (if k = 10 then _ else if k = 8 then T8 j else if k = 9 then T9 j else τ.l k j) = _
                          rw [if_neg e10, if_neg e8, if_neg e9]
                          exact tl k j
                        · intro y hy
                          show T9 y = _
                          rw [g4 y hy]
                          exact tl 9 y
                        · rw [si_i, if_pos rfl]
                        · rw [si_a, sa_a, if_neg (by omega)]; exact t1
                        · rw [si_a, sa_a, if_neg (by omega)]; exact t2
                        · rw [si_a, sa_a, if_neg (by omega)]; exact t3
                        · rw [si_a, sa_a, if_pos ⟨rfl, rfl⟩]
                  · rw [if_neg (fun y => c6 (z4.mp y))]
                    exact rm_rn (qO (fun ⟨l', e, o⟩ => c6 o.2.2.1.2))
                · rw [if_neg (fun y => c5 (z3.mp y))]
                  exact rm_rn (qO (fun ⟨l', e, o⟩ => c5 o.2.2.2.1))
              · rw [if_neg (fun y => c4 ((nI_eq (by omega) (by omega)).mp y))]
                exact rm_rn (qO (fun ⟨l', e, o⟩ => by have := o.2.2.2.2.2; omega))
            · rw [decide_eq_false c3, if_pos (by rfl)]
              exact rm_rn (qO (fun ⟨l', e, o⟩ => c3 o.2.2.2.2.1))
          · rw [if_neg (fun y => c2 (z2.mp y))]
            exact rm_rn (qO (fun ⟨l', e, o⟩ => by have := inj l' e o; subst this; exact c2 o.2.2.1.1))
        · rw [if_neg (fun y => c1 (z1.mp y))]
          exact rm_rn (qO (fun ⟨l', e, o⟩ => by have := inj l' e o; subst this; exact c1 o.2.1))
