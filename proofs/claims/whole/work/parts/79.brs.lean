/-! bridge: both sides. -/
theorem rc_bq {σ : MS} {b L n : Nat} {sn : Nat → Nat} {D : Nat → Nat → Int} (hn : 2 ≤ n ∧ n ≤ 5) (hL : L ≤ 60) (hD : DB n D) (hp : PRd n D ≠ 0) (h8 : ∀ a k, a ≤ L → k < n → σ.l 8 (5 * (61 * b + a) + k) = oL (rcT n D k (n + a))) (h9 : σ.l 9 b = oL (lwT n D)) (hs : ∀ k, k < n → σ.a 4 (5 * b + k) = nI (sn k) ∧ sn k ≤ 60 ∧ sn 0 ≤ sn k) : BQ σ b L n sn (fun k a => rcT n D k (n + a)) (lwT n D) := by
  have pb := PRd_b hn hD
  refine ⟨hn, hL, h8, h9, by unfold lwT; omega, fun k a k1 k2 => ?_, fun a => ?_, hs⟩
  · have := CRp_b hn hD (i := k) ⟨k1, k2⟩ (n + a)
    show (rcT n D k (n + a)).natAbs ≤ _
    unfold rcT CRd
    rw [if_neg (show ¬ k = 0 by omega)]
    split <;> omega
  · simp only [rcT, lwT]
    have e : ∀ k, k ≠ 0 → CRd n D k (n + a) = CRp n D k (n + a) := fun k hk => by unfold CRd; rw [if_neg hk]
    rw [e 1 (by omega), e 2 (by omega), e 3 (by omega), e 4 (by omega)]
    have e0 : CRd n D 0 (n + a) = PRd n D - (if 1 < n then CRp n D 1 (n + a) else 0) - (if 2 < n then CRp n D 2 (n + a) else 0) - (if 3 < n then CRp n D 3 (n + a) else 0) - (if 4 < n then CRp n D 4 (n + a) else 0) := by unfold CRd; rw [if_pos rfl]
    rw [e0]
    by_cases c : PRd n D < 0
    · simp only [if_pos c]
      have ng : ∀ (q : Prop) [Decidable q] (x : Int), (if q then - x else 0) = - (if q then x else 0) := by
        intro q _ x
        by_cases h : q <;> simp [h]
      rw [ng, ng, ng, ng]
      omega
    · simp only [if_neg c]
      omega
theorem bridge_s (B : Nat) (v : Int32) (sup hin : Int64) : StC B (pX10_bridge B v sup hin) (pX11_bridge (B + 42) v sup hin) := by
  intro h g σ ⟨x, im, w⟩
  obtain ⟨⟨hnb, hnb6⟩, _⟩ := id w
  have x1 := x.1.1
  have o0 := x.1.2.2.2.2.2.2.1
  obtain ⟨c, we, wi⟩ := wellFormed_e v sup hin h
  cases c
  · -- not well formed
    have nok : ¬ (∃ l, v = nI l ∧ okB l (nL sup) (nL hin)) := fun q => by simpa using wi.mpr q
    have cl : pX10_bridge B v sup hin h = some (-1002, h) := by
      unfold pX10_bridge
      rw [bd_e we, if_pos (show bI false = 0 from rfl)]
      rfl
    obtain ⟨r2, h2, τ, e2, im2, fm, q1, q2⟩ := bridge_m (M := B + 42) (σ := σ) (v := v) (sup := sup) (hin := hin) hnb hnb6 (Q := fun r τ => r = -1002 ∧ τ = σ) (fun _ => ⟨rfl, rfl⟩) (fun l n ev ok _ _ _ _ _ => absurd ⟨l, ev, ok⟩ nok) (fun l n ev ok _ _ _ _ _ _ => absurd ⟨l, ev, ok⟩ nok) (fun l n ev ok _ _ _ _ _ _ _ _ _ _ _ _ _ => absurd ⟨l, ev, ok⟩ nok) h im
    subst q1 q2
    exact ⟨-1002, h, h2, g, τ, cl, e2, ⟨IX.frM w x fm, im2, w⟩, by rw [fm.1]; omega, by rw [fm.1]; omega, ⟨_, im.1⟩⟩
  · obtain ⟨l, rfl, ok⟩ := wi.mp rfl
    obtain ⟨n, en, bits⟩ := okB_bits ok
    have cR := BitB_R bits
    have cC := BitB_C bits
    have cy : ctN 64 (nL hin) = n - 2 := by
      have q := ok.2.2.2.2.2
      rw [← en] at q
      exact Nat.eq_sub_of_add_eq q
    obtain ⟨b1, b2, b3, b4, b5, b6, b7, b8, b9, b10, b11⟩ := id bits
    have srt := fun i j => BitB_sorted bits (i := i) (j := j)
    clear b6
    generalize hsn : pls (nL sup) 61 = sn at cR cC b8 b10 srt
    generalize hhn : pls (nL hin) 61 = hn at cR cC b9 b11
    obtain ⟨s, alt⟩ := Fdt_rot (n := n) (D := dco (hgC l hn) (posI sn n)) (D' := dco (hgR n l hn) (posI sn n)) b1 (fun j => by
      simp [dco, con, hgR, hgC, show ¬ n - 1 = 0 by omega]) (fun i j i1 i2 => by
      have e : i + 1 - 2 = i - 1 := by omega
      simp [dco, con, hgR, hgC, e, show ¬ i = 0 by omega, show ¬ i = n - 1 by omega])
    have dB := dco_b cC
    have dB' := dco_b cR
    have pz : PRd n (dco (hgR n l hn) (posI sn n)) = 0 ↔ PRd n (dco (hgC l hn) (posI sn n)) = 0 := by
      rw [PRd_s alt]
      constructor
      · intro z
        rcases Int.mul_eq_zero.mp z with z | z
        · have := alt.1; omega
        · exact z
      · intro z; rw [z]; simp
    -- the class up to the solver
    have start : ∀ {Q : Int32 → Hp → Prop}, (∀ h3 ρ F, PRd n (dco (hgC l hn) (posI sn n)) = 0 → (∀ a, a < h.2.1 → ¬ sT (B + 11) a → h3.1 a = h.1 a) → Slv h3 (B + 11) n (n + l + 1) ρ F → h3.2 = (h.2.1 + 2, h.2.2 + n + (n - 2)) → Q (-1003) h3) → (∀ h3, SlvF h3 (B + 11) n (n + l + 1) (dco (hgC l hn) (posI sn n)) → PRd n (dco (hgC l hn) (posI sn n)) ≠ 0 → (∀ a, a < h.2.1 → ¬ sT (B + 11) a → h3.1 a = h.1 a) → h3.1 h.2.1 = some (ai 0 (arI n (fun k => nI (sn k)))) → h3.1 (h.2.1 + 1) = some (ai 0 (arI (n - 2) (fun k => nI (hn k)))) → h3.2 = (h.2.1 + 2, h.2.2 + n + (n - 2)) → WP (bd (gI (some B) 10 1) fun x47 => if x47 < (6 : Int32) then bd (gA (some B) 10 0) fun x60 => bd (gI (some B) 10 1) fun x64 => bd (nwO 0 [vi 0, vr none, vi 0, vl 0, vr none, vr none, vr none, vi 0]) fun x67 => bd (aln (some (h.2.1 + 1))) fun x76 => bd (gA (some B) 10 6) fun x78 => bd (vn x67 (fun o => pX0_init o (nI l) (some h.2.1) x76 x78)) fun _ => bd (stQ 3 0 x60 x64 x67) fun _ => bd (gI (some B) 10 1) fun x87 => bd (pF (some B) 10 1 (vi (x87 + (1 : Int32)))) fun _ => bd (gI (some B) 10 1) fun x96 => rn (x96 - (1 : Int32)) else rn (-1004 : Int32)) h3 Q) → WP (pX10_bridge B (nI l) sup hin) h Q := by
      intro Q q0 q1
      unfold pX10_bridge
      refine wp_e we ?_
      rw [if_neg (show ¬ bI true = 0 by decide)]
      refine wp_bd (places_w (c := n) b3 en.symm (by omega) (fun h1 n1 => ?_))
      rw [hsn] at n1
      refine wp_bd (places_w (c := n - 2) b4 cy (by omega) (fun h2 n2 => ?_))
      rw [hhn] at n2
      obtain ⟨n11, n12, n13⟩ := n1
      obtain ⟨n21, n22, n23⟩ := n2
      have t1 : h1.2.1 = h.2.1 + 1 := by rw [n13]
      rw [t1] at n21 n22 n23 ⊢
      have t2 : h2.2 = (h.2.1 + 2, h.2.2 + n + (n - 2)) := by rw [n23, n13]
      have a2 : ∀ a, a < h.2.1 → h2.1 a = h.1 a := fun a ha => (n22 a (by omega)).trans (n12 a (by omega))
      have c1 := (n22 h.2.1 (by omega)).trans n11
      refine wp_gA (k := 6) ((a2 B (by omega)).trans x1) rfl ?_
      obtain ⟨N, W, ρ, F, sl⟩ := S1.ag x.2.1 (h' := h2) (fun a a1 a2' => a2 a (by omega))
      refine wp_bd (wp_vc sl.1 (solve_w sl c1 n21 b1 b2.2 (fun k hk => by have := b10 k hk; omega) (fun k hk => by have := b11 k hk; omega) (by unfold sT; omega) (by unfold sT; omega) cC (fun h3 ρ3 F3 p3 f3 s3 => ?_) (fun h3 ρ3 F3 pr A p3 f3 s3 g3 => ?_)))
      · rw [if_pos (show (0 : Int32) = 0 from rfl)]
        exact wp_rn (q0 h3 ρ3 F3 p3 (fun a ha hs => (f3.2 a hs).trans (a2 a ha)) s3 (by rw [f3.1]; exact t2))
      · rw [if_neg (show ¬ (1 : Int32) = 0 by decide)]
        obtain ⟨g0, g1, t, g2, g3', g4⟩ := id p3
        exact q1 h3 ⟨ρ3, F3, pr, A, p3, s3, g3⟩ (fun z => g0 (by rw [g3', z]; simp)) (fun a ha hs => (f3.2 a hs).trans (a2 a ha)) (f3.at c1 (by unfold sT; omega)) (f3.at n21 (by unfold sT; omega)) (by rw [f3.1]; exact t2)
    have hen : ∀ n', n' = ctN 64 (nL sup) → n' = n := fun n' q => q.trans en.symm
    clear en cy b7
    -- what holds when nothing is added
    have keep : ∀ h3 ρ F, (∀ a, a < h.2.1 → ¬ sT (B + 11) a → h3.1 a = h.1 a) → Slv h3 (B + 11) n (n + l + 1) ρ F → h3.2 = (h.2.1 + 2, h.2.2 + n + (n - 2)) → IX h3 B g σ ∧ FrC B h h3 := by
      intro h3 ρ F ag s3 t3
      refine ⟨⟨x.1.ag w (fun a a1 a2 => ag a (by omega) (by unfold sT; omega)) (fun a a1 a2 _ => ag a a2 (by unfold sT; omega)) (by rw [t3]; show h.2.1 ≤ h.2.1 + 2; omega), ?_⟩, fun a a1 a2 => ag a (by omega) (by unfold sT; omega), by rw [t3]; show h.2.1 + 2 ≤ _; omega, by rw [t3]; show h.2.2 + n + (n - 2) ≤ _; omega⟩
      obtain ⟨q1, q2, q3, q4, q5, q6, q7, q8, q9, q10, q11, q12⟩ := x.2
      have q : ∀ lo hi, (hi ≤ 11 ∨ 18 ≤ lo) → hi ≤ 42 → Ag h h3 B lo hi := fun lo hi hh hh2 a a1 a2 => ag a (by omega) (by unfold sT; omega)
      exact ⟨⟨_, _, _, _, s3⟩, q2.ag (q _ _ (by omega) (by omega)), q3.ag (q _ _ (by omega) (by omega)), q4.ag (q _ _ (by omega) (by omega)), q5.ag (q _ _ (by omega) (by omega)), q6.ag (q _ _ (by omega) (by omega)), q7.ag (q _ _ (by omega) (by omega)), q8.ag (q _ _ (by omega) (by omega)), q9.ag (q _ _ (by omega) (by omega)), q10.ag (q _ _ (by omega) (by omega)), q11.ag (q _ _ (by omega) (by omega)), q12.ag (q _ _ (by omega) (by omega))⟩
    have fin : ∀ (r : Int32), WP (pX10_bridge B (nI l) sup hin) h (fun r' h' => r' = r ∧ IX h' B g σ ∧ FrC B h h') → RM (B + 42) (pX11_bridge (B + 42) (nI l) sup hin) σ (fun r' τ => r' = r ∧ BrE (nbd σ) σ τ ∧ τ.i 0 = σ.i 0) → ∃ r h1 h2 g' τ, pX10_bridge B (nI l) sup hin h = some (r, h1) ∧ pX11_bridge (B + 42) (nI l) sup hin h1 = some (r, h2) ∧ Inv h2 B g' τ ∧ h2.2.1 ≤ h.2.1 + 20 ∧ h2.2.2 ≤ h.2.2 + 1000 ∧ ∃ fs, h1.1 (B + 42) = some (ob 11 fs) := by
      intro r ⟨r1, h1, e1, q1, q2, q3⟩ hr
      obtain ⟨r2, h2, τ, e2, im2, fm, q4, q5, q6⟩ := hr h1 (im.fr (fun a a1 a2 => q3.1 a (by omega) (by omega)))
      subst q1 q4
      have f2 := IX.frM w q2 fm
      exact ⟨r2, h1, h2, g, τ, e1, e2, ⟨⟨PX.br w f2.1 q5 q6 (Nat.le_refl _), f2.2⟩, im2, (w.br q5 q6 (Nat.le_refl _)).1⟩, by rw [fm.1]; exact q3.2.1, by rw [fm.1]; exact q3.2.2, ⟨_, (im.fr (fun a a1 a2 => q3.1 a (by omega) (by omega))).1⟩⟩
    by_cases p0 : PRd n (dco (hgC l hn) (posI sn n)) = 0
    · -- not solvable
      refine fin (-1003) (start (fun h3 ρ F _ ag s3 t3 => ⟨rfl, keep h3 ρ F ag s3 t3⟩) (fun h3 _ z => absurd p0 z)) ?_
      refine bridge_m hnb hnb6 (fun nok => absurd ⟨l, rfl, ok⟩ nok) (fun l' n' _ _ _ _ τ e1 e2 => ⟨rfl, e1, e2⟩) (fun l' n' el ok' en' z => absurd ?_ z) (fun l' n' el ok' en' z => absurd ?_ z)
      · have e1 : l' = l := ((nI_eq (by omega) (by have := ok'.1; omega)).mp el).symm
        subst e1
        rw [show n' = n from hen _ en', hsn, hhn]
        exact pz.mpr p0
      · have e1 : l' = l := ((nI_eq (by omega) (by have := ok'.1; omega)).mp el).symm
        subst e1
        rw [show n' = n from hen _ en', hsn, hhn]
        exact pz.mpr p0
    · have p0' : PRd n (dco (hgR n l hn) (posI sn n)) ≠ 0 := fun q => p0 (pz.mp q)
      by_cases full : nbd σ = 6
      · refine fin (-1004) (start (fun h3 ρ F z => absurd z p0) (fun h3 s3 _ ag _ _ t3 => ?_)) ?_
        · obtain ⟨ρ, F, pr, A, p3, s3, g3⟩ := s3
          refine wp_gI (k := 1) ((ag B (by omega) (by unfold sT; omega)).trans x1) rfl ?_
          rw [full, if_neg (show ¬ nI 6 < (6 : Int32) by decide)]
          exact wp_rn ⟨rfl, keep h3 ρ F ag s3 t3⟩
        · refine bridge_m hnb hnb6 (fun nok => absurd ⟨l, rfl, ok⟩ nok) (fun l' n' el ok' en' z => absurd z ?_) (fun l' n' _ _ _ _ _ τ e1 e2 => ⟨rfl, e1, e2⟩) (fun l' n' el ok' en' z hlt => by omega)
          have e1 : l' = l := ((nI_eq (by omega) (by have := ok'.1; omega)).mp el).symm
          subst e1
          rw [show n' = n from hen _ en', hsn, hhn]
          exact p0'
      · -- a new bridge
        generalize hT : h.2.1 = T at start keep o0
        have cls : WP (pX10_bridge B (nI l) sup hin) h (fun r h5 => r = nI (nbd σ) ∧ ∃ R : Nat → Nat → Int64, (∀ a, a < T → ¬ sT (B + 11) a → a ≠ B → a ≠ B + 1 → h5.1 a = h.1 a) ∧ SlvF h5 (B + 11) n (n + l + 1) (dco (hgC l hn) (posI sn n)) ∧ h5.1 B = some (ob 10 [vr (some (B + 1)), vi (nI (nbd σ + 1)), vr (some (B + 2)), vi (nI (ntd σ)), vi (σ.i 17), vr (some (B + 3)), vr (some (B + 11)), vr (some (B + 18)), vr (some (B + 20)), vr (some (B + 22)), vr (some (B + 26)), vr (some (B + 36)), vr (some (B + 38)), vr (some (B + 41))]) ∧ h5.1 (B + 1) = some (aq 3 (arQ 6 (fun y => if y = nbd σ then some (T + 2) else if y < nbd σ then some (gB g y + 2) else none))) ∧ h5.1 T = some (ai 0 (arI n (fun k => nI (sn k)))) ∧ h5.1 (T + 2) = some (ob 0 [vi (nI l), vr (some T), vi (nI (n - 2)), vl (oL (lwT n (dco (hgC l hn) (posI sn n)))), vr (some (T + 5)), vr (some (T + 3)), vr (some (T + 4)), vi 0]) ∧ h5.1 (T + 3) = some (ai 0 (arI 3 fun y => if y = 0 then 30 else if y = 1 then 1 else 50)) ∧ h5.1 (T + 4) = some (aq 4 (arQ 5 fun _ => none)) ∧ h5.1 (T + 5) = some (aq 6 (arQ n fun i => some (T + 6 + i))) ∧ (∀ i, i < n → h5.1 (T + 6 + i) = some (al (arL (l + 1) (R i))) ∧ ∀ a, a ≤ l → R i a = oL (rcT n (dco (hgC l hn) (posI sn n)) i (n + a))) ∧ h5.2 = (T + 6 + n, h.2.2 + n + (n - 2) + 8 + 3 + 5 + n + n * (l + 1))) := by
          refine start (fun h3 ρ F z => absurd z p0) (fun h3 s3 _ ag u1 u2 t3 => ?_)
          have y1 := (ag B (by omega) (by unfold sT; omega)).trans x1
          refine wp_gI (k := 1) y1 rfl ?_
          rw [if_pos (show nI (nbd σ) < (6 : Int32) from nI_lt (b := 6) (by omega) (by omega))]
          refine wp_gA (k := 0) y1 rfl ?_
          refine wp_gI (k := 1) y1 rfl ?_
          have t31 : h3.2.1 = T + 2 := by rw [t3]
          -- the constructor's arguments are read behind the new object's cell
          refine wp_nwO ?_
          have mk0 : ∀ a, a < T + 2 → (mk h3 (ob 0 [vi 0, vr none, vi 0, vl 0, vr none, vr none, vr none, vi 0]) [vi 0, vr none, vi 0, vl 0, vr none, vr none, vr none, vi 0].length).1 a = h3.1 a := fun a ha => by simp [mk, t31, show a ≠ T + 2 by omega]
          refine wp_alnI ((mk0 (T + 1) (by omega)).trans u2) ?_
          refine wp_gA (k := 6) ((mk0 B (by omega)).trans y1) rfl ?_
          have bn := bridge_new (h := h3) (s := B + 11) (L := l) (n := n) (nh := n - 2) (T := T) (w := n + l + 1) (G := fun k => nI (sn k)) (R' := Int32) (K := bd (stQ 3 0 (some (B + 1)) (nI (nbd σ)) (some (T + 2))) fun _ => bd (gI (some B) 10 1) fun x87 => bd (pF (some B) 10 1 (vi (x87 + (1 : Int32)))) fun _ => bd (gI (some B) 10 1) fun x96 => rn (x96 - (1 : Int32))) (Q := fun r h5 => r = nI (nbd σ) ∧ ∃ R : Nat → Nat → Int64, (∀ a, a < T → ¬ sT (B + 11) a → a ≠ B → a ≠ B + 1 → h5.1 a = h.1 a) ∧ SlvF h5 (B + 11) n (n + l + 1) (dco (hgC l hn) (posI sn n)) ∧ h5.1 B = some (ob 10 [vr (some (B + 1)), vi (nI (nbd σ + 1)), vr (some (B + 2)), vi (nI (ntd σ)), vi (σ.i 17), vr (some (B + 3)), vr (some (B + 11)), vr (some (B + 18)), vr (some (B + 20)), vr (some (B + 22)), vr (some (B + 26)), vr (some (B + 36)), vr (some (B + 38)), vr (some (B + 41))]) ∧ h5.1 (B + 1) = some (aq 3 (arQ 6 (fun y => if y = nbd σ then some (T + 2) else if y < nbd σ then some (gB g y + 2) else none))) ∧ h5.1 T = some (ai 0 (arI n (fun k => nI (sn k)))) ∧ h5.1 (T + 2) = some (ob 0 [vi (nI l), vr (some T), vi (nI (n - 2)), vl (oL (lwT n (dco (hgC l hn) (posI sn n)))), vr (some (T + 5)), vr (some (T + 3)), vr (some (T + 4)), vi 0]) ∧ h5.1 (T + 3) = some (ai 0 (arI 3 fun y => if y = 0 then 30 else if y = 1 then 1 else 50)) ∧ h5.1 (T + 4) = some (aq 4 (arQ 5 fun _ => none)) ∧ h5.1 (T + 5) = some (aq 6 (arQ n fun i => some (T + 6 + i))) ∧ (∀ i, i < n → h5.1 (T + 6 + i) = some (al (arL (l + 1) (R i))) ∧ ∀ a, a ≤ l → R i a = oL (rcT n (dco (hgC l hn) (posI sn n)) i (n + a))) ∧ h5.2 = (T + 6 + n, h.2.2 + n + (n - 2) + 8 + 3 + 5 + n + n * (l + 1))) t31 b1 b2.2 rfl dB u1 s3 (by omega) (fun h4 R a1 a2 a3 a4 a5 a6 a7 => ?_)
          · obtain ⟨r, hz, ez, qz⟩ := bn
            refine ⟨r, hz, ?_, qz⟩
            rw [t31]
            rw [show bd (nwO 0 [vi 0, vr none, vi 0, vl 0, vr none, vr none, vr none, vi 0]) (fun x67 => bd (vn x67 fun o => pX0_init o (nI l) (some T) (nI (n - 2)) (some (B + 11))) fun _ => bd (stQ 3 0 (some (B + 1)) (nI (nbd σ)) (some (T + 2))) fun _ => bd (gI (some B) 10 1) fun x87 => bd (pF (some B) 10 1 (vi (x87 + (1 : Int32)))) fun _ => bd (gI (some B) 10 1) fun x96 => rn (x96 - (1 : Int32))) h3 = _ from bd_e rfl] at ez
            rw [t31] at ez
            exact ez
          · have z1 := (a1 B (by omega)).trans y1
            have z2 := (a1 (B + 1) (by omega)).trans ((ag (B + 1) (by omega) (by unfold sT; omega)).trans x.1.2.1.1)
            refine wp_e (stQ_e z2 a2 (by omega) (by omega)) ?_
            refine wp_gI (k := 1) ((up_n (by omega)).trans z1) rfl ?_
            refine wp_pF (k := 1) ((up_n (by omega)).trans z1) (by simp) ?_
            rw [nI_1]
            refine wp_gI (k := 1) (up_s _ _ _) rfl ?_
            rw [show nI (nbd σ + 1) - 1 = nI (nbd σ) from nI_pred _]
            refine wp_rn ⟨rfl, R, fun a q1 q2 q3 q4 => ?_, s3.ag (fun b q1 q2 => ?_), up_s _ _ _, ?_, ?_, ?_, ?_, ?_, ?_, fun i hi => ⟨?_, (a6 i hi).2⟩, ?_⟩
            · rw [up_n q3, up_n q4, a1 a (by omega)]; exact ag a q1 q2
            · rw [up_n (by omega), up_n (by omega)]; exact a1 b (by omega)
            · rw [up_n (by omega)]; exact up_s _ _ _
            · rw [up_n (by omega), up_n (by omega), a1 T (by omega)]; exact u1
            · rw [up_n (by omega), up_n (by omega)]; exact a2
            · rw [up_n (by omega), up_n (by omega)]; exact a3
            · rw [up_n (by omega), up_n (by omega)]; exact a4
            · rw [up_n (by omega), up_n (by omega)]; exact a5
            · rw [up_n (by omega), up_n (by omega)]; exact (a6 i hi).1
            · show h4.2 = _
              rw [a7, t3]
        obtain ⟨r5, h5, e5, q5, R, c1, c2, c3, c4, c5, c6, c7, c8, c9, c10, c11⟩ := cls
        subst q5
        obtain ⟨r6, h6, τ, e6, im6, fm, q6, f1, f2, f3, f4, f5, f6, f7, f8, f9⟩ := bridge_m (M := B + 42) (σ := σ) (v := nI l) (sup := sup) (hin := hin) hnb hnb6 (Q := fun r τ => r = nI (nbd σ) ∧ BrE (nbd σ) σ τ ∧ τ.i 0 = nI (nbd σ + 1) ∧ τ.a 1 (nbd σ) = nI l ∧ τ.a 2 (nbd σ) = nI n ∧ τ.a 3 (nbd σ) = nI (n - 2) ∧ τ.a 23 (nbd σ) = 0 ∧ (∀ k, k < n → τ.a 4 (5 * nbd σ + k) = nI (sn k)) ∧ (∀ a k, a ≤ l → k < n → τ.l 8 (5 * (61 * nbd σ + a) + k) = oL (rcT n (dco (hgR n l hn) (posI sn n)) k (n + a))) ∧ τ.l 9 (nbd σ) = oL (lwT n (dco (hgR n l hn) (posI sn n)))) (fun nok => absurd ⟨l, rfl, ok⟩ nok) (fun l' n' el ok' en' z => absurd z (by
            have e1 : l' = l := ((nI_eq (by omega) (by have := ok'.1; omega)).mp el).symm
            subst e1
            rw [show n' = n from hen _ en', hsn, hhn]
            exact p0')) (fun l' n' el ok' en' z hf => absurd hf full) (fun l' n' el ok' en' z hlt τ t1 t2 t3 t4 t5 t6 t7 t8 t9 => by
            have e1 : l' = l := ((nI_eq (by omega) (by have := ok'.1; omega)).mp el).symm
            have e2 : n' = n := hen _ en'
            subst e1 e2
            rw [hsn] at t7 t8 t9
            rw [hhn] at t8 t9
            exact ⟨rfl, t1, t2, t3, t4, t5, t6, t7, t8, t9⟩) h5 (im.fr (fun a a1 a2 => c1 a (by omega) (by unfold sT; omega) (by omega) (by omega)))
        subst q6
        clear start keep fin
        generalize hnbs : nbd σ = m at *
        have eL : Ld τ m = l := by unfold Ld; rw [f3, nI_clamp (by omega)]
        have eN : nsd τ m = n := by unfold nsd; rw [f4, nI_clamp (by omega)]
        have eC : ncd τ m = 0 := by unfold ncd; rw [f6]; rfl
        have eS : ∀ k, k < n → spd τ m k = sn k := fun k hk => by unfold spd; rw [f7 k hk, nI_clamp (by have := b10 k hk; omega)]
        have nb' : nbd τ = m + 1 := nbd_n f2 (by omega)
        obtain ⟨g1, g2, g3, g4, g5, g6, g7⟩ := f1
        have i12 := g1 12 (by omega) (by omega) (by omega) (by omega) (by omega) (by omega)
        have i28 := g1 28 (by omega) (by omega) (by omega) (by omega) (by omega) (by omega)
        have i17 := g1 17 (by omega) (by omega) (by omega) (by omega) (by omega) (by omega)
        have nt' : ntd τ = ntd σ := by unfold ntd; rw [i12]
        have nr' : nrd τ = nrd σ := by unfold nrd; rw [i28]
        have ea : ∀ k j, 5 ≤ k → k < 33 → k ≠ 11 → k ≠ 23 → τ.a k j = σ.a k j := fun k j h1 h2 h3 h4 => g2 k j (by omega) (by omega) (by omega) (by omega) (by omega) (by omega) (by omega) (by omega) (by omega) (by omega)
        have hsl : ∀ b, b < m → SlE σ τ b := by
          intro b hb
          refine ⟨fun k hk => ?_, fun k hk => g4 _ (by omega), fun a k ha hk => g6 _ (by omega), g7 b (by omega)⟩
          by_cases c : k = 1 ∨ k = 2 ∨ k = 3 ∨ k = 23
          · exact g3 k b c (by omega)
          · exact ea k b (by omega) (by omega) (by omega) (by omega)
        have hck : ∀ b c, CkE σ τ b c := fun b c k hk => ea k _ (by omega) (by omega) (by omega) (by omega)
        have te : ∀ u, TrE σ τ u := fun u => ⟨ea 13 u (by omega) (by omega) (by omega) (by omega), ea 16 u (by omega) (by omega) (by omega) (by omega), fun k _ => ⟨ea 14 _ (by omega) (by omega) (by omega) (by omega), ea 15 _ (by omega) (by omega) (by omega) (by omega)⟩⟩
        have bq : BQ τ m l n (spd τ m) (fun k a => rcT n (dco (hgR n l hn) (posI sn n)) k (n + a)) (lwT n (dco (hgR n l hn) (posI sn n))) := by
          refine rc_bq b1 b2.2 dB' p0' f8 f9 (fun k hk => ?_)
          rw [eS k hk, eS 0 (by omega)]
          refine ⟨f7 k hk, by have := b10 k hk; omega, ?_⟩
          by_cases k0 : k = 0
          · subst k0; omega
          · have := srt 0 k (by omega) hk; omega
        have wf : WF τ := by
          obtain ⟨p1, p2, p3, p4, p5, p6, p7, p8, p9⟩ := w
          unfold WF
          rw [nb', nt', nr', f2, i12, i28, i17]
          rw [hnbs] at p6
          refine ⟨⟨rfl, by omega⟩, p2, p3, ⟨(g1 20 (by omega) (by omega) (by omega) (by omega) (by omega) (by omega)).trans p4.1, (g1 18 (by omega) (by omega) (by omega) (by omega) (by omega) (by omega)).trans p4.2.1, (g1 19 (by omega) (by omega) (by omega) (by omega) (by omega) (by omega)).trans p4.2.2⟩, p5, fun b hb => ?_, fun b hb => ?_, fun u hu => (p8 u hu).tr (te u), fun r hr => ?_⟩
          · by_cases c : b = m
            · subst c
              unfold WFb
              rw [eL, eN, eC]
              exact ⟨f3, b2, f4, f5, ⟨_, _, bq⟩, f6, by omega, fun c hc => by omega⟩
            · exact (p6 b (by omega)).tr (hsl b (by omega)) (fun c _ => hck b c)
          · obtain ⟨s, l', q, r1, r2, r3, r4, r5, r6, r7, r8⟩ := p7 b hb
            refine ⟨s, l', q, (ea 5 b (by omega) (by omega) (by omega) (by omega)).trans r1, r2, (ea 6 b (by omega) (by omega) (by omega) (by omega)).trans r3, r4, r5, (ea 7 b (by omega) (by omega) (by omega) (by omega)).trans r6, r7, fun z => r8 ?_⟩
            rw [nb'] at z
            rw [hnbs]
            omega
          · obtain ⟨f, t, mm, r1, r2, r3, r4, r5, r6, r7, r8, r9⟩ := p9 r hr
            refine ⟨f, t, mm, (ea 29 r (by omega) (by omega) (by omega) (by omega)).trans r1, r2, (ea 30 r (by omega) (by omega) (by omega) (by omega)).trans r3, r4, r5, (ea 31 r (by omega) (by omega) (by omega) (by omega)).trans r6, r7, r8, ?_⟩
            rw [ea 32 r (by omega) (by omega) (by omega) (by omega), nb']
            rcases r9 with r9 | ⟨b, r9, r10⟩
            · exact Or.inl r9
            · exact Or.inr ⟨b, by rw [hnbs] at r9; omega, r10⟩
        have k6 : ∀ a, (a < B + 42 ∨ B + 72 ≤ a) → h6.1 a = h5.1 a := fun a ha => fm.2 a (by omega)
        have old : ∀ a, a < T → (a < B + 42 ∨ B + 72 ≤ a) → ¬ sT (B + 11) a → a ≠ B → a ≠ B + 1 → h6.1 a = h.1 a := fun a a1 a2 a3 a4 a5 => (k6 a a2).trans (c1 a a1 a3 a4 a5)
        have t6 : h6.2 = (T + 6 + n, h.2.2 + n + (n - 2) + 8 + 3 + 5 + n + n * (l + 1)) := by rw [fm.1]; exact c11
        have nl : n * (l + 1) ≤ 5 * 61 := Nat.mul_le_mul (by omega) (by omega)
        refine ⟨nI m, h5, h6, ((fun b' => if b' = m then T else gB g b'), gC g, gT g, fun a => if a < T then gW g a else 3 * m), τ, e5, e6, ⟨⟨?_, ?_⟩, im6, wf⟩, by rw [t6]; show T + 6 + n ≤ _; omega, by rw [t6]; show h.2.2 + n + (n - 2) + 8 + 3 + 5 + n + n * (l + 1) ≤ _; omega, ⟨_, (im.fr (fun a a1 a2 => c1 a (by omega) (by unfold sT; omega) (by omega) (by omega))).1⟩⟩
        · obtain ⟨u1, u2, u3, u4⟩ := PX.upd (h' := h6) (g' := ((fun b' => if b' = m then T else gB g b'), gC g, gT g, fun a => if a < T then gW g a else 3 * m)) (X := fun _ => False) w x.1 (fun b hb => by show (if b = m then T else gB g b) = _; rw [if_neg (by omega)]) (fun _ _ _ _ => rfl) (fun _ _ => rfl) (fun a ha => by show (if a < T then gW g a else 3 * m) = _; rw [if_pos (by omega)]) (fun a a1 a2 _ => old a (by omega) (by omega) (by unfold sT; omega) (by omega) (by omega)) (by rw [t6, hT]; show T ≤ T + 6 + n; omega)
          rw [hnbs] at u1 u2
          refine ⟨?_, ?_, ?_, ?_, ?_, ?_, ?_⟩
          · unfold PM
            rw [nb', nt', i17]
            exact (k6 B (by omega)).trans c3
          · unfold PA
            rw [nb', nt']
            refine ⟨?_, (old _ (by omega) (by omega) (by unfold sT; omega) (by omega) (by omega)).trans x.1.2.1.2⟩
            rw [k6 _ (by omega), c4]
            congr 2
            unfold arQ
            apply List.map_congr_left
            intro u _
            show _ = if u < m + 1 then some ((if u = m then T else gB g u) + 2) else none
            by_cases q : u = m
            · simp [q]
            · by_cases q2 : u < m
              · simp [q, q2, show u < m + 1 by omega]
              · simp [q, q2, show ¬ u < m + 1 by omega]
          · obtain ⟨⟨wc, wm, y1⟩, y2, y3, y4, y5⟩ := x.1.2.2.1
            have ef : ∀ k, 5 ≤ k → k < 33 → k ≠ 11 → k ≠ 23 → τ.a k = σ.a k := fun k h1 h2 h3 h4 => funext fun j => ea k j h1 h2 h3 h4
            unfold PR
            rw [nr', ef 29 (by omega) (by omega) (by omega) (by omega), ef 30 (by omega) (by omega) (by omega) (by omega), ef 31 (by omega) (by omega) (by omega) (by omega), ef 32 (by omega) (by omega) (by omega) (by omega)]
            have od : ∀ k, 2 ≤ k → k < 8 → h6.1 (B + k) = h.1 (B + k) := fun k k1 k2 => old _ (by omega) (by omega) (by unfold sT; omega) (by omega) (by omega)
            exact ⟨⟨wc, wm, (od 3 (by omega) (by omega)).trans y1⟩, (od 4 (by omega) (by omega)).trans y2, (od 5 (by omega) (by omega)).trans y3, (od 6 (by omega) (by omega)).trans y4, (od 7 (by omega) (by omega)).trans y5⟩
          · rw [nb']
            intro b hb
            by_cases q : b = m
            · subst q
              obtain ⟨s', l', q', r1, r2, r3, r4, r5, r6, r7, r8⟩ := w.2.2.2.2.2.2.1 b (by omega)
              obtain ⟨d1, d2, d3⟩ := r8 (by rw [hnbs]; omega)
              unfold Br1
              rw [show gB ((fun b' => if b' = b then T else gB g b'), gC g, gT g, fun a => if a < T then gW g a else 3 * b) b = T by show (if b = b then T else gB g b) = T; rw [if_pos rfl], eL, eN, eC, f9, lwT_s alt]
              refine ⟨(k6 _ (by omega)).trans c6, ?_, (k6 _ (by omega)).trans c9, fun i hi => ?_, ?_, ?_⟩
              · rw [k6 _ (by omega), c5]
                congr 2
                exact arI_c (fun j hj => by rw [eS j hj])
              · rw [k6 _ (by omega), (c10 i hi).1]
                congr 2
                refine arL_c (fun a ha => ?_)
                show _ = τ.l 8 (5 * (61 * b + a) + i)
                rw [(c10 i hi).2 a (by omega), f8 a i (by omega) hi, rcT_s alt p0]
              · rw [k6 _ (by omega), c7]
                congr 2
                refine arI_c (fun j hj => ?_)
                match j, hj with
                | 0, _ => rw [ea 5 b (by omega) (by omega) (by omega) (by omega), r1, d1]; rfl
                | 1, _ => rw [ea 6 b (by omega) (by omega) (by omega) (by omega), r3, d2]; rfl
                | 2, _ => rw [ea 7 b (by omega) (by omega) (by omega) (by omega), r6, d3]; rfl
              · rw [k6 _ (by omega), c8]
                congr 2
            · exact (u1 b (by omega) (fun q => q)).tr (w.wb (by omega)).1 (hsl b (by omega))
          · rw [nb']
            intro b c hb hc
            by_cases q : b = m
            · subst q; rw [eC] at hc; omega
            · rw [(hsl b (by omega)).c] at hc
              exact (u2 b c (by omega) hc (fun q => q)).tr (w.wb (by omega)).1 hc (hsl b (by omega)) (hck b c)
          · rw [nt']
            exact fun u hu => (u3 u hu (fun q => q)).tr (te u)
          · unfold PO at u4 ⊢
            rw [hnbs] at u4
            rw [nb', nt']
            refine ⟨u4.1, fun b hb => ?_, fun b c hb hc => ?_, u4.2.2.2⟩
            · by_cases q : b = m
              · subst q
                rw [eN]
                show B + 72 ≤ (if b = b then T else gB g b) ∧ ∀ i, i < 6 + n → (if b = b then T else gB g b) + i < h6.2.1 ∧ (if (if b = b then T else gB g b) + i < T then gW g ((if b = b then T else gB g b) + i) else 3 * b) = 3 * b
                rw [if_pos rfl, t6]
                exact ⟨o0, fun i hi => ⟨by show T + i < T + 6 + n; omega, by rw [if_neg (by omega)]⟩⟩
              · rw [(hsl b (by omega)).n]; exact u4.2.1 b (by omega)
            · by_cases q : b = m
              · subst q; rw [eC] at hc; omega
              · rw [(hsl b (by omega)).c] at hc; exact u4.2.2.1 b c (by omega) hc
        · obtain ⟨q1, q2, q3, q4, q5, q6, q7, q8, q9, q10, q11, q12⟩ := x.2
          have q : ∀ lo hi, 2 ≤ lo → (hi ≤ 11 ∨ 18 ≤ lo) → hi ≤ 42 → Ag h h6 B lo hi := fun lo hi hl hh hh2 a a1 a2 => old a (by omega) (by omega) (by unfold sT; omega) (by omega) (by omega)
          obtain ⟨ρ, F, pr, A, p3, s3, g3⟩ := c2.ag (h' := h6) (fun a a1 a2 => k6 a (by omega))
          exact ⟨⟨_, _, _, _, s3⟩, q2.ag (q _ _ (by omega) (by omega) (by omega)), q3.ag (q _ _ (by omega) (by omega) (by omega)), q4.ag (q _ _ (by omega) (by omega) (by omega)), q5.ag (q _ _ (by omega) (by omega) (by omega)), q6.ag (q _ _ (by omega) (by omega) (by omega)), q7.ag (q _ _ (by omega) (by omega) (by omega)), q8.ag (q _ _ (by omega) (by omega) (by omega)), q9.ag (q _ _ (by omega) (by omega) (by omega)), q10.ag (q _ _ (by omega) (by omega) (by omega)), q11.ag (q _ _ (by omega) (by omega) (by omega)), q12.ag (q _ _ (by omega) (by omega) (by omega))⟩
