/-! Least terms; trains as both sides see them. -/
theorem oL_add (x y : Int) : oL x + oL y = oL (x + y) := (Int64.ofInt_add x y).symm
theorem oL_sub (x y : Int) : oL x - oL y = oL (x - y) := (Int64.ofInt_sub x y).symm
theorem oL_mul (x y : Int) : oL x * oL y = oL (x * y) := (Int64.ofInt_mul x y).symm
theorem rm_n {x y : Nat} (hx : x < 2 ^ 63) (hy : y < 2 ^ 63) (h0 : y ≠ 0) (h : Hp) : rmL (oL x) (oL y) h = some (oL ((x % y : Nat) : Int), h) := by
  rw [rmL_e (fun z => h0 (by have := (oL_0 (z := (y : Int)) (by omega)).mp z; omega)), oL_dv (by omega) (by omega), oL_mul, oL_sub]
  congr 2
  congr 1
  have e : ((x : Int).tdiv (y : Int)) = ((x / y : Nat) : Int) := by
    rw [Int.tdiv_eq_ediv_of_nonneg (by omega)]
    rfl
  rw [e]
  have := Nat.div_add_mod x y
  have : ((x / y : Nat) : Int) * (y : Int) = ((y * (x / y) : Nat) : Int) := by rw [Nat.mul_comm]; simp
  rw [this]
  omega
theorem gcd_ref : ∀ (m x y f : Nat) (h : Hp), y < 2 ^ m → x < 2 ^ 63 → m ≤ 63 → 2 * m + 1 ≤ f → fX11_gcd_12 f (oL x) (oL y) h = some (oL ((Nat.gcd x y : Nat) : Int), h)
  | m, x, y, 0, h, h1, h2, h3, h4 => by omega
  | m, x, y, f + 1, h, h1, h2, h3, h4 => by
    have p63 := Nat.pow_le_pow_right (n := 2) (by omega) h3
    show bX11_gcd_12 (fX11_gcd_12 f) (oL x) (oL y) h = _
    unfold bX11_gcd_12
    by_cases y0 : y = 0
    · subst y0
      rw [if_pos (show oL ((0 : Nat) : Int) = 0 from rfl), Nat.gcd_zero_right]
      rfl
    · rw [if_neg (fun z => y0 (by have := (oL_0 (z := (y : Int)) (by omega)).mp z; omega)), bd_e (rm_n h2 (by omega) y0 h)]
      have r1 := Nat.mod_lt x (Nat.pos_of_ne_zero y0)
      rw [Nat.gcd_comm, Nat.gcd_rec, Nat.gcd_comm]
      match m, h1, h3, h4, p63 with
      | 0, h1, _, _, _ => omega
      | m + 1, h1, h3, h4, p63 =>
        obtain ⟨f, rfl⟩ : ∃ z, f = z + 1 := ⟨f - 1, by omega⟩
        show bX11_gcd_12 (fX11_gcd_12 f) (oL y) (oL ((x % y : Nat) : Int)) h = _
        unfold bX11_gcd_12
        by_cases r0 : x % y = 0
        · rw [r0, if_pos (show oL ((0 : Nat) : Int) = 0 from rfl), Nat.gcd_zero_right]
          rfl
        · rw [if_neg (fun z => r0 (by have := (oL_0 (z := ((x % y : Nat) : Int)) (by omega)).mp z; omega)), bd_e (rm_n (by omega) (by omega) r0 h)]
          have r2 := Nat.mod_lt y (Nat.pos_of_ne_zero r0)
          have r3 := Nat.div_add_mod y (x % y)
          have q1 : 1 ≤ y / (x % y) := (Nat.one_le_div_iff (Nat.pos_of_ne_zero r0)).mpr (by omega)
          have q2 := Nat.mul_le_mul_left (x % y) q1
          have p2 : 2 ^ (m + 1) = 2 * 2 ^ m := by rw [Nat.pow_succ]; omega
          rw [gcd_ref m (x % y) (y % (x % y)) f h (by omega) (by omega) (by omega) (by omega)]
          rw [Nat.gcd_comm y, Nat.gcd_rec (x % y) y, Nat.gcd_comm]
theorem gcd_cls : ∀ (m x y s f : Nat) (h : Hp), y < 2 ^ m → x < 2 ^ 63 → m ≤ 63 → s + 2 * m + 1 ≤ 200 → 2 * m + 1 ≤ f → fX10_commonDivisor_9 f (oL x) (oL y) (nI s) h = some (oL ((Nat.gcd x y : Nat) : Int), h)
  | m, x, y, s, 0, h, h1, h2, h3, h4, h5 => by omega
  | m, x, y, s, f + 1, h, h1, h2, h3, h4, h5 => by
    have p63 := Nat.pow_le_pow_right (n := 2) (by omega) h3
    show bX10_commonDivisor_9 (fX10_commonDivisor_9 f) (oL x) (oL y) (nI s) h = _
    unfold bX10_commonDivisor_9
    rw [if_neg (show ¬ (200 : Int32) ≤ nI s from nI_ge (b := 200) (by omega) (by omega))]
    by_cases y0 : y = 0
    · subst y0
      rw [if_pos (show oL ((0 : Nat) : Int) = 0 from rfl), Nat.gcd_zero_right]
      rfl
    · rw [if_neg (fun z => y0 (by have := (oL_0 (z := (y : Int)) (by omega)).mp z; omega)), bd_e (rm_n h2 (by omega) y0 h), nI_1]
      have r1 := Nat.mod_lt x (Nat.pos_of_ne_zero y0)
      rw [Nat.gcd_comm, Nat.gcd_rec, Nat.gcd_comm]
      match m, h1, h3, h4, h5, p63 with
      | 0, h1, _, _, _, _ => omega
      | m + 1, h1, h3, h4, h5, p63 =>
        obtain ⟨f, rfl⟩ : ∃ z, f = z + 1 := ⟨f - 1, by omega⟩
        show bX10_commonDivisor_9 (fX10_commonDivisor_9 f) (oL y) (oL ((x % y : Nat) : Int)) (nI (s + 1)) h = _
        unfold bX10_commonDivisor_9
        rw [if_neg (show ¬ (200 : Int32) ≤ nI (s + 1) from nI_ge (b := 200) (by omega) (by omega))]
        by_cases r0 : x % y = 0
        · rw [r0, if_pos (show oL ((0 : Nat) : Int) = 0 from rfl), Nat.gcd_zero_right]
          rfl
        · rw [if_neg (fun z => r0 (by have := (oL_0 (z := ((x % y : Nat) : Int)) (by omega)).mp z; omega)), bd_e (rm_n (by omega) (by omega) r0 h), nI_1]
          have r2 := Nat.mod_lt y (Nat.pos_of_ne_zero r0)
          have r3 := Nat.div_add_mod y (x % y)
          have q1 : 1 ≤ y / (x % y) := (Nat.one_le_div_iff (Nat.pos_of_ne_zero r0)).mpr (by omega)
          have q2 := Nat.mul_le_mul_left (x % y) q1
          have p2 : 2 ^ (m + 1) = 2 * 2 ^ m := by rw [Nat.pow_succ]; omega
          rw [gcd_cls m (x % y) (y % (x % y)) (s + 1 + 1) f h (by omega) (by omega) (by omega) (by omega) (by omega)]
          rw [Nat.gcd_comm y, Nat.gcd_rec (x % y) y, Nat.gcd_comm]
/-- a part of a fraction in least terms -/
def ptV (u lo : Int64) (what : Int32) : Int64 := (if what = 0 then u else lo) / oL ((Nat.gcd u.toInt.natAbs lo.toInt.natAbs : Nat) : Int)
/-- no long's least, and above 0 -/
def Fra (u lo : Int64) : Prop := ∃ z p : Int, u = oL z ∧ z.natAbs < 2 ^ 63 ∧ lo = oL p ∧ 0 < p ∧ p < 2 ^ 63
theorem part_ref {u lo : Int64} (F : Fra u lo) (what : Int32) (h : Hp) : pX11_part u lo what h = some (ptV u lo what, h) := by
  obtain ⟨z, p, rfl, hz, rfl, hp, hp2⟩ := F
  have e1 : (if 0 ≤ oL z then oL z else - oL z) = oL (z.natAbs : Int) := sz_o hz
  have e2 : (if 0 ≤ oL p then oL p else - oL p) = oL (p.natAbs : Int) := sz_o (by omega)
  have g0 : Nat.gcd z.natAbs p.natAbs ≠ 0 := by
    intro q
    have := (Nat.gcd_eq_zero_iff.mp q).2
    omega
  have gl : Nat.gcd z.natAbs p.natAbs ≤ p.natAbs := Nat.gcd_le_right _ (by omega)
  have gn : ¬ oL ((Nat.gcd z.natAbs p.natAbs : Nat) : Int) = 0 := fun q => g0 (by have := (oL_0 (z := ((Nat.gcd z.natAbs p.natAbs : Nat) : Int)) (by omega)).mp q; omega)
  unfold pX11_part pX11_gcd ptV
  rw [oL_toInt hz, oL_toInt (by omega)]
  rw [bd_e (r := oL ((Nat.gcd z.natAbs p.natAbs : Nat) : Int)) (h' := h) (by
    rw [bd_e (size_e _ h), bd_e (size_e _ h), e1, e2]
    exact gcd_ref 63 z.natAbs p.natAbs FU h (by omega) hz (by omega) (by unfold FU; omega))]
  by_cases c : what = 0
  · rw [if_pos c, if_pos c, bd_e (dvL_e gn)]; rfl
  · rw [if_neg c, if_neg c, bd_e (dvL_e gn)]; rfl
theorem part_cls {u lo : Int64} (F : Fra u lo) (what : Int32) (h : Hp) : pX10_partOf u lo what h = some (ptV u lo what, h) := by
  obtain ⟨z, p, rfl, hz, rfl, hp, hp2⟩ := F
  have e1 : abL (oL z) = oL (z.natAbs : Int) := by
    unfold abL
    by_cases c : 0 < oL z
    · rw [if_pos c]
      rw [Int64.lt_iff_toInt_lt, oL_toInt hz, Int64.toInt_zero] at c
      congr 1
      omega
    · rw [if_neg c]
      rw [Int64.lt_iff_toInt_lt, oL_toInt hz, Int64.toInt_zero] at c
      unfold oL
      rw [← Int64.ofInt_neg]
      congr 1
      omega
  have g0 : Nat.gcd z.natAbs p.natAbs ≠ 0 := by
    intro q
    have := (Nat.gcd_eq_zero_iff.mp q).2
    omega
  have gl : Nat.gcd z.natAbs p.natAbs ≤ p.natAbs := Nat.gcd_le_right _ (by omega)
  have gn : ¬ oL ((Nat.gcd z.natAbs p.natAbs : Nat) : Int) = 0 := fun q => g0 (by have := (oL_0 (z := ((Nat.gcd z.natAbs p.natAbs : Nat) : Int)) (by omega)).mp q; omega)
  have ep : (p.natAbs : Int) = p := by omega
  unfold pX10_partOf pX10_commonDivisor ptV
  rw [oL_toInt hz, oL_toInt (by omega)]
  rw [bd_e (r := oL ((Nat.gcd z.natAbs p.natAbs : Nat) : Int)) (h' := h) (by
    rw [e1]
    have := gcd_cls 63 z.natAbs p.natAbs 0 FU h (by omega) hz (by omega) (by omega) (by unfold FU; omega)
    rw [ep] at this
    exact this), if_neg gn]
  by_cases c : what = 0
  · rw [if_pos c, if_pos c]; unfold bX10_partOf_29; rw [bd_e (dvL_e gn)]; rfl
  · rw [if_neg c, if_neg c]; unfold bX10_partOf_29; rw [bd_e (dvL_e gn)]; rfl
/-! trains -/
theorem Trn.cg {h : Hp} {t w g n : Nat} {r : Int32} {W G G' : Nat → Int32} (x : Trn h t w g n r W G) (e : ∀ k, k < 8 → G k = G' k) : Trn h t w g n r W G' := ⟨x.1, x.2.1, by rw [x.2.2, arI_c e]⟩
theorem trV {h : Hp} {g : Gh} {σ : MS} {t : Nat} (x : Tr1 h g σ t) (w : WFt σ t) : ∃ (W : Nat → Int32) (gn : Nat → Nat), Trn h (gT g t) (gT g t + 1) (gT g t + 2) (nad σ t) (σ.a 16 t) W (fun k => nI (gn k)) ∧ (∀ k, k < nad σ t → W k = σ.a 14 (8 * t + k)) ∧ ∀ k, k < nad σ t → gn k = gnd σ t k := by
  obtain ⟨W, gn, x1, x2⟩ := x
  refine ⟨W, fun k => if k < nad σ t then gnd σ t k else gn k, x1.cg (fun k _ => ?_), fun k hk => (x2 k hk).1, fun k hk => by simp [hk]⟩
  by_cases c : k < nad σ t
  · simp only [if_pos c]
    rw [(x2 k c).2, ← (w.2.2.2.1 k c).1]
  · simp only [if_neg c]
theorem bhN_c {f g : Nat → Nat} : ∀ n, (∀ k, k < n → f k = g k) → bhN f n = bhN g n
  | 0, _ => rfl
  | n + 1, h => by rw [bhN, bhN, bhN_c n (fun k hk => h k (by omega)), h n (by omega)]
theorem bhN_le {f : Nat → Nat} {m : Nat} : ∀ n, (∀ k, k < n → f k ≤ m) → bhN f n ≤ n * m
  | 0, _ => by simp [bhN]
  | n + 1, h => by
    have := bhN_le n (fun k hk => h k (by omega))
    have := h n (by omega)
    rw [bhN, Nat.succ_mul]
    omega
theorem ag_e {σ : MS} {t : Nat} {gn : Nat → Nat} : ∀ n, (∀ k, k < n → gpM σ t k = nI (gn k)) → agM σ t n = nI (bhN gn n)
  | 0, _ => rfl
  | n + 1, h => by rw [agM, bhN, ag_e n (fun k hk => h k (by omega)), h n (by omega), nI_add]
theorem nI_nm1 {t : Nat} (ht : t < 2 ^ 31) : nI t ≠ -1 := by
  intro e
  have := congrArg Int32.toInt e
  rw [nI_toInt ht] at this
  have e2 : (-1 : Int32).toInt = -1 := by decide
  omega
/-- a train that is not scaled -/
theorem gp_e {σ : MS} {t : Nat} (ht : t < 8) (w : WFt σ t) (hn : ¬ nI t = σ.i 20) {k : Nat} (hk : k < nad σ t) : gpM σ t k = nI (gnd σ t k) := by
  unfold gpM
  by_cases k0 : k = 0
  · subst k0
    rw [if_pos rfl, w.2.2.2.2.1]
    rfl
  · rw [if_neg k0, if_neg hn, (w.2.2.2.1 k hk).1, Int32.add_zero]
theorem wt_e {σ : MS} {t : Nat} (hn : ¬ nI t = σ.i 20) (k : Nat) : wtM σ t k = σ.a 14 (8 * t + k) := by unfold wtM; rw [if_neg hn]
theorem gnd_le {σ : MS} {t : Nat} (w : WFt σ t) : bhN (gnd σ t) (nad σ t) ≤ 140 := by
  obtain ⟨w1, w2, w3, w4, w5, w6⟩ := w
  have : ∀ m, m ≤ nad σ t → 1 ≤ m → bhN (gnd σ t) m ≤ (m - 1) * 20 := by
    intro m
    induction m with
    | zero => intro _ h; omega
    | succ m ih =>
      intro hm _
      by_cases c : m = 0
      · subst c; simp [bhN, w5]
      · have := ih (by omega) (by omega)
        have := (w4 m (by omega)).2
        rw [bhN]
        omega
  have := this (nad σ t) (Nat.le_refl _) w2.1
  omega
theorem WF.tr {σ : MS} (w : WF σ) {t : Nat} (ht : t < ntd σ) : t < 8 ∧ WFt σ t ∧ ¬ nI t = σ.i 20 ∧ WT σ t ∧ agd σ t = bhN (gnd σ t) (nad σ t) := by
  have t8 := w.2.1.2
  have wt := w.2.2.2.2.2.2.2.1 t ht
  have hn : ¬ nI t = σ.i 20 := by rw [w.2.2.2.1.1]; exact nI_nm1 (by omega)
  have e := ag_e (σ := σ) (t := t) (nad σ t) (fun k hk => gp_e (by omega) wt hn hk)
  have le := gnd_le wt
  have ea : agd σ t = bhN (gnd σ t) (nad σ t) := by unfold agd; rw [e, nI_clamp (by omega)]
  exact ⟨by omega, wt, hn, ⟨by omega, wt.1, wt.2.1.2, by rw [ea]; exact e, by rw [ea]; omega⟩, ea⟩
theorem WF.wb {σ : MS} (w : WF σ) {b : Nat} (hb : b < nbd σ) : WFb σ b ∧ WB σ b := by
  have wb := w.2.2.2.2.2.1 b hb
  have := w.1.2
  exact ⟨wb, by omega, wb.1, wb.2.1.2, wb.2.2.1, wb.n.2⟩
/-- what both see of the effects -/
theorem eff_e {σ : MS} (w : WF σ) {b t j x : Nat} {kind way : Int32} {W : Nat → Int32} {gn : Nat → Nat} {lf : Nat → Int64} (hb : b < nbd σ) (ht : t < ntd σ) (hj : j ≤ 2000) (hW : ∀ k, k < nad σ t → W k = σ.a 14 (8 * t + k)) (hg : ∀ k, k < nad σ t → gn k = gnd σ t k) (hl : ∀ a, a ≤ Ld σ b → lf a = infM σ b kind x a (nsd σ b)) : effM σ b kind x (Ld σ b) (nsd σ b) t way (nad σ t) (nI j) = cS (Ld σ b) W lf (bhW gn (nad σ t) way) j (nad σ t) := by
  obtain ⟨t8, wt, hn, _, _⟩ := w.tr ht
  obtain ⟨wb, _⟩ := w.wb hb
  have le := gnd_le wt
  rw [effM_e (gn := gnd σ t) wb.2.1.2 wt.2.1.2 (by have := wt.2.1.1; omega) (fun k hk => gp_e t8 wt hn hk) wt.2.2.2.2.1 (by omega) hj]
  refine cS_c _ (fun i hi => ⟨by rw [wt_e hn, hW i hi], ?_⟩) (fun a ha => (hl a ha).symm)
  unfold bhW
  rw [bhN_c (nad σ t) hg, bhN_c (i + 1) (fun k hk => hg k (by omega))]
