/-! road. -/
theorem isTown_e (v : Int32) (h : Hp) : pX10_isTown v h = some (bI (inB v 0 9), h) := by
  unfold pX10_isTown
  rw [bd_e (within_e _ _ _ h)]
  cases inB v 0 9 <;> rfl
theorem isTown_m (v : Int32) (h : Hp) : pX11_isTown v h = some (bI (inB v 0 9), h) := by
  have e1 : pX11_in v.toInt64 0 9 h = some (bI (inB v 0 9), h) := in_e v 0 9 h
  unfold pX11_isTown
  rw [bd_e e1]
  cases inB v 0 9 <;> rfl
theorem isMode_m (v : Int32) (h : Hp) : pX11_isMode v h = some (bI (inB v 0 2), h) := by
  have e1 : pX11_in v.toInt64 0 2 h = some (bI (inB v 0 2), h) := in_e v 0 2 h
  unfold pX11_isMode
  rw [bd_e e1]
  cases inB v 0 2 <;> rfl
/-- the roads' arrays -/
def Rds (h : Hp) (B n : Nat) (wc wm : Int32) (F T M O : Nat → Int32) : Prop := h.1 (B + 3) = some (ob 5 [vr (some (B + 4)), vr (some (B + 5)), vr (some (B + 6)), vr (some (B + 7)), vr (some (B + 8)), vi (nI n), vr (some (B + 9)), vr (some (B + 10)), vi wc, vi wm]) ∧ h.1 (B + 4) = some (ai 0 (arI 24 F)) ∧ h.1 (B + 5) = some (ai 0 (arI 24 T)) ∧ h.1 (B + 6) = some (ai 0 (arI 24 M)) ∧ h.1 (B + 7) = some (ai 0 (arI 24 O))
theorem lay_w {h : Hp} {B n : Nat} {wc wm v1 v2 v3 v4 : Int32} {F T M O : Nat → Int32} (x : Rds h B n wc wm F T M O) (hn : n < 24) {Q : Int32 → Hp → Prop} (q : ∀ h', Fr (fun y => B + 3 ≤ y ∧ y < B + 8) h h' → Rds h' B (n + 1) wc wm (fun y => if y = n then v1 else F y) (fun y => if y = n then v2 else T y) (fun y => if y = n then v3 else M y) (fun y => if y = n then v4 else O y) → Q 1 h') : WP (pX5_lay (B + 3) v1 v2 v3 v4) h Q := by
  obtain ⟨x0, x1, x2, x3, x4⟩ := x
  unfold pX5_lay
  refine wp_gI (k := 5) x0 rfl ?_
  rw [if_pos (show nI n < (24 : Int32) from nI_lt (b := 24) hn (by omega))]
  refine wp_gA (k := 0) x0 rfl (wp_gI (k := 5) x0 rfl ?_)
  refine wp_stI x1 rfl hn (by omega) ?_
  have f1 : Fr (fun y => B + 3 ≤ y ∧ y < B + 8) h (up h (B + 4) (ai 0 (arI 24 fun y => if y = n then v1 else F y))) := (Fr.rf _ h).put _ (by omega)
  have a1 := up_s h (B + 4) (ai 0 (arI 24 fun y => if y = n then v1 else F y))
  have ao : ∀ y, y ≠ B + 4 → (up h (B + 4) (ai 0 (arI 24 fun y => if y = n then v1 else F y))).1 y = h.1 y := fun y hy => up_n hy
  generalize up h (B + 4) (ai 0 (arI 24 fun y => if y = n then v1 else F y)) = h1 at f1 a1 ao ⊢
  have a0 := (ao (B + 3) (by omega)).trans x0
  refine wp_gA (k := 1) a0 rfl (wp_gI (k := 5) a0 rfl ?_)
  refine wp_stI ((ao (B + 5) (by omega)).trans x2) rfl hn (by omega) ?_
  have f2 : Fr (fun y => B + 3 ≤ y ∧ y < B + 8) h (up h1 (B + 5) (ai 0 (arI 24 fun y => if y = n then v2 else T y))) := f1.put _ (by omega)
  have b2 := up_s h1 (B + 5) (ai 0 (arI 24 fun y => if y = n then v2 else T y))
  have bo : ∀ y, y ≠ B + 5 → (up h1 (B + 5) (ai 0 (arI 24 fun y => if y = n then v2 else T y))).1 y = h1.1 y := fun y hy => up_n hy
  generalize up h1 (B + 5) (ai 0 (arI 24 fun y => if y = n then v2 else T y)) = h2 at f2 b2 bo ⊢
  have b0 := (bo (B + 3) (by omega)).trans a0
  refine wp_gA (k := 2) b0 rfl (wp_gI (k := 5) b0 rfl ?_)
  refine wp_stI ((bo (B + 6) (by omega)).trans ((ao (B + 6) (by omega)).trans x3)) rfl hn (by omega) ?_
  have f3 : Fr (fun y => B + 3 ≤ y ∧ y < B + 8) h (up h2 (B + 6) (ai 0 (arI 24 fun y => if y = n then v3 else M y))) := f2.put _ (by omega)
  have c3 := up_s h2 (B + 6) (ai 0 (arI 24 fun y => if y = n then v3 else M y))
  have co : ∀ y, y ≠ B + 6 → (up h2 (B + 6) (ai 0 (arI 24 fun y => if y = n then v3 else M y))).1 y = h2.1 y := fun y hy => up_n hy
  generalize up h2 (B + 6) (ai 0 (arI 24 fun y => if y = n then v3 else M y)) = h3 at f3 c3 co ⊢
  have c0 := (co (B + 3) (by omega)).trans b0
  refine wp_gA (k := 3) c0 rfl (wp_gI (k := 5) c0 rfl ?_)
  refine wp_stI ((co (B + 7) (by omega)).trans ((bo (B + 7) (by omega)).trans ((ao (B + 7) (by omega)).trans x4))) rfl hn (by omega) ?_
  have f4 : Fr (fun y => B + 3 ≤ y ∧ y < B + 8) h (up h3 (B + 7) (ai 0 (arI 24 fun y => if y = n then v4 else O y))) := f3.put _ (by omega)
  have d4 := up_s h3 (B + 7) (ai 0 (arI 24 fun y => if y = n then v4 else O y))
  have dob : ∀ y, y ≠ B + 7 → (up h3 (B + 7) (ai 0 (arI 24 fun y => if y = n then v4 else O y))).1 y = h3.1 y := fun y hy => up_n hy
  generalize up h3 (B + 7) (ai 0 (arI 24 fun y => if y = n then v4 else O y)) = h4 at f4 d4 dob ⊢
  have d0 := (dob (B + 3) (by omega)).trans c0
  refine wp_gI (k := 5) d0 rfl ?_
  refine wp_pF (k := 5) d0 (by simp) ?_
  rw [nI_1]
  refine wp_rnZ (Or.inr rfl) (q _ (f4.put _ (by omega)) ⟨up_s _ _ _, ?_, ?_, ?_, ?_⟩)
  · rw [up_n (by omega), dob _ (by omega), co _ (by omega), bo _ (by omega)]; exact a1
  · rw [up_n (by omega), dob _ (by omega), co _ (by omega)]; exact b2
  · rw [up_n (by omega), dob _ (by omega)]; exact c3
  · rw [up_n (by omega)]; exact d4
theorem road_s (B : Nat) (v1 v2 v3 v4 : Int32) : StC B (pX10_road B v1 v2 v3 v4) (pX11_road (B + 42) v1 v2 v3 v4) := by
  refine stp_bw (fun h g σ x w => ?_)
  have x1 := x.1.1
  have rf := FrC.rf B h
  have go : inB v1 0 9 = true → inB v2 0 9 = true → (v4 = -1 ∨ ∃ b, b < nbd σ ∧ v4 = nI b) → Bw B h h g σ (bX10_road_33 B v1 v2 v3 v4) (bX11_road_33 (B + 42) v1 v2 v3 v4) := by
    intro hf ht hb
    obtain ⟨f, f9, rfl⟩ := inB_le (n := 9) (by omega) hf
    obtain ⟨t, t9, rfl⟩ := inB_le (n := 9) (by omega) ht
    unfold bX10_road_33 bX11_road_33
    refine bw_in (lo := 1) (hi := 500) (fun _ => bw_rn x w rf) (fun hm => ?_)
    obtain ⟨m, m1, m5, rfl⟩ := inB_of2 (lo := 1) (hi := 500) (by omega) (by omega) hm
    by_cases eq : nI f = nI t
    · rw [if_pos eq, if_pos eq]
      exact bw_rn x w rf
    · rw [if_neg eq, if_neg eq]
      have ne : f ≠ t := fun q => eq (by rw [q])
      obtain ⟨wc, wm, y0⟩ := x.1.2.2.1.1
      have y := x.1.2.2.1.2
      have r24 := w.2.2.1.2
      by_cases full : nrd σ = 24
      · have el : pX5_lay (B + 3) (nI f) (nI t) (nI m) v4 h = some (0, h) := by
          unfold pX5_lay
          rw [bd_e (gI_e (k := 5) y0 rfl), full, if_neg (by decide)]
          rfl
        refine bw_eL (gA_e (k := 5) x1 rfl) (bw_eL (by rw [vc_e y0]; exact el) (bw_gI ?_))
        rw [if_pos (show (0 : Int32) = 0 from rfl), w.2.2.1.1, full, if_pos (show nI 24 = (24 : Int32) from rfl)]
        exact bw_rn x w rf
      · generalize hs : ((((σ.sa 29 (nrd σ) (nI f)).sa 30 (nrd σ) (nI t)).sa 31 (nrd σ) (nI m)).sa 32 (nrd σ) v4).si 28 (nI (nrd σ + 1)) = σ'
        have e29 : ∀ j, σ'.a 29 j = if j = nrd σ then nI f else σ.a 29 j := fun j => by rw [← hs]; simp [sa_a, si_a]
        have e30 : ∀ j, σ'.a 30 j = if j = nrd σ then nI t else σ.a 30 j := fun j => by rw [← hs]; simp [sa_a, si_a]
        have e31 : ∀ j, σ'.a 31 j = if j = nrd σ then nI m else σ.a 31 j := fun j => by rw [← hs]; simp [sa_a, si_a]
        have e32 : ∀ j, σ'.a 32 j = if j = nrd σ then v4 else σ.a 32 j := fun j => by rw [← hs]; simp [sa_a, si_a]
        have ea : ∀ k j, ¬ (29 ≤ k ∧ k ≤ 32) → σ'.a k j = σ.a k j := fun k j hk => by rw [← hs, si_a, sa_a, if_neg (by omega), sa_a, if_neg (by omega), sa_a, if_neg (by omega), sa_a, if_neg (by omega)]
        have ei : ∀ k, k ≠ 28 → σ'.i k = σ.i k := fun k hk => by rw [← hs, si_i, if_neg hk]; rfl
        have e28 : σ'.i 28 = nI (nrd σ + 1) := by rw [← hs, si_i, if_pos rfl]
        have el : σ'.2.2 = σ.2.2 := by rw [← hs]; rfl
        have sl : ∀ b, SlE σ σ' b := fun b => ⟨fun k hk => ea k b (by omega), fun k _ => ea 4 _ (by omega), fun a k _ _ => by show σ'.2.2 8 _ = _; rw [el]; rfl, by show σ'.2.2 9 _ = _; rw [el]; rfl⟩
        have ck : ∀ b c, CkE σ σ' b c := fun b c k hk => ea k _ (by omega)
        have nb : nbd σ' = nbd σ := by unfold nbd; rw [ei 0 (by omega)]
        have nt : ntd σ' = ntd σ := by unfold ntd; rw [ei 12 (by omega)]
        have nr : nrd σ' = nrd σ + 1 := nrd_n e28 (by omega)
        have te : ∀ u, TrE σ σ' u := fun u => ⟨ea 13 u (by omega), ea 16 u (by omega), fun k _ => ⟨ea 14 _ (by omega), ea 15 _ (by omega)⟩⟩
        refine ⟨nI (nrd σ), σ', g, ?_, ?_, ?_⟩
        · refine wp_gA (k := 5) x1 rfl ?_
          refine wp_bd (wp_vc y0 (lay_w (v1 := nI f) (v2 := nI t) (v3 := nI m) (v4 := v4) ⟨y0, y.1, y.2.1, y.2.2.1, y.2.2.2⟩ (by omega) (fun h2 f2 z2 => ?_)))
          rw [if_neg (show ¬ (1 : Int32) = 0 by decide)]
          refine wp_gA (k := 5) (f2.at x1 (by omega)) rfl ?_
          refine wp_gI (k := 5) z2.1 rfl ?_
          obtain ⟨u1, u2, u3, u4⟩ := PX.upd0 (h' := h2) (X := fun _ => False) w x.1 (fun a a1 _ _ => f2.2 a (by omega)) (by rw [f2.1]; exact Nat.le_refl _)
          refine wp_rn ⟨nI_pred _, ⟨⟨?_, ?_, ?_, ?_, ?_, ?_, ?_⟩, x.2.ag (fun a a1 a2 => f2.2 a (by omega))⟩, FrC.fr f2 (fun a ha => by omega)⟩
          · unfold PM; rw [nb, nt, ei 17 (by omega)]; exact f2.at x1 (by omega)
          · unfold PA; rw [nb, nt]; exact ⟨f2.at x.1.2.1.1 (by omega), f2.at x.1.2.1.2 (by omega)⟩
          · unfold PR
            rw [nr]
            refine ⟨⟨wc, wm, z2.1⟩, ?_, ?_, ?_, ?_⟩
            · rw [z2.2.1]; congr 2; exact arI_c (fun j _ => (e29 j).symm)
            · rw [z2.2.2.1]; congr 2; exact arI_c (fun j _ => (e30 j).symm)
            · rw [z2.2.2.2.1]; congr 2; exact arI_c (fun j _ => (e31 j).symm)
            · rw [z2.2.2.2.2]; congr 2; exact arI_c (fun j _ => (e32 j).symm)
          · rw [nb]; exact fun b hb => (u1 b hb (fun q => q)).tr (w.wb hb).1 (sl b)
          · rw [nb]
            intro b c hb hc
            rw [(sl b).c] at hc
            exact (u2 b c hb hc (fun q => q)).tr (w.wb hb).1 hc (sl b) (ck b c)
          · rw [nt]; exact fun u hu => (u3 u hu (fun q => q)).tr (te u)
          · unfold PO at u4 ⊢
            rw [nb, nt]
            refine ⟨u4.1, fun b hb => ?_, fun b c hb hc => ?_, u4.2.2.2⟩
            · rw [(sl b).n]; exact u4.2.1 b hb
            · rw [(sl b).c] at hc; exact u4.2.2.1 b c hb hc
        · refine rm_gI ?_
          rw [w.2.2.1.1, if_neg (show ¬ nI (nrd σ) = (24 : Int32) from fun q => full ((nI_eq (a := nrd σ) (b := 24) (by omega) (by omega)).mp q))]
          refine rm_gA (rm_gI ?_)
          rw [w.2.2.1.1]
          refine rm_stI (nrd σ) rfl (by show _ < 24; omega) (rm_gA (rm_gI ?_))
          rw [show (σ.sa 29 (nrd σ) (nI f)).i 28 = nI (nrd σ) from w.2.2.1.1]
          refine rm_stI (nrd σ) rfl (by show _ < 24; omega) (rm_gA (rm_gI ?_))
          rw [show ((σ.sa 29 (nrd σ) (nI f)).sa 30 (nrd σ) (nI t)).i 28 = nI (nrd σ) from w.2.2.1.1]
          refine rm_stI (nrd σ) rfl (by show _ < 24; omega) (rm_gA (rm_gI ?_))
          rw [show (((σ.sa 29 (nrd σ) (nI f)).sa 30 (nrd σ) (nI t)).sa 31 (nrd σ) (nI m)).i 28 = nI (nrd σ) from w.2.2.1.1]
          refine rm_stI (nrd σ) rfl (by show _ < 24; omega) (rm_gI ?_)
          rw [show ((((σ.sa 29 (nrd σ) (nI f)).sa 30 (nrd σ) (nI t)).sa 31 (nrd σ) (nI m)).sa 32 (nrd σ) v4).i 28 = nI (nrd σ) from w.2.2.1.1, nI_1]
          refine rm_pI ?_
          rw [hs]
          refine rm_gI ?_
          rw [e28, nI_pred]
          exact rm_rn ⟨rfl, SmE.rf _⟩
        · obtain ⟨p1, p2, p3, p4, p5, p6, p7, p8, p9⟩ := w
          unfold WF
          rw [nb, nt, nr, ei 0 (by omega), ei 12 (by omega), e28, ei 17 (by omega)]
          refine ⟨p1, p2, ⟨rfl, by omega⟩, ⟨(ei 20 (by omega)).trans p4.1, (ei 18 (by omega)).trans p4.2.1, (ei 19 (by omega)).trans p4.2.2⟩, p5, fun b hb => (p6 b hb).tr (sl b) (fun c _ => ck b c), fun b hb => ?_, fun u hu => (p8 u hu).tr (te u), fun r hr => ?_⟩
          · unfold WFr
            rw [ea 5 b (by omega), ea 6 b (by omega), ea 7 b (by omega), nb]
            exact p7 b hb
          · unfold WFo
            rw [e29, e30, e31, e32, nb]
            by_cases q : r = nrd σ
            · simp only [if_pos q]
              exact ⟨f, t, m, rfl, by omega, rfl, by omega, ne, rfl, m1, m5, hb⟩
            · simp only [if_neg q]
              exact p9 r (by omega)
  unfold pX10_road pX11_road
  refine bw_eL (isTown_e v1 h) (bw_eR (ro_of (isTown_m v1)) ?_)
  cases h1 : inB v1 0 9
  · rw [if_pos (show bI false = 0 from rfl), if_pos (show bI false = 0 from rfl)]
    exact bw_rn x w rf
  · rw [if_neg (show ¬ bI true = 0 by decide), if_neg (show ¬ bI true = 0 by decide)]
    refine bw_eL (isTown_e v2 h) (bw_eR (ro_of (isTown_m v2)) ?_)
    cases h2 : inB v2 0 9
    · rw [if_pos (show bI false = 0 from rfl), if_pos (show bI false = 0 from rfl)]
      exact bw_rn x w rf
    · rw [if_neg (show ¬ bI true = 0 by decide), if_neg (show ¬ bI true = 0 by decide)]
      by_cases c : v4 = -1
      · rw [if_pos c, if_pos c]
        exact go h1 h2 (Or.inl c)
      · rw [if_neg c, if_neg c]
        rcases brAt x w v4 with ⟨hi, e⟩ | ⟨hi, b, hb, rfl, e⟩
        · refine bw_eL (by rw [vc_e x1]; exact e) (bw_eR (ro_vc (noBridge_r v4)) ?_)
          rw [if_pos (show (none : Option Nat) = none from rfl), hi, if_neg (show ¬ bI (!false) = 0 by decide)]
          exact bw_rn x w rf
        · refine bw_eL (by rw [vc_e x1]; exact e) (bw_eR (ro_vc (noBridge_r _)) ?_)
          rw [if_neg (show ¬ (some (gB g b + 2) = none) by simp), hi, if_pos (show bI (!true) = 0 from rfl)]
          exact go h1 h2 (Or.inr ⟨b, hb, rfl⟩)
