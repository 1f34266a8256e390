/-! axle, train, rule, limit, check. -/
theorem couple_w {h : Hp} {t n : Nat} {r v1 v2 : Int32} {W G : Nat → Int32} (x : Trn h t (t + 1) (t + 2) n r W G) (hn : n < 8) {Q : Int32 → Hp → Prop} (q : ∀ h', Fr (fun y => t ≤ y ∧ y < t + 3) h h' → Trn h' t (t + 1) (t + 2) (n + 1) r (fun y => if y = n then v2 else W y) (fun y => if y = n then v1 else G y) → Q 1 h') : WP (pX8_couple t v1 v2) h Q := by
  obtain ⟨x1, x2, x3⟩ := x
  unfold pX8_couple
  refine wp_gI (k := 2) x1 rfl ?_
  rw [if_pos (show nI n < (8 : Int32) from nI_lt (b := 8) hn (by omega))]
  refine wp_gA (k := 1) x1 rfl ?_
  refine wp_gI (k := 2) x1 rfl ?_
  refine wp_stI x3 rfl hn (by omega) ?_
  have f1 : Fr (fun y => t ≤ y ∧ y < t + 3) h (up h (t + 2) (ai 0 (arI 8 fun y => if y = n then v1 else G y))) := (Fr.rf _ h).put _ (by omega)
  have a1 := (up_n (h := h) (a := t + 2) (b := t) (c := ai 0 (arI 8 fun y => if y = n then v1 else G y)) (by omega)).trans x1
  have a2 := (up_n (h := h) (a := t + 2) (b := t + 1) (c := ai 0 (arI 8 fun y => if y = n then v1 else G y)) (by omega)).trans x2
  have a3 := up_s h (t + 2) (ai 0 (arI 8 fun y => if y = n then v1 else G y))
  generalize up h (t + 2) (ai 0 (arI 8 fun y => if y = n then v1 else G y)) = h1 at f1 a1 a2 a3 ⊢
  refine wp_gA (k := 0) a1 rfl ?_
  refine wp_gI (k := 2) a1 rfl ?_
  refine wp_stI a2 rfl hn (by omega) ?_
  have f2 : Fr (fun y => t ≤ y ∧ y < t + 3) h (up h1 (t + 1) (ai 0 (arI 8 fun y => if y = n then v2 else W y))) := f1.put _ (by omega)
  have b1 := (up_n (h := h1) (a := t + 1) (b := t) (c := ai 0 (arI 8 fun y => if y = n then v2 else W y)) (by omega)).trans a1
  have b2 := up_s h1 (t + 1) (ai 0 (arI 8 fun y => if y = n then v2 else W y))
  have b3 := (up_n (h := h1) (a := t + 1) (b := t + 2) (c := ai 0 (arI 8 fun y => if y = n then v2 else W y)) (by omega)).trans a3
  generalize up h1 (t + 1) (ai 0 (arI 8 fun y => if y = n then v2 else W y)) = h2 at f2 b1 b2 b3 ⊢
  refine wp_gI (k := 2) b1 rfl ?_
  refine wp_pF (k := 2) b1 (by simp) ?_
  rw [nI_1]
  refine wp_rnZ (Or.inr rfl) (q _ (f2.put _ (by omega)) ⟨up_s _ _ _, (up_n (by omega)).trans b2, (up_n (by omega)).trans b3⟩)
theorem axle_s (B : Nat) (v1 v2 v3 : Int32) : StC B (pX10_axle B v1 v2 v3) (pX11_axle (B + 42) v1 v2 v3) := by
  refine stp_g (fun h g σ x w => ?_)
  have x1 := x.1.1
  have out : ∀ (r : Int32) (P P' : Mo Int32), P = rn r → P' = rn r → ∃ r σ' g', WP P h (fun r' h' => r' = r ∧ IX h' B g' σ' ∧ FrC B h h') ∧ RM (B + 42) P' σ (fun r' τ => r' = r ∧ SmE σ' τ) ∧ WF σ' := by
    intro r P P' e e'
    subst e e'
    exact ⟨r, σ, g, wp_rn ⟨rfl, x, FrC.rf B h⟩, rm_rn ⟨rfl, SmE.rf σ⟩, w⟩
  unfold pX10_axle pX11_axle
  rcases trAt x w v1 with ⟨hi, e⟩ | ⟨hi, t, ht, rfl, e⟩
  · refine ⟨-1001, σ, g, wp_e (by rw [vc_e x1]; exact e) ?_, rm_ro (ro_vc (noTrain_r v1)) ?_, w⟩
    · rw [if_pos rfl]; exact wp_rn ⟨rfl, x, FrC.rf B h⟩
    · rw [hi]; exact rm_rn ⟨rfl, SmE.rf σ⟩
  · have w8 := w.2.1.2
    obtain ⟨t8, wt, hn, _, _⟩ := w.tr ht
    have n8 := wt.2.1
    cases hg : inB v2 1 20
    · refine ⟨-1002, σ, g, wp_e (by rw [vc_e x1]; exact e) ?_, rm_ro (ro_vc (noTrain_r _)) ?_, w⟩
      · rw [if_neg (by simp)]
        refine wp_e (within_e _ _ _ h) ?_
        rw [hg, if_pos (by rfl)]
        exact wp_rn ⟨rfl, x, FrC.rf B h⟩
      · rw [hi, if_pos (show bI (!true) = 0 from rfl)]
        refine rm_eq (in_e v2 1 20) ?_
        rw [hg, if_pos (by rfl)]
        exact rm_rn ⟨rfl, SmE.rf σ⟩
    · cases hw : inB v3 1 200
      · refine ⟨-1002, σ, g, wp_e (by rw [vc_e x1]; exact e) ?_, rm_ro (ro_vc (noTrain_r _)) ?_, w⟩
        · rw [if_neg (by simp)]
          refine wp_e (within_e _ _ _ h) ?_
          rw [hg, if_neg (by decide)]
          refine wp_e (within_e _ _ _ h) ?_
          rw [hw, if_pos (by rfl)]
          exact wp_rn ⟨rfl, x, FrC.rf B h⟩
        · rw [hi, if_pos (show bI (!true) = 0 from rfl)]
          refine rm_eq (in_e v2 1 20) ?_
          rw [hg, if_neg (by decide)]
          refine rm_eq (in_e v3 1 200) ?_
          rw [hw, if_pos (by rfl)]
          exact rm_rn ⟨rfl, SmE.rf σ⟩
      · obtain ⟨gp, g1, g2, rfl⟩ := inB_of2 (lo := 1) (hi := 20) (by omega) (by omega) hg
        obtain ⟨wg, w1, w2, rfl⟩ := inB_of2 (lo := 1) (hi := 200) (by omega) (by omega) hw
        by_cases full : nad σ t = 8
        · refine ⟨-1004, σ, g, wp_e (by rw [vc_e x1]; exact e) ?_, rm_ro (ro_vc (noTrain_r _)) ?_, w⟩
          · rw [if_neg (by simp)]
            refine wp_e (within_e _ _ _ h) ?_
            rw [hg, if_neg (by decide)]
            refine wp_e (within_e _ _ _ h) ?_
            rw [hw, if_neg (by decide)]
            obtain ⟨W, gn, t1, t2⟩ := x.1.2.2.2.2.2.1 t ht
            have ec : pX8_couple (gT g t) (nI gp) (nI wg) h = some (0, h) := by
              unfold pX8_couple
              rw [bd_e (gI_e (k := 2) t1.1 rfl), full, if_neg (by decide)]
              rfl
            refine wp_e (by rw [vc_e t1.1]; exact ec) ?_
            rw [if_pos rfl]
            exact wp_rn ⟨rfl, x, FrC.rf B h⟩
          · rw [hi, if_pos (show bI (!true) = 0 from rfl)]
            refine rm_eq (in_e (nI gp) 1 20) ?_
            rw [hg, if_neg (by decide)]
            refine rm_eq (in_e (nI wg) 1 200) ?_
            rw [hw, if_neg (by decide)]
            refine rm_gA (rm_ldI t rfl (by show _ < 8; omega) ?_)
            rw [wt.1, full, if_pos (by rfl)]
            exact rm_rn ⟨rfl, SmE.rf σ⟩
        · obtain ⟨o1, o2⟩ := x.1.2.2.2.2.2.2.2.2.2 t ht
          generalize hs : ((σ.sa 14 (8 * t + nad σ t) (nI wg)).sa 15 (8 * t + nad σ t) (nI gp)).sa 13 t (nI (nad σ t + 1)) = σ'
          have e13 : ∀ u, σ'.a 13 u = if u = t then nI (nad σ t + 1) else σ.a 13 u := fun u => by rw [← hs]; simp [sa_a]
          have e14 : ∀ j, σ'.a 14 j = if j = 8 * t + nad σ t then nI wg else σ.a 14 j := fun j => by rw [← hs]; simp [sa_a]
          have e15 : ∀ j, σ'.a 15 j = if j = 8 * t + nad σ t then nI gp else σ.a 15 j := fun j => by rw [← hs]; simp [sa_a]
          have e16 : ∀ j, σ'.a 16 j = σ.a 16 j := fun j => by rw [← hs]; simp [sa_a]
          have ea : ∀ k j, ¬ (13 ≤ k ∧ k ≤ 16) → σ'.a k j = σ.a k j := fun k j hk => by rw [← hs, sa_a, if_neg (by omega), sa_a, if_neg (by omega), sa_a, if_neg (by omega)]
          have ei : σ'.1 = σ.1 := by rw [← hs]; rfl
          have el : σ'.2.2 = σ.2.2 := by rw [← hs]; rfl
          have nad' : nad σ' t = nad σ t + 1 := by show (σ'.a 13 t).toNatClampNeg = _; rw [e13, if_pos rfl, nI_clamp (by omega)]
          have et : ∀ u, u < ntd σ → u ≠ t → TrE σ σ' u := by
            intro u hu hut
            have nu := (w.tr hu).2.1.2.1
            refine ⟨by rw [e13, if_neg hut], e16 u, fun k hk => ⟨?_, ?_⟩⟩
            · rw [e14, if_neg (by omega)]
            · rw [e15, if_neg (by omega)]
          refine ⟨nI (nad σ t + 1), σ', g, wp_e (by rw [vc_e x1]; exact e) ?_, rm_ro (ro_vc (noTrain_r _)) ?_, ?_⟩
          · rw [if_neg (by simp)]
            refine wp_e (within_e _ _ _ h) ?_
            rw [hg, if_neg (by decide)]
            refine wp_e (within_e _ _ _ h) ?_
            rw [hw, if_neg (by decide)]
            obtain ⟨W, gn, t1, t2⟩ := x.1.2.2.2.2.2.1 t ht
            refine wp_bd (wp_vc t1.1 (couple_w t1 (by omega) (fun h' f' t' => ?_)))
            rw [if_neg (by decide)]
            refine wp_gI (k := 2) t'.1 rfl ?_
            refine wp_rn ⟨rfl, ⟨x.1.tr1 w ht (fun a ha => f'.2 a (by omega)) (fun a a1 a2 a3 => f'.2 a (fun q => a3 ?_)) f'.1 ei el ea et ?_, x.2.ag (fun a a1 a2 => f'.2 a (by omega))⟩, FrC.fr f' (fun a ha => by omega)⟩
            · have := (o2 (a - gT g t) (by omega)).2
              rw [show gT g t + (a - gT g t) = a by omega] at this
              exact this
            · unfold Tr1
              rw [nad', e16]
              refine ⟨_, fun k => toN (if k = nad σ t then nI gp else nI (gn k)), t'.cg (fun k _ => (nI_toN _).symm), fun k hk => ⟨?_, ?_⟩⟩
              · rw [e14]
                by_cases c : k = nad σ t
                · simp [c]
                · rw [if_neg c, if_neg (by omega)]; exact (t2 k (by omega)).1
              · rw [nI_toN, e15]
                by_cases c : k = nad σ t
                · simp [c]
                · rw [if_neg c, if_neg (by omega)]; exact (t2 k (by omega)).2
          · rw [hi, if_pos (show bI (!true) = 0 from rfl)]
            refine rm_eq (in_e (nI gp) 1 20) ?_
            rw [hg, if_neg (by decide)]
            refine rm_eq (in_e (nI wg) 1 200) ?_
            rw [hw, if_neg (by decide)]
            refine rm_gA (rm_ldI t rfl (by show _ < 8; omega) ?_)
            rw [wt.1, if_neg (show ¬ nI (nad σ t) = (8 : Int32) from fun q => full ((nI_eq (a := nad σ t) (b := 8) (by omega) (by omega)).mp q))]
            refine rm_gA (rm_gA (rm_ldI t rfl (by show _ < 8; omega) ?_))
            rw [wt.1]
            refine rm_stI (8 * t + nad σ t) (ix8 t _) (by show _ < 64; omega) ?_
            refine rm_gA (rm_gA (rm_ldI t rfl (by show _ < 8; omega) ?_))
            rw [show (σ.sa 14 (8 * t + nad σ t) (nI wg)).a 13 t = nI (nad σ t) from wt.1]
            refine rm_stI (8 * t + nad σ t) (ix8 t _) (by show _ < 64; omega) ?_
            refine rm_gA (rm_ldI t rfl (by show _ < 8; omega) ?_)
            rw [show ((σ.sa 14 (8 * t + nad σ t) (nI wg)).sa 15 (8 * t + nad σ t) (nI gp)).a 13 t = nI (nad σ t) from wt.1, nI_1]
            refine rm_stI t rfl (by show _ < 8; omega) ?_
            rw [hs]
            refine rm_gA (rm_ldI t rfl (by show _ < 8; omega) (rm_rn ⟨?_, SmE.rf _⟩))
            rw [e13, if_pos rfl]
          · refine w.tr1 (t := t) ei el ea et ?_
            obtain ⟨a1, a2, a3, a4, a5, a6⟩ := wt
            have gd : ∀ k, gnd σ' t k = if k = nad σ t then gp else gnd σ t k := by
              intro k
              unfold gnd
              rw [e15]
              by_cases c : k = nad σ t
              · rw [if_pos (by omega), if_pos c, nI_clamp (by omega)]
              · rw [if_neg (by omega), if_neg c]
            unfold WFt
            rw [nad', e13, if_pos rfl, e16]
            refine ⟨rfl, by omega, fun k hk => ?_, fun k hk => ?_, ?_, a6⟩
            · rw [e14]
              by_cases c : k = nad σ t
              · rw [if_pos (by omega)]; exact ⟨wg, rfl, w1, w2⟩
              · rw [if_neg (by omega)]; exact a3 k (by omega)
            · rw [e15, gd]
              by_cases c : k = nad σ t
              · rw [if_pos (by omega), if_pos c]; exact ⟨rfl, g2⟩
              · rw [if_neg (by omega), if_neg c]; exact a4 k (by omega)
            · rw [gd, if_neg (by omega)]; exact a5
/-- one bridge is changed -/
theorem PX.br1 {h h' : Hp} {B b0 : Nat} {g g' : Gh} {σ σ' : MS} (w : WF σ) (x : PX h B g σ) (hb0 : b0 < nbd σ) (e1 : ∀ b, b < nbd σ → gB g' b = gB g b) (e2 : ∀ b c, b < nbd σ → c < ncd σ b → gC g' b c = gC g b c) (e3 : ∀ t, t < ntd σ → gT g' t = gT g t) (e4 : ∀ a, a < h.2.1 → gW g' a = gW g a) (hs : ∀ a, B ≤ a → a < B + 8 → h'.1 a = h.1 a) (z : ∀ a, B + 72 ≤ a → a < h.2.1 → ¬ (gW g a = 3 * b0 ∨ ∃ c, c < 5 ∧ gW g a = 3 * (5 * b0 + c) + 1) → h'.1 a = h.1 a) (z2 : h.2.1 ≤ h'.2.1) (ei : σ'.1 = σ.1) (el : σ'.2.2 = σ.2.2) (ea : ∀ k j, ¬ (5 ≤ k ∧ k ≤ 7) → ¬ (23 ≤ k ∧ k ≤ 27) → σ'.a k j = σ.a k j) (eb : ∀ b k, b ≠ b0 → (k = 5 ∨ k = 6 ∨ k = 7 ∨ k = 23) → σ'.a k b = σ.a k b) (ec : ∀ b c, b < nbd σ → b ≠ b0 → c < 5 → CkE σ σ' b c)
    (n1 : Br1 h' g' σ' b0) (n2 : ∀ c, c < ncd σ' b0 → Ck1 h' g' σ' b0 c ∧ B + 72 ≤ gC g' b0 c ∧ ∀ i, i < 3 → gC g' b0 c + i < h'.2.1 ∧ gW g' (gC g' b0 c + i) = 3 * (5 * b0 + c) + 1) : PX h' B g' σ' := by
  obtain ⟨u1, u2, u3, u4⟩ := PX.upd (h' := h') (g' := g') (X := fun l => l = 3 * b0 ∨ ∃ c, c < 5 ∧ l = 3 * (5 * b0 + c) + 1) w x e1 e2 e3 e4 z z2
  have nb : nbd σ' = nbd σ := by unfold nbd MS.i; rw [ei]
  have en : ntd σ' = ntd σ := by unfold ntd MS.i; rw [ei]
  have er : nrd σ' = nrd σ := by unfold nrd MS.i; rw [ei]
  have sl : ∀ b, b ≠ b0 → SlE σ σ' b := by
    intro b hb
    refine ⟨fun k hk => ?_, fun k _ => ea 4 _ (by omega) (by omega), fun a k _ _ => by show σ'.2.2 8 _ = _; rw [el]; rfl, by show σ'.2.2 9 _ = _; rw [el]; rfl⟩
    by_cases c : k = 5 ∨ k = 6 ∨ k = 7 ∨ k = 23
    · exact eb b k hb c
    · exact ea k b (by omega) (by omega)
  have nn : ∀ b, nsd σ' b = nsd σ b := fun b => by unfold nsd; rw [ea 2 b (by omega) (by omega)]
  obtain ⟨x1, x2, ⟨⟨wc, wm, x30⟩, x31, x32, x33, x34⟩, _, _, _, _⟩ := x
  have ef : ∀ k, ¬ (5 ≤ k ∧ k ≤ 7) → ¬ (23 ≤ k ∧ k ≤ 27) → σ'.a k = σ.a k := fun k hk hk2 => funext fun j => ea k j hk hk2
  refine ⟨?_, ?_, ?_, ?_, ?_, ?_, ?_⟩
  · unfold PM
    rw [nb, en, hs _ (by omega) (by omega), show σ'.i 17 = σ.i 17 by unfold MS.i; rw [ei]]
    exact x1
  · unfold PA
    rw [nb, en, hs _ (by omega) (by omega), hs _ (by omega) (by omega)]
    refine ⟨?_, ?_⟩
    · rw [x2.1]
      congr 2
      unfold arQ
      apply List.map_congr_left
      intro b _
      by_cases q : b < nbd σ
      · simp [q, e1 b q]
      · simp [q]
    · rw [x2.2]
      congr 2
      unfold arQ
      apply List.map_congr_left
      intro b _
      by_cases q : b < ntd σ
      · simp [q, e3 b q]
      · simp [q]
  · unfold PR
    rw [er, ef 29 (by omega) (by omega), ef 30 (by omega) (by omega), ef 31 (by omega) (by omega), ef 32 (by omega) (by omega), hs (B + 3) (by omega) (by omega), hs (B + 4) (by omega) (by omega), hs (B + 5) (by omega) (by omega), hs (B + 6) (by omega) (by omega), hs (B + 7) (by omega) (by omega)]
    exact ⟨⟨wc, wm, x30⟩, x31, x32, x33, x34⟩
  · rw [nb]
    intro b hb
    by_cases c : b = b0
    · subst c; exact n1
    · exact (u1 b hb (fun q => by rcases q with q | ⟨c, _, q⟩ <;> omega)).tr (w.wb hb).1 (sl b c)
  · rw [nb]
    intro b c hb hc
    by_cases q : b = b0
    · subst q; exact (n2 c hc).1
    · rw [(sl b q).c] at hc
      have n5 := (w.wb hb).1.2.2.2.2.2.2.1
      exact (u2 b c hb hc (fun z => by rcases z with z | ⟨c', _, z⟩ <;> omega)).tr (w.wb hb).1 hc (sl b q) (ec b c hb q (by omega))
  · rw [en]
    intro u hu
    refine (u3 u hu (fun z => by rcases z with z | ⟨c', _, z⟩ <;> omega)).tr ⟨ea 13 u (by omega) (by omega), ea 16 u (by omega) (by omega), fun k _ => ⟨ea 14 _ (by omega) (by omega), ea 15 _ (by omega) (by omega)⟩⟩
  · unfold PO at u4 ⊢
    rw [nb, en]
    refine ⟨u4.1, fun b hb => ?_, fun b c hb hc => ?_, u4.2.2.2⟩
    · rw [nn b]; exact u4.2.1 b hb
    · by_cases q : b = b0
      · subst q; exact (n2 c hc).2
      · rw [(sl b q).c] at hc; exact u4.2.2.1 b c hb hc
theorem WF.br1 {σ σ' : MS} {b0 : Nat} (w : WF σ) (ei : σ'.1 = σ.1) (el : σ'.2.2 = σ.2.2) (ea : ∀ k j, ¬ (5 ≤ k ∧ k ≤ 7) → ¬ (23 ≤ k ∧ k ≤ 27) → σ'.a k j = σ.a k j) (eb : ∀ b k, b ≠ b0 → (k = 5 ∨ k = 6 ∨ k = 7 ∨ k = 23) → σ'.a k b = σ.a k b) (ec : ∀ b c, b < nbd σ → b ≠ b0 → c < 5 → CkE σ σ' b c) (n1 : WFb σ' b0) (n2 : WFr σ' b0) : WF σ' := by
  have nb : nbd σ' = nbd σ := by unfold nbd MS.i; rw [ei]
  have en : ntd σ' = ntd σ := by unfold ntd MS.i; rw [ei]
  have er : nrd σ' = nrd σ := by unfold nrd MS.i; rw [ei]
  have e : ∀ k, σ'.i k = σ.i k := fun k => by unfold MS.i; rw [ei]
  have sl : ∀ b, b ≠ b0 → SlE σ σ' b := by
    intro b hb
    refine ⟨fun k hk => ?_, fun k _ => ea 4 _ (by omega) (by omega), fun a k _ _ => by show σ'.2.2 8 _ = _; rw [el]; rfl, by show σ'.2.2 9 _ = _; rw [el]; rfl⟩
    by_cases c : k = 5 ∨ k = 6 ∨ k = 7 ∨ k = 23
    · exact eb b k hb c
    · exact ea k b (by omega) (by omega)
  obtain ⟨w1, w2, w3, w4, w5, w6, w7, w8, w9⟩ := w
  unfold WF
  rw [nb, en, er, e, e, e, e]
  refine ⟨w1, w2, w3, ⟨(e 20).trans w4.1, (e 18).trans w4.2.1, (e 19).trans w4.2.2⟩, w5, fun b hb => ?_, fun b hb => ?_, fun u hu => (w8 u hu).tr ⟨ea 13 u (by omega) (by omega), ea 16 u (by omega) (by omega), fun k _ => ⟨ea 14 _ (by omega) (by omega), ea 15 _ (by omega) (by omega)⟩⟩, fun r hr => ?_⟩
  · by_cases c : b = b0
    · subst c; exact n1
    · exact (w6 b hb).tr (sl b c) (fun c' hc' => ec b c' hb c (by have := (w6 b hb).2.2.2.2.2.2.1; omega))
  · by_cases c : b = b0
    · subst c; exact n2
    · unfold WFr
      rw [eb b 5 c (by omega), eb b 6 c (by omega), eb b 7 c (by omega), nb]
      exact w7 b hb
  · unfold WFo
    rw [ea 29 r (by omega) (by omega), ea 30 r (by omega) (by omega), ea 31 r (by omega) (by omega), ea 32 r (by omega) (by omega), nb]
    exact w9 r hr
