/-! New objects: checks, trains. -/
theorem wp_nwO {R : Type} {h : Hp} {Q : R → Hp → Prop} {ci : Nat} {fs : List TV} {K : Option Nat → Mo R} (k : WP (K (some h.2.1)) (mk h (ob ci fs) fs.length) Q) : WP (bd (nwO ci fs) K) h Q := wp_e rfl k
theorem wp_vn {R A : Type} {h : Hp} {Q : R → Hp → Prop} {a : Nat} {f : Nat → Mo A} {K : A → Mo R} (k : WP (bd (f a) K) h Q) : WP (bd (vn (some a) f) K) h Q := k
theorem nwL_e {h : Hp} {n : Nat} (hn : n ≤ 5000) : nwL (nI n) h = some (some h.2.1, mk h (al (List.replicate n 0)) n) := by
  unfold nwL
  rw [nI_clamp (by omega), if_neg]
  intro z
  rcases z with z | z
  · exact absurd z (by have := nI_pos' (n := n) (by omega); simpa using this)
  · omega
theorem wp_nwL {R : Type} {h : Hp} {Q : R → Hp → Prop} {n : Nat} {v : Int32} {K : Option Nat → Mo R} (hv : v = nI n) (hn : n ≤ 5000) (k : WP (K (some h.2.1)) (mk h (al (arL n fun _ => 0)) n) Q) : WP (bd (nwL v) K) h Q := by
  subst hv
  refine wp_e (nwL_e hn) ?_
  rw [rep0L]
  exact k
theorem wp_nwI {R : Type} {h : Hp} {Q : R → Hp → Prop} {t n : Nat} {v : Int32} {K : Option Nat → Mo R} (hv : v = nI n) (hn : n ≤ 1000) (k : WP (K (some h.2.1)) (mk h (ai t (arI n fun _ => 0)) n) Q) : WP (bd (nwI t v) K) h Q := by
  subst hv
  refine wp_e (nwI_e hn) ?_
  rw [rep0]
  exact k
theorem line_new {h : Hp} {t : Nat} {fs : List TV} (ht : t < h.2.1) (e : h.1 t = some (ob 4 [vr none, vl 0, vi 0])) {Q : Unit → Hp → Prop} (q : ∀ h', (∀ a, a < h.2.1 → a ≠ t → h'.1 a = h.1 a) → h'.1 t = some (ob 4 [vr (some h.2.1), vl 1, vi 0]) → h'.1 h.2.1 = some (al (arL 61 fun _ => 0)) → h'.2 = (h.2.1 + 1, h.2.2 + 61) → Q () h') : WP (pX4_init t) h Q := by
  unfold pX4_init
  refine wp_vn ?_
  refine wp_e rfl ?_
  refine wp_nwL (n := 61) rfl (by omega) ?_
  have n1 : t ≠ h.2.1 := by omega
  refine wp_pF (k := 0) (fs := [vr none, vl 0, vi 0]) (by simp [mk, n1, e]) (by simp) ?_
  refine wp_pF (k := 1) (fs := [vr (some h.2.1), vl 0, vi 0]) (by simp [up]) (by simp) ?_
  refine wp_pF (k := 2) (fs := [vr (some h.2.1), vl 1, vi 0]) (by simp [up]) (by simp) ?_
  refine wp_rn (q _ (fun a a1 a2 => ?_) ?_ ?_ rfl)
  · simp [up, mk, a2, show a ≠ h.2.1 by omega]
  · simp [up]
  · simp [up, mk, Ne.symm n1]
theorem check_new {h : Hp} {v4 v5 : Int32} {R : Type} {K : Option Nat → Mo R} {Q : R → Hp → Prop} (q : ∀ h', (∀ a, a < h.2.1 → h'.1 a = h.1 a) → h'.1 h.2.1 = some (ob 1 [vr (some (h.2.1 + 1)), vi v4, vi v5]) → h'.1 (h.2.1 + 1) = some (ob 4 [vr (some (h.2.1 + 2)), vl 1, vi 0]) → h'.1 (h.2.1 + 2) = some (al (arL 61 fun _ => 0)) → h'.2 = (h.2.1 + 3, h.2.2 + 67) → WP (K (some h.2.1)) h' Q) : WP (bd (nwO 1 [vr none, vi 0, vi 0]) fun x63 => bd (vn x63 (fun o => pX1_init o v4 v5)) fun _ => K x63) h Q := by
  refine wp_nwO ?_
  refine wp_vn ?_
  refine wp_bd ?_
  unfold pX1_init
  refine wp_vn ?_
  refine wp_e rfl ?_
  refine wp_nwO ?_
  refine wp_vn ?_
  refine wp_bd (line_new (fs := []) (by simp [mk]) (by simp [mk]) (fun h1 a1 a2 a3 a4 => ?_))
  have e0 : h1.1 h.2.1 = some (ob 1 [vr none, vi 0, vi 0]) := by
    rw [a1 h.2.1 (by simp [mk]; omega) (by simp [mk])]
    simp [mk]
  have t1 : (mk h (ob 1 [vr none, vi 0, vi 0]) 3).2.1 = h.2.1 + 1 := rfl
  have t2 : (mk (mk h (ob 1 [vr none, vi 0, vi 0]) 3) (ob 4 [vr none, vl 0, vi 0]) 3).2.1 = h.2.1 + 2 := rfl
  simp only [List.length_cons, List.length_nil, Nat.zero_add, Nat.reduceAdd] at a1 a2 a3 a4 ⊢
  rw [t1, t2] at a2
  rw [t2] at a3
  refine wp_pF (k := 0) e0 (by simp) ?_
  refine wp_pF (k := 1) (fs := [vr (some (h.2.1 + 1)), vi 0, vi 0]) (by simp [up, t1]) (by simp) ?_
  refine wp_pF (k := 2) (fs := [vr (some (h.2.1 + 1)), vi v4, vi 0]) (by simp [up]) (by simp) ?_
  refine wp_rn (q _ (fun a ha => ?_) ?_ ?_ ?_ ?_)
  · rw [up_n (by omega), up_n (by omega), up_n (by omega), a1 a (by rw [t2]; omega) (by rw [t1]; omega)]
    simp [mk, show a ≠ h.2.1 by omega, show a ≠ h.2.1 + 1 by omega]
  · simp [up]
  · rw [up_n (by omega), up_n (by omega), up_n (by omega)]; exact a2
  · rw [up_n (by omega), up_n (by omega), up_n (by omega)]; exact a3
  · show h1.2 = _
    rw [a4]
    rfl
theorem train_new {h : Hp} {R : Type} {K : Option Nat → Mo R} {Q : R → Hp → Prop} (q : ∀ h', (∀ a, a < h.2.1 → h'.1 a = h.1 a) → Trn h' h.2.1 (h.2.1 + 1) (h.2.1 + 2) 0 0 (fun _ => 0) (fun _ => 0) → h'.2 = (h.2.1 + 3, h.2.2 + 20) → WP (K (some h.2.1)) h' Q) : WP (bd (nwO 8 [vr none, vr none, vi 0, vi 0]) fun x28 => bd (vn x28 (fun o => pX8_init o)) fun _ => K x28) h Q := by
  refine wp_nwO ?_
  refine wp_vn ?_
  refine wp_bd ?_
  unfold pX8_init
  refine wp_vn ?_
  refine wp_e rfl ?_
  refine wp_nwI (n := 8) rfl (by omega) ?_
  refine wp_pF (k := 0) (fs := [vr none, vr none, vi 0, vi 0]) (by simp [mk]) (by simp) ?_
  refine wp_nwI (n := 8) rfl (by omega) ?_
  refine wp_pF (k := 1) (fs := [vr (some (h.2.1 + 1)), vr none, vi 0, vi 0]) (by simp [mk, up]; omega) (by simp) ?_
  refine wp_pF (k := 2) (fs := [vr (some (h.2.1 + 1)), vr (some (h.2.1 + 2)), vi 0, vi 0]) (by simp [mk, up]) (by simp) ?_
  refine wp_pF (k := 3) (fs := [vr (some (h.2.1 + 1)), vr (some (h.2.1 + 2)), vi 0, vi 0]) (by simp [mk, up]) (by simp) ?_
  refine wp_rn (q _ (fun a ha => ?_) ⟨?_, ?_, ?_⟩ rfl)
  · simp [mk, up, show a ≠ h.2.1 by omega, show a ≠ h.2.1 + 1 by omega, show a ≠ h.2.1 + 2 by omega]
  · simp [mk, up]; rfl
  · simp [mk, up]
  · simp [mk, up]
theorem stQ_e {h : Hp} {t ci a b n j : Nat} {F : Nat → Option Nat} {fs : List TV} (e : h.1 a = some (aq t (arQ n F))) (eb : h.1 b = some (ob ci fs)) (hj : j < n) (hn : n < 2 ^ 31) : stQ t ci (some a) (nI j) (some b) h = some ((), up h a (aq t (arQ n (fun y => if y = j then some b else F y)))) := by
  have h1 := ix_ok (j := j) (n := (arQ n F).length) (by rw [arQ_len]; exact hj) (by rw [arQ_len]; exact hn)
  rw [nI_clamp (by omega)] at h1
  simp only [stQ, qaOf, obOf, e, eb]
  simp only [if_true, nI_clamp (show j < 2 ^ 31 by omega)]
  rw [if_neg h1, arQ_set]
theorem WF.nt {σ : MS} (w : WF σ) : ntd σ ≤ 8 := w.2.1.2
theorem train_s (B : Nat) (v1 : Int32) : StC B (pX10_train B v1) (pX11_train (B + 42) v1) := by
  refine stp_bw (fun h g σ x w => ?_)
  have x1 := x.1.1
  have rf := FrC.rf B h
  have t8 := w.nt
  unfold pX10_train pX11_train
  refine bw_in (lo := 1) (hi := 200) (fun _ => bw_rn x w rf) (fun hv => ?_)
  obtain ⟨wg, w1, w2, rfl⟩ := inB_of2 (lo := 1) (hi := 200) (by omega) (by omega) hv
  refine bw_eL (gI_e (k := 3) x1 rfl) (bw_gI ?_)
  rw [w.2.1.1]
  by_cases full : ntd σ = 8
  · rw [full, if_neg (show ¬ nI 8 < (8 : Int32) by decide), if_pos (show nI 8 = (8 : Int32) from rfl)]
    exact bw_rn x w rf
  · rw [if_pos (show nI (ntd σ) < (8 : Int32) from nI_lt (b := 8) (by omega) (by omega)), if_neg (show ¬ nI (ntd σ) = (8 : Int32) from fun q => full ((nI_eq (a := ntd σ) (b := 8) (by omega) (by omega)).mp q))]
    generalize hs : ((((σ.sa 13 (ntd σ) 1).sa 14 (8 * ntd σ) (nI wg)).sa 15 (8 * ntd σ) 0).sa 16 (ntd σ) 0).si 12 (nI (ntd σ + 1)) = σ'
    have e13 : ∀ u, σ'.a 13 u = if u = ntd σ then 1 else σ.a 13 u := fun u => by rw [← hs]; simp [sa_a, si_a]
    have e14 : ∀ j, σ'.a 14 j = if j = 8 * ntd σ then nI wg else σ.a 14 j := fun j => by rw [← hs]; simp [sa_a, si_a]
    have e15 : ∀ j, σ'.a 15 j = if j = 8 * ntd σ then 0 else σ.a 15 j := fun j => by rw [← hs]; simp [sa_a, si_a]
    have e16 : ∀ j, σ'.a 16 j = if j = ntd σ then 0 else σ.a 16 j := fun j => by rw [← hs]; simp [sa_a, si_a]
    have ea : ∀ k j, ¬ (13 ≤ k ∧ k ≤ 16) → σ'.a k j = σ.a k j := fun k j hk => by rw [← hs, si_a, sa_a, if_neg (by omega), sa_a, if_neg (by omega), sa_a, if_neg (by omega), sa_a, if_neg (by omega)]
    have ei : ∀ k, k ≠ 12 → σ'.i k = σ.i k := fun k hk => by rw [← hs, si_i, if_neg hk]; rfl
    have e12 : σ'.i 12 = nI (ntd σ + 1) := by rw [← hs, si_i, if_pos rfl]
    have el : σ'.2.2 = σ.2.2 := by rw [← hs]; rfl
    have sl : ∀ b, SlE σ σ' b := fun b => ⟨fun k hk => ea k b (by omega), fun k _ => ea 4 _ (by omega), fun a k _ _ => by show σ'.2.2 8 _ = _; rw [el]; rfl, by show σ'.2.2 9 _ = _; rw [el]; rfl⟩
    have ck : ∀ b c, CkE σ σ' b c := fun b c k hk => ea k _ (by omega)
    have nb : nbd σ' = nbd σ := by unfold nbd; rw [ei 0 (by omega)]
    have nr : nrd σ' = nrd σ := by unfold nrd; rw [ei 28 (by omega)]
    have nt : ntd σ' = ntd σ + 1 := ntd_n e12 (by omega)
    have na : nad σ' (ntd σ) = 1 := by unfold nad; rw [e13, if_pos rfl]; rfl
    have et : ∀ u, u < ntd σ → TrE σ σ' u := by
      intro u hu
      have nu := (w.tr hu).2.1.2.1
      refine ⟨by rw [e13, if_neg (by omega)], by rw [e16, if_neg (by omega)], fun k hk => ⟨?_, ?_⟩⟩
      · rw [e14, if_neg (by omega)]
      · rw [e15, if_neg (by omega)]
    refine ⟨nI (ntd σ), σ', (gB g, gC g, (fun u => if u = ntd σ then h.2.1 else gT g u), fun a => if a < h.2.1 then gW g a else 3 * ntd σ + 2), ?_, ?_, ?_⟩
    · have o0 := x.1.2.2.2.2.2.2.1
      refine train_new (fun h1 a1 a2 a3 => ?_)
      refine wp_bd (wp_vc a2.1 (couple_w (v1 := 0) (v2 := nI wg) a2 (by omega) (fun h2 f2 t2 => ?_)))
      have b1 : ∀ a, a < h.2.1 → h2.1 a = h.1 a := fun a ha => (f2.2 a (by omega)).trans (a1 a ha)
      have p1 : h2.1 B = _ := (b1 B (by omega)).trans x1
      refine wp_gA (k := 2) p1 rfl ?_
      refine wp_gI (k := 3) p1 rfl ?_
      refine wp_e (stQ_e ((b1 (B + 2) (by omega)).trans x.1.2.1.2) t2.1 (by omega) (by omega)) ?_
      refine wp_gI (k := 3) ((up_n (by omega)).trans p1) rfl ?_
      refine wp_pF (k := 3) ((up_n (by omega)).trans p1) (by simp) ?_
      rw [nI_1]
      refine wp_gI (k := 3) (up_s _ _ _) rfl ?_
      have eend : nI (ntd σ + 1) - 1 = nI (ntd σ) := nI_pred _
      rw [eend]
      generalize hh : up (up h2 (B + 2) (aq 5 (arQ 8 fun y => if y = ntd σ then some h.2.1 else if y < ntd σ then some (gT g y) else none))) B (ob 10 ([vr (some (B + 1)), vi (nI (nbd σ)), vr (some (B + 2)), vi (nI (ntd σ)), vi (σ.i 17), vr (some (B + 3)), vr (some (B + 11)), vr (some (B + 18)), vr (some (B + 20)), vr (some (B + 22)), vr (some (B + 26)), vr (some (B + 36)), vr (some (B + 38)), vr (some (B + 41))].set 3 (vi (nI (ntd σ + 1))))) = h3
      have c0 : h3.1 B = some (ob 10 [vr (some (B + 1)), vi (nI (nbd σ)), vr (some (B + 2)), vi (nI (ntd σ + 1)), vi (σ.i 17), vr (some (B + 3)), vr (some (B + 11)), vr (some (B + 18)), vr (some (B + 20)), vr (some (B + 22)), vr (some (B + 26)), vr (some (B + 36)), vr (some (B + 38)), vr (some (B + 41))]) := by rw [← hh]; exact up_s _ _ _
      have c2 : h3.1 (B + 2) = some (aq 5 (arQ 8 fun y => if y = ntd σ then some h.2.1 else if y < ntd σ then some (gT g y) else none)) := by rw [← hh, up_n (by omega)]; exact up_s _ _ _
      have cc : ∀ a, a ≠ B → a ≠ B + 2 → h3.1 a = h2.1 a := fun a n1 n2 => by rw [← hh, up_n n1, up_n n2]
      have c3 : h3.2 = (h.2.1 + 3, h.2.2 + 20) := by rw [← hh]; show h2.2 = _; rw [f2.1, a3]
      clear hh
      have cl : ∀ a, a < h.2.1 → a ≠ B → a ≠ B + 2 → h3.1 a = h.1 a := fun a n0 n1 n2 => (cc a n1 n2).trans (b1 a n0)
      obtain ⟨u1, u2, u3, u4⟩ := PX.upd (h' := h3) (g' := (gB g, gC g, (fun u => if u = ntd σ then h.2.1 else gT g u), fun a => if a < h.2.1 then gW g a else 3 * ntd σ + 2)) (X := fun _ => False) w x.1 (fun _ _ => rfl) (fun _ _ _ _ => rfl) (fun t ht => by show (if t = ntd σ then h.2.1 else gT g t) = _; rw [if_neg (by omega)]) (fun a ha => by show (if a < h.2.1 then gW g a else _) = _; rw [if_pos ha]) (fun a q1 q2 _ => cl a q2 (by omega) (by omega)) (by rw [c3]; show _ ≤ h.2.1 + 3; omega)
      refine wp_rn ⟨rfl, ⟨⟨?_, ?_, ?_, ?_, ?_, ?_, ?_⟩, x.2.ag (fun a q1 q2 => cl a (by omega) (by omega) (by omega))⟩, ⟨fun a q1 q2 => cl a (by omega) (by omega) (by omega), by rw [c3]; show h.2.1 + 3 ≤ _; omega, by rw [c3]; show h.2.2 + 20 ≤ _; omega⟩⟩
      · unfold PM
        rw [nb, nt, ei 17 (by omega)]
        exact c0
      · unfold PA
        rw [nb, nt]
        refine ⟨(cl _ (by omega) (by omega) (by omega)).trans x.1.2.1.1, ?_⟩
        rw [c2]
        congr 2
        unfold arQ
        apply List.map_congr_left
        intro u _
        show _ = if u < ntd σ + 1 then some (if u = ntd σ then h.2.1 else gT g u) else none
        by_cases q : u = ntd σ
        · simp [q]
        · by_cases q2 : u < ntd σ
          · simp [q, q2, show u < ntd σ + 1 by omega]
          · simp [q, q2, show ¬ u < ntd σ + 1 by omega]
      · obtain ⟨⟨wc, wm, y1⟩, y2, y3, y4, y5⟩ := x.1.2.2.1
        have ef : ∀ k, ¬ (13 ≤ k ∧ k ≤ 16) → σ'.a k = σ.a k := fun k hk => funext fun j => ea k j hk
        unfold PR
        rw [nr, ef 29 (by omega), ef 30 (by omega), ef 31 (by omega), ef 32 (by omega)]
        exact ⟨⟨wc, wm, (cl _ (by omega) (by omega) (by omega)).trans y1⟩, (cl _ (by omega) (by omega) (by omega)).trans y2, (cl _ (by omega) (by omega) (by omega)).trans y3, (cl _ (by omega) (by omega) (by omega)).trans y4, (cl _ (by omega) (by omega) (by omega)).trans y5⟩
      · rw [nb]
        exact fun b hb => (u1 b hb (fun q => q)).tr (w.wb hb).1 (sl b)
      · rw [nb]
        intro b c hb hc
        rw [(sl b).c] at hc
        exact (u2 b c hb hc (fun q => q)).tr (w.wb hb).1 hc (sl b) (ck b c)
      · rw [nt]
        intro u hu
        by_cases q : u = ntd σ
        · subst q
          refine ⟨fun y => if y = 0 then nI wg else 0, fun _ => 0, Trn.cg (G := fun y => if y = 0 then 0 else 0) (G' := fun k => nI ((fun _ => 0) k)) ⟨?_, ?_, ?_⟩ (fun k _ => by show (if k = 0 then (0 : Int32) else 0) = nI 0; by_cases c : k = 0 <;> simp [c] <;> rfl), fun k hk => ?_⟩
          · show h3.1 (if ntd σ = ntd σ then h.2.1 else gT g (ntd σ)) = some (ob 8 [vr (some ((if ntd σ = ntd σ then h.2.1 else gT g (ntd σ)) + 1)), vr (some ((if ntd σ = ntd σ then h.2.1 else gT g (ntd σ)) + 2)), vi (nI (nad σ' (ntd σ))), vi (σ'.a 16 (ntd σ))])
            rw [if_pos rfl, na, e16, if_pos rfl, cc _ (by omega) (by omega)]
            exact t2.1
          · show h3.1 ((if ntd σ = ntd σ then h.2.1 else gT g (ntd σ)) + 1) = _
            rw [if_pos rfl, cc _ (by omega) (by omega)]
            exact t2.2.1
          · show h3.1 ((if ntd σ = ntd σ then h.2.1 else gT g (ntd σ)) + 2) = _
            rw [if_pos rfl, cc _ (by omega) (by omega)]
            exact t2.2.2
          · rw [na] at hk
            have k0 : k = 0 := by omega
            subst k0
            rw [e14, e15, if_pos (by omega), if_pos (by omega)]
            exact ⟨rfl, rfl⟩
        · exact (u3 u (by omega) (fun q => q)).tr (et u (by omega))
      · unfold PO at u4 ⊢
        rw [nb, nt]
        refine ⟨u4.1, fun b hb => ?_, fun b c hb hc => ?_, fun u hu => ?_⟩
        · rw [(sl b).n]; exact u4.2.1 b hb
        · rw [(sl b).c] at hc; exact u4.2.2.1 b c hb hc
        · by_cases q : u = ntd σ
          · subst q
            show B + 72 ≤ (if ntd σ = ntd σ then h.2.1 else gT g (ntd σ)) ∧ ∀ i, i < 3 → (if ntd σ = ntd σ then h.2.1 else gT g (ntd σ)) + i < h3.2.1 ∧ (if (if ntd σ = ntd σ then h.2.1 else gT g (ntd σ)) + i < h.2.1 then gW g ((if ntd σ = ntd σ then h.2.1 else gT g (ntd σ)) + i) else 3 * ntd σ + 2) = 3 * ntd σ + 2
            rw [if_pos rfl, c3]
            refine ⟨o0, fun i hi => ⟨by show h.2.1 + i < h.2.1 + 3; omega, by rw [if_neg (by omega)]⟩⟩
          · exact u4.2.2.2 u (by omega)
    · refine rm_gA (rm_gI ?_)
      rw [w.2.1.1]
      refine rm_stI (ntd σ) rfl (by show _ < 8; omega) (rm_gA (rm_gI ?_))
      rw [show (σ.sa 13 (ntd σ) 1).i 12 = nI (ntd σ) from w.2.1.1]
      refine rm_stI (8 * ntd σ) (pk_mul 8 (ntd σ)) (by show _ < 64; omega) (rm_gA (rm_gI ?_))
      rw [show ((σ.sa 13 (ntd σ) 1).sa 14 (8 * ntd σ) (nI wg)).i 12 = nI (ntd σ) from w.2.1.1]
      refine rm_stI (8 * ntd σ) (pk_mul 8 (ntd σ)) (by show _ < 64; omega) (rm_gA (rm_gI ?_))
      rw [show (((σ.sa 13 (ntd σ) 1).sa 14 (8 * ntd σ) (nI wg)).sa 15 (8 * ntd σ) 0).i 12 = nI (ntd σ) from w.2.1.1]
      refine rm_stI (ntd σ) rfl (by show _ < 8; omega) (rm_gI ?_)
      rw [show ((((σ.sa 13 (ntd σ) 1).sa 14 (8 * ntd σ) (nI wg)).sa 15 (8 * ntd σ) 0).sa 16 (ntd σ) 0).i 12 = nI (ntd σ) from w.2.1.1, nI_1]
      refine rm_pI ?_
      rw [hs]
      refine rm_gI ?_
      rw [e12, nI_pred]
      exact rm_rn ⟨rfl, SmE.rf _⟩
    · obtain ⟨p1, p2, p3, p4, p5, p6, p7, p8, p9⟩ := w
      unfold WF
      rw [nb, nt, nr, ei 0 (by omega), e12, ei 28 (by omega), ei 17 (by omega)]
      refine ⟨p1, ⟨rfl, by omega⟩, p3, ⟨(ei 20 (by omega)).trans p4.1, (ei 18 (by omega)).trans p4.2.1, (ei 19 (by omega)).trans p4.2.2⟩, ?_, fun b hb => (p6 b hb).tr (sl b) (fun c _ => ck b c), fun b hb => ?_, fun u hu => ?_, fun r hr => ?_⟩
      · rcases p5 with q | ⟨t, q1, q2⟩
        · exact Or.inl q
        · exact Or.inr ⟨t, by omega, q2⟩
      · unfold WFr
        rw [ea 5 b (by omega), ea 6 b (by omega), ea 7 b (by omega), nb]
        exact p7 b hb
      · by_cases q : u = ntd σ
        · subst q
          have gd : gnd σ' (ntd σ) 0 = 0 := by unfold gnd; rw [e15, if_pos (by omega)]; rfl
          unfold WFt
          rw [na, e13, if_pos rfl, e16, if_pos rfl, gd]
          refine ⟨rfl, by omega, fun k hk => ?_, fun k hk => ?_, rfl, 0, by omega, rfl⟩
          · rw [e14, if_pos (by omega)]; exact ⟨wg, rfl, w1, w2⟩
          · have k0 : k = 0 := by omega
            subst k0
            rw [e15, if_pos (by omega), gd]
            exact ⟨rfl, by omega⟩
        · exact (p8 u (by omega)).tr (et u (by omega))
      · unfold WFo
        rw [ea 29 r (by omega), ea 30 r (by omega), ea 31 r (by omega), ea 32 r (by omega), nb]
        exact p9 r hr
