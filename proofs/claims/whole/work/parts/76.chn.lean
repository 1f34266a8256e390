/-! check. -/
theorem check_s (B : Nat) (v1 v2 v3 v4 v5 : Int32) : StC B (pX10_check B v1 v2 v3 v4 v5) (pX11_check (B + 42) v1 v2 v3 v4 v5) := by
  refine stp_bw (fun h g σ x w => ?_)
  have x1 := x.1.1
  have rf := FrC.rf B h
  unfold pX10_check pX11_check
  rcases brAt x w v1 with ⟨hi, e⟩ | ⟨hi, b, hb, rfl, e⟩
  · refine bw_eL (by rw [vc_e x1]; exact e) (bw_eR (ro_vc (noBridge_r v1)) ?_)
    rw [if_pos (show (none : Option Nat) = none from rfl), hi, if_neg (show ¬ bI (!false) = 0 by decide)]
    exact bw_rn x w rf
  · have wb := (w.wb hb).1
    have b6 := w.1.2
    have y := x.1.2.2.2.1 b hb
    have n5 := wb.n
    have c5 := wb.2.2.2.2.2.2.1
    have L6 := wb.2.1
    refine bw_eL (by rw [vc_e x1]; exact e) (bw_eR (ro_vc (noBridge_r _)) ?_)
    rw [if_neg (show ¬ (some (gB g b + 2) = none) by simp), hi, if_pos (show bI (!true) = 0 from rfl)]
    refine bw_sup x w hb (bw_rn x w rf) (fun hs => ?_)
    refine bw_res x w hb hs (bw_rn x w rf) (fun x0 ex hr => ?_)
    subst ex
    refine bw_eL (limits_e v4 v5 h) (bw_eR (ro_of (isLimit_e v4 v5)) ?_)
    cases hl : limB v4 v5
    · rw [if_pos (show bI false = 0 from rfl), if_pos (show bI false = 0 from rfl)]
      exact bw_rn x w rf
    · rw [if_neg (show ¬ bI true = 0 by decide), if_neg (show ¬ bI true = 0 by decide)]
      obtain ⟨lm1, lm2⟩ := limB_t hl
      refine bw_eL (gI_e (k := 7) y.1 rfl) (bw_gA (bw_ldI b rfl (by show _ < 6; omega) ?_))
      rw [wb.2.2.2.2.2.1]
      by_cases full : ncd σ b = 5
      · rw [full, if_neg (show ¬ nI 5 < (5 : Int32) by decide), if_pos (show nI 5 = (5 : Int32) from rfl)]
        exact bw_rn x w rf
      · rw [if_pos (show nI (ncd σ b) < (5 : Int32) from nI_lt (b := 5) (by omega) (by omega)), if_neg (show ¬ nI (ncd σ b) = (5 : Int32) from fun q => full ((nI_eq (a := ncd σ b) (b := 5) (by omega) (by omega)).mp q))]
        generalize hm : ncd σ b = m at full c5
        have o := x.1.2.2.2.2.2.2.2.1 b hb
        have o2 := x.1.2.2.2.2.2.2.2.2.1
        have o0 := x.1.2.2.2.2.2.2.1
        generalize hs' : ((((σ.sa 24 (5 * b + m) v2).sa 25 (5 * b + m) (nI x0)).sa 26 (5 * b + m) v4).sa 27 (5 * b + m) v5).sa 23 b (nI (m + 1)) = σ'
        have e24 : ∀ j, σ'.a 24 j = if j = 5 * b + m then v2 else σ.a 24 j := fun j => by rw [← hs']; simp [sa_a]
        have e25 : ∀ j, σ'.a 25 j = if j = 5 * b + m then nI x0 else σ.a 25 j := fun j => by rw [← hs']; simp [sa_a]
        have e26 : ∀ j, σ'.a 26 j = if j = 5 * b + m then v4 else σ.a 26 j := fun j => by rw [← hs']; simp [sa_a]
        have e27 : ∀ j, σ'.a 27 j = if j = 5 * b + m then v5 else σ.a 27 j := fun j => by rw [← hs']; simp [sa_a]
        have e23 : ∀ j, σ'.a 23 j = if j = b then nI (m + 1) else σ.a 23 j := fun j => by rw [← hs']; simp [sa_a]
        have ea' : ∀ k j, ¬ (23 ≤ k ∧ k ≤ 27) → σ'.a k j = σ.a k j := fun k j hk => by rw [← hs', sa_a, if_neg (by omega), sa_a, if_neg (by omega), sa_a, if_neg (by omega), sa_a, if_neg (by omega), sa_a, if_neg (by omega)]
        have ei : σ'.1 = σ.1 := by rw [← hs']; rfl
        have el : σ'.2.2 = σ.2.2 := by rw [← hs']; rfl
        have nc' : ncd σ' b = m + 1 := by unfold ncd; rw [e23, if_pos rfl, nI_clamp (by omega)]
        have eL : Ld σ' b = Ld σ b := by unfold Ld; rw [ea' 1 b (by omega)]
        have en : nsd σ' b = nsd σ b := by unfold nsd; rw [ea' 2 b (by omega)]
        have es : ∀ k, spd σ' b k = spd σ b k := fun k => by unfold spd; rw [ea' 4 _ (by omega)]
        have el9 : σ'.l 9 b = σ.l 9 b := by show σ'.2.2 9 b = _; rw [el]; rfl
        have eq : EQr σ σ' := ⟨by unfold MS.i; rw [ei], by unfold MS.i; rw [ei], by unfold MS.i; rw [ei], fun j => ea' 1 j (by omega), fun j => ea' 2 j (by omega), fun j => ea' 4 j (by omega), fun j => ea' 13 j (by omega), fun j => ea' 14 j (by omega), fun j => ea' 15 j (by omega), fun j => by show σ'.2.2 8 j = _; rw [el]; rfl, fun j => by show σ'.2.2 9 j = _; rw [el]; rfl⟩
        have ec : ∀ b' c', c' < 5 → ¬ (b' = b ∧ c' = m) → CkE σ σ' b' c' := by
          intro b' c' h5 hne k hk
          rcases hk with rfl | rfl | rfl | rfl
          · rw [e24, if_neg (by omega)]
          · rw [e25, if_neg (by omega)]
          · rw [e26, if_neg (by omega)]
          · rw [e27, if_neg (by omega)]
        have rx := rsB_x wb hr
        refine ⟨nI m, σ', (gB g, (fun b' c' => if b' = b ∧ c' = m then h.2.1 else gC g b' c'), gT g, fun a => if a < h.2.1 then gW g a else 3 * (5 * b + m) + 1), ?_, ?_, ?_⟩
        · refine check_new (fun h1 a1 a2 a3 a4 a5 => ?_)
          have y1 : Br1 h1 g σ b := y.ag (fun i hi => a1 _ (o.2 i hi).1) (by omega)
          have top : ∀ i, i < 6 + nsd σ b → gB g b + i < h.2.1 := fun i hi => (o.2 i hi).1
          have top5 := top 5 (by omega)
          refine wp_gA (k := 0) a2 rfl ?_
          refine wp_bd (wp_vc a3 (draw_w y1 a3 a4 (by omega) L6.2 hr (fun i hi => by have := top i hi; omega) (by omega) (fun h2 lf F2 l2 v2' => ?_)))
          have y2 : Br1 h2 g σ b := y1.ag (fun i hi => F2.2 _ (by have := top i hi; omega)) (by omega)
          rw [Br1, hm] at y2
          refine wp_gA (k := 6) y2.1 rfl ?_
          refine wp_gI (k := 7) y2.1 rfl ?_
          have k2 : h2.1 h.2.1 = some (ob 1 [vr (some (h.2.1 + 1)), vi v4, vi v5]) := F2.at a2 (by omega)
          refine wp_e (stQ_e y2.2.2.2.2.2 k2 (by omega) (by omega)) ?_
          refine wp_gI (k := 7) ((up_n (by omega)).trans y2.1) rfl ?_
          refine wp_pF (k := 7) ((up_n (by omega)).trans y2.1) (by simp) ?_
          rw [nI_1]
          refine wp_gI (k := 7) (up_s _ _ _) rfl ?_
          rw [show nI (m + 1) - 1 = nI m from nI_pred m]
          generalize hh : up (up h2 (gB g b + 4) (aq 4 (arQ 5 fun y => if y = m then some h.2.1 else if y < m then some (gC g b y) else none))) (gB g b + 2) (ob 0 ([vi (nI (Ld σ b)), vr (some (gB g b)), vi (nI (nsd σ b - 2)), vl (σ.l 9 b), vr (some (gB g b + 5)), vr (some (gB g b + 3)), vr (some (gB g b + 4)), vi (nI m)].set 7 (vi (nI (m + 1))))) = h3
          have c0 : h3.1 (gB g b + 2) = some (ob 0 [vi (nI (Ld σ b)), vr (some (gB g b)), vi (nI (nsd σ b - 2)), vl (σ.l 9 b), vr (some (gB g b + 5)), vr (some (gB g b + 3)), vr (some (gB g b + 4)), vi (nI (m + 1))]) := by rw [← hh]; exact up_s _ _ _
          have c4 : h3.1 (gB g b + 4) = some (aq 4 (arQ 5 fun y => if y = m then some h.2.1 else if y < m then some (gC g b y) else none)) := by rw [← hh, up_n (by omega)]; exact up_s _ _ _
          have cc : ∀ a, a ≠ gB g b + 2 → a ≠ gB g b + 4 → h3.1 a = h2.1 a := fun a n1 n2 => by rw [← hh, up_n n1, up_n n2]
          have c3 : h3.2 = (h.2.1 + 3, h.2.2 + 67) := by rw [← hh]; show h2.2 = _; rw [F2.1, a5]
          clear hh
          have cl : ∀ a, a < h.2.1 → a ≠ gB g b + 2 → a ≠ gB g b + 4 → h3.1 a = h.1 a := fun a n0 n1 n2 => (cc a n1 n2).trans ((F2.2 a (by omega)).trans (a1 a n0))
          have lab : ∀ a, a < h.2.1 → gW g a ≠ 3 * b → h3.1 a = h.1 a := fun a n0 n1 => cl a n0 (fun q => n1 (by rw [q]; exact (o.2 2 (by omega)).2)) (fun q => n1 (by rw [q]; exact (o.2 4 (by omega)).2))
          refine wp_rn ⟨rfl, ⟨x.1.br1 w hb (fun _ _ => rfl) (fun b' c' _ hc' => ?_) (fun _ _ => rfl) (fun a ha => ?_) (fun a q1 q2 => cl a (by omega) (by omega) (by omega)) (fun a q1 q2 q3 => lab a q2 (fun q => q3 (Or.inl q))) (by rw [c3]; show h.2.1 ≤ h.2.1 + 3; omega) ei el (fun k j h1 h2 => ea' k j h2) (fun b' k hne hk => ?_) (fun b' c' _ hne h5 => ec b' c' h5 (fun q => hne q.1)) ?_ (fun c' hc' => ?_), x.2.ag (fun a q1 q2 => cl a (by omega) (by omega) (by omega))⟩, ⟨fun a q1 q2 => cl a (by omega) (by omega) (by omega), by rw [c3]; show h.2.1 + 3 ≤ _; omega, by rw [c3]; show h.2.2 + 67 ≤ _; omega⟩⟩
          · show (if b' = b ∧ c' = m then h.2.1 else gC g b' c') = _
            rw [if_neg (fun q => by rw [q.1, hm] at hc'; omega)]
          · show (if a < h.2.1 then gW g a else _) = _
            rw [if_pos ha]
          · by_cases k23 : k = 23
            · rw [k23, e23, if_neg hne]
            · exact ea' k b' (by omega)
          · unfold Br1
            rw [eL, en, nc', el9]
            refine ⟨c0, ?_, (cc _ (by show gB g b + 5 ≠ _; omega) (by show gB g b + 5 ≠ _; omega)).trans y2.2.2.1, fun i hi => ?_, ?_, ?_⟩
            · show h3.1 (gB g b) = _
              rw [cc _ (by omega) (by omega), y2.2.1]
              congr 2
              exact arI_c (fun j _ => by rw [es])
            · show h3.1 (gB g b + 6 + i) = _
              rw [cc _ (by omega) (by omega), y2.2.2.2.1 i hi]
              congr 2
              exact arL_c (fun j _ => by show σ.2.2 8 _ = σ'.2.2 8 _; rw [el])
            · show h3.1 (gB g b + 3) = _
              rw [cc _ (by omega) (by omega), y2.2.2.2.2.1]
              congr 2
              exact arI_c (fun j hj => by rw [ea' _ _ (by omega)])
            · show h3.1 (gB g b + 4) = _
              rw [c4]
              congr 2
              unfold arQ
              apply List.map_congr_left
              intro u _
              show _ = if u < m + 1 then some (if b = b ∧ u = m then h.2.1 else gC g b u) else none
              by_cases q : u = m
              · simp [q]
              · by_cases q2 : u < m
                · simp [q, q2, show u < m + 1 by omega]
                · simp [q, q2, show ¬ u < m + 1 by omega]
          · rw [nc'] at hc'
            by_cases q : c' = m
            · subst q
              have eg : gC (gB g, (fun b' c'' => if b' = b ∧ c'' = c' then h.2.1 else gC g b' c''), gT g, fun a => if a < h.2.1 then gW g a else 3 * (5 * b + c') + 1) b c' = h.2.1 := by show (if b = b ∧ c' = c' then h.2.1 else gC g b c') = _; rw [if_pos ⟨rfl, rfl⟩]
              unfold Ck1
              rw [eg]
              refine ⟨⟨lf, ?_, fun a ha => ?_⟩, o0, fun i hi => ⟨by rw [c3]; show h.2.1 + i < h.2.1 + 3; omega, ?_⟩⟩
              · rw [eL, el9, e26, if_pos rfl, e27, if_pos rfl]
                refine ⟨(cc _ (by omega) (by omega)).trans k2, (cc _ (by omega) (by omega)).trans l2.1, (cc _ (by omega) (by omega)).trans l2.2⟩
              · rw [eL] at ha
                unfold kdC atC
                rw [e24, if_pos rfl, e25, if_pos rfl, nI_clamp (by omega), en, v2' a ha, infM_c b v2 x0 a _ eq]
                obtain ⟨z, p, bq⟩ := wb.2.2.2.2.1
                refine cin_e (by omega) (by omega) (fun i hi => ?_)
                obtain ⟨s1, s2, s3⟩ := bq.2.2.2.2.2.2.2 i hi
                exact ⟨s1, by omega⟩
              · show (if h.2.1 + i < h.2.1 then gW g (h.2.1 + i) else 3 * (5 * b + c') + 1) = _
                rw [if_neg (by omega)]
            · have eg : gC (gB g, (fun b' c'' => if b' = b ∧ c'' = m then h.2.1 else gC g b' c''), gT g, fun a => if a < h.2.1 then gW g a else 3 * (5 * b + m) + 1) b c' = gC g b c' := by show (if b = b ∧ c' = m then h.2.1 else gC g b c') = _; rw [if_neg (fun z => q z.2)]
              obtain ⟨p1, p2⟩ := o2 b c' hb (by rw [hm]; omega)
              obtain ⟨f', f1', f2'⟩ := x.1.2.2.2.2.1 b c' hb (by rw [hm]; omega)
              unfold Ck1
              rw [eg]
              refine ⟨⟨f', ?_, fun a ha => ?_⟩, p1, fun i hi => ⟨by rw [c3]; show _ < h.2.1 + 3; have := (p2 i hi).1; omega, ?_⟩⟩
              · rw [eL, el9, ec b c' (by omega) (fun z => q z.2) 26 (by omega), ec b c' (by omega) (fun z => q z.2) 27 (by omega)]
                exact f1'.ag (fun i hi => lab _ (p2 i hi).1 (by rw [(p2 i hi).2]; omega))
              · rw [eL] at ha
                unfold kdC atC
                rw [ec b c' (by omega) (fun z => q z.2) 24 (by omega), ec b c' (by omega) (fun z => q z.2) 25 (by omega), en, infM_c b _ _ a _ eq]
                exact f2' a ha
              · show (if gC g b c' + i < h.2.1 then gW g (gC g b c' + i) else _) = _
                rw [if_pos (p2 i hi).1]
                exact (p2 i hi).2
        · refine rm_gA (rm_ldI b rfl (by show _ < 6; omega) ?_)
          rw [wb.2.2.2.2.2.1, hm]
          refine rm_gA (rm_stI (5 * b + m) (ix5 b m) (by show _ < 30; omega) (rm_gA (rm_stI (5 * b + m) (ix5 b m) (by show _ < 30; omega) (rm_gA (rm_stI (5 * b + m) (ix5 b m) (by show _ < 30; omega) (rm_gA (rm_stI (5 * b + m) (ix5 b m) (by show _ < 30; omega) ?_)))))))
          refine rm_gA (rm_ldI b rfl (by show _ < 6; omega) ?_)
          rw [show ((((σ.sa 24 (5 * b + m) v2).sa 25 (5 * b + m) (nI x0)).sa 26 (5 * b + m) v4).sa 27 (5 * b + m) v5).a 23 b = nI m from wb.2.2.2.2.2.1.trans (by rw [hm]), nI_1]
          refine rm_stI b rfl (by show _ < 6; omega) ?_
          rw [hs']
          refine rm_gA (rm_ldI b rfl (by show _ < 6; omega) ?_)
          rw [e23, if_pos rfl, nI_pred]
          exact rm_rn ⟨rfl, SmE.rf _⟩
        · refine w.br1 (b0 := b) ei el (fun k j h1 h2 => ea' k j h2) (fun b' k hne hk => ?_) (fun b' c' _ hne h5 => ec b' c' h5 (fun q => hne q.1)) ?_ ?_
          · by_cases k23 : k = 23
            · rw [k23, e23, if_neg hne]
            · exact ea' k b' (by omega)
          · obtain ⟨p1, p2, p3, p4, ⟨z, p, p5⟩, p6, p7, p8⟩ := wb
            unfold WFb
            rw [eL, en, nc', ea' 1 b (by omega), ea' 2 b (by omega), ea' 3 b (by omega), e23, if_pos rfl]
            refine ⟨p1, p2, p3, p4, ⟨z, p, ?_⟩, rfl, by omega, fun c' hc' => ?_⟩
            · obtain ⟨q1, q2, q3, q4, q5, q6, q7, q8⟩ := p5
              refine ⟨q1, q2, fun a k ha hk => ?_, el9.trans q4, q5, q6, q7, fun j hj => ?_⟩
              · rw [← q3 a k ha hk]
                show σ'.2.2 8 _ = σ.2.2 8 _
                rw [el]
              · rw [es, es, ea' 4 _ (by omega)]
                exact q8 j hj
            · by_cases q : c' = m
              · subst q
                unfold WFc RsB kdC atC
                rw [e24, if_pos rfl, e25, if_pos rfl, e26, if_pos rfl, e27, if_pos rfl, nI_clamp (by omega), eL, en]
                exact ⟨hr, rfl, lm1, lm2⟩
              · have := p8 c' (by omega)
                unfold WFc RsB kdC atC at this ⊢
                rw [ec b c' (by omega) (fun z => q z.2) 24 (by omega), ec b c' (by omega) (fun z => q z.2) 25 (by omega), ec b c' (by omega) (fun z => q z.2) 26 (by omega), ec b c' (by omega) (fun z => q z.2) 27 (by omega), eL, en]
                exact this
          · unfold WFr
            rw [ea' 5 b (by omega), ea' 6 b (by omega), ea' 7 b (by omega), show nbd σ' = nbd σ by unfold nbd MS.i; rw [ei]]
            exact w.2.2.2.2.2.2.1 b (by omega)
