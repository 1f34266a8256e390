/-! Calls that change the state: what stays. -/
theorem Brg.ck {h : Hp} {β L n nh : Nat} {lo : Int64} {sn : Nat → Nat} {R : Nat → Nat → Int64} {ru : Nat → Int32} {nc : Nat} {κ κ' : Nat → Nat} (b : Brg h β L n nh lo sn R ru nc κ) (e : ∀ c, c < nc → κ' c = κ c) : Brg h β L n nh lo sn R ru nc κ' := by
  obtain ⟨b1, b2, b3, b4, b5, b6⟩ := b
  refine ⟨b1, b2, b3, b4, b5, ?_⟩
  rw [b6]
  congr 2
  unfold arQ
  apply List.map_congr_left
  intro c _
  by_cases q : c < nc
  · simp [q, e c q]
  · simp [q]
/-- old units in a new heap, where their labels are not touched -/
theorem PX.upd {h h' : Hp} {B : Nat} {g g' : Gh} {σ : MS} {X : Nat → Prop} (w : WF σ) (x : PX h B g σ) (e1 : ∀ b, b < nbd σ → gB g' b = gB g b) (e2 : ∀ b c, b < nbd σ → c < ncd σ b → gC g' b c = gC g b c) (e3 : ∀ t, t < ntd σ → gT g' t = gT g t) (e4 : ∀ a, a < h.2.1 → gW g' a = gW g a) (z : ∀ a, B + 72 ≤ a → a < h.2.1 → ¬ X (gW g a) → h'.1 a = h.1 a) (t : h.2.1 ≤ h'.2.1) :
    (∀ b, b < nbd σ → ¬ X (3 * b) → Br1 h' g' σ b) ∧ (∀ b c, b < nbd σ → c < ncd σ b → ¬ X (3 * (5 * b + c) + 1) → Ck1 h' g' σ b c) ∧ (∀ u, u < ntd σ → ¬ X (3 * u + 2) → Tr1 h' g' σ u) ∧ PO h' B g' σ := by
  obtain ⟨x1, x2, x3, x4, x5, x6, o0, o1, o2, o3⟩ := x
  refine ⟨fun b hb nx => ?_, fun b c hb hc nx => ?_, fun u hu nx => ?_, by omega, fun b hb => ?_, fun b c hb hc => ?_, fun u hu => ?_⟩
  · obtain ⟨a1, a2⟩ := o1 b hb
    have n5 := (w.wb hb).1.n
    have q : Brg h' (gB g b) (Ld σ b) (nsd σ b) (nsd σ b - 2) (σ.l 9 b) (spd σ b) (fun i a => σ.l 8 (5 * (61 * b + a) + i)) (fun k => σ.a (5 + k) b) (ncd σ b) (gC g b) := (x4 b hb).ag (fun i hi => z _ (by omega) (a2 i hi).1 (by rw [(a2 i hi).2]; exact nx)) (by omega)
    unfold Br1
    rw [e1 b hb]
    exact q.ck (fun c hc => e2 b c hb hc)
  · obtain ⟨a1, a2⟩ := o2 b c hb hc
    obtain ⟨f, f1, f2⟩ := x5 b c hb hc
    unfold Ck1
    rw [e2 b c hb hc]
    exact ⟨f, f1.ag (fun i hi => z _ (by omega) (a2 i hi).1 (by rw [(a2 i hi).2]; exact nx)), f2⟩
  · obtain ⟨a1, a2⟩ := o3 u hu
    obtain ⟨W, gn, f1, f2⟩ := x6 u hu
    unfold Tr1
    rw [e3 u hu]
    exact ⟨W, gn, f1.ag (fun i hi => z _ (by omega) (a2 i hi).1 (by rw [(a2 i hi).2]; exact nx)), f2⟩
  · obtain ⟨a1, a2⟩ := o1 b hb
    rw [e1 b hb]
    exact ⟨a1, fun i hi => ⟨by have := (a2 i hi).1; omega, by rw [e4 _ (a2 i hi).1]; exact (a2 i hi).2⟩⟩
  · obtain ⟨a1, a2⟩ := o2 b c hb hc
    rw [e2 b c hb hc]
    exact ⟨a1, fun i hi => ⟨by have := (a2 i hi).1; omega, by rw [e4 _ (a2 i hi).1]; exact (a2 i hi).2⟩⟩
  · obtain ⟨a1, a2⟩ := o3 u hu
    rw [e3 u hu]
    exact ⟨a1, fun i hi => ⟨by have := (a2 i hi).1; omega, by rw [e4 _ (a2 i hi).1]; exact (a2 i hi).2⟩⟩
theorem SlE.rf (σ : MS) (b : Nat) : SlE σ σ b := ⟨fun _ _ => rfl, fun _ _ => rfl, fun _ _ _ _ => rfl, rfl⟩
/-- without a change of labels -/
theorem PX.upd0 {h h' : Hp} {B : Nat} {g : Gh} {σ : MS} {X : Nat → Prop} (w : WF σ) (x : PX h B g σ) (z : ∀ a, B + 72 ≤ a → a < h.2.1 → ¬ X (gW g a) → h'.1 a = h.1 a) (t : h.2.1 ≤ h'.2.1) :
    (∀ b, b < nbd σ → ¬ X (3 * b) → Br1 h' g σ b) ∧ (∀ b c, b < nbd σ → c < ncd σ b → ¬ X (3 * (5 * b + c) + 1) → Ck1 h' g σ b c) ∧ (∀ u, u < ntd σ → ¬ X (3 * u + 2) → Tr1 h' g σ u) ∧ PO h' B g σ := x.upd w (fun _ _ => rfl) (fun _ _ _ _ => rfl) (fun _ _ => rfl) (fun _ _ => rfl) z t
theorem FrC.up {B : Nat} {h : Hp} {a : Nat} (c : AC) (ha : a < B + 42 ∨ B + 72 ≤ a) : FrC B h (up h a c) := ⟨fun b h1 h2 => up_n (by omega), by show h.2.1 ≤ _; omega, by show h.2.2 ≤ _; omega⟩
theorem FrC.upt {B : Nat} {h h1 : Hp} {a : Nat} (f : FrC B h h1) (c : AC) (ha : a < B + 42 ∨ B + 72 ≤ a) : FrC B h (_root_.Jvm.Pilot.CRollingLoadsLaw_law_r9443_58a3c9.up h1 a c) := ⟨fun b h1 h2 => (up_n (by omega)).trans (f.1 b h1 h2), f.2.1, f.2.2⟩
theorem nbd_n {σ : MS} {k : Nat} (h : σ.i 0 = nI k) (hk : k < 2 ^ 31) : nbd σ = k := by unfold nbd; rw [h, nI_clamp hk]
theorem ntd_n {σ : MS} {k : Nat} (h : σ.i 12 = nI k) (hk : k < 2 ^ 31) : ntd σ = k := by unfold ntd; rw [h, nI_clamp hk]
theorem nrd_n {σ : MS} {k : Nat} (h : σ.i 28 = nI k) (hk : k < 2 ^ 31) : nrd σ = k := by unfold nrd; rw [h, nI_clamp hk]
/-! usual -/
theorem usual_s (B : Nat) (v1 : Int32) : StC B (pX10_usual B v1) (pX11_usual (B + 42) v1) := by
  refine stp_g (fun h g σ x w => ?_)
  have x1 := x.1.1
  have go : (v1 = -1 ∨ ∃ t, t < ntd σ ∧ v1 = nI t) → ∃ r σ' g', WP (bX10_usual_17 B v1) h (fun r' h' => r' = r ∧ IX h' B g' σ' ∧ FrC B h h') ∧ RM (B + 42) (bX11_usual_17 (B + 42) v1) σ (fun r' τ => r' = r ∧ SmE σ' τ) ∧ WF σ' := by
    intro hv
    refine ⟨σ.i 17, σ.si 17 v1, g, ?_, ?_, ?_⟩
    · unfold bX10_usual_17
      refine wp_gI (k := 4) x1 rfl ?_
      refine wp_pF (k := 4) x1 (by simp) ?_
      obtain ⟨u1, u2, u3, u4⟩ := PX.upd0 (h' := up h B (ob 10 ([vr (some (B + 1)), vi (nI (nbd σ)), vr (some (B + 2)), vi (nI (ntd σ)), vi (σ.i 17), vr (some (B + 3)), vr (some (B + 11)), vr (some (B + 18)), vr (some (B + 20)), vr (some (B + 22)), vr (some (B + 26)), vr (some (B + 36)), vr (some (B + 38)), vr (some (B + 41))].set 4 (vi v1)))) (X := fun _ => False) w x.1 (fun a a1 _ _ => up_n (by omega)) (Nat.le_refl _)
      refine wp_rn ⟨rfl, ⟨⟨up_s _ _ _, ?_, ?_, fun b hb => u1 b hb (fun q => q), fun b c hb hc => (u2 b c hb hc (fun q => q)).tr (w.wb hb).1 hc ⟨fun _ _ => rfl, fun _ _ => rfl, fun _ _ _ _ => rfl, rfl⟩ (fun _ _ => rfl), fun t ht => u3 t ht (fun q => q), u4⟩, x.2.ag (fun a a1 a2 => up_n (by omega))⟩, FrC.up _ (by omega)⟩
      · exact ⟨(up_n (by omega)).trans x.1.2.1.1, (up_n (by omega)).trans x.1.2.1.2⟩
      · obtain ⟨⟨wc, wm, y1⟩, y2, y3, y4, y5⟩ := x.1.2.2.1
        exact ⟨⟨wc, wm, (up_n (by omega)).trans y1⟩, (up_n (by omega)).trans y2, (up_n (by omega)).trans y3, (up_n (by omega)).trans y4, (up_n (by omega)).trans y5⟩
    · unfold bX11_usual_17
      exact rm_gI (rm_pI (rm_rn ⟨rfl, SmE.rf _⟩))
    · obtain ⟨w1, w2, w3, w4, w5, w6, w7, w8, w9⟩ := w
      exact ⟨w1, w2, w3, w4, hv, w6, w7, w8, w9⟩
  unfold pX10_usual pX11_usual
  by_cases c : v1 = -1
  · rw [if_pos c, if_pos c]
    exact go (Or.inl c)
  · rw [if_neg c, if_neg c]
    rcases trAt x w v1 with ⟨hi, e⟩ | ⟨hi, t, ht, rfl, e⟩
    · refine ⟨-1001, σ, g, wp_e (by rw [vc_e x1]; exact e) ?_, rm_ro (ro_vc (noTrain_r v1)) ?_, w⟩
      · rw [if_pos rfl]; exact wp_rn ⟨rfl, x, FrC.rf B h⟩
      · rw [hi]; exact rm_rn ⟨rfl, SmE.rf σ⟩
    · obtain ⟨r, σ', g', q1, q2, q3⟩ := go (Or.inr ⟨t, ht, rfl⟩)
      refine ⟨r, σ', g', wp_e (by rw [vc_e x1]; exact e) ?_, rm_ro (ro_vc (noTrain_r _)) ?_, q3⟩
      · rw [if_neg (by simp)]; exact q1
      · rw [hi]; exact q2
/-! traffic, axle -/
/-- one train is changed -/
theorem PX.tr1 {h h' : Hp} {B : Nat} {g : Gh} {σ σ' : MS} {t : Nat} (w : WF σ) (x : PX h B g σ) (ht : t < ntd σ) (hs : ∀ a, a < B + 72 → h'.1 a = h.1 a) (z : ∀ a, B + 72 ≤ a → a < h.2.1 → gW g a ≠ 3 * t + 2 → h'.1 a = h.1 a) (z2 : h'.2 = h.2) (ei : σ'.1 = σ.1) (el : σ'.2.2 = σ.2.2) (ea : ∀ k j, ¬ (13 ≤ k ∧ k ≤ 16) → σ'.a k j = σ.a k j) (et : ∀ u, u < ntd σ → u ≠ t → TrE σ σ' u) (n1 : Tr1 h' g σ' t) : PX h' B g σ' := by
  obtain ⟨u1, u2, u3, u4⟩ := PX.upd0 (h' := h') (X := fun l => l = 3 * t + 2) w x z (by rw [z2]; exact Nat.le_refl _)
  have eb : nbd σ' = nbd σ := by unfold nbd MS.i; rw [ei]
  have en : ntd σ' = ntd σ := by unfold ntd MS.i; rw [ei]
  have er : nrd σ' = nrd σ := by unfold nrd MS.i; rw [ei]
  have sl : ∀ b, SlE σ σ' b := fun b => ⟨fun k hk => ea k b (by omega), fun k _ => ea 4 _ (by omega), fun a k _ _ => by show σ'.2.2 8 _ = _; rw [el]; rfl, by show σ'.2.2 9 _ = _; rw [el]; rfl⟩
  have ck : ∀ b c, CkE σ σ' b c := fun b c k hk => ea k _ (by omega)
  obtain ⟨x1, x2, ⟨⟨wc, wm, x30⟩, x31, x32, x33, x34⟩, _, _, _, _⟩ := x
  have ef : ∀ k, ¬ (13 ≤ k ∧ k ≤ 16) → σ'.a k = σ.a k := fun k hk => funext fun j => ea k j hk
  refine ⟨?_, ?_, ?_, ?_, ?_, ?_, ?_⟩
  · unfold PM
    rw [eb, en, hs _ (by omega), show σ'.i 17 = σ.i 17 by unfold MS.i; rw [ei]]
    exact x1
  · unfold PA
    rw [eb, en, hs _ (by omega), hs _ (by omega)]
    exact x2
  · unfold PR
    rw [er, ef 29 (by omega), ef 30 (by omega), ef 31 (by omega), ef 32 (by omega), hs (B + 3) (by omega), hs (B + 4) (by omega), hs (B + 5) (by omega), hs (B + 6) (by omega), hs (B + 7) (by omega)]
    exact ⟨⟨wc, wm, x30⟩, x31, x32, x33, x34⟩
  · rw [eb]
    exact fun b hb => (u1 b hb (by omega)).tr (w.wb hb).1 (sl b)
  · rw [eb]
    intro b c hb hc
    rw [(sl b).c] at hc
    exact (u2 b c hb hc (by omega)).tr (w.wb hb).1 hc (sl b) (ck b c)
  · rw [en]
    intro u hu
    by_cases c : u = t
    · subst c; exact n1
    · exact (u3 u hu (by omega)).tr (et u hu c)
  · unfold PO at u4 ⊢
    rw [eb, en]
    refine ⟨u4.1, fun b hb => ?_, fun b c hb hc => ?_, u4.2.2.2⟩
    · rw [(sl b).n]; exact u4.2.1 b hb
    · rw [(sl b).c] at hc; exact u4.2.2.1 b c hb hc
theorem WF.tr1 {σ σ' : MS} {t : Nat} (w : WF σ) (ei : σ'.1 = σ.1) (el : σ'.2.2 = σ.2.2) (ea : ∀ k j, ¬ (13 ≤ k ∧ k ≤ 16) → σ'.a k j = σ.a k j) (et : ∀ u, u < ntd σ → u ≠ t → TrE σ σ' u) (n1 : WFt σ' t) : WF σ' := by
  have eb : nbd σ' = nbd σ := by unfold nbd MS.i; rw [ei]
  have en : ntd σ' = ntd σ := by unfold ntd MS.i; rw [ei]
  have er : nrd σ' = nrd σ := by unfold nrd MS.i; rw [ei]
  have sl : ∀ b, SlE σ σ' b := fun b => ⟨fun k hk => ea k b (by omega), fun k _ => ea 4 _ (by omega), fun a k _ _ => by show σ'.2.2 8 _ = _; rw [el]; rfl, by show σ'.2.2 9 _ = _; rw [el]; rfl⟩
  have ck : ∀ b c, CkE σ σ' b c := fun b c k hk => ea k _ (by omega)
  have e : ∀ k, σ'.i k = σ.i k := fun k => by unfold MS.i; rw [ei]
  obtain ⟨w1, w2, w3, w4, w5, w6, w7, w8, w9⟩ := w
  unfold WF
  rw [eb, en, er, e, e, e, e]
  refine ⟨w1, w2, w3, ⟨(e 20).trans w4.1, (e 18).trans w4.2.1, (e 19).trans w4.2.2⟩, w5, fun b hb => (w6 b hb).tr (sl b) (fun c _ => ck b c), fun b hb => ?_, fun u hu => ?_, fun r hr => ?_⟩
  · unfold WFr
    rw [ea 5 b (by omega), ea 6 b (by omega), ea 7 b (by omega), eb]
    exact w7 b hb
  · by_cases c : u = t
    · subst c; exact n1
    · exact (w8 u hu).tr (et u hu c)
  · unfold WFo
    rw [ea 29 r (by omega), ea 30 r (by omega), ea 31 r (by omega), ea 32 r (by omega), eb]
    exact w9 r hr
theorem traffic_s (B : Nat) (v1 v2 : Int32) : StC B (pX10_traffic B v1 v2) (pX11_traffic (B + 42) v1 v2) := by
  refine stp_g (fun h g σ x w => ?_)
  have x1 := x.1.1
  unfold pX10_traffic pX11_traffic
  rcases trAt x w v1 with ⟨hi, e⟩ | ⟨hi, t, ht, rfl, e⟩
  · refine ⟨-1001, σ, g, wp_e (by rw [vc_e x1]; exact e) ?_, rm_ro (ro_vc (noTrain_r v1)) ?_, w⟩
    · rw [if_pos rfl]; exact wp_rn ⟨rfl, x, FrC.rf B h⟩
    · rw [hi]; exact rm_rn ⟨rfl, SmE.rf σ⟩
  · have w8 := w.2.1.2
    have wt := (w.tr ht).2.1
    cases hv : inB v2 0 1000
    · refine ⟨-1002, σ, g, wp_e (by rw [vc_e x1]; exact e) ?_, rm_ro (ro_vc (noTrain_r _)) ?_, w⟩
      · rw [if_neg (by simp)]
        refine wp_e (within_e _ _ _ h) ?_
        rw [hv, if_pos (by rfl)]
        exact wp_rn ⟨rfl, x, FrC.rf B h⟩
      · rw [hi, if_pos (show bI (!true) = 0 from rfl)]
        refine rm_eq (in_e v2 0 1000) ?_
        rw [hv, if_pos (by rfl)]
        exact rm_rn ⟨rfl, SmE.rf σ⟩
    · obtain ⟨n, hn, rfl⟩ := inB_le (n := 1000) (by omega) hv
      obtain ⟨o1, o2⟩ := x.1.2.2.2.2.2.2.2.2.2 t ht
      have et : ∀ u, u < ntd σ → u ≠ t → TrE σ (σ.sa 16 t (nI n)) u := fun u _ hu => ⟨rfl, by rw [sa_a, if_neg (by omega)], fun k _ => ⟨rfl, rfl⟩⟩
      have ea : ∀ k j, ¬ (13 ≤ k ∧ k ≤ 16) → (σ.sa 16 t (nI n)).a k j = σ.a k j := fun k j hk => by rw [sa_a, if_neg (by omega)]
      refine ⟨σ.a 16 t, σ.sa 16 t (nI n), g, wp_e (by rw [vc_e x1]; exact e) ?_, rm_ro (ro_vc (noTrain_r _)) ?_, ?_⟩
      · rw [if_neg (by simp)]
        refine wp_e (within_e _ _ _ h) ?_
        rw [hv, if_neg (by decide)]
        obtain ⟨W, gn, t1, t2⟩ := x.1.2.2.2.2.2.1 t ht
        refine wp_gI (k := 3) t1.1 rfl ?_
        refine wp_pF (k := 3) t1.1 (by simp) ?_
        refine wp_rn ⟨rfl, ⟨x.1.tr1 w ht (fun a ha => up_n (by omega)) (fun a a1 a2 a3 => up_n (fun q => a3 (by rw [q]; exact (o2 0 (by omega)).2))) rfl rfl rfl ea et ?_, x.2.ag (fun a a1 a2 => up_n (by omega))⟩, FrC.up _ (by omega)⟩
        refine ⟨W, gn, ⟨?_, (up_n (by omega)).trans t1.2.1, (up_n (by omega)).trans t1.2.2⟩, t2⟩
        rw [sa_a, if_pos ⟨rfl, rfl⟩]
        exact up_s _ _ _
      · rw [hi, if_pos (show bI (!true) = 0 from rfl)]
        refine rm_eq (in_e (nI n) 0 1000) ?_
        rw [hv, if_neg (by decide)]
        exact rm_gA (rm_ldI t rfl (by show _ < 8; omega) (rm_gA (rm_stI t rfl (by show _ < 8; omega) (rm_rn ⟨rfl, SmE.rf _⟩))))
      · refine w.tr1 (t := t) rfl rfl ea et ?_
        obtain ⟨a1, a2, a3, a4, a5, a6⟩ := wt
        exact ⟨a1, a2, a3, a4, a5, n, hn, by rw [sa_a, if_pos ⟨rfl, rfl⟩]⟩
