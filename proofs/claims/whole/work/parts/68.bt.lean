/-! Both sides at once: calls that leave the state. -/
def Bt {R : Type} (B : Nat) (h0 h : Hp) (g : Gh) (σ : MS) (P P' : Mo R) : Prop := ∃ r, WP P h (fun r' h' => r' = r ∧ IX h' B g σ ∧ FrC B h0 h') ∧ RM (B + 42) P' σ (fun r' τ => r' = r ∧ SmE σ τ)
theorem stp_bt {R : Type} {B : Nat} {P P' : Mo R} (H : ∀ h g σ, IX h B g σ → WF σ → Bt B h h g σ P P') : StC B P P' := stp_ro H
section Bt
variable {R A : Type} {B : Nat} {h0 h : Hp} {g : Gh} {σ : MS}
theorem bt_rn {r : R} (x : IX h B g σ) (f : FrC B h0 h) : Bt B h0 h g σ (rn r) (rn r) := ⟨r, wp_rn ⟨rfl, x, f⟩, rm_rn ⟨rfl, SmE.rf σ⟩⟩
theorem bt_eL {P : Mo A} {K : A → Mo R} {P' : Mo R} {a : A} (e : P h = some (a, h)) (k : Bt B h0 h g σ (K a) P') : Bt B h0 h g σ (bd P K) P' := by
  obtain ⟨r, k1, k2⟩ := k
  exact ⟨r, wp_e e k1, k2⟩
theorem bt_eR {P : Mo R} {P' : Mo A} {K' : A → Mo R} {a : A} (e : RO (B + 42) P' σ a) (k : Bt B h0 h g σ P (K' a)) : Bt B h0 h g σ P (bd P' K') := by
  obtain ⟨r, k1, k2⟩ := k
  exact ⟨r, k1, rm_ro e k2⟩
theorem bt_gA {P : Mo R} {k : Nat} {f : Option Nat → Mo R} (q : Bt B h0 h g σ P (f (some (B + 42 + adM k)))) (hk : k < 41 := by decide) (hz : kdM k ≠ 0 := by decide) : Bt B h0 h g σ P (bd (gA (some (B + 42)) 11 k) f) := by
  obtain ⟨r, k1, k2⟩ := q
  exact ⟨r, k1, rm_gA k2 hk hz⟩
theorem bt_gI {P : Mo R} {k : Nat} {f : Int32 → Mo R} (q : Bt B h0 h g σ P (f (σ.i k))) (hk : k < 41 := by decide) (hz : kdM k = 0 := by decide) : Bt B h0 h g σ P (bd (gI (some (B + 42)) 11 k) f) := by
  obtain ⟨r, k1, k2⟩ := q
  exact ⟨r, k1, rm_gI k2 hk hz⟩
theorem bt_ldI {P : Mo R} {k : Nat} {i : Int32} (j : Nat) (hi : i = nI j) (hj : j < lnM k) {f : Int32 → Mo R} (q : Bt B h0 h g σ P (f (σ.a k j))) (hk : k < 41 := by decide) (hz : kdM k = 1 := by decide) : Bt B h0 h g σ P (bd (ldI 0 (some (B + 42 + adM k)) i) f) := by
  obtain ⟨r, k1, k2⟩ := q
  exact ⟨r, k1, rm_ldI j hi hj k2 hk hz⟩
theorem bt_ldL {P : Mo R} {k : Nat} {i : Int32} (j : Nat) (hi : i = nI j) (hj : j < lnM k) {f : Int64 → Mo R} (q : Bt B h0 h g σ P (f (σ.l k j))) (hk : k < 41 := by decide) (hz : kdM k = 3 := by decide) : Bt B h0 h g σ P (bd (ldL (some (B + 42 + adM k)) i) f) := by
  obtain ⟨r, k1, k2⟩ := q
  exact ⟨r, k1, rm_ldL j hi hj k2 hk hz⟩
theorem bt_in {v lo hi : Int32} {a b a' b' : Mo R} (k0 : inB v lo hi = false → Bt B h0 h g σ a a') (k1 : inB v lo hi = true → Bt B h0 h g σ b b') : Bt B h0 h g σ (bd (pX10_within v lo hi) fun x => if x = 0 then a else b) (bd (pX11_in v.toInt64 lo.toInt64 hi.toInt64) fun x => if x = 0 then a' else b') := by
  refine bt_eL (within_e v lo hi h) (bt_eR (ro_of (in_e v lo hi)) ?_)
  cases hi : inB v lo hi
  · rw [if_pos (by rfl), if_pos (by rfl)]; exact k0 hi
  · rw [if_neg (by decide), if_neg (by decide)]; exact k1 hi
theorem bt_sup (x : IX h B g σ) (w : WF σ) {b : Nat} (hb : b < nbd σ) {kind at_ : Int32} {a u a' u' : Mo R} (k0 : Bt B h0 h g σ u u') (k1 : (kind = 0 → inB at_ 0 (nI (nsd σ b) - 1) = true) → Bt B h0 h g σ a a') : Bt B h0 h g σ (bd (vc 0 (some (gB g b + 2)) (fun o => pX0_lacksSupport o kind at_)) fun x => if x = 0 then a else u) (bd (vc 11 (some (B + 42)) (fun o => pX11_noSupport o (nI b) kind at_)) fun x => if x = 0 then a' else u') := by
  have y := x.1.2.2.2.1 b hb
  have wb := (w.wb hb).1
  have b6 := w.1.2
  refine bt_eL (by rw [vc_e y.1]; exact lacks_e y kind at_) (bt_eR (ro_vc (noSupport_r (by omega) kind at_)) ?_)
  rw [wb.2.2.1]
  by_cases c : kind = 0
  · cases hi : inB at_ 0 (nI (nsd σ b) - 1)
    · rw [decide_eq_true c, if_neg (by decide), if_neg (by decide)]; exact k0
    · rw [decide_eq_true c, if_pos (by rfl), if_pos (by rfl)]; exact k1 (fun _ => hi)
  · rw [decide_eq_false c, if_pos (by rfl), if_pos (by rfl)]; exact k1 (fun q => absurd q c)
theorem bt_res (x : IX h B g σ) (w : WF σ) {b : Nat} (hb : b < nbd σ) {kind at_ : Int32} (hs : kind = 0 → inB at_ 0 (nI (nsd σ b) - 1) = true) {a u a' u' : Mo R} (k0 : Bt B h0 h g σ u u') (k1 : ∀ x0, at_ = nI x0 → RsB σ b kind x0 → Bt B h0 h g σ a a') : Bt B h0 h g σ (bd (vc 0 (some (gB g b + 2)) (fun o => pX0_hasResponse o kind at_)) fun x => if x = 0 then u else a) (bd (vc 11 (some (B + 42)) (fun o => pX11_isResponse o (nI b) kind at_)) fun x => if x = 0 then u' else a') := by
  have y := x.1.2.2.2.1 b hb
  have wb := (w.wb hb).1
  have b6 := w.1.2
  refine bt_eL (by rw [vc_e y.1]; exact hasR_e y kind at_) (bt_eR (ro_vc (isResponse_r (by omega) kind at_)) ?_)
  rw [wb.1]
  by_cases c : kind = 0
  · have hi := hs c
    obtain ⟨j, hj, e⟩ := inB_ix (by have := wb.n; omega) hi
    rw [if_pos c, hi, if_neg (by decide), decide_eq_true c, if_neg (by cases inB at_ 0 (nI (Ld σ b)) <;> cases decide (kind = 1) <;> decide)]
    exact k1 j e (Or.inl ⟨c, hj⟩)
  · rw [if_neg c, decide_eq_false c]
    by_cases c1 : kind = 1
    · rw [decide_eq_true c1]
      cases hi : inB at_ 0 (nI (Ld σ b))
      · rw [if_pos (by rfl), if_pos (by rfl)]; exact k0
      · obtain ⟨j, hj, e⟩ := inB_le (by have := wb.2.1; omega) hi
        rw [if_neg (by decide), if_neg (by decide)]; exact k1 j e (Or.inr ⟨c1, hj⟩)
    · rw [decide_eq_false c1, if_pos (by rfl), if_pos (by rfl)]; exact k0
end Bt
/-! after a change of room -/
section Sx
variable {h h' : Hp} {B : Nat} {S : Nat → Prop}
theorem SX.u2 (x : SX h B) (F : Fr S h h') (d : ∀ a, S a → B + 18 ≤ a ∧ a < B + 20) (n : S2 h' B) : SX h' B := by
  obtain ⟨a1, a2, a3, a4, a5, a6, a7, a8, a9, a10, a11, a12⟩ := x
  have q : ∀ lo hi, (hi ≤ 18 ∨ 20 ≤ lo) → Ag h h' B lo hi := fun lo hi hh => Ag.fr F (fun a ha => by have := d a ha; omega)
  exact ⟨a1.ag (q _ _ (by omega)), n, a3.ag (q _ _ (by omega)), a4.ag (q _ _ (by omega)), a5.ag (q _ _ (by omega)), a6.ag (q _ _ (by omega)), a7.ag (q _ _ (by omega)), a8.ag (q _ _ (by omega)), a9.ag (q _ _ (by omega)), a10.ag (q _ _ (by omega)), a11.ag (q _ _ (by omega)), a12.ag (q _ _ (by omega))⟩
theorem SX.u34 (x : SX h B) (F : Fr S h h') (d : ∀ a, S a → B + 20 ≤ a ∧ a < B + 26) (n : S3 h' B) (n4 : S4 h' B) : SX h' B := by
  obtain ⟨a1, a2, a3, a4, a5, a6, a7, a8, a9, a10, a11, a12⟩ := x
  have q : ∀ lo hi, (hi ≤ 20 ∨ 26 ≤ lo) → Ag h h' B lo hi := fun lo hi hh => Ag.fr F (fun a ha => by have := d a ha; omega)
  exact ⟨a1.ag (q _ _ (by omega)), a2.ag (q _ _ (by omega)), n, n4, a5.ag (q _ _ (by omega)), a6.ag (q _ _ (by omega)), a7.ag (q _ _ (by omega)), a8.ag (q _ _ (by omega)), a9.ag (q _ _ (by omega)), a10.ag (q _ _ (by omega)), a11.ag (q _ _ (by omega)), a12.ag (q _ _ (by omega))⟩
theorem SX.u58 (x : SX h B) (F : Fr S h h') (d : ∀ a, S a → B + 26 ≤ a ∧ a < B + 36) (n5 : S5 h' B) (n6 : S6 h' B) (n7 : S7 h' B) (n8 : S8 h' B) : SX h' B := by
  obtain ⟨a1, a2, a3, a4, a5, a6, a7, a8, a9, a10, a11, a12⟩ := x
  have q : ∀ lo hi, (hi ≤ 26 ∨ 36 ≤ lo) → Ag h h' B lo hi := fun lo hi hh => Ag.fr F (fun a ha => by have := d a ha; omega)
  exact ⟨a1.ag (q _ _ (by omega)), a2.ag (q _ _ (by omega)), a3.ag (q _ _ (by omega)), a4.ag (q _ _ (by omega)), n5, n6, n7, n8, a9.ag (q _ _ (by omega)), a10.ag (q _ _ (by omega)), a11.ag (q _ _ (by omega)), a12.ag (q _ _ (by omega))⟩
theorem SX.u9 (x : SX h B) (F : Fr S h h') (d : ∀ a, S a → B + 36 ≤ a ∧ a < B + 38) (n : S9 h' B) : SX h' B := by
  obtain ⟨a1, a2, a3, a4, a5, a6, a7, a8, a9, a10, a11, a12⟩ := x
  have q : ∀ lo hi, (hi ≤ 36 ∨ 38 ≤ lo) → Ag h h' B lo hi := fun lo hi hh => Ag.fr F (fun a ha => by have := d a ha; omega)
  exact ⟨a1.ag (q _ _ (by omega)), a2.ag (q _ _ (by omega)), a3.ag (q _ _ (by omega)), a4.ag (q _ _ (by omega)), a5.ag (q _ _ (by omega)), a6.ag (q _ _ (by omega)), a7.ag (q _ _ (by omega)), a8.ag (q _ _ (by omega)), n, a10.ag (q _ _ (by omega)), a11.ag (q _ _ (by omega)), a12.ag (q _ _ (by omega))⟩
theorem SX.u10 (x : SX h B) (F : Fr S h h') (d : ∀ a, S a → B + 38 ≤ a ∧ a < B + 41) (n : S10 h' B) : SX h' B := by
  obtain ⟨a1, a2, a3, a4, a5, a6, a7, a8, a9, a10, a11, a12⟩ := x
  have q : ∀ lo hi, (hi ≤ 38 ∨ 41 ≤ lo) → Ag h h' B lo hi := fun lo hi hh => Ag.fr F (fun a ha => by have := d a ha; omega)
  exact ⟨a1.ag (q _ _ (by omega)), a2.ag (q _ _ (by omega)), a3.ag (q _ _ (by omega)), a4.ag (q _ _ (by omega)), a5.ag (q _ _ (by omega)), a6.ag (q _ _ (by omega)), a7.ag (q _ _ (by omega)), a8.ag (q _ _ (by omega)), a9.ag (q _ _ (by omega)), n, a11.ag (q _ _ (by omega)), a12.ag (q _ _ (by omega))⟩
theorem SX.u11 (x : SX h B) (F : Fr S h h') (d : ∀ a, S a → a = B + 41) (n : S11 h' B) : SX h' B := by
  obtain ⟨a1, a2, a3, a4, a5, a6, a7, a8, a9, a10, a11, a12⟩ := x
  have q : ∀ lo hi, (hi ≤ 41) → Ag h h' B lo hi := fun lo hi hh => Ag.fr F (fun a ha => by have := d a ha; omega)
  exact ⟨a1.ag (q _ _ (by omega)), a2.ag (q _ _ (by omega)), a3.ag (q _ _ (by omega)), a4.ag (q _ _ (by omega)), a5.ag (q _ _ (by omega)), a6.ag (q _ _ (by omega)), a7.ag (q _ _ (by omega)), a8.ag (q _ _ (by omega)), a9.ag (q _ _ (by omega)), a10.ag (q _ _ (by omega)), n, a12.ag (q _ _ (by omega))⟩
theorem SX.u1 (x : SX h B) (F : Fr S h h') (d : ∀ a, S a → B + 11 ≤ a ∧ a < B + 18) (n : S1 h' B) : SX h' B := by
  obtain ⟨a1, a2, a3, a4, a5, a6, a7, a8, a9, a10, a11, a12⟩ := x
  have q : ∀ lo hi, (hi ≤ 11 ∨ 18 ≤ lo) → Ag h h' B lo hi := fun lo hi hh => Ag.fr F (fun a ha => by have := d a ha; omega)
  exact ⟨n, a2.ag (q _ _ (by omega)), a3.ag (q _ _ (by omega)), a4.ag (q _ _ (by omega)), a5.ag (q _ _ (by omega)), a6.ag (q _ _ (by omega)), a7.ag (q _ _ (by omega)), a8.ag (q _ _ (by omega)), a9.ag (q _ _ (by omega)), a10.ag (q _ _ (by omega)), a11.ag (q _ _ (by omega)), a12.ag (q _ _ (by omega))⟩
end Sx
theorem FrC.tr {B : Nat} {h h1 h2 : Hp} {S : Nat → Prop} (f : FrC B h h1) (F : Fr S h1 h2) (d : ∀ a, S a → B + 3 ≤ a ∧ a < B + 42) : FrC B h h2 := ⟨fun a a1 a2 => (F.2 a (fun q => by have := d a q; omega)).trans (f.1 a a1 a2), by rw [F.1]; exact f.2.1, by rw [F.1]; exact f.2.2⟩
/-- the line of a response, drawn -/
theorem line_w {h0 h : Hp} {B : Nat} {g : Gh} {σ : MS} (x : IX h B g σ) (w : WF σ) (f0 : FrC B h0 h) {b x0 : Nat} {kind : Int32} (hb : b < nbd σ) (hr : RsB σ b kind x0) {Q : Unit → Hp → Prop} (q : ∀ h2 lf, IX h2 B g σ → FrC B h0 h2 → Lin h2 (B + 18) (B + 19) (Ld σ b) (σ.l 9 b) lf → (∀ a, a ≤ Ld σ b → lf a = infM σ b kind x0 a (nsd σ b)) → Q () h2) : WP (pX4_draw (B + 18) (some (gB g b + 2)) kind (nI x0)) h Q := by
  have y := x.1.2.2.2.1 b hb
  have wb := (w.wb hb).1
  have o := x.1.2.2.2.2.2.2.2.1 b hb
  obtain ⟨lo0, L0, f, e1, e2⟩ := x.2.2.1
  have n5 := wb.n
  have L6 := wb.2.1
  refine draw_w y e1 e2 (by omega) L6.2 hr (fun i hi => by omega) (by omega) (fun h2 f2 F2 l2 v2 => ?_)
  refine q h2 f2 ⟨x.1.fr w F2 (fun a ha => by omega), x.2.u2 F2 (fun a ha => by omega) ⟨_, _, _, l2.1, l2.2⟩⟩ (f0.tr F2 (fun a ha => by omega)) l2 (fun a ha => ?_)
  obtain ⟨z, p, bq⟩ := wb.2.2.2.2.1
  rw [v2 a ha]
  refine cin_e (by unfold RsB at hr; omega) (by omega) (fun i hi => ?_)
  obtain ⟨s1, s2, s3⟩ := bq.2.2.2.2.2.2.2 i hi
  exact ⟨s1, by omega⟩
theorem rsB_x {σ : MS} {b x : Nat} {kind : Int32} (wb : WFb σ b) (hr : RsB σ b kind x) : x ≤ 60 ∧ (kind = 0 → x < 5) := by
  have := wb.n
  have := wb.2.1
  unfold RsB at hr
  refine ⟨by omega, fun k => ?_⟩
  rcases hr with hr | hr
  · omega
  · rw [k] at hr; exact absurd hr.1 (by decide)
theorem inf_fra {σ : MS} (w : WF σ) {b x a : Nat} {kind : Int32} (hb : b < nbd σ) (hr : RsB σ b kind x) (ha : a ≤ Ld σ b) : Fra (infM σ b kind x a (nsd σ b)) (σ.l 9 b) := by
  obtain ⟨z, p, bq⟩ := (w.wb hb).1.2.2.2.2.1
  obtain ⟨e1, e2⟩ := inf_z bq hr ha
  exact ⟨_, p, e1, by omega, bq.2.2.2.1, bq.2.2.2.2.1.1, by have := bq.2.2.2.2.1.2; omega⟩
theorem influence_s (B : Nat) (v1 v2 v3 v4 v5 : Int32) : StC B (pX10_influence B v1 v2 v3 v4 v5) (pX11_influence (B + 42) v1 v2 v3 v4 v5) := by
  refine stp_bt (fun h g σ x w => ?_)
  have x1 := x.1.1
  unfold pX10_influence pX11_influence
  rcases brAt x w v1 with ⟨hi, e⟩ | ⟨hi, b, hb, rfl, e⟩
  · refine bt_eL (by rw [vc_e x1]; exact e) (bt_eR (ro_vc (noBridge_r v1)) ?_)
    rw [if_pos rfl, hi, if_neg (by decide)]
    exact bt_rn x (FrC.rf B h)
  · refine bt_eL (by rw [vc_e x1]; exact e) (bt_eR (ro_vc (noBridge_r _)) ?_)
    rw [if_neg (by simp), hi, if_pos (by rfl)]
    have wb := (w.wb hb).1
    have b6 := w.1.2
    have y := x.1.2.2.2.1 b hb
    refine bt_sup x w hb (bt_rn x (FrC.rf B h)) (fun hs => ?_)
    refine bt_res x w hb hs (bt_rn x (FrC.rf B h)) (fun x0 ex hr => ?_)
    subst ex
    refine bt_eL (gI_e (k := 0) y.1 rfl) (bt_gA (bt_ldI b rfl (by show _ < 6; omega) ?_))
    rw [wb.1]
    refine bt_in (fun _ => bt_rn x (FrC.rf B h)) (fun hia => ?_)
    obtain ⟨a, ha, rfl⟩ := inB_le (by have := wb.2.1; omega) hia
    refine bt_in (lo := 0) (hi := 1) (fun _ => bt_rn x (FrC.rf B h)) (fun hiw => ?_)
    have L6 := wb.2.1
    have rx := rsB_x wb hr
    have F := inf_fra w hb hr ha
    refine ⟨ptV (infM σ b v2 x0 a (nsd σ b)) (σ.l 9 b) v5, ?_, ?_⟩
    · refine wp_gA (k := 7) x1 rfl ?_
      refine wp_bd (wp_vc x.2.2.1.choose_spec.choose_spec.choose_spec.1 (line_w x w (FrC.rf B h) hb hr (fun h2 lf x2 f2 l2 v2 => ?_)))
      refine wp_gA (k := 7) x2.1.1 rfl ?_
      refine wp_gA (k := 0) l2.1 rfl ?_
      refine wp_ldL l2.2 rfl (by omega) (by omega) ?_
      refine wp_gA (k := 7) x2.1.1 rfl ?_
      refine wp_gL (k := 1) l2.1 rfl ?_
      rw [v2 a ha]
      refine wp_e (part_cls F v5 h2) (wp_rn ⟨rfl, x2, f2⟩)
    · refine rm_ro (ro_vc (influenceAt_r (n := nsd σ b) v2 (by omega) (by omega) wb.n.2 wb.2.2.1 rx.1 rx.2)) ?_
      refine rm_gA ?_
      refine rm_ldL b rfl (by show _ < 6; omega) ?_
      refine rm_eq (part_ref F v5) (rm_rn ⟨rfl, SmE.rf σ⟩)
