/-! Other states with the same bridges, trains, checks and roads. -/
def SmE (σ τ : MS) : Prop := (∀ k, k ≠ 21 → k ≠ 22 → k ≠ 38 → k ≠ 39 → k ≠ 40 → τ.i k = σ.i k) ∧ (∀ k j, k ≠ 11 → k ≠ 33 → k ≠ 34 → k ≠ 35 → k ≠ 36 → τ.a k j = σ.a k j) ∧ (∀ k j, k ≠ 10 → k ≠ 37 → τ.l k j = σ.l k j)
theorem SmE.rf (σ : MS) : SmE σ σ := ⟨fun _ _ _ _ _ _ => rfl, fun _ _ _ _ _ _ _ => rfl, fun _ _ _ _ => rfl⟩
theorem SmE.tr {σ τ υ : MS} (x : SmE σ τ) (y : SmE τ υ) : SmE σ υ := ⟨fun k a b c d e => (y.1 k a b c d e).trans (x.1 k a b c d e), fun k j a b c d e => (y.2.1 k j a b c d e).trans (x.2.1 k j a b c d e), fun k j a b => (y.2.2 k j a b).trans (x.2.2 k j a b)⟩
theorem SmE.br {σ τ : MS} (x : SmE σ τ) (m : Nat) : BrE m σ τ :=
  ⟨fun k _ a b c d e => x.1 k a b c d e, fun k j _ _ _ _ a _ b c d e => x.2.1 k j a b c d e, fun k j h _ => x.2.1 k j (by omega) (by omega) (by omega) (by omega) (by omega), fun y _ => x.2.1 4 y (by omega) (by omega) (by omega) (by omega) (by omega), fun k j _ _ a b => x.2.2 k j a b, fun y _ => x.2.2 8 y (by omega) (by omega), fun y _ => x.2.2 9 y (by omega) (by omega)⟩
theorem stB_Sm (σ : MS) (s : Bs) : SmE σ (stB σ s) := by
  refine ⟨fun k a b _ _ _ => ?_, fun k j _ _ _ _ _ => rfl, fun k j _ _ => rfl⟩
  show (if k = 22 then _ else if k = 21 then _ else σ.1 k) = _
  rw [if_neg b, if_neg a]
  rfl
theorem stW_Sm (σ : MS) (N w hv : Int32) (f : Nat → Int64) : SmE σ (stW σ N w hv f) := by
  refine ⟨fun k _ _ a b c => ?_, fun k j _ _ _ _ _ => rfl, fun k j _ a => ?_⟩
  · show (if k = 38 then _ else if k = 39 then _ else if k = 40 then _ else σ.1 k) = _
    rw [if_neg a, if_neg b, if_neg c]
    rfl
  · show (if k = 37 then _ else σ.2.2 k j) = _
    rw [if_neg a]
    rfl
/-- the slot b is the same in both -/
def SlE (σ τ : MS) (b : Nat) : Prop := (∀ k, (k = 1 ∨ k = 2 ∨ k = 3 ∨ k = 5 ∨ k = 6 ∨ k = 7 ∨ k = 23) → τ.a k b = σ.a k b) ∧ (∀ k, k < 5 → τ.a 4 (5 * b + k) = σ.a 4 (5 * b + k)) ∧ (∀ a k, a ≤ 60 → k < 5 → τ.l 8 (5 * (61 * b + a) + k) = σ.l 8 (5 * (61 * b + a) + k)) ∧ τ.l 9 b = σ.l 9 b
def CkE (σ τ : MS) (b c : Nat) : Prop := ∀ k, (k = 24 ∨ k = 25 ∨ k = 26 ∨ k = 27) → τ.a k (5 * b + c) = σ.a k (5 * b + c)
section Sl
variable {σ τ : MS} {b : Nat} (e : SlE σ τ b)
theorem SlE.L (e : SlE σ τ b) : Ld τ b = Ld σ b := by unfold Ld; rw [e.1 1 (Or.inl rfl)]
theorem SlE.n (e : SlE σ τ b) : nsd τ b = nsd σ b := by unfold nsd; rw [e.1 2 (Or.inr (Or.inl rfl))]
theorem SlE.c (e : SlE σ τ b) : ncd τ b = ncd σ b := by unfold ncd; rw [e.1 23 (by omega)]
theorem SlE.s (e : SlE σ τ b) {k : Nat} (hk : k < 5) : spd τ b k = spd σ b k := by unfold spd; rw [e.2.1 k hk]
theorem SlE.mo (e : SlE σ τ b) (x : Nat) {a : Nat} (ha : a ≤ 60) : ∀ k, k ≤ 5 → moM τ b x a k = moM σ b x a k
  | 0, _ => by rw [moM, moM, e.2.2.2]
  | k + 1, hk => by rw [moM, moM, e.mo x ha k (by omega), e.2.1 k (by omega), e.2.2.1 a k ha (by omega)]
theorem SlE.inf (e : SlE σ τ b) {kind : Int32} {x a n : Nat} (ha : a ≤ 60) (hn : n ≤ 5) (hx : kind = 0 → x < 5) : infM τ b kind x a n = infM σ b kind x a n := by
  unfold infM
  by_cases c : kind = 0
  · rw [if_pos c, if_pos c, e.2.2.1 a x ha (hx c)]
  · rw [if_neg c, if_neg c, e.mo x ha n hn]
theorem SlE.bq (e : SlE σ τ b) {L n : Nat} {sn sn' : Nat → Nat} {z : Nat → Nat → Int} {p : Int} (h : BQ σ b L n sn z p) (hs : ∀ k, k < n → sn' k = sn k) : BQ τ b L n sn' z p := by
  obtain ⟨h1, h2, h3, h4, h5, h6, h7, h8⟩ := h
  refine ⟨h1, h2, fun a k ha hk => (e.2.2.1 a k (by omega) (by omega)).trans (h3 a k ha hk), e.2.2.2.trans h4, h5, h6, h7, fun k hk => ?_⟩
  obtain ⟨s1, s2, s3⟩ := h8 k hk
  rw [e.2.1 k (by omega), hs k hk, hs 0 (by omega)]
  exact ⟨s1, s2, s3⟩
end Sl
theorem WFc.tr {σ τ : MS} {b c : Nat} (e : SlE σ τ b) (f : CkE σ τ b c) (h : WFc σ b c) : WFc τ b c := by
  unfold WFc RsB kdC atC at *
  rw [f 24 (by omega), f 25 (by omega), f 26 (by omega), f 27 (by omega), e.L, e.n]
  exact h
theorem WFb.tr {σ τ : MS} {b : Nat} (e : SlE σ τ b) (f : ∀ c, c < ncd σ b → CkE σ τ b c) (h : WFb σ b) : WFb τ b := by
  obtain ⟨h1, h2, h3, h4, ⟨z, p, h5⟩, h6, h7, h8⟩ := h
  unfold WFb
  rw [e.L, e.n, e.c, e.1 1 (by omega), e.1 2 (by omega), e.1 3 (by omega), e.1 23 (by omega)]
  refine ⟨h1, h2, h3, h4, ⟨z, p, e.bq h5 (fun k hk => e.s (by have := h5.1; omega))⟩, h6, h7, fun c hc => (h8 c hc).tr e (f c hc)⟩
theorem Brg.cg {h : Hp} {β L n nh : Nat} {lo : Int64} {sn sn' : Nat → Nat} {R R' : Nat → Nat → Int64} {ru ru' : Nat → Int32} {nc : Nat} {κ : Nat → Nat} (b : Brg h β L n nh lo sn R ru nc κ) (h1 : ∀ k, k < n → sn k = sn' k) (h2 : ∀ i a, i < n → a ≤ L → R i a = R' i a) (h3 : ∀ k, k < 3 → ru k = ru' k) : Brg h β L n nh lo sn' R' ru' nc κ := by
  obtain ⟨b1, b2, b3, b4, b5, b6⟩ := b
  refine ⟨b1, ?_, b3, fun i hi => ?_, ?_, b6⟩
  · rw [b2, arI_c (fun j hj => by rw [h1 j hj])]
  · rw [b4 i hi, arL_c (fun j hj => h2 i j hi (by omega))]
  · rw [b5, arI_c h3]
theorem Br1.tr {h : Hp} {g : Gh} {σ τ : MS} {b : Nat} (w : WFb σ b) (e : SlE σ τ b) (x : Br1 h g σ b) : Br1 h g τ b := by
  have n5 := w.n
  have L6 := w.2.1
  unfold Br1
  rw [e.L, e.n, e.c, e.2.2.2]
  refine Brg.cg x (fun k hk => (e.s (by omega)).symm) (fun i a hi ha => (e.2.2.1 a i (by omega) (by omega)).symm) (fun k hk => ?_)
  show σ.a (5 + k) b = τ.a (5 + k) b
  rw [e.1 (5 + k) (by omega)]
theorem Ck1.tr {h : Hp} {g : Gh} {σ τ : MS} {b c : Nat} (w : WFb σ b) (hc : c < ncd σ b) (e : SlE σ τ b) (f : CkE σ τ b c) (x : Ck1 h g σ b c) : Ck1 h g τ b c := by
  obtain ⟨F, f1, f2⟩ := x
  have n5 := w.n
  have L6 := w.2.1
  have r := (w.2.2.2.2.2.2.2 c hc).1
  unfold Ck1 kdC atC
  rw [e.L, e.n, e.2.2.2, f 24 (by omega), f 25 (by omega), f 26 (by omega), f 27 (by omega)]
  refine ⟨F, f1, fun a ha => (f2 a ha).trans ?_⟩
  refine (e.inf (by omega) n5.2 (fun k0 => ?_)).symm
  unfold RsB at r
  rcases r with r | r
  · omega
  · unfold kdC at r
    unfold kdC at k0
    rw [k0] at r
    exact absurd r.1 (by decide)
/-- the train t is the same in both -/
def TrE (σ τ : MS) (t : Nat) : Prop := τ.a 13 t = σ.a 13 t ∧ τ.a 16 t = σ.a 16 t ∧ ∀ k, k < nad σ t → τ.a 14 (8 * t + k) = σ.a 14 (8 * t + k) ∧ τ.a 15 (8 * t + k) = σ.a 15 (8 * t + k)
theorem TrE.n {σ τ : MS} {t : Nat} (e : TrE σ τ t) : nad τ t = nad σ t := by unfold nad; rw [e.1]
theorem WFt.tr {σ τ : MS} {t : Nat} (e : TrE σ τ t) (h : WFt σ t) : WFt τ t := by
  obtain ⟨h1, h2, h3, h4, h5, h6⟩ := h
  have ge : ∀ k, k < nad σ t → gnd τ t k = gnd σ t k := fun k hk => by unfold gnd; rw [(e.2.2 k hk).2]
  unfold WFt
  rw [e.n, e.1, e.2.1, ge 0 (by omega)]
  refine ⟨h1, h2, fun k hk => ?_, fun k hk => ?_, h5, h6⟩
  · rw [(e.2.2 k hk).1]; exact h3 k hk
  · rw [(e.2.2 k hk).2, ge k hk]; exact h4 k hk
theorem Tr1.tr {h : Hp} {g : Gh} {σ τ : MS} {t : Nat} (e : TrE σ τ t) (x : Tr1 h g σ t) : Tr1 h g τ t := by
  obtain ⟨W, gn, x1, x2⟩ := x
  unfold Tr1
  rw [e.n, e.2.1]
  refine ⟨W, gn, x1, fun k hk => ?_⟩
  rw [(e.2.2 k hk).1, (e.2.2 k hk).2]
  exact x2 k hk
/-- the states agree but for room, and for a bridge that isn't there -/
theorem WF.br {σ τ : MS} {m : Nat} (w : WF σ) (e : BrE m σ τ) (e0 : τ.i 0 = σ.i 0) (hm : nbd σ ≤ m) : WF τ ∧ (∀ b, b < nbd σ → SlE σ τ b) := by
  obtain ⟨e1, e2, e3, e4, e5, e6, e7⟩ := e
  obtain ⟨⟨w1, w10⟩, ⟨w2, w20⟩, ⟨w3, w30⟩, w4, w5, w6, w7, w8, w9⟩ := w
  have hsl : ∀ b, b < nbd σ → SlE σ τ b := by
    intro b hb
    refine ⟨fun k hk => ?_, fun k hk => e4 _ (by omega), fun a k ha hk => e6 _ (by omega), e7 b (by omega)⟩
    by_cases c : k = 1 ∨ k = 2 ∨ k = 3 ∨ k = 23
    · exact e3 k b c (by omega)
    · exact e2 k b (by omega) (by omega) (by omega) (by omega) (by omega) (by omega) (by omega) (by omega) (by omega) (by omega)
  have hck : ∀ b c, CkE σ τ b c := fun b c k hk => e2 k _ (by omega) (by omega) (by omega) (by omega) (by omega) (by omega) (by omega) (by omega) (by omega) (by omega)
  have nb : nbd τ = nbd σ := by unfold nbd; rw [e0]
  have nt : ntd τ = ntd σ := by unfold ntd; rw [e1 12 (by omega) (by omega) (by omega) (by omega) (by omega) (by omega)]
  have nr : nrd τ = nrd σ := by unfold nrd; rw [e1 28 (by omega) (by omega) (by omega) (by omega) (by omega) (by omega)]
  have i12 := e1 12 (by omega) (by omega) (by omega) (by omega) (by omega) (by omega)
  have i28 := e1 28 (by omega) (by omega) (by omega) (by omega) (by omega) (by omega)
  have i17 := e1 17 (by omega) (by omega) (by omega) (by omega) (by omega) (by omega)
  have ea : ∀ k j, 5 ≤ k → k < 33 → k ≠ 11 → k ≠ 23 → τ.a k j = σ.a k j := fun k j h1 h2 h3 h4 => e2 k j (by omega) (by omega) (by omega) (by omega) (by omega) (by omega) (by omega) (by omega) (by omega) (by omega)
  refine ⟨?_, hsl⟩
  unfold WF
  rw [nb, nt, nr, e0, i12, i28, i17]
  refine ⟨⟨w1, w10⟩, ⟨w2, w20⟩, ⟨w3, w30⟩, ?_, w5, fun b hb => (w6 b hb).tr (hsl b hb) (fun c _ => hck b c), fun b hb => ?_, fun t ht => (w8 t ht).tr ⟨ea 13 t (by omega) (by omega) (by omega) (by omega), ea 16 t (by omega) (by omega) (by omega) (by omega), fun k _ => ⟨ea 14 _ (by omega) (by omega) (by omega) (by omega), ea 15 _ (by omega) (by omega) (by omega) (by omega)⟩⟩, fun r hr => ?_⟩
  · obtain ⟨u1, u2, u3⟩ := w4
    exact ⟨(e1 20 (by omega) (by omega) (by omega) (by omega) (by omega) (by omega)).trans u1, (e1 18 (by omega) (by omega) (by omega) (by omega) (by omega) (by omega)).trans u2, (e1 19 (by omega) (by omega) (by omega) (by omega) (by omega) (by omega)).trans u3⟩
  · unfold WFr
    rw [ea 5 b (by omega) (by omega) (by omega) (by omega), ea 6 b (by omega) (by omega) (by omega) (by omega), ea 7 b (by omega) (by omega) (by omega) (by omega), nb]
    exact w7 b hb
  · unfold WFo
    rw [ea 29 r (by omega) (by omega) (by omega) (by omega), ea 30 r (by omega) (by omega) (by omega) (by omega), ea 31 r (by omega) (by omega) (by omega) (by omega), ea 32 r (by omega) (by omega) (by omega) (by omega), nb]
    exact w9 r hr
theorem PX.br {h : Hp} {B : Nat} {g : Gh} {σ τ : MS} {m : Nat} (w : WF σ) (x : PX h B g σ) (e : BrE m σ τ) (e0 : τ.i 0 = σ.i 0) (hm : nbd σ ≤ m) : PX h B g τ := by
  have hsl := (w.br e e0 hm).2
  obtain ⟨e1, e2, e3, e4, e5, e6, e7⟩ := e
  obtain ⟨x1, x2, x3, x4, x5, x6, o0, o1, o2, o3⟩ := x
  obtain ⟨⟨w1, w10⟩, ⟨w2, w20⟩, ⟨w3, w30⟩, w4, w5, w6, w7, w8, w9⟩ := w
  have hck : ∀ b c, CkE σ τ b c := fun b c k hk => e2 k _ (by omega) (by omega) (by omega) (by omega) (by omega) (by omega) (by omega) (by omega) (by omega) (by omega)
  have nb : nbd τ = nbd σ := by unfold nbd; rw [e0]
  have nt : ntd τ = ntd σ := by unfold ntd; rw [e1 12 (by omega) (by omega) (by omega) (by omega) (by omega) (by omega)]
  have nr : nrd τ = nrd σ := by unfold nrd; rw [e1 28 (by omega) (by omega) (by omega) (by omega) (by omega) (by omega)]
  have i17 := e1 17 (by omega) (by omega) (by omega) (by omega) (by omega) (by omega)
  have ea : ∀ k, 5 ≤ k → k < 33 → k ≠ 11 → k ≠ 23 → τ.a k = σ.a k := fun k h1 h2 h3 h4 => funext fun j => e2 k j (by omega) (by omega) (by omega) (by omega) (by omega) (by omega) (by omega) (by omega) (by omega) (by omega)
  refine ⟨?_, ?_, ?_, ?_, ?_, ?_, o0, ?_, ?_, ?_⟩
  · unfold PM; rw [nb, nt, i17]; exact x1
  · unfold PA; rw [nb, nt]; exact x2
  · unfold PR; rw [nr, ea 29 (by omega) (by omega) (by omega) (by omega), ea 30 (by omega) (by omega) (by omega) (by omega), ea 31 (by omega) (by omega) (by omega) (by omega), ea 32 (by omega) (by omega) (by omega) (by omega)]; exact x3
  · rw [nb]; exact fun b hb => (x4 b hb).tr (w6 b hb) (hsl b hb)
  · rw [nb]; intro b c hb hc
    rw [(hsl b hb).c] at hc
    exact (x5 b c hb hc).tr (w6 b hb) hc (hsl b hb) (hck b c)
  · rw [nt]; exact fun t ht => (x6 t ht).tr ⟨congrFun (ea 13 (by omega) (by omega) (by omega) (by omega)) t, congrFun (ea 16 (by omega) (by omega) (by omega) (by omega)) t, fun k _ => ⟨congrFun (ea 14 (by omega) (by omega) (by omega) (by omega)) _, congrFun (ea 15 (by omega) (by omega) (by omega) (by omega)) _⟩⟩
  · rw [nb]; intro b hb; rw [(hsl b hb).n]; exact o1 b hb
  · rw [nb]; intro b c hb hc; rw [(hsl b hb).c] at hc; exact o2 b c hb hc
  · rw [nt]; exact o3
/-- both hold the same state -/
def Inv (h : Hp) (B : Nat) (g : Gh) (σ : MS) : Prop := IX h B g σ ∧ IM h (B + 42) σ ∧ WF σ
/-- the class's call and the reference's give the same answer, and all holds again -/
def StC {R : Type} (B : Nat) (P P' : Mo R) : Prop := ∀ h g σ, Inv h B g σ → ∃ r h1 h2 g' τ, P h = some (r, h1) ∧ P' h1 = some (r, h2) ∧ Inv h2 B g' τ ∧ h2.2.1 ≤ h.2.1 + 20 ∧ h2.2.2 ≤ h.2.2 + 1000 ∧ ∃ fs, h1.1 (B + 42) = some (ob 11 fs)
/-- what the class may have changed: not the reference -/
def FrC (B : Nat) (h h' : Hp) : Prop := (∀ a, B + 42 ≤ a → a < B + 72 → h'.1 a = h.1 a) ∧ h'.2.1 ≤ h.2.1 + 20 ∧ h'.2.2 ≤ h.2.2 + 1000
/-- a call of both that leaves the state -/
theorem stp_ro {R : Type} {B : Nat} {P P' : Mo R} (H : ∀ h g σ, IX h B g σ → WF σ → ∃ r, WP P h (fun r' h' => r' = r ∧ IX h' B g σ ∧ FrC B h h') ∧ RM (B + 42) P' σ (fun r' τ => r' = r ∧ SmE σ τ)) : StC B P P' := by
  intro h g σ ⟨hx, hm, hw⟩
  obtain ⟨r, ⟨r1, h1, e1, q1, q2, q3⟩, hr⟩ := H h g σ hx hw
  obtain ⟨r2, h2, τ, e2, im, fm, q4, q5⟩ := hr h1 (hm.fr (fun a a1 a2 => q3.1 a (by omega) (by omega)))
  subst q1 q4
  have t2 := hw.br (q5.br (nbd σ)) (q5.1 0 (by omega) (by omega) (by omega) (by omega) (by omega)) (Nat.le_refl _)
  have f2 := IX.frM hw q2 fm
  refine ⟨r2, h1, h2, g, τ, e1, e2, ⟨⟨PX.br hw f2.1 (q5.br (nbd σ)) (q5.1 0 (by omega) (by omega) (by omega) (by omega) (by omega)) (Nat.le_refl _), f2.2⟩, im, t2.1⟩, ?_, ?_, ⟨_, (hm.fr (fun a a1 a2 => q3.1 a (by omega) (by omega))).1⟩⟩
  · rw [fm.1]; exact q3.2.1
  · rw [fm.1]; exact q3.2.2
