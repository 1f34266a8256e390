/-! WHAT HOLDS BETWEEN CALLS: the state's numbers; the class's heap. -/
def nbd (σ : MS) : Nat := (σ.i 0).toNatClampNeg
def ntd (σ : MS) : Nat := (σ.i 12).toNatClampNeg
def nrd (σ : MS) : Nat := (σ.i 28).toNatClampNeg
def spd (σ : MS) (b k : Nat) : Nat := (σ.a 4 (5 * b + k)).toNatClampNeg
def gnd (σ : MS) (t k : Nat) : Nat := (σ.a 15 (8 * t + k)).toNatClampNeg
/-- a response that a bridge has -/
def RsB (σ : MS) (b : Nat) (kind : Int32) (x : Nat) : Prop := kind = 0 ∧ x < nsd σ b ∨ kind = 1 ∧ x ≤ Ld σ b
def WFc (σ : MS) (b c : Nat) : Prop := RsB σ b (kdC σ b c) (atC σ b c) ∧ σ.a 25 (5 * b + c) = nI (atC σ b c) ∧ (∃ k, k ≤ 100000 ∧ σ.a 26 (5 * b + c) = nI k) ∧ (-100000 ≤ (σ.a 27 (5 * b + c)).toInt ∧ (σ.a 27 (5 * b + c)).toInt ≤ 0)
def WFb (σ : MS) (b : Nat) : Prop := σ.a 1 b = nI (Ld σ b) ∧ (2 ≤ Ld σ b ∧ Ld σ b ≤ 60) ∧ σ.a 2 b = nI (nsd σ b) ∧ σ.a 3 b = nI (nsd σ b - 2) ∧ (∃ z p, BQ σ b (Ld σ b) (nsd σ b) (spd σ b) z p) ∧ σ.a 23 b = nI (ncd σ b) ∧ ncd σ b ≤ 5 ∧ ∀ c, c < ncd σ b → WFc σ b c
def WFr (σ : MS) (b : Nat) : Prop := ∃ s l h, σ.a 5 b = nI s ∧ s ≤ 60 ∧ σ.a 6 b = nI l ∧ 1 ≤ l ∧ l ≤ 4 ∧ σ.a 7 b = nI h ∧ h ≤ 100 ∧ (nbd σ ≤ b → s = 30 ∧ l = 1 ∧ h = 50)
def WFt (σ : MS) (t : Nat) : Prop := σ.a 13 t = nI (nad σ t) ∧ (1 ≤ nad σ t ∧ nad σ t ≤ 8) ∧ (∀ k, k < nad σ t → ∃ w, σ.a 14 (8 * t + k) = nI w ∧ 1 ≤ w ∧ w ≤ 200) ∧ (∀ k, k < nad σ t → σ.a 15 (8 * t + k) = nI (gnd σ t k) ∧ gnd σ t k ≤ 20) ∧ gnd σ t 0 = 0 ∧ ∃ r, r ≤ 1000 ∧ σ.a 16 t = nI r
def WFo (σ : MS) (r : Nat) : Prop := ∃ f t m, σ.a 29 r = nI f ∧ f < 10 ∧ σ.a 30 r = nI t ∧ t < 10 ∧ f ≠ t ∧ σ.a 31 r = nI m ∧ 1 ≤ m ∧ m ≤ 500 ∧ (σ.a 32 r = -1 ∨ ∃ b, b < nbd σ ∧ σ.a 32 r = nI b)
def WF (σ : MS) : Prop := (σ.i 0 = nI (nbd σ) ∧ nbd σ ≤ 6) ∧ (σ.i 12 = nI (ntd σ) ∧ ntd σ ≤ 8) ∧ (σ.i 28 = nI (nrd σ) ∧ nrd σ ≤ 24) ∧ unS σ ∧ (σ.i 17 = -1 ∨ ∃ t, t < ntd σ ∧ σ.i 17 = nI t) ∧ (∀ b, b < nbd σ → WFb σ b) ∧ (∀ b, b < 6 → WFr σ b) ∧ (∀ t, t < ntd σ → WFt σ t) ∧ ∀ r, r < nrd σ → WFo σ r
/-- where the class's bridges, checks, trains are; whose an address is -/
abbrev Gh : Type := (Nat → Nat) × (Nat → Nat → Nat) × (Nat → Nat) × (Nat → Nat)
def gB (g : Gh) (b : Nat) : Nat := g.1 b
def gC (g : Gh) (b c : Nat) : Nat := g.2.1 b c
def gT (g : Gh) (t : Nat) : Nat := g.2.2.1 t
def gW (g : Gh) (a : Nat) : Nat := g.2.2.2 a
def PM (h : Hp) (B : Nat) (σ : MS) : Prop := h.1 B = some (ob 10 [vr (some (B + 1)), vi (nI (nbd σ)), vr (some (B + 2)), vi (nI (ntd σ)), vi (σ.i 17), vr (some (B + 3)), vr (some (B + 11)), vr (some (B + 18)), vr (some (B + 20)), vr (some (B + 22)), vr (some (B + 26)), vr (some (B + 36)), vr (some (B + 38)), vr (some (B + 41))])
def PA (h : Hp) (B : Nat) (g : Gh) (σ : MS) : Prop := h.1 (B + 1) = some (aq 3 (arQ 6 (fun b => if b < nbd σ then some (gB g b + 2) else none))) ∧ h.1 (B + 2) = some (aq 5 (arQ 8 (fun t => if t < ntd σ then some (gT g t) else none)))
def PR (h : Hp) (B : Nat) (σ : MS) : Prop := (∃ wc wm, h.1 (B + 3) = some (ob 5 [vr (some (B + 4)), vr (some (B + 5)), vr (some (B + 6)), vr (some (B + 7)), vr (some (B + 8)), vi (nI (nrd σ)), vr (some (B + 9)), vr (some (B + 10)), vi wc, vi wm])) ∧ h.1 (B + 4) = some (ai 0 (arI 24 (σ.a 29))) ∧ h.1 (B + 5) = some (ai 0 (arI 24 (σ.a 30))) ∧ h.1 (B + 6) = some (ai 0 (arI 24 (σ.a 31))) ∧ h.1 (B + 7) = some (ai 0 (arI 24 (σ.a 32)))
def Br1 (h : Hp) (g : Gh) (σ : MS) (b : Nat) : Prop := Brg h (gB g b) (Ld σ b) (nsd σ b) (nsd σ b - 2) (σ.l 9 b) (spd σ b) (fun i a => σ.l 8 (5 * (61 * b + a) + i)) (fun k => σ.a (5 + k) b) (ncd σ b) (gC g b)
def Ck1 (h : Hp) (g : Gh) (σ : MS) (b c : Nat) : Prop := ∃ f : Nat → Int64, Chk h (gC g b c) (Ld σ b) (σ.l 9 b) f (σ.a 26 (5 * b + c)) (σ.a 27 (5 * b + c)) ∧ ∀ a, a ≤ Ld σ b → f a = infM σ b (kdC σ b c) (atC σ b c) a (nsd σ b)
def Tr1 (h : Hp) (g : Gh) (σ : MS) (t : Nat) : Prop := ∃ (W : Nat → Int32) (gn : Nat → Nat), Trn h (gT g t) (gT g t + 1) (gT g t + 2) (nad σ t) (σ.a 16 t) W (fun k => nI (gn k)) ∧ ∀ k, k < nad σ t → W k = σ.a 14 (8 * t + k) ∧ nI (gn k) = σ.a 15 (8 * t + k)
def PO (h : Hp) (B : Nat) (g : Gh) (σ : MS) : Prop := B + 72 ≤ h.2.1 ∧ (∀ b, b < nbd σ → B + 72 ≤ gB g b ∧ ∀ i, i < 6 + nsd σ b → gB g b + i < h.2.1 ∧ gW g (gB g b + i) = 3 * b) ∧ (∀ b c, b < nbd σ → c < ncd σ b → B + 72 ≤ gC g b c ∧ ∀ i, i < 3 → gC g b c + i < h.2.1 ∧ gW g (gC g b c + i) = 3 * (5 * b + c) + 1) ∧ (∀ t, t < ntd σ → B + 72 ≤ gT g t ∧ ∀ i, i < 3 → gT g t + i < h.2.1 ∧ gW g (gT g t + i) = 3 * t + 2)
def PX (h : Hp) (B : Nat) (g : Gh) (σ : MS) : Prop := PM h B σ ∧ PA h B g σ ∧ PR h B σ ∧ (∀ b, b < nbd σ → Br1 h g σ b) ∧ (∀ b c, b < nbd σ → c < ncd σ b → Ck1 h g σ b c) ∧ (∀ t, t < ntd σ → Tr1 h g σ t) ∧ PO h B g σ
/-- room that is used again -/
def S1 (h : Hp) (B : Nat) : Prop := ∃ n w ρ F, Slv h (B + 11) n w ρ F
def S2 (h : Hp) (B : Nat) : Prop := ∃ lo L0 f, h.1 (B + 18) = some (ob 4 [vr (some (B + 19)), vl lo, vi L0]) ∧ h.1 (B + 19) = some (al (arL 61 f))
def S3 (h : Hp) (B : Nat) : Prop := ∃ T F, Swp h (B + 20) (B + 21) T F
def S4 (h : Hp) (B : Nat) : Prop := ∃ g l, ExB h (B + 22) (B + 23) (B + 24) (B + 25) g l
def lgF (fe fw ft : Int32) : Prop := (fe = 0 ∨ fe = 1) ∧ (fw = -1 ∨ (fw = 0 ∨ fw = 1) ∧ ∃ j, j ≤ 2000 ∧ ft = nI j)
def S5 (h : Hp) (B : Nat) : Prop := ∃ sh fc fe fw ft, h.1 (B + 26) = some (ob 3 [vr (some (B + 27)), vr (some (B + 29)), vr (some (B + 33)), vi sh, vi fc, vi fe, vi fw, vi ft]) ∧ lgF fe fw ft
def S6 (h : Hp) (B : Nat) : Prop := ∃ T F, Swp h (B + 27) (B + 28) T F
def S7 (h : Hp) (B : Nat) : Prop := ∃ g l, ExB h (B + 29) (B + 30) (B + 31) (B + 32) g l
def S8 (h : Hp) (B : Nat) : Prop := h.1 (B + 33) = some (aq 6 (arQ 2 (fun i => some (B + 34 + i)))) ∧ ∃ O1 O2, h.1 (B + 34) = some (al (arL 5 O1)) ∧ h.1 (B + 35) = some (al (arL 5 O2))
def S9 (h : Hp) (B : Nat) : Prop := ∃ sz wt ht ws F, h.1 (B + 36) = some (ob 9 [vr (some (B + 37)), vi sz, vi wt, vi ht, vl ws]) ∧ h.1 (B + 37) = some (al (arL 343 F))
def S10 (h : Hp) (B : Nat) : Prop := ∃ n r W G, h.1 (B + 38) = some (ob 8 [vr (some (B + 39)), vr (some (B + 40)), vi n, vi r]) ∧ h.1 (B + 39) = some (ai 0 (arI 8 W)) ∧ h.1 (B + 40) = some (ai 0 (arI 8 G))
def S11 (h : Hp) (B : Nat) : Prop := ∃ U, h.1 (B + 41) = some (ai 0 (arI 6 U))
def S12 (h : Hp) (B : Nat) : Prop := ∃ C K Y, h.1 (B + 8) = some (ai 2 (arI 24 C)) ∧ h.1 (B + 9) = some (ai 0 (arI 10 K)) ∧ h.1 (B + 10) = some (ai 0 (arI 10 Y))
def SX (h : Hp) (B : Nat) : Prop := S1 h B ∧ S2 h B ∧ S3 h B ∧ S4 h B ∧ S5 h B ∧ S6 h B ∧ S7 h B ∧ S8 h B ∧ S9 h B ∧ S10 h B ∧ S11 h B ∧ S12 h B
def IX (h : Hp) (B : Nat) (g : Gh) (σ : MS) : Prop := PX h B g σ ∧ SX h B
/-- the heaps agree from B + lo to B + hi -/
def Ag (h h' : Hp) (B lo hi : Nat) : Prop := ∀ a, B + lo ≤ a → a < B + hi → h'.1 a = h.1 a
section Ag
variable {h h' : Hp} {B : Nat}
theorem Ag.sub {lo hi lo' hi' : Nat} (x : Ag h h' B lo hi) (h1 : lo ≤ lo') (h2 : hi' ≤ hi) : Ag h h' B lo' hi' := fun a ha hb => x a (by omega) (by omega)
theorem Ag.at {lo hi : Nat} (x : Ag h h' B lo hi) {k : Nat} {c : Option AC} (e : h.1 (B + k) = c) (h1 : lo ≤ k) (h2 : k < hi) : h'.1 (B + k) = c := (x (B + k) (by omega) (by omega)).trans e
theorem Ag.fr {S : Nat → Prop} (F : Fr S h h') {lo hi : Nat} (d : ∀ a, S a → a < B + lo ∨ B + hi ≤ a) : Ag h h' B lo hi := fun a ha hb => F.2 a (fun q => by have := d a q; omega)
theorem S1.ag (x : S1 h B) (y : Ag h h' B 11 18) : S1 h' B := by
  obtain ⟨n, w, ρ, F, a, b, c, d, e⟩ := x
  refine ⟨n, w, ρ, F, y.at a (by omega) (by omega), (y (B + 11 + 1) (by omega) (by omega)).trans b, c, d, fun i hi => ?_⟩
  have := c i hi
  exact (y (ρ i) (by omega) (by omega)).trans (e i hi)
theorem S2.ag (x : S2 h B) (y : Ag h h' B 18 20) : S2 h' B := by
  obtain ⟨lo, L0, f, a, b⟩ := x
  exact ⟨lo, L0, f, y.at a (by omega) (by omega), y.at b (by omega) (by omega)⟩
theorem S3.ag (x : S3 h B) (y : Ag h h' B 20 22) : S3 h' B := by
  obtain ⟨T, F, a, b⟩ := x
  exact ⟨T, F, y.at a (by omega) (by omega), y.at b (by omega) (by omega)⟩
theorem S4.ag (x : S4 h B) (y : Ag h h' B 22 26) : S4 h' B := by
  obtain ⟨g, l, a, b, c, d⟩ := x
  exact ⟨g, l, y.at a (by omega) (by omega), y.at b (by omega) (by omega), y.at c (by omega) (by omega), y.at d (by omega) (by omega)⟩
theorem S5.ag (x : S5 h B) (y : Ag h h' B 26 27) : S5 h' B := by
  obtain ⟨sh, fc, fe, fw, ft, a, b⟩ := x
  exact ⟨sh, fc, fe, fw, ft, y.at a (by omega) (by omega), b⟩
theorem S6.ag (x : S6 h B) (y : Ag h h' B 27 29) : S6 h' B := by
  obtain ⟨T, F, a, b⟩ := x
  exact ⟨T, F, y.at a (by omega) (by omega), y.at b (by omega) (by omega)⟩
theorem S7.ag (x : S7 h B) (y : Ag h h' B 29 33) : S7 h' B := by
  obtain ⟨g, l, a, b, c, d⟩ := x
  exact ⟨g, l, y.at a (by omega) (by omega), y.at b (by omega) (by omega), y.at c (by omega) (by omega), y.at d (by omega) (by omega)⟩
theorem S8.ag (x : S8 h B) (y : Ag h h' B 33 36) : S8 h' B := by
  obtain ⟨a, O1, O2, b, c⟩ := x
  exact ⟨y.at a (by omega) (by omega), O1, O2, y.at b (by omega) (by omega), y.at c (by omega) (by omega)⟩
theorem S9.ag (x : S9 h B) (y : Ag h h' B 36 38) : S9 h' B := by
  obtain ⟨sz, wt, ht, ws, F, a, b⟩ := x
  exact ⟨sz, wt, ht, ws, F, y.at a (by omega) (by omega), y.at b (by omega) (by omega)⟩
theorem S10.ag (x : S10 h B) (y : Ag h h' B 38 41) : S10 h' B := by
  obtain ⟨n, r, W, G, a, b, c⟩ := x
  exact ⟨n, r, W, G, y.at a (by omega) (by omega), y.at b (by omega) (by omega), y.at c (by omega) (by omega)⟩
theorem S11.ag (x : S11 h B) (y : Ag h h' B 41 42) : S11 h' B := by
  obtain ⟨U, a⟩ := x
  exact ⟨U, y.at a (by omega) (by omega)⟩
theorem S12.ag (x : S12 h B) (y : Ag h h' B 8 11) : S12 h' B := by
  obtain ⟨C, K, Y, a, b, c⟩ := x
  exact ⟨C, K, Y, y.at a (by omega) (by omega), y.at b (by omega) (by omega), y.at c (by omega) (by omega)⟩
theorem SX.ag (x : SX h B) (y : Ag h h' B 8 42) : SX h' B := by
  obtain ⟨a1, a2, a3, a4, a5, a6, a7, a8, a9, a10, a11, a12⟩ := x
  exact ⟨a1.ag (y.sub (by omega) (by omega)), a2.ag (y.sub (by omega) (by omega)), a3.ag (y.sub (by omega) (by omega)), a4.ag (y.sub (by omega) (by omega)), a5.ag (y.sub (by omega) (by omega)), a6.ag (y.sub (by omega) (by omega)), a7.ag (y.sub (by omega) (by omega)), a8.ag (y.sub (by omega) (by omega)), a9.ag (y.sub (by omega) (by omega)), a10.ag (y.sub (by omega) (by omega)), a11.ag (y.sub (by omega) (by omega)), a12.ag (y.sub (by omega) (by omega))⟩
end Ag
/-- the heaps agree at the addresses of label l -/
def AgW (h h' : Hp) (B : Nat) (g : Gh) (P : Nat → Prop) : Prop := ∀ a, B + 72 ≤ a → a < h.2.1 → P (gW g a) → h'.1 a = h.1 a
theorem Brg.ag {h h' : Hp} {β L n nh : Nat} {lo : Int64} {sn : Nat → Nat} {R : Nat → Nat → Int64} {ru : Nat → Int32} {nc : Nat} {κ : Nat → Nat} (b : Brg h β L n nh lo sn R ru nc κ) (d : ∀ i, i < 6 + n → h'.1 (β + i) = h.1 (β + i)) (hn : 0 < n) : Brg h' β L n nh lo sn R ru nc κ := by
  obtain ⟨b1, b2, b3, b4, b5, b6⟩ := b
  refine ⟨(d 2 (by omega)).trans b1, (d 0 (by omega)).trans b2, (d 5 (by omega)).trans b3, fun i hi => ?_, (d 3 (by omega)).trans b5, (d 4 (by omega)).trans b6⟩
  have := d (6 + i) (by omega)
  rw [← Nat.add_assoc] at this
  exact this.trans (b4 i hi)
theorem Chk.ag {h h' : Hp} {κ L : Nat} {lo : Int64} {f : Nat → Int64} {hi lw : Int32} (b : Chk h κ L lo f hi lw) (d : ∀ i, i < 3 → h'.1 (κ + i) = h.1 (κ + i)) : Chk h' κ L lo f hi lw :=
  ⟨(d 0 (by omega)).trans b.1, (d 1 (by omega)).trans b.2.1, (d 2 (by omega)).trans b.2.2⟩
theorem Trn.ag {h h' : Hp} {t n : Nat} {r : Int32} {W G : Nat → Int32} (x : Trn h t (t + 1) (t + 2) n r W G) (d : ∀ i, i < 3 → h'.1 (t + i) = h.1 (t + i)) : Trn h' t (t + 1) (t + 2) n r W G := ⟨(d 0 (by omega)).trans x.1, (d 1 (by omega)).trans x.2.1, (d 2 (by omega)).trans x.2.2⟩
theorem WFb.n {σ : MS} {b : Nat} (h : WFb σ b) : 2 ≤ nsd σ b ∧ nsd σ b ≤ 5 := by
  obtain ⟨_, _, _, _, ⟨z, p, q⟩, _⟩ := h
  exact q.1
/-- nothing of the persistent part has changed -/
theorem PX.ag {h h' : Hp} {B : Nat} {g : Gh} {σ : MS} (w : WF σ) (x : PX h B g σ) (y : Ag h h' B 0 8) (z : AgW h h' B g (fun _ => True)) (t : h.2.1 ≤ h'.2.1) : PX h' B g σ := by
  obtain ⟨x1, x2, ⟨⟨wc, wm, x30⟩, x31, x32, x33, x34⟩, x4, x5, x6, o0, o1, o2, o3⟩ := x
  obtain ⟨_, _, _, _, _, wb, _⟩ := w
  refine ⟨y.at (k := 0) x1 (by omega) (by omega), ⟨y.at x2.1 (by omega) (by omega), y.at x2.2 (by omega) (by omega)⟩, ⟨⟨wc, wm, y.at x30 (by omega) (by omega)⟩, y.at x31 (by omega) (by omega), y.at x32 (by omega) (by omega), y.at x33 (by omega) (by omega), y.at x34 (by omega) (by omega)⟩, fun b hb => ?_, fun b c hb hc => ?_, fun u hu => ?_, by omega, fun b hb => ?_, fun b c hb hc => ?_, fun u hu => ?_⟩
  · obtain ⟨a1, a2⟩ := o1 b hb
    have := (wb b hb).n
    exact (x4 b hb).ag (fun i hi => z _ (by omega) (a2 i hi).1 trivial) (by omega)
  · obtain ⟨a1, a2⟩ := o2 b c hb hc
    obtain ⟨f, f1, f2⟩ := x5 b c hb hc
    exact ⟨f, f1.ag (fun i hi => z _ (by omega) (a2 i hi).1 trivial), f2⟩
  · obtain ⟨a1, a2⟩ := o3 u hu
    obtain ⟨W, gn, f1, f2⟩ := x6 u hu
    exact ⟨W, gn, f1.ag (fun i hi => z _ (by omega) (a2 i hi).1 trivial), f2⟩
  · obtain ⟨a1, a2⟩ := o1 b hb
    exact ⟨a1, fun i hi => ⟨by have := (a2 i hi).1; omega, (a2 i hi).2⟩⟩
  · obtain ⟨a1, a2⟩ := o2 b c hb hc
    exact ⟨a1, fun i hi => ⟨by have := (a2 i hi).1; omega, (a2 i hi).2⟩⟩
  · obtain ⟨a1, a2⟩ := o3 u hu
    exact ⟨a1, fun i hi => ⟨by have := (a2 i hi).1; omega, (a2 i hi).2⟩⟩
/-- a change of scratch cells only -/
theorem PX.fr {h h' : Hp} {B : Nat} {g : Gh} {σ : MS} {S : Nat → Prop} (w : WF σ) (x : PX h B g σ) (F : Fr S h h') (d : ∀ a, S a → B + 8 ≤ a ∧ a < B + 42) : PX h' B g σ :=
  x.ag w (Ag.fr F (fun a ha => by have := d a ha; omega)) (fun a h1 _ _ => F.2 a (fun q => by have := d a q; omega)) (by rw [F.1]; exact Nat.le_refl _)
theorem IX.frM {h h' : Hp} {B : Nat} {g : Gh} {σ : MS} (w : WF σ) (x : IX h B g σ) (F : FrM (B + 42) h h') : IX h' B g σ :=
  ⟨x.1.ag w (fun a h1 h2 => F.2 a (by omega)) (fun a h1 _ _ => F.2 a (by omega)) (by rw [F.1]; exact Nat.le_refl _), x.2.ag (fun a h1 h2 => F.2 a (by omega))⟩
theorem IM.fr {h h' : Hp} {M : Nat} {σ : MS} (x : IM h M σ) (F : ∀ a, M ≤ a → a < M + 30 → h'.1 a = h.1 a) : IM h' M σ := by
  refine ⟨(F M (by omega) (by omega)).trans x.1, fun k hk h0 => ?_⟩
  have := adM_pos k hk h0
  exact (F _ (by omega) (by omega)).trans (x.2 k hk h0)
