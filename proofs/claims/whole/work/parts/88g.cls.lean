/-! The class: roads opened and closed, costs spread, the way searched. -/
section rcl
variable {B : Nat} {g : Gh} {σ : MS} {wc wm : Int32} {C K Y : Nat → Int32}
theorem IX.rc0 {h : Hp} (x : IX h B g σ) : ∃ wc wm C K Y, RC h B σ wc wm C K Y := by
  obtain ⟨⟨wc, wm, y0⟩, y1, y2, y3, y4⟩ := x.1.2.2.1
  obtain ⟨C, K, Y, c1, c2, c3⟩ := x.2.2.2.2.2.2.2.2.2.2.2.2
  exact ⟨wc, wm, C, K, Y, ⟨y0, y1, y2, y3, y4⟩, c1, c2, c3⟩
theorem IX.rc {h h' : Hp} (w : WF σ) (x : IX h B g σ) (r : RC h' B σ wc wm C K Y) (F : Fr (fun y => y = B + 3 ∨ B + 8 ≤ y ∧ y < B + 11) h h') : IX h' B g σ := by
  obtain ⟨u1, u2, u3, u4⟩ := PX.upd0 (h' := h') (X := fun _ => False) w x.1 (fun a a1 _ _ => F.2 a (by omega)) (by rw [F.1]; exact Nat.le_refl _)
  refine ⟨⟨F.at x.1.1 (by omega), ⟨F.at x.1.2.1.1 (by omega), F.at x.1.2.1.2 (by omega)⟩, ⟨⟨wc, wm, r.1.1⟩, r.1.2.1, r.1.2.2.1, r.1.2.2.2.1, r.1.2.2.2.2⟩, fun b hb => u1 b hb (fun q => q), fun b c hb hc => u2 b c hb hc (fun q => q), fun t ht => u3 t ht (fun q => q), u4⟩, ?_⟩
  obtain ⟨a1, a2, a3, a4, a5, a6, a7, a8, a9, a10, a11, a12⟩ := x.2
  have q : ∀ lo hi, 11 ≤ lo → Ag h h' B lo hi := fun lo hi hh => Ag.fr F (fun a ha => by omega)
  exact ⟨a1.ag (q _ _ (by omega)), a2.ag (q _ _ (by omega)), a3.ag (q _ _ (by omega)), a4.ag (q _ _ (by omega)), a5.ag (q _ _ (by omega)), a6.ag (q _ _ (by omega)), a7.ag (q _ _ (by omega)), a8.ag (q _ _ (by omega)), a9.ag (q _ _ (by omega)), a10.ag (q _ _ (by omega)), a11.ag (q _ _ (by omega)), C, K, Y, r.2.1, r.2.2.1, r.2.2.2⟩
theorem RC.k9f {h h' : Hp} {K' : Nat → Int32} (x : RC h B σ wc wm C K Y) (F : Fr (fun y => y = B + 9) h h') (e : h'.1 (B + 9) = some (ai 0 (arI 10 K'))) : RC h' B σ wc wm C K' Y := by
  obtain ⟨⟨a0, a1, a2, a3, a4⟩, a5, a6, a7⟩ := x
  exact ⟨⟨F.at a0 (by omega), F.at a1 (by omega), F.at a2 (by omega), F.at a3 (by omega), F.at a4 (by omega)⟩, F.at a5 (by omega), e, F.at a7 (by omega)⟩
theorem openAll_l {hs : Hp} (w : WF σ) {Q : Unit → Hp → Prop} (q : ∀ h2 C, RC h2 B σ wc wm C K Y → Fr (fun y => y = B + 8) hs h2 → (∀ r, r < nrd σ → C r = 0) → Q () h2) : ∀ (f k : Nat) (h : Hp) (C : Nat → Int32), k ≤ nrd σ → nrd σ < k + f → RC h B σ wc wm C K Y → Fr (fun y => y = B + 8) hs h → (∀ r, r < k → C r = 0) → WP (fX5_openAll_2 f (B + 3) (nI k)) h Q
  | 0, k, h, C, h1, h2, x, fr, hc => by omega
  | f + 1, k, h, C, h1, h2, x, fr, hc => by
    have r24 := w.2.2.1.2
    show WP (bX5_openAll_2 (fX5_openAll_2 f) (B + 3) (nI k)) h Q
    unfold bX5_openAll_2
    refine wp_gI (k := 5) x.1.1 rfl ?_
    by_cases c : nrd σ ≤ k
    · rw [if_pos (nI_le c (by omega))]
      exact wp_rn (q h C x fr (fun r hr => hc r (by omega)))
    · rw [if_neg (nI_ge (by omega) (by omega))]
      refine wp_gA (k := 4) x.1.1 rfl (wp_stZ x.2.1 rfl (by omega) (by omega) (Or.inl rfl) ?_)
      rw [nI_1]
      refine openAll_l w q f (k + 1) _ _ (by omega) (by omega) (x.c8 _) (fr.put _ rfl) (fun r hr => ?_)
      by_cases z : r = k
      · simp [z]
      · simp only [if_neg z]; exact hc r (by omega)
theorem openAll_w {h : Hp} (w : WF σ) (x : RC h B σ wc wm C K Y) {Q : Unit → Hp → Prop} (q : ∀ h2 C, RC h2 B σ wc wm C K Y → Fr (fun y => y = B + 8) h h2 → (∀ r, r < nrd σ → C r = 0) → Q () h2) : WP (pX5_openAll (B + 3)) h Q :=
  openAll_l w q FU 0 h C (by omega) (by have := w.2.2.1.2; unfold FU; omega) x (Fr.rf _ h) (fun r hr => by omega)
theorem closeOver_l {hs : Hp} {v : Int32} {C0 : Nat → Int32} (w : WF σ) {Q : Unit → Hp → Prop} (q : ∀ h2 C, RC h2 B σ wc wm C K Y → Fr (fun y => y = B + 8) hs h2 → (∀ r, r < nrd σ → C r = if σ.a 32 r = v then 1 else C0 r) → Q () h2) : ∀ (f k : Nat) (h : Hp) (C : Nat → Int32), k ≤ nrd σ → nrd σ < k + f → RC h B σ wc wm C K Y → Fr (fun y => y = B + 8) hs h → (∀ r, r < nrd σ → C r = if r < k ∧ σ.a 32 r = v then 1 else C0 r) → WP (fX5_closeOver_2 f (B + 3) v (nI k)) h Q
  | 0, k, h, C, h1, h2, x, fr, hc => by omega
  | f + 1, k, h, C, h1, h2, x, fr, hc => by
    have r24 := w.2.2.1.2
    show WP (bX5_closeOver_2 (fX5_closeOver_2 f) (B + 3) v (nI k)) h Q
    unfold bX5_closeOver_2
    refine wp_gI (k := 5) x.1.1 rfl ?_
    by_cases c : nrd σ ≤ k
    · rw [if_pos (nI_le c (by omega))]
      refine wp_rn (q h C x fr (fun r hr => ?_))
      rw [hc r hr]
      by_cases z : σ.a 32 r = v
      · rw [if_pos ⟨by omega, z⟩, if_pos z]
      · rw [if_neg (fun y => z y.2), if_neg z]
    · rw [if_neg (nI_ge (by omega) (by omega))]
      refine wp_gA (k := 3) x.1.1 rfl (wp_ldI x.1.2.2.2.2 rfl (by omega) (by omega) ?_)
      by_cases z : σ.a 32 k = v
      · rw [if_pos z]
        refine wp_gA (k := 4) x.1.1 rfl (wp_stZ x.2.1 rfl (by omega) (by omega) (Or.inr rfl) ?_)
        rw [nI_1]
        refine closeOver_l w q f (k + 1) _ _ (by omega) (by omega) (x.c8 _) (fr.put _ rfl) (fun r hr => ?_)
        by_cases y : r = k
        · subst y
          rw [if_pos rfl, if_pos ⟨by omega, z⟩]
        · simp only [if_neg y]
          rw [hc r hr]
          by_cases y2 : r < k ∧ σ.a 32 r = v
          · rw [if_pos y2, if_pos ⟨by omega, y2.2⟩]
          · rw [if_neg y2, if_neg (fun y3 => y2 ⟨by omega, y3.2⟩)]
      · rw [if_neg z, nI_1]
        refine closeOver_l w q f (k + 1) _ _ (by omega) (by omega) x fr (fun r hr => ?_)
        rw [hc r hr]
        by_cases y2 : r < k ∧ σ.a 32 r = v
        · rw [if_pos y2, if_pos ⟨by omega, y2.2⟩]
        · rw [if_neg y2, if_neg]
          intro y3
          by_cases y : r = k
          · subst y; exact z y3.2
          · exact y2 ⟨by omega, y3.2⟩
theorem closeOver_w {h : Hp} {v : Int32} (w : WF σ) (x : RC h B σ wc wm C K Y) {Q : Unit → Hp → Prop} (q : ∀ h2 C2, RC h2 B σ wc wm C2 K Y → Fr (fun y => y = B + 8) h h2 → (∀ r, r < nrd σ → C2 r = if σ.a 32 r = v then 1 else C r) → Q () h2) : WP (pX5_closeOver (B + 3) v) h Q :=
  closeOver_l w q FU 0 h C (by omega) (by have := w.2.2.1.2; unfold FU; omega) x (Fr.rf _ h) (fun r hr => by rw [if_neg (fun y => absurd y.1 (by omega))])
end rcl
theorem fillI_l {hs : Hp} {a n : Nat} {v : Int32} (hn : n < 2 ^ 31) {Q : Unit → Hp → Prop} (q : ∀ h2 F, h2.1 a = some (ai 0 (arI n F)) → Fr (fun y => y = a) hs h2 → (∀ j, j < n → F j = v) → Q () h2) : ∀ (f k : Nat) (h : Hp) (F : Nat → Int32), k ≤ n → n < k + f → h.1 a = some (ai 0 (arI n F)) → Fr (fun y => y = a) hs h → (∀ j, j < k → F j = v) → WP (fJ7_fill_53178_5 f (some a) v (nI k) (nI n)) h Q
  | 0, k, h, F, h1, h2, x, fr, hc => by omega
  | f + 1, k, h, F, h1, h2, x, fr, hc => by
    show WP (bJ7_fill_53178_5 (fJ7_fill_53178_5 f) (some a) v (nI k) (nI n)) h Q
    unfold bJ7_fill_53178_5
    by_cases c : n ≤ k
    · rw [if_pos (nI_le c (by omega))]
      exact wp_rn (q h F x fr (fun r hr => hc r (by omega)))
    · rw [if_neg (nI_ge (by omega) hn)]
      refine wp_stI x rfl (by omega) hn ?_
      rw [nI_1]
      refine fillI_l hn q f (k + 1) _ _ (by omega) (by omega) (up_s _ _ _) (fr.put _ rfl) (fun r hr => ?_)
      by_cases z : r = k
      · simp [z]
      · simp only [if_neg z]; exact hc r (by omega)
theorem kUp_0 {κ : Nat → Nat} {e : Nat} (h : κ e = 0) (u v c : Nat) : kUp κ u v c e = 0 := by
  unfold kUp
  by_cases q : e = u
  · rw [if_pos q, ← q, h]; omega
  · rw [if_neg q]; exact h
