/-! The reference: findFar. -/
def RdS (τ : MS) (n : Nat) (f t m : Nat → Nat) (op : Nat → Bool) : Prop := τ.i 28 = nI n ∧ n ≤ 24 ∧ ∀ r, r < n → τ.a 29 r = nI (f r) ∧ τ.a 30 r = nI (t r) ∧ τ.a 31 r = nI (m r) ∧ τ.a 33 r = bI (op r)
def lbI (lb : Nat → Bool) (fa : Nat → Nat) (u : Nat) : Int32 := if lb u = true then nI (fa u) else -1
def LbS (τ : MS) (lb : Nat → Bool) (fa st : Nat → Nat) : Prop := ∀ u, u < 10 → τ.a 34 u = lbI lb fa u ∧ τ.a 35 u = nI (st u)
theorem SmE.sa {σ τ : MS} (x : SmE σ τ) {k : Nat} (hk : 33 ≤ k ∧ k ≤ 36) (j : Nat) (v : Int32) : SmE σ (τ.sa k j v) :=
  ⟨x.1, fun k' j' a b c d e => by rw [sa_a, if_neg (by omega)]; exact x.2.1 k' j' a b c d e, x.2.2⟩
section far
variable {n e : Nat} {op : Nat → Bool} {f t m : Nat → Nat} {lb : Nat → Bool} {fa st : Nat → Nat}
theorem RdS.sa {τ : MS} (x : RdS τ n f t m op) {k : Nat} (hk : 34 ≤ k) (j : Nat) (v : Int32) : RdS (τ.sa k j v) n f t m op := by
  refine ⟨x.1, x.2.1, fun r hr => ?_⟩
  rw [sa_a, sa_a, sa_a, sa_a, if_neg (by omega), if_neg (by omega), if_neg (by omega), if_neg (by omega)]
  exact x.2.2 r hr
theorem relax_m {M r u v : Nat} {v2 v4 : Int32} {k39 : Nat → Int32 → Mo Unit} {k47 : Nat → Int32 → Int32 → Mo Unit} {k58 : Nat → Int32 → Int32 → Int32 → Mo Unit} {τ : MS} {Q : Unit → MS → Prop} (hd : RdS τ n f t m op) (hl : LbS τ lb fa st) (hr : r < n) (hu : u < 10) (hv : v < 10) (bb : ∀ u, u < 10 → lb u = true → fa u ≤ 4500 ∧ st u ≤ 4500) (m5 : m r ≤ 500)
    (q0 : ¬ Btr lb fa st (m r) u v → RM M (k58 M v2 (nI r) (v4 + 1)) τ Q) (q1 : Btr lb fa st (m r) u v → RM M (k58 M 1 (nI r) (v4 + 1)) ((τ.sa 34 u (nI (fa v + m r))).sa 35 u (nI (st v + 1))) Q) : RM M (bX11_findFar_115 k39 k47 k58 M v2 (nI r) v4 (nI v) (nI u)) τ Q := by
  have n24 := hd.2.1
  have no : ∀ c, ¬ Btr lb fa st (m r) u v → RM M (bX11_findFar_201 k39 k47 k58 M v2 (nI r) v4 (nI v) (nI u) c 0) τ Q := by
    intro c nb
    unfold bX11_findFar_201
    rw [if_pos rfl]
    exact q0 nb
  unfold bX11_findFar_115
  refine rm_gA (rm_ldI v rfl (by show _ < 10; omega) (rm_gA (rm_ldI r rfl (by show _ < 24; omega) (rm_gA (rm_ldI v rfl (by show _ < 10; omega) ?_)))))
  rw [(hl v hv).1, (hd.2.2 r hr).2.2.1]
  unfold lbI
  cases lv : lb v
  · rw [if_neg (show ¬ false = true by decide), if_pos (show (-1 : Int32) < 0 by decide)]
    exact no _ (fun q => by have := q.1; rw [lv] at this; cases this)
  · have b1 := bb v hv lv
    rw [if_pos rfl, if_neg (show ¬ nI (fa v) < 0 from nI_nlt (b := 0) (by omega) (by omega)), nI_add]
    have yes : Btr lb fa st (m r) u v → RM M (bX11_findFar_201 k39 k47 k58 M v2 (nI r) v4 (nI v) (nI u) (nI (fa v + m r)) 1) τ Q := by
      intro nb
      unfold bX11_findFar_201
      rw [if_neg (show ¬ (1 : Int32) = 0 by decide)]
      refine rm_gA (rm_stI u rfl (by show _ < 10; omega) (rm_gA (rm_gA (rm_ldI v rfl (by show _ < 10; omega) ?_))))
      rw [sa_a, if_neg (by omega), (hl v hv).2, nI_1]
      refine rm_stI u rfl (by show _ < 10; omega) ?_
      exact q1 nb
    refine rm_gA (rm_ldI u rfl (by show _ < 10; omega) ?_)
    rw [(hl u hu).1]
    unfold lbI
    cases lu : lb u
    · rw [if_neg (show ¬ false = true by decide), if_pos (show (-1 : Int32) < 0 by decide)]
      exact yes ⟨lv, Or.inl lu⟩
    · have b2 := bb u hu lu
      rw [if_pos rfl, if_neg (show ¬ nI (fa u) < 0 from nI_nlt (b := 0) (by omega) (by omega))]
      refine rm_gA (rm_ldI u rfl (by show _ < 10; omega) ?_)
      rw [(hl u hu).1, lbI, lu, if_pos rfl]
      by_cases c : fa v + m r < fa u
      · rw [if_pos ((nI_ltI (by omega) (by omega)).mpr c)]
        exact yes ⟨lv, Or.inr (Or.inl c)⟩
      · rw [if_neg (fun q => c ((nI_ltI (by omega) (by omega)).mp q))]
        refine rm_gA (rm_ldI u rfl (by show _ < 10; omega) ?_)
        rw [(hl u hu).1, lbI, lu, if_pos rfl]
        by_cases c2 : fa v + m r = fa u
        · rw [if_pos (congrArg nI c2)]
          refine rm_gA (rm_ldI v rfl (by show _ < 10; omega) (rm_gA (rm_ldI u rfl (by show _ < 10; omega) ?_)))
          rw [(hl v hv).2, (hl u hu).2, nI_1]
          by_cases c3 : st u ≤ st v + 1
          · rw [if_pos ((nI_leI (by omega) (by omega)).mpr c3)]
            refine no _ (fun q => ?_)
            obtain ⟨_, q | q | q⟩ := q
            · rw [lu] at q; cases q
            · omega
            · omega
          · rw [if_neg (fun q => c3 ((nI_leI (by omega) (by omega)).mp q))]
            exact yes ⟨lv, Or.inr (Or.inr ⟨c2, by omega⟩)⟩
        · rw [if_neg (fun q => c2 ((nI_eq (by omega) (by omega)).mp q))]
          refine no _ (fun q => ?_)
          obtain ⟨_, q | q | q⟩ := q
          · rw [lu] at q; cases q
          · omega
          · omega
theorem LbS.up {τ : MS} (x : LbS τ lb fa st) (u a b : Nat) : LbS ((τ.sa 34 u (nI a)).sa 35 u (nI b)) (fun y => if y = u then true else lb y) (fun y => if y = u then a else fa y) (fun y => if y = u then b else st y) := by
  intro y hy
  have z := x y hy
  by_cases c : y = u
  · subst c
    unfold lbI
    simp [sa_a]
  · unfold lbI at z ⊢
    simp only [sa_a, if_neg c]
    simp only [c, and_false, if_false]
    exact z
def NB (op : Nat → Bool) (f t m : Nat → Nat) (lb : Nat → Bool) (fa st : Nat → Nat) (r : Nat) : Prop := ∀ r' u v, r' < r → op r' = true → En f t r' u v → ¬ Btr lb fa st (m r') u v
def Ckf (op : Nat → Bool) (f t m : Nat → Nat) (lb : Nat → Bool) (fa st : Nat → Nat) (P0 : Nat) (ch : Int32) (r : Nat) : Prop := (ch = 0 ∧ smN (vlN lb fa st) 10 ≤ P0 ∧ NB op f t m lb fa st r) ∨ (ch = 1 ∧ smN (vlN lb fa st) 10 < P0)
theorem far58 {M r P0 F : Nat} {ch : Int32} {k39 : Nat → Int32 → Mo Unit} {k47 : Nat → Int32 → Int32 → Mo Unit} {σ τ : MS} {Q : Unit → MS → Prop} (g : RdG n f t m) (hr : r < n)
    (q : ∀ τ lb fa st ch, RdS τ n f t m op → LbS τ lb fa st → FI n op f t m e lb fa st → SmE σ τ → Ckf op f t m lb fa st P0 ch (r + 1) → RM M (k47 M ch (nI (r + 1))) τ Q)
    (hd : RdS τ n f t m op) (hl : LbS τ lb fa st) (x : FI n op f t m e lb fa st) (sm : SmE σ τ) (ck : Ckf op f t m lb fa st P0 ch r) : RM M (fX11_findFar_58 k39 k47 (F + 3) M ch (nI r) 0) τ Q := by
  have n24 := hd.2.1
  obtain ⟨g1, g2, g3, g4, g5⟩ := g r hr
  show RM M (bX11_findFar_58 k39 k47 (fX11_findFar_58 k39 k47 (F + 2)) M ch (nI r) 0) τ Q
  unfold bX11_findFar_58
  rw [if_neg (by decide)]
  refine rm_gA (rm_ldZ r rfl (by show _ < 24; omega) ?_)
  rw [(hd.2.2 r hr).2.2.2]
  cases ho : op r
  · rw [if_pos rfl, nI_1]
    refine q τ lb fa st ch hd hl x sm ?_
    rcases ck with ⟨c1, c2, c3⟩ | c
    · refine Or.inl ⟨c1, c2, fun r' u v h1 h2 h3 => ?_⟩
      by_cases z : r' = r
      · subst z; rw [ho] at h2; cases h2
      · exact c3 r' u v (by omega) h2 h3
    · exact Or.inr c
  · rw [if_neg (by decide), if_pos rfl]
    refine rm_gA (rm_ldI r rfl (by show _ < 24; omega) ?_)
    rw [(hd.2.2 r hr).1]
    unfold bX11_findFar_93
    rw [if_pos rfl]
    refine rm_gA (rm_ldI r rfl (by show _ < 24; omega) ?_)
    rw [(hd.2.2 r hr).2.1]
    -- the way back
    have two : ∀ (τ : MS) (lb : Nat → Bool) (fa st : Nat → Nat) (ch : Int32), RdS τ n f t m op → LbS τ lb fa st → FI n op f t m e lb fa st → SmE σ τ → (ch = 0 ∧ smN (vlN lb fa st) 10 ≤ P0 ∧ NB op f t m lb fa st r ∧ ¬ Btr lb fa st (m r) (t r) (f r) ∨ ch = 1 ∧ smN (vlN lb fa st) 10 < P0) → RM M (fX11_findFar_58 k39 k47 (F + 2) M ch (nI r) (0 + 1)) τ Q := by
      intro τ lb fa st ch hd hl x sm ck
      show RM M (bX11_findFar_58 k39 k47 (fX11_findFar_58 k39 k47 (F + 1)) M ch (nI r) (0 + 1)) τ Q
      unfold bX11_findFar_58
      rw [if_neg (by decide)]
      refine rm_gA (rm_ldZ r rfl (by show _ < 24; omega) ?_)
      rw [(hd.2.2 r hr).2.2.2, ho, if_neg (by decide), if_neg (by decide)]
      refine rm_gA (rm_ldI r rfl (by show _ < 24; omega) ?_)
      rw [(hd.2.2 r hr).2.1]
      unfold bX11_findFar_93
      rw [if_neg (by decide)]
      refine rm_gA (rm_ldI r rfl (by show _ < 24; omega) ?_)
      rw [(hd.2.2 r hr).1]
      have last : ∀ (τ : MS) (lb : Nat → Bool) (fa st : Nat → Nat) (ch : Int32), RdS τ n f t m op → LbS τ lb fa st → FI n op f t m e lb fa st → SmE σ τ → Ckf op f t m lb fa st P0 ch (r + 1) → RM M (fX11_findFar_58 k39 k47 (F + 1) M ch (nI r) (0 + 1 + 1)) τ Q := by
        intro τ lb fa st ch hd hl x sm ck
        show RM M (bX11_findFar_58 k39 k47 (fX11_findFar_58 k39 k47 F) M ch (nI r) (0 + 1 + 1)) τ Q
        unfold bX11_findFar_58
        rw [if_pos (by decide), nI_1]
        exact q τ lb fa st ch hd hl x sm ck
      refine relax_m hd hl hr g1 g2 (fun u hu lu => x.b hu lu) g5 (fun nb => ?_) (fun nb => ?_)
      · refine last τ lb fa st ch hd hl x sm ?_
        rcases ck with ⟨c1, c2, c3, c4⟩ | c
        · refine Or.inl ⟨c1, c2, fun r' u v h1 h2 h3 => ?_⟩
          by_cases z : r' = r
          · subst z
            rcases h3 with ⟨z1, z2⟩ | ⟨z1, z2⟩
            · rw [← z1, ← z2]; exact nb
            · rw [← z1, ← z2]; exact c4
          · exact c3 r' u v (by omega) h2 h3
        · exact Or.inr c
      · obtain ⟨y1, y2⟩ := x.step g hr ho (Or.inl ⟨rfl, rfl⟩) nb
        refine last _ _ _ _ 1 ((hd.sa (by omega) _ _).sa (by omega) _ _) (hl.up _ _ _) y1 ((sm.sa (by omega) _ _).sa (by omega) _ _) (Or.inr ⟨rfl, ?_⟩)
        rcases ck with ⟨c1, c2, c3, c4⟩ | c
        · omega
        · omega
    refine relax_m hd hl hr g2 g1 (fun u hu lu => x.b hu lu) g5 (fun nb => ?_) (fun nb => ?_)
    · refine two τ lb fa st ch hd hl x sm ?_
      rcases ck with ⟨c1, c2, c3⟩ | c
      · exact Or.inl ⟨c1, c2, c3, nb⟩
      · exact Or.inr c
    · obtain ⟨y1, y2⟩ := x.step g hr ho (Or.inr ⟨rfl, rfl⟩) nb
      refine two _ _ _ _ 1 ((hd.sa (by omega) _ _).sa (by omega) _ _) (hl.up _ _ _) y1 ((sm.sa (by omega) _ _).sa (by omega) _ _) (Or.inr ⟨rfl, ?_⟩)
      rcases ck with ⟨c1, c2, c3⟩ | c
      · omega
      · omega
theorem far47 {M P0 : Nat} {k39 : Nat → Int32 → Mo Unit} {σ : MS} {Q : Unit → MS → Prop} (g : RdG n f t m)
    (q : ∀ τ lb fa st ch, RdS τ n f t m op → LbS τ lb fa st → FI n op f t m e lb fa st → SmE σ τ → Ckf op f t m lb fa st P0 ch n → RM M (k39 M ch) τ Q) :
    ∀ (F r : Nat) (τ : MS) (lb : Nat → Bool) (fa st : Nat → Nat) (ch : Int32), r ≤ n → n < r + F → RdS τ n f t m op → LbS τ lb fa st → FI n op f t m e lb fa st → SmE σ τ → Ckf op f t m lb fa st P0 ch r → RM M (fX11_findFar_47 k39 F M ch (nI r)) τ Q
  | 0, r, τ, lb, fa, st, ch, h1, h2, hd, hl, x, sm, ck => by omega
  | F + 1, r, τ, lb, fa, st, ch, h1, h2, hd, hl, x, sm, ck => by
    have n24 := hd.2.1
    show RM M (bX11_findFar_47 k39 (fX11_findFar_47 k39 F) M ch (nI r)) τ Q
    unfold bX11_findFar_47
    refine rm_gI ?_
    rw [hd.1]
    by_cases c : n ≤ r
    · have : r = n := by omega
      subst this
      rw [if_pos ((nI_leI (by omega) (by omega)).mpr c)]
      exact q τ lb fa st ch hd hl x sm ck
    · rw [if_neg (fun z => c ((nI_leI (by omega) (by omega)).mp z))]
      refine far58 (F := 999999997) g (by omega) (fun τ lb fa st ch hd hl x sm ck => ?_) hd hl x sm ck
      exact far47 g q F (r + 1) τ lb fa st ch (by omega) (by omega) hd hl x sm ck
theorem far39 {M : Nat} {σ : MS} {Q : Unit → MS → Prop} (g : RdG n f t m) (q : ∀ τ lb fa st, RdS τ n f t m op → LbS τ lb fa st → FX n op f t m e lb fa st → SmE σ τ → Q () τ) :
    ∀ (F : Nat) (τ : MS) (lb : Nat → Bool) (fa st : Nat → Nat), smN (vlN lb fa st) 10 + 1 < F → RdS τ n f t m op → LbS τ lb fa st → FI n op f t m e lb fa st → SmE σ τ → RM M (fX11_findFar_39 F M 1) τ Q
  | 0, τ, lb, fa, st, hF, hd, hl, x, sm => by omega
  | F + 1, τ, lb, fa, st, hF, hd, hl, x, sm => by
    have n24 := hd.2.1
    show RM M (bX11_findFar_39 (fX11_findFar_39 F) M 1) τ Q
    unfold bX11_findFar_39
    rw [if_neg (show ¬ (1 : Int32) = 0 by decide)]
    refine far47 (P0 := smN (vlN lb fa st) 10) g (fun τ' lb' fa' st' ch hd' hl' x' sm' ck => ?_) FU 0 τ lb fa st 0 (by omega) (by unfold FU; omega) hd hl x sm (Or.inl ⟨rfl, Nat.le_refl _, fun r' u v h => by omega⟩)
    rcases ck with ⟨c1, c2, c3⟩ | ⟨c1, c2⟩
    · subst c1
      obtain ⟨F', rfl⟩ : ∃ F', F = F' + 1 := ⟨F - 1, by omega⟩
      show RM M (bX11_findFar_39 (fX11_findFar_39 F') M 0) τ' Q
      unfold bX11_findFar_39
      rw [if_pos rfl]
      exact rm_rn (q τ' lb' fa' st' hd' hl' (x'.fx (fun r u v hr ho he => c3 r u v hr ho he)) sm')
    · subst c1
      exact far39 g q F τ' lb' fa' st' (by omega) hd' hl' x' sm'
theorem vlN_le (x : FI n op f t m e lb fa st) : smN (vlN lb fa st) 10 ≤ 600000000 + 10 := by
  have key : ∀ k, k ≤ 10 → smN (vlN lb fa st) k ≤ k * 60000000 := by
    intro k
    induction k with
    | zero => intro _; simp [smN]
    | succ k ih =>
      intro hk
      have := ih (by omega)
      have : vlN lb fa st k ≤ 60000000 := by
        unfold vlN
        cases hl : lb k
        · rw [if_neg (by decide)]; exact Nat.le_refl _
        · have := x.b (show k < 10 by omega) hl
          rw [if_pos rfl]; omega
      rw [smN, Nat.add_mul]
      omega
  have := key 10 (Nat.le_refl _)
  omega
theorem far2 {M : Nat} {σ : MS} {Q : Unit → MS → Prop} (g : RdG n f t m) (e10 : e < 10) (q : ∀ τ lb fa st, RdS τ n f t m op → LbS τ lb fa st → FX n op f t m e lb fa st → SmE σ τ → Q () τ) :
    ∀ (F u : Nat) (τ : MS), u ≤ 10 → 10 < u + F → RdS τ n f t m op → (∀ y, y < u → τ.a 34 y = lbI (fun y => decide (y = e)) (fun _ => 0) y ∧ τ.a 35 y = nI 0) → SmE σ τ → RM M (fX11_findFar_2 F M (nI e) (nI u)) τ Q
  | 0, u, τ, h1, h2, hd, hl, sm => by omega
  | F + 1, u, τ, h1, h2, hd, hl, sm => by
    show RM M (bX11_findFar_2 (fX11_findFar_2 F) M (nI e) (nI u)) τ Q
    unfold bX11_findFar_2
    by_cases c : 10 ≤ u
    · have : u = 10 := by omega
      subst this
      rw [if_pos (show (10 : Int32) ≤ nI 10 by decide)]
      have x := FI.ini (n := n) (op := op) (f := f) (t := t) (m := m) e10
      exact far39 g q FU τ _ _ _ (by have := vlN_le x; unfold FU; omega) hd hl x sm
    · rw [if_neg (show ¬ (10 : Int32) ≤ nI u from nI_ge (b := 10) (by omega) (by omega))]
      refine rm_gA ?_
      have mid : ∀ v, v = lbI (fun y => decide (y = e)) (fun _ => 0) u → RM M (bX11_findFar_23 (fX11_findFar_2 F) M (nI e) (nI u) (some (M + adM 34)) (nI u) v) τ Q := by
        intro v hv
        unfold bX11_findFar_23
        refine rm_stI u rfl (by show _ < 10; omega) (rm_gA (rm_stI u rfl (by show _ < 10; omega) ?_))
        rw [nI_1]
        refine far2 g e10 q F (u + 1) _ (by omega) (by omega) ((hd.sa (by omega) _ _).sa (by omega) _ _) (fun y hy => ?_) ((sm.sa (by omega) _ _).sa (by omega) _ _)
        rw [sa_a, if_neg (by omega), sa_a, sa_a]
        by_cases z : y = u
        · subst z
          rw [if_pos ⟨rfl, rfl⟩, if_pos ⟨rfl, rfl⟩]
          exact ⟨hv, rfl⟩
        · rw [if_neg (by omega), if_neg (by omega), sa_a, if_neg (by omega)]
          exact hl y (by omega)
      by_cases z : u = e
      · rw [if_pos (congrArg nI z)]
        exact mid 0 (by unfold lbI; simp [z]; rfl)
      · rw [if_neg (fun q => z ((nI_eq (by omega) (by omega)).mp q))]
        exact mid (-1) (by unfold lbI; simp [z])
theorem findFar_m {M : Nat} {σ τ : MS} {Q : Unit → MS → Prop} (g : RdG n f t m) (e10 : e < 10) (hd : RdS τ n f t m op) (sm : SmE σ τ) (q : ∀ τ lb fa st, RdS τ n f t m op → LbS τ lb fa st → FX n op f t m e lb fa st → SmE σ τ → Q () τ) : RM M (pX11_findFar M (nI e)) τ Q :=
  far2 g e10 q FU 0 τ (by omega) (by unfold FU; omega) hd (fun y hy => by omega) sm
end far
