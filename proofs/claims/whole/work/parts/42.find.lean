/-! Extremes.find -/
theorem no2 {y a b : Nat} (h1 : y ≠ a) (h2 : y ≠ b) : ¬ (y = a ∨ y = b) := fun q => q.elim h1 h2
theorem no3 {y a b c : Nat} (h1 : y ≠ a) (h2 : y ≠ b) (h3 : y ≠ c) : ¬ (y = a ∨ y = b ∨ y = c) := fun q => q.elim h1 (fun q => q.elim h2 h3)
theorem no5 {y a b c d e : Nat} (h1 : y ≠ a) (h2 : y ≠ b) (h3 : y ≠ c) (h4 : y ≠ d) (h5 : y ≠ e) : ¬ (y = a ∨ y = b ∨ y = c ∨ y = d ∨ y = e) := fun q => q.elim h1 (fun q => q.elim h2 (fun q => q.elim h3 (fun q => q.elim h4 h5)))
/-- y is none of five -/
def D5 (a b c s e y : Nat) : Prop := y ≠ a ∧ y ≠ b ∧ y ≠ c ∧ y ≠ s ∧ y ≠ e
theorem D5.no {a b c s e y : Nat} (h : D5 a b c s e y) : ¬ (y = a ∨ y = b ∨ y = c ∨ y = s ∨ y = e) := no5 h.1 h.2.1 h.2.2.1 h.2.2.2.1 h.2.2.2.2
def D6 (x a b c : Nat) : Prop := x ≠ a ∧ x ≠ b ∧ x ≠ c ∧ a ≠ b ∧ a ≠ c ∧ b ≠ c
def D12 (x a b c s e : Nat) : Prop := D6 x a b c ∧ s ≠ a ∧ s ≠ b ∧ s ≠ c ∧ e ≠ a ∧ e ≠ b ∧ e ≠ c
def D15 (x a b c s e : Nat) : Prop := D12 x a b c s e ∧ x ≠ s ∧ x ≠ e ∧ s ≠ e
def pr {A : Type} (g l : A) (y : Nat) : A := if y = 0 then g else l
def ExB (h : Hp) (x a b c : Nat) (g l : Bs) : Prop := Ext h x a b c (pr g.1 l.1) (pr g.2.1 l.2.1) (pr g.2.2 l.2.2)
theorem Ext.toB {h : Hp} {x a b c : Nat} {U : Nat → Int64} {V Z : Nat → Int32} (e : Ext h x a b c U V Z) : ExB h x a b c (U 0, V 0, Z 0) (U 1, V 1, Z 1) := by
  have k : ∀ {A : Type} (F : Nat → A) (y : Nat), y < 2 → F y = pr (F 0) (F 1) y := by
    intro A F y hy
    match y, hy with
    | 0, _ => rfl
    | 1, _ => rfl
  refine ⟨e.1, ?_, ?_, ?_⟩
  · rw [e.2.1, arL_c (k U)]
  · rw [e.2.2.1, arI_c (k V)]
  · rw [e.2.2.2, arI_c (k Z)]
theorem ExB.fr {S : Nat → Prop} {h h' : Hp} {x a b c : Nat} {g l : Bs} (e : ExB h x a b c g l) (F : Fr S h h') (d : ¬ S x ∧ ¬ S a ∧ ¬ S b ∧ ¬ S c) : ExB h' x a b c g l := Ext.fr e F d
theorem set_w {h : Hp} {x a b c : Nat} {g l : Bs} {v : Int64} {w z : Int32} (he : ExB h x a b c g l) (hd : D6 x a b c) (k : Nat) (hk : k < 2) {Q : Unit → Hp → Prop}
    (q : ∀ h2, Fr (fun y => y = a ∨ y = b ∨ y = c) h h2 → ExB h2 x a b c (if k = 0 then (v, w, z) else g) (if k = 0 then l else (v, w, z)) → Q () h2) : WP (pX2_set x (nI k) v w z) h Q := by
  obtain ⟨e0, e1, e2, e3⟩ := he
  obtain ⟨n1, n2, n3, n4, n5, n6⟩ := hd
  have sv : ∀ {A : Type} (v p r : A) (y : Nat), y < 2 → (if y = k then v else pr p r y) = pr (if k = 0 then v else p) (if k = 0 then r else v) y := by
    intro A v p r y hy
    unfold pr
    by_cases h0 : k = 0
    · subst h0
      by_cases hy0 : y = 0 <;> simp [hy0]
    · have : k = 1 := by omega
      subst this
      by_cases hy0 : y = 0
      · simp [hy0]
      · have : y = 1 := by omega
        subst this
        simp
  unfold pX2_set
  refine wp_gA (k := 0) e0 rfl ?_
  refine wp_stL e1 rfl hk (by omega) ?_
  have f1 : Fr (fun y => y = a ∨ y = b ∨ y = c) h (up h a (al (arL 2 fun y => if y = k then v else pr g.1 l.1 y))) := (Fr.rf _ h).put _ (Or.inl rfl)
  refine wp_gA (k := 1) (by rw [up_n n1]; exact e0) rfl ?_
  refine wp_stI (by rw [up_n n4.symm]; exact e2) rfl hk (by omega) ?_
  refine wp_gA (k := 2) (by rw [up_n n2, up_n n1]; exact e0) rfl ?_
  refine wp_stI (by rw [up_n n6.symm, up_n n5.symm]; exact e3) rfl hk (by omega) ?_
  refine wp_rn (q _ ((f1.put _ (Or.inr (Or.inl rfl))).put _ (Or.inr (Or.inr rfl))) ⟨?_, ?_, ?_, ?_⟩)
  · rw [up_n n3, up_n n2, up_n n1]; exact e0
  · rw [up_n n5, up_n n4, up_s, arL_c (sv v g.1 l.1)]
    by_cases h0 : k = 0 <;> simp [h0]
  · rw [up_n n6, up_s, arI_c (sv w g.2.1 l.2.1)]
    by_cases h0 : k = 0 <;> simp [h0]
  · rw [up_s, arI_c (sv z g.2.2 l.2.2)]
    by_cases h0 : k = 0 <;> simp [h0]
theorem set0_w {h : Hp} {x a b c : Nat} {g l : Bs} {v : Int64} {w z : Int32} (he : ExB h x a b c g l) (hd : D6 x a b c) {Q : Unit → Hp → Prop}
    (q : ∀ h2, Fr (fun y => y = a ∨ y = b ∨ y = c) h h2 → ExB h2 x a b c (v, w, z) l → Q () h2) : WP (pX2_set x 0 v w z) h Q := set_w he hd 0 (by omega) (fun h2 f e => q h2 f (by simpa using e))
theorem set1_w {h : Hp} {x a b c : Nat} {g l : Bs} {v : Int64} {w z : Int32} (he : ExB h x a b c g l) (hd : D6 x a b c) {Q : Unit → Hp → Prop}
    (q : ∀ h2, Fr (fun y => y = a ∨ y = b ∨ y = c) h h2 → ExB h2 x a b c g (v, w, z) → Q () h2) : WP (pX2_set x 1 v w z) h Q := set_w he hd 1 (by omega) (fun h2 f e => q h2 f (by simpa using e))
def cgS (V : Nat → Int64) (way : Int32) (s : Bs) : Nat → Bs
  | 0 => s
  | m + 1 => if V m ≤ (cgS V way s m).1 then cgS V way s m else (V m, way, nI m)
def clS (V : Nat → Int64) (way : Int32) (s : Bs) : Nat → Bs
  | 0 => s
  | m + 1 => if (clS V way s m).1 ≤ V m then clS V way s m else (V m, way, nI m)
def cG (V : Int32 → Nat → Int64) (T : Nat) : Bs := cgS (V 1) 1 (cgS (V 0) 0 (V 0 0, 0, 0) T) T
def cL (V : Int32 → Nat → Int64) (T : Nat) : Bs := clS (V 1) 1 (clS (V 0) 0 (V 0 0, 0, 0) T) T
def cG' (V : Int32 → Nat → Int64) (T : Nat) : Bs := if 0 ≤ (cG V T).1 then cG V T else (0, -1, -1)
def cL' (V : Int32 → Nat → Int64) (T : Nat) : Bs := if (cL V T).1 ≤ 0 then cL V T else (0, -1, -1)
theorem find_in {h : Hp} {s e x a b c ln t T : Nat} {way : Int32} {V F : Nat → Int64} {g0 l0 : Bs} {k3 : Nat → Option Nat → Option Nat → Option Nat → Int32 → Mo Unit} {Q : Unit → Hp → Prop} (hT : T ≤ 341) (hs : Swp h s e (nI T) F) (hF : ∀ y, y < T → F y = V y) (hd : D12 x a b c s e) (h00 : way = 0 → g0 = (V 0, 0, 0) ∧ l0 = (V 0, 0, 0))
    (hk : ∀ h2, Fr (fun y => y = a ∨ y = b ∨ y = c) h h2 → ExB h2 x a b c (cgS V way g0 T) (clS V way l0 T) → WP (k3 x (some ln) (some t) (some s) (way + 1)) h2 Q) (hT0 : 0 < T) : ∀ (f m : Nat) (h' : Hp) (g l : Bs), m ≤ T → T < m + f → Fr (fun y => y = a ∨ y = b ∨ y = c) h h' → ExB h' x a b c g l → (¬ (way = 0 ∧ m = 0) → g = cgS V way g0 m ∧ l = clS V way l0 m) →
    WP (fX2_find_20 k3 f x (some ln) (some t) (some s) way (nI m)) h' Q
  | 0, m, h', g, l, h1, h2, h3, h4, h5 => by omega
  | f + 1, m, h', g, l, h1, h2, h3, h4, h5 => by
    have hd6 := hd.1
    have s1 := h3.at hs.1 (no3 hd.2.1 hd.2.2.1 hd.2.2.2.1)
    have s2 := h3.at hs.2 (no3 hd.2.2.2.2.1 hd.2.2.2.2.2.1 hd.2.2.2.2.2.2)
    show WP (bX2_find_20 k3 (fX2_find_20 k3 f) x (some ln) (some t) (some s) way (nI m)) h' Q
    unfold bX2_find_20
    refine wp_gI (k := 1) s1 rfl ?_
    by_cases hm : T ≤ m
    · have em : m = T := by omega
      subst em
      rw [if_pos (nI_le hm (by omega))]
      obtain ⟨rfl, rfl⟩ := h5 (by omega)
      exact hk h' h3 h4
    · rw [if_neg (nI_ge (by omega) (by omega))]
      refine wp_gA (k := 0) s1 rfl ?_
      refine wp_ldL s2 rfl (by omega) (by omega) ?_
      rw [hF m (by omega)]
      -- what is behind a choice
      have next : ∀ (h2 : Hp) (g' l' : Bs), Fr (fun y => y = a ∨ y = b ∨ y = c) h h2 → ExB h2 x a b c g' l' → g' = cgS V way g0 (m + 1) → l' = clS V way l0 (m + 1) → WP (fX2_find_20 k3 f x (some ln) (some t) (some s) way (nI m + 1)) h2 Q := by
        intro h2 g' l' f2 e2 r1 r2
        rw [nI_1]
        exact find_in hT hs hF hd h00 hk hT0 f (m + 1) h2 g' l' (by omega) (by omega) f2 e2 (fun _ => ⟨r1, r2⟩)
      have other : ¬ (way = 0 ∧ m = 0) → WP (bX2_find_53 k3 (fX2_find_20 k3 f) x (some ln) (some t) (some s) way (nI m) (V m) 0) h' Q := by
        intro hn
        obtain ⟨r1, r2⟩ := h5 hn
        have least : ∀ (h2 : Hp) (g' : Bs), Fr (fun y => y = a ∨ y = b ∨ y = c) h h2 → ExB h2 x a b c g' l → g' = cgS V way g0 (m + 1) → WP (bX2_find_83 k3 (fX2_find_20 k3 f) x (some ln) (some t) (some s) way (nI m) (V m) 0) h2 Q := by
          intro h2 g' f2 e2 q1
          unfold bX2_find_83
          rw [if_pos rfl]
          refine wp_gA (k := 0) e2.1 rfl ?_
          refine wp_ldL (j := 1) e2.2.1 rfl (by omega) (by omega) ?_
          show WP (if l.1 ≤ V m then _ else _) h2 Q
          by_cases c2 : l.1 ≤ V m
          · rw [if_pos c2]
            exact next h2 g' l f2 e2 q1 (by rw [clS, ← r2, if_pos c2])
          · rw [if_neg c2]
            unfold bX2_find_100
            exact wp_bd (wp_vc e2.1 (set1_w e2 hd6 (fun h3' f3 e3 => next h3' g' _ (f2.tr f3) e3 q1 (by rw [clS, ← r2, if_neg c2]))))
        unfold bX2_find_53
        rw [if_pos rfl]
        refine wp_gA (k := 0) h4.1 rfl ?_
        refine wp_ldL (j := 0) h4.2.1 rfl (by omega) (by omega) ?_
        show WP (if V m ≤ g.1 then _ else _) h' Q
        by_cases c1 : V m ≤ g.1
        · rw [if_pos c1]
          exact least h' g h3 h4 (by rw [cgS, ← r1, if_pos c1])
        · rw [if_neg c1]
          unfold bX2_find_72
          exact wp_bd (wp_vc h4.1 (set0_w h4 hd6 (fun h3' f3 e3 => least h3' _ (h3.tr f3) e3 (by rw [cgS, ← r1, if_neg c1]))))
      by_cases hw : way = 0
      · rw [if_pos hw]
        by_cases hm0 : m = 0
        · subst hm0
          rw [if_pos (by rfl)]
          obtain ⟨q1, q2⟩ := h00 hw
          unfold bX2_find_53
          rw [if_neg (by decide)]
          unfold bX2_find_72
          refine wp_bd (wp_vc h4.1 (set0_w h4 hd6 (fun h3' f3 e3 => ?_)))
          unfold bX2_find_83
          rw [if_neg (by decide)]
          unfold bX2_find_100
          refine wp_bd (wp_vc e3.1 (set1_w e3 hd6 (fun h4' f4 e4 => ?_)))
          refine next h4' _ _ ((h3.tr f3).tr f4) e4 ?_ ?_
          · rw [cgS, cgS, q1, if_pos (Int64.le_refl _), hw]; rfl
          · rw [clS, clS, q2, if_pos (Int64.le_refl _), hw]; rfl
        · rw [if_neg (nI_ne0 (by omega) (by omega))]
          exact other (by omega)
      · rw [if_neg hw]
        exact other (fun q => hw q.1)
theorem find_w {h : Hp} {s e x a b c l u t w g L n : Nat} {lo : Int64} {r T0 : Int32} {lf F0 : Nat → Int64} {W : Nat → Int32} {gn : Nat → Nat} {g0 l0 : Bs} (hl : Lin h l u L lo lf) (ht : Trn h t w g n r W (fun k => nI (gn k))) (hs : Swp h s e T0 F0) (he : ExB h x a b c g0 l0) (hL : L ≤ 60) (hn : n ≤ 8) (hT3 : bhN gn n ≤ 280)
    (hd : D15 x a b c s e)
    (hl2 : D5 a b c s e l ∧ D5 a b c s e u ∧ D5 a b c s e t ∧ D5 a b c s e w ∧ D5 a b c s e g) {Q : Unit → Hp → Prop}
    (q : ∀ h2 T2 F2, Fr (fun y => y = a ∨ y = b ∨ y = c ∨ y = s ∨ y = e) h h2 → Swp h2 s e T2 F2 → ExB h2 x a b c (cG' (fun way y => cS L W lf (bhW gn n way) y n) (L + bhN gn n + 1)) (cL' (fun way y => cS L W lf (bhW gn n way) y n) (L + bhN gn n + 1)) → Q () h2) : WP (pX2_find x (some l) (some t) (some s)) h Q := by
  have hd12 := hd.1
  have hd6 := hd12.1
  have hse : ∀ h1 h2 : Hp, ∀ T1 F1, Fr (fun y => y = a ∨ y = b ∨ y = c) h1 h2 → Swp h1 s e T1 F1 → Swp h2 s e T1 F1 := fun h1 h2 T1 F1 f z => z.fr f ⟨no3 hd12.2.1 hd12.2.2.1 hd12.2.2.2.1, no3 hd12.2.2.2.2.1 hd12.2.2.2.2.2.1 hd12.2.2.2.2.2.2⟩
  have hxx : ¬ (x = s ∨ x = e) ∧ ¬ (a = s ∨ a = e) ∧ ¬ (b = s ∨ b = e) ∧ ¬ (c = s ∨ c = e) := ⟨no2 hd.2.1 hd.2.2.1, no2 hd12.2.1.symm hd12.2.2.2.2.1.symm, no2 hd12.2.2.1.symm hd12.2.2.2.2.2.1.symm, no2 hd12.2.2.2.1.symm hd12.2.2.2.2.2.2.symm⟩
  obtain ⟨p1, p2, p3, p4, p5⟩ := hl2
  have hroll : s ≠ e ∧ l ≠ e ∧ u ≠ e ∧ t ≠ e ∧ w ≠ e ∧ g ≠ e ∧ l ≠ s ∧ u ≠ s ∧ t ≠ s ∧ w ≠ s ∧ g ≠ s := ⟨hd.2.2.2, p1.2.2.2.2, p2.2.2.2.2, p3.2.2.2.2, p4.2.2.2.2, p5.2.2.2.2, p1.2.2.2.1, p2.2.2.2.1, p3.2.2.2.1, p4.2.2.2.1, p5.2.2.2.1⟩
  generalize hV : (fun (way : Int32) (y : Nat) => cS L W lf (bhW gn n way) y n) = V at q
  have hVe : ∀ way y, cS L W lf (bhW gn n way) y n = V way y := fun way y => by rw [← hV]
  generalize hT : L + bhN gn n + 1 = T at q
  let S : Nat → Prop := fun y => y = a ∨ y = b ∨ y = c ∨ y = s ∨ y = e
  have m1 : ∀ y, (y = a ∨ y = b ∨ y = c) → S y := fun y hy => hy.elim Or.inl (fun hy => hy.elim (fun z => Or.inr (Or.inl z)) (fun z => Or.inr (Or.inr (Or.inl z))))
  have m2 : ∀ y, (y = s ∨ y = e) → S y := fun y hy => Or.inr (Or.inr (Or.inr hy))
  -- the end
  have h142 : ∀ (h1 : Hp) (T1 : Int32) (F1 : Nat → Int64), Fr S h h1 → Swp h1 s e T1 F1 → ExB h1 x a b c (cG' V T) (cL V T) → WP (bX2_find_142 x) h1 Q := by
    intro h1 T1 F1 f1 s1 e1
    unfold bX2_find_142
    refine wp_gA (k := 0) e1.1 rfl ?_
    refine wp_ldL (j := 1) e1.2.1 rfl (by omega) (by omega) ?_
    show WP (if (cL V T).1 ≤ 0 then _ else _) h1 Q
    by_cases c1 : (cL V T).1 ≤ 0
    · rw [if_pos c1]
      exact wp_rn (q h1 T1 F1 f1 s1 (by rw [cL', if_pos c1]; exact e1))
    · rw [if_neg c1]
      refine wp_bd (wp_vc e1.1 (set1_w e1 hd6 (fun h2 f2 e2 => wp_rn (q h2 T1 F1 (f1.tr (f2.mono m1)) (hse _ _ _ _ f2 s1) ?_))))
      rw [cL', if_neg c1]
      exact e2
  have k2 : ∀ (f : Nat) (h1 : Hp) (T1 : Int32) (F1 : Nat → Int64), 0 < f → Fr S h h1 → Swp h1 s e T1 F1 → ExB h1 x a b c (cG V T) (cL V T) → WP (fX2_find_3 f x (some l) (some t) (some s) (1 + 1)) h1 Q := by
    intro f h1 T1 F1 hf f1 s1 e1
    obtain ⟨f, rfl⟩ : ∃ z, f = z + 1 := ⟨f - 1, by omega⟩
    show WP (bX2_find_3 (fX2_find_3 f) x (some l) (some t) (some s) (1 + 1)) h1 Q
    unfold bX2_find_3
    rw [if_pos (by decide)]
    refine wp_gA (k := 0) e1.1 rfl ?_
    refine wp_ldL (j := 0) e1.2.1 rfl (by omega) (by omega) ?_
    show WP (if 0 ≤ (cG V T).1 then _ else _) h1 Q
    by_cases c1 : 0 ≤ (cG V T).1
    · rw [if_pos c1]
      exact h142 h1 T1 F1 f1 s1 (by rw [cG', if_pos c1]; exact e1)
    · rw [if_neg c1]
      refine wp_bd (wp_vc e1.1 (set0_w e1 hd6 (fun h2 f2 e2 => h142 h2 T1 F1 (f1.tr (f2.mono m1)) (hse _ _ _ _ f2 s1) ?_)))
      rw [cG', if_neg c1]
      exact e2
  have kk : ∀ (way : Int32) (f : Nat) (h1 : Hp) (T1 : Int32) (F1 : Nat → Int64) (g1 l1 g2 l2 : Bs), ¬ (2 : Int32) ≤ way → Fr S h h1 → Swp h1 s e T1 F1 → ExB h1 x a b c g2 l2 → (way = 0 → g1 = (V 0 0, 0, 0) ∧ l1 = (V 0 0, 0, 0)) → (way ≠ 0 → g2 = g1 ∧ l2 = l1) → (∀ (h2 : Hp) (T1 : Int32) (F1 : Nat → Int64), Fr S h h2 → Swp h2 s e T1 F1 → ExB h2 x a b c (cgS (V way) way g1 T) (clS (V way) way l1 T) → WP (fX2_find_3 f x (some l) (some t) (some s) (way + 1)) h2 Q) → WP (bX2_find_3 (fX2_find_3 f) x (some l) (some t) (some s) way) h1 Q := by
    intro way f h1 T1 F1 g1 l1 g2 l2 hw f1 s1 e1 h0 h9 hk
    unfold bX2_find_3
    rw [if_neg hw]
    refine wp_bd (wp_vc s1.1 (roll_w (way := way) (hl.fr f1 ⟨p1.no, p2.no⟩) (ht.fr f1 ⟨p3.no, p4.no, p5.no⟩) s1 hL hn hT3 hroll (fun h2 F2 f2 s2 v2 => ?_)))
    rw [hT] at s2 v2
    refine find_in (V := V way) (g0 := g1) (l0 := l1) (by omega) s2 (fun y hy => by rw [v2 y hy, hVe]) hd12 (fun hw0 => by subst hw0; exact h0 rfl) (fun h3 f3 e3 => ?_) (by omega) FU 0 h2 g2 l2 (by omega) (by unfold FU; omega) (Fr.rf _ _) (e1.fr f2 hxx) (fun hx => h9 (fun q => hx ⟨q, rfl⟩))
    exact hk h3 _ F2 ((f1.tr (f2.mono m2)).tr (f3.mono m1)) (hse _ _ _ _ f3 s2) e3
  unfold pX2_find
  obtain ⟨f, hf⟩ : ∃ f, FU = f + 1 := ⟨999999999, rfl⟩
  rw [hf]
  refine kk 0 f h T0 F0 (V 0 0, 0, 0) (V 0 0, 0, 0) g0 l0 (by decide) (Fr.rf _ h) hs he (fun _ => ⟨rfl, rfl⟩) (fun q => absurd rfl q) (fun h2 T2 F2 f2 s2 e2 => ?_)
  obtain ⟨f, rfl⟩ : ∃ z, f = z + 1 := ⟨f - 1, by unfold FU at hf; omega⟩
  refine kk 1 f h2 T2 F2 _ _ _ _ (by decide) f2 s2 e2 (fun q => absurd q (by decide)) (fun _ => ⟨rfl, rfl⟩) (fun h3 T3 F3 f3 s3 e3 => ?_)
  exact k2 f h3 T3 F3 (by unfold FU at hf; omega) f3 s3 e3
