/-! A train on a bridge, as both sides have it. -/
/-- train t of the state τ: n axles, weights W, gaps gn -/
def TrV (τ : MS) (t n : Nat) (W : Nat → Int32) (gn : Nat → Nat) : Prop := t < 8 ∧ τ.a 13 t = nI n ∧ (1 ≤ n ∧ n ≤ 8) ∧ (∀ k, k < n → wtM τ t k = W k ∧ gpM τ t k = nI (gn k)) ∧ gn 0 = 0 ∧ bhN gn n ≤ 280 ∧ ∀ k, k < n → ∃ w, w ≤ 600 ∧ W k = nI w
theorem TrV.n {τ : MS} {t n : Nat} {W : Nat → Int32} {gn : Nat → Nat} (v : TrV τ t n W gn) : nad τ t = n ∧ agd τ t = bhN gn n ∧ WT τ t := by
  obtain ⟨v1, v2, v3, v4, v5, v6, v7⟩ := v
  have e1 : nad τ t = n := by unfold nad; rw [v2, nI_clamp (by omega)]
  have e2 := ag_e (σ := τ) (t := t) (gn := gn) n (fun k hk => (v4 k hk).2)
  have e3 : agd τ t = bhN gn n := by unfold agd; rw [e1, e2, nI_clamp (by omega)]
  exact ⟨e1, e3, v1, by rw [e1]; exact v2, by rw [e1]; exact v3.2, by rw [e1, e3]; exact e2, by rw [e3]; omega⟩
theorem WF.tv {σ : MS} (w : WF σ) {t : Nat} (ht : t < ntd σ) {W : Nat → Int32} {gn : Nat → Nat} (hW : ∀ k, k < nad σ t → W k = σ.a 14 (8 * t + k)) (hg : ∀ k, k < nad σ t → gn k = gnd σ t k) : TrV σ t (nad σ t) W gn := by
  obtain ⟨t8, wt, hn, _, _⟩ := w.tr ht
  have le := gnd_le wt
  refine ⟨t8, wt.1, wt.2.1, fun k hk => ⟨by rw [wt_e hn, hW k hk], by rw [gp_e t8 wt hn hk, hg k hk]⟩, by rw [hg 0 (by have := wt.2.1; omega)]; exact wt.2.2.2.2.1, by rw [bhN_c _ hg]; omega, fun k hk => ?_⟩
  obtain ⟨w', e1, _, e3⟩ := wt.2.2.1 k hk
  exact ⟨w', by omega, by rw [hW k hk, e1]⟩
/-- the effects -/
def VM (τ : MS) (b : Nat) (kind : Int32) (x t : Nat) (way : Int32) (y : Nat) : Int64 := effM τ b kind x (Ld τ b) (nsd τ b) t way (nad τ t) (nI y)
def TM (τ : MS) (b t : Nat) : Nat := Ld τ b + agd τ t + 1
section TVs
variable {τ : MS} {b t n x : Nat} {kind : Int32} {W : Nat → Int32} {gn : Nat → Nat} {lf : Nat → Int64}
theorem TrV.eff (v : TrV τ t n W gn) (hL : Ld τ b ≤ 60) (hl : ∀ a, a ≤ Ld τ b → lf a = infM τ b kind x a (nsd τ b)) (way : Int32) {j : Nat} (hj : j ≤ 2000) : VM τ b kind x t way j = cS (Ld τ b) W lf (bhW gn n way) j n := by
  obtain ⟨e1, e2, e3⟩ := v.n
  obtain ⟨v1, v2, v3, v4, v5, v6, v7⟩ := v
  unfold VM
  rw [e1, effM_e (gn := gn) hL v3.2 (by omega) (fun k hk => (v4 k hk).2) v5 (by omega) hj]
  exact cS_c _ (fun i hi => ⟨(v4 i hi).1, rfl⟩) (fun a ha => (hl a ha).symm)
/-- the effects are small -/
theorem TrV.bnd (v : TrV τ t n W gn) {sn : Nat → Nat} {z : Nat → Nat → Int} {p : Int} (q : BQ τ b (Ld τ b) (nsd τ b) sn z p) (hr : RsB τ b kind x) (way : Int32) {j : Nat} (hj : j ≤ 2000) : ∃ e : Int, VM τ b kind x t way j = oL e ∧ e.natAbs ≤ 8 * (600 * 46656000000) := by
  have e := v.eff (b := b) (kind := kind) (x := x) (lf := fun a => infM τ b kind x a (nsd τ b)) q.2.1 (fun a _ => rfl) way hj
  obtain ⟨v1, v2, v3, v4, v5, v6, v7⟩ := v
  have hw : ∀ k, k < n → (W k).toInt64 = oL (W k).toInt ∧ (W k).toInt.natAbs ≤ 600 := by
    intro k hk
    obtain ⟨w, w1, w2⟩ := v7 k hk
    rw [w2, nI_toInt (by omega), nI_64 (by omega)]
    exact ⟨rfl, by omega⟩
  rw [e, cS_z (w := fun k => (W k).toInt) (f := fun a => ifI z p sn (nsd τ b) kind x a) n (fun i hi => (hw i hi).1) (fun a ha => (inf_z q hr ha).1)]
  refine ⟨_, rfl, Nat.le_trans (cSI_b (X := 600) (Y := 46656000000) n (fun i hi => (hw i hi).2) (fun a ha => (inf_z q hr ha).2)) ?_⟩
  exact Nat.mul_le_mul_right _ v3.2
end TVs
theorem cgS_c {V V' : Nat → Int64} {way : Int32} {s : Bs} : ∀ m, (∀ i, i < m → V i = V' i) → cgS V way s m = cgS V' way s m
  | 0, _ => rfl
  | m + 1, h => by rw [cgS, cgS, cgS_c m (fun i hi => h i (by omega)), h m (by omega)]
theorem clS_c {V V' : Nat → Int64} {way : Int32} {s : Bs} : ∀ m, (∀ i, i < m → V i = V' i) → clS V way s m = clS V' way s m
  | 0, _ => rfl
  | m + 1, h => by rw [clS, clS, clS_c m (fun i hi => h i (by omega)), h m (by omega)]
theorem cG_c {V V' : Int32 → Nat → Int64} {T : Nat} (hT : 0 < T) (h : ∀ way i, i < T → V way i = V' way i) : cG' V T = cG' V' T := by
  have e : cG V T = cG V' T := by
    unfold cG
    rw [cgS_c T (fun i hi => h 1 i hi), cgS_c T (fun i hi => h 0 i hi), h 0 0 hT]
  unfold cG'
  rw [e]
theorem cL_c {V V' : Int32 → Nat → Int64} {T : Nat} (hT : 0 < T) (h : ∀ way i, i < T → V way i = V' way i) : cL' V T = cL' V' T := by
  have e : cL V T = cL V' T := by
    unfold cL
    rw [clS_c T (fun i hi => h 1 i hi), clS_c T (fun i hi => h 0 i hi), h 0 0 hT]
  unfold cL'
  rw [e]
/-- the greatest and the least by the reference's numbers -/
def GM (τ : MS) (b : Nat) (kind : Int32) (x t : Nat) : Bs := cG' (VM τ b kind x t) (TM τ b t)
def LM (τ : MS) (b : Nat) (kind : Int32) (x t : Nat) : Bs := cL' (VM τ b kind x t) (TM τ b t)
theorem GR_0 (τ : MS) (b : Nat) (kind : Int32) (x t : Nat) : GRx τ b kind x t 0 = GM τ b kind x t := by
  unfold GRx exM GM TM
  have e : ∀ way, exV τ b kind x (Ld τ b) (nsd τ b) t (nad τ t) 0 way = VM τ b kind x t way := by
    intro way
    funext m
    unfold exV VM
    rw [if_pos rfl]
  rw [e, e]
  exact ex_g (VM τ b kind x t) (Ld τ b + agd τ t)
theorem GR_1 {τ : MS} {b : Nat} {kind : Int32} {x t : Nat} (h : ∀ way i, i < TM τ b t → nMn (VM τ b kind x t way i)) : GRx τ b kind x t 1 = (0 - (LM τ b kind x t).1, (LM τ b kind x t).2.1, (LM τ b kind x t).2.2) := by
  unfold GRx exM LM TM
  have e : ∀ way, exV τ b kind x (Ld τ b) (nsd τ b) t (nad τ t) 1 way = fun i => 0 - VM τ b kind x t way i := by
    intro way
    funext m
    unfold exV VM
    rw [if_neg (by decide)]
  rw [e, e]
  exact ex_l (VM τ b kind x t) (Ld τ b + agd τ t) (fun w i hi => h w i hi)
theorem zz_sub (v : Int64) : 0 - (0 - v) = v := by simp
/-- by end -/
def EM (τ : MS) (b : Nat) (kind : Int32) (x t : Nat) (en : Int32) : Bs := if en = 0 then GM τ b kind x t else LM τ b kind x t
theorem GR_e {τ : MS} {b : Nat} {kind : Int32} {x t : Nat} {en : Int32} (he : en = 0 ∨ en = 1) (h : ∀ way i, i < TM τ b t → nMn (VM τ b kind x t way i)) : exA en (GRx τ b kind x t en) = (EM τ b kind x t en).1 ∧ (GRx τ b kind x t en).2.1 = (EM τ b kind x t en).2.1 ∧ (GRx τ b kind x t en).2.2 = (EM τ b kind x t en).2.2 := by
  unfold exA EM
  rcases he with rfl | rfl
  · rw [if_pos rfl, if_pos rfl, GR_0]
    exact ⟨rfl, rfl, rfl⟩
  · rw [if_neg (by decide), if_neg (by decide), GR_1 h]
    exact ⟨zz_sub _, rfl, rfl⟩
/-- Extremes.find on a bridge's line: what comes out -/
theorem find_m {h : Hp} {τ : MS} {B b t n x s e X l u tr wd gd : Nat} {kind : Int32} {lo : Int64} {lf F0 : Nat → Int64} {T0 r : Int32} {W : Nat → Int32} {gn : Nat → Nat} {g0 l0 : Bs} (v : TrV τ t n W gn) (hL : Ld τ b ≤ 60) (hl : ∀ a, a ≤ Ld τ b → lf a = infM τ b kind x a (nsd τ b)) (l1 : Lin h l u (Ld τ b) lo lf) (t1 : Trn h tr wd gd n r W (fun k => nI (gn k))) (hs : Swp h s e T0 F0) (he : ExB h X (X + 1) (X + 2) (X + 3) g0 l0) (hse : e = s + 1) (hsX : (s + 2 ≤ X) ∨ (X + 4 ≤ s)) (dl : ∀ y, (y = l ∨ y = u ∨ y = tr ∨ y = wd ∨ y = gd) → (y < s ∨ s + 2 ≤ y) ∧ (y < X ∨ X + 4 ≤ y)) {Q : Unit → Hp → Prop}
    (q : ∀ h2 T2 F2, Fr (fun y => (s ≤ y ∧ y < s + 2) ∨ (X < y ∧ y < X + 4)) h h2 → Swp h2 s e T2 F2 → ExB h2 X (X + 1) (X + 2) (X + 3) (GM τ b kind x t) (LM τ b kind x t) → Q () h2) : WP (pX2_find X (some l) (some tr) (some s)) h Q := by
  obtain ⟨e1, e2, _⟩ := v.n
  have v3 := v.2.2.1
  have v6 := v.2.2.2.2.2.1
  subst hse
  have d5 : ∀ y, (y = l ∨ y = u ∨ y = tr ∨ y = wd ∨ y = gd) → D5 (X + 1) (X + 2) (X + 3) s (s + 1) y := by
    intro y hy
    have := dl y hy
    unfold D5
    omega
  refine find_w l1 t1 hs he hL v3.2 v6 (by unfold D15 D12 D6; omega) ⟨d5 l (by simp), d5 u (by simp), d5 tr (by simp), d5 wd (by simp), d5 gd (by simp)⟩ (fun h2 T2 F2 f2 s2 x2 => q h2 T2 F2 (f2.mono (fun y hy => by omega)) s2 ?_)
  have eT : Ld τ b + bhN gn n + 1 = TM τ b t := by unfold TM; rw [e2]
  have eV : ∀ way i, i < TM τ b t → cS (Ld τ b) W lf (bhW gn n way) i n = VM τ b kind x t way i := fun way i hi => (v.eff hL hl way (by rw [← eT] at hi; omega)).symm
  rw [eT, cG_c (V' := VM τ b kind x t) (by unfold TM; omega) eV, cL_c (V' := VM τ b kind x t) (by unfold TM; omega) eV] at x2
  exact x2
