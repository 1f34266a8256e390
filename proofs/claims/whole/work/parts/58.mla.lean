/-! The reference's conditions: layTable, laySupports. -/
/-- what a row's condition turns about, in the reference -/
def hgR (n L : Nat) (hn : Nat → Nat) (i : Nat) : Int := if i = n - 1 then (L : Int) else (hn (i - 1) : Int)
theorem nI_64 {a : Nat} (h : a < 2 ^ 31) : (nI a).toInt64 = oL a := by
  rw [← Int64.toInt_inj, Int32.toInt_toInt64, nI_toInt h, oL_toInt (by omega)]
theorem mxv {h p : Nat} (hh : h < 2 ^ 30) (hp : p < 2 ^ 30) : (h ≤ p → (0 : Int64) = oL (max 0 ((h : Int) - p))) ∧ (¬ h ≤ p → (nI h - nI p).toInt64 = oL (max 0 ((h : Int) - p))) := by
  refine ⟨fun c => ?_, fun c => ?_⟩
  · rw [show max 0 ((h : Int) - p) = 0 by omega]
    rfl
  · rw [pk_sub (by omega), nI_64 (by omega)]
    congr 1
    omega
/-- a condition's factor -/
def cvN (h p : Nat) : Int64 := if h = 0 then 1 else oL (max 0 ((h : Int) - p))
def rwT (n line h a : Nat) (sn : Nat → Nat) (N : Nat → Nat → Int64) (i j : Nat) : Int64 := if i = line ∧ j < n then cvN h (sn j) else if i = line ∧ j = 5 then cvN h a else N i j
theorem layEnd {M b n line h a : Nat} {hinge : Int64} {σ : MS} {sn : Nat → Nat} {N N1 : Nat → Nat → Int64} {k14 : Nat → Int32 → Int64 → Int32 → Int32 → Int32 → Int32 → Mo Unit} {Q : Unit → MS → Prop} (hl : line < 5) (hh : h ≤ 60) (ha : a ≤ 60) (hN : ∀ i j, j < 6 → upN N1 line 5 (cvN h a) i j = rwT n line h a sn N i j) (z : RM M (k14 M (nI b) hinge (nI a) (nI n) (nI (line + 1)) (nI (h + 1))) (stN σ (rwT n line h a sn N)) Q) : RM M (bX11_layTable_132 k14 M (nI b) hinge (nI a) (nI n) (nI line) (nI h) 1) (stN σ N1) Q := by
  unfold bX11_layTable_132
  rw [if_neg (by decide)]
  refine rm_gA ?_
  have key : ∀ v, v = cvN h a → RM M (bX11_layTable_174 k14 M (nI b) hinge (nI a) (nI n) (nI line) (nI h) (some (M + adM 10)) (((6 : Int32) * nI line) + (5 : Int32)) v) (stN σ N1) Q := by
    intro v hv
    unfold bX11_layTable_174
    refine rm_stN line 5 (ix6 line 5) hl (by omega) ?_
    rw [nI_1, nI_1, hv, stN_c hN]
    exact z
  by_cases h0 : h = 0
  · subst h0
    rw [if_pos (by rfl)]
    exact key 1 rfl
  · rw [if_neg (nI_ne0 (by omega) (by omega))]
    have mv := mxv (h := h) (p := a) (by omega) (by omega)
    by_cases c : h ≤ a
    · rw [if_pos (nI_le c (by omega))]
      exact key _ (by rw [cvN, if_neg h0]; exact mv.1 c)
    · rw [if_neg (nI_ge (by omega) (by omega))]
      exact key _ (by rw [cvN, if_neg h0]; exact mv.2 c)
theorem layRow {M b n line h a : Nat} {hinge : Int64} {σ : MS} {sn : Nat → Nat} {N : Nat → Nat → Int64} {k14 : Nat → Int32 → Int64 → Int32 → Int32 → Int32 → Int32 → Mo Unit} {Q : Unit → MS → Prop} (hb : b < 6) (hn : n ≤ 5) (hl : line < 5) (hh : h ≤ 60) (ha : a ≤ 60) (hs : ∀ k, k < n → σ.a 4 (5 * b + k) = nI (sn k)) (hs6 : ∀ k, k < n → sn k ≤ 60) (z : RM M (k14 M (nI b) hinge (nI a) (nI n) (nI (line + 1)) (nI (h + 1))) (stN σ (rwT n line h a sn N)) Q) : ∀ (f k : Nat), k ≤ n → n < k + f → RM M (fX11_layTable_62 k14 f M (nI b) hinge (nI a) (nI n) (nI line) (nI h) 1 (nI k)) (stN σ (fun i j => if i = line ∧ j < k then cvN h (sn j) else N i j)) Q
  | 0, k, h1, h2 => by omega
  | f + 1, k, h1, h2 => by
    show RM M (bX11_layTable_62 k14 (fX11_layTable_62 k14 f) M (nI b) hinge (nI a) (nI n) (nI line) (nI h) 1 (nI k)) _ Q
    unfold bX11_layTable_62
    by_cases hk : n ≤ k
    · have e : k = n := by omega
      subst e
      rw [if_pos (nI_le hk (by omega))]
      refine layEnd (sn := sn) (N := N) hl hh ha (fun i j hj => ?_) z
      unfold upN rwT
      by_cases c1 : i = line
      · by_cases c2 : j = 5
        · subst c2
          simp [c1, show ¬ 5 < k by omega]
        · simp [c1, c2]
      · simp [c1]
    · rw [if_neg (nI_ge (by omega) (by omega)), if_neg (by decide)]
      refine rm_gA ?_
      refine rm_ldI (5 * b + k) (ix5 b k) (by show _ < 30; omega) ?_
      rw [show (stN σ fun i j => if i = line ∧ j < k then cvN h (sn j) else N i j).a 4 (5 * b + k) = nI (sn k) from hs k (by omega)]
      refine rm_gA ?_
      have hsk := hs6 k (by omega)
      have key : ∀ v, v = cvN h (sn k) → RM M (bX11_layTable_125 k14 (fX11_layTable_62 k14 f) M (nI b) hinge (nI a) (nI n) (nI line) (nI h) 1 (nI k) (some (M + adM 10)) (((6 : Int32) * nI line) + nI k) v) (stN σ (fun i j => if i = line ∧ j < k then cvN h (sn j) else N i j)) Q := by
        intro v hv
        unfold bX11_layTable_125
        refine rm_stN line k (ix6 line k) hl (by omega) ?_
        have ih := layRow (M := M) (hinge := hinge) hb hn hl hh ha hs hs6 z f (k + 1) (by omega) (by omega)
        rw [nI_1, hv, stN_c (N' := fun i j => if i = line ∧ j < k + 1 then cvN h (sn j) else N i j)]
        · exact ih
        · intro i j hj
          unfold upN
          by_cases c1 : i = line
          · by_cases c2 : j = k
            · simp [c1, c2]
            · by_cases c3 : j < k
              · simp [c1, c2, c3, show j < k + 1 by omega]
              · simp [c2, c3, show ¬ j < k + 1 by omega]
          · simp [c1]
      by_cases h0 : h = 0
      · subst h0
        rw [if_pos (by rfl)]
        exact key 1 rfl
      · rw [if_neg (nI_ne0 (by omega) (by omega))]
        have mv := mxv (h := h) (p := sn k) (by omega) (by omega)
        by_cases c : h ≤ sn k
        · rw [if_pos (nI_le c (by omega))]
          exact key _ (by rw [cvN, if_neg h0]; exact mv.1 c)
        · rw [if_neg (nI_ge (by omega) (by omega))]
          exact key _ (by rw [cvN, if_neg h0]; exact mv.2 c)
/-- the rows that are laid below h -/
def lnR (n L Y h : Nat) : Nat := if h = 0 then 0 else if h ≤ L then 1 + ctN h Y else n
theorem layT_l {M b n L a : Nat} {hinge : Int64} {σ : MS} {sn hn : Nat → Nat} {Q : Unit → MS → Prop} (hb : b < 6) (hn2 : 2 ≤ n ∧ n ≤ 5) (hL : 2 ≤ L ∧ L ≤ 60) (ha : a ≤ 60) (hL1 : σ.a 1 b = nI L) (hs : ∀ k, k < n → σ.a 4 (5 * b + k) = nI (sn k)) (hs6 : ∀ k, k < n → sn k ≤ 60) (hY : nL hinge < 2 ^ 63) (hY0 : bt (nL hinge) 0 = 0) (hYL : ctN L (nL hinge) + 2 = n) (hh : ∀ k, k < n - 2 → hn k = pls (nL hinge) L k)
    (z : ∀ N, (∀ i j, i < n → (j < n ∨ j = 5) → N i j = oL (con (hgR n L hn) (posI sn n) i (phN n a j))) → Q () (stN σ N)) : ∀ (f h : Nat) (N : Nat → Nat → Int64), h ≤ L + 1 → L + 1 < h + f → (∀ i j, i < lnR n L (nL hinge) h → (j < n ∨ j = 5) → N i j = oL (con (hgR n L hn) (posI sn n) i (phN n a j))) → RM M (fX11_layTable_14 f M (nI b) hinge (nI a) (nI n) (nI (lnR n L (nL hinge) h)) (nI h)) (stN σ N) Q
  | 0, h, N, h1, h2, h3 => by omega
  | f + 1, h, N, h1, h2, h3 => by
    show RM M (bX11_layTable_14 (fX11_layTable_14 f) M (nI b) hinge (nI a) (nI n) (nI (lnR n L (nL hinge) h)) (nI h)) _ Q
    unfold bX11_layTable_14
    refine rm_gA ?_
    refine rm_ldI b rfl (by show _ < 6; omega) ?_
    rw [show (stN σ N).a 1 b = nI L from hL1]
    by_cases hh1 : L < h
    · rw [if_pos (nI_lt hh1 (by omega))]
      have e : lnR n L (nL hinge) h = n := by simp [lnR, show h ≠ 0 by omega, show ¬ h ≤ L by omega]
      rw [e] at h3
      exact rm_rn (z N h3)
    · rw [if_neg (nI_nlt (by omega) (by omega))]
      -- a row that is laid
      have laid : ∀ line, lnR n L (nL hinge) h = line → line < n → lnR n L (nL hinge) (h + 1) = line + 1 → (∀ (p j : Nat), con (hgR n L hn) (posI sn n) line j = (if h = 0 then 1 else max 0 ((h : Int) - posI sn n j))) → RM M (fX11_layTable_62 (fX11_layTable_14 f) FU M (nI b) hinge (nI a) (nI n) (nI line) (nI h) 1 0) (stN σ N) Q := by
        intro line e1 e2 e3 e4
        have w := layRow (M := M) (b := b) (n := n) (line := line) (h := h) (a := a) (hinge := hinge) (σ := σ) (sn := sn) (N := N) (k14 := fX11_layTable_14 f) (Q := Q) hb hn2.2 (by omega) (by omega) ha hs hs6 ?_ FU 0 (by omega) (by unfold FU; omega)
        · rw [stN_c (N' := N) (fun i j hj => by simp)] at w
          exact w
        · rw [← e3]
          refine layT_l hb hn2 hL ha hL1 hs hs6 hY hY0 hYL hh z f (h + 1) _ (by omega) (by omega) (fun i j hi hj => ?_)
          rw [e3] at hi
          by_cases c : i = line
          · subst c
            rw [e4 0]
            unfold rwT
            rcases hj with hj | hj
            · rw [if_pos ⟨rfl, hj⟩]
              simp only [cvN, phN, if_neg (show j ≠ 5 by omega), posI, psn, if_pos hj]
              by_cases c0 : h = 0
              · simp [c0]
                rfl
              · simp [c0]
            · subst hj
              rw [if_neg (by omega), if_pos ⟨rfl, rfl⟩]
              simp only [cvN, phN, if_true, posI, psn, if_neg (show ¬ n + a < n by omega)]
              by_cases c0 : h = 0
              · simp [c0]
                rfl
              · simp [c0]
          · unfold rwT
            rw [if_neg (fun q => c q.1), if_neg (fun q => c q.1)]
            exact h3 i j (by rw [e1]; omega) hj
      by_cases h0 : h = 0
      · subst h0
        rw [if_pos (by rfl)]
        refine laid 0 rfl (by omega) ?_ (fun _ j => by simp [con])
        have c1 := ctN_b (nL hinge) 0
        rw [hY0] at c1
        simp only [lnR, if_neg (show ¬ (0 + 1 = 0) by omega), if_pos (show 0 + 1 ≤ L by omega)]
        rw [c1]
        rfl
      · rw [if_neg (nI_ne0 (by omega) (by omega))]
        refine rm_gA ?_
        refine rm_ldI b rfl (by show _ < 6; omega) ?_
        rw [show (stN σ N).a 1 b = nI L from hL1]
        have eh : lnR n L (nL hinge) h = 1 + ctN h (nL hinge) := by simp [lnR, h0, show h ≤ L by omega]
        by_cases hL2 : h = L
        · rw [if_pos (by rw [hL2])]
          rw [eh]
          rw [hL2] at eh ⊢
          rw [hL2] at laid
          refine laid _ eh (by omega) ?_ (fun _ j => ?_)
          · simp only [lnR, if_neg (show ¬ (L + 1 = 0) by omega), if_neg (show ¬ L + 1 ≤ L by omega)]
            omega
          · rw [if_neg (by omega)]
            simp only [con, if_neg (show ¬ (1 + ctN L (nL hinge) = 0) by omega), hgR, if_pos (show 1 + ctN L (nL hinge) = n - 1 by omega)]
        · rw [if_neg (fun y => hL2 ((nI_eq (by omega) (by omega)).mp y))]
          have cb := ctN_b (nL hinge) h
          have e3 : lnR n L (nL hinge) (h + 1) = 1 + ctN (h + 1) (nL hinge) := by simp [lnR, show h + 1 ≤ L by omega]
          have cm := ctN_mono (nL hinge) (a := h + 1) (b := L) (by omega)
          rcases bt_01 (nL hinge) h with hb0 | hb1
          · rw [if_neg (fun y => by rw [(srL_bit hinge hY (by omega)).mp y] at hb0; omega)]
            obtain ⟨g, hg⟩ : ∃ g, FU = g + 1 := ⟨999999999, rfl⟩
            rw [hg]
            have e4 : lnR n L (nL hinge) h = lnR n L (nL hinge) (h + 1) := by rw [eh, e3, cb, hb0, Nat.add_zero]
            rw [e4] at h3 ⊢
            show RM M (bX11_layTable_62 (fX11_layTable_14 f) (fX11_layTable_62 (fX11_layTable_14 f) g) M (nI b) hinge (nI a) (nI n) (nI (lnR n L (nL hinge) (h + 1))) (nI h) 0 (nI 0)) _ Q
            unfold bX11_layTable_62
            rw [if_neg (nI_ge (by omega) (by omega)), if_pos rfl]
            unfold bX11_layTable_132
            rw [if_pos rfl, nI_1]
            exact layT_l hb hn2 hL ha hL1 hs hs6 hY hY0 hYL hh z f (h + 1) N (by omega) (by omega) h3
          · rw [if_pos ((srL_bit hinge hY (by omega)).mpr hb1), eh]
            rw [hb1] at cb
            refine laid _ eh (by omega) (by rw [e3, cb]; omega) (fun _ j => ?_)
            have hp : hn (ctN h (nL hinge)) = h := by
              rw [hh _ (by omega), pls_up (nL hinge) (p := h + 1) L (by omega) (by omega), pls, if_pos ⟨hb1, rfl⟩]
            rw [if_neg h0]
            simp only [con, if_neg (show ¬ (1 + ctN h (nL hinge) = 0) by omega), hgR, if_neg (show ¬ (1 + ctN h (nL hinge) = n - 1) by omega)]
            rw [show 1 + ctN h (nL hinge) - 1 = ctN h (nL hinge) by omega, hp]
theorem layTable_m {M b n L a : Nat} {hinge : Int64} {σ : MS} {sn hn : Nat → Nat} {N : Nat → Nat → Int64} {Q : Unit → MS → Prop} (hb : b < 6) (hn2 : 2 ≤ n ∧ n ≤ 5) (hL : 2 ≤ L ∧ L ≤ 60) (ha : a ≤ 60) (hL1 : σ.a 1 b = nI L) (hn1 : σ.a 2 b = nI n) (hs : ∀ k, k < n → σ.a 4 (5 * b + k) = nI (sn k)) (hs6 : ∀ k, k < n → sn k ≤ 60) (hY : nL hinge < 2 ^ 63) (hY0 : bt (nL hinge) 0 = 0) (hYL : ctN L (nL hinge) + 2 = n) (hh : ∀ k, k < n - 2 → hn k = pls (nL hinge) L k)
    (z : ∀ N, (∀ i j, i < n → (j < n ∨ j = 5) → N i j = oL (con (hgR n L hn) (posI sn n) i (phN n a j))) → Q () (stN σ N)) : RM M (pX11_layTable M (nI b) hinge (nI a)) (stN σ N) Q := by
  unfold pX11_layTable
  refine rm_gA ?_
  refine rm_ldI b rfl (by show _ < 6; omega) ?_
  rw [show (stN σ N).a 2 b = nI n from hn1]
  exact layT_l hb hn2 hL ha hL1 hs hs6 hY hY0 hYL hh z FU 0 N (by omega) (by unfold FU; omega) (fun i j hi => by simp [lnR] at hi)
/-- other supports -/
def stS (σ : MS) (F : Nat → Int32) : MS := (σ.1, fun x y => if x = 4 then F y else σ.2.1 x y, σ.2.2)
theorem stS_sa (σ : MS) (F : Nat → Int32) (j : Nat) (v : Int32) : (stS σ F).sa 4 j v = stS σ (fun y => if y = j then v else F y) := by
  unfold stS MS.sa
  refine Prod.ext rfl (Prod.ext (funext fun k => funext fun y => ?_) rfl)
  by_cases e : k = 4 <;> simp [e]
theorem stS_self (σ : MS) : σ = stS σ (σ.a 4) := by
  unfold stS
  refine Prod.ext rfl (Prod.ext (funext fun k => funext fun y => ?_) rfl)
  by_cases e : k = 4 <;> simp [e, MS.a]
theorem laySup_l {M b K : Nat} {sup : Int64} {σ : MS} {Q : Unit → MS → Prop} (hK : K = 61) (hb : b < 6) (hX : nL sup < 2 ^ 63) (h5 : ctN K (nL sup) ≤ 5) (z : ∀ F : Nat → Int32, (∀ k, k < ctN K (nL sup) → F (5 * b + k) = nI (pls (nL sup) K k)) → (∀ y, ¬ (5 * b ≤ y ∧ y < 5 * b + 5) → F y = σ.a 4 y) → Q () (stS σ F)) : ∀ (f p : Nat) (F : Nat → Int32), p ≤ K → K < p + f → (∀ k, k < ctN p (nL sup) → F (5 * b + k) = nI (pls (nL sup) p k)) → (∀ y, ¬ (5 * b ≤ y ∧ y < 5 * b + 5) → F y = σ.a 4 y) → RM M (fX11_laySupports_6 f M (nI b) sup (nI (ctN p (nL sup))) (nI p)) (stS σ F) Q
  | 0, p, F, h1, h2, h3, h4 => by omega
  | f + 1, p, F, h1, h2, h3, h4 => by
    show RM M (bX11_laySupports_6 (fX11_laySupports_6 f) M (nI b) sup (nI (ctN p (nL sup))) (nI p)) _ Q
    unfold bX11_laySupports_6
    by_cases hp : 61 ≤ p
    · have e : p = K := by omega
      rw [if_pos (show (61 : Int32) ≤ nI p from nI_le (a := 61) hp (by omega))]
      rw [e] at h3
      exact rm_rn (z F h3 h4)
    · rw [if_neg (show ¬ (61 : Int32) ≤ nI p from nI_ge (b := 61) (by omega) (by omega))]
      have cs := ctN_b (nL sup) p
      have cm := ctN_mono (nL sup) (a := p + 1) (b := K) (by omega)
      rcases bt_01 (nL sup) p with hb0 | hb1
      · rw [if_neg (fun y => by rw [(srL_bit sup hX (by omega)).mp y] at hb0; exact absurd hb0 (by decide)), nI_1]
        have e : ctN p (nL sup) = ctN (p + 1) (nL sup) := by rw [cs, hb0, Nat.add_zero]
        rw [e] at h3 ⊢
        refine laySup_l hK hb hX h5 z f (p + 1) F (by omega) (by omega) (fun k hk => ?_) h4
        rw [h3 k hk, pls, if_neg (fun y => by rw [hb0] at y; exact absurd y.1 (by decide))]
      · rw [if_pos ((srL_bit sup hX (by omega)).mpr hb1)]
        rw [hb1] at cs
        generalize hm : ctN p (nL sup) = m at h3 cs ⊢
        refine rm_gA ?_
        refine rm_stI (5 * b + m) (ix5 b m) (by show _ < 30; omega) ?_
        rw [stS_sa, nI_1, nI_1, ← cs]
        refine laySup_l hK hb hX h5 z f (p + 1) _ (by omega) (by omega) (fun k hk => ?_) (fun y hy => ?_)
        · rw [cs] at hk
          rw [pls, hm]
          by_cases e : k = m
          · rw [if_pos (by rw [e]), if_pos ⟨hb1, e⟩]
          · rw [if_neg (by omega), if_neg (fun y => e y.2)]
            exact h3 k (by omega)
        · rw [if_neg (by omega)]
          exact h4 y hy
theorem laySup_m {M b K : Nat} {sup : Int64} {σ : MS} {Q : Unit → MS → Prop} (hK : K = 61) (hb : b < 6) (hX : nL sup < 2 ^ 63) (h5 : ctN K (nL sup) ≤ 5) (z : ∀ F : Nat → Int32, (∀ k, k < ctN K (nL sup) → F (5 * b + k) = nI (pls (nL sup) K k)) → (∀ y, ¬ (5 * b ≤ y ∧ y < 5 * b + 5) → F y = σ.a 4 y) → Q () (stS σ F)) : RM M (pX11_laySupports M (nI b) sup) σ Q := by
  have h := laySup_l (M := M) hK hb hX h5 z FU 0 (σ.a 4) (by omega) (by unfold FU; omega) (fun k hk => absurd hk (Nat.not_lt_zero k)) (fun y _ => rfl)
  rw [← stS_self] at h
  exact h
