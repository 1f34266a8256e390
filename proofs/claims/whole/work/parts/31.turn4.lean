/-! Wear, in the reference: the row itself. -/
def rowF (V : Nat → Int64) (m : Nat) (g : Nat → Int64) : Prop := g 0 = 0 ∧ ∀ j, j < m → g (j + 1) = V j
theorem wear_1 {M : Nat} {σ : MS} {b x t : Nat} {kind : Int32} {w hv : Int32} {Q : Int64 → MS → Prop} (hB : WB σ b) (hT : WT σ t) (hx : x ≤ 60) (hx5 : kind = 0 → x < 5) (hS : Ld σ b + agd σ t ≤ 200) (hlo : ¬ σ.l 9 b = 0)
    (q : ∀ (N : Int32) (g : Nat → Int64), Q (weM (σ.l 9 b) (cgM σ b kind x t)) (stW σ N (wrM (σ.l 9 b) (cgM σ b kind x t)).2.2 (nI (wrM (σ.l 9 b) (cgM σ b kind x t)).1.length - 1) g)) :
    ∀ (fu m : Nat) (g : Nat → Int64), m ≤ Ld σ b + agd σ t + 1 → Ld σ b + agd σ t + 1 < m + fu → rowF (fun m => effM σ b kind x (Ld σ b) (nsd σ b) t 0 (nad σ t) (nI m)) m g → RM M (fX11_wearOf_15 fu M (nI b) kind (nI x) (nI t) (nI m)) (stW σ (nI (m + 1)) w hv g) Q
  | 0, m, g, h1, h2, h3 => by omega
  | fu + 1, m, g, h1, h2, h3 => by
    have hb := hB.1
    have E := stW_EQ σ (nI (m + 1)) w hv g
    show RM M (bX11_wearOf_15 (fX11_wearOf_15 fu) M (nI b) kind (nI x) (nI t) (nI m)) (stW σ (nI (m + 1)) w hv g) Q
    unfold bX11_wearOf_15
    refine rm_gA ?_
    refine rm_ldI b rfl (by show _ < 6; omega) ?_
    rw [show (stW σ (nI (m + 1)) w hv g).a 1 b = nI (Ld σ b) from hB.2.1]
    refine rm_ro (ro_vc (allGapsM_r hT.1 hT.2.2.1 (show (stW σ (nI (m + 1)) w hv g).a 13 t = nI (nad σ t) from hT.2.1))) ?_
    rw [agM_c t E, hT.2.2.2.1, nI_add]
    by_cases hm : Ld σ b + agd σ t < m
    · have e : m = Ld σ b + agd σ t + 1 := by omega
      rw [if_pos (nI_lt hm (by omega))]
      refine rm_gA ?_
      refine rm_gI ?_
      refine rm_stL (m + 1) rfl (by show _ < 210; omega) ?_
      rw [stW_l]
      refine rm_gI ?_
      refine rm_pI ?_
      rw [stW_38, show (stW σ (nI (m + 1)) w hv fun y => if y = m + 1 then 0 else g y).i 38 = nI (m + 1) from rfl, nI_1]
      have hrow : Row (fun y => if y = m + 1 then 0 else g y) (cgM σ b kind x t) := by
        intro j hj
        rw [cgM] at hj ⊢
        rw [← e] at hj ⊢
        simp only [List.length_cons, List.length_append, List.length_map, List.length_range, List.length_nil] at hj
        rcases j with _ | j
        · simp only [List.getD_cons_zero]
          rw [if_neg (by omega)]
          exact h3.1
        · simp only [List.getD_cons_succ]
          by_cases hjm : j < m
          · rw [if_neg (by omega), h3.2 j hjm]
            simp [List.getD, List.getElem?_append, hjm]
          · have ej : j = m := by omega
            subst ej
            rw [if_pos rfl]
            simp [List.getD]
      have hne : (List.range (Ld σ b + agd σ t + 1)).map (fun m => effM σ b kind x (Ld σ b) (nsd σ b) t 0 (nad σ t) (nI m)) ++ [0] = effM σ b kind x (Ld σ b) (nsd σ b) t 0 (nad σ t) (nI 0) :: ((List.range (Ld σ b + agd σ t)).map (fun m => effM σ b kind x (Ld σ b) (nsd σ b) t 0 (nad σ t) (nI (m + 1))) ++ [0]) := by
        rw [List.range_succ_eq_map]
        simp [List.map_map, Function.comp_def]
      have hc : cgM σ b kind x t = 0 :: effM σ b kind x (Ld σ b) (nsd σ b) t 0 (nad σ t) (nI 0) :: ((List.range (Ld σ b + agd σ t)).map (fun m => effM σ b kind x (Ld σ b) (nsd σ b) t 0 (nad σ t) (nI (m + 1))) ++ [0]) := by rw [cgM, hne]
      rw [hc] at hrow q
      have h := wear_2 (M := M) (σ := σ) (w := w) (hv := hv) hb hlo (by simp; omega) hrow q
      simp only [List.length_append, List.length_map, List.length_range, List.length_cons, List.length_nil] at h
      rw [show m + 1 + 1 = 2 + (Ld σ b + agd σ t + (0 + 1)) by omega]
      exact h
    · rw [if_neg (nI_nlt (by omega) (by omega))]
      refine rm_gA ?_
      refine rm_gI ?_
      refine rm_ro (ro_vc (effectAt_r (ns := nsd σ b) (n := nad σ t) hb (show (stW σ (nI (m + 1)) w hv g).a 1 b = nI (Ld σ b) from hB.2.1) hB.2.2.1 hB.2.2.2.2 (show (stW σ (nI (m + 1)) w hv g).a 2 b = nI (nsd σ b) from hB.2.2.2.1) hx hx5 hT.1 hT.2.2.1 (show (stW σ (nI (m + 1)) w hv g).a 13 t = nI (nad σ t) from hT.2.1))) ?_
      rw [effM_c b kind x _ _ t 0 _ (nI m) E]
      refine rm_stL (m + 1) rfl (by show _ < 210; omega) ?_
      rw [stW_l]
      refine rm_gI ?_
      refine rm_pI ?_
      rw [stW_38, show (stW σ (nI (m + 1)) w hv fun y => if y = m + 1 then effM σ b kind x (Ld σ b) (nsd σ b) t 0 (nad σ t) (nI m) else g y).i 38 = nI (m + 1) from rfl, nI_1, nI_1]
      refine wear_1 hB hT hx hx5 hS hlo q fu (m + 1) _ (by omega) (by omega) ⟨?_, fun j hj => ?_⟩
      · simp only
        rw [if_neg (by omega)]
        exact h3.1
      · by_cases ej : j = m
        · subst ej
          simp
        · simp only
          rw [if_neg (by omega)]
          exact h3.2 j (by omega)
theorem stW_self (σ : MS) : σ = stW σ (σ.i 38) (σ.i 39) (σ.i 40) (σ.l 37) := by
  refine Prod.ext (funext fun k => ?_) (Prod.ext rfl (funext fun k => funext fun j => ?_))
  · simp only [stW, MS.i]
    by_cases h : k = 38
    · simp [h]
    · by_cases h2 : k = 39
      · simp [h2]
      · by_cases h3 : k = 40 <;> simp [h, h2, h3]
  · simp only [stW, MS.l]
    by_cases h : k = 37 <;> simp [h]
theorem wearOf_m {M : Nat} {σ : MS} {b x t : Nat} {kind : Int32} {Q : Int64 → MS → Prop} (hB : WB σ b) (hT : WT σ t) (hx : x ≤ 60) (hx5 : kind = 0 → x < 5) (hS : Ld σ b + agd σ t ≤ 200) (hlo : ¬ σ.l 9 b = 0)
    (q : ∀ (N : Int32) (g : Nat → Int64), Q (weM (σ.l 9 b) (cgM σ b kind x t)) (stW σ N (wrM (σ.l 9 b) (cgM σ b kind x t)).2.2 (nI (wrM (σ.l 9 b) (cgM σ b kind x t)).1.length - 1) g)) : RM M (pX11_wearOf M (nI b) kind (nI x) (nI t)) σ Q := by
  rw [stW_self σ]
  unfold pX11_wearOf
  refine rm_pI ?_
  rw [stW_38]
  refine rm_gA ?_
  refine rm_stL 0 rfl (by show _ < 210; omega) ?_
  rw [stW_l]
  exact wear_1 hB hT hx hx5 hS hlo q FU 0 _ (by omega) (by unfold FU; omega) ⟨by simp, fun j hj => by omega⟩
