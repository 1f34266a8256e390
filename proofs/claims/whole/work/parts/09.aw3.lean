/-! Branches; reads and writes of the heap; new cells; returns. -/
theorem cls_in : ∀ (ci : Nat) (r : vw_C), vwCl[ci]? = some r → ∀ w ∈ u_ws r.1 r.2.1 r.2.2, w ∈ TBg
  | 0, r, h => by cases h; decide +kernel
  | 1, r, h => by cases h; decide +kernel
  | 2, r, h => by cases h; decide +kernel
  | 3, r, h => by cases h; decide +kernel
  | 4, r, h => by cases h; decide +kernel
  | 5, r, h => by cases h; decide +kernel
  | 6, r, h => by cases h; decide +kernel
  | 7, r, h => by cases h; decide +kernel
  | 8, r, h => by cases h; decide +kernel
  | 9, r, h => by cases h; decide +kernel
  | 10, r, h => by cases h; decide +kernel
  | 11, r, h => by cases h; decide +kernel
  | k + 12, r, h => by simp [vwCl] at h
theorem cls_ty : ∀ (ci : Nat) (r : vw_C), vwCl[ci]? = some r → ∃ ty : Nat → FieldType, (∀ k, k < r.2.2 → parseFieldDescriptor (r.2.1 k).2.2.1 = some (ty k)) ∧ (∀ a, a < r.2.2 → ∀ b, b < r.2.2 → a ≠ b → (r.2.1 a).2.1 ≠ (r.2.1 b).2.1)
  | 0, r, h => by cases h; exact ⟨_, tyX0_ok, nmX0⟩
  | 1, r, h => by cases h; exact ⟨_, tyX1_ok, nmX1⟩
  | 2, r, h => by cases h; exact ⟨_, tyX2_ok, nmX2⟩
  | 3, r, h => by cases h; exact ⟨_, tyX3_ok, nmX3⟩
  | 4, r, h => by cases h; exact ⟨_, tyX4_ok, nmX4⟩
  | 5, r, h => by cases h; exact ⟨_, tyX5_ok, nmX5⟩
  | 6, r, h => by cases h; exact ⟨_, tyX6_ok, nmX6⟩
  | 7, r, h => by cases h; exact ⟨_, tyX7_ok, nmX7⟩
  | 8, r, h => by cases h; exact ⟨_, tyX8_ok, nmX8⟩
  | 9, r, h => by cases h; exact ⟨_, tyX9_ok, nmX9⟩
  | 10, r, h => by cases h; exact ⟨_, tyX10_ok, nmX10⟩
  | 11, r, h => by cases h; exact ⟨_, tyX11_ok, nmX11⟩
  | k + 12, r, h => by simp [vwCl] at h
theorem cls_new : ∀ (ci : Nat) (r : vw_C), vwCl[ci]? = some r → Cond.instantiable r.1 r.2.2 ∈ TBg ∧ Cond.initialized r.1 ∈ TBg
  | 0, r, h => by cases h; exact ⟨by decide +kernel, by decide +kernel⟩
  | 1, r, h => by cases h; exact ⟨by decide +kernel, by decide +kernel⟩
  | 2, r, h => by cases h; exact ⟨by decide +kernel, by decide +kernel⟩
  | 3, r, h => by cases h; exact ⟨by decide +kernel, by decide +kernel⟩
  | 4, r, h => by cases h; exact ⟨by decide +kernel, by decide +kernel⟩
  | 5, r, h => by cases h; exact ⟨by decide +kernel, by decide +kernel⟩
  | 6, r, h => by cases h; exact ⟨by decide +kernel, by decide +kernel⟩
  | 7, r, h => by cases h; exact ⟨by decide +kernel, by decide +kernel⟩
  | 8, r, h => by cases h; exact ⟨by decide +kernel, by decide +kernel⟩
  | 9, r, h => by cases h; exact ⟨by decide +kernel, by decide +kernel⟩
  | 10, r, h => by cases h; exact ⟨by decide +kernel, by decide +kernel⟩
  | 11, r, h => by cases h; exact ⟨by decide +kernel, by decide +kernel⟩
  | k + 12, r, h => by simp [vwCl] at h
/-- own's link idx is field k of class ci -/
def FL (own : String) (idx : Nat) (c n d : String) : Prop := Cond.fieldLink own idx c n d ∈ TBg ∨ ∃ host, Cond.fieldLinkNest own idx c n d host ∈ TBn
def FLk (own : String) (idx ci k : Nat) : Prop := ∃ r : vw_C, vwCl[ci]? = some r ∧ k < r.2.2 ∧ (r.2.1 k).1 = r.1 ∧ FL own idx r.1 (r.2.1 k).2.1 (r.2.1 k).2.2.1
def PLk (own : String) (idx ci k : Nat) (ty : FieldType) (ini : Bool) : Prop := ∃ r : vw_C, vwCl[ci]? = some r ∧ k < r.2.2 ∧ (r.2.1 k).1 = r.1 ∧ parseFieldDescriptor (r.2.1 k).2.2.1 = some ty ∧
  (((r.2.1 k).2.2.2 = false ∧ FL own idx r.1 (r.2.1 k).2.1 (r.2.1 k).2.2.1) ∨ ((r.2.1 k).2.2.2 = true ∧ ini = true ∧ r.1 = own ∧ Cond.fieldLink own idx r.1 (r.2.1 k).2.1 (r.2.1 k).2.2.1 ∈ TBg))
theorem Gd.mono {C : Cx} {cc : ByteArray} {mt : Mt} {h1 h2 : Hp} (G : Gd C cc mt h2) (hm : Mn h1 h2) : Gd C cc mt h1 := by
  obtain ⟨a1, a2, a3, a4, a5, a6, a7, a8, a9, a10, a11, a12, a13, a14⟩ := G
  exact ⟨a1, a2, a3, a4, a5, a6, a7, a8, a9, a10, a11, a12, by have := hm.1; omega, by have := hm.2; omega⟩
section AWb
variable {C : Cx} {cc : ByteArray} {mt : Mt} {R : Type} {q : R → Option Value} {res : R × Hp} {pc pc' tgt : Nat} {ls ls' st st' : List TV} {P P1 P2 : Mo R}
theorem aw_br {c : Prop} [Decidable c] (hW : ∀ (H : Heap) (locs : List Loc) (cells slots : Nat) (Q : State → Prop) (la : Array Slot), Gd C cc mt res.2 → LV la mt.2.1 ls → (c → WC C H locs cells slots Q (F0 C.m tgt la (st'.map toV))) → (¬ c → WC C H locs cells slots Q (F0 C.m pc' la (st'.map toV))) → WC C H locs cells slots Q (F0 C.m pc la (st.map toV)))
    (kt : AW C cc mt q res tgt ls st' P1) (kf : AW C cc mt q res pc' ls st' P2) : AW C cc mt q res pc ls st (if c then P1 else P2) := by
  intro h hP
  by_cases hc : c
  · rw [if_pos hc] at hP
    obtain ⟨k1, k2⟩ := kt h hP
    exact ⟨k1, fun H locs la G hR hu hS hl => hW H locs _ _ _ la G hl (fun _ => k2 H locs la G hR hu hS hl) (fun hn => absurd hc hn)⟩
  · rw [if_neg hc] at hP
    obtain ⟨k1, k2⟩ := kf h hP
    exact ⟨k1, fun H locs la G hR hu hS hl => hW H locs _ _ _ la G hl (fun hn => absurd hn hc) (fun _ => k2 H locs la G hR hu hS hl)⟩
theorem aw_if_eq {x : Int32} {off : Int} (tgt : Nat) (hd : decode cc pc = .ok (.ifCond .eq off, 3)) (ht : (pc : Int) + off = (tgt : Int)) (kt : AW C cc mt q res tgt ls st P1) (kf : AW C cc mt q res (pc + 3) ls st P2) : AW C cc mt q res pc ls (vi x :: st) (if x = 0 then P1 else P2) := aw_br (fun _ _ _ _ _ la G hl k1 k2 => lv_if_eq G.1 G.2.1 hd ht k1 k2) kt kf
theorem aw_if_ne {x : Int32} {off : Int} (tgt : Nat) (hd : decode cc pc = .ok (.ifCond .ne off, 3)) (ht : (pc : Int) + off = (tgt : Int)) (kt : AW C cc mt q res tgt ls st P1) (kf : AW C cc mt q res (pc + 3) ls st P2) : AW C cc mt q res pc ls (vi x :: st) (if x = 0 then P2 else P1) := aw_br (fun _ _ _ _ _ la G hl k1 k2 => lv_if_ne G.1 G.2.1 hd ht k2 k1) kf kt
theorem aw_if_lt {x : Int32} {off : Int} (tgt : Nat) (hd : decode cc pc = .ok (.ifCond .lt off, 3)) (ht : (pc : Int) + off = (tgt : Int)) (kt : AW C cc mt q res tgt ls st P1) (kf : AW C cc mt q res (pc + 3) ls st P2) : AW C cc mt q res pc ls (vi x :: st) (if x < 0 then P1 else P2) := aw_br (fun _ _ _ _ _ la G hl k1 k2 => lv_if_lt G.1 G.2.1 hd ht k1 k2) kt kf
theorem aw_if_ge {x : Int32} {off : Int} (tgt : Nat) (hd : decode cc pc = .ok (.ifCond .ge off, 3)) (ht : (pc : Int) + off = (tgt : Int)) (kt : AW C cc mt q res tgt ls st P1) (kf : AW C cc mt q res (pc + 3) ls st P2) : AW C cc mt q res pc ls (vi x :: st) (if 0 ≤ x then P1 else P2) := aw_br (fun _ _ _ _ _ la G hl k1 k2 => lv_if_ge G.1 G.2.1 hd ht k1 k2) kt kf
theorem aw_if_gt {x : Int32} {off : Int} (tgt : Nat) (hd : decode cc pc = .ok (.ifCond .gt off, 3)) (ht : (pc : Int) + off = (tgt : Int)) (kt : AW C cc mt q res tgt ls st P1) (kf : AW C cc mt q res (pc + 3) ls st P2) : AW C cc mt q res pc ls (vi x :: st) (if 0 < x then P1 else P2) := aw_br (fun _ _ _ _ _ la G hl k1 k2 => lv_if_gt G.1 G.2.1 hd ht k1 k2) kt kf
theorem aw_if_le {x : Int32} {off : Int} (tgt : Nat) (hd : decode cc pc = .ok (.ifCond .le off, 3)) (ht : (pc : Int) + off = (tgt : Int)) (kt : AW C cc mt q res tgt ls st P1) (kf : AW C cc mt q res (pc + 3) ls st P2) : AW C cc mt q res pc ls (vi x :: st) (if x ≤ 0 then P1 else P2) := aw_br (fun _ _ _ _ _ la G hl k1 k2 => lv_if_le G.1 G.2.1 hd ht k1 k2) kt kf
theorem aw_icmp_eq {x y : Int32} {off : Int} (tgt : Nat) (hd : decode cc pc = .ok (.if_icmp .eq off, 3)) (ht : (pc : Int) + off = (tgt : Int)) (kt : AW C cc mt q res tgt ls st P1) (kf : AW C cc mt q res (pc + 3) ls st P2) : AW C cc mt q res pc ls (vi y :: vi x :: st) (if x = y then P1 else P2) := aw_br (fun _ _ _ _ _ la G hl k1 k2 => lv_icmp_eq G.1 G.2.1 hd ht k1 k2) kt kf
theorem aw_icmp_ne {x y : Int32} {off : Int} (tgt : Nat) (hd : decode cc pc = .ok (.if_icmp .ne off, 3)) (ht : (pc : Int) + off = (tgt : Int)) (kt : AW C cc mt q res tgt ls st P1) (kf : AW C cc mt q res (pc + 3) ls st P2) : AW C cc mt q res pc ls (vi y :: vi x :: st) (if x = y then P2 else P1) := aw_br (fun _ _ _ _ _ la G hl k1 k2 => lv_icmp_ne G.1 G.2.1 hd ht k2 k1) kf kt
theorem aw_icmp_lt {x y : Int32} {off : Int} (tgt : Nat) (hd : decode cc pc = .ok (.if_icmp .lt off, 3)) (ht : (pc : Int) + off = (tgt : Int)) (kt : AW C cc mt q res tgt ls st P1) (kf : AW C cc mt q res (pc + 3) ls st P2) : AW C cc mt q res pc ls (vi y :: vi x :: st) (if x < y then P1 else P2) := aw_br (fun _ _ _ _ _ la G hl k1 k2 => lv_icmp_lt G.1 G.2.1 hd ht k1 k2) kt kf
theorem aw_icmp_ge {x y : Int32} {off : Int} (tgt : Nat) (hd : decode cc pc = .ok (.if_icmp .ge off, 3)) (ht : (pc : Int) + off = (tgt : Int)) (kt : AW C cc mt q res tgt ls st P1) (kf : AW C cc mt q res (pc + 3) ls st P2) : AW C cc mt q res pc ls (vi y :: vi x :: st) (if y ≤ x then P1 else P2) := aw_br (fun _ _ _ _ _ la G hl k1 k2 => lv_icmp_ge G.1 G.2.1 hd ht k1 k2) kt kf
theorem aw_icmp_gt {x y : Int32} {off : Int} (tgt : Nat) (hd : decode cc pc = .ok (.if_icmp .gt off, 3)) (ht : (pc : Int) + off = (tgt : Int)) (kt : AW C cc mt q res tgt ls st P1) (kf : AW C cc mt q res (pc + 3) ls st P2) : AW C cc mt q res pc ls (vi y :: vi x :: st) (if y < x then P1 else P2) := aw_br (fun _ _ _ _ _ la G hl k1 k2 => lv_icmp_gt G.1 G.2.1 hd ht k1 k2) kt kf
theorem aw_icmp_le {x y : Int32} {off : Int} (tgt : Nat) (hd : decode cc pc = .ok (.if_icmp .le off, 3)) (ht : (pc : Int) + off = (tgt : Int)) (kt : AW C cc mt q res tgt ls st P1) (kf : AW C cc mt q res (pc + 3) ls st P2) : AW C cc mt q res pc ls (vi y :: vi x :: st) (if x ≤ y then P1 else P2) := aw_br (fun _ _ _ _ _ la G hl k1 k2 => lv_icmp_le G.1 G.2.1 hd ht k1 k2) kt kf
theorem aw_lge {x y : Int64} {off : Int} (tgt : Nat) (h0 : decode cc pc = .ok (.lcmp, 1)) (hd : decode cc (pc + 1) = .ok (.ifCond .ge off, 3)) (ht : ((pc + 1 : Nat) : Int) + off = (tgt : Int)) (kt : AW C cc mt q res tgt ls st P1) (kf : AW C cc mt q res (pc + 4) ls st P2) : AW C cc mt q res pc ls (vl y :: vl x :: st) (if y ≤ x then P1 else P2) :=
  aw_br (fun _ _ _ _ _ la G hl k1 k2 => W.lcmp G.1 G.2.1 h0 (lv_if_ge G.1 G.2.1 hd ht (fun h => k1 ((lg_cmp_ge x y).mp h)) (fun h => k2 (fun h9 => h ((lg_cmp_ge x y).mpr h9))))) kt kf
theorem aw_llt {x y : Int64} {off : Int} (tgt : Nat) (h0 : decode cc pc = .ok (.lcmp, 1)) (hd : decode cc (pc + 1) = .ok (.ifCond .lt off, 3)) (ht : ((pc + 1 : Nat) : Int) + off = (tgt : Int)) (kt : AW C cc mt q res tgt ls st P1) (kf : AW C cc mt q res (pc + 4) ls st P2) : AW C cc mt q res pc ls (vl y :: vl x :: st) (if x < y then P1 else P2) :=
  aw_br (fun _ _ _ _ _ la G hl k1 k2 => W.lcmp G.1 G.2.1 h0 (lv_if_lt G.1 G.2.1 hd ht (fun h => k1 ((lg_cmp_lt x y).mp h)) (fun h => k2 (fun h9 => h ((lg_cmp_lt x y).mpr h9))))) kt kf
theorem aw_lgt {x y : Int64} {off : Int} (tgt : Nat) (h0 : decode cc pc = .ok (.lcmp, 1)) (hd : decode cc (pc + 1) = .ok (.ifCond .gt off, 3)) (ht : ((pc + 1 : Nat) : Int) + off = (tgt : Int)) (kt : AW C cc mt q res tgt ls st P1) (kf : AW C cc mt q res (pc + 4) ls st P2) : AW C cc mt q res pc ls (vl y :: vl x :: st) (if y < x then P1 else P2) :=
  aw_br (fun _ _ _ _ _ la G hl k1 k2 => W.lcmp G.1 G.2.1 h0 (lv_if_gt G.1 G.2.1 hd ht (fun h => k1 ((lg_cmp_gt x y).mp h)) (fun h => k2 (fun h9 => h ((lg_cmp_gt x y).mpr h9))))) kt kf
theorem aw_lle {x y : Int64} {off : Int} (tgt : Nat) (h0 : decode cc pc = .ok (.lcmp, 1)) (hd : decode cc (pc + 1) = .ok (.ifCond .le off, 3)) (ht : ((pc + 1 : Nat) : Int) + off = (tgt : Int)) (kt : AW C cc mt q res tgt ls st P1) (kf : AW C cc mt q res (pc + 4) ls st P2) : AW C cc mt q res pc ls (vl y :: vl x :: st) (if x ≤ y then P1 else P2) :=
  aw_br (fun _ _ _ _ _ la G hl k1 k2 => W.lcmp G.1 G.2.1 h0 (lv_if_le G.1 G.2.1 hd ht (fun h => k1 ((lg_cmp_le x y).mp h)) (fun h => k2 (fun h9 => h ((lg_cmp_le x y).mpr h9))))) kt kf
theorem aw_leq {x y : Int64} {off : Int} (tgt : Nat) (h0 : decode cc pc = .ok (.lcmp, 1)) (hd : decode cc (pc + 1) = .ok (.ifCond .eq off, 3)) (ht : ((pc + 1 : Nat) : Int) + off = (tgt : Int)) (kt : AW C cc mt q res tgt ls st P1) (kf : AW C cc mt q res (pc + 4) ls st P2) : AW C cc mt q res pc ls (vl y :: vl x :: st) (if x = y then P1 else P2) :=
  aw_br (fun _ _ _ _ _ la G hl k1 k2 => W.lcmp G.1 G.2.1 h0 (lv_if_eq G.1 G.2.1 hd ht (fun h => k1 ((lg_cmp_eq x y).mp h)) (fun h => k2 (fun h9 => h ((lg_cmp_eq x y).mpr h9))))) kt kf
theorem aw_lne {x y : Int64} {off : Int} (tgt : Nat) (h0 : decode cc pc = .ok (.lcmp, 1)) (hd : decode cc (pc + 1) = .ok (.ifCond .ne off, 3)) (ht : ((pc + 1 : Nat) : Int) + off = (tgt : Int)) (kt : AW C cc mt q res tgt ls st P1) (kf : AW C cc mt q res (pc + 4) ls st P2) : AW C cc mt q res pc ls (vl y :: vl x :: st) (if x = y then P2 else P1) :=
  aw_br (fun _ _ _ _ _ la G hl k1 k2 => W.lcmp G.1 G.2.1 h0 (lv_if_ne G.1 G.2.1 hd ht (fun h => k2 (fun h9 => h ((lg_cmp_eq x y).mpr h9))) (fun h => k1 ((lg_cmp_eq x y).mp h)))) kf kt
theorem aw_ifnull {r : Option Nat} {off : Int} (tgt : Nat) (hd : decode cc pc = .ok (.ifnull off, 3)) (ht : (pc : Int) + off = (tgt : Int)) (kt : AW C cc mt q res tgt ls st P1) (kf : AW C cc mt q res (pc + 3) ls st P2) : AW C cc mt q res pc ls (vr r :: st) (if r = none then P1 else P2) := by
  cases r with
  | none => exact aw_br (fun _ _ _ _ _ la G hl k1 k2 => lv_ifnullN G.1 G.2.1 hd ht (k1 rfl)) kt kf
  | some a => exact aw_br (fun _ _ _ _ _ la G hl k1 k2 => lv_ifnull G.1 G.2.1 hd (k2 (fun h => by cases h))) kt kf
theorem aw_ifnonnull {r : Option Nat} {off : Int} (tgt : Nat) (hd : decode cc pc = .ok (.ifnonnull off, 3)) (ht : (pc : Int) + off = (tgt : Int)) (kt : AW C cc mt q res tgt ls st P1) (kf : AW C cc mt q res (pc + 3) ls st P2) : AW C cc mt q res pc ls (vr r :: st) (if r = none then P2 else P1) := by
  cases r with
  | none => exact aw_br (fun _ _ _ _ _ la G hl k1 k2 => lv_ifnonnullN G.1 G.2.1 hd (k1 rfl)) kf kt
  | some a => exact aw_br (fun _ _ _ _ _ la G hl k1 k2 => lv_ifnonnull G.1 G.2.1 hd ht (k2 (fun h => by cases h))) kf kt
/-- switch x: the programs of the cases 0 .., and what else -/
def swt {R : Type} (x : Int32) (ps : List (Mo R)) (d : Mo R) : Mo R := if x < 0 ∨ ps.length ≤ x.toNatClampNeg then d else ps.getD x.toNatClampNeg d
theorem aw_swt {x : Int32} {dflt hi : Int} {offs : Array Int} {len : Nat} {ps : List (Mo R)} {d : Mo R} (td : Nat) (ts : List Nat) (hd : decode cc pc = .ok (.tableswitch dflt 0 hi offs, len)) (hhi : hi = (ps.length : Int) - 1) (hl : ps.length < 2 ^ 31) (htd : (pc : Int) + dflt = (td : Int)) (hts : offs.toList.map (fun o => (pc : Int) + o) = ts.map (fun (t : Nat) => (t : Int))) (hlen : ts.length = ps.length)
    (kd : AW C cc mt q res td ls st d) (kt : ∀ (i : Nat) (t : Nat) (p : Mo R), ts[i]? = some t → ps[i]? = some p → AW C cc mt q res t ls st p) : AW C cc mt q res pc ls (vi x :: st) (swt x ps d) := by
  intro h hP
  by_cases hc : x < 0 ∨ ps.length ≤ x.toNatClampNeg
  · rw [swt, if_pos hc] at hP
    obtain ⟨k1, k2⟩ := kd h hP
    refine ⟨k1, fun H locs la G hR hu hS hl2 => lv_tableOut G.1 G.2.1 hd ?_ htd (k2 H locs la G hR hu hS hl2)⟩
    rcases hc with hc | hc
    · exact Or.inl (by simpa using Int32.lt_iff_toInt_lt.mp hc)
    · rw [hhi]
      have : x.toNatClampNeg = x.toInt.toNat := rfl
      omega
  · rw [swt, if_neg hc] at hP
    have h0 : ¬ x < 0 := fun h => hc (Or.inl h)
    have h1 : x.toNatClampNeg < ps.length := by omega
    have e0 : ¬ x.toInt < 0 := fun h => h0 (Int32.lt_iff_toInt_lt.mpr (by simpa using h))
    have e1 : x.toNatClampNeg = x.toInt.toNat := rfl
    obtain ⟨p, hp⟩ : ∃ p, ps[x.toNatClampNeg]? = some p := ⟨_, List.getElem?_eq_getElem h1⟩
    obtain ⟨t, ht⟩ : ∃ t, ts[x.toNatClampNeg]? = some t := ⟨_, List.getElem?_eq_getElem (by omega)⟩
    have hoff : ∃ o, offs[x.toNatClampNeg]? = some o ∧ (pc : Int) + o = (t : Int) := by
      have h9 := congrArg (fun l => l[x.toNatClampNeg]?) hts
      simp only [List.getElem?_map, ht, Option.map_some, Array.getElem?_toList] at h9
      cases ho : offs[x.toNatClampNeg]? with
      | none => rw [ho] at h9; cases h9
      | some o => rw [ho] at h9; exact ⟨o, rfl, by simpa using h9⟩
    obtain ⟨o, ho, ho2⟩ := hoff
    have hg : ps.getD x.toNatClampNeg d = p := by simp [List.getD, hp]
    rw [hg] at hP
    obtain ⟨k1, k2⟩ := kt _ t p ht hp h hP
    refine ⟨k1, fun H locs la G hR hu hS hl2 => lv_tableIn G.1 G.2.1 hd e0 (by rw [hhi]; omega) (off := o) (tgt := t) ?_ ho2 (k2 H locs la G hR hu hS hl2)⟩
    rw [Int.sub_zero, ← e1]
    exact ho
/-- an operation on the heap, and what comes behind it -/
theorem aw_op {B : Type} {op : Mo B} {k : B → Mo R} {st' : B → List TV}
    (hop : ∀ (h : Hp) (b : B) (h' : Hp), op h = some (b, h') → Mn h h' ∧ ∀ (H : Heap) (locs : List Loc) (la : Array Slot) (Q : State → Prop), Gd C cc mt h' → Rep C.D C.K C.A h H → C.u ≤ h.2.2 → va_S C.A C.s.heap H locs → LV la mt.2.1 ls →
      (∀ (H' : Heap) (locs' : List Loc), Rep C.D C.K C.A h' H' → va_S C.A C.s.heap H' locs' → WC C H' locs' (h'.2.1 - C.s.heap.size) (h'.2.2 - C.u) Q (F0 C.m pc' la ((st' b).map toV))) → WC C H locs (h.2.1 - C.s.heap.size) (h.2.2 - C.u) Q (F0 C.m pc la (st.map toV)))
    (kk : ∀ b, AW C cc mt q res pc' ls (st' b) (k b)) : AW C cc mt q res pc ls st (bd op k) := by
  intro h hP
  unfold bd at hP
  cases ho : op h with
  | none => rw [ho] at hP; cases hP
  | some w =>
    obtain ⟨b, h'⟩ := w
    rw [ho] at hP
    obtain ⟨m1, m2⟩ := hop h b h' ho
    obtain ⟨k1, k2⟩ := kk b h' hP
    exact ⟨m1.tr k1, fun H locs la G hR hu hS hl => m2 H locs la _ (G.mono k1) hR hu hS hl (fun H' locs' hR' hS' => k2 H' locs' la G hR' (Nat.le_trans hu m1.2) hS' hl)⟩
/-- an operation that only reads -/
theorem aw_rd {B : Type} {op : Mo B} {k : B → Mo R} {st' : B → List TV}
    (hop : ∀ (h : Hp) (b : B) (h' : Hp), op h = some (b, h') → h' = h ∧ ∀ (H : Heap) (locs : List Loc) (cells slots : Nat) (la : Array Slot) (Q : State → Prop), Gd C cc mt h → Rep C.D C.K C.A h H → va_S C.A C.s.heap H locs → LV la mt.2.1 ls →
      WC C H locs cells slots Q (F0 C.m pc' la ((st' b).map toV)) → WC C H locs cells slots Q (F0 C.m pc la (st.map toV)))
    (kk : ∀ b, AW C cc mt q res pc' ls (st' b) (k b)) : AW C cc mt q res pc ls st (bd op k) :=
  aw_op (fun h b h' ho => by
    obtain ⟨rfl, h2⟩ := hop h b h' ho
    exact ⟨Mn.rf _, fun H locs la Q G hR hu hS hl kk2 => h2 H locs _ _ la Q G hR hS hl (kk2 H locs hR hS)⟩) kk
theorem obOf_some {h : Hp} {r : Option Nat} {ci a : Nat} {fs : List TV} (e : obOf h r ci = some (a, fs)) : r = some a ∧ h.1 a = some (ob ci fs) := by
  unfold obOf at e
  split at e
  · cases e
  · split at e
    · rename_i h2
      split at e
      · rename_i h3
        subst h3
        cases e
        exact ⟨rfl, h2⟩
      · cases e
    · cases e
theorem iaOf_some {h : Hp} {r : Option Nat} {t a : Nat} {xs : List Int32} (e : iaOf h r t = some (a, xs)) : r = some a ∧ h.1 a = some (ai t xs) := by
  unfold iaOf at e
  split at e
  · cases e
  · split at e
    · rename_i h2
      split at e
      · rename_i h3
        subst h3
        cases e
        exact ⟨rfl, h2⟩
      · cases e
    · cases e
theorem laOf_some {h : Hp} {r : Option Nat} {a : Nat} {xs : List Int64} (e : laOf h r = some (a, xs)) : r = some a ∧ h.1 a = some (al xs) := by
  unfold laOf at e
  split at e
  · cases e
  · split at e
    · rename_i h2
      cases e
      exact ⟨rfl, h2⟩
    · cases e
theorem qaOf_some {h : Hp} {r : Option Nat} {t a : Nat} {xs : List (Option Nat)} (e : qaOf h r t = some (a, xs)) : r = some a ∧ h.1 a = some (aq t xs) := by
  unfold qaOf at e
  split at e
  · cases e
  · split at e
    · rename_i h2
      split at e
      · rename_i h3
        subst h3
        cases e
        exact ⟨rfl, h2⟩
      · cases e
    · cases e
theorem w_get {h : Hp} {H : Heap} {locs : List Loc} {cells slots : Nat} {la : Array Slot} {Q : State → Prop} {h' : Hp} (G : Gd C cc mt h') {idx ci k a : Nat} {fs : List TV} {t : TV} {rest : List Value} (hw : FLk mt.1 idx ci k) (hR : Rep C.D C.K C.A h H) (ha : h.1 a = some (ob ci fs)) (hv : fs[k]? = some t) (hd : decode cc pc = .ok (.getfield idx, 3))
    (kk : WC C H locs cells slots Q (F0 C.m (pc + 3) la (toV t :: rest))) : WC C H locs cells slots Q (F0 C.m pc la (.ref a :: rest)) := by
  obtain ⟨r, hr, hk, hsm, hl⟩ := hw
  obtain ⟨⟨r', hr', hlen, cell, q1, q2, q3, q4⟩, -⟩ := hR.2 a _ ha
  cases hr.symm.trans hr'
  obtain ⟨hS, hfc, kC, hkC, hkind⟩ := G.2.2.2.2.2.2.2.2.1.1.1 ci _ hr
  obtain ⟨cf, kf, fi, f, hi, hsl⟩ := hS k hk
  have hslot : cell.slots[f.slot]? = some (toV t) := by
    rw [hsl, q4 k hk]
    simp [List.getD, hv]
  have hst := (u_facts hfc hkC (u_lays G.2.2.2.2.1 (cls_in ci _ hr) hk) hi).1
  rcases hl with hl | ⟨host, hl⟩
  · exact W.getf G.1 G.2.1 G.2.2.2.1 (G.2.2.2.2.1 _ hl) (by rw [← hsm]; exact hi) hst q1 (by rw [q3]; exact fun h => by cases h) hslot rfl rfl hd kk
  · exact va_Wgetf G.1 G.2.1 G.2.2.2.1 (va_Nw.use rfl (G.2.2.2.2.2.2.2.2.1.2.1 _ hl)) (by rw [← hsm]; exact hi) hst q1 (by rw [q3]; exact fun h => by cases h) hslot rfl rfl hd kk
theorem aw_gI {r : Option Nat} {idx ci k : Nat} {kk : Int32 → Mo R} (hd : decode cc pc = .ok (.getfield idx, 3)) (hw : FLk mt.1 idx ci k) (kn : ∀ x, AW C cc mt q res (pc + 3) ls (vi x :: st) (kk x)) : AW C cc mt q res pc ls (vr r :: st) (bd (gI r ci k) kk) :=
  aw_rd (fun h b h' ho => by
    unfold gI at ho
    split at ho
    · rename_i a fs e
      obtain ⟨rfl, h1⟩ := obOf_some e
      split at ho
      · rename_i x hx
        cases ho
        exact ⟨rfl, fun H locs cells slots la Q G hR hS hl k2 => w_get G hw hR h1 hx hd k2⟩
      · cases ho
    · cases ho) kn
theorem aw_gL {r : Option Nat} {idx ci k : Nat} {kk : Int64 → Mo R} (hd : decode cc pc = .ok (.getfield idx, 3)) (hw : FLk mt.1 idx ci k) (kn : ∀ x, AW C cc mt q res (pc + 3) ls (vl x :: st) (kk x)) : AW C cc mt q res pc ls (vr r :: st) (bd (gL r ci k) kk) :=
  aw_rd (fun h b h' ho => by
    unfold gL at ho
    split at ho
    · rename_i a fs e
      obtain ⟨rfl, h1⟩ := obOf_some e
      split at ho
      · rename_i x hx
        cases ho
        exact ⟨rfl, fun H locs cells slots la Q G hR hS hl k2 => w_get G hw hR h1 hx hd k2⟩
      · cases ho
    · cases ho) kn
theorem aw_gA {r : Option Nat} {idx ci k : Nat} {kk : Option Nat → Mo R} (hd : decode cc pc = .ok (.getfield idx, 3)) (hw : FLk mt.1 idx ci k) (kn : ∀ x, AW C cc mt q res (pc + 3) ls (vr x :: st) (kk x)) : AW C cc mt q res pc ls (vr r :: st) (bd (gA r ci k) kk) :=
  aw_rd (fun h b h' ho => by
    unfold gA at ho
    split at ho
    · rename_i a fs e
      obtain ⟨rfl, h1⟩ := obOf_some e
      split at ho
      · rename_i x hx
        cases ho
        exact ⟨rfl, fun H locs cells slots la Q G hR hS hl k2 => w_get G hw hR h1 hx hd k2⟩
      · cases ho
    · cases ho) kn
end AWb
