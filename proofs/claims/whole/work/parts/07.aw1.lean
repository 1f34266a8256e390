/-! The locals: a list of typed values, by their places; what isn't known is vu. -/
def asc : Nat → List TV → List (Nat × Value)
  | _, [] => []
  | i, v :: vs => match isU v with
    | true => asc (i + 1) vs
    | false => (i, toV v) :: asc (i + 1) vs
theorem asc_mem : ∀ (ls : List TV) (k : Nat) (q : Nat × Value), q ∈ asc k ls → ∃ (j : Nat) (t : TV), q.1 = k + j ∧ ls[j]? = some t ∧ isU t = false ∧ q.2 = toV t
  | [], k, q, h => by simp [asc] at h
  | v :: vs, k, q, h => by
    cases hu : isU v with
    | true =>
      simp only [asc, hu] at h
      obtain ⟨j, t, h1, h2, h3, h4⟩ := asc_mem vs (k + 1) q h
      exact ⟨j + 1, t, by omega, by simpa using h2, h3, h4⟩
    | false =>
      simp only [asc, hu, List.mem_cons] at h
      rcases h with rfl | h
      · exact ⟨0, v, rfl, rfl, hu, rfl⟩
      · obtain ⟨j, t, h1, h2, h3, h4⟩ := asc_mem vs (k + 1) q h
        exact ⟨j + 1, t, by omega, by simpa using h2, h3, h4⟩
theorem asc_in : ∀ (ls : List TV) (k j : Nat) (t : TV), ls[j]? = some t → isU t = false → (k + j, toV t) ∈ asc k ls
  | [], k, j, t, h, _ => by simp at h
  | v :: vs, k, 0, t, h, hu => by
    simp at h
    subst h
    simp [asc, hu]
  | v :: vs, k, j + 1, t, h, hu => by
    have h1 := asc_in vs (k + 1) j t (by simpa using h) hu
    have e : k + (j + 1) = k + 1 + j := by omega
    rw [e]
    cases hv : isU v with
    | true => simpa [asc, hv] using h1
    | false => simp only [asc, hv]; exact List.mem_cons_of_mem _ h1
def LV (la : Array Slot) (nL : Nat) (ls : List TV) : Prop := lv_has la nL (asc 0 ls)
theorem LV.at {la : Array Slot} {nL : Nat} {ls : List TV} (h : LV la nL ls) {i : Nat} {t : TV} (hi : ls[i]? = some t) (hu : isU t = false) : la[i]? = some (.val (toV t)) := by
  have h1 := h.2.2 _ (asc_in ls 0 i t hi hu)
  simpa using h1
def kl : TV → TV
  | .inr (.inl _) => vu
  | v => v
def set1 : List TV → Nat → TV → List TV
  | [], _, _ => []
  | _ :: r, 0, v => v :: r
  | a :: r, 1, v => kl a :: set1 r 0 v
  | a :: r, n + 2, v => a :: set1 r (n + 1) v
def set2 : List TV → Nat → TV → List TV
  | [], _, _ => []
  | [_], 0, _ => [vu]
  | _ :: _ :: r, 0, v => v :: vu :: r
  | a :: r, 1, v => kl a :: set2 r 0 v
  | a :: r, n + 2, v => a :: set2 r (n + 1) v
theorem set1_at : ∀ (ls : List TV) (i : Nat) (v : TV) (j : Nat) (t : TV), (set1 ls i v)[j]? = some t → isU t = false → (j = i ∧ t = v) ∨ (j ≠ i ∧ ls[j]? = some t ∧ ¬ (j + 1 = i ∧ catT t = 2))
  | [], i, v, j, t, h, _ => by simp [set1] at h
  | a :: r, 0, v, 0, t, h, _ => by simp [set1] at h; exact Or.inl ⟨rfl, h.symm⟩
  | a :: r, 0, v, j + 1, t, h, _ => by
    simp [set1] at h
    exact Or.inr ⟨by omega, by simpa using h, by omega⟩
  | a :: r, 1, v, 0, t, h, hu => by
    simp [set1] at h
    refine Or.inr ⟨by omega, ?_, ?_⟩
    · rcases a with x | x | x | x
      · simpa [kl] using h
      · simp [kl] at h; subst h; simp [isU] at hu
      · simpa [kl] using h
      · simp [kl] at h; subst h; simp [isU] at hu
    · rcases a with x | x | x | x
      · simp [kl] at h; subst h; simp [catT]
      · simp [kl] at h; subst h; simp [isU] at hu
      · simp [kl] at h; subst h; simp [catT]
      · simp [kl] at h; subst h; simp [isU] at hu
  | a :: r, 1, v, j + 1, t, h, hu => by
    simp [set1] at h
    rcases set1_at r 0 v j t h hu with ⟨h1, h2⟩ | ⟨h1, h2, h3⟩
    · exact Or.inl ⟨by omega, h2⟩
    · exact Or.inr ⟨by omega, by simpa using h2, by omega⟩
  | a :: r, n + 2, v, 0, t, h, hu => by
    simp [set1] at h
    exact Or.inr ⟨by omega, by simpa using h, by omega⟩
  | a :: r, n + 2, v, j + 1, t, h, hu => by
    simp [set1] at h
    rcases set1_at r (n + 1) v j t h hu with ⟨h1, h2⟩ | ⟨h1, h2, h3⟩
    · exact Or.inl ⟨by omega, h2⟩
    · exact Or.inr ⟨by omega, by simpa using h2, fun q => h3 ⟨by omega, q.2⟩⟩
theorem set2_at : ∀ (ls : List TV) (i : Nat) (v : TV) (j : Nat) (t : TV), (set2 ls i v)[j]? = some t → isU t = false → (j = i ∧ t = v) ∨ (j ≠ i ∧ j ≠ i + 1 ∧ ls[j]? = some t ∧ ¬ (j + 1 = i ∧ catT t = 2))
  | [], i, v, j, t, h, _ => by simp [set2] at h
  | [a], 0, v, j, t, h, hu => by
    rcases j with _ | j
    · simp [set2] at h; subst h; simp [isU] at hu
    · simp [set2] at h
  | a :: b :: r, 0, v, 0, t, h, _ => by simp [set2] at h; exact Or.inl ⟨rfl, h.symm⟩
  | a :: b :: r, 0, v, 1, t, h, hu => by simp [set2] at h; subst h; simp [isU] at hu
  | a :: b :: r, 0, v, j + 2, t, h, _ => by
    simp [set2] at h
    exact Or.inr ⟨by omega, by omega, by simpa using h, by omega⟩
  | a :: r, 1, v, 0, t, h, hu => by
    simp [set2] at h
    refine Or.inr ⟨by omega, by omega, ?_, ?_⟩
    · rcases a with x | x | x | x
      · simpa [kl] using h
      · simp [kl] at h; subst h; simp [isU] at hu
      · simpa [kl] using h
      · simp [kl] at h; subst h; simp [isU] at hu
    · rcases a with x | x | x | x
      · simp [kl] at h; subst h; simp [catT]
      · simp [kl] at h; subst h; simp [isU] at hu
      · simp [kl] at h; subst h; simp [catT]
      · simp [kl] at h; subst h; simp [isU] at hu
  | a :: r, 1, v, j + 1, t, h, hu => by
    simp [set2] at h
    rcases set2_at r 0 v j t h hu with ⟨h1, h2⟩ | ⟨h1, h2, h3, h4⟩
    · exact Or.inl ⟨by omega, h2⟩
    · exact Or.inr ⟨by omega, by omega, by simpa using h3, by omega⟩
  | a :: r, n + 2, v, 0, t, h, hu => by
    simp [set2] at h
    exact Or.inr ⟨by omega, by omega, by simpa using h, by omega⟩
  | a :: r, n + 2, v, j + 1, t, h, hu => by
    simp [set2] at h
    rcases set2_at r (n + 1) v j t h hu with ⟨h1, h2⟩ | ⟨h1, h2, h3, h4⟩
    · exact Or.inl ⟨by omega, h2⟩
    · exact Or.inr ⟨by omega, by omega, by simpa using h3, fun q => h4 ⟨by omega, q.2⟩⟩
theorem LV.of1 {la : Array Slot} {nL i : Nat} {ls : List TV} {v : TV} (h : lv_has la nL ((i, toV v) :: (asc 0 ls).filter (fun q => !(q.1 == i) && !(q.1 + 1 == i && q.2.category == 2)))) : LV la nL (set1 ls i v) := by
  refine ⟨h.1, h.2.1, fun q hq => ?_⟩
  obtain ⟨j, t, h1, h2, h3, h4⟩ := asc_mem _ _ _ hq
  obtain ⟨q1, q2⟩ := q
  simp only [Nat.zero_add] at h1
  simp only at h4
  subst h1 h4
  rcases set1_at ls i v q1 t h2 h3 with ⟨e1, e2⟩ | ⟨e1, e2, e3⟩
  · subst e1 e2
    exact h.2.2 _ List.mem_cons_self
  · refine h.2.2 _ (List.mem_cons_of_mem _ (List.mem_filter.mpr ⟨by simpa using asc_in ls 0 q1 t e2 h3, ?_⟩))
    simp only [cat_toV]
    simp [e1]
    omega
theorem LV.of2 {la : Array Slot} {nL i : Nat} {ls : List TV} {v : TV} (h : lv_has la nL ((i, toV v) :: (asc 0 ls).filter (fun q => !(q.1 == i) && (!(q.1 == i + 1) && !(q.1 + 1 == i && q.2.category == 2))))) : LV la nL (set2 ls i v) := by
  refine ⟨h.1, h.2.1, fun q hq => ?_⟩
  obtain ⟨j, t, h1, h2, h3, h4⟩ := asc_mem _ _ _ hq
  obtain ⟨q1, q2⟩ := q
  simp only [Nat.zero_add] at h1
  simp only at h4
  subst h1 h4
  rcases set2_at ls i v q1 t h2 h3 with ⟨e1, e2⟩ | ⟨e1, e2, e3, e4⟩
  · subst e1 e2
    exact h.2.2 _ List.mem_cons_self
  · refine h.2.2 _ (List.mem_cons_of_mem _ (List.mem_filter.mpr ⟨by simpa using asc_in ls 0 q1 t e3 h3, ?_⟩))
    simp only [cat_toV]
    simp [e1, e2]
    omega
/-- fewer known locals -/
def msk : List Bool → List TV → List TV
  | true :: bs, v :: vs => v :: msk bs vs
  | false :: bs, _ :: vs => vu :: msk bs vs
  | _, _ => []
theorem msk_at : ∀ (bs : List Bool) (ls : List TV) (j : Nat) (t : TV), (msk bs ls)[j]? = some t → isU t = false → ls[j]? = some t
  | [], _, j, t, h, _ => by simp [msk] at h
  | true :: bs, [], j, t, h, _ => by simp [msk] at h
  | false :: bs, [], j, t, h, _ => by simp [msk] at h
  | true :: bs, v :: vs, 0, t, h, _ => by simpa [msk] using h
  | false :: bs, v :: vs, 0, t, h, hu => by simp [msk] at h; subst h; simp [isU] at hu
  | true :: bs, v :: vs, j + 1, t, h, hu => by simp [msk] at h; simpa using msk_at bs vs j t h hu
  | false :: bs, v :: vs, j + 1, t, h, hu => by simp [msk] at h; simpa using msk_at bs vs j t h hu
theorem LV.msk {la : Array Slot} {nL : Nat} {ls : List TV} (bs : List Bool) (h : LV la nL ls) : LV la nL (msk bs ls) := by
  refine ⟨h.1, h.2.1, fun q hq => ?_⟩
  obtain ⟨j, t, h1, h2, h3, h4⟩ := asc_mem _ _ _ hq
  refine h.2.2 q ?_
  obtain ⟨q1, q2⟩ := q
  simp only [Nat.zero_add] at h1
  simp only at h4
  subst h1 h4
  simpa using asc_in ls 0 q1 t (msk_at bs ls q1 t h2 h3) h3
