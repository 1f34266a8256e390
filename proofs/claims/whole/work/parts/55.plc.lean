/-! Bits of a long: counts, places, what is well formed. -/
theorem bitCount_e (v : Int64) (h : Hp) : pJ13_bitCount_95d88 v h = some (nI (ctN 64 (nL v)), h) := by
  have hx := nL_lt v
  generalize ea : v - ((usr v (1 : Int32)) &&& (6148914691236517205 : Int64)) = a
  generalize eb : (a &&& (3689348814741910323 : Int64)) + ((usr a (2 : Int32)) &&& (3689348814741910323 : Int64)) = b
  generalize ec : (b + usr b (4 : Int32)) &&& (1085102592571150095 : Int64) = c
  generalize ed : c + usr c (8 : Int32) = d
  generalize ee : d + usr d (16 : Int32) = e
  have e1 : pJ13_bitCount_95d88 v h = some (Int64.toInt32 (e + usr e (32 : Int32)) &&& (127 : Int32), h) := by
    rw [← ee, ← ed, ← ec, ← eb, ← ea]
    rfl
  rw [e1, low7]
  have u : ∀ (x : Int64) (s : Nat), s < 64 → nL (usr x (nI s)) = nL x / 2 ^ s := fun x s hs => nL_usr x hs
  have na : nL a = g1 8 (nL v) := by
    have q : nL ((usr v (1 : Int32)) &&& (6148914691236517205 : Int64)) = (nL v / 2) &&& rp 0x55 8 := by
      rw [nL_and, nL_lit1, show usr v (1 : Int32) = usr v (nI 1) from rfl, u _ _ (by omega)]
    have le : nL ((usr v (1 : Int32)) &&& (6148914691236517205 : Int64)) ≤ nL v := by
      rw [q]
      exact Nat.le_trans Nat.and_le_left (by omega)
    rw [← ea, nL_sub le, q]
    rfl
  have la := nL_lt a
  have nb : nL b = g2 8 (nL v) := by
    have q : nL ((usr a (2 : Int32)) &&& (3689348814741910323 : Int64)) = (nL a / 4) &&& rp 0x33 8 := by
      rw [nL_and, nL_lit2, show usr a (2 : Int32) = usr a (nI 2) from rfl, u _ _ (by omega)]
    have q2 : nL (a &&& (3689348814741910323 : Int64)) = nL a &&& rp 0x33 8 := by rw [nL_and, nL_lit2]
    have r : rp 0x33 8 = 3689348814741910323 := by decide +kernel
    have l1 : nL a &&& rp 0x33 8 ≤ 3689348814741910323 := by rw [← r]; exact Nat.and_le_right
    have l2 : (nL a / 4) &&& rp 0x33 8 ≤ 3689348814741910323 := by rw [← r]; exact Nat.and_le_right
    rw [← eb, nL_add (by rw [q, q2]; omega), q, q2, na]
    rfl
  have lb : nL b ≤ 7378697629483820646 := by
    rw [nb]
    have r : rp 0x33 8 = 3689348814741910323 := by decide +kernel
    have l1 : g1 8 (nL v) &&& rp 0x33 8 ≤ 3689348814741910323 := by rw [← r]; exact Nat.and_le_right
    have l2 : (g1 8 (nL v) / 4) &&& rp 0x33 8 ≤ 3689348814741910323 := by rw [← r]; exact Nat.and_le_right
    unfold g2
    omega
  have nc : nL c = g3 8 (nL v) := by
    have q : nL (usr b (4 : Int32)) = nL b / 16 := by rw [show usr b (4 : Int32) = usr b (nI 4) from rfl, u _ _ (by omega)]
    rw [← ec, nL_and, nL_lit3, nL_add (by rw [q]; omega), q, nb]
    rfl
  have lc : nL c ≤ 1085102592571150095 := by
    rw [nc]
    have r : rp 0x0f 8 = 1085102592571150095 := by decide +kernel
    unfold g3
    rw [← r]
    exact Nat.and_le_right
  have nd : nL d = nL c + nL c / 256 := by
    have q : nL (usr c (8 : Int32)) = nL c / 256 := by rw [show usr c (8 : Int32) = usr c (nI 8) from rfl, u _ _ (by omega)]
    rw [← ed, nL_add (by rw [q]; omega), q]
  have ne : nL e = nL d + nL d / 65536 := by
    have q : nL (usr d (16 : Int32)) = nL d / 65536 := by rw [show usr d (16 : Int32) = usr d (nI 16) from rfl, u _ _ (by omega)]
    rw [← ee, nL_add (by rw [q]; omega), q]
  have q : nL (usr e (32 : Int32)) = nL e / 4294967296 := by rw [show usr e (32 : Int32) = usr e (nI 32) from rfl, u _ _ (by omega)]
  rw [nL_add (by rw [q]; omega), q, ne, nd, nc, ct_end _ hx]
def bt (X p : Nat) : Nat := X / 2 ^ p % 2
/-- the place of the k-th bit that is set, of the first p -/
def pls (X : Nat) : Nat → Nat → Nat
  | 0, _ => 0
  | p + 1, k => if bt X p = 1 ∧ k = ctN p X then p else pls X p k
theorem ctN_b (X p : Nat) : ctN (p + 1) X = ctN p X + bt X p := ctN_s p X
theorem bt_01 (X p : Nat) : bt X p = 0 ∨ bt X p = 1 := by unfold bt; omega
theorem ctN_mono (X : Nat) {a b : Nat} (h : a ≤ b) : ctN a X ≤ ctN b X := by
  induction b with
  | zero => have e : a = 0 := by omega
            subst e; exact Nat.le_refl _
  | succ b ih =>
    by_cases e : a = b + 1
    · subst e; exact Nat.le_refl _
    · have := ih (by omega)
      rw [ctN_b]
      omega
theorem pls_s (X : Nat) : ∀ (p k : Nat), k < ctN p X → pls X p k < p ∧ bt X (pls X p k) = 1 ∧ ctN (pls X p k) X = k
  | 0, k, h => by simp [ctN] at h
  | p + 1, k, h => by
    rw [ctN_b] at h
    rw [pls]
    by_cases c : bt X p = 1 ∧ k = ctN p X
    · rw [if_pos c]
      exact ⟨by omega, c.1, c.2.symm⟩
    · rw [if_neg c]
      have := bt_01 X p
      obtain ⟨a, b, d⟩ := pls_s X p k (by omega)
      exact ⟨by omega, b, d⟩
theorem pls_mono (X : Nat) {p a b : Nat} (h : a < b) (hb : b < ctN p X) : pls X p a < pls X p b := by
  obtain ⟨_, _, a3⟩ := pls_s X p a (by omega)
  obtain ⟨_, _, b3⟩ := pls_s X p b hb
  by_cases c : pls X p a < pls X p b
  · exact c
  · have := ctN_mono X (a := pls X p b) (b := pls X p a) (by omega)
    omega
theorem pls_up (X : Nat) {p k : Nat} (q : Nat) (hk : k < ctN p X) (h : p ≤ q) : pls X q k = pls X p k := by
  induction q with
  | zero => have e : p = 0 := by omega
            subst e; rfl
  | succ q ih =>
    by_cases e : p = q + 1
    · subst e; rfl
    · rw [pls, if_neg (fun z => ?_), ih (by omega)]
      have := ctN_mono X (a := p) (b := q) (by omega)
      omega
theorem bt_lt {X m p : Nat} (h : X < 2 ^ m) (hb : bt X p = 1) : p < m := by
  by_cases c : p < m
  · exact c
  · have := Nat.pow_le_pow_right (n := 2) (by omega) (show m ≤ p by omega)
    have e : X / 2 ^ p = 0 := Nat.div_eq_of_lt (by omega)
    unfold bt at hb
    rw [e] at hb
    omega
/-- beyond the bits there is nothing to count -/
theorem ctN_hi {X m : Nat} (h : X < 2 ^ m) {q : Nat} (hq : m ≤ q) : ctN q X = ctN m X := by
  induction q with
  | zero => have e : m = 0 := by omega
            subst e; rfl
  | succ q ih =>
    by_cases e : m = q + 1
    · subst e; rfl
    · rw [ctN_b, ih (by omega)]
      have := bt_01 X q
      by_cases c : bt X q = 1
      · have := bt_lt h c
        omega
      · omega
theorem and1 (z : Int64) : nL (z &&& 1) = nL z % 2 := by
  rw [nL_and]
  show nL z &&& 1 = _
  rw [Nat.and_one_is_mod]
theorem nL_inj {x y : Int64} (h : nL x = nL y) : x = y := Int64.toBitVec_inj.mp (BitVec.eq_of_toNat_eq h)
theorem nL_0 (x : Int64) : x = 0 ↔ nL x = 0 := ⟨fun h => by subst h; rfl, fun h => nL_inj h⟩
theorem usr_bit (x : Int64) {p : Nat} (hp : p < 64) : ((usr x (nI p)) &&& (1 : Int64) = 0) ↔ bt (nL x) p = 0 := by
  rw [nL_0, and1, nL_usr x hp]
  rfl
theorem nL_neg (x : Int64) : x < 0 ↔ 2 ^ 63 ≤ nL x := by
  have := nL_lt x
  rw [Int64.lt_iff_toInt_lt]
  show x.toBitVec.toInt < 0 ↔ _
  rw [BitVec.toInt_eq_toNat_cond]
  unfold nL at *
  split <;> omega
theorem nL_srL (x : Int64) (hx : nL x < 2 ^ 63) {p : Nat} (hp : p < 64) : nL (srL x (nI p)) = nL x / 2 ^ p := by
  have e : ((nI p).toInt64 &&& 63 : Int64) = Int64.ofNat p := by
    have : (nI p).toInt64 = Int64.ofNat p := by
      unfold nI
      apply Int64.toInt_inj.mp
      rw [Int32.toInt_toInt64, Int32.toInt_ofNat_of_lt (by omega), Int64.toInt_ofNat_of_lt (by omega)]
    rw [this]
    apply nL_inj
    rw [nL_and]
    have a1 : nL (Int64.ofNat p) = p := by simp [nL]; omega
    have a2 : nL (63 : Int64) = 63 := by decide
    rw [a1, a2]
    have := Nat.and_two_pow_sub_one_eq_mod p 6
    simp at this
    omega
  have e2 : ((Int64.ofNat p).toBitVec.smod 64).toNat = p := by
    have : (Int64.ofNat p).toBitVec.smod 64 = BitVec.ofNat 64 p := by
      have q : ∀ p, p < 64 → (Int64.ofNat p).toBitVec.smod 64 = BitVec.ofNat 64 p := by decide +kernel
      exact q p hp
    rw [this]
    simp
    omega
  unfold srL
  rw [e]
  unfold nL
  rw [Int64.toBitVec_shiftRight, BitVec.sshiftRight_eq', e2, BitVec.sshiftRight_eq_of_msb_false, BitVec.toNat_ushiftRight, Nat.shiftRight_eq_div_pow]
  rw [BitVec.msb_eq_false_iff_two_mul_lt]
  unfold nL at hx
  omega
theorem srL_bit (x : Int64) (hx : nL x < 2 ^ 63) {p : Nat} (hp : p < 64) : ((srL x (nI p)) &&& (1 : Int64) = 1) ↔ bt (nL x) p = 1 := by
  have e : bt (nL x) p = nL ((srL x (nI p)) &&& (1 : Int64)) := by rw [and1, nL_srL x hx hp]; rfl
  rw [e]
  constructor
  · intro h
    rw [h]
    rfl
  · intro h
    exact nL_inj h
theorem srL_cnt (x : Int64) (hx : nL x < 2 ^ 63) {p : Nat} (hp : p < 64) : Int64.toInt32 ((srL x (nI p)) &&& (1 : Int64)) = nI (bt (nL x) p) := by
  have e : bt (nL x) p = nL ((srL x (nI p)) &&& (1 : Int64)) := by rw [and1, nL_srL x hx hp]; rfl
  rcases bt_01 (nL x) p with h | h
  · rw [h]
    rw [h] at e
    rw [(nL_0 _).mpr e.symm]
    rfl
  · rw [(srL_bit x hx hp).mpr h, h]
    rfl
theorem countOf_l (x : Int64) (hx : nL x < 2 ^ 63) (h : Hp) : ∀ (f p : Nat), p ≤ 64 → 64 < p + f → fX11_countOf_4 f x (nI (ctN p (nL x))) (nI p) h = some (nI (ctN 64 (nL x)), h)
  | 0, p, h1, h2 => by omega
  | f + 1, p, h1, h2 => by
    show bX11_countOf_4 (fX11_countOf_4 f) x (nI (ctN p (nL x))) (nI p) h = _
    unfold bX11_countOf_4
    by_cases hp : 64 ≤ p
    · have e : p = 64 := by omega
      subst e
      rw [if_pos (by decide)]
      rfl
    · rw [if_neg (show ¬ (64 : Int32) ≤ nI p from nI_ge (b := 64) (by omega) (by omega)), srL_cnt x hx (by omega), nI_add, ← ctN_b, nI_1]
      exact countOf_l x hx h f (p + 1) (by omega) (by omega)
theorem countOf_e (x : Int64) (hx : nL x < 2 ^ 63) (h : Hp) : pX11_countOf x h = some (nI (ctN 64 (nL x)), h) := countOf_l x hx h FU 0 (by omega) (by unfold FU; omega)
