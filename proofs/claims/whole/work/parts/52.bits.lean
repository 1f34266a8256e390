/-! Counting bits: the machine's sums in parallel. -/
def ctN : Nat → Nat → Nat
  | 0, _ => 0
  | m + 1, x => x % 2 + ctN m (x / 2)
theorem ctN_s : ∀ (k x : Nat), ctN (k + 1) x = ctN k x + (x / 2 ^ k) % 2
  | 0, x => by simp [ctN]
  | k + 1, x => by
    rw [ctN, ctN_s k (x / 2), ctN, Nat.div_div_eq_div_mul, show 2 * 2 ^ k = 2 ^ (k + 1) by rw [Nat.pow_succ]; omega]
    omega
def rp (b : Nat) : Nat → Nat
  | 0 => 0
  | m + 1 => 256 * rp b m + b
theorem lnd (a b c d : Nat) (hb : b < 256) (hd : d < 256) : (256 * a + b) &&& (256 * c + d) = 256 * (a &&& c) + (b &&& d) := by
  have h1 := Nat.and_div_two_pow (a := 256 * a + b) (b := 256 * c + d) (n := 8)
  have h2 := Nat.and_mod_two_pow (a := 256 * a + b) (b := 256 * c + d) (n := 8)
  have e1 : (256 * a + b) / 2 ^ 8 = a := by omega
  have e2 : (256 * c + d) / 2 ^ 8 = c := by omega
  have e3 : (256 * a + b) % 2 ^ 8 = b := by omega
  have e4 : (256 * c + d) % 2 ^ 8 = d := by omega
  rw [e1, e2] at h1
  rw [e3, e4] at h2
  omega
def g1 (m x : Nat) : Nat := x - ((x / 2) &&& rp 0x55 m)
def g2 (m x : Nat) : Nat := (g1 m x &&& rp 0x33 m) + ((g1 m x / 4) &&& rp 0x33 m)
def g3 (m x : Nat) : Nat := (g2 m x + g2 m x / 16) &&& rp 0x0f m
theorem d1 : ∀ r, r < 256 → ∀ e, e < 2 → (128 * e + r / 2) &&& 0x55 = (r / 2) &&& 0x55 := by decide +kernel
theorem d1b : ∀ r, r < 256 → r / 2 &&& 0x55 ≤ r := by decide +kernel
theorem d2 : ∀ r, r < 256 → ∀ e, e < 4 → (64 * e + r / 4) &&& 0x33 = (r / 4) &&& 0x33 := by decide +kernel
theorem d3 : ∀ r, r < 256 → g2 1 r ≤ 0x44 ∧ g2 1 r % 16 ≤ 4 ∧ g3 1 r = ctN 8 r ∧ g1 1 r < 256 := by decide +kernel
theorem d4 : ∀ r, r < 256 → ∀ e, e < 5 → (g2 1 r + 16 * e + g2 1 r / 16) &&& 0x0f = ctN 8 r := by decide +kernel
theorem g1_s (m y r : Nat) (hr : r < 256) : g1 (m + 1) (256 * y + r) = 256 * g1 m y + g1 1 r := by
  have e : (256 * y + r) / 2 = 256 * (y / 2) + (128 * (y % 2) + r / 2) := by omega
  have l : y / 2 &&& rp 0x55 m ≤ y := Nat.le_trans Nat.and_le_left (by omega)
  have b := d1b r hr
  unfold g1
  rw [e, rp, lnd _ _ _ _ (by omega) (by omega), d1 r hr _ (by omega)]
  have : r / 2 &&& rp 0x55 1 = r / 2 &&& 0x55 := rfl
  rw [this]
  omega
theorem g2_s (m y r : Nat) (hr : r < 256) : g2 (m + 1) (256 * y + r) = 256 * g2 m y + g2 1 r := by
  have b := (d3 r hr).2.2.2
  unfold g2
  rw [g1_s m y r hr]
  generalize g1 1 r = q at b ⊢
  generalize g1 m y = p
  have e : (256 * p + q) / 4 = 256 * (p / 4) + (64 * (p % 4) + q / 4) := by omega
  rw [e, rp, lnd _ _ _ _ (by omega) (by omega), lnd _ _ _ _ (by omega) (by omega), d2 q b _ (by omega)]
  have : ∀ z, z &&& rp 0x33 1 = z &&& 0x33 := fun z => rfl
  rw [this, this]
  omega
theorem g2_0 (m y : Nat) : g2 m y % 16 ≤ 4 := by
  cases m with
  | zero => simp [g2, rp]
  | succ m =>
    have e : y = 256 * (y / 256) + y % 256 := by omega
    rw [e, g2_s m (y / 256) (y % 256) (by omega)]
    have := (d3 (y % 256) (by omega)).2.1
    omega
theorem g3_s (m y r : Nat) (hr : r < 256) : g3 (m + 1) (256 * y + r) = 256 * g3 m y + ctN 8 r := by
  have b := d3 r hr
  have c := g2_0 m y
  unfold g3
  rw [g2_s m y r hr]
  have q4 := d4 r hr (g2 m y % 16) (by omega)
  generalize g2 1 r = q at b q4 ⊢
  generalize g2 m y = p at c q4 ⊢
  have e : (256 * p + q) + (256 * p + q) / 16 = 256 * (p + p / 16) + (q + 16 * (p % 16) + q / 16) := by omega
  rw [e, rp, lnd _ _ _ _ (by omega) (by omega), q4]
/-- the bits of a byte, then those of the rest -/
theorem ctN_8 (m x : Nat) : ctN (m + 8) x = ctN 8 (x % 256) + ctN m (x / 256) := by
  have e : ∀ z, z / 2 / 2 / 2 / 2 / 2 / 2 / 2 / 2 = z / 256 := fun z => by omega
  show x % 2 + (x / 2 % 2 + (x / 2 / 2 % 2 + (x / 2 / 2 / 2 % 2 + (x / 2 / 2 / 2 / 2 % 2 + (x / 2 / 2 / 2 / 2 / 2 % 2 + (x / 2 / 2 / 2 / 2 / 2 / 2 % 2 + (x / 2 / 2 / 2 / 2 / 2 / 2 / 2 % 2 + ctN m (x / 2 / 2 / 2 / 2 / 2 / 2 / 2 / 2)))))))) = _
  rw [e]
  simp only [ctN]
  omega
theorem ctN_le : ∀ (m x : Nat), ctN m x ≤ m
  | 0, x => Nat.le_refl 0
  | m + 1, x => by have := ctN_le m (x / 2); rw [ctN]; omega
theorem g3_1 (m y : Nat) : g3 (m + 1) y = 256 * g3 m (y / 256) + ctN 8 (y % 256) := by
  have e : y = 256 * (y / 256) + y % 256 := by omega
  have := g3_s m (y / 256) (y % 256) (by omega)
  rw [← e] at this
  exact this
def by8 (C : Nat → Nat) (G : Nat → Nat → Nat) (K : Nat → Nat → Nat) : Prop := (∀ m y, G (m + 1) y = 256 * G m (y / 256) + C (y % 256)) ∧ (∀ y, y < 256 → G 1 y = C y) ∧ (∀ m x, K (m + 8) x = C (x % 256) + K m (x / 256)) ∧ (∀ x, K 8 x = C x) ∧ ∀ y, C y ≤ 8
theorem by8_e {C : Nat → Nat} {G K : Nat → Nat → Nat} (w : by8 C G K) (x : Nat) (hx : x < 2 ^ 64) : ∃ a b c d e f g h, a ≤ 8 ∧ b ≤ 8 ∧ c ≤ 8 ∧ d ≤ 8 ∧ e ≤ 8 ∧ f ≤ 8 ∧ g ≤ 8 ∧ h ≤ 8 ∧ K 64 x = a + (b + (c + (d + (e + (f + (g + h)))))) ∧ G 8 x = 256 * (256 * (256 * (256 * (256 * (256 * (256 * h + g) + f) + e) + d) + c) + b) + a := by
  obtain ⟨s, q, k, k8, l⟩ := w
  refine ⟨C (x % 256), C (x / 256 % 256), C (x / 256 / 256 % 256), C (x / 256 / 256 / 256 % 256), C (x / 256 / 256 / 256 / 256 % 256), C (x / 256 / 256 / 256 / 256 / 256 % 256), C (x / 256 / 256 / 256 / 256 / 256 / 256 % 256), C (x / 256 / 256 / 256 / 256 / 256 / 256 / 256), l _, l _, l _, l _, l _, l _, l _, l _, ?_, ?_⟩
  · rw [k 56, k 48, k 40, k 32, k 24, k 16, k 8, k8]
  · rw [s 7, s 6, s 5, s 4, s 3, s 2, s 1, q _ (by omega)]
theorem g3_8 (x : Nat) (hx : x < 2 ^ 64) : ∃ a b c d e f g h, a ≤ 8 ∧ b ≤ 8 ∧ c ≤ 8 ∧ d ≤ 8 ∧ e ≤ 8 ∧ f ≤ 8 ∧ g ≤ 8 ∧ h ≤ 8 ∧ ctN 64 x = a + (b + (c + (d + (e + (f + (g + h)))))) ∧ g3 8 x = 256 * (256 * (256 * (256 * (256 * (256 * (256 * h + g) + f) + e) + d) + c) + b) + a :=
  by8_e (C := ctN 8) (G := g3) (K := ctN) ⟨g3_1, fun y hy => (d3 y hy).2.2.1, ctN_8, fun _ => rfl, ctN_le 8⟩ x hx
theorem o1 (a b Y Z V c I : Nat) (h1 : a ≤ 8) (h2 : b ≤ 8) (h3 : c ≤ 8) (hZ : 256 * V + c = Z) (hY : 256 * Z + b = Y) (i : I = 256 * Y + a) : I / 256 = Y ∧ (I + Y) / 65536 = Z + V ∧ I + Y = 65536 * (Z + V) + (256 * (b + c) + (a + b)) := by
  refine ⟨by omega, by omega, by omega⟩
theorem o2 (c d e U V Z T : Nat) (hU : 256 * T + e = U) (hV : 256 * U + d = V) (hZ : 256 * V + c = Z) : Z + V = 65536 * (U + T) + (256 * (d + e) + (c + d)) := by omega
theorem o3 (a b c d e f g A S R h : Nat) (h1 : a ≤ 8) (h2 : b ≤ 8) (h3 : c ≤ 8) (h4 : d ≤ 8) (h5 : e ≤ 8) (h6 : f ≤ 8) (h7 : g ≤ 8) (h8 : h ≤ 8) (hR : 256 * h + g = R) (z1 : A = 65536 * S + (256 * (d + e) + (c + d))) (z2 : S = 65536 * (R + h) + (256 * (f + g) + (e + f))) : (65536 * A + (256 * (b + c) + (a + b)) + A + (65536 * A + (256 * (b + c) + (a + b)) + A) / 4294967296) % 128 = a + (b + (c + (d + (e + (f + (g + h)))))) := by
  have k1 : (65536 * A + (256 * (b + c) + (a + b)) + A) = 4294967296 * (S + (R + h)) + (65536 * (256 * (d + e) + (c + d) + (256 * (f + g) + (e + f))) + (256 * (d + e) + (c + d)) + (256 * (b + c) + (a + b))) := by omega
  have k2 : (65536 * (256 * (d + e) + (c + d) + (256 * (f + g) + (e + f))) + (256 * (d + e) + (c + d)) + (256 * (b + c) + (a + b))) < 4294967296 := by omega
  rw [k1, Nat.mul_add_div (by decide), Nat.div_eq_of_lt k2]
  omega
theorem ct_end (x : Nat) (hx : x < 2 ^ 64) : (g3 8 x + g3 8 x / 256 + (g3 8 x + g3 8 x / 256) / 65536 + (g3 8 x + g3 8 x / 256 + (g3 8 x + g3 8 x / 256) / 65536) / 4294967296) % 128 = ctN 64 x := by
  obtain ⟨a, b, c, d, e, f, g, h, h1, h2, h3, h4, h5, h6, h7, h8, ct, i⟩ := g3_8 x hx
  rw [ct]
  generalize g3 8 x = I at i ⊢
  clear ct hx
  generalize hR : 256 * h + g = R at i
  generalize hT : 256 * R + f = T at i
  generalize hU : 256 * T + e = U at i
  generalize hV : 256 * U + d = V at i
  generalize hZ : 256 * V + c = Z at i
  generalize hY : 256 * Z + b = Y at i
  obtain ⟨q1, q2, q3⟩ := o1 a b Y Z V c I h1 h2 h3 hZ hY i
  rw [q1, q2, q3]
  exact o3 a b c d e f g (Z + V) (U + T) R h h1 h2 h3 h4 h5 h6 h7 h8 hR (o2 c d e U V Z T hU hV hZ) (o2 e f g R T U h hR hT hU)
/-- a long without its sign -/
def nL (x : Int64) : Nat := x.toBitVec.toNat
theorem nL_lt (x : Int64) : nL x < 2 ^ 64 := x.toBitVec.isLt
theorem nL_and (a b : Int64) : nL (a &&& b) = nL a &&& nL b := by simp [nL]
theorem nL_sub {a b : Int64} (h : nL b ≤ nL a) : nL (a - b) = nL a - nL b := by
  have h1 := nL_lt a
  have h2 := nL_lt b
  unfold nL at *
  rw [Int64.toBitVec_sub, BitVec.toNat_sub]
  omega
theorem nL_add {a b : Int64} (h : nL a + nL b < 2 ^ 64) : nL (a + b) = nL a + nL b := by
  unfold nL at *
  rw [Int64.toBitVec_add, BitVec.toNat_add]
  omega
theorem nL_usr (x : Int64) {s : Nat} (hs : s < 64) : nL (usr x (nI s)) = nL x / 2 ^ s := by
  have e : ((nI s).toInt64.toUInt64 &&& Int64.toUInt64 63).toBitVec = BitVec.ofNat 64 s := by
    apply BitVec.eq_of_toNat_eq
    have : (nI s).toInt64 = Int64.ofNat s := by
      unfold nI
      apply Int64.toInt_inj.mp
      rw [Int32.toInt_toInt64]
      rw [Int32.toInt_ofNat_of_lt (by omega), Int64.toInt_ofNat_of_lt (by omega)]
    rw [this]
    simp
    rw [Nat.mod_eq_of_lt (show s < 18446744073709551616 by omega)]
    have := Nat.and_two_pow_sub_one_eq_mod s 6
    simp at this
    rw [this]
    omega
  unfold nL usr
  simp only [UInt64.toBitVec_toInt64, UInt64.toBitVec_shiftRight, e]
  rw [BitVec.ushiftRight_eq', BitVec.toNat_ushiftRight, Nat.shiftRight_eq_div_pow]
  simp
  congr 2
  omega
theorem nL_lit1 : nL (6148914691236517205 : Int64) = rp 0x55 8 := by decide +kernel
theorem nL_lit2 : nL (3689348814741910323 : Int64) = rp 0x33 8 := by decide +kernel
theorem nL_lit3 : nL (1085102592571150095 : Int64) = rp 0x0f 8 := by decide +kernel
theorem low7 (z : Int64) : (Int64.toInt32 z) &&& (127 : Int32) = nI (nL z % 128) := by
  apply Int32.toBitVec_inj.mp
  apply BitVec.eq_of_toNat_eq
  have := Nat.and_two_pow_sub_one_eq_mod (z.toBitVec.toNat % 4294967296) 7
  rw [Int32.toBitVec_and, Int64.toBitVec_toInt32, BitVec.signExtend_eq_setWidth_of_le _ (by omega), BitVec.toNat_and, BitVec.toNat_setWidth]
  show z.toBitVec.toNat % 2 ^ 32 &&& 127 = _
  simp [nI, nL]
  simp at this
  omega
