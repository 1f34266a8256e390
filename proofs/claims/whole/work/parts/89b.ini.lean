/-! The start: both constructors (by program). -/
def c10 (B : Nat) : List AC := [ob 10 [vr (some (B + 1)), vi 0, vr (some (B + 2)), vi 0, vi (-1), vr (some (B + 3)), vr (some (B + 11)), vr (some (B + 18)), vr (some (B + 20)), vr (some (B + 22)), vr (some (B + 26)), vr (some (B + 36)), vr (some (B + 38)), vr (some (B + 41))], aq 3 (arQ 6 fun _ => none), aq 5 (arQ 8 fun _ => none), ob 5 [vr (some (B + 4)), vr (some (B + 5)), vr (some (B + 6)), vr (some (B + 7)), vr (some (B + 8)), vi 0, vr (some (B + 9)), vr (some (B + 10)), vi 0, vi 0], ai 0 (arI 24 fun _ => 0), ai 0 (arI 24 fun _ => 0), ai 0 (arI 24 fun _ => 0), ai 0 (arI 24 fun _ => 0), ai 2 (arI 24 fun _ => 0), ai 0 (arI 10 fun _ => 0), ai 0 (arI 10 fun _ => 0), ob 6 [vr (some (B + 12)), vi 0, vi 0], aq 6 (arQ 5 fun i => some (B + 13 + i)), al (arL 66 fun _ => 0), al (arL 66 fun _ => 0), al (arL 66 fun _ => 0), al (arL 66 fun _ => 0), al (arL 66 fun _ => 0), ob 4 [vr (some (B + 19)), vl 1, vi 0], al (arL 61 fun _ => 0), ob 7 [vr (some (B + 21)), vi 0], al (arL 341 fun _ => 0), ob 2 [vr (some (B + 23)), vr (some (B + 24)), vr (some (B + 25))], al (arL 2 fun _ => 0), ai 0 (arI 2 fun _ => 0), ai 0 (arI 2 fun _ => 0), ob 3 [vr (some (B + 27)), vr (some (B + 29)), vr (some (B + 33)), vi 100, vi (-1), vi 0, vi (-1), vi (-1)], ob 7 [vr (some (B + 28)), vi 0], al (arL 341 fun _ => 0), ob 2 [vr (some (B + 30)), vr (some (B + 31)), vr (some (B + 32))], al (arL 2 fun _ => 0), ai 0 (arI 2 fun _ => 0), ai 0 (arI 2 fun _ => 0), aq 6 (arQ 2 fun i => some (B + 34 + i)), al (arL 5 fun _ => 0), al (arL 5 fun _ => 0), ob 9 [vr (some (B + 37)), vi 0, vi 0, vi 0, vl 0], al (arL 343 fun _ => 0), ob 8 [vr (some (B + 39)), vr (some (B + 40)), vi 0, vi 0], ai 0 (arI 8 fun _ => 0), ai 0 (arI 8 fun _ => 0), ai 0 (arI 6 fun _ => 0)]
set_option maxRecDepth 100000 in
set_option maxHeartbeats 4000000 in
theorem ini10 {R : Type} {B : Nat} {K : Option Nat → Mo R} {Q : R → Hp → Prop} (q : WP (K (some B)) (LH (fun _ => none) B 1678 (c10 B)) Q) : WP (bd (nwO 10 [vr none, vi 0, vr none, vi 0, vi 0, vr none, vr none, vr none, vr none, vr none, vr none, vr none, vr none, vr none]) fun x0 => bd (vn x0 (fun o => pX10_init o)) fun _ => K x0) (LH (fun _ => none) B 0 []) Q := by
  refine li_nwO (j := 0) rfl ?_
  simp only [List.cons_append, List.nil_append, List.set_cons_zero, List.set_cons_succ]
  refine li_vn ?_
  unfold pX10_init
  refine li_vn (wp_rn ?_)
  refine li_nwQ (n := 6) (j := 1) rfl (by omega) rfl ?_
  simp only [List.cons_append, List.nil_append, List.set_cons_zero, List.set_cons_succ]
  refine li_pF (j := 0) rfl rfl (Nat.le_of_ble_eq_true rfl) ?_
  simp only [List.cons_append, List.nil_append, List.set_cons_zero, List.set_cons_succ]
  refine li_pF (j := 0) rfl rfl (Nat.le_of_ble_eq_true rfl) ?_
  simp only [List.cons_append, List.nil_append, List.set_cons_zero, List.set_cons_succ]
  refine li_nwQ (n := 8) (j := 2) rfl (by omega) rfl ?_
  simp only [List.cons_append, List.nil_append, List.set_cons_zero, List.set_cons_succ]
  refine li_pF (j := 0) rfl rfl (Nat.le_of_ble_eq_true rfl) ?_
  simp only [List.cons_append, List.nil_append, List.set_cons_zero, List.set_cons_succ]
  refine li_pF (j := 0) rfl rfl (Nat.le_of_ble_eq_true rfl) ?_
  simp only [List.cons_append, List.nil_append, List.set_cons_zero, List.set_cons_succ]
  refine li_pF (j := 0) rfl rfl (Nat.le_of_ble_eq_true rfl) ?_
  simp only [List.cons_append, List.nil_append, List.set_cons_zero, List.set_cons_succ]
  refine li_nwO (j := 3) rfl ?_
  simp only [List.cons_append, List.nil_append, List.set_cons_zero, List.set_cons_succ]
  refine li_vn ?_
  unfold pX5_init
  refine li_vn (wp_rn ?_)
  refine li_nwI (n := 24) (j := 4) rfl (by omega) rfl ?_
  simp only [List.cons_append, List.nil_append, List.set_cons_zero, List.set_cons_succ]
  refine li_pF (j := 3) rfl rfl (Nat.le_of_ble_eq_true rfl) ?_
  simp only [List.cons_append, List.nil_append, List.set_cons_zero, List.set_cons_succ]
  refine li_nwI (n := 24) (j := 5) rfl (by omega) rfl ?_
  simp only [List.cons_append, List.nil_append, List.set_cons_zero, List.set_cons_succ]
  refine li_pF (j := 3) rfl rfl (Nat.le_of_ble_eq_true rfl) ?_
  simp only [List.cons_append, List.nil_append, List.set_cons_zero, List.set_cons_succ]
  refine li_nwI (n := 24) (j := 6) rfl (by omega) rfl ?_
  simp only [List.cons_append, List.nil_append, List.set_cons_zero, List.set_cons_succ]
  refine li_pF (j := 3) rfl rfl (Nat.le_of_ble_eq_true rfl) ?_
  simp only [List.cons_append, List.nil_append, List.set_cons_zero, List.set_cons_succ]
  refine li_nwI (n := 24) (j := 7) rfl (by omega) rfl ?_
  simp only [List.cons_append, List.nil_append, List.set_cons_zero, List.set_cons_succ]
  refine li_pF (j := 3) rfl rfl (Nat.le_of_ble_eq_true rfl) ?_
  simp only [List.cons_append, List.nil_append, List.set_cons_zero, List.set_cons_succ]
  refine li_nwI (n := 24) (j := 8) rfl (by omega) rfl ?_
  simp only [List.cons_append, List.nil_append, List.set_cons_zero, List.set_cons_succ]
  refine li_pF (j := 3) rfl rfl (Nat.le_of_ble_eq_true rfl) ?_
  simp only [List.cons_append, List.nil_append, List.set_cons_zero, List.set_cons_succ]
  refine li_pF (j := 3) rfl rfl (Nat.le_of_ble_eq_true rfl) ?_
  simp only [List.cons_append, List.nil_append, List.set_cons_zero, List.set_cons_succ]
  refine li_nwI (n := 10) (j := 9) rfl (by omega) rfl ?_
  simp only [List.cons_append, List.nil_append, List.set_cons_zero, List.set_cons_succ]
  refine li_pF (j := 3) rfl rfl (Nat.le_of_ble_eq_true rfl) ?_
  simp only [List.cons_append, List.nil_append, List.set_cons_zero, List.set_cons_succ]
  refine li_nwI (n := 10) (j := 10) rfl (by omega) rfl ?_
  simp only [List.cons_append, List.nil_append, List.set_cons_zero, List.set_cons_succ]
  refine li_pF (j := 3) rfl rfl (Nat.le_of_ble_eq_true rfl) ?_
  simp only [List.cons_append, List.nil_append, List.set_cons_zero, List.set_cons_succ]
  refine li_pF (j := 3) rfl rfl (Nat.le_of_ble_eq_true rfl) ?_
  simp only [List.cons_append, List.nil_append, List.set_cons_zero, List.set_cons_succ]
  refine li_pF (j := 3) rfl rfl (Nat.le_of_ble_eq_true rfl) ?_
  simp only [List.cons_append, List.nil_append, List.set_cons_zero, List.set_cons_succ]
  refine wp_rn ?_
  refine li_pF (j := 0) rfl rfl (Nat.le_of_ble_eq_true rfl) ?_
  simp only [List.cons_append, List.nil_append, List.set_cons_zero, List.set_cons_succ]
  refine li_nwO (j := 11) rfl ?_
  simp only [List.cons_append, List.nil_append, List.set_cons_zero, List.set_cons_succ]
  refine li_vn ?_
  unfold pX6_init
  refine li_vn (wp_rn ?_)
  refine li_nwM (n := 5) (k := 66) (j := 12) (rows := [al (arL 66 fun _ => 0), al (arL 66 fun _ => 0), al (arL 66 fun _ => 0), al (arL 66 fun _ => 0), al (arL 66 fun _ => 0)]) rfl rfl (by omega) (by omega) rfl rfl ?_
  simp only [List.cons_append, List.nil_append, List.set_cons_zero, List.set_cons_succ]
  refine li_pF (j := 11) rfl rfl (Nat.le_of_ble_eq_true rfl) ?_
  simp only [List.cons_append, List.nil_append, List.set_cons_zero, List.set_cons_succ]
  refine li_pF (j := 11) rfl rfl (Nat.le_of_ble_eq_true rfl) ?_
  simp only [List.cons_append, List.nil_append, List.set_cons_zero, List.set_cons_succ]
  refine li_pF (j := 11) rfl rfl (Nat.le_of_ble_eq_true rfl) ?_
  simp only [List.cons_append, List.nil_append, List.set_cons_zero, List.set_cons_succ]
  refine wp_rn ?_
  refine li_pF (j := 0) rfl rfl (Nat.le_of_ble_eq_true rfl) ?_
  simp only [List.cons_append, List.nil_append, List.set_cons_zero, List.set_cons_succ]
  refine li_nwO (j := 18) rfl ?_
  simp only [List.cons_append, List.nil_append, List.set_cons_zero, List.set_cons_succ]
  refine li_vn ?_
  unfold pX4_init
  refine li_vn (wp_rn ?_)
  refine li_nwL (n := 61) (j := 19) rfl (by omega) rfl ?_
  simp only [List.cons_append, List.nil_append, List.set_cons_zero, List.set_cons_succ]
  refine li_pF (j := 18) rfl rfl (Nat.le_of_ble_eq_true rfl) ?_
  simp only [List.cons_append, List.nil_append, List.set_cons_zero, List.set_cons_succ]
  refine li_pF (j := 18) rfl rfl (Nat.le_of_ble_eq_true rfl) ?_
  simp only [List.cons_append, List.nil_append, List.set_cons_zero, List.set_cons_succ]
  refine li_pF (j := 18) rfl rfl (Nat.le_of_ble_eq_true rfl) ?_
  simp only [List.cons_append, List.nil_append, List.set_cons_zero, List.set_cons_succ]
  refine wp_rn ?_
  refine li_pF (j := 0) rfl rfl (Nat.le_of_ble_eq_true rfl) ?_
  simp only [List.cons_append, List.nil_append, List.set_cons_zero, List.set_cons_succ]
  refine li_nwO (j := 20) rfl ?_
  simp only [List.cons_append, List.nil_append, List.set_cons_zero, List.set_cons_succ]
  refine li_vn ?_
  unfold pX7_init
  refine li_vn (wp_rn ?_)
  refine li_nwL (n := 341) (j := 21) rfl (by omega) rfl ?_
  simp only [List.cons_append, List.nil_append, List.set_cons_zero, List.set_cons_succ]
  refine li_pF (j := 20) rfl rfl (Nat.le_of_ble_eq_true rfl) ?_
  simp only [List.cons_append, List.nil_append, List.set_cons_zero, List.set_cons_succ]
  refine li_pF (j := 20) rfl rfl (Nat.le_of_ble_eq_true rfl) ?_
  simp only [List.cons_append, List.nil_append, List.set_cons_zero, List.set_cons_succ]
  refine wp_rn ?_
  refine li_pF (j := 0) rfl rfl (Nat.le_of_ble_eq_true rfl) ?_
  simp only [List.cons_append, List.nil_append, List.set_cons_zero, List.set_cons_succ]
  refine li_nwO (j := 22) rfl ?_
  simp only [List.cons_append, List.nil_append, List.set_cons_zero, List.set_cons_succ]
  refine li_vn ?_
  unfold pX2_init
  refine li_vn (wp_rn ?_)
  refine li_nwL (n := 2) (j := 23) rfl (by omega) rfl ?_
  simp only [List.cons_append, List.nil_append, List.set_cons_zero, List.set_cons_succ]
  refine li_pF (j := 22) rfl rfl (Nat.le_of_ble_eq_true rfl) ?_
  simp only [List.cons_append, List.nil_append, List.set_cons_zero, List.set_cons_succ]
  refine li_nwI (n := 2) (j := 24) rfl (by omega) rfl ?_
  simp only [List.cons_append, List.nil_append, List.set_cons_zero, List.set_cons_succ]
  refine li_pF (j := 22) rfl rfl (Nat.le_of_ble_eq_true rfl) ?_
  simp only [List.cons_append, List.nil_append, List.set_cons_zero, List.set_cons_succ]
  refine li_nwI (n := 2) (j := 25) rfl (by omega) rfl ?_
  simp only [List.cons_append, List.nil_append, List.set_cons_zero, List.set_cons_succ]
  refine li_pF (j := 22) rfl rfl (Nat.le_of_ble_eq_true rfl) ?_
  simp only [List.cons_append, List.nil_append, List.set_cons_zero, List.set_cons_succ]
  refine wp_rn ?_
  refine li_pF (j := 0) rfl rfl (Nat.le_of_ble_eq_true rfl) ?_
  simp only [List.cons_append, List.nil_append, List.set_cons_zero, List.set_cons_succ]
  refine li_nwO (j := 26) rfl ?_
  simp only [List.cons_append, List.nil_append, List.set_cons_zero, List.set_cons_succ]
  refine li_vn ?_
  unfold pX3_init
  refine li_vn (wp_rn ?_)
  refine li_nwO (j := 27) rfl ?_
  simp only [List.cons_append, List.nil_append, List.set_cons_zero, List.set_cons_succ]
  refine li_vn ?_
  unfold pX7_init
  refine li_vn (wp_rn ?_)
  refine li_nwL (n := 341) (j := 28) rfl (by omega) rfl ?_
  simp only [List.cons_append, List.nil_append, List.set_cons_zero, List.set_cons_succ]
  refine li_pF (j := 27) rfl rfl (Nat.le_of_ble_eq_true rfl) ?_
  simp only [List.cons_append, List.nil_append, List.set_cons_zero, List.set_cons_succ]
  refine li_pF (j := 27) rfl rfl (Nat.le_of_ble_eq_true rfl) ?_
  simp only [List.cons_append, List.nil_append, List.set_cons_zero, List.set_cons_succ]
  refine wp_rn ?_
  refine li_pF (j := 26) rfl rfl (Nat.le_of_ble_eq_true rfl) ?_
  simp only [List.cons_append, List.nil_append, List.set_cons_zero, List.set_cons_succ]
  refine li_nwO (j := 29) rfl ?_
  simp only [List.cons_append, List.nil_append, List.set_cons_zero, List.set_cons_succ]
  refine li_vn ?_
  unfold pX2_init
  refine li_vn (wp_rn ?_)
  refine li_nwL (n := 2) (j := 30) rfl (by omega) rfl ?_
  simp only [List.cons_append, List.nil_append, List.set_cons_zero, List.set_cons_succ]
  refine li_pF (j := 29) rfl rfl (Nat.le_of_ble_eq_true rfl) ?_
  simp only [List.cons_append, List.nil_append, List.set_cons_zero, List.set_cons_succ]
  refine li_nwI (n := 2) (j := 31) rfl (by omega) rfl ?_
  simp only [List.cons_append, List.nil_append, List.set_cons_zero, List.set_cons_succ]
  refine li_pF (j := 29) rfl rfl (Nat.le_of_ble_eq_true rfl) ?_
  simp only [List.cons_append, List.nil_append, List.set_cons_zero, List.set_cons_succ]
  refine li_nwI (n := 2) (j := 32) rfl (by omega) rfl ?_
  simp only [List.cons_append, List.nil_append, List.set_cons_zero, List.set_cons_succ]
  refine li_pF (j := 29) rfl rfl (Nat.le_of_ble_eq_true rfl) ?_
  simp only [List.cons_append, List.nil_append, List.set_cons_zero, List.set_cons_succ]
  refine wp_rn ?_
  refine li_pF (j := 26) rfl rfl (Nat.le_of_ble_eq_true rfl) ?_
  simp only [List.cons_append, List.nil_append, List.set_cons_zero, List.set_cons_succ]
  refine li_nwM (n := 2) (k := 5) (j := 33) (rows := [al (arL 5 fun _ => 0), al (arL 5 fun _ => 0)]) rfl rfl (by omega) (by omega) rfl rfl ?_
  simp only [List.cons_append, List.nil_append, List.set_cons_zero, List.set_cons_succ]
  refine li_pF (j := 26) rfl rfl (Nat.le_of_ble_eq_true rfl) ?_
  simp only [List.cons_append, List.nil_append, List.set_cons_zero, List.set_cons_succ]
  refine li_pF (j := 26) rfl rfl (Nat.le_of_ble_eq_true rfl) ?_
  simp only [List.cons_append, List.nil_append, List.set_cons_zero, List.set_cons_succ]
  refine li_pF (j := 26) rfl rfl (Nat.le_of_ble_eq_true rfl) ?_
  simp only [List.cons_append, List.nil_append, List.set_cons_zero, List.set_cons_succ]
  refine li_pF (j := 26) rfl rfl (Nat.le_of_ble_eq_true rfl) ?_
  simp only [List.cons_append, List.nil_append, List.set_cons_zero, List.set_cons_succ]
  refine li_pF (j := 26) rfl rfl (Nat.le_of_ble_eq_true rfl) ?_
  simp only [List.cons_append, List.nil_append, List.set_cons_zero, List.set_cons_succ]
  refine li_pF (j := 26) rfl rfl (Nat.le_of_ble_eq_true rfl) ?_
  simp only [List.cons_append, List.nil_append, List.set_cons_zero, List.set_cons_succ]
  refine wp_rn ?_
  refine li_pF (j := 0) rfl rfl (Nat.le_of_ble_eq_true rfl) ?_
  simp only [List.cons_append, List.nil_append, List.set_cons_zero, List.set_cons_succ]
  refine li_nwO (j := 36) rfl ?_
  simp only [List.cons_append, List.nil_append, List.set_cons_zero, List.set_cons_succ]
  refine li_vn ?_
  unfold pX9_init
  refine li_vn (wp_rn ?_)
  refine li_nwL (n := 343) (j := 37) rfl (by omega) rfl ?_
  simp only [List.cons_append, List.nil_append, List.set_cons_zero, List.set_cons_succ]
  refine li_pF (j := 36) rfl rfl (Nat.le_of_ble_eq_true rfl) ?_
  simp only [List.cons_append, List.nil_append, List.set_cons_zero, List.set_cons_succ]
  refine li_pF (j := 36) rfl rfl (Nat.le_of_ble_eq_true rfl) ?_
  simp only [List.cons_append, List.nil_append, List.set_cons_zero, List.set_cons_succ]
  refine li_pF (j := 36) rfl rfl (Nat.le_of_ble_eq_true rfl) ?_
  simp only [List.cons_append, List.nil_append, List.set_cons_zero, List.set_cons_succ]
  refine li_pF (j := 36) rfl rfl (Nat.le_of_ble_eq_true rfl) ?_
  simp only [List.cons_append, List.nil_append, List.set_cons_zero, List.set_cons_succ]
  refine li_pF (j := 36) rfl rfl (Nat.le_of_ble_eq_true rfl) ?_
  simp only [List.cons_append, List.nil_append, List.set_cons_zero, List.set_cons_succ]
  refine wp_rn ?_
  refine li_pF (j := 0) rfl rfl (Nat.le_of_ble_eq_true rfl) ?_
  simp only [List.cons_append, List.nil_append, List.set_cons_zero, List.set_cons_succ]
  refine li_nwO (j := 38) rfl ?_
  simp only [List.cons_append, List.nil_append, List.set_cons_zero, List.set_cons_succ]
  refine li_vn ?_
  unfold pX8_init
  refine li_vn (wp_rn ?_)
  refine li_nwI (n := 8) (j := 39) rfl (by omega) rfl ?_
  simp only [List.cons_append, List.nil_append, List.set_cons_zero, List.set_cons_succ]
  refine li_pF (j := 38) rfl rfl (Nat.le_of_ble_eq_true rfl) ?_
  simp only [List.cons_append, List.nil_append, List.set_cons_zero, List.set_cons_succ]
  refine li_nwI (n := 8) (j := 40) rfl (by omega) rfl ?_
  simp only [List.cons_append, List.nil_append, List.set_cons_zero, List.set_cons_succ]
  refine li_pF (j := 38) rfl rfl (Nat.le_of_ble_eq_true rfl) ?_
  simp only [List.cons_append, List.nil_append, List.set_cons_zero, List.set_cons_succ]
  refine li_pF (j := 38) rfl rfl (Nat.le_of_ble_eq_true rfl) ?_
  simp only [List.cons_append, List.nil_append, List.set_cons_zero, List.set_cons_succ]
  refine li_pF (j := 38) rfl rfl (Nat.le_of_ble_eq_true rfl) ?_
  simp only [List.cons_append, List.nil_append, List.set_cons_zero, List.set_cons_succ]
  refine wp_rn ?_
  refine li_pF (j := 0) rfl rfl (Nat.le_of_ble_eq_true rfl) ?_
  simp only [List.cons_append, List.nil_append, List.set_cons_zero, List.set_cons_succ]
  refine li_nwI (n := 6) (j := 41) rfl (by omega) rfl ?_
  simp only [List.cons_append, List.nil_append, List.set_cons_zero, List.set_cons_succ]
  refine li_pF (j := 0) rfl rfl (Nat.le_of_ble_eq_true rfl) ?_
  simp only [List.cons_append, List.nil_append, List.set_cons_zero, List.set_cons_succ]
  refine wp_rn ?_
  exact q
def c11 (B : Nat) : List AC := [ob 11 [vi 0, vr (some (B + 43)), vr (some (B + 44)), vr (some (B + 45)), vr (some (B + 46)), vr (some (B + 47)), vr (some (B + 48)), vr (some (B + 49)), vr (some (B + 50)), vr (some (B + 51)), vr (some (B + 52)), vr (some (B + 53)), vi 0, vr (some (B + 54)), vr (some (B + 55)), vr (some (B + 56)), vr (some (B + 57)), vi (-1), vi 100, vi 0, vi (-1), vi 0, vi 0, vr (some (B + 58)), vr (some (B + 59)), vr (some (B + 60)), vr (some (B + 61)), vr (some (B + 62)), vi 0, vr (some (B + 63)), vr (some (B + 64)), vr (some (B + 65)), vr (some (B + 66)), vr (some (B + 67)), vr (some (B + 68)), vr (some (B + 69)), vr (some (B + 70)), vr (some (B + 71)), vi 0, vi 0, vi 0], ai 0 (arI 6 fun _ => 0), ai 0 (arI 6 fun _ => 0), ai 0 (arI 6 fun _ => 0), ai 0 (arI 30 fun _ => 0), ai 0 (arI 6 fun _ => 0), ai 0 (arI 6 fun _ => 0), ai 0 (arI 6 fun _ => 0), al (arL 1830 fun _ => 0), al (arL 6 fun _ => 0), al (arL 30 fun _ => 0), ai 0 (arI 7 fun _ => 0), ai 0 (arI 8 fun _ => 0), ai 0 (arI 64 fun _ => 0), ai 0 (arI 64 fun _ => 0), ai 0 (arI 8 fun _ => 0), ai 0 (arI 6 fun _ => 0), ai 0 (arI 30 fun _ => 0), ai 0 (arI 30 fun _ => 0), ai 0 (arI 30 fun _ => 0), ai 0 (arI 30 fun _ => 0), ai 0 (arI 24 fun _ => 0), ai 0 (arI 24 fun _ => 0), ai 0 (arI 24 fun _ => 0), ai 0 (arI 24 fun _ => 0), ai 2 (arI 24 fun _ => 0), ai 0 (arI 10 fun _ => 0), ai 0 (arI 10 fun _ => 0), ai 0 (arI 12 fun _ => 0), al (arL 210 fun _ => 0)]
set_option maxRecDepth 100000 in
set_option maxHeartbeats 4000000 in
theorem ini11 {R : Type} {p : Nat → Option AC} {B : Nat} {K : Option Nat → Mo R} {Q : R → Hp → Prop} (q : WP (fX11_init_256 FU (B + 42) 0) (LH p (B + 42) 4290 (c11 B)) (fun _ h => WP (K (some (B + 42))) h Q)) : WP (bd (nwO 11 [vi 0, vr none, vr none, vr none, vr none, vr none, vr none, vr none, vr none, vr none, vr none, vr none, vi 0, vr none, vr none, vr none, vr none, vi 0, vi 0, vi 0, vi 0, vi 0, vi 0, vr none, vr none, vr none, vr none, vr none, vi 0, vr none, vr none, vr none, vr none, vr none, vr none, vr none, vr none, vr none, vi 0, vi 0, vi 0]) fun x8 => bd (vn x8 (fun o => pX11_init o)) fun _ => K x8) (LH p (B + 42) 1678 []) Q := by
  refine li_nwO (j := 0) rfl ?_
  simp only [List.cons_append, List.nil_append, List.set_cons_zero, List.set_cons_succ]
  refine li_vn ?_
  unfold pX11_init
  refine li_vn (wp_rn ?_)
  refine li_nwI (n := 6) (j := 1) rfl (by omega) rfl ?_
  simp only [List.cons_append, List.nil_append, List.set_cons_zero, List.set_cons_succ]
  refine li_pF (j := 0) rfl rfl (Nat.le_of_ble_eq_true rfl) ?_
  simp only [List.cons_append, List.nil_append, List.set_cons_zero, List.set_cons_succ]
  refine li_nwI (n := 6) (j := 2) rfl (by omega) rfl ?_
  simp only [List.cons_append, List.nil_append, List.set_cons_zero, List.set_cons_succ]
  refine li_pF (j := 0) rfl rfl (Nat.le_of_ble_eq_true rfl) ?_
  simp only [List.cons_append, List.nil_append, List.set_cons_zero, List.set_cons_succ]
  refine li_nwI (n := 6) (j := 3) rfl (by omega) rfl ?_
  simp only [List.cons_append, List.nil_append, List.set_cons_zero, List.set_cons_succ]
  refine li_pF (j := 0) rfl rfl (Nat.le_of_ble_eq_true rfl) ?_
  simp only [List.cons_append, List.nil_append, List.set_cons_zero, List.set_cons_succ]
  refine li_nwI (n := 30) (j := 4) rfl (by omega) rfl ?_
  simp only [List.cons_append, List.nil_append, List.set_cons_zero, List.set_cons_succ]
  refine li_pF (j := 0) rfl rfl (Nat.le_of_ble_eq_true rfl) ?_
  simp only [List.cons_append, List.nil_append, List.set_cons_zero, List.set_cons_succ]
  refine li_nwI (n := 6) (j := 5) rfl (by omega) rfl ?_
  simp only [List.cons_append, List.nil_append, List.set_cons_zero, List.set_cons_succ]
  refine li_pF (j := 0) rfl rfl (Nat.le_of_ble_eq_true rfl) ?_
  simp only [List.cons_append, List.nil_append, List.set_cons_zero, List.set_cons_succ]
  refine li_nwI (n := 6) (j := 6) rfl (by omega) rfl ?_
  simp only [List.cons_append, List.nil_append, List.set_cons_zero, List.set_cons_succ]
  refine li_pF (j := 0) rfl rfl (Nat.le_of_ble_eq_true rfl) ?_
  simp only [List.cons_append, List.nil_append, List.set_cons_zero, List.set_cons_succ]
  refine li_nwI (n := 6) (j := 7) rfl (by omega) rfl ?_
  simp only [List.cons_append, List.nil_append, List.set_cons_zero, List.set_cons_succ]
  refine li_pF (j := 0) rfl rfl (Nat.le_of_ble_eq_true rfl) ?_
  simp only [List.cons_append, List.nil_append, List.set_cons_zero, List.set_cons_succ]
  refine li_nwL (n := 1830) (j := 8) rfl (by omega) rfl ?_
  simp only [List.cons_append, List.nil_append, List.set_cons_zero, List.set_cons_succ]
  refine li_pF (j := 0) rfl rfl (Nat.le_of_ble_eq_true rfl) ?_
  simp only [List.cons_append, List.nil_append, List.set_cons_zero, List.set_cons_succ]
  refine li_nwL (n := 6) (j := 9) rfl (by omega) rfl ?_
  simp only [List.cons_append, List.nil_append, List.set_cons_zero, List.set_cons_succ]
  refine li_pF (j := 0) rfl rfl (Nat.le_of_ble_eq_true rfl) ?_
  simp only [List.cons_append, List.nil_append, List.set_cons_zero, List.set_cons_succ]
  refine li_nwL (n := 30) (j := 10) rfl (by omega) rfl ?_
  simp only [List.cons_append, List.nil_append, List.set_cons_zero, List.set_cons_succ]
  refine li_pF (j := 0) rfl rfl (Nat.le_of_ble_eq_true rfl) ?_
  simp only [List.cons_append, List.nil_append, List.set_cons_zero, List.set_cons_succ]
  refine li_nwI (n := 7) (j := 11) rfl (by omega) rfl ?_
  simp only [List.cons_append, List.nil_append, List.set_cons_zero, List.set_cons_succ]
  refine li_pF (j := 0) rfl rfl (Nat.le_of_ble_eq_true rfl) ?_
  simp only [List.cons_append, List.nil_append, List.set_cons_zero, List.set_cons_succ]
  refine li_nwI (n := 8) (j := 12) rfl (by omega) rfl ?_
  simp only [List.cons_append, List.nil_append, List.set_cons_zero, List.set_cons_succ]
  refine li_pF (j := 0) rfl rfl (Nat.le_of_ble_eq_true rfl) ?_
  simp only [List.cons_append, List.nil_append, List.set_cons_zero, List.set_cons_succ]
  refine li_nwI (n := 64) (j := 13) rfl (by omega) rfl ?_
  simp only [List.cons_append, List.nil_append, List.set_cons_zero, List.set_cons_succ]
  refine li_pF (j := 0) rfl rfl (Nat.le_of_ble_eq_true rfl) ?_
  simp only [List.cons_append, List.nil_append, List.set_cons_zero, List.set_cons_succ]
  refine li_nwI (n := 64) (j := 14) rfl (by omega) rfl ?_
  simp only [List.cons_append, List.nil_append, List.set_cons_zero, List.set_cons_succ]
  refine li_pF (j := 0) rfl rfl (Nat.le_of_ble_eq_true rfl) ?_
  simp only [List.cons_append, List.nil_append, List.set_cons_zero, List.set_cons_succ]
  refine li_nwI (n := 8) (j := 15) rfl (by omega) rfl ?_
  simp only [List.cons_append, List.nil_append, List.set_cons_zero, List.set_cons_succ]
  refine li_pF (j := 0) rfl rfl (Nat.le_of_ble_eq_true rfl) ?_
  simp only [List.cons_append, List.nil_append, List.set_cons_zero, List.set_cons_succ]
  refine li_pF (j := 0) rfl rfl (Nat.le_of_ble_eq_true rfl) ?_
  simp only [List.cons_append, List.nil_append, List.set_cons_zero, List.set_cons_succ]
  refine li_pF (j := 0) rfl rfl (Nat.le_of_ble_eq_true rfl) ?_
  simp only [List.cons_append, List.nil_append, List.set_cons_zero, List.set_cons_succ]
  refine li_pF (j := 0) rfl rfl (Nat.le_of_ble_eq_true rfl) ?_
  simp only [List.cons_append, List.nil_append, List.set_cons_zero, List.set_cons_succ]
  refine li_nwI (n := 6) (j := 16) rfl (by omega) rfl ?_
  simp only [List.cons_append, List.nil_append, List.set_cons_zero, List.set_cons_succ]
  refine li_pF (j := 0) rfl rfl (Nat.le_of_ble_eq_true rfl) ?_
  simp only [List.cons_append, List.nil_append, List.set_cons_zero, List.set_cons_succ]
  refine li_nwI (n := 30) (j := 17) rfl (by omega) rfl ?_
  simp only [List.cons_append, List.nil_append, List.set_cons_zero, List.set_cons_succ]
  refine li_pF (j := 0) rfl rfl (Nat.le_of_ble_eq_true rfl) ?_
  simp only [List.cons_append, List.nil_append, List.set_cons_zero, List.set_cons_succ]
  refine li_nwI (n := 30) (j := 18) rfl (by omega) rfl ?_
  simp only [List.cons_append, List.nil_append, List.set_cons_zero, List.set_cons_succ]
  refine li_pF (j := 0) rfl rfl (Nat.le_of_ble_eq_true rfl) ?_
  simp only [List.cons_append, List.nil_append, List.set_cons_zero, List.set_cons_succ]
  refine li_nwI (n := 30) (j := 19) rfl (by omega) rfl ?_
  simp only [List.cons_append, List.nil_append, List.set_cons_zero, List.set_cons_succ]
  refine li_pF (j := 0) rfl rfl (Nat.le_of_ble_eq_true rfl) ?_
  simp only [List.cons_append, List.nil_append, List.set_cons_zero, List.set_cons_succ]
  refine li_nwI (n := 30) (j := 20) rfl (by omega) rfl ?_
  simp only [List.cons_append, List.nil_append, List.set_cons_zero, List.set_cons_succ]
  refine li_pF (j := 0) rfl rfl (Nat.le_of_ble_eq_true rfl) ?_
  simp only [List.cons_append, List.nil_append, List.set_cons_zero, List.set_cons_succ]
  refine li_nwI (n := 24) (j := 21) rfl (by omega) rfl ?_
  simp only [List.cons_append, List.nil_append, List.set_cons_zero, List.set_cons_succ]
  refine li_pF (j := 0) rfl rfl (Nat.le_of_ble_eq_true rfl) ?_
  simp only [List.cons_append, List.nil_append, List.set_cons_zero, List.set_cons_succ]
  refine li_nwI (n := 24) (j := 22) rfl (by omega) rfl ?_
  simp only [List.cons_append, List.nil_append, List.set_cons_zero, List.set_cons_succ]
  refine li_pF (j := 0) rfl rfl (Nat.le_of_ble_eq_true rfl) ?_
  simp only [List.cons_append, List.nil_append, List.set_cons_zero, List.set_cons_succ]
  refine li_nwI (n := 24) (j := 23) rfl (by omega) rfl ?_
  simp only [List.cons_append, List.nil_append, List.set_cons_zero, List.set_cons_succ]
  refine li_pF (j := 0) rfl rfl (Nat.le_of_ble_eq_true rfl) ?_
  simp only [List.cons_append, List.nil_append, List.set_cons_zero, List.set_cons_succ]
  refine li_nwI (n := 24) (j := 24) rfl (by omega) rfl ?_
  simp only [List.cons_append, List.nil_append, List.set_cons_zero, List.set_cons_succ]
  refine li_pF (j := 0) rfl rfl (Nat.le_of_ble_eq_true rfl) ?_
  simp only [List.cons_append, List.nil_append, List.set_cons_zero, List.set_cons_succ]
  refine li_nwI (n := 24) (j := 25) rfl (by omega) rfl ?_
  simp only [List.cons_append, List.nil_append, List.set_cons_zero, List.set_cons_succ]
  refine li_pF (j := 0) rfl rfl (Nat.le_of_ble_eq_true rfl) ?_
  simp only [List.cons_append, List.nil_append, List.set_cons_zero, List.set_cons_succ]
  refine li_nwI (n := 10) (j := 26) rfl (by omega) rfl ?_
  simp only [List.cons_append, List.nil_append, List.set_cons_zero, List.set_cons_succ]
  refine li_pF (j := 0) rfl rfl (Nat.le_of_ble_eq_true rfl) ?_
  simp only [List.cons_append, List.nil_append, List.set_cons_zero, List.set_cons_succ]
  refine li_nwI (n := 10) (j := 27) rfl (by omega) rfl ?_
  simp only [List.cons_append, List.nil_append, List.set_cons_zero, List.set_cons_succ]
  refine li_pF (j := 0) rfl rfl (Nat.le_of_ble_eq_true rfl) ?_
  simp only [List.cons_append, List.nil_append, List.set_cons_zero, List.set_cons_succ]
  refine li_nwI (n := 12) (j := 28) rfl (by omega) rfl ?_
  simp only [List.cons_append, List.nil_append, List.set_cons_zero, List.set_cons_succ]
  refine li_pF (j := 0) rfl rfl (Nat.le_of_ble_eq_true rfl) ?_
  simp only [List.cons_append, List.nil_append, List.set_cons_zero, List.set_cons_succ]
  refine li_nwL (n := 210) (j := 29) rfl (by omega) rfl ?_
  simp only [List.cons_append, List.nil_append, List.set_cons_zero, List.set_cons_succ]
  refine li_pF (j := 0) rfl rfl (Nat.le_of_ble_eq_true rfl) ?_
  simp only [List.cons_append, List.nil_append, List.set_cons_zero, List.set_cons_succ]
  exact q
