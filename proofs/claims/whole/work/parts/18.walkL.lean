/-! The bytecode does as the programs say (by program). -/
def mL_law : Mt := (RL, 4, (some (.boolean)), 8, 224, false)
theorem cl_L_7 : Cond.classLink RL 7 RX10 ∈ TBg := (tg 16 (by decide +kernel) rfl)
theorem cl_L_10 : Cond.classLink RL 10 RX11 ∈ TBg := (tg 738 (by decide +kernel) rfl)
theorem ml_L_9 : ML RL 9 yX10_init := Or.inl (tg 18 (by decide +kernel) rfl)
theorem ml_L_12 : ML RL 12 yX11_init := Or.inl (tg 740 (by decide +kernel) rfl)
theorem ml_L_15 : ML RL 15 yX10_bridge := Or.inl (tg 281 (by decide +kernel) rfl)
theorem ml_L_19 : ML RL 19 yX11_bridge := Or.inl (tg 868 (by decide +kernel) rfl)
theorem ml_L_20 : ML RL 20 yX10_told := Or.inl (tg 389 (by decide +kernel) rfl)
theorem ml_L_24 : ML RL 24 yX11_told := Or.inl (tg 908 (by decide +kernel) rfl)
theorem ml_L_25 : ML RL 25 yX10_influence := Or.inl (tg 397 (by decide +kernel) rfl)
theorem ml_L_29 : ML RL 29 yX11_influence := Or.inl (tg 916 (by decide +kernel) rfl)
theorem ml_L_30 : ML RL 30 yX10_rule := Or.inl (tg 430 (by decide +kernel) rfl)
theorem ml_L_34 : ML RL 34 yX11_rule := Or.inl (tg 940 (by decide +kernel) rfl)
theorem ml_L_35 : ML RL 35 yX10_train := Or.inl (tg 438 (by decide +kernel) rfl)
theorem ml_L_39 : ML RL 39 yX11_train := Or.inl (tg 946 (by decide +kernel) rfl)
theorem ml_L_40 : ML RL 40 yX10_axle := Or.inl (tg 446 (by decide +kernel) rfl)
theorem ml_L_43 : ML RL 43 yX11_axle := Or.inl (tg 951 (by decide +kernel) rfl)
theorem ml_L_44 : ML RL 44 yX10_axles := Or.inl (tg 454 (by decide +kernel) rfl)
theorem ml_L_47 : ML RL 47 yX11_axles := Or.inl (tg 960 (by decide +kernel) rfl)
theorem ml_L_48 : ML RL 48 yX10_effect := Or.inl (tg 462 (by decide +kernel) rfl)
theorem ml_L_52 : ML RL 52 yX11_effect := Or.inl (tg 972 (by decide +kernel) rfl)
theorem ml_L_53 : ML RL 53 yX10_worst := Or.inl (tg 472 (by decide +kernel) rfl)
theorem ml_L_57 : ML RL 57 yX11_worst := Or.inl (tg 984 (by decide +kernel) rfl)
theorem ml_L_58 : ML RL 58 yX10_check := Or.inl (tg 495 (by decide +kernel) rfl)
theorem ml_L_62 : ML RL 62 yX11_check := Or.inl (tg 993 (by decide +kernel) rfl)
theorem ml_L_63 : ML RL 63 yX10_limit := Or.inl (tg 526 (by decide +kernel) rfl)
theorem ml_L_67 : ML RL 67 yX11_limit := Or.inl (tg 1002 (by decide +kernel) rfl)
theorem ml_L_68 : ML RL 68 yX10_usual := Or.inl (tg 534 (by decide +kernel) rfl)
theorem ml_L_71 : ML RL 71 yX11_usual := Or.inl (tg 1010 (by decide +kernel) rfl)
theorem ml_L_72 : ML RL 72 yX10_total := Or.inl (tg 538 (by decide +kernel) rfl)
theorem ml_L_75 : ML RL 75 yX11_total := Or.inl (tg 1014 (by decide +kernel) rfl)
theorem ml_L_76 : ML RL 76 yX10_fails := Or.inl (tg 558 (by decide +kernel) rfl)
theorem ml_L_79 : ML RL 79 yX11_fails := Or.inl (tg 1026 (by decide +kernel) rfl)
theorem ml_L_80 : ML RL 80 yX10_posted := Or.inl (tg 576 (by decide +kernel) rfl)
theorem ml_L_83 : ML RL 83 yX11_posted := Or.inl (tg 1038 (by decide +kernel) rfl)
theorem ml_L_84 : ML RL 84 yX10_spread := Or.inl (tg 594 (by decide +kernel) rfl)
theorem ml_L_87 : ML RL 87 yX11_spread := Or.inl (tg 1046 (by decide +kernel) rfl)
theorem ml_L_88 : ML RL 88 yX10_road := Or.inl (tg 602 (by decide +kernel) rfl)
theorem ml_L_91 : ML RL 91 yX11_road := Or.inl (tg 1050 (by decide +kernel) rfl)
theorem ml_L_92 : ML RL 92 yX10_route := Or.inl (tg 613 (by decide +kernel) rfl)
theorem ml_L_95 : ML RL 95 yX11_route := Or.inl (tg 1059 (by decide +kernel) rfl)
theorem ml_L_96 : ML RL 96 yX10_why := Or.inl (tg 659 (by decide +kernel) rfl)
theorem ml_L_99 : ML RL 99 yX11_why := Or.inl (tg 1080 (by decide +kernel) rfl)
theorem ml_L_100 : ML RL 100 yX10_wear := Or.inl (tg 671 (by decide +kernel) rfl)
theorem ml_L_103 : ML RL 103 yX11_wear := Or.inl (tg 1084 (by decide +kernel) rfl)
theorem ml_L_104 : ML RL 104 yX10_traffic := Or.inl (tg 718 (by decide +kernel) rfl)
theorem ml_L_107 : ML RL 107 yX11_traffic := Or.inl (tg 1107 (by decide +kernel) rfl)
theorem ml_L_108 : ML RL 108 yX10_worn := Or.inl (tg 722 (by decide +kernel) rfl)
theorem ml_L_112 : ML RL 112 yX11_worn := Or.inl (tg 1112 (by decide +kernel) rfl)
theorem ml_L_113 : ML RL 113 yX10_count := Or.inl (tg 726 (by decide +kernel) rfl)
theorem ml_L_116 : ML RL 116 yX11_count := Or.inl (tg 1116 (by decide +kernel) rfl)
theorem cj_L_13 : Cond.constantLong RL 13 (4294967295) ∈ TBg := (tg 1120 (by decide +kernel) rfl)
theorem in_L : Cond.initialized RL ∈ TBg ∧ RL ≠ "java/lang/invoke/MethodHandle" ∧ RL ≠ "java/lang/invoke/VarHandle" := ⟨(tg 0 (by decide +kernel) rfl), by decide +kernel, by decide +kernel⟩
/-- the script's int at i -/
def scr (L : Nat) (xs : Nat → Int32) (i : Int32) : Mo Int32 := fun h => if i < 0 ∨ L ≤ i.toNatClampNeg then none else some (xs i.toNatClampNeg, h)
theorem aw_scr {C : Cx} {cc : ByteArray} {mt : Mt} {R : Type} {q : R → Option Value} {res : R × Hp} {pc : Nat} {ls st : List TV} {b L : Nat} {xs : Nat → Int32} (hX : va_X b L xs C.s C.s.heap) (hbl : b < C.s.heap.size) (hbA : ¬ C.A b) {i : Int32} {kk : Int32 → Mo R} (hd : decode cc pc = .ok (.iaload, 1)) (kn : ∀ x, AW C cc mt q res (pc + 1) ls (vi x :: st) (kk x)) : AW C cc mt q res pc ls (vi i :: vr (some b) :: st) (bd (scr L xs i) kk) :=
  aw_rd (fun h y h' ho => by
    unfold scr at ho
    split at ho
    · cases ho
    · rename_i hin
      cases ho
      exact ⟨rfl, fun H locs cells slots la Q G hR hS hl k2 => va_sld G.1 G.2.1 hX hbl hbA hS hin hd k2⟩) kn
theorem aw_slen {C : Cx} {cc : ByteArray} {mt : Mt} {R : Type} {q : R → Option Value} {res : R × Hp} {pc : Nat} {ls st : List TV} {b L : Nat} {xs : Nat → Int32} (hX : va_X b L xs C.s C.s.heap) (hbl : b < C.s.heap.size) (hbA : ¬ C.A b) {P : Mo R} (hd : decode cc pc = .ok (.arraylength, 1)) (kn : AW C cc mt q res (pc + 1) ls (vi (Int32.ofNat L) :: st) P) : AW C cc mt q res pc ls (vr (some b) :: st) P := by
  intro h hP
  obtain ⟨k1, k2⟩ := kn h hP
  exact ⟨k1, fun H locs la G hR hu hS hl => va_slen G.1 G.2.1 hX hbl hbA hS hd (k2 H locs la G hR hu hS hl)⟩
def bL_law_1300 (L : Nat) (xs : Nat → Int32) (k18 : Option Nat → Option Nat → Int32 → Mo Int32) (v1 : Option Nat) (v2 : Option Nat) (v3 : Int32) : Mo Int32 :=
  bd (scr L xs (v3 + (1 : Int32))) fun x1305 =>
  bd (vc 10 v1 (fun o => pX10_count o x1305)) fun x1306 =>
  bd (scr L xs (v3 + (1 : Int32))) fun x1314 =>
  bd (vc 11 v2 (fun o => pX11_count o x1314)) fun x1315 =>
  if x1306 = x1315 then
    k18 v1 v2 ((v3 + (8 : Int32)))
  else
    rnZ (0 : Int32)
def bL_law_1256 (L : Nat) (xs : Nat → Int32) (k18 : Option Nat → Option Nat → Int32 → Mo Int32) (v1 : Option Nat) (v2 : Option Nat) (v3 : Int32) : Mo Int32 :=
  bd (scr L xs (v3 + (1 : Int32))) fun x1261 =>
  bd (scr L xs (v3 + (2 : Int32))) fun x1266 =>
  bd (scr L xs (v3 + (3 : Int32))) fun x1271 =>
  bd (vc 10 v1 (fun o => pX10_worn o x1261 x1266 x1271)) fun x1272 =>
  bd (scr L xs (v3 + (1 : Int32))) fun x1280 =>
  bd (scr L xs (v3 + (2 : Int32))) fun x1285 =>
  bd (scr L xs (v3 + (3 : Int32))) fun x1290 =>
  bd (vc 11 v2 (fun o => pX11_worn o x1280 x1285 x1290)) fun x1291 =>
  if x1272 = x1291 then
    k18 v1 v2 ((v3 + (8 : Int32)))
  else
    rnZ (0 : Int32)
def bL_law_1223 (L : Nat) (xs : Nat → Int32) (k18 : Option Nat → Option Nat → Int32 → Mo Int32) (v1 : Option Nat) (v2 : Option Nat) (v3 : Int32) : Mo Int32 :=
  bd (scr L xs (v3 + (1 : Int32))) fun x1228 =>
  bd (scr L xs (v3 + (2 : Int32))) fun x1233 =>
  bd (vc 10 v1 (fun o => pX10_traffic o x1228 x1233)) fun x1234 =>
  bd (scr L xs (v3 + (1 : Int32))) fun x1242 =>
  bd (scr L xs (v3 + (2 : Int32))) fun x1247 =>
  bd (vc 11 v2 (fun o => pX11_traffic o x1242 x1247)) fun x1248 =>
  if x1234 = x1248 then
    k18 v1 v2 ((v3 + (8 : Int32)))
  else
    rnZ (0 : Int32)
def bL_law_1159 (L : Nat) (xs : Nat → Int32) (k18 : Option Nat → Option Nat → Int32 → Mo Int32) (v1 : Option Nat) (v2 : Option Nat) (v3 : Int32) : Mo Int32 :=
  bd (scr L xs (v3 + (1 : Int32))) fun x1164 =>
  bd (scr L xs (v3 + (2 : Int32))) fun x1169 =>
  bd (scr L xs (v3 + (3 : Int32))) fun x1174 =>
  bd (scr L xs (v3 + (4 : Int32))) fun x1179 =>
  bd (scr L xs (v3 + (5 : Int32))) fun x1184 =>
  bd (vc 10 v1 (fun o => pX10_wear o x1164 x1169 x1174 x1179 x1184)) fun x1185 =>
  bd (scr L xs (v3 + (1 : Int32))) fun x1193 =>
  bd (scr L xs (v3 + (2 : Int32))) fun x1198 =>
  bd (scr L xs (v3 + (3 : Int32))) fun x1203 =>
  bd (scr L xs (v3 + (4 : Int32))) fun x1208 =>
  bd (scr L xs (v3 + (5 : Int32))) fun x1213 =>
  bd (vc 11 v2 (fun o => pX11_wear o x1193 x1198 x1203 x1208 x1213)) fun x1214 =>
  if x1185 = x1214 then
    k18 v1 v2 ((v3 + (8 : Int32)))
  else
    rnZ (0 : Int32)
def bL_law_1106 (L : Nat) (xs : Nat → Int32) (k18 : Option Nat → Option Nat → Int32 → Mo Int32) (v1 : Option Nat) (v2 : Option Nat) (v3 : Int32) : Mo Int32 :=
  bd (scr L xs (v3 + (1 : Int32))) fun x1111 =>
  bd (scr L xs (v3 + (2 : Int32))) fun x1116 =>
  bd (scr L xs (v3 + (3 : Int32))) fun x1121 =>
  bd (scr L xs (v3 + (4 : Int32))) fun x1126 =>
  bd (vc 10 v1 (fun o => pX10_why o x1111 x1116 x1121 x1126)) fun x1127 =>
  bd (scr L xs (v3 + (1 : Int32))) fun x1135 =>
  bd (scr L xs (v3 + (2 : Int32))) fun x1140 =>
  bd (scr L xs (v3 + (3 : Int32))) fun x1145 =>
  bd (scr L xs (v3 + (4 : Int32))) fun x1150 =>
  bd (vc 11 v2 (fun o => pX11_why o x1135 x1140 x1145 x1150)) fun x1151 =>
  if x1127 = x1151 then
    k18 v1 v2 ((v3 + (8 : Int32)))
  else
    rnZ (0 : Int32)
def bL_law_1043 (L : Nat) (xs : Nat → Int32) (k18 : Option Nat → Option Nat → Int32 → Mo Int32) (v1 : Option Nat) (v2 : Option Nat) (v3 : Int32) : Mo Int32 :=
  bd (scr L xs (v3 + (1 : Int32))) fun x1048 =>
  bd (scr L xs (v3 + (2 : Int32))) fun x1053 =>
  bd (scr L xs (v3 + (3 : Int32))) fun x1058 =>
  bd (scr L xs (v3 + (4 : Int32))) fun x1063 =>
  bd (scr L xs (v3 + (5 : Int32))) fun x1068 =>
  bd (vc 10 v1 (fun o => pX10_route o x1048 x1053 x1058 x1063 x1068)) fun x1069 =>
  bd (scr L xs (v3 + (1 : Int32))) fun x1077 =>
  bd (scr L xs (v3 + (2 : Int32))) fun x1082 =>
  bd (scr L xs (v3 + (3 : Int32))) fun x1087 =>
  bd (scr L xs (v3 + (4 : Int32))) fun x1092 =>
  bd (scr L xs (v3 + (5 : Int32))) fun x1097 =>
  bd (vc 11 v2 (fun o => pX11_route o x1077 x1082 x1087 x1092 x1097)) fun x1098 =>
  if x1069 = x1098 then
    k18 v1 v2 ((v3 + (8 : Int32)))
  else
    rnZ (0 : Int32)
def bL_law_990 (L : Nat) (xs : Nat → Int32) (k18 : Option Nat → Option Nat → Int32 → Mo Int32) (v1 : Option Nat) (v2 : Option Nat) (v3 : Int32) : Mo Int32 :=
  bd (scr L xs (v3 + (1 : Int32))) fun x995 =>
  bd (scr L xs (v3 + (2 : Int32))) fun x1000 =>
  bd (scr L xs (v3 + (3 : Int32))) fun x1005 =>
  bd (scr L xs (v3 + (4 : Int32))) fun x1010 =>
  bd (vc 10 v1 (fun o => pX10_road o x995 x1000 x1005 x1010)) fun x1011 =>
  bd (scr L xs (v3 + (1 : Int32))) fun x1019 =>
  bd (scr L xs (v3 + (2 : Int32))) fun x1024 =>
  bd (scr L xs (v3 + (3 : Int32))) fun x1029 =>
  bd (scr L xs (v3 + (4 : Int32))) fun x1034 =>
  bd (vc 11 v2 (fun o => pX11_road o x1019 x1024 x1029 x1034)) fun x1035 =>
  if x1011 = x1035 then
    k18 v1 v2 ((v3 + (8 : Int32)))
  else
    rnZ (0 : Int32)
def bL_law_947 (L : Nat) (xs : Nat → Int32) (k18 : Option Nat → Option Nat → Int32 → Mo Int32) (v1 : Option Nat) (v2 : Option Nat) (v3 : Int32) : Mo Int32 :=
  bd (scr L xs (v3 + (1 : Int32))) fun x952 =>
  bd (scr L xs (v3 + (2 : Int32))) fun x957 =>
  bd (scr L xs (v3 + (3 : Int32))) fun x962 =>
  bd (vc 10 v1 (fun o => pX10_spread o x952 x957 x962)) fun x963 =>
  bd (scr L xs (v3 + (1 : Int32))) fun x971 =>
  bd (scr L xs (v3 + (2 : Int32))) fun x976 =>
  bd (scr L xs (v3 + (3 : Int32))) fun x981 =>
  bd (vc 11 v2 (fun o => pX11_spread o x971 x976 x981)) fun x982 =>
  if x963 = x982 then
    k18 v1 v2 ((v3 + (8 : Int32)))
  else
    rnZ (0 : Int32)
def bL_law_914 (L : Nat) (xs : Nat → Int32) (k18 : Option Nat → Option Nat → Int32 → Mo Int32) (v1 : Option Nat) (v2 : Option Nat) (v3 : Int32) : Mo Int32 :=
  bd (scr L xs (v3 + (1 : Int32))) fun x919 =>
  bd (scr L xs (v3 + (2 : Int32))) fun x924 =>
  bd (vc 10 v1 (fun o => pX10_posted o x919 x924)) fun x925 =>
  bd (scr L xs (v3 + (1 : Int32))) fun x933 =>
  bd (scr L xs (v3 + (2 : Int32))) fun x938 =>
  bd (vc 11 v2 (fun o => pX11_posted o x933 x938)) fun x939 =>
  if x925 = x939 then
    k18 v1 v2 ((v3 + (8 : Int32)))
  else
    rnZ (0 : Int32)
def bL_law_871 (L : Nat) (xs : Nat → Int32) (k18 : Option Nat → Option Nat → Int32 → Mo Int32) (v1 : Option Nat) (v2 : Option Nat) (v3 : Int32) : Mo Int32 :=
  bd (scr L xs (v3 + (1 : Int32))) fun x876 =>
  bd (scr L xs (v3 + (2 : Int32))) fun x881 =>
  bd (scr L xs (v3 + (3 : Int32))) fun x886 =>
  bd (vc 10 v1 (fun o => pX10_fails o x876 x881 x886)) fun x887 =>
  bd (scr L xs (v3 + (1 : Int32))) fun x895 =>
  bd (scr L xs (v3 + (2 : Int32))) fun x900 =>
  bd (scr L xs (v3 + (3 : Int32))) fun x905 =>
  bd (vc 11 v2 (fun o => pX11_fails o x895 x900 x905)) fun x906 =>
  if x887 = x906 then
    k18 v1 v2 ((v3 + (8 : Int32)))
  else
    rnZ (0 : Int32)
def bL_law_795 (L : Nat) (xs : Nat → Int32) (k18 : Option Nat → Option Nat → Int32 → Mo Int32) (v1 : Option Nat) (v2 : Option Nat) (v3 : Int32) : Mo Int32 :=
  bd (scr L xs (v3 + (1 : Int32))) fun x800 =>
  bd (scr L xs (v3 + (2 : Int32))) fun x805 =>
  bd (scr L xs (v3 + (3 : Int32))) fun x810 =>
  bd (scr L xs (v3 + (4 : Int32))) fun x815 =>
  bd (scr L xs (v3 + (5 : Int32))) fun x820 =>
  bd (scr L xs (v3 + (6 : Int32))) fun x826 =>
  bd (vc 10 v1 (fun o => pX10_total o x800 x805 x810 x815 x820 x826)) fun x827 =>
  bd (scr L xs (v3 + (1 : Int32))) fun x835 =>
  bd (scr L xs (v3 + (2 : Int32))) fun x840 =>
  bd (scr L xs (v3 + (3 : Int32))) fun x845 =>
  bd (scr L xs (v3 + (4 : Int32))) fun x850 =>
  bd (scr L xs (v3 + (5 : Int32))) fun x855 =>
  bd (scr L xs (v3 + (6 : Int32))) fun x861 =>
  bd (vc 11 v2 (fun o => pX11_total o x835 x840 x845 x850 x855 x861)) fun x862 =>
  if x827 = x862 then
    k18 v1 v2 ((v3 + (8 : Int32)))
  else
    rnZ (0 : Int32)
def bL_law_772 (L : Nat) (xs : Nat → Int32) (k18 : Option Nat → Option Nat → Int32 → Mo Int32) (v1 : Option Nat) (v2 : Option Nat) (v3 : Int32) : Mo Int32 :=
  bd (scr L xs (v3 + (1 : Int32))) fun x777 =>
  bd (vc 10 v1 (fun o => pX10_usual o x777)) fun x778 =>
  bd (scr L xs (v3 + (1 : Int32))) fun x786 =>
  bd (vc 11 v2 (fun o => pX11_usual o x786)) fun x787 =>
  if x778 = x787 then
    k18 v1 v2 ((v3 + (8 : Int32)))
  else
    rnZ (0 : Int32)
def bL_law_719 (L : Nat) (xs : Nat → Int32) (k18 : Option Nat → Option Nat → Int32 → Mo Int32) (v1 : Option Nat) (v2 : Option Nat) (v3 : Int32) : Mo Int32 :=
  bd (scr L xs (v3 + (1 : Int32))) fun x724 =>
  bd (scr L xs (v3 + (2 : Int32))) fun x729 =>
  bd (scr L xs (v3 + (3 : Int32))) fun x734 =>
  bd (scr L xs (v3 + (4 : Int32))) fun x739 =>
  bd (vc 10 v1 (fun o => pX10_limit o x724 x729 x734 x739)) fun x740 =>
  bd (scr L xs (v3 + (1 : Int32))) fun x748 =>
  bd (scr L xs (v3 + (2 : Int32))) fun x753 =>
  bd (scr L xs (v3 + (3 : Int32))) fun x758 =>
  bd (scr L xs (v3 + (4 : Int32))) fun x763 =>
  bd (vc 11 v2 (fun o => pX11_limit o x748 x753 x758 x763)) fun x764 =>
  if x740 = x764 then
    k18 v1 v2 ((v3 + (8 : Int32)))
  else
    rnZ (0 : Int32)
def bL_law_656 (L : Nat) (xs : Nat → Int32) (k18 : Option Nat → Option Nat → Int32 → Mo Int32) (v1 : Option Nat) (v2 : Option Nat) (v3 : Int32) : Mo Int32 :=
  bd (scr L xs (v3 + (1 : Int32))) fun x661 =>
  bd (scr L xs (v3 + (2 : Int32))) fun x666 =>
  bd (scr L xs (v3 + (3 : Int32))) fun x671 =>
  bd (scr L xs (v3 + (4 : Int32))) fun x676 =>
  bd (scr L xs (v3 + (5 : Int32))) fun x681 =>
  bd (vc 10 v1 (fun o => pX10_check o x661 x666 x671 x676 x681)) fun x682 =>
  bd (scr L xs (v3 + (1 : Int32))) fun x690 =>
  bd (scr L xs (v3 + (2 : Int32))) fun x695 =>
  bd (scr L xs (v3 + (3 : Int32))) fun x700 =>
  bd (scr L xs (v3 + (4 : Int32))) fun x705 =>
  bd (scr L xs (v3 + (5 : Int32))) fun x710 =>
  bd (vc 11 v2 (fun o => pX11_check o x690 x695 x700 x705 x710)) fun x711 =>
  if x682 = x711 then
    k18 v1 v2 ((v3 + (8 : Int32)))
  else
    rnZ (0 : Int32)
def bL_law_580 (L : Nat) (xs : Nat → Int32) (k18 : Option Nat → Option Nat → Int32 → Mo Int32) (v1 : Option Nat) (v2 : Option Nat) (v3 : Int32) : Mo Int32 :=
  bd (scr L xs (v3 + (1 : Int32))) fun x585 =>
  bd (scr L xs (v3 + (2 : Int32))) fun x590 =>
  bd (scr L xs (v3 + (3 : Int32))) fun x595 =>
  bd (scr L xs (v3 + (4 : Int32))) fun x600 =>
  bd (scr L xs (v3 + (5 : Int32))) fun x605 =>
  bd (scr L xs (v3 + (6 : Int32))) fun x611 =>
  bd (vc 10 v1 (fun o => pX10_worst o x585 x590 x595 x600 x605 x611)) fun x612 =>
  bd (scr L xs (v3 + (1 : Int32))) fun x620 =>
  bd (scr L xs (v3 + (2 : Int32))) fun x625 =>
  bd (scr L xs (v3 + (3 : Int32))) fun x630 =>
  bd (scr L xs (v3 + (4 : Int32))) fun x635 =>
  bd (scr L xs (v3 + (5 : Int32))) fun x640 =>
  bd (scr L xs (v3 + (6 : Int32))) fun x646 =>
  bd (vc 11 v2 (fun o => pX11_worst o x620 x625 x630 x635 x640 x646)) fun x647 =>
  if x612 = x647 then
    k18 v1 v2 ((v3 + (8 : Int32)))
  else
    rnZ (0 : Int32)
def bL_law_492 (L : Nat) (xs : Nat → Int32) (k18 : Option Nat → Option Nat → Int32 → Mo Int32) (v1 : Option Nat) (v2 : Option Nat) (v3 : Int32) : Mo Int32 :=
  bd (scr L xs (v3 + (1 : Int32))) fun x497 =>
  bd (scr L xs (v3 + (2 : Int32))) fun x502 =>
  bd (scr L xs (v3 + (3 : Int32))) fun x507 =>
  bd (scr L xs (v3 + (4 : Int32))) fun x512 =>
  bd (scr L xs (v3 + (5 : Int32))) fun x517 =>
  bd (scr L xs (v3 + (6 : Int32))) fun x523 =>
  bd (scr L xs (v3 + (7 : Int32))) fun x529 =>
  bd (vc 10 v1 (fun o => pX10_effect o x497 x502 x507 x512 x517 x523 x529)) fun x530 =>
  bd (scr L xs (v3 + (1 : Int32))) fun x538 =>
  bd (scr L xs (v3 + (2 : Int32))) fun x543 =>
  bd (scr L xs (v3 + (3 : Int32))) fun x548 =>
  bd (scr L xs (v3 + (4 : Int32))) fun x553 =>
  bd (scr L xs (v3 + (5 : Int32))) fun x558 =>
  bd (scr L xs (v3 + (6 : Int32))) fun x564 =>
  bd (scr L xs (v3 + (7 : Int32))) fun x570 =>
  bd (vc 11 v2 (fun o => pX11_effect o x538 x543 x548 x553 x558 x564 x570)) fun x571 =>
  if x530 = x571 then
    k18 v1 v2 ((v3 + (8 : Int32)))
  else
    rnZ (0 : Int32)
def bL_law_449 (L : Nat) (xs : Nat → Int32) (k18 : Option Nat → Option Nat → Int32 → Mo Int32) (v1 : Option Nat) (v2 : Option Nat) (v3 : Int32) : Mo Int32 :=
  bd (scr L xs (v3 + (1 : Int32))) fun x454 =>
  bd (scr L xs (v3 + (2 : Int32))) fun x459 =>
  bd (scr L xs (v3 + (3 : Int32))) fun x464 =>
  bd (vc 10 v1 (fun o => pX10_axles o x454 x459 x464)) fun x465 =>
  bd (scr L xs (v3 + (1 : Int32))) fun x473 =>
  bd (scr L xs (v3 + (2 : Int32))) fun x478 =>
  bd (scr L xs (v3 + (3 : Int32))) fun x483 =>
  bd (vc 11 v2 (fun o => pX11_axles o x473 x478 x483)) fun x484 =>
  if x465 = x484 then
    k18 v1 v2 ((v3 + (8 : Int32)))
  else
    rnZ (0 : Int32)
def bL_law_406 (L : Nat) (xs : Nat → Int32) (k18 : Option Nat → Option Nat → Int32 → Mo Int32) (v1 : Option Nat) (v2 : Option Nat) (v3 : Int32) : Mo Int32 :=
  bd (scr L xs (v3 + (1 : Int32))) fun x411 =>
  bd (scr L xs (v3 + (2 : Int32))) fun x416 =>
  bd (scr L xs (v3 + (3 : Int32))) fun x421 =>
  bd (vc 10 v1 (fun o => pX10_axle o x411 x416 x421)) fun x422 =>
  bd (scr L xs (v3 + (1 : Int32))) fun x430 =>
  bd (scr L xs (v3 + (2 : Int32))) fun x435 =>
  bd (scr L xs (v3 + (3 : Int32))) fun x440 =>
  bd (vc 11 v2 (fun o => pX11_axle o x430 x435 x440)) fun x441 =>
  if x422 = x441 then
    k18 v1 v2 ((v3 + (8 : Int32)))
  else
    rnZ (0 : Int32)
def bL_law_383 (L : Nat) (xs : Nat → Int32) (k18 : Option Nat → Option Nat → Int32 → Mo Int32) (v1 : Option Nat) (v2 : Option Nat) (v3 : Int32) : Mo Int32 :=
  bd (scr L xs (v3 + (1 : Int32))) fun x388 =>
  bd (vc 10 v1 (fun o => pX10_train o x388)) fun x389 =>
  bd (scr L xs (v3 + (1 : Int32))) fun x397 =>
  bd (vc 11 v2 (fun o => pX11_train o x397)) fun x398 =>
  if x389 = x398 then
    k18 v1 v2 ((v3 + (8 : Int32)))
  else
    rnZ (0 : Int32)
def bL_law_340 (L : Nat) (xs : Nat → Int32) (k18 : Option Nat → Option Nat → Int32 → Mo Int32) (v1 : Option Nat) (v2 : Option Nat) (v3 : Int32) : Mo Int32 :=
  bd (scr L xs (v3 + (1 : Int32))) fun x345 =>
  bd (scr L xs (v3 + (2 : Int32))) fun x350 =>
  bd (scr L xs (v3 + (3 : Int32))) fun x355 =>
  bd (vc 10 v1 (fun o => pX10_rule o x345 x350 x355)) fun x356 =>
  bd (scr L xs (v3 + (1 : Int32))) fun x364 =>
  bd (scr L xs (v3 + (2 : Int32))) fun x369 =>
  bd (scr L xs (v3 + (3 : Int32))) fun x374 =>
  bd (vc 11 v2 (fun o => pX11_rule o x364 x369 x374)) fun x375 =>
  if x356 = x375 then
    k18 v1 v2 ((v3 + (8 : Int32)))
  else
    rnZ (0 : Int32)
def bL_law_276 (L : Nat) (xs : Nat → Int32) (k18 : Option Nat → Option Nat → Int32 → Mo Int32) (v1 : Option Nat) (v2 : Option Nat) (v3 : Int32) : Mo Int32 :=
  bd (scr L xs (v3 + (1 : Int32))) fun x281 =>
  bd (scr L xs (v3 + (2 : Int32))) fun x286 =>
  bd (scr L xs (v3 + (3 : Int32))) fun x291 =>
  bd (scr L xs (v3 + (4 : Int32))) fun x296 =>
  bd (scr L xs (v3 + (5 : Int32))) fun x301 =>
  bd (vc 10 v1 (fun o => pX10_influence o x281 x286 x291 x296 x301)) fun x302 =>
  bd (scr L xs (v3 + (1 : Int32))) fun x310 =>
  bd (scr L xs (v3 + (2 : Int32))) fun x315 =>
  bd (scr L xs (v3 + (3 : Int32))) fun x320 =>
  bd (scr L xs (v3 + (4 : Int32))) fun x325 =>
  bd (scr L xs (v3 + (5 : Int32))) fun x330 =>
  bd (vc 11 v2 (fun o => pX11_influence o x310 x315 x320 x325 x330)) fun x331 =>
  if x302 = x331 then
    k18 v1 v2 ((v3 + (8 : Int32)))
  else
    rnZ (0 : Int32)
def bL_law_243 (L : Nat) (xs : Nat → Int32) (k18 : Option Nat → Option Nat → Int32 → Mo Int32) (v1 : Option Nat) (v2 : Option Nat) (v3 : Int32) : Mo Int32 :=
  bd (scr L xs (v3 + (1 : Int32))) fun x248 =>
  bd (scr L xs (v3 + (2 : Int32))) fun x253 =>
  bd (vc 10 v1 (fun o => pX10_told o x248 x253)) fun x254 =>
  bd (scr L xs (v3 + (1 : Int32))) fun x262 =>
  bd (scr L xs (v3 + (2 : Int32))) fun x267 =>
  bd (vc 11 v2 (fun o => pX11_told o x262 x267)) fun x268 =>
  if x254 = x268 then
    k18 v1 v2 ((v3 + (8 : Int32)))
  else
    rnZ (0 : Int32)
def bL_law_140 (L : Nat) (xs : Nat → Int32) (k18 : Option Nat → Option Nat → Int32 → Mo Int32) (v1 : Option Nat) (v2 : Option Nat) (v3 : Int32) : Mo Int32 :=
  bd (scr L xs (v3 + (1 : Int32))) fun x145 =>
  bd (scr L xs (v3 + (2 : Int32))) fun x150 =>
  bd (scr L xs (v3 + (3 : Int32))) fun x159 =>
  bd (scr L xs (v3 + (4 : Int32))) fun x170 =>
  bd (scr L xs (v3 + (5 : Int32))) fun x179 =>
  bd (vc 10 v1 (fun o => pX10_bridge o x145 ((slL (Int32.toInt64 x150) (32 : Int32)) ||| ((Int32.toInt64 x159) &&& (4294967295 : Int64))) ((slL (Int32.toInt64 x170) (32 : Int32)) ||| ((Int32.toInt64 x179) &&& (4294967295 : Int64))))) fun x186 =>
  bd (scr L xs (v3 + (1 : Int32))) fun x194 =>
  bd (scr L xs (v3 + (2 : Int32))) fun x199 =>
  bd (scr L xs (v3 + (3 : Int32))) fun x208 =>
  bd (scr L xs (v3 + (4 : Int32))) fun x219 =>
  bd (scr L xs (v3 + (5 : Int32))) fun x228 =>
  bd (vc 11 v2 (fun o => pX11_bridge o x194 ((slL (Int32.toInt64 x199) (32 : Int32)) ||| ((Int32.toInt64 x208) &&& (4294967295 : Int64))) ((slL (Int32.toInt64 x219) (32 : Int32)) ||| ((Int32.toInt64 x228) &&& (4294967295 : Int64))))) fun x235 =>
  if x186 = x235 then
    k18 v1 v2 ((v3 + (8 : Int32)))
  else
    rnZ (0 : Int32)
def bL_law_18 (L : Nat) (xs : Nat → Int32) (k18 : Option Nat → Option Nat → Int32 → Mo Int32) (v1 : Option Nat) (v2 : Option Nat) (v3 : Int32) : Mo Int32 :=
  if ((Int32.ofNat L) - (8 : Int32)) < v3 then
    rnZ (1 : Int32)
  else
    bd (scr L xs v3) fun x29 =>
    swt (x29 &&& (31 : Int32)) [
      (
       bL_law_140 L xs k18 v1 v2 v3
      ),
      (
       bL_law_243 L xs k18 v1 v2 v3
      ),
      (
       bL_law_276 L xs k18 v1 v2 v3
      ),
      (
       bL_law_340 L xs k18 v1 v2 v3
      ),
      (
       bL_law_383 L xs k18 v1 v2 v3
      ),
      (
       bL_law_406 L xs k18 v1 v2 v3
      ),
      (
       bL_law_449 L xs k18 v1 v2 v3
      ),
      (
       bL_law_492 L xs k18 v1 v2 v3
      ),
      (
       bL_law_580 L xs k18 v1 v2 v3
      ),
      (
       bL_law_656 L xs k18 v1 v2 v3
      ),
      (
       bL_law_719 L xs k18 v1 v2 v3
      ),
      (
       bL_law_772 L xs k18 v1 v2 v3
      ),
      (
       bL_law_795 L xs k18 v1 v2 v3
      ),
      (
       bL_law_871 L xs k18 v1 v2 v3
      ),
      (
       bL_law_914 L xs k18 v1 v2 v3
      ),
      (
       bL_law_947 L xs k18 v1 v2 v3
      ),
      (
       bL_law_990 L xs k18 v1 v2 v3
      ),
      (
       bL_law_1043 L xs k18 v1 v2 v3
      ),
      (
       bL_law_1106 L xs k18 v1 v2 v3
      ),
      (
       bL_law_1159 L xs k18 v1 v2 v3
      ),
      (
       bL_law_1223 L xs k18 v1 v2 v3
      ),
      (
       bL_law_1256 L xs k18 v1 v2 v3
      ),
      (
       bL_law_1300 L xs k18 v1 v2 v3
      )
     ] (
       k18 v1 v2 ((v3 + (8 : Int32)))
      )
def fL_law_18 (L : Nat) (xs : Nat → Int32)  : Nat → Option Nat → Option Nat → Int32 → Mo Int32
  | 0 => fun _ _ _ => fl
  | n + 1 => bL_law_18 L xs (fL_law_18 L xs  n)
def pL_law (L : Nat) (xs : Nat → Int32)  : Mo Int32 :=
  bd (nwO 10 [vr none, vi 0, vr none, vi 0, vi 0, vr none, vr none, vr none, vr none, vr none, vr none, vr none, vr none, vr none]) fun x0 =>
  bd (vn x0 (fun o => pX10_init o )) fun _ =>
  bd (nwO 11 [vi 0, vr none, vr none, vr none, vr none, vr none, vr none, vr none, vr none, vr none, vr none, vr none, vi 0, vr none, vr none, vr none, vr none, vi 0, vi 0, vi 0, vi 0, vi 0, vi 0, vr none, vr none, vr none, vr none, vr none, vi 0, vr none, vr none, vr none, vr none, vr none, vr none, vr none, vr none, vr none, vi 0, vi 0, vi 0]) fun x8 =>
  bd (vn x8 (fun o => pX11_init o )) fun _ =>
  fL_law_18 L xs  FU x0 x8 ((0 : Int32))
set_option maxRecDepth 20000 in
theorem abL_law_1300 {C : Cx} {res : Int32 × Hp} {b L : Nat} {xs : Nat → Int32} (hX : va_X b L xs C.s C.s.heap) (hbl : b < C.s.heap.size) (hbA : ¬ C.A b) {k18 : Option Nat → Option Nat → Int32 → Mo Int32} (h18 : ∀ (v1 : Option Nat) (v2 : Option Nat) (v3 : Int32), AW C cL_law mL_law qI res 18 [vr (some b), vr v1, vr v2, vi v3] [] (k18 v1 v2 v3)) : ∀ (v1 : Option Nat) (v2 : Option Nat) (v3 : Int32), AW C cL_law mL_law qI res 1300 [vr (some b), vr v1, vr v2, vi v3] [] (bL_law_1300 L xs k18 v1 v2 v3) := by
  intro v1 v2 v3
  refine aw_aload_n dL_law_1300 rfl ?_
  refine aw_aload_n dL_law_1301 rfl ?_
  refine aw_iload_n dL_law_1302 rfl ?_
  refine aw_iconst (1 : Int32) dL_law_1303 rfl ?_
  refine aw_iadd dL_law_1304 ?_
  refine aw_scr hX hbl hbA dL_law_1305 (fun x1305 => ?_)
  refine aw_cV1 puI dL_law_1306 (fun o => ctX10_count o _) mcX10_count ml_L_113 rfl rfl msX10_count rfl (by decide) (Nat.le_of_ble_eq_true rfl) (fun x1306 => ?_)
  refine aw_aload_n dL_law_1309 rfl ?_
  refine aw_aload_n dL_law_1310 rfl ?_
  refine aw_iload_n dL_law_1311 rfl ?_
  refine aw_iconst (1 : Int32) dL_law_1312 rfl ?_
  refine aw_iadd dL_law_1313 ?_
  refine aw_scr hX hbl hbA dL_law_1314 (fun x1314 => ?_)
  refine aw_cV1 puI dL_law_1315 (fun o => ctX11_count o _) mcX11_count ml_L_116 rfl rfl msX11_count rfl (by decide) (Nat.le_of_ble_eq_true rfl) (fun x1315 => ?_)
  refine aw_icmp_eq 1323 dL_law_1318 (by decide) ?_ ?_
  · refine aw_iinc (v3 + (8 : Int32)) dL_law_1323 rfl rfl (by decide) ?_
    refine aw_goto 18 dL_law_1326 (by decide) ?_
    refine aw_msk [true, true, true, true] ?_
    exact h18 v1 v2 ((v3 + (8 : Int32)))
  · refine aw_iconst (0 : Int32) dL_law_1321 rfl ?_
    exact aw_zret dL_law_1322 rfl
set_option maxRecDepth 20000 in
theorem abL_law_1256 {C : Cx} {res : Int32 × Hp} {b L : Nat} {xs : Nat → Int32} (hX : va_X b L xs C.s C.s.heap) (hbl : b < C.s.heap.size) (hbA : ¬ C.A b) {k18 : Option Nat → Option Nat → Int32 → Mo Int32} (h18 : ∀ (v1 : Option Nat) (v2 : Option Nat) (v3 : Int32), AW C cL_law mL_law qI res 18 [vr (some b), vr v1, vr v2, vi v3] [] (k18 v1 v2 v3)) : ∀ (v1 : Option Nat) (v2 : Option Nat) (v3 : Int32), AW C cL_law mL_law qI res 1256 [vr (some b), vr v1, vr v2, vi v3] [] (bL_law_1256 L xs k18 v1 v2 v3) := by
  intro v1 v2 v3
  refine aw_aload_n dL_law_1256 rfl ?_
  refine aw_aload_n dL_law_1257 rfl ?_
  refine aw_iload_n dL_law_1258 rfl ?_
  refine aw_iconst (1 : Int32) dL_law_1259 rfl ?_
  refine aw_iadd dL_law_1260 ?_
  refine aw_scr hX hbl hbA dL_law_1261 (fun x1261 => ?_)
  refine aw_aload_n dL_law_1262 rfl ?_
  refine aw_iload_n dL_law_1263 rfl ?_
  refine aw_iconst (2 : Int32) dL_law_1264 rfl ?_
  refine aw_iadd dL_law_1265 ?_
  refine aw_scr hX hbl hbA dL_law_1266 (fun x1266 => ?_)
  refine aw_aload_n dL_law_1267 rfl ?_
  refine aw_iload_n dL_law_1268 rfl ?_
  refine aw_iconst (3 : Int32) dL_law_1269 rfl ?_
  refine aw_iadd dL_law_1270 ?_
  refine aw_scr hX hbl hbA dL_law_1271 (fun x1271 => ?_)
  refine aw_cV3 puL dL_law_1272 (fun o => ctX10_worn o _ _ _) mcX10_worn ml_L_108 rfl rfl msX10_worn rfl (by decide) (Nat.le_of_ble_eq_true rfl) (fun x1272 => ?_)
  refine aw_aload_n dL_law_1275 rfl ?_
  refine aw_aload_n dL_law_1276 rfl ?_
  refine aw_iload_n dL_law_1277 rfl ?_
  refine aw_iconst (1 : Int32) dL_law_1278 rfl ?_
  refine aw_iadd dL_law_1279 ?_
  refine aw_scr hX hbl hbA dL_law_1280 (fun x1280 => ?_)
  refine aw_aload_n dL_law_1281 rfl ?_
  refine aw_iload_n dL_law_1282 rfl ?_
  refine aw_iconst (2 : Int32) dL_law_1283 rfl ?_
  refine aw_iadd dL_law_1284 ?_
  refine aw_scr hX hbl hbA dL_law_1285 (fun x1285 => ?_)
  refine aw_aload_n dL_law_1286 rfl ?_
  refine aw_iload_n dL_law_1287 rfl ?_
  refine aw_iconst (3 : Int32) dL_law_1288 rfl ?_
  refine aw_iadd dL_law_1289 ?_
  refine aw_scr hX hbl hbA dL_law_1290 (fun x1290 => ?_)
  refine aw_cV3 puL dL_law_1291 (fun o => ctX11_worn o _ _ _) mcX11_worn ml_L_112 rfl rfl msX11_worn rfl (by decide) (Nat.le_of_ble_eq_true rfl) (fun x1291 => ?_)
  refine aw_leq 1323 dL_law_1294 dL_law_1295 (by decide) ?_ ?_
  · refine aw_iinc (v3 + (8 : Int32)) dL_law_1323 rfl rfl (by decide) ?_
    refine aw_goto 18 dL_law_1326 (by decide) ?_
    refine aw_msk [true, true, true, true] ?_
    exact h18 v1 v2 ((v3 + (8 : Int32)))
  · refine aw_iconst (0 : Int32) dL_law_1298 rfl ?_
    exact aw_zret dL_law_1299 rfl
set_option maxRecDepth 20000 in
theorem abL_law_1223 {C : Cx} {res : Int32 × Hp} {b L : Nat} {xs : Nat → Int32} (hX : va_X b L xs C.s C.s.heap) (hbl : b < C.s.heap.size) (hbA : ¬ C.A b) {k18 : Option Nat → Option Nat → Int32 → Mo Int32} (h18 : ∀ (v1 : Option Nat) (v2 : Option Nat) (v3 : Int32), AW C cL_law mL_law qI res 18 [vr (some b), vr v1, vr v2, vi v3] [] (k18 v1 v2 v3)) : ∀ (v1 : Option Nat) (v2 : Option Nat) (v3 : Int32), AW C cL_law mL_law qI res 1223 [vr (some b), vr v1, vr v2, vi v3] [] (bL_law_1223 L xs k18 v1 v2 v3) := by
  intro v1 v2 v3
  refine aw_aload_n dL_law_1223 rfl ?_
  refine aw_aload_n dL_law_1224 rfl ?_
  refine aw_iload_n dL_law_1225 rfl ?_
  refine aw_iconst (1 : Int32) dL_law_1226 rfl ?_
  refine aw_iadd dL_law_1227 ?_
  refine aw_scr hX hbl hbA dL_law_1228 (fun x1228 => ?_)
  refine aw_aload_n dL_law_1229 rfl ?_
  refine aw_iload_n dL_law_1230 rfl ?_
  refine aw_iconst (2 : Int32) dL_law_1231 rfl ?_
  refine aw_iadd dL_law_1232 ?_
  refine aw_scr hX hbl hbA dL_law_1233 (fun x1233 => ?_)
  refine aw_cV2 puI dL_law_1234 (fun o => ctX10_traffic o _ _) mcX10_traffic ml_L_104 rfl rfl msX10_traffic rfl (by decide) (Nat.le_of_ble_eq_true rfl) (fun x1234 => ?_)
  refine aw_aload_n dL_law_1237 rfl ?_
  refine aw_aload_n dL_law_1238 rfl ?_
  refine aw_iload_n dL_law_1239 rfl ?_
  refine aw_iconst (1 : Int32) dL_law_1240 rfl ?_
  refine aw_iadd dL_law_1241 ?_
  refine aw_scr hX hbl hbA dL_law_1242 (fun x1242 => ?_)
  refine aw_aload_n dL_law_1243 rfl ?_
  refine aw_iload_n dL_law_1244 rfl ?_
  refine aw_iconst (2 : Int32) dL_law_1245 rfl ?_
  refine aw_iadd dL_law_1246 ?_
  refine aw_scr hX hbl hbA dL_law_1247 (fun x1247 => ?_)
  refine aw_cV2 puI dL_law_1248 (fun o => ctX11_traffic o _ _) mcX11_traffic ml_L_107 rfl rfl msX11_traffic rfl (by decide) (Nat.le_of_ble_eq_true rfl) (fun x1248 => ?_)
  refine aw_icmp_eq 1323 dL_law_1251 (by decide) ?_ ?_
  · refine aw_iinc (v3 + (8 : Int32)) dL_law_1323 rfl rfl (by decide) ?_
    refine aw_goto 18 dL_law_1326 (by decide) ?_
    refine aw_msk [true, true, true, true] ?_
    exact h18 v1 v2 ((v3 + (8 : Int32)))
  · refine aw_iconst (0 : Int32) dL_law_1254 rfl ?_
    exact aw_zret dL_law_1255 rfl
set_option maxRecDepth 20000 in
theorem abL_law_1159 {C : Cx} {res : Int32 × Hp} {b L : Nat} {xs : Nat → Int32} (hX : va_X b L xs C.s C.s.heap) (hbl : b < C.s.heap.size) (hbA : ¬ C.A b) {k18 : Option Nat → Option Nat → Int32 → Mo Int32} (h18 : ∀ (v1 : Option Nat) (v2 : Option Nat) (v3 : Int32), AW C cL_law mL_law qI res 18 [vr (some b), vr v1, vr v2, vi v3] [] (k18 v1 v2 v3)) : ∀ (v1 : Option Nat) (v2 : Option Nat) (v3 : Int32), AW C cL_law mL_law qI res 1159 [vr (some b), vr v1, vr v2, vi v3] [] (bL_law_1159 L xs k18 v1 v2 v3) := by
  intro v1 v2 v3
  refine aw_aload_n dL_law_1159 rfl ?_
  refine aw_aload_n dL_law_1160 rfl ?_
  refine aw_iload_n dL_law_1161 rfl ?_
  refine aw_iconst (1 : Int32) dL_law_1162 rfl ?_
  refine aw_iadd dL_law_1163 ?_
  refine aw_scr hX hbl hbA dL_law_1164 (fun x1164 => ?_)
  refine aw_aload_n dL_law_1165 rfl ?_
  refine aw_iload_n dL_law_1166 rfl ?_
  refine aw_iconst (2 : Int32) dL_law_1167 rfl ?_
  refine aw_iadd dL_law_1168 ?_
  refine aw_scr hX hbl hbA dL_law_1169 (fun x1169 => ?_)
  refine aw_aload_n dL_law_1170 rfl ?_
  refine aw_iload_n dL_law_1171 rfl ?_
  refine aw_iconst (3 : Int32) dL_law_1172 rfl ?_
  refine aw_iadd dL_law_1173 ?_
  refine aw_scr hX hbl hbA dL_law_1174 (fun x1174 => ?_)
  refine aw_aload_n dL_law_1175 rfl ?_
  refine aw_iload_n dL_law_1176 rfl ?_
  refine aw_iconst (4 : Int32) dL_law_1177 rfl ?_
  refine aw_iadd dL_law_1178 ?_
  refine aw_scr hX hbl hbA dL_law_1179 (fun x1179 => ?_)
  refine aw_aload_n dL_law_1180 rfl ?_
  refine aw_iload_n dL_law_1181 rfl ?_
  refine aw_iconst (5 : Int32) dL_law_1182 rfl ?_
  refine aw_iadd dL_law_1183 ?_
  refine aw_scr hX hbl hbA dL_law_1184 (fun x1184 => ?_)
  refine aw_cV5 puL dL_law_1185 (fun o => ctX10_wear o _ _ _ _ _) mcX10_wear ml_L_100 rfl rfl msX10_wear rfl (by decide) (Nat.le_of_ble_eq_true rfl) (fun x1185 => ?_)
  refine aw_aload_n dL_law_1188 rfl ?_
  refine aw_aload_n dL_law_1189 rfl ?_
  refine aw_iload_n dL_law_1190 rfl ?_
  refine aw_iconst (1 : Int32) dL_law_1191 rfl ?_
  refine aw_iadd dL_law_1192 ?_
  refine aw_scr hX hbl hbA dL_law_1193 (fun x1193 => ?_)
  refine aw_aload_n dL_law_1194 rfl ?_
  refine aw_iload_n dL_law_1195 rfl ?_
  refine aw_iconst (2 : Int32) dL_law_1196 rfl ?_
  refine aw_iadd dL_law_1197 ?_
  refine aw_scr hX hbl hbA dL_law_1198 (fun x1198 => ?_)
  refine aw_aload_n dL_law_1199 rfl ?_
  refine aw_iload_n dL_law_1200 rfl ?_
  refine aw_iconst (3 : Int32) dL_law_1201 rfl ?_
  refine aw_iadd dL_law_1202 ?_
  refine aw_scr hX hbl hbA dL_law_1203 (fun x1203 => ?_)
  refine aw_aload_n dL_law_1204 rfl ?_
  refine aw_iload_n dL_law_1205 rfl ?_
  refine aw_iconst (4 : Int32) dL_law_1206 rfl ?_
  refine aw_iadd dL_law_1207 ?_
  refine aw_scr hX hbl hbA dL_law_1208 (fun x1208 => ?_)
  refine aw_aload_n dL_law_1209 rfl ?_
  refine aw_iload_n dL_law_1210 rfl ?_
  refine aw_iconst (5 : Int32) dL_law_1211 rfl ?_
  refine aw_iadd dL_law_1212 ?_
  refine aw_scr hX hbl hbA dL_law_1213 (fun x1213 => ?_)
  refine aw_cV5 puL dL_law_1214 (fun o => ctX11_wear o _ _ _ _ _) mcX11_wear ml_L_103 rfl rfl msX11_wear rfl (by decide) (Nat.le_of_ble_eq_true rfl) (fun x1214 => ?_)
  refine aw_leq 1323 dL_law_1217 dL_law_1218 (by decide) ?_ ?_
  · refine aw_iinc (v3 + (8 : Int32)) dL_law_1323 rfl rfl (by decide) ?_
    refine aw_goto 18 dL_law_1326 (by decide) ?_
    refine aw_msk [true, true, true, true] ?_
    exact h18 v1 v2 ((v3 + (8 : Int32)))
  · refine aw_iconst (0 : Int32) dL_law_1221 rfl ?_
    exact aw_zret dL_law_1222 rfl
set_option maxRecDepth 20000 in
theorem abL_law_1106 {C : Cx} {res : Int32 × Hp} {b L : Nat} {xs : Nat → Int32} (hX : va_X b L xs C.s C.s.heap) (hbl : b < C.s.heap.size) (hbA : ¬ C.A b) {k18 : Option Nat → Option Nat → Int32 → Mo Int32} (h18 : ∀ (v1 : Option Nat) (v2 : Option Nat) (v3 : Int32), AW C cL_law mL_law qI res 18 [vr (some b), vr v1, vr v2, vi v3] [] (k18 v1 v2 v3)) : ∀ (v1 : Option Nat) (v2 : Option Nat) (v3 : Int32), AW C cL_law mL_law qI res 1106 [vr (some b), vr v1, vr v2, vi v3] [] (bL_law_1106 L xs k18 v1 v2 v3) := by
  intro v1 v2 v3
  refine aw_aload_n dL_law_1106 rfl ?_
  refine aw_aload_n dL_law_1107 rfl ?_
  refine aw_iload_n dL_law_1108 rfl ?_
  refine aw_iconst (1 : Int32) dL_law_1109 rfl ?_
  refine aw_iadd dL_law_1110 ?_
  refine aw_scr hX hbl hbA dL_law_1111 (fun x1111 => ?_)
  refine aw_aload_n dL_law_1112 rfl ?_
  refine aw_iload_n dL_law_1113 rfl ?_
  refine aw_iconst (2 : Int32) dL_law_1114 rfl ?_
  refine aw_iadd dL_law_1115 ?_
  refine aw_scr hX hbl hbA dL_law_1116 (fun x1116 => ?_)
  refine aw_aload_n dL_law_1117 rfl ?_
  refine aw_iload_n dL_law_1118 rfl ?_
  refine aw_iconst (3 : Int32) dL_law_1119 rfl ?_
  refine aw_iadd dL_law_1120 ?_
  refine aw_scr hX hbl hbA dL_law_1121 (fun x1121 => ?_)
  refine aw_aload_n dL_law_1122 rfl ?_
  refine aw_iload_n dL_law_1123 rfl ?_
  refine aw_iconst (4 : Int32) dL_law_1124 rfl ?_
  refine aw_iadd dL_law_1125 ?_
  refine aw_scr hX hbl hbA dL_law_1126 (fun x1126 => ?_)
  refine aw_cV4 puI dL_law_1127 (fun o => ctX10_why o _ _ _ _) mcX10_why ml_L_96 rfl rfl msX10_why rfl (by decide) (Nat.le_of_ble_eq_true rfl) (fun x1127 => ?_)
  refine aw_aload_n dL_law_1130 rfl ?_
  refine aw_aload_n dL_law_1131 rfl ?_
  refine aw_iload_n dL_law_1132 rfl ?_
  refine aw_iconst (1 : Int32) dL_law_1133 rfl ?_
  refine aw_iadd dL_law_1134 ?_
  refine aw_scr hX hbl hbA dL_law_1135 (fun x1135 => ?_)
  refine aw_aload_n dL_law_1136 rfl ?_
  refine aw_iload_n dL_law_1137 rfl ?_
  refine aw_iconst (2 : Int32) dL_law_1138 rfl ?_
  refine aw_iadd dL_law_1139 ?_
  refine aw_scr hX hbl hbA dL_law_1140 (fun x1140 => ?_)
  refine aw_aload_n dL_law_1141 rfl ?_
  refine aw_iload_n dL_law_1142 rfl ?_
  refine aw_iconst (3 : Int32) dL_law_1143 rfl ?_
  refine aw_iadd dL_law_1144 ?_
  refine aw_scr hX hbl hbA dL_law_1145 (fun x1145 => ?_)
  refine aw_aload_n dL_law_1146 rfl ?_
  refine aw_iload_n dL_law_1147 rfl ?_
  refine aw_iconst (4 : Int32) dL_law_1148 rfl ?_
  refine aw_iadd dL_law_1149 ?_
  refine aw_scr hX hbl hbA dL_law_1150 (fun x1150 => ?_)
  refine aw_cV4 puI dL_law_1151 (fun o => ctX11_why o _ _ _ _) mcX11_why ml_L_99 rfl rfl msX11_why rfl (by decide) (Nat.le_of_ble_eq_true rfl) (fun x1151 => ?_)
  refine aw_icmp_eq 1323 dL_law_1154 (by decide) ?_ ?_
  · refine aw_iinc (v3 + (8 : Int32)) dL_law_1323 rfl rfl (by decide) ?_
    refine aw_goto 18 dL_law_1326 (by decide) ?_
    refine aw_msk [true, true, true, true] ?_
    exact h18 v1 v2 ((v3 + (8 : Int32)))
  · refine aw_iconst (0 : Int32) dL_law_1157 rfl ?_
    exact aw_zret dL_law_1158 rfl
set_option maxRecDepth 20000 in
theorem abL_law_1043 {C : Cx} {res : Int32 × Hp} {b L : Nat} {xs : Nat → Int32} (hX : va_X b L xs C.s C.s.heap) (hbl : b < C.s.heap.size) (hbA : ¬ C.A b) {k18 : Option Nat → Option Nat → Int32 → Mo Int32} (h18 : ∀ (v1 : Option Nat) (v2 : Option Nat) (v3 : Int32), AW C cL_law mL_law qI res 18 [vr (some b), vr v1, vr v2, vi v3] [] (k18 v1 v2 v3)) : ∀ (v1 : Option Nat) (v2 : Option Nat) (v3 : Int32), AW C cL_law mL_law qI res 1043 [vr (some b), vr v1, vr v2, vi v3] [] (bL_law_1043 L xs k18 v1 v2 v3) := by
  intro v1 v2 v3
  refine aw_aload_n dL_law_1043 rfl ?_
  refine aw_aload_n dL_law_1044 rfl ?_
  refine aw_iload_n dL_law_1045 rfl ?_
  refine aw_iconst (1 : Int32) dL_law_1046 rfl ?_
  refine aw_iadd dL_law_1047 ?_
  refine aw_scr hX hbl hbA dL_law_1048 (fun x1048 => ?_)
  refine aw_aload_n dL_law_1049 rfl ?_
  refine aw_iload_n dL_law_1050 rfl ?_
  refine aw_iconst (2 : Int32) dL_law_1051 rfl ?_
  refine aw_iadd dL_law_1052 ?_
  refine aw_scr hX hbl hbA dL_law_1053 (fun x1053 => ?_)
  refine aw_aload_n dL_law_1054 rfl ?_
  refine aw_iload_n dL_law_1055 rfl ?_
  refine aw_iconst (3 : Int32) dL_law_1056 rfl ?_
  refine aw_iadd dL_law_1057 ?_
  refine aw_scr hX hbl hbA dL_law_1058 (fun x1058 => ?_)
  refine aw_aload_n dL_law_1059 rfl ?_
  refine aw_iload_n dL_law_1060 rfl ?_
  refine aw_iconst (4 : Int32) dL_law_1061 rfl ?_
  refine aw_iadd dL_law_1062 ?_
  refine aw_scr hX hbl hbA dL_law_1063 (fun x1063 => ?_)
  refine aw_aload_n dL_law_1064 rfl ?_
  refine aw_iload_n dL_law_1065 rfl ?_
  refine aw_iconst (5 : Int32) dL_law_1066 rfl ?_
  refine aw_iadd dL_law_1067 ?_
  refine aw_scr hX hbl hbA dL_law_1068 (fun x1068 => ?_)
  refine aw_cV5 puI dL_law_1069 (fun o => ctX10_route o _ _ _ _ _) mcX10_route ml_L_92 rfl rfl msX10_route rfl (by decide) (Nat.le_of_ble_eq_true rfl) (fun x1069 => ?_)
  refine aw_aload_n dL_law_1072 rfl ?_
  refine aw_aload_n dL_law_1073 rfl ?_
  refine aw_iload_n dL_law_1074 rfl ?_
  refine aw_iconst (1 : Int32) dL_law_1075 rfl ?_
  refine aw_iadd dL_law_1076 ?_
  refine aw_scr hX hbl hbA dL_law_1077 (fun x1077 => ?_)
  refine aw_aload_n dL_law_1078 rfl ?_
  refine aw_iload_n dL_law_1079 rfl ?_
  refine aw_iconst (2 : Int32) dL_law_1080 rfl ?_
  refine aw_iadd dL_law_1081 ?_
  refine aw_scr hX hbl hbA dL_law_1082 (fun x1082 => ?_)
  refine aw_aload_n dL_law_1083 rfl ?_
  refine aw_iload_n dL_law_1084 rfl ?_
  refine aw_iconst (3 : Int32) dL_law_1085 rfl ?_
  refine aw_iadd dL_law_1086 ?_
  refine aw_scr hX hbl hbA dL_law_1087 (fun x1087 => ?_)
  refine aw_aload_n dL_law_1088 rfl ?_
  refine aw_iload_n dL_law_1089 rfl ?_
  refine aw_iconst (4 : Int32) dL_law_1090 rfl ?_
  refine aw_iadd dL_law_1091 ?_
  refine aw_scr hX hbl hbA dL_law_1092 (fun x1092 => ?_)
  refine aw_aload_n dL_law_1093 rfl ?_
  refine aw_iload_n dL_law_1094 rfl ?_
  refine aw_iconst (5 : Int32) dL_law_1095 rfl ?_
  refine aw_iadd dL_law_1096 ?_
  refine aw_scr hX hbl hbA dL_law_1097 (fun x1097 => ?_)
  refine aw_cV5 puI dL_law_1098 (fun o => ctX11_route o _ _ _ _ _) mcX11_route ml_L_95 rfl rfl msX11_route rfl (by decide) (Nat.le_of_ble_eq_true rfl) (fun x1098 => ?_)
  refine aw_icmp_eq 1323 dL_law_1101 (by decide) ?_ ?_
  · refine aw_iinc (v3 + (8 : Int32)) dL_law_1323 rfl rfl (by decide) ?_
    refine aw_goto 18 dL_law_1326 (by decide) ?_
    refine aw_msk [true, true, true, true] ?_
    exact h18 v1 v2 ((v3 + (8 : Int32)))
  · refine aw_iconst (0 : Int32) dL_law_1104 rfl ?_
    exact aw_zret dL_law_1105 rfl
set_option maxRecDepth 20000 in
theorem abL_law_990 {C : Cx} {res : Int32 × Hp} {b L : Nat} {xs : Nat → Int32} (hX : va_X b L xs C.s C.s.heap) (hbl : b < C.s.heap.size) (hbA : ¬ C.A b) {k18 : Option Nat → Option Nat → Int32 → Mo Int32} (h18 : ∀ (v1 : Option Nat) (v2 : Option Nat) (v3 : Int32), AW C cL_law mL_law qI res 18 [vr (some b), vr v1, vr v2, vi v3] [] (k18 v1 v2 v3)) : ∀ (v1 : Option Nat) (v2 : Option Nat) (v3 : Int32), AW C cL_law mL_law qI res 990 [vr (some b), vr v1, vr v2, vi v3] [] (bL_law_990 L xs k18 v1 v2 v3) := by
  intro v1 v2 v3
  refine aw_aload_n dL_law_990 rfl ?_
  refine aw_aload_n dL_law_991 rfl ?_
  refine aw_iload_n dL_law_992 rfl ?_
  refine aw_iconst (1 : Int32) dL_law_993 rfl ?_
  refine aw_iadd dL_law_994 ?_
  refine aw_scr hX hbl hbA dL_law_995 (fun x995 => ?_)
  refine aw_aload_n dL_law_996 rfl ?_
  refine aw_iload_n dL_law_997 rfl ?_
  refine aw_iconst (2 : Int32) dL_law_998 rfl ?_
  refine aw_iadd dL_law_999 ?_
  refine aw_scr hX hbl hbA dL_law_1000 (fun x1000 => ?_)
  refine aw_aload_n dL_law_1001 rfl ?_
  refine aw_iload_n dL_law_1002 rfl ?_
  refine aw_iconst (3 : Int32) dL_law_1003 rfl ?_
  refine aw_iadd dL_law_1004 ?_
  refine aw_scr hX hbl hbA dL_law_1005 (fun x1005 => ?_)
  refine aw_aload_n dL_law_1006 rfl ?_
  refine aw_iload_n dL_law_1007 rfl ?_
  refine aw_iconst (4 : Int32) dL_law_1008 rfl ?_
  refine aw_iadd dL_law_1009 ?_
  refine aw_scr hX hbl hbA dL_law_1010 (fun x1010 => ?_)
  refine aw_cV4 puI dL_law_1011 (fun o => ctX10_road o _ _ _ _) mcX10_road ml_L_88 rfl rfl msX10_road rfl (by decide) (Nat.le_of_ble_eq_true rfl) (fun x1011 => ?_)
  refine aw_aload_n dL_law_1014 rfl ?_
  refine aw_aload_n dL_law_1015 rfl ?_
  refine aw_iload_n dL_law_1016 rfl ?_
  refine aw_iconst (1 : Int32) dL_law_1017 rfl ?_
  refine aw_iadd dL_law_1018 ?_
  refine aw_scr hX hbl hbA dL_law_1019 (fun x1019 => ?_)
  refine aw_aload_n dL_law_1020 rfl ?_
  refine aw_iload_n dL_law_1021 rfl ?_
  refine aw_iconst (2 : Int32) dL_law_1022 rfl ?_
  refine aw_iadd dL_law_1023 ?_
  refine aw_scr hX hbl hbA dL_law_1024 (fun x1024 => ?_)
  refine aw_aload_n dL_law_1025 rfl ?_
  refine aw_iload_n dL_law_1026 rfl ?_
  refine aw_iconst (3 : Int32) dL_law_1027 rfl ?_
  refine aw_iadd dL_law_1028 ?_
  refine aw_scr hX hbl hbA dL_law_1029 (fun x1029 => ?_)
  refine aw_aload_n dL_law_1030 rfl ?_
  refine aw_iload_n dL_law_1031 rfl ?_
  refine aw_iconst (4 : Int32) dL_law_1032 rfl ?_
  refine aw_iadd dL_law_1033 ?_
  refine aw_scr hX hbl hbA dL_law_1034 (fun x1034 => ?_)
  refine aw_cV4 puI dL_law_1035 (fun o => ctX11_road o _ _ _ _) mcX11_road ml_L_91 rfl rfl msX11_road rfl (by decide) (Nat.le_of_ble_eq_true rfl) (fun x1035 => ?_)
  refine aw_icmp_eq 1323 dL_law_1038 (by decide) ?_ ?_
  · refine aw_iinc (v3 + (8 : Int32)) dL_law_1323 rfl rfl (by decide) ?_
    refine aw_goto 18 dL_law_1326 (by decide) ?_
    refine aw_msk [true, true, true, true] ?_
    exact h18 v1 v2 ((v3 + (8 : Int32)))
  · refine aw_iconst (0 : Int32) dL_law_1041 rfl ?_
    exact aw_zret dL_law_1042 rfl
set_option maxRecDepth 20000 in
theorem abL_law_947 {C : Cx} {res : Int32 × Hp} {b L : Nat} {xs : Nat → Int32} (hX : va_X b L xs C.s C.s.heap) (hbl : b < C.s.heap.size) (hbA : ¬ C.A b) {k18 : Option Nat → Option Nat → Int32 → Mo Int32} (h18 : ∀ (v1 : Option Nat) (v2 : Option Nat) (v3 : Int32), AW C cL_law mL_law qI res 18 [vr (some b), vr v1, vr v2, vi v3] [] (k18 v1 v2 v3)) : ∀ (v1 : Option Nat) (v2 : Option Nat) (v3 : Int32), AW C cL_law mL_law qI res 947 [vr (some b), vr v1, vr v2, vi v3] [] (bL_law_947 L xs k18 v1 v2 v3) := by
  intro v1 v2 v3
  refine aw_aload_n dL_law_947 rfl ?_
  refine aw_aload_n dL_law_948 rfl ?_
  refine aw_iload_n dL_law_949 rfl ?_
  refine aw_iconst (1 : Int32) dL_law_950 rfl ?_
  refine aw_iadd dL_law_951 ?_
  refine aw_scr hX hbl hbA dL_law_952 (fun x952 => ?_)
  refine aw_aload_n dL_law_953 rfl ?_
  refine aw_iload_n dL_law_954 rfl ?_
  refine aw_iconst (2 : Int32) dL_law_955 rfl ?_
  refine aw_iadd dL_law_956 ?_
  refine aw_scr hX hbl hbA dL_law_957 (fun x957 => ?_)
  refine aw_aload_n dL_law_958 rfl ?_
  refine aw_iload_n dL_law_959 rfl ?_
  refine aw_iconst (3 : Int32) dL_law_960 rfl ?_
  refine aw_iadd dL_law_961 ?_
  refine aw_scr hX hbl hbA dL_law_962 (fun x962 => ?_)
  refine aw_cV3 puI dL_law_963 (fun o => ctX10_spread o _ _ _) mcX10_spread ml_L_84 rfl rfl msX10_spread rfl (by decide) (Nat.le_of_ble_eq_true rfl) (fun x963 => ?_)
  refine aw_aload_n dL_law_966 rfl ?_
  refine aw_aload_n dL_law_967 rfl ?_
  refine aw_iload_n dL_law_968 rfl ?_
  refine aw_iconst (1 : Int32) dL_law_969 rfl ?_
  refine aw_iadd dL_law_970 ?_
  refine aw_scr hX hbl hbA dL_law_971 (fun x971 => ?_)
  refine aw_aload_n dL_law_972 rfl ?_
  refine aw_iload_n dL_law_973 rfl ?_
  refine aw_iconst (2 : Int32) dL_law_974 rfl ?_
  refine aw_iadd dL_law_975 ?_
  refine aw_scr hX hbl hbA dL_law_976 (fun x976 => ?_)
  refine aw_aload_n dL_law_977 rfl ?_
  refine aw_iload_n dL_law_978 rfl ?_
  refine aw_iconst (3 : Int32) dL_law_979 rfl ?_
  refine aw_iadd dL_law_980 ?_
  refine aw_scr hX hbl hbA dL_law_981 (fun x981 => ?_)
  refine aw_cV3 puI dL_law_982 (fun o => ctX11_spread o _ _ _) mcX11_spread ml_L_87 rfl rfl msX11_spread rfl (by decide) (Nat.le_of_ble_eq_true rfl) (fun x982 => ?_)
  refine aw_icmp_eq 1323 dL_law_985 (by decide) ?_ ?_
  · refine aw_iinc (v3 + (8 : Int32)) dL_law_1323 rfl rfl (by decide) ?_
    refine aw_goto 18 dL_law_1326 (by decide) ?_
    refine aw_msk [true, true, true, true] ?_
    exact h18 v1 v2 ((v3 + (8 : Int32)))
  · refine aw_iconst (0 : Int32) dL_law_988 rfl ?_
    exact aw_zret dL_law_989 rfl
set_option maxRecDepth 20000 in
theorem abL_law_914 {C : Cx} {res : Int32 × Hp} {b L : Nat} {xs : Nat → Int32} (hX : va_X b L xs C.s C.s.heap) (hbl : b < C.s.heap.size) (hbA : ¬ C.A b) {k18 : Option Nat → Option Nat → Int32 → Mo Int32} (h18 : ∀ (v1 : Option Nat) (v2 : Option Nat) (v3 : Int32), AW C cL_law mL_law qI res 18 [vr (some b), vr v1, vr v2, vi v3] [] (k18 v1 v2 v3)) : ∀ (v1 : Option Nat) (v2 : Option Nat) (v3 : Int32), AW C cL_law mL_law qI res 914 [vr (some b), vr v1, vr v2, vi v3] [] (bL_law_914 L xs k18 v1 v2 v3) := by
  intro v1 v2 v3
  refine aw_aload_n dL_law_914 rfl ?_
  refine aw_aload_n dL_law_915 rfl ?_
  refine aw_iload_n dL_law_916 rfl ?_
  refine aw_iconst (1 : Int32) dL_law_917 rfl ?_
  refine aw_iadd dL_law_918 ?_
  refine aw_scr hX hbl hbA dL_law_919 (fun x919 => ?_)
  refine aw_aload_n dL_law_920 rfl ?_
  refine aw_iload_n dL_law_921 rfl ?_
  refine aw_iconst (2 : Int32) dL_law_922 rfl ?_
  refine aw_iadd dL_law_923 ?_
  refine aw_scr hX hbl hbA dL_law_924 (fun x924 => ?_)
  refine aw_cV2 puI dL_law_925 (fun o => ctX10_posted o _ _) mcX10_posted ml_L_80 rfl rfl msX10_posted rfl (by decide) (Nat.le_of_ble_eq_true rfl) (fun x925 => ?_)
  refine aw_aload_n dL_law_928 rfl ?_
  refine aw_aload_n dL_law_929 rfl ?_
  refine aw_iload_n dL_law_930 rfl ?_
  refine aw_iconst (1 : Int32) dL_law_931 rfl ?_
  refine aw_iadd dL_law_932 ?_
  refine aw_scr hX hbl hbA dL_law_933 (fun x933 => ?_)
  refine aw_aload_n dL_law_934 rfl ?_
  refine aw_iload_n dL_law_935 rfl ?_
  refine aw_iconst (2 : Int32) dL_law_936 rfl ?_
  refine aw_iadd dL_law_937 ?_
  refine aw_scr hX hbl hbA dL_law_938 (fun x938 => ?_)
  refine aw_cV2 puI dL_law_939 (fun o => ctX11_posted o _ _) mcX11_posted ml_L_83 rfl rfl msX11_posted rfl (by decide) (Nat.le_of_ble_eq_true rfl) (fun x939 => ?_)
  refine aw_icmp_eq 1323 dL_law_942 (by decide) ?_ ?_
  · refine aw_iinc (v3 + (8 : Int32)) dL_law_1323 rfl rfl (by decide) ?_
    refine aw_goto 18 dL_law_1326 (by decide) ?_
    refine aw_msk [true, true, true, true] ?_
    exact h18 v1 v2 ((v3 + (8 : Int32)))
  · refine aw_iconst (0 : Int32) dL_law_945 rfl ?_
    exact aw_zret dL_law_946 rfl
set_option maxRecDepth 20000 in
theorem abL_law_871 {C : Cx} {res : Int32 × Hp} {b L : Nat} {xs : Nat → Int32} (hX : va_X b L xs C.s C.s.heap) (hbl : b < C.s.heap.size) (hbA : ¬ C.A b) {k18 : Option Nat → Option Nat → Int32 → Mo Int32} (h18 : ∀ (v1 : Option Nat) (v2 : Option Nat) (v3 : Int32), AW C cL_law mL_law qI res 18 [vr (some b), vr v1, vr v2, vi v3] [] (k18 v1 v2 v3)) : ∀ (v1 : Option Nat) (v2 : Option Nat) (v3 : Int32), AW C cL_law mL_law qI res 871 [vr (some b), vr v1, vr v2, vi v3] [] (bL_law_871 L xs k18 v1 v2 v3) := by
  intro v1 v2 v3
  refine aw_aload_n dL_law_871 rfl ?_
  refine aw_aload_n dL_law_872 rfl ?_
  refine aw_iload_n dL_law_873 rfl ?_
  refine aw_iconst (1 : Int32) dL_law_874 rfl ?_
  refine aw_iadd dL_law_875 ?_
  refine aw_scr hX hbl hbA dL_law_876 (fun x876 => ?_)
  refine aw_aload_n dL_law_877 rfl ?_
  refine aw_iload_n dL_law_878 rfl ?_
  refine aw_iconst (2 : Int32) dL_law_879 rfl ?_
  refine aw_iadd dL_law_880 ?_
  refine aw_scr hX hbl hbA dL_law_881 (fun x881 => ?_)
  refine aw_aload_n dL_law_882 rfl ?_
  refine aw_iload_n dL_law_883 rfl ?_
  refine aw_iconst (3 : Int32) dL_law_884 rfl ?_
  refine aw_iadd dL_law_885 ?_
  refine aw_scr hX hbl hbA dL_law_886 (fun x886 => ?_)
  refine aw_cV3 puI dL_law_887 (fun o => ctX10_fails o _ _ _) mcX10_fails ml_L_76 rfl rfl msX10_fails rfl (by decide) (Nat.le_of_ble_eq_true rfl) (fun x887 => ?_)
  refine aw_aload_n dL_law_890 rfl ?_
  refine aw_aload_n dL_law_891 rfl ?_
  refine aw_iload_n dL_law_892 rfl ?_
  refine aw_iconst (1 : Int32) dL_law_893 rfl ?_
  refine aw_iadd dL_law_894 ?_
  refine aw_scr hX hbl hbA dL_law_895 (fun x895 => ?_)
  refine aw_aload_n dL_law_896 rfl ?_
  refine aw_iload_n dL_law_897 rfl ?_
  refine aw_iconst (2 : Int32) dL_law_898 rfl ?_
  refine aw_iadd dL_law_899 ?_
  refine aw_scr hX hbl hbA dL_law_900 (fun x900 => ?_)
  refine aw_aload_n dL_law_901 rfl ?_
  refine aw_iload_n dL_law_902 rfl ?_
  refine aw_iconst (3 : Int32) dL_law_903 rfl ?_
  refine aw_iadd dL_law_904 ?_
  refine aw_scr hX hbl hbA dL_law_905 (fun x905 => ?_)
  refine aw_cV3 puI dL_law_906 (fun o => ctX11_fails o _ _ _) mcX11_fails ml_L_79 rfl rfl msX11_fails rfl (by decide) (Nat.le_of_ble_eq_true rfl) (fun x906 => ?_)
  refine aw_icmp_eq 1323 dL_law_909 (by decide) ?_ ?_
  · refine aw_iinc (v3 + (8 : Int32)) dL_law_1323 rfl rfl (by decide) ?_
    refine aw_goto 18 dL_law_1326 (by decide) ?_
    refine aw_msk [true, true, true, true] ?_
    exact h18 v1 v2 ((v3 + (8 : Int32)))
  · refine aw_iconst (0 : Int32) dL_law_912 rfl ?_
    exact aw_zret dL_law_913 rfl
set_option maxRecDepth 20000 in
theorem abL_law_795 {C : Cx} {res : Int32 × Hp} {b L : Nat} {xs : Nat → Int32} (hX : va_X b L xs C.s C.s.heap) (hbl : b < C.s.heap.size) (hbA : ¬ C.A b) {k18 : Option Nat → Option Nat → Int32 → Mo Int32} (h18 : ∀ (v1 : Option Nat) (v2 : Option Nat) (v3 : Int32), AW C cL_law mL_law qI res 18 [vr (some b), vr v1, vr v2, vi v3] [] (k18 v1 v2 v3)) : ∀ (v1 : Option Nat) (v2 : Option Nat) (v3 : Int32), AW C cL_law mL_law qI res 795 [vr (some b), vr v1, vr v2, vi v3] [] (bL_law_795 L xs k18 v1 v2 v3) := by
  intro v1 v2 v3
  refine aw_aload_n dL_law_795 rfl ?_
  refine aw_aload_n dL_law_796 rfl ?_
  refine aw_iload_n dL_law_797 rfl ?_
  refine aw_iconst (1 : Int32) dL_law_798 rfl ?_
  refine aw_iadd dL_law_799 ?_
  refine aw_scr hX hbl hbA dL_law_800 (fun x800 => ?_)
  refine aw_aload_n dL_law_801 rfl ?_
  refine aw_iload_n dL_law_802 rfl ?_
  refine aw_iconst (2 : Int32) dL_law_803 rfl ?_
  refine aw_iadd dL_law_804 ?_
  refine aw_scr hX hbl hbA dL_law_805 (fun x805 => ?_)
  refine aw_aload_n dL_law_806 rfl ?_
  refine aw_iload_n dL_law_807 rfl ?_
  refine aw_iconst (3 : Int32) dL_law_808 rfl ?_
  refine aw_iadd dL_law_809 ?_
  refine aw_scr hX hbl hbA dL_law_810 (fun x810 => ?_)
  refine aw_aload_n dL_law_811 rfl ?_
  refine aw_iload_n dL_law_812 rfl ?_
  refine aw_iconst (4 : Int32) dL_law_813 rfl ?_
  refine aw_iadd dL_law_814 ?_
  refine aw_scr hX hbl hbA dL_law_815 (fun x815 => ?_)
  refine aw_aload_n dL_law_816 rfl ?_
  refine aw_iload_n dL_law_817 rfl ?_
  refine aw_iconst (5 : Int32) dL_law_818 rfl ?_
  refine aw_iadd dL_law_819 ?_
  refine aw_scr hX hbl hbA dL_law_820 (fun x820 => ?_)
  refine aw_aload_n dL_law_821 rfl ?_
  refine aw_iload_n dL_law_822 rfl ?_
  refine aw_bipush (6 : Int32) dL_law_823 rfl ?_
  refine aw_iadd dL_law_825 ?_
  refine aw_scr hX hbl hbA dL_law_826 (fun x826 => ?_)
  refine aw_cV6 puL dL_law_827 (fun o => ctX10_total o _ _ _ _ _ _) mcX10_total ml_L_72 rfl rfl msX10_total rfl (by decide) (Nat.le_of_ble_eq_true rfl) (fun x827 => ?_)
  refine aw_aload_n dL_law_830 rfl ?_
  refine aw_aload_n dL_law_831 rfl ?_
  refine aw_iload_n dL_law_832 rfl ?_
  refine aw_iconst (1 : Int32) dL_law_833 rfl ?_
  refine aw_iadd dL_law_834 ?_
  refine aw_scr hX hbl hbA dL_law_835 (fun x835 => ?_)
  refine aw_aload_n dL_law_836 rfl ?_
  refine aw_iload_n dL_law_837 rfl ?_
  refine aw_iconst (2 : Int32) dL_law_838 rfl ?_
  refine aw_iadd dL_law_839 ?_
  refine aw_scr hX hbl hbA dL_law_840 (fun x840 => ?_)
  refine aw_aload_n dL_law_841 rfl ?_
  refine aw_iload_n dL_law_842 rfl ?_
  refine aw_iconst (3 : Int32) dL_law_843 rfl ?_
  refine aw_iadd dL_law_844 ?_
  refine aw_scr hX hbl hbA dL_law_845 (fun x845 => ?_)
  refine aw_aload_n dL_law_846 rfl ?_
  refine aw_iload_n dL_law_847 rfl ?_
  refine aw_iconst (4 : Int32) dL_law_848 rfl ?_
  refine aw_iadd dL_law_849 ?_
  refine aw_scr hX hbl hbA dL_law_850 (fun x850 => ?_)
  refine aw_aload_n dL_law_851 rfl ?_
  refine aw_iload_n dL_law_852 rfl ?_
  refine aw_iconst (5 : Int32) dL_law_853 rfl ?_
  refine aw_iadd dL_law_854 ?_
  refine aw_scr hX hbl hbA dL_law_855 (fun x855 => ?_)
  refine aw_aload_n dL_law_856 rfl ?_
  refine aw_iload_n dL_law_857 rfl ?_
  refine aw_bipush (6 : Int32) dL_law_858 rfl ?_
  refine aw_iadd dL_law_860 ?_
  refine aw_scr hX hbl hbA dL_law_861 (fun x861 => ?_)
  refine aw_cV6 puL dL_law_862 (fun o => ctX11_total o _ _ _ _ _ _) mcX11_total ml_L_75 rfl rfl msX11_total rfl (by decide) (Nat.le_of_ble_eq_true rfl) (fun x862 => ?_)
  refine aw_leq 1323 dL_law_865 dL_law_866 (by decide) ?_ ?_
  · refine aw_iinc (v3 + (8 : Int32)) dL_law_1323 rfl rfl (by decide) ?_
    refine aw_goto 18 dL_law_1326 (by decide) ?_
    refine aw_msk [true, true, true, true] ?_
    exact h18 v1 v2 ((v3 + (8 : Int32)))
  · refine aw_iconst (0 : Int32) dL_law_869 rfl ?_
    exact aw_zret dL_law_870 rfl
set_option maxRecDepth 20000 in
theorem abL_law_772 {C : Cx} {res : Int32 × Hp} {b L : Nat} {xs : Nat → Int32} (hX : va_X b L xs C.s C.s.heap) (hbl : b < C.s.heap.size) (hbA : ¬ C.A b) {k18 : Option Nat → Option Nat → Int32 → Mo Int32} (h18 : ∀ (v1 : Option Nat) (v2 : Option Nat) (v3 : Int32), AW C cL_law mL_law qI res 18 [vr (some b), vr v1, vr v2, vi v3] [] (k18 v1 v2 v3)) : ∀ (v1 : Option Nat) (v2 : Option Nat) (v3 : Int32), AW C cL_law mL_law qI res 772 [vr (some b), vr v1, vr v2, vi v3] [] (bL_law_772 L xs k18 v1 v2 v3) := by
  intro v1 v2 v3
  refine aw_aload_n dL_law_772 rfl ?_
  refine aw_aload_n dL_law_773 rfl ?_
  refine aw_iload_n dL_law_774 rfl ?_
  refine aw_iconst (1 : Int32) dL_law_775 rfl ?_
  refine aw_iadd dL_law_776 ?_
  refine aw_scr hX hbl hbA dL_law_777 (fun x777 => ?_)
  refine aw_cV1 puI dL_law_778 (fun o => ctX10_usual o _) mcX10_usual ml_L_68 rfl rfl msX10_usual rfl (by decide) (Nat.le_of_ble_eq_true rfl) (fun x778 => ?_)
  refine aw_aload_n dL_law_781 rfl ?_
  refine aw_aload_n dL_law_782 rfl ?_
  refine aw_iload_n dL_law_783 rfl ?_
  refine aw_iconst (1 : Int32) dL_law_784 rfl ?_
  refine aw_iadd dL_law_785 ?_
  refine aw_scr hX hbl hbA dL_law_786 (fun x786 => ?_)
  refine aw_cV1 puI dL_law_787 (fun o => ctX11_usual o _) mcX11_usual ml_L_71 rfl rfl msX11_usual rfl (by decide) (Nat.le_of_ble_eq_true rfl) (fun x787 => ?_)
  refine aw_icmp_eq 1323 dL_law_790 (by decide) ?_ ?_
  · refine aw_iinc (v3 + (8 : Int32)) dL_law_1323 rfl rfl (by decide) ?_
    refine aw_goto 18 dL_law_1326 (by decide) ?_
    refine aw_msk [true, true, true, true] ?_
    exact h18 v1 v2 ((v3 + (8 : Int32)))
  · refine aw_iconst (0 : Int32) dL_law_793 rfl ?_
    exact aw_zret dL_law_794 rfl
set_option maxRecDepth 20000 in
theorem abL_law_719 {C : Cx} {res : Int32 × Hp} {b L : Nat} {xs : Nat → Int32} (hX : va_X b L xs C.s C.s.heap) (hbl : b < C.s.heap.size) (hbA : ¬ C.A b) {k18 : Option Nat → Option Nat → Int32 → Mo Int32} (h18 : ∀ (v1 : Option Nat) (v2 : Option Nat) (v3 : Int32), AW C cL_law mL_law qI res 18 [vr (some b), vr v1, vr v2, vi v3] [] (k18 v1 v2 v3)) : ∀ (v1 : Option Nat) (v2 : Option Nat) (v3 : Int32), AW C cL_law mL_law qI res 719 [vr (some b), vr v1, vr v2, vi v3] [] (bL_law_719 L xs k18 v1 v2 v3) := by
  intro v1 v2 v3
  refine aw_aload_n dL_law_719 rfl ?_
  refine aw_aload_n dL_law_720 rfl ?_
  refine aw_iload_n dL_law_721 rfl ?_
  refine aw_iconst (1 : Int32) dL_law_722 rfl ?_
  refine aw_iadd dL_law_723 ?_
  refine aw_scr hX hbl hbA dL_law_724 (fun x724 => ?_)
  refine aw_aload_n dL_law_725 rfl ?_
  refine aw_iload_n dL_law_726 rfl ?_
  refine aw_iconst (2 : Int32) dL_law_727 rfl ?_
  refine aw_iadd dL_law_728 ?_
  refine aw_scr hX hbl hbA dL_law_729 (fun x729 => ?_)
  refine aw_aload_n dL_law_730 rfl ?_
  refine aw_iload_n dL_law_731 rfl ?_
  refine aw_iconst (3 : Int32) dL_law_732 rfl ?_
  refine aw_iadd dL_law_733 ?_
  refine aw_scr hX hbl hbA dL_law_734 (fun x734 => ?_)
  refine aw_aload_n dL_law_735 rfl ?_
  refine aw_iload_n dL_law_736 rfl ?_
  refine aw_iconst (4 : Int32) dL_law_737 rfl ?_
  refine aw_iadd dL_law_738 ?_
  refine aw_scr hX hbl hbA dL_law_739 (fun x739 => ?_)
  refine aw_cV4 puI dL_law_740 (fun o => ctX10_limit o _ _ _ _) mcX10_limit ml_L_63 rfl rfl msX10_limit rfl (by decide) (Nat.le_of_ble_eq_true rfl) (fun x740 => ?_)
  refine aw_aload_n dL_law_743 rfl ?_
  refine aw_aload_n dL_law_744 rfl ?_
  refine aw_iload_n dL_law_745 rfl ?_
  refine aw_iconst (1 : Int32) dL_law_746 rfl ?_
  refine aw_iadd dL_law_747 ?_
  refine aw_scr hX hbl hbA dL_law_748 (fun x748 => ?_)
  refine aw_aload_n dL_law_749 rfl ?_
  refine aw_iload_n dL_law_750 rfl ?_
  refine aw_iconst (2 : Int32) dL_law_751 rfl ?_
  refine aw_iadd dL_law_752 ?_
  refine aw_scr hX hbl hbA dL_law_753 (fun x753 => ?_)
  refine aw_aload_n dL_law_754 rfl ?_
  refine aw_iload_n dL_law_755 rfl ?_
  refine aw_iconst (3 : Int32) dL_law_756 rfl ?_
  refine aw_iadd dL_law_757 ?_
  refine aw_scr hX hbl hbA dL_law_758 (fun x758 => ?_)
  refine aw_aload_n dL_law_759 rfl ?_
  refine aw_iload_n dL_law_760 rfl ?_
  refine aw_iconst (4 : Int32) dL_law_761 rfl ?_
  refine aw_iadd dL_law_762 ?_
  refine aw_scr hX hbl hbA dL_law_763 (fun x763 => ?_)
  refine aw_cV4 puI dL_law_764 (fun o => ctX11_limit o _ _ _ _) mcX11_limit ml_L_67 rfl rfl msX11_limit rfl (by decide) (Nat.le_of_ble_eq_true rfl) (fun x764 => ?_)
  refine aw_icmp_eq 1323 dL_law_767 (by decide) ?_ ?_
  · refine aw_iinc (v3 + (8 : Int32)) dL_law_1323 rfl rfl (by decide) ?_
    refine aw_goto 18 dL_law_1326 (by decide) ?_
    refine aw_msk [true, true, true, true] ?_
    exact h18 v1 v2 ((v3 + (8 : Int32)))
  · refine aw_iconst (0 : Int32) dL_law_770 rfl ?_
    exact aw_zret dL_law_771 rfl
set_option maxRecDepth 20000 in
theorem abL_law_656 {C : Cx} {res : Int32 × Hp} {b L : Nat} {xs : Nat → Int32} (hX : va_X b L xs C.s C.s.heap) (hbl : b < C.s.heap.size) (hbA : ¬ C.A b) {k18 : Option Nat → Option Nat → Int32 → Mo Int32} (h18 : ∀ (v1 : Option Nat) (v2 : Option Nat) (v3 : Int32), AW C cL_law mL_law qI res 18 [vr (some b), vr v1, vr v2, vi v3] [] (k18 v1 v2 v3)) : ∀ (v1 : Option Nat) (v2 : Option Nat) (v3 : Int32), AW C cL_law mL_law qI res 656 [vr (some b), vr v1, vr v2, vi v3] [] (bL_law_656 L xs k18 v1 v2 v3) := by
  intro v1 v2 v3
  refine aw_aload_n dL_law_656 rfl ?_
  refine aw_aload_n dL_law_657 rfl ?_
  refine aw_iload_n dL_law_658 rfl ?_
  refine aw_iconst (1 : Int32) dL_law_659 rfl ?_
  refine aw_iadd dL_law_660 ?_
  refine aw_scr hX hbl hbA dL_law_661 (fun x661 => ?_)
  refine aw_aload_n dL_law_662 rfl ?_
  refine aw_iload_n dL_law_663 rfl ?_
  refine aw_iconst (2 : Int32) dL_law_664 rfl ?_
  refine aw_iadd dL_law_665 ?_
  refine aw_scr hX hbl hbA dL_law_666 (fun x666 => ?_)
  refine aw_aload_n dL_law_667 rfl ?_
  refine aw_iload_n dL_law_668 rfl ?_
  refine aw_iconst (3 : Int32) dL_law_669 rfl ?_
  refine aw_iadd dL_law_670 ?_
  refine aw_scr hX hbl hbA dL_law_671 (fun x671 => ?_)
  refine aw_aload_n dL_law_672 rfl ?_
  refine aw_iload_n dL_law_673 rfl ?_
  refine aw_iconst (4 : Int32) dL_law_674 rfl ?_
  refine aw_iadd dL_law_675 ?_
  refine aw_scr hX hbl hbA dL_law_676 (fun x676 => ?_)
  refine aw_aload_n dL_law_677 rfl ?_
  refine aw_iload_n dL_law_678 rfl ?_
  refine aw_iconst (5 : Int32) dL_law_679 rfl ?_
  refine aw_iadd dL_law_680 ?_
  refine aw_scr hX hbl hbA dL_law_681 (fun x681 => ?_)
  refine aw_cV5 puI dL_law_682 (fun o => ctX10_check o _ _ _ _ _) mcX10_check ml_L_58 rfl rfl msX10_check rfl (by decide) (Nat.le_of_ble_eq_true rfl) (fun x682 => ?_)
  refine aw_aload_n dL_law_685 rfl ?_
  refine aw_aload_n dL_law_686 rfl ?_
  refine aw_iload_n dL_law_687 rfl ?_
  refine aw_iconst (1 : Int32) dL_law_688 rfl ?_
  refine aw_iadd dL_law_689 ?_
  refine aw_scr hX hbl hbA dL_law_690 (fun x690 => ?_)
  refine aw_aload_n dL_law_691 rfl ?_
  refine aw_iload_n dL_law_692 rfl ?_
  refine aw_iconst (2 : Int32) dL_law_693 rfl ?_
  refine aw_iadd dL_law_694 ?_
  refine aw_scr hX hbl hbA dL_law_695 (fun x695 => ?_)
  refine aw_aload_n dL_law_696 rfl ?_
  refine aw_iload_n dL_law_697 rfl ?_
  refine aw_iconst (3 : Int32) dL_law_698 rfl ?_
  refine aw_iadd dL_law_699 ?_
  refine aw_scr hX hbl hbA dL_law_700 (fun x700 => ?_)
  refine aw_aload_n dL_law_701 rfl ?_
  refine aw_iload_n dL_law_702 rfl ?_
  refine aw_iconst (4 : Int32) dL_law_703 rfl ?_
  refine aw_iadd dL_law_704 ?_
  refine aw_scr hX hbl hbA dL_law_705 (fun x705 => ?_)
  refine aw_aload_n dL_law_706 rfl ?_
  refine aw_iload_n dL_law_707 rfl ?_
  refine aw_iconst (5 : Int32) dL_law_708 rfl ?_
  refine aw_iadd dL_law_709 ?_
  refine aw_scr hX hbl hbA dL_law_710 (fun x710 => ?_)
  refine aw_cV5 puI dL_law_711 (fun o => ctX11_check o _ _ _ _ _) mcX11_check ml_L_62 rfl rfl msX11_check rfl (by decide) (Nat.le_of_ble_eq_true rfl) (fun x711 => ?_)
  refine aw_icmp_eq 1323 dL_law_714 (by decide) ?_ ?_
  · refine aw_iinc (v3 + (8 : Int32)) dL_law_1323 rfl rfl (by decide) ?_
    refine aw_goto 18 dL_law_1326 (by decide) ?_
    refine aw_msk [true, true, true, true] ?_
    exact h18 v1 v2 ((v3 + (8 : Int32)))
  · refine aw_iconst (0 : Int32) dL_law_717 rfl ?_
    exact aw_zret dL_law_718 rfl
set_option maxRecDepth 20000 in
theorem abL_law_580 {C : Cx} {res : Int32 × Hp} {b L : Nat} {xs : Nat → Int32} (hX : va_X b L xs C.s C.s.heap) (hbl : b < C.s.heap.size) (hbA : ¬ C.A b) {k18 : Option Nat → Option Nat → Int32 → Mo Int32} (h18 : ∀ (v1 : Option Nat) (v2 : Option Nat) (v3 : Int32), AW C cL_law mL_law qI res 18 [vr (some b), vr v1, vr v2, vi v3] [] (k18 v1 v2 v3)) : ∀ (v1 : Option Nat) (v2 : Option Nat) (v3 : Int32), AW C cL_law mL_law qI res 580 [vr (some b), vr v1, vr v2, vi v3] [] (bL_law_580 L xs k18 v1 v2 v3) := by
  intro v1 v2 v3
  refine aw_aload_n dL_law_580 rfl ?_
  refine aw_aload_n dL_law_581 rfl ?_
  refine aw_iload_n dL_law_582 rfl ?_
  refine aw_iconst (1 : Int32) dL_law_583 rfl ?_
  refine aw_iadd dL_law_584 ?_
  refine aw_scr hX hbl hbA dL_law_585 (fun x585 => ?_)
  refine aw_aload_n dL_law_586 rfl ?_
  refine aw_iload_n dL_law_587 rfl ?_
  refine aw_iconst (2 : Int32) dL_law_588 rfl ?_
  refine aw_iadd dL_law_589 ?_
  refine aw_scr hX hbl hbA dL_law_590 (fun x590 => ?_)
  refine aw_aload_n dL_law_591 rfl ?_
  refine aw_iload_n dL_law_592 rfl ?_
  refine aw_iconst (3 : Int32) dL_law_593 rfl ?_
  refine aw_iadd dL_law_594 ?_
  refine aw_scr hX hbl hbA dL_law_595 (fun x595 => ?_)
  refine aw_aload_n dL_law_596 rfl ?_
  refine aw_iload_n dL_law_597 rfl ?_
  refine aw_iconst (4 : Int32) dL_law_598 rfl ?_
  refine aw_iadd dL_law_599 ?_
  refine aw_scr hX hbl hbA dL_law_600 (fun x600 => ?_)
  refine aw_aload_n dL_law_601 rfl ?_
  refine aw_iload_n dL_law_602 rfl ?_
  refine aw_iconst (5 : Int32) dL_law_603 rfl ?_
  refine aw_iadd dL_law_604 ?_
  refine aw_scr hX hbl hbA dL_law_605 (fun x605 => ?_)
  refine aw_aload_n dL_law_606 rfl ?_
  refine aw_iload_n dL_law_607 rfl ?_
  refine aw_bipush (6 : Int32) dL_law_608 rfl ?_
  refine aw_iadd dL_law_610 ?_
  refine aw_scr hX hbl hbA dL_law_611 (fun x611 => ?_)
  refine aw_cV6 puL dL_law_612 (fun o => ctX10_worst o _ _ _ _ _ _) mcX10_worst ml_L_53 rfl rfl msX10_worst rfl (by decide) (Nat.le_of_ble_eq_true rfl) (fun x612 => ?_)
  refine aw_aload_n dL_law_615 rfl ?_
  refine aw_aload_n dL_law_616 rfl ?_
  refine aw_iload_n dL_law_617 rfl ?_
  refine aw_iconst (1 : Int32) dL_law_618 rfl ?_
  refine aw_iadd dL_law_619 ?_
  refine aw_scr hX hbl hbA dL_law_620 (fun x620 => ?_)
  refine aw_aload_n dL_law_621 rfl ?_
  refine aw_iload_n dL_law_622 rfl ?_
  refine aw_iconst (2 : Int32) dL_law_623 rfl ?_
  refine aw_iadd dL_law_624 ?_
  refine aw_scr hX hbl hbA dL_law_625 (fun x625 => ?_)
  refine aw_aload_n dL_law_626 rfl ?_
  refine aw_iload_n dL_law_627 rfl ?_
  refine aw_iconst (3 : Int32) dL_law_628 rfl ?_
  refine aw_iadd dL_law_629 ?_
  refine aw_scr hX hbl hbA dL_law_630 (fun x630 => ?_)
  refine aw_aload_n dL_law_631 rfl ?_
  refine aw_iload_n dL_law_632 rfl ?_
  refine aw_iconst (4 : Int32) dL_law_633 rfl ?_
  refine aw_iadd dL_law_634 ?_
  refine aw_scr hX hbl hbA dL_law_635 (fun x635 => ?_)
  refine aw_aload_n dL_law_636 rfl ?_
  refine aw_iload_n dL_law_637 rfl ?_
  refine aw_iconst (5 : Int32) dL_law_638 rfl ?_
  refine aw_iadd dL_law_639 ?_
  refine aw_scr hX hbl hbA dL_law_640 (fun x640 => ?_)
  refine aw_aload_n dL_law_641 rfl ?_
  refine aw_iload_n dL_law_642 rfl ?_
  refine aw_bipush (6 : Int32) dL_law_643 rfl ?_
  refine aw_iadd dL_law_645 ?_
  refine aw_scr hX hbl hbA dL_law_646 (fun x646 => ?_)
  refine aw_cV6 puL dL_law_647 (fun o => ctX11_worst o _ _ _ _ _ _) mcX11_worst ml_L_57 rfl rfl msX11_worst rfl (by decide) (Nat.le_of_ble_eq_true rfl) (fun x647 => ?_)
  refine aw_leq 1323 dL_law_650 dL_law_651 (by decide) ?_ ?_
  · refine aw_iinc (v3 + (8 : Int32)) dL_law_1323 rfl rfl (by decide) ?_
    refine aw_goto 18 dL_law_1326 (by decide) ?_
    refine aw_msk [true, true, true, true] ?_
    exact h18 v1 v2 ((v3 + (8 : Int32)))
  · refine aw_iconst (0 : Int32) dL_law_654 rfl ?_
    exact aw_zret dL_law_655 rfl
set_option maxRecDepth 20000 in
theorem abL_law_492 {C : Cx} {res : Int32 × Hp} {b L : Nat} {xs : Nat → Int32} (hX : va_X b L xs C.s C.s.heap) (hbl : b < C.s.heap.size) (hbA : ¬ C.A b) {k18 : Option Nat → Option Nat → Int32 → Mo Int32} (h18 : ∀ (v1 : Option Nat) (v2 : Option Nat) (v3 : Int32), AW C cL_law mL_law qI res 18 [vr (some b), vr v1, vr v2, vi v3] [] (k18 v1 v2 v3)) : ∀ (v1 : Option Nat) (v2 : Option Nat) (v3 : Int32), AW C cL_law mL_law qI res 492 [vr (some b), vr v1, vr v2, vi v3] [] (bL_law_492 L xs k18 v1 v2 v3) := by
  intro v1 v2 v3
  refine aw_aload_n dL_law_492 rfl ?_
  refine aw_aload_n dL_law_493 rfl ?_
  refine aw_iload_n dL_law_494 rfl ?_
  refine aw_iconst (1 : Int32) dL_law_495 rfl ?_
  refine aw_iadd dL_law_496 ?_
  refine aw_scr hX hbl hbA dL_law_497 (fun x497 => ?_)
  refine aw_aload_n dL_law_498 rfl ?_
  refine aw_iload_n dL_law_499 rfl ?_
  refine aw_iconst (2 : Int32) dL_law_500 rfl ?_
  refine aw_iadd dL_law_501 ?_
  refine aw_scr hX hbl hbA dL_law_502 (fun x502 => ?_)
  refine aw_aload_n dL_law_503 rfl ?_
  refine aw_iload_n dL_law_504 rfl ?_
  refine aw_iconst (3 : Int32) dL_law_505 rfl ?_
  refine aw_iadd dL_law_506 ?_
  refine aw_scr hX hbl hbA dL_law_507 (fun x507 => ?_)
  refine aw_aload_n dL_law_508 rfl ?_
  refine aw_iload_n dL_law_509 rfl ?_
  refine aw_iconst (4 : Int32) dL_law_510 rfl ?_
  refine aw_iadd dL_law_511 ?_
  refine aw_scr hX hbl hbA dL_law_512 (fun x512 => ?_)
  refine aw_aload_n dL_law_513 rfl ?_
  refine aw_iload_n dL_law_514 rfl ?_
  refine aw_iconst (5 : Int32) dL_law_515 rfl ?_
  refine aw_iadd dL_law_516 ?_
  refine aw_scr hX hbl hbA dL_law_517 (fun x517 => ?_)
  refine aw_aload_n dL_law_518 rfl ?_
  refine aw_iload_n dL_law_519 rfl ?_
  refine aw_bipush (6 : Int32) dL_law_520 rfl ?_
  refine aw_iadd dL_law_522 ?_
  refine aw_scr hX hbl hbA dL_law_523 (fun x523 => ?_)
  refine aw_aload_n dL_law_524 rfl ?_
  refine aw_iload_n dL_law_525 rfl ?_
  refine aw_bipush (7 : Int32) dL_law_526 rfl ?_
  refine aw_iadd dL_law_528 ?_
  refine aw_scr hX hbl hbA dL_law_529 (fun x529 => ?_)
  refine aw_cV7 puL dL_law_530 (fun o => ctX10_effect o _ _ _ _ _ _ _) mcX10_effect ml_L_48 rfl rfl msX10_effect rfl (by decide) (Nat.le_of_ble_eq_true rfl) (fun x530 => ?_)
  refine aw_aload_n dL_law_533 rfl ?_
  refine aw_aload_n dL_law_534 rfl ?_
  refine aw_iload_n dL_law_535 rfl ?_
  refine aw_iconst (1 : Int32) dL_law_536 rfl ?_
  refine aw_iadd dL_law_537 ?_
  refine aw_scr hX hbl hbA dL_law_538 (fun x538 => ?_)
  refine aw_aload_n dL_law_539 rfl ?_
  refine aw_iload_n dL_law_540 rfl ?_
  refine aw_iconst (2 : Int32) dL_law_541 rfl ?_
  refine aw_iadd dL_law_542 ?_
  refine aw_scr hX hbl hbA dL_law_543 (fun x543 => ?_)
  refine aw_aload_n dL_law_544 rfl ?_
  refine aw_iload_n dL_law_545 rfl ?_
  refine aw_iconst (3 : Int32) dL_law_546 rfl ?_
  refine aw_iadd dL_law_547 ?_
  refine aw_scr hX hbl hbA dL_law_548 (fun x548 => ?_)
  refine aw_aload_n dL_law_549 rfl ?_
  refine aw_iload_n dL_law_550 rfl ?_
  refine aw_iconst (4 : Int32) dL_law_551 rfl ?_
  refine aw_iadd dL_law_552 ?_
  refine aw_scr hX hbl hbA dL_law_553 (fun x553 => ?_)
  refine aw_aload_n dL_law_554 rfl ?_
  refine aw_iload_n dL_law_555 rfl ?_
  refine aw_iconst (5 : Int32) dL_law_556 rfl ?_
  refine aw_iadd dL_law_557 ?_
  refine aw_scr hX hbl hbA dL_law_558 (fun x558 => ?_)
  refine aw_aload_n dL_law_559 rfl ?_
  refine aw_iload_n dL_law_560 rfl ?_
  refine aw_bipush (6 : Int32) dL_law_561 rfl ?_
  refine aw_iadd dL_law_563 ?_
  refine aw_scr hX hbl hbA dL_law_564 (fun x564 => ?_)
  refine aw_aload_n dL_law_565 rfl ?_
  refine aw_iload_n dL_law_566 rfl ?_
  refine aw_bipush (7 : Int32) dL_law_567 rfl ?_
  refine aw_iadd dL_law_569 ?_
  refine aw_scr hX hbl hbA dL_law_570 (fun x570 => ?_)
  refine aw_cV7 puL dL_law_571 (fun o => ctX11_effect o _ _ _ _ _ _ _) mcX11_effect ml_L_52 rfl rfl msX11_effect rfl (by decide) (Nat.le_of_ble_eq_true rfl) (fun x571 => ?_)
  refine aw_leq 1323 dL_law_574 dL_law_575 (by decide) ?_ ?_
  · refine aw_iinc (v3 + (8 : Int32)) dL_law_1323 rfl rfl (by decide) ?_
    refine aw_goto 18 dL_law_1326 (by decide) ?_
    refine aw_msk [true, true, true, true] ?_
    exact h18 v1 v2 ((v3 + (8 : Int32)))
  · refine aw_iconst (0 : Int32) dL_law_578 rfl ?_
    exact aw_zret dL_law_579 rfl
set_option maxRecDepth 20000 in
theorem abL_law_449 {C : Cx} {res : Int32 × Hp} {b L : Nat} {xs : Nat → Int32} (hX : va_X b L xs C.s C.s.heap) (hbl : b < C.s.heap.size) (hbA : ¬ C.A b) {k18 : Option Nat → Option Nat → Int32 → Mo Int32} (h18 : ∀ (v1 : Option Nat) (v2 : Option Nat) (v3 : Int32), AW C cL_law mL_law qI res 18 [vr (some b), vr v1, vr v2, vi v3] [] (k18 v1 v2 v3)) : ∀ (v1 : Option Nat) (v2 : Option Nat) (v3 : Int32), AW C cL_law mL_law qI res 449 [vr (some b), vr v1, vr v2, vi v3] [] (bL_law_449 L xs k18 v1 v2 v3) := by
  intro v1 v2 v3
  refine aw_aload_n dL_law_449 rfl ?_
  refine aw_aload_n dL_law_450 rfl ?_
  refine aw_iload_n dL_law_451 rfl ?_
  refine aw_iconst (1 : Int32) dL_law_452 rfl ?_
  refine aw_iadd dL_law_453 ?_
  refine aw_scr hX hbl hbA dL_law_454 (fun x454 => ?_)
  refine aw_aload_n dL_law_455 rfl ?_
  refine aw_iload_n dL_law_456 rfl ?_
  refine aw_iconst (2 : Int32) dL_law_457 rfl ?_
  refine aw_iadd dL_law_458 ?_
  refine aw_scr hX hbl hbA dL_law_459 (fun x459 => ?_)
  refine aw_aload_n dL_law_460 rfl ?_
  refine aw_iload_n dL_law_461 rfl ?_
  refine aw_iconst (3 : Int32) dL_law_462 rfl ?_
  refine aw_iadd dL_law_463 ?_
  refine aw_scr hX hbl hbA dL_law_464 (fun x464 => ?_)
  refine aw_cV3 puI dL_law_465 (fun o => ctX10_axles o _ _ _) mcX10_axles ml_L_44 rfl rfl msX10_axles rfl (by decide) (Nat.le_of_ble_eq_true rfl) (fun x465 => ?_)
  refine aw_aload_n dL_law_468 rfl ?_
  refine aw_aload_n dL_law_469 rfl ?_
  refine aw_iload_n dL_law_470 rfl ?_
  refine aw_iconst (1 : Int32) dL_law_471 rfl ?_
  refine aw_iadd dL_law_472 ?_
  refine aw_scr hX hbl hbA dL_law_473 (fun x473 => ?_)
  refine aw_aload_n dL_law_474 rfl ?_
  refine aw_iload_n dL_law_475 rfl ?_
  refine aw_iconst (2 : Int32) dL_law_476 rfl ?_
  refine aw_iadd dL_law_477 ?_
  refine aw_scr hX hbl hbA dL_law_478 (fun x478 => ?_)
  refine aw_aload_n dL_law_479 rfl ?_
  refine aw_iload_n dL_law_480 rfl ?_
  refine aw_iconst (3 : Int32) dL_law_481 rfl ?_
  refine aw_iadd dL_law_482 ?_
  refine aw_scr hX hbl hbA dL_law_483 (fun x483 => ?_)
  refine aw_cV3 puI dL_law_484 (fun o => ctX11_axles o _ _ _) mcX11_axles ml_L_47 rfl rfl msX11_axles rfl (by decide) (Nat.le_of_ble_eq_true rfl) (fun x484 => ?_)
  refine aw_icmp_eq 1323 dL_law_487 (by decide) ?_ ?_
  · refine aw_iinc (v3 + (8 : Int32)) dL_law_1323 rfl rfl (by decide) ?_
    refine aw_goto 18 dL_law_1326 (by decide) ?_
    refine aw_msk [true, true, true, true] ?_
    exact h18 v1 v2 ((v3 + (8 : Int32)))
  · refine aw_iconst (0 : Int32) dL_law_490 rfl ?_
    exact aw_zret dL_law_491 rfl
set_option maxRecDepth 20000 in
theorem abL_law_406 {C : Cx} {res : Int32 × Hp} {b L : Nat} {xs : Nat → Int32} (hX : va_X b L xs C.s C.s.heap) (hbl : b < C.s.heap.size) (hbA : ¬ C.A b) {k18 : Option Nat → Option Nat → Int32 → Mo Int32} (h18 : ∀ (v1 : Option Nat) (v2 : Option Nat) (v3 : Int32), AW C cL_law mL_law qI res 18 [vr (some b), vr v1, vr v2, vi v3] [] (k18 v1 v2 v3)) : ∀ (v1 : Option Nat) (v2 : Option Nat) (v3 : Int32), AW C cL_law mL_law qI res 406 [vr (some b), vr v1, vr v2, vi v3] [] (bL_law_406 L xs k18 v1 v2 v3) := by
  intro v1 v2 v3
  refine aw_aload_n dL_law_406 rfl ?_
  refine aw_aload_n dL_law_407 rfl ?_
  refine aw_iload_n dL_law_408 rfl ?_
  refine aw_iconst (1 : Int32) dL_law_409 rfl ?_
  refine aw_iadd dL_law_410 ?_
  refine aw_scr hX hbl hbA dL_law_411 (fun x411 => ?_)
  refine aw_aload_n dL_law_412 rfl ?_
  refine aw_iload_n dL_law_413 rfl ?_
  refine aw_iconst (2 : Int32) dL_law_414 rfl ?_
  refine aw_iadd dL_law_415 ?_
  refine aw_scr hX hbl hbA dL_law_416 (fun x416 => ?_)
  refine aw_aload_n dL_law_417 rfl ?_
  refine aw_iload_n dL_law_418 rfl ?_
  refine aw_iconst (3 : Int32) dL_law_419 rfl ?_
  refine aw_iadd dL_law_420 ?_
  refine aw_scr hX hbl hbA dL_law_421 (fun x421 => ?_)
  refine aw_cV3 puI dL_law_422 (fun o => ctX10_axle o _ _ _) mcX10_axle ml_L_40 rfl rfl msX10_axle rfl (by decide) (Nat.le_of_ble_eq_true rfl) (fun x422 => ?_)
  refine aw_aload_n dL_law_425 rfl ?_
  refine aw_aload_n dL_law_426 rfl ?_
  refine aw_iload_n dL_law_427 rfl ?_
  refine aw_iconst (1 : Int32) dL_law_428 rfl ?_
  refine aw_iadd dL_law_429 ?_
  refine aw_scr hX hbl hbA dL_law_430 (fun x430 => ?_)
  refine aw_aload_n dL_law_431 rfl ?_
  refine aw_iload_n dL_law_432 rfl ?_
  refine aw_iconst (2 : Int32) dL_law_433 rfl ?_
  refine aw_iadd dL_law_434 ?_
  refine aw_scr hX hbl hbA dL_law_435 (fun x435 => ?_)
  refine aw_aload_n dL_law_436 rfl ?_
  refine aw_iload_n dL_law_437 rfl ?_
  refine aw_iconst (3 : Int32) dL_law_438 rfl ?_
  refine aw_iadd dL_law_439 ?_
  refine aw_scr hX hbl hbA dL_law_440 (fun x440 => ?_)
  refine aw_cV3 puI dL_law_441 (fun o => ctX11_axle o _ _ _) mcX11_axle ml_L_43 rfl rfl msX11_axle rfl (by decide) (Nat.le_of_ble_eq_true rfl) (fun x441 => ?_)
  refine aw_icmp_eq 1323 dL_law_444 (by decide) ?_ ?_
  · refine aw_iinc (v3 + (8 : Int32)) dL_law_1323 rfl rfl (by decide) ?_
    refine aw_goto 18 dL_law_1326 (by decide) ?_
    refine aw_msk [true, true, true, true] ?_
    exact h18 v1 v2 ((v3 + (8 : Int32)))
  · refine aw_iconst (0 : Int32) dL_law_447 rfl ?_
    exact aw_zret dL_law_448 rfl
set_option maxRecDepth 20000 in
theorem abL_law_383 {C : Cx} {res : Int32 × Hp} {b L : Nat} {xs : Nat → Int32} (hX : va_X b L xs C.s C.s.heap) (hbl : b < C.s.heap.size) (hbA : ¬ C.A b) {k18 : Option Nat → Option Nat → Int32 → Mo Int32} (h18 : ∀ (v1 : Option Nat) (v2 : Option Nat) (v3 : Int32), AW C cL_law mL_law qI res 18 [vr (some b), vr v1, vr v2, vi v3] [] (k18 v1 v2 v3)) : ∀ (v1 : Option Nat) (v2 : Option Nat) (v3 : Int32), AW C cL_law mL_law qI res 383 [vr (some b), vr v1, vr v2, vi v3] [] (bL_law_383 L xs k18 v1 v2 v3) := by
  intro v1 v2 v3
  refine aw_aload_n dL_law_383 rfl ?_
  refine aw_aload_n dL_law_384 rfl ?_
  refine aw_iload_n dL_law_385 rfl ?_
  refine aw_iconst (1 : Int32) dL_law_386 rfl ?_
  refine aw_iadd dL_law_387 ?_
  refine aw_scr hX hbl hbA dL_law_388 (fun x388 => ?_)
  refine aw_cV1 puI dL_law_389 (fun o => ctX10_train o _) mcX10_train ml_L_35 rfl rfl msX10_train rfl (by decide) (Nat.le_of_ble_eq_true rfl) (fun x389 => ?_)
  refine aw_aload_n dL_law_392 rfl ?_
  refine aw_aload_n dL_law_393 rfl ?_
  refine aw_iload_n dL_law_394 rfl ?_
  refine aw_iconst (1 : Int32) dL_law_395 rfl ?_
  refine aw_iadd dL_law_396 ?_
  refine aw_scr hX hbl hbA dL_law_397 (fun x397 => ?_)
  refine aw_cV1 puI dL_law_398 (fun o => ctX11_train o _) mcX11_train ml_L_39 rfl rfl msX11_train rfl (by decide) (Nat.le_of_ble_eq_true rfl) (fun x398 => ?_)
  refine aw_icmp_eq 1323 dL_law_401 (by decide) ?_ ?_
  · refine aw_iinc (v3 + (8 : Int32)) dL_law_1323 rfl rfl (by decide) ?_
    refine aw_goto 18 dL_law_1326 (by decide) ?_
    refine aw_msk [true, true, true, true] ?_
    exact h18 v1 v2 ((v3 + (8 : Int32)))
  · refine aw_iconst (0 : Int32) dL_law_404 rfl ?_
    exact aw_zret dL_law_405 rfl
set_option maxRecDepth 20000 in
theorem abL_law_340 {C : Cx} {res : Int32 × Hp} {b L : Nat} {xs : Nat → Int32} (hX : va_X b L xs C.s C.s.heap) (hbl : b < C.s.heap.size) (hbA : ¬ C.A b) {k18 : Option Nat → Option Nat → Int32 → Mo Int32} (h18 : ∀ (v1 : Option Nat) (v2 : Option Nat) (v3 : Int32), AW C cL_law mL_law qI res 18 [vr (some b), vr v1, vr v2, vi v3] [] (k18 v1 v2 v3)) : ∀ (v1 : Option Nat) (v2 : Option Nat) (v3 : Int32), AW C cL_law mL_law qI res 340 [vr (some b), vr v1, vr v2, vi v3] [] (bL_law_340 L xs k18 v1 v2 v3) := by
  intro v1 v2 v3
  refine aw_aload_n dL_law_340 rfl ?_
  refine aw_aload_n dL_law_341 rfl ?_
  refine aw_iload_n dL_law_342 rfl ?_
  refine aw_iconst (1 : Int32) dL_law_343 rfl ?_
  refine aw_iadd dL_law_344 ?_
  refine aw_scr hX hbl hbA dL_law_345 (fun x345 => ?_)
  refine aw_aload_n dL_law_346 rfl ?_
  refine aw_iload_n dL_law_347 rfl ?_
  refine aw_iconst (2 : Int32) dL_law_348 rfl ?_
  refine aw_iadd dL_law_349 ?_
  refine aw_scr hX hbl hbA dL_law_350 (fun x350 => ?_)
  refine aw_aload_n dL_law_351 rfl ?_
  refine aw_iload_n dL_law_352 rfl ?_
  refine aw_iconst (3 : Int32) dL_law_353 rfl ?_
  refine aw_iadd dL_law_354 ?_
  refine aw_scr hX hbl hbA dL_law_355 (fun x355 => ?_)
  refine aw_cV3 puI dL_law_356 (fun o => ctX10_rule o _ _ _) mcX10_rule ml_L_30 rfl rfl msX10_rule rfl (by decide) (Nat.le_of_ble_eq_true rfl) (fun x356 => ?_)
  refine aw_aload_n dL_law_359 rfl ?_
  refine aw_aload_n dL_law_360 rfl ?_
  refine aw_iload_n dL_law_361 rfl ?_
  refine aw_iconst (1 : Int32) dL_law_362 rfl ?_
  refine aw_iadd dL_law_363 ?_
  refine aw_scr hX hbl hbA dL_law_364 (fun x364 => ?_)
  refine aw_aload_n dL_law_365 rfl ?_
  refine aw_iload_n dL_law_366 rfl ?_
  refine aw_iconst (2 : Int32) dL_law_367 rfl ?_
  refine aw_iadd dL_law_368 ?_
  refine aw_scr hX hbl hbA dL_law_369 (fun x369 => ?_)
  refine aw_aload_n dL_law_370 rfl ?_
  refine aw_iload_n dL_law_371 rfl ?_
  refine aw_iconst (3 : Int32) dL_law_372 rfl ?_
  refine aw_iadd dL_law_373 ?_
  refine aw_scr hX hbl hbA dL_law_374 (fun x374 => ?_)
  refine aw_cV3 puI dL_law_375 (fun o => ctX11_rule o _ _ _) mcX11_rule ml_L_34 rfl rfl msX11_rule rfl (by decide) (Nat.le_of_ble_eq_true rfl) (fun x375 => ?_)
  refine aw_icmp_eq 1323 dL_law_378 (by decide) ?_ ?_
  · refine aw_iinc (v3 + (8 : Int32)) dL_law_1323 rfl rfl (by decide) ?_
    refine aw_goto 18 dL_law_1326 (by decide) ?_
    refine aw_msk [true, true, true, true] ?_
    exact h18 v1 v2 ((v3 + (8 : Int32)))
  · refine aw_iconst (0 : Int32) dL_law_381 rfl ?_
    exact aw_zret dL_law_382 rfl
set_option maxRecDepth 20000 in
theorem abL_law_276 {C : Cx} {res : Int32 × Hp} {b L : Nat} {xs : Nat → Int32} (hX : va_X b L xs C.s C.s.heap) (hbl : b < C.s.heap.size) (hbA : ¬ C.A b) {k18 : Option Nat → Option Nat → Int32 → Mo Int32} (h18 : ∀ (v1 : Option Nat) (v2 : Option Nat) (v3 : Int32), AW C cL_law mL_law qI res 18 [vr (some b), vr v1, vr v2, vi v3] [] (k18 v1 v2 v3)) : ∀ (v1 : Option Nat) (v2 : Option Nat) (v3 : Int32), AW C cL_law mL_law qI res 276 [vr (some b), vr v1, vr v2, vi v3] [] (bL_law_276 L xs k18 v1 v2 v3) := by
  intro v1 v2 v3
  refine aw_aload_n dL_law_276 rfl ?_
  refine aw_aload_n dL_law_277 rfl ?_
  refine aw_iload_n dL_law_278 rfl ?_
  refine aw_iconst (1 : Int32) dL_law_279 rfl ?_
  refine aw_iadd dL_law_280 ?_
  refine aw_scr hX hbl hbA dL_law_281 (fun x281 => ?_)
  refine aw_aload_n dL_law_282 rfl ?_
  refine aw_iload_n dL_law_283 rfl ?_
  refine aw_iconst (2 : Int32) dL_law_284 rfl ?_
  refine aw_iadd dL_law_285 ?_
  refine aw_scr hX hbl hbA dL_law_286 (fun x286 => ?_)
  refine aw_aload_n dL_law_287 rfl ?_
  refine aw_iload_n dL_law_288 rfl ?_
  refine aw_iconst (3 : Int32) dL_law_289 rfl ?_
  refine aw_iadd dL_law_290 ?_
  refine aw_scr hX hbl hbA dL_law_291 (fun x291 => ?_)
  refine aw_aload_n dL_law_292 rfl ?_
  refine aw_iload_n dL_law_293 rfl ?_
  refine aw_iconst (4 : Int32) dL_law_294 rfl ?_
  refine aw_iadd dL_law_295 ?_
  refine aw_scr hX hbl hbA dL_law_296 (fun x296 => ?_)
  refine aw_aload_n dL_law_297 rfl ?_
  refine aw_iload_n dL_law_298 rfl ?_
  refine aw_iconst (5 : Int32) dL_law_299 rfl ?_
  refine aw_iadd dL_law_300 ?_
  refine aw_scr hX hbl hbA dL_law_301 (fun x301 => ?_)
  refine aw_cV5 puL dL_law_302 (fun o => ctX10_influence o _ _ _ _ _) mcX10_influence ml_L_25 rfl rfl msX10_influence rfl (by decide) (Nat.le_of_ble_eq_true rfl) (fun x302 => ?_)
  refine aw_aload_n dL_law_305 rfl ?_
  refine aw_aload_n dL_law_306 rfl ?_
  refine aw_iload_n dL_law_307 rfl ?_
  refine aw_iconst (1 : Int32) dL_law_308 rfl ?_
  refine aw_iadd dL_law_309 ?_
  refine aw_scr hX hbl hbA dL_law_310 (fun x310 => ?_)
  refine aw_aload_n dL_law_311 rfl ?_
  refine aw_iload_n dL_law_312 rfl ?_
  refine aw_iconst (2 : Int32) dL_law_313 rfl ?_
  refine aw_iadd dL_law_314 ?_
  refine aw_scr hX hbl hbA dL_law_315 (fun x315 => ?_)
  refine aw_aload_n dL_law_316 rfl ?_
  refine aw_iload_n dL_law_317 rfl ?_
  refine aw_iconst (3 : Int32) dL_law_318 rfl ?_
  refine aw_iadd dL_law_319 ?_
  refine aw_scr hX hbl hbA dL_law_320 (fun x320 => ?_)
  refine aw_aload_n dL_law_321 rfl ?_
  refine aw_iload_n dL_law_322 rfl ?_
  refine aw_iconst (4 : Int32) dL_law_323 rfl ?_
  refine aw_iadd dL_law_324 ?_
  refine aw_scr hX hbl hbA dL_law_325 (fun x325 => ?_)
  refine aw_aload_n dL_law_326 rfl ?_
  refine aw_iload_n dL_law_327 rfl ?_
  refine aw_iconst (5 : Int32) dL_law_328 rfl ?_
  refine aw_iadd dL_law_329 ?_
  refine aw_scr hX hbl hbA dL_law_330 (fun x330 => ?_)
  refine aw_cV5 puL dL_law_331 (fun o => ctX11_influence o _ _ _ _ _) mcX11_influence ml_L_29 rfl rfl msX11_influence rfl (by decide) (Nat.le_of_ble_eq_true rfl) (fun x331 => ?_)
  refine aw_leq 1323 dL_law_334 dL_law_335 (by decide) ?_ ?_
  · refine aw_iinc (v3 + (8 : Int32)) dL_law_1323 rfl rfl (by decide) ?_
    refine aw_goto 18 dL_law_1326 (by decide) ?_
    refine aw_msk [true, true, true, true] ?_
    exact h18 v1 v2 ((v3 + (8 : Int32)))
  · refine aw_iconst (0 : Int32) dL_law_338 rfl ?_
    exact aw_zret dL_law_339 rfl
set_option maxRecDepth 20000 in
theorem abL_law_243 {C : Cx} {res : Int32 × Hp} {b L : Nat} {xs : Nat → Int32} (hX : va_X b L xs C.s C.s.heap) (hbl : b < C.s.heap.size) (hbA : ¬ C.A b) {k18 : Option Nat → Option Nat → Int32 → Mo Int32} (h18 : ∀ (v1 : Option Nat) (v2 : Option Nat) (v3 : Int32), AW C cL_law mL_law qI res 18 [vr (some b), vr v1, vr v2, vi v3] [] (k18 v1 v2 v3)) : ∀ (v1 : Option Nat) (v2 : Option Nat) (v3 : Int32), AW C cL_law mL_law qI res 243 [vr (some b), vr v1, vr v2, vi v3] [] (bL_law_243 L xs k18 v1 v2 v3) := by
  intro v1 v2 v3
  refine aw_aload_n dL_law_243 rfl ?_
  refine aw_aload_n dL_law_244 rfl ?_
  refine aw_iload_n dL_law_245 rfl ?_
  refine aw_iconst (1 : Int32) dL_law_246 rfl ?_
  refine aw_iadd dL_law_247 ?_
  refine aw_scr hX hbl hbA dL_law_248 (fun x248 => ?_)
  refine aw_aload_n dL_law_249 rfl ?_
  refine aw_iload_n dL_law_250 rfl ?_
  refine aw_iconst (2 : Int32) dL_law_251 rfl ?_
  refine aw_iadd dL_law_252 ?_
  refine aw_scr hX hbl hbA dL_law_253 (fun x253 => ?_)
  refine aw_cV2 puI dL_law_254 (fun o => ctX10_told o _ _) mcX10_told ml_L_20 rfl rfl msX10_told rfl (by decide) (Nat.le_of_ble_eq_true rfl) (fun x254 => ?_)
  refine aw_aload_n dL_law_257 rfl ?_
  refine aw_aload_n dL_law_258 rfl ?_
  refine aw_iload_n dL_law_259 rfl ?_
  refine aw_iconst (1 : Int32) dL_law_260 rfl ?_
  refine aw_iadd dL_law_261 ?_
  refine aw_scr hX hbl hbA dL_law_262 (fun x262 => ?_)
  refine aw_aload_n dL_law_263 rfl ?_
  refine aw_iload_n dL_law_264 rfl ?_
  refine aw_iconst (2 : Int32) dL_law_265 rfl ?_
  refine aw_iadd dL_law_266 ?_
  refine aw_scr hX hbl hbA dL_law_267 (fun x267 => ?_)
  refine aw_cV2 puI dL_law_268 (fun o => ctX11_told o _ _) mcX11_told ml_L_24 rfl rfl msX11_told rfl (by decide) (Nat.le_of_ble_eq_true rfl) (fun x268 => ?_)
  refine aw_icmp_eq 1323 dL_law_271 (by decide) ?_ ?_
  · refine aw_iinc (v3 + (8 : Int32)) dL_law_1323 rfl rfl (by decide) ?_
    refine aw_goto 18 dL_law_1326 (by decide) ?_
    refine aw_msk [true, true, true, true] ?_
    exact h18 v1 v2 ((v3 + (8 : Int32)))
  · refine aw_iconst (0 : Int32) dL_law_274 rfl ?_
    exact aw_zret dL_law_275 rfl
set_option maxRecDepth 20000 in
theorem abL_law_140 {C : Cx} {res : Int32 × Hp} {b L : Nat} {xs : Nat → Int32} (hX : va_X b L xs C.s C.s.heap) (hbl : b < C.s.heap.size) (hbA : ¬ C.A b) {k18 : Option Nat → Option Nat → Int32 → Mo Int32} (h18 : ∀ (v1 : Option Nat) (v2 : Option Nat) (v3 : Int32), AW C cL_law mL_law qI res 18 [vr (some b), vr v1, vr v2, vi v3] [] (k18 v1 v2 v3)) : ∀ (v1 : Option Nat) (v2 : Option Nat) (v3 : Int32), AW C cL_law mL_law qI res 140 [vr (some b), vr v1, vr v2, vi v3] [] (bL_law_140 L xs k18 v1 v2 v3) := by
  intro v1 v2 v3
  refine aw_aload_n dL_law_140 rfl ?_
  refine aw_aload_n dL_law_141 rfl ?_
  refine aw_iload_n dL_law_142 rfl ?_
  refine aw_iconst (1 : Int32) dL_law_143 rfl ?_
  refine aw_iadd dL_law_144 ?_
  refine aw_scr hX hbl hbA dL_law_145 (fun x145 => ?_)
  refine aw_aload_n dL_law_146 rfl ?_
  refine aw_iload_n dL_law_147 rfl ?_
  refine aw_iconst (2 : Int32) dL_law_148 rfl ?_
  refine aw_iadd dL_law_149 ?_
  refine aw_scr hX hbl hbA dL_law_150 (fun x150 => ?_)
  refine aw_i2l dL_law_151 ?_
  refine aw_bipush (32 : Int32) dL_law_152 rfl ?_
  refine aw_lshl dL_law_154 ?_
  refine aw_aload_n dL_law_155 rfl ?_
  refine aw_iload_n dL_law_156 rfl ?_
  refine aw_iconst (3 : Int32) dL_law_157 rfl ?_
  refine aw_iadd dL_law_158 ?_
  refine aw_scr hX hbl hbA dL_law_159 (fun x159 => ?_)
  refine aw_i2l dL_law_160 ?_
  refine aw_ldc2 dL_law_161 cj_L_13 ?_
  refine aw_land dL_law_164 ?_
  refine aw_lor dL_law_165 ?_
  refine aw_aload_n dL_law_166 rfl ?_
  refine aw_iload_n dL_law_167 rfl ?_
  refine aw_iconst (4 : Int32) dL_law_168 rfl ?_
  refine aw_iadd dL_law_169 ?_
  refine aw_scr hX hbl hbA dL_law_170 (fun x170 => ?_)
  refine aw_i2l dL_law_171 ?_
  refine aw_bipush (32 : Int32) dL_law_172 rfl ?_
  refine aw_lshl dL_law_174 ?_
  refine aw_aload_n dL_law_175 rfl ?_
  refine aw_iload_n dL_law_176 rfl ?_
  refine aw_iconst (5 : Int32) dL_law_177 rfl ?_
  refine aw_iadd dL_law_178 ?_
  refine aw_scr hX hbl hbA dL_law_179 (fun x179 => ?_)
  refine aw_i2l dL_law_180 ?_
  refine aw_ldc2 dL_law_181 cj_L_13 ?_
  refine aw_land dL_law_184 ?_
  refine aw_lor dL_law_185 ?_
  refine aw_cV3 puI dL_law_186 (fun o => ctX10_bridge o _ _ _) mcX10_bridge ml_L_15 rfl rfl msX10_bridge rfl (by decide) (Nat.le_of_ble_eq_true rfl) (fun x186 => ?_)
  refine aw_aload_n dL_law_189 rfl ?_
  refine aw_aload_n dL_law_190 rfl ?_
  refine aw_iload_n dL_law_191 rfl ?_
  refine aw_iconst (1 : Int32) dL_law_192 rfl ?_
  refine aw_iadd dL_law_193 ?_
  refine aw_scr hX hbl hbA dL_law_194 (fun x194 => ?_)
  refine aw_aload_n dL_law_195 rfl ?_
  refine aw_iload_n dL_law_196 rfl ?_
  refine aw_iconst (2 : Int32) dL_law_197 rfl ?_
  refine aw_iadd dL_law_198 ?_
  refine aw_scr hX hbl hbA dL_law_199 (fun x199 => ?_)
  refine aw_i2l dL_law_200 ?_
  refine aw_bipush (32 : Int32) dL_law_201 rfl ?_
  refine aw_lshl dL_law_203 ?_
  refine aw_aload_n dL_law_204 rfl ?_
  refine aw_iload_n dL_law_205 rfl ?_
  refine aw_iconst (3 : Int32) dL_law_206 rfl ?_
  refine aw_iadd dL_law_207 ?_
  refine aw_scr hX hbl hbA dL_law_208 (fun x208 => ?_)
  refine aw_i2l dL_law_209 ?_
  refine aw_ldc2 dL_law_210 cj_L_13 ?_
  refine aw_land dL_law_213 ?_
  refine aw_lor dL_law_214 ?_
  refine aw_aload_n dL_law_215 rfl ?_
  refine aw_iload_n dL_law_216 rfl ?_
  refine aw_iconst (4 : Int32) dL_law_217 rfl ?_
  refine aw_iadd dL_law_218 ?_
  refine aw_scr hX hbl hbA dL_law_219 (fun x219 => ?_)
  refine aw_i2l dL_law_220 ?_
  refine aw_bipush (32 : Int32) dL_law_221 rfl ?_
  refine aw_lshl dL_law_223 ?_
  refine aw_aload_n dL_law_224 rfl ?_
  refine aw_iload_n dL_law_225 rfl ?_
  refine aw_iconst (5 : Int32) dL_law_226 rfl ?_
  refine aw_iadd dL_law_227 ?_
  refine aw_scr hX hbl hbA dL_law_228 (fun x228 => ?_)
  refine aw_i2l dL_law_229 ?_
  refine aw_ldc2 dL_law_230 cj_L_13 ?_
  refine aw_land dL_law_233 ?_
  refine aw_lor dL_law_234 ?_
  refine aw_cV3 puI dL_law_235 (fun o => ctX11_bridge o _ _ _) mcX11_bridge ml_L_19 rfl rfl msX11_bridge rfl (by decide) (Nat.le_of_ble_eq_true rfl) (fun x235 => ?_)
  refine aw_icmp_eq 1323 dL_law_238 (by decide) ?_ ?_
  · refine aw_iinc (v3 + (8 : Int32)) dL_law_1323 rfl rfl (by decide) ?_
    refine aw_goto 18 dL_law_1326 (by decide) ?_
    refine aw_msk [true, true, true, true] ?_
    exact h18 v1 v2 ((v3 + (8 : Int32)))
  · refine aw_iconst (0 : Int32) dL_law_241 rfl ?_
    exact aw_zret dL_law_242 rfl
set_option maxRecDepth 20000 in
theorem abL_law_18 {C : Cx} {res : Int32 × Hp} {b L : Nat} {xs : Nat → Int32} (hX : va_X b L xs C.s C.s.heap) (hbl : b < C.s.heap.size) (hbA : ¬ C.A b) {k18 : Option Nat → Option Nat → Int32 → Mo Int32} (h18 : ∀ (v1 : Option Nat) (v2 : Option Nat) (v3 : Int32), AW C cL_law mL_law qI res 18 [vr (some b), vr v1, vr v2, vi v3] [] (k18 v1 v2 v3)) : ∀ (v1 : Option Nat) (v2 : Option Nat) (v3 : Int32), AW C cL_law mL_law qI res 18 [vr (some b), vr v1, vr v2, vi v3] [] (bL_law_18 L xs k18 v1 v2 v3) := by
  intro v1 v2 v3
  refine aw_iload_n dL_law_18 rfl ?_
  refine aw_aload_n dL_law_19 rfl ?_
  refine aw_slen hX hbl hbA dL_law_20 ?_
  refine aw_bipush (8 : Int32) dL_law_21 rfl ?_
  refine aw_isub dL_law_23 ?_
  refine aw_icmp_gt 1329 dL_law_24 (by decide) ?_ ?_
  · refine aw_iconst (1 : Int32) dL_law_1329 rfl ?_
    exact aw_zret dL_law_1330 rfl
  · refine aw_aload_n dL_law_27 rfl ?_
    refine aw_iload_n dL_law_28 rfl ?_
    refine aw_scr hX hbl hbA dL_law_29 (fun x29 => ?_)
    refine aw_bipush (31 : Int32) dL_law_30 rfl ?_
    refine aw_iand dL_law_32 ?_
    refine aw_sws 1323 [140, 243, 276, 340, 383, 406, 449, 492, 580, 656, 719, 772, 795, 871, 914, 947, 990, 1043, 1106, 1159, 1223, 1256, 1300] dL_law_33 rfl (Nat.le_of_ble_eq_true rfl) (by decide) (by decide) rfl ?_ ⟨?_, ?_, ?_, ?_, ?_, ?_, ?_, ?_, ?_, ?_, ?_, ?_, ?_, ?_, ?_, ?_, ?_, ?_, ?_, ?_, ?_, ?_, ?_, trivial⟩
    · refine aw_iinc (v3 + (8 : Int32)) dL_law_1323 rfl rfl (by decide) ?_
      refine aw_goto 18 dL_law_1326 (by decide) ?_
      refine aw_msk [true, true, true, true] ?_
      exact h18 v1 v2 ((v3 + (8 : Int32)))
    · refine aw_msk [true, true, true, true] ?_
      exact abL_law_140 hX hbl hbA h18 v1 v2 v3
    · refine aw_msk [true, true, true, true] ?_
      exact abL_law_243 hX hbl hbA h18 v1 v2 v3
    · refine aw_msk [true, true, true, true] ?_
      exact abL_law_276 hX hbl hbA h18 v1 v2 v3
    · refine aw_msk [true, true, true, true] ?_
      exact abL_law_340 hX hbl hbA h18 v1 v2 v3
    · refine aw_msk [true, true, true, true] ?_
      exact abL_law_383 hX hbl hbA h18 v1 v2 v3
    · refine aw_msk [true, true, true, true] ?_
      exact abL_law_406 hX hbl hbA h18 v1 v2 v3
    · refine aw_msk [true, true, true, true] ?_
      exact abL_law_449 hX hbl hbA h18 v1 v2 v3
    · refine aw_msk [true, true, true, true] ?_
      exact abL_law_492 hX hbl hbA h18 v1 v2 v3
    · refine aw_msk [true, true, true, true] ?_
      exact abL_law_580 hX hbl hbA h18 v1 v2 v3
    · refine aw_msk [true, true, true, true] ?_
      exact abL_law_656 hX hbl hbA h18 v1 v2 v3
    · refine aw_msk [true, true, true, true] ?_
      exact abL_law_719 hX hbl hbA h18 v1 v2 v3
    · refine aw_msk [true, true, true, true] ?_
      exact abL_law_772 hX hbl hbA h18 v1 v2 v3
    · refine aw_msk [true, true, true, true] ?_
      exact abL_law_795 hX hbl hbA h18 v1 v2 v3
    · refine aw_msk [true, true, true, true] ?_
      exact abL_law_871 hX hbl hbA h18 v1 v2 v3
    · refine aw_msk [true, true, true, true] ?_
      exact abL_law_914 hX hbl hbA h18 v1 v2 v3
    · refine aw_msk [true, true, true, true] ?_
      exact abL_law_947 hX hbl hbA h18 v1 v2 v3
    · refine aw_msk [true, true, true, true] ?_
      exact abL_law_990 hX hbl hbA h18 v1 v2 v3
    · refine aw_msk [true, true, true, true] ?_
      exact abL_law_1043 hX hbl hbA h18 v1 v2 v3
    · refine aw_msk [true, true, true, true] ?_
      exact abL_law_1106 hX hbl hbA h18 v1 v2 v3
    · refine aw_msk [true, true, true, true] ?_
      exact abL_law_1159 hX hbl hbA h18 v1 v2 v3
    · refine aw_msk [true, true, true, true] ?_
      exact abL_law_1223 hX hbl hbA h18 v1 v2 v3
    · refine aw_msk [true, true, true, true] ?_
      exact abL_law_1256 hX hbl hbA h18 v1 v2 v3
    · refine aw_msk [true, true, true, true] ?_
      exact abL_law_1300 hX hbl hbA h18 v1 v2 v3
theorem afL_law_18 {C : Cx} {res : Int32 × Hp} {b L : Nat} {xs : Nat → Int32} (hX : va_X b L xs C.s C.s.heap) (hbl : b < C.s.heap.size) (hbA : ¬ C.A b)  : ∀ (n : Nat) (v1 : Option Nat) (v2 : Option Nat) (v3 : Int32), AW C cL_law mL_law qI res 18 [vr (some b), vr v1, vr v2, vi v3] [] (fL_law_18 L xs  n v1 v2 v3)
  | 0, _, _, _ => aw_fl
  | n + 1, v1, v2, v3 => abL_law_18 hX hbl hbA (fun v1 v2 v3 => afL_law_18 hX hbl hbA  n v1 v2 v3) v1 v2 v3
set_option maxRecDepth 20000 in
theorem awL_law {C : Cx} {res : Int32 × Hp} {b L : Nat} {xs : Nat → Int32} (hX : va_X b L xs C.s C.s.heap) (hbl : b < C.s.heap.size) (hbA : ¬ C.A b) : AW C cL_law mL_law qI res 0 [vr (some b), vu, vu, vu] [] (pL_law L xs) := by
  refine aw_new dL_law_0 rfl rfl cl_L_7 (by decide +kernel) (fun x0 => ?_)
  refine aw_dup dL_law_3 rfl ?_
  refine aw_cI0 dL_law_4 (fun o => ctX10_init o ) mcX10_init ml_L_9 rfl rfl msX10_init rfl (by decide) (Nat.le_of_ble_eq_true rfl) (fun _ => ?_)
  refine aw_astore_n dL_law_7 (by decide) ?_
  refine aw_new dL_law_8 rfl rfl cl_L_10 (by decide +kernel) (fun x8 => ?_)
  refine aw_dup dL_law_11 rfl ?_
  refine aw_cI0 dL_law_12 (fun o => ctX11_init o ) mcX11_init ml_L_12 rfl rfl msX11_init rfl (by decide) (Nat.le_of_ble_eq_true rfl) (fun _ => ?_)
  refine aw_astore_n dL_law_15 (by decide) ?_
  refine aw_iconst (0 : Int32) dL_law_16 rfl ?_
  refine aw_istore_n dL_law_17 (by decide) ?_
  refine aw_msk [true, true, true, true] ?_
  exact afL_law_18 hX hbl hbA  FU x0 x8 ((0 : Int32))
