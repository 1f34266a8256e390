/-! The programs of all methods (by program, out of the bytecode). -/
def FU : Nat := 1000000000
def pX2_init  (t : Nat) : Mo Unit :=
  bd (vn (some t) (fun _ => rn ())) fun _ =>
  bd (nwL (2 : Int32)) fun x6 =>
  bd (pF (some t) 2 0 (vr x6)) fun _ =>
  bd (nwI 0 (2 : Int32)) fun x13 =>
  bd (pF (some t) 2 1 (vr x13)) fun _ =>
  bd (nwI 0 (2 : Int32)) fun x20 =>
  bd (pF (some t) 2 2 (vr x20)) fun _ =>
  rn ()
def pX7_init  (t : Nat) : Mo Unit :=
  bd (vn (some t) (fun _ => rn ())) fun _ =>
  bd (nwL (341 : Int32)) fun x8 =>
  bd (pF (some t) 7 0 (vr x8)) fun _ =>
  bd (pF (some t) 7 1 (vi (0 : Int32))) fun _ =>
  rn ()
def pX3_init  (t : Nat) : Mo Unit :=
  bd (vn (some t) (fun _ => rn ())) fun _ =>
  bd (nwO 7 [vr none, vi 0]) fun x5 =>
  bd (vn x5 (fun o => pX7_init o )) fun _ =>
  bd (pF (some t) 3 0 (vr x5)) fun _ =>
  bd (nwO 2 [vr none, vr none, vr none]) fun x16 =>
  bd (vn x16 (fun o => pX2_init o )) fun _ =>
  bd (pF (some t) 3 1 (vr x16)) fun _ =>
  bd (nwM (2 : Int32) (5 : Int32)) fun x29 =>
  bd (pF (some t) 3 2 (vr x29)) fun _ =>
  bd (pF (some t) 3 3 (vi (100 : Int32))) fun _ =>
  bd (pF (some t) 3 4 (vi (-1 : Int32))) fun _ =>
  bd (pF (some t) 3 5 (vi (0 : Int32))) fun _ =>
  bd (pF (some t) 3 6 (vi (-1 : Int32))) fun _ =>
  bd (pF (some t) 3 7 (vi (-1 : Int32))) fun _ =>
  rn ()
def pX4_init  (t : Nat) : Mo Unit :=
  bd (vn (some t) (fun _ => rn ())) fun _ =>
  bd (nwL (61 : Int32)) fun x7 =>
  bd (pF (some t) 4 0 (vr x7)) fun _ =>
  bd (pF (some t) 4 1 (vl (1 : Int64))) fun _ =>
  bd (pF (some t) 4 2 (vi (0 : Int32))) fun _ =>
  rn ()
def pX5_init  (t : Nat) : Mo Unit :=
  bd (vn (some t) (fun _ => rn ())) fun _ =>
  bd (nwI 0 (24 : Int32)) fun x7 =>
  bd (pF (some t) 5 0 (vr x7)) fun _ =>
  bd (nwI 0 (24 : Int32)) fun x15 =>
  bd (pF (some t) 5 1 (vr x15)) fun _ =>
  bd (nwI 0 (24 : Int32)) fun x23 =>
  bd (pF (some t) 5 2 (vr x23)) fun _ =>
  bd (nwI 0 (24 : Int32)) fun x31 =>
  bd (pF (some t) 5 3 (vr x31)) fun _ =>
  bd (nwI 2 (24 : Int32)) fun x39 =>
  bd (pF (some t) 5 4 (vr x39)) fun _ =>
  bd (pF (some t) 5 5 (vi (0 : Int32))) fun _ =>
  bd (nwI 0 (10 : Int32)) fun x52 =>
  bd (pF (some t) 5 6 (vr x52)) fun _ =>
  bd (nwI 0 (10 : Int32)) fun x60 =>
  bd (pF (some t) 5 7 (vr x60)) fun _ =>
  bd (pF (some t) 5 8 (vi (0 : Int32))) fun _ =>
  bd (pF (some t) 5 9 (vi (0 : Int32))) fun _ =>
  rn ()
def pX6_init  (t : Nat) : Mo Unit :=
  bd (vn (some t) (fun _ => rn ())) fun _ =>
  bd (nwM (5 : Int32) (66 : Int32)) fun x8 =>
  bd (pF (some t) 6 0 (vr x8)) fun _ =>
  bd (pF (some t) 6 1 (vi (0 : Int32))) fun _ =>
  bd (pF (some t) 6 2 (vi (0 : Int32))) fun _ =>
  rn ()
def pX8_init  (t : Nat) : Mo Unit :=
  bd (vn (some t) (fun _ => rn ())) fun _ =>
  bd (nwI 0 (8 : Int32)) fun x7 =>
  bd (pF (some t) 8 0 (vr x7)) fun _ =>
  bd (nwI 0 (8 : Int32)) fun x15 =>
  bd (pF (some t) 8 1 (vr x15)) fun _ =>
  bd (pF (some t) 8 2 (vi (0 : Int32))) fun _ =>
  bd (pF (some t) 8 3 (vi (0 : Int32))) fun _ =>
  rn ()
def pX9_init  (t : Nat) : Mo Unit :=
  bd (vn (some t) (fun _ => rn ())) fun _ =>
  bd (nwL (343 : Int32)) fun x8 =>
  bd (pF (some t) 9 0 (vr x8)) fun _ =>
  bd (pF (some t) 9 1 (vi (0 : Int32))) fun _ =>
  bd (pF (some t) 9 2 (vi (0 : Int32))) fun _ =>
  bd (pF (some t) 9 3 (vi (0 : Int32))) fun _ =>
  bd (pF (some t) 9 4 (vl (0 : Int64))) fun _ =>
  rn ()
def pX10_init  (t : Nat) : Mo Unit :=
  bd (vn (some t) (fun _ => rn ())) fun _ =>
  bd (nwQ 3 (6 : Int32)) fun x7 =>
  bd (pF (some t) 10 0 (vr x7)) fun _ =>
  bd (pF (some t) 10 1 (vi (0 : Int32))) fun _ =>
  bd (nwQ 5 (8 : Int32)) fun x21 =>
  bd (pF (some t) 10 2 (vr x21)) fun _ =>
  bd (pF (some t) 10 3 (vi (0 : Int32))) fun _ =>
  bd (pF (some t) 10 4 (vi (-1 : Int32))) fun _ =>
  bd (nwO 5 [vr none, vr none, vr none, vr none, vr none, vi 0, vr none, vr none, vi 0, vi 0]) fun x38 =>
  bd (vn x38 (fun o => pX5_init o )) fun _ =>
  bd (pF (some t) 10 5 (vr x38)) fun _ =>
  bd (nwO 6 [vr none, vi 0, vi 0]) fun x49 =>
  bd (vn x49 (fun o => pX6_init o )) fun _ =>
  bd (pF (some t) 10 6 (vr x49)) fun _ =>
  bd (nwO 4 [vr none, vl 0, vi 0]) fun x60 =>
  bd (vn x60 (fun o => pX4_init o )) fun _ =>
  bd (pF (some t) 10 7 (vr x60)) fun _ =>
  bd (nwO 7 [vr none, vi 0]) fun x71 =>
  bd (vn x71 (fun o => pX7_init o )) fun _ =>
  bd (pF (some t) 10 8 (vr x71)) fun _ =>
  bd (nwO 2 [vr none, vr none, vr none]) fun x82 =>
  bd (vn x82 (fun o => pX2_init o )) fun _ =>
  bd (pF (some t) 10 9 (vr x82)) fun _ =>
  bd (nwO 3 [vr none, vr none, vr none, vi 0, vi 0, vi 0, vi 0, vi 0]) fun x93 =>
  bd (vn x93 (fun o => pX3_init o )) fun _ =>
  bd (pF (some t) 10 10 (vr x93)) fun _ =>
  bd (nwO 9 [vr none, vi 0, vi 0, vi 0, vl 0]) fun x104 =>
  bd (vn x104 (fun o => pX9_init o )) fun _ =>
  bd (pF (some t) 10 11 (vr x104)) fun _ =>
  bd (nwO 8 [vr none, vr none, vi 0, vi 0]) fun x115 =>
  bd (vn x115 (fun o => pX8_init o )) fun _ =>
  bd (pF (some t) 10 12 (vr x115)) fun _ =>
  bd (nwI 0 (6 : Int32)) fun x128 =>
  bd (pF (some t) 10 13 (vr x128)) fun _ =>
  rn ()
def pX10_within  (v0 : Int32) (v1 : Int32) (v2 : Int32) : Mo Int32 :=
  if v0 < v1 then
    rnZ (0 : Int32)
  else
    if v2 < v0 then
      rnZ (0 : Int32)
    else
      rnZ (1 : Int32)
def pX10_bridgeAt  (t : Nat) (v1 : Int32) : Mo (Option Nat) :=
  bd (gI (some t) 10 1) fun x3 =>
  bd (pX10_within v1 (0 : Int32) (x3 - (1 : Int32))) fun x8 =>
  if x8 = 0 then
    rn none
  else
    bd (gA (some t) 10 0) fun x15 =>
    bd (ldQ 3 x15 v1) fun x19 =>
    rn x19
def bX10_allChecks_4  (k4 : Nat → Int32 → Int32 → Mo Int32) (t : Nat) (v1 : Int32) (v2 : Int32) : Mo Int32 :=
  bd (gI (some t) 10 1) fun x6 =>
  if x6 ≤ v2 then
    rn v1
  else
    bd (vc 10 (some t) (fun o => pX10_bridgeAt o v2)) fun x14 =>
    if x14 = none then
      k4 t ((v1 + (0 : Int32))) ((v2 + (1 : Int32)))
    else
      bd (gI x14 0 7) fun x28 =>
      k4 t ((v1 + x28)) ((v2 + (1 : Int32)))
def fX10_allChecks_4   : Nat → Nat → Int32 → Int32 → Mo Int32
  | 0 => fun _ _ _ => fl
  | n + 1 => bX10_allChecks_4  (fX10_allChecks_4   n)
def pX10_allChecks  (t : Nat) : Mo Int32 :=
  fX10_allChecks_4   FU t ((0 : Int32)) ((0 : Int32))
def pX10_trainAt  (t : Nat) (v1 : Int32) : Mo (Option Nat) :=
  bd (gI (some t) 10 3) fun x3 =>
  bd (pX10_within v1 (0 : Int32) (x3 - (1 : Int32))) fun x8 =>
  if x8 = 0 then
    rn none
  else
    bd (gA (some t) 10 2) fun x15 =>
    bd (ldQ 5 x15 v1) fun x19 =>
    rn x19
def bX10_allTraffic_4  (k4 : Nat → Int32 → Int32 → Mo Int32) (t : Nat) (v1 : Int32) (v2 : Int32) : Mo Int32 :=
  bd (gI (some t) 10 3) fun x6 =>
  if x6 ≤ v2 then
    rn v1
  else
    bd (vc 10 (some t) (fun o => pX10_trainAt o v2)) fun x14 =>
    if x14 = none then
      k4 t ((v1 + (0 : Int32))) ((v2 + (1 : Int32)))
    else
      bd (gI x14 8 3) fun x28 =>
      k4 t ((v1 + x28)) ((v2 + (1 : Int32)))
def fX10_allTraffic_4   : Nat → Nat → Int32 → Int32 → Mo Int32
  | 0 => fun _ _ _ => fl
  | n + 1 => bX10_allTraffic_4  (fX10_allTraffic_4   n)
def pX10_allTraffic  (t : Nat) : Mo Int32 :=
  fX10_allTraffic_4   FU t ((0 : Int32)) ((0 : Int32))
def pX8_couple  (t : Nat) (v1 : Int32) (v2 : Int32) : Mo Int32 :=
  bd (gI (some t) 8 2) fun x1 =>
  if x1 < (8 : Int32) then
    bd (gA (some t) 8 1) fun x12 =>
    bd (gI (some t) 8 2) fun x16 =>
    bd (stI x12 x16 v1) fun _ =>
    bd (gA (some t) 8 0) fun x22 =>
    bd (gI (some t) 8 2) fun x26 =>
    bd (stI x22 x26 v2) fun _ =>
    bd (gI (some t) 8 2) fun x33 =>
    bd (pF (some t) 8 2 (vi (x33 + (1 : Int32)))) fun _ =>
    rnZ (1 : Int32)
  else
    rnZ (0 : Int32)
def pX10_axle  (t : Nat) (v1 : Int32) (v2 : Int32) (v3 : Int32) : Mo Int32 :=
  bd (vc 10 (some t) (fun o => pX10_trainAt o v1)) fun x2 =>
  if x2 = none then
    rn (-1001 : Int32)
  else
    bd (pX10_within v2 (1 : Int32) (20 : Int32)) fun x20 =>
    if x20 = 0 then
      rn (-1002 : Int32)
    else
      bd (pX10_within v3 (1 : Int32) (200 : Int32)) fun x31 =>
      if x31 = 0 then
        rn (-1002 : Int32)
      else
        bd (vc 8 x2 (fun o => pX8_couple o v2 v3)) fun x45 =>
        if x45 = 0 then
          rn (-1004 : Int32)
        else
          bd (gI x2 8 2) fun x57 =>
          rn x57
def bX8_allGaps_4  (k4 : Nat → Int32 → Int32 → Mo Int32) (t : Nat) (v1 : Int32) (v2 : Int32) : Mo Int32 :=
  bd (gI (some t) 8 2) fun x6 =>
  if x6 ≤ v2 then
    rn v1
  else
    bd (gA (some t) 8 1) fun x14 =>
    bd (ldI 0 x14 v2) fun x18 =>
    k4 t ((v1 + x18)) ((v2 + (1 : Int32)))
def fX8_allGaps_4   : Nat → Nat → Int32 → Int32 → Mo Int32
  | 0 => fun _ _ _ => fl
  | n + 1 => bX8_allGaps_4  (fX8_allGaps_4   n)
def pX8_allGaps  (t : Nat) : Mo Int32 :=
  fX8_allGaps_4   FU t ((0 : Int32)) ((0 : Int32))
def pX10_axles  (t : Nat) (v1 : Int32) (v2 : Int32) (v3 : Int32) : Mo Int32 :=
  bd (vc 10 (some t) (fun o => pX10_trainAt o v1)) fun x2 =>
  if x2 = none then
    rn (-1001 : Int32)
  else
    bd (pX10_within v3 (0 : Int32) (1 : Int32)) fun x19 =>
    if x19 = 0 then
      rn (-1002 : Int32)
    else
      if v2 = (-1 : Int32) then
        if v3 = 0 then
          bd (gI x2 8 2) fun x40 =>
          rn x40
        else
          bd (vc 8 x2 (fun o => pX8_allGaps o )) fun x48 =>
          rn x48
      else
        bd (gI x2 8 2) fun x56 =>
        bd (pX10_within v2 (0 : Int32) (x56 - (1 : Int32))) fun x61 =>
        if x61 = 0 then
          rn (-1 : Int32)
        else
          if v3 = 0 then
            bd (gA x2 8 0) fun x75 =>
            bd (ldI 0 x75 v2) fun x79 =>
            rn x79
          else
            bd (gA x2 8 1) fun x85 =>
            bd (ldI 0 x85 v2) fun x89 =>
            rn x89
def pJ13_bitCount_95d88  (v0 : Int64) : Mo Int32 :=
  rn ((Int64.toInt32 ((((((((v0 - ((usr v0 (1 : Int32)) &&& (6148914691236517205 : Int64))) &&& (3689348814741910323 : Int64)) + ((usr (v0 - ((usr v0 (1 : Int32)) &&& (6148914691236517205 : Int64))) (2 : Int32)) &&& (3689348814741910323 : Int64))) + (usr (((v0 - ((usr v0 (1 : Int32)) &&& (6148914691236517205 : Int64))) &&& (3689348814741910323 : Int64)) + ((usr (v0 - ((usr v0 (1 : Int32)) &&& (6148914691236517205 : Int64))) (2 : Int32)) &&& (3689348814741910323 : Int64))) (4 : Int32))) &&& (1085102592571150095 : Int64)) + (usr (((((v0 - ((usr v0 (1 : Int32)) &&& (6148914691236517205 : Int64))) &&& (3689348814741910323 : Int64)) + ((usr (v0 - ((usr v0 (1 : Int32)) &&& (6148914691236517205 : Int64))) (2 : Int32)) &&& (3689348814741910323 : Int64))) + (usr (((v0 - ((usr v0 (1 : Int32)) &&& (6148914691236517205 : Int64))) &&& (3689348814741910323 : Int64)) + ((usr (v0 - ((usr v0 (1 : Int32)) &&& (6148914691236517205 : Int64))) (2 : Int32)) &&& (3689348814741910323 : Int64))) (4 : Int32))) &&& (1085102592571150095 : Int64)) (8 : Int32))) + (usr ((((((v0 - ((usr v0 (1 : Int32)) &&& (6148914691236517205 : Int64))) &&& (3689348814741910323 : Int64)) + ((usr (v0 - ((usr v0 (1 : Int32)) &&& (6148914691236517205 : Int64))) (2 : Int32)) &&& (3689348814741910323 : Int64))) + (usr (((v0 - ((usr v0 (1 : Int32)) &&& (6148914691236517205 : Int64))) &&& (3689348814741910323 : Int64)) + ((usr (v0 - ((usr v0 (1 : Int32)) &&& (6148914691236517205 : Int64))) (2 : Int32)) &&& (3689348814741910323 : Int64))) (4 : Int32))) &&& (1085102592571150095 : Int64)) + (usr (((((v0 - ((usr v0 (1 : Int32)) &&& (6148914691236517205 : Int64))) &&& (3689348814741910323 : Int64)) + ((usr (v0 - ((usr v0 (1 : Int32)) &&& (6148914691236517205 : Int64))) (2 : Int32)) &&& (3689348814741910323 : Int64))) + (usr (((v0 - ((usr v0 (1 : Int32)) &&& (6148914691236517205 : Int64))) &&& (3689348814741910323 : Int64)) + ((usr (v0 - ((usr v0 (1 : Int32)) &&& (6148914691236517205 : Int64))) (2 : Int32)) &&& (3689348814741910323 : Int64))) (4 : Int32))) &&& (1085102592571150095 : Int64)) (8 : Int32))) (16 : Int32))) + (usr (((((((v0 - ((usr v0 (1 : Int32)) &&& (6148914691236517205 : Int64))) &&& (3689348814741910323 : Int64)) + ((usr (v0 - ((usr v0 (1 : Int32)) &&& (6148914691236517205 : Int64))) (2 : Int32)) &&& (3689348814741910323 : Int64))) + (usr (((v0 - ((usr v0 (1 : Int32)) &&& (6148914691236517205 : Int64))) &&& (3689348814741910323 : Int64)) + ((usr (v0 - ((usr v0 (1 : Int32)) &&& (6148914691236517205 : Int64))) (2 : Int32)) &&& (3689348814741910323 : Int64))) (4 : Int32))) &&& (1085102592571150095 : Int64)) + (usr (((((v0 - ((usr v0 (1 : Int32)) &&& (6148914691236517205 : Int64))) &&& (3689348814741910323 : Int64)) + ((usr (v0 - ((usr v0 (1 : Int32)) &&& (6148914691236517205 : Int64))) (2 : Int32)) &&& (3689348814741910323 : Int64))) + (usr (((v0 - ((usr v0 (1 : Int32)) &&& (6148914691236517205 : Int64))) &&& (3689348814741910323 : Int64)) + ((usr (v0 - ((usr v0 (1 : Int32)) &&& (6148914691236517205 : Int64))) (2 : Int32)) &&& (3689348814741910323 : Int64))) (4 : Int32))) &&& (1085102592571150095 : Int64)) (8 : Int32))) + (usr ((((((v0 - ((usr v0 (1 : Int32)) &&& (6148914691236517205 : Int64))) &&& (3689348814741910323 : Int64)) + ((usr (v0 - ((usr v0 (1 : Int32)) &&& (6148914691236517205 : Int64))) (2 : Int32)) &&& (3689348814741910323 : Int64))) + (usr (((v0 - ((usr v0 (1 : Int32)) &&& (6148914691236517205 : Int64))) &&& (3689348814741910323 : Int64)) + ((usr (v0 - ((usr v0 (1 : Int32)) &&& (6148914691236517205 : Int64))) (2 : Int32)) &&& (3689348814741910323 : Int64))) (4 : Int32))) &&& (1085102592571150095 : Int64)) + (usr (((((v0 - ((usr v0 (1 : Int32)) &&& (6148914691236517205 : Int64))) &&& (3689348814741910323 : Int64)) + ((usr (v0 - ((usr v0 (1 : Int32)) &&& (6148914691236517205 : Int64))) (2 : Int32)) &&& (3689348814741910323 : Int64))) + (usr (((v0 - ((usr v0 (1 : Int32)) &&& (6148914691236517205 : Int64))) &&& (3689348814741910323 : Int64)) + ((usr (v0 - ((usr v0 (1 : Int32)) &&& (6148914691236517205 : Int64))) (2 : Int32)) &&& (3689348814741910323 : Int64))) (4 : Int32))) &&& (1085102592571150095 : Int64)) (8 : Int32))) (16 : Int32))) (32 : Int32)))) &&& (127 : Int32))
def bX10_placesOf_12  (k12 : Int64 → Option Nat → Int32 → Int32 → Mo (Option Nat)) (v0 : Int64) (v2 : Option Nat) (v3 : Int32) (v4 : Int32) : Mo (Option Nat) :=
  if (60 : Int32) < v4 then
    rn v2
  else
    bd (aln v2) fun x21 =>
    if x21 ≤ v3 then
      rn v2
    else
      if ((usr v0 v4) &&& (1 : Int64)) = (0 : Int64) then
        k12 v0 v2 v3 ((v4 + (1 : Int32)))
      else
        bd (stI v2 v3 v4) fun _ =>
        k12 v0 v2 ((v3 + (1 : Int32))) ((v4 + (1 : Int32)))
def fX10_placesOf_12   : Nat → Int64 → Option Nat → Int32 → Int32 → Mo (Option Nat)
  | 0 => fun _ _ _ _ => fl
  | n + 1 => bX10_placesOf_12  (fX10_placesOf_12   n)
def pX10_placesOf  (v0 : Int64) : Mo (Option Nat) :=
  bd (pJ13_bitCount_95d88 v0) fun x1 =>
  bd (nwI 0 x1) fun x4 =>
  fX10_placesOf_12   FU v0 x4 ((0 : Int32)) ((0 : Int32))
def pX10_wellFormed  (v0 : Int32) (v1 : Int64) (v3 : Int64) : Mo Int32 :=
  bd (pX10_within v0 (2 : Int32) (60 : Int32)) fun x4 =>
  if x4 = 0 then
    rnZ (0 : Int32)
  else
    bd (pJ13_bitCount_95d88 v1) fun x31 =>
    if (v1 &&& (((slL (2 : Int64) v0) - (1 : Int64)) ^^^ (-1 : Int64))) = (0 : Int64) then
      bd (pX10_within x31 (2 : Int32) (5 : Int32)) fun x53 =>
      if x53 = 0 then
        rnZ (0 : Int32)
      else
        if (v3 &&& (((slL (1 : Int64) v0) - (2 : Int64)) ^^^ (-1 : Int64))) = (0 : Int64) then
          if (v3 &&& v1) = (0 : Int64) then
            bd (pJ13_bitCount_95d88 v3) fun x81 =>
            if x81 = (x31 - (2 : Int32)) then
              rnZ (1 : Int32)
            else
              rnZ (0 : Int32)
          else
            rnZ (0 : Int32)
        else
          rnZ (0 : Int32)
    else
      rnZ (0 : Int32)
def pX6_lower  (t : Nat) : Mo Int64 :=
  bd (gA (some t) 6 0) fun x1 =>
  bd (ldQ 6 x1 (0 : Int32)) fun x5 =>
  bd (ldL x5 (0 : Int32)) fun x7 =>
  rn (abL x7)
def pX6_upper  (t : Nat) (v1 : Int32) (v2 : Int32) : Mo Int64 :=
  bd (gA (some t) 6 0) fun x1 =>
  bd (ldQ 6 x1 (0 : Int32)) fun x5 =>
  bd (ldL x5 (0 : Int32)) fun x7 =>
  if (0 : Int64) ≤ x7 then
    bd (gA (some t) 6 0) fun x31 =>
    bd (ldQ 6 x31 v1) fun x35 =>
    bd (gI (some t) 6 1) fun x37 =>
    bd (ldL x35 (x37 + v2)) fun x42 =>
    rn x42
  else
    bd (gA (some t) 6 0) fun x14 =>
    bd (ldQ 6 x14 v1) fun x18 =>
    bd (gI (some t) 6 1) fun x20 =>
    bd (ldL x18 (x20 + v2)) fun x25 =>
    rn (-x25)
def bX0_init_88  (k78 : Nat → Int32 → Option Nat → Option Nat → Int32 → Mo Unit) (k88 : Nat → Int32 → Option Nat → Option Nat → Int32 → Int32 → Mo Unit) (t : Nat) (v1 : Int32) (v2 : Option Nat) (v4 : Option Nat) (v5 : Int32) (v6 : Int32) : Mo Unit :=
  if v1 < v6 then
    k78 t v1 v2 v4 ((v5 + (1 : Int32)))
  else
    bd (gA (some t) 0 4) fun x95 =>
    bd (ldQ 6 x95 v5) fun x100 =>
    bd (vc 6 v4 (fun o => pX6_upper o v5 v6)) fun x109 =>
    bd (stL x100 v6 x109) fun _ =>
    k88 t v1 v2 v4 v5 ((v6 + (1 : Int32)))
def fX0_init_88  (k78 : Nat → Int32 → Option Nat → Option Nat → Int32 → Mo Unit) : Nat → Nat → Int32 → Option Nat → Option Nat → Int32 → Int32 → Mo Unit
  | 0 => fun _ _ _ _ _ _ => fl
  | n + 1 => bX0_init_88  k78 (fX0_init_88  k78 n)
def bX0_init_78  (k78 : Nat → Int32 → Option Nat → Option Nat → Int32 → Mo Unit) (t : Nat) (v1 : Int32) (v2 : Option Nat) (v4 : Option Nat) (v5 : Int32) : Mo Unit :=
  bd (aln v2) fun x81 =>
  if x81 ≤ v5 then
    rn ()
  else
    fX0_init_88  k78 FU t v1 v2 v4 v5 ((0 : Int32))
def fX0_init_78   : Nat → Nat → Int32 → Option Nat → Option Nat → Int32 → Mo Unit
  | 0 => fun _ _ _ _ _ => fl
  | n + 1 => bX0_init_78  (fX0_init_78   n)
def pX0_init  (t : Nat) (v1 : Int32) (v2 : Option Nat) (v3 : Int32) (v4 : Option Nat) : Mo Unit :=
  bd (vn (some t) (fun _ => rn ())) fun _ =>
  bd (nwI 0 (3 : Int32)) fun x6 =>
  bd (stI x6 (0 : Int32) (30 : Int32)) fun _ =>
  bd (stI x6 (1 : Int32) (1 : Int32)) fun _ =>
  bd (stI x6 (2 : Int32) (50 : Int32)) fun _ =>
  bd (pF (some t) 0 5 (vr x6)) fun _ =>
  bd (nwQ 4 (5 : Int32)) fun x27 =>
  bd (pF (some t) 0 6 (vr x27)) fun _ =>
  bd (pF (some t) 0 7 (vi (0 : Int32))) fun _ =>
  bd (pF (some t) 0 0 (vi v1)) fun _ =>
  bd (pF (some t) 0 1 (vr v2)) fun _ =>
  bd (pF (some t) 0 2 (vi v3)) fun _ =>
  bd (vc 6 v4 (fun o => pX6_lower o )) fun x56 =>
  bd (pF (some t) 0 3 (vl x56)) fun _ =>
  bd (aln v2) fun x64 =>
  bd (nwM x64 (v1 + (1 : Int32))) fun x68 =>
  bd (pF (some t) 0 4 (vr x68)) fun _ =>
  fX0_init_78   FU t v1 v2 v4 ((0 : Int32))
def bX6_bringPivot_2  (k2 : Nat → Int32 → Int32 → Mo Int32) (t : Nat) (v1 : Int32) (v2 : Int32) : Mo Int32 :=
  bd (gI (some t) 6 1) fun x4 =>
  if x4 ≤ v2 then
    rnZ (0 : Int32)
  else
    bd (gA (some t) 6 0) fun x11 =>
    bd (ldQ 6 x11 v2) fun x15 =>
    bd (ldL x15 v1) fun x17 =>
    if x17 = (0 : Int64) then
      k2 t v1 ((v2 + (1 : Int32)))
    else
      bd (gA (some t) 6 0) fun x24 =>
      bd (ldQ 6 x24 v2) fun x28 =>
      bd (gA (some t) 6 0) fun x31 =>
      bd (gA (some t) 6 0) fun x36 =>
      bd (ldQ 6 x36 v1) fun x40 =>
      bd (stR x31 v2 x40) fun _ =>
      bd (gA (some t) 6 0) fun x43 =>
      bd (stR x43 v1 x28) fun _ =>
      rnZ (1 : Int32)
def fX6_bringPivot_2   : Nat → Nat → Int32 → Int32 → Mo Int32
  | 0 => fun _ _ _ => fl
  | n + 1 => bX6_bringPivot_2  (fX6_bringPivot_2   n)
def pX6_bringPivot  (t : Nat) (v1 : Int32) : Mo Int32 :=
  fX6_bringPivot_2   FU t v1 v1
def bX6_clear_30  (k30 : Nat → Int32 → Int32 → Int64 → Int64 → Int64 → Int32 → Mo Unit) (t : Nat) (v1 : Int32) (v2 : Int32) (v3 : Int64) (v5 : Int64) (v7 : Int64) (v9 : Int32) : Mo Unit :=
  bd (gI (some t) 6 2) fun x33 =>
  if x33 ≤ v9 then
    rn ()
  else
    bd (gA (some t) 6 0) fun x40 =>
    bd (ldQ 6 x40 v1) fun x44 =>
    bd (gA (some t) 6 0) fun x50 =>
    bd (ldQ 6 x50 v1) fun x54 =>
    bd (ldL x54 v9) fun x57 =>
    bd (gA (some t) 6 0) fun x62 =>
    bd (ldQ 6 x62 v2) fun x66 =>
    bd (ldL x66 v9) fun x69 =>
    bd (dvL ((v5 * x57) - (v7 * x69)) v3) fun x73 =>
    bd (stL x44 v9 x73) fun _ =>
    k30 t v1 v2 v3 v5 v7 ((v9 + (1 : Int32)))
def fX6_clear_30   : Nat → Nat → Int32 → Int32 → Int64 → Int64 → Int64 → Int32 → Mo Unit
  | 0 => fun _ _ _ _ _ _ _ => fl
  | n + 1 => bX6_clear_30  (fX6_clear_30   n)
def pX6_clear  (t : Nat) (v1 : Int32) (v2 : Int32) (v3 : Int64) : Mo Unit :=
  if v3 = (0 : Int64) then
    rn ()
  else
    bd (gA (some t) 6 0) fun x8 =>
    bd (ldQ 6 x8 v2) fun x12 =>
    bd (ldL x12 v2) fun x14 =>
    bd (gA (some t) 6 0) fun x18 =>
    bd (ldQ 6 x18 v1) fun x22 =>
    bd (ldL x22 v2) fun x24 =>
    fX6_clear_30   FU t v1 v2 v3 x14 x24 ((0 : Int32))
def bX6_eliminate_25  (k4 : Nat → Int64 → Int32 → Mo Int32) (k25 : Nat → Int64 → Int32 → Int32 → Mo Int32) (t : Nat) (v1 : Int64) (v3 : Int32) (v4 : Int32) : Mo Int32 :=
  bd (gI (some t) 6 1) fun x28 =>
  if x28 ≤ v4 then
    bd (gA (some t) 6 0) fun x55 =>
    bd (ldQ 6 x55 v3) fun x59 =>
    bd (ldL x59 v3) fun x61 =>
    k4 t x61 ((v3 + (1 : Int32)))
  else
    if v4 = v3 then
      k25 t v1 v3 ((v4 + (1 : Int32)))
    else
      bd (vc 6 (some t) (fun o => pX6_clear o v4 v3 v1)) fun _ =>
      k25 t v1 v3 ((v4 + (1 : Int32)))
def fX6_eliminate_25  (k4 : Nat → Int64 → Int32 → Mo Int32) : Nat → Nat → Int64 → Int32 → Int32 → Mo Int32
  | 0 => fun _ _ _ _ => fl
  | n + 1 => bX6_eliminate_25  k4 (fX6_eliminate_25  k4 n)
def bX6_eliminate_4  (k4 : Nat → Int64 → Int32 → Mo Int32) (t : Nat) (v1 : Int64) (v3 : Int32) : Mo Int32 :=
  bd (gI (some t) 6 1) fun x6 =>
  if x6 ≤ v3 then
    rnZ (1 : Int32)
  else
    bd (vc 6 (some t) (fun o => pX6_bringPivot o v3)) fun x14 =>
    if x14 = 0 then
      rnZ (0 : Int32)
    else
      fX6_eliminate_25  k4 FU t v1 v3 ((0 : Int32))
def fX6_eliminate_4   : Nat → Nat → Int64 → Int32 → Mo Int32
  | 0 => fun _ _ _ => fl
  | n + 1 => bX6_eliminate_4  (fX6_eliminate_4   n)
def pX6_eliminate  (t : Nat) : Mo Int32 :=
  fX6_eliminate_4   FU t ((1 : Int64)) ((0 : Int32))
def bX6_writeCondition_44  (k44 : Nat → Int32 → Int32 → Int32 → Mo Unit) (t : Nat) (v1 : Int32) (v2 : Int32) (v4 : Int32) : Mo Unit :=
  bd (gI (some t) 6 2) fun x47 =>
  if x47 ≤ v4 then
    rn ()
  else
    bd (gA (some t) 6 0) fun x54 =>
    bd (ldQ 6 x54 v1) fun x58 =>
    bd (gI (some t) 6 1) fun x66 =>
    bd (stL x58 v4 (Int32.toInt64 (mxI (0 : Int32) (v2 - (v4 - x66))))) fun _ =>
    k44 t v1 v2 ((v4 + (1 : Int32)))
def fX6_writeCondition_44   : Nat → Nat → Int32 → Int32 → Int32 → Mo Unit
  | 0 => fun _ _ _ _ => fl
  | n + 1 => bX6_writeCondition_44  (fX6_writeCondition_44   n)
def bX6_writeCondition_3  (k3 : Nat → Int32 → Int32 → Option Nat → Int32 → Mo Unit) (t : Nat) (v1 : Int32) (v2 : Int32) (v3 : Option Nat) (v4 : Int32) : Mo Unit :=
  bd (gI (some t) 6 1) fun x6 =>
  if x6 ≤ v4 then
    bd (gI (some t) 6 1) fun x39 =>
    fX6_writeCondition_44   FU t v1 v2 x39
  else
    bd (gA (some t) 6 0) fun x13 =>
    bd (ldQ 6 x13 v1) fun x17 =>
    bd (ldI 0 v3 v4) fun x25 =>
    bd (stL x17 v4 (Int32.toInt64 (mxI (0 : Int32) (v2 - x25)))) fun _ =>
    k3 t v1 v2 v3 ((v4 + (1 : Int32)))
def fX6_writeCondition_3   : Nat → Nat → Int32 → Int32 → Option Nat → Int32 → Mo Unit
  | 0 => fun _ _ _ _ _ => fl
  | n + 1 => bX6_writeCondition_3  (fX6_writeCondition_3   n)
def pX6_writeCondition  (t : Nat) (v1 : Int32) (v2 : Int32) (v3 : Option Nat) : Mo Unit :=
  fX6_writeCondition_3   FU t v1 v2 v3 ((0 : Int32))
def pJ7_rangeCheck_23922  (v0 : Int32) (v1 : Int32) (v2 : Int32) : Mo Unit :=
  if v1 ≤ v2 then
    if 0 ≤ v1 then
      if v2 ≤ v0 then
        rn ()
      else
        fl
    else
      fl
  else
    fl
def bJ7_fill_bad5a_10  (k10 : Option Nat → Int32 → Int64 → Int32 → Mo Unit) (v0 : Option Nat) (v2 : Int32) (v3 : Int64) (v5 : Int32) : Mo Unit :=
  if v2 ≤ v5 then
    rn ()
  else
    bd (stL v0 v5 v3) fun _ =>
    k10 v0 v2 v3 ((v5 + (1 : Int32)))
def fJ7_fill_bad5a_10   : Nat → Option Nat → Int32 → Int64 → Int32 → Mo Unit
  | 0 => fun _ _ _ _ => fl
  | n + 1 => bJ7_fill_bad5a_10  (fJ7_fill_bad5a_10   n)
def pJ7_fill_bad5a  (v0 : Option Nat) (v1 : Int32) (v2 : Int32) (v3 : Int64) : Mo Unit :=
  bd (aln v0) fun x1 =>
  bd (pJ7_rangeCheck_23922 x1 v1 v2) fun _ =>
  fJ7_fill_bad5a_10   FU v0 v2 v3 v1
def bX6_solve_89   (t : Nat) : Mo Int32 :=
  bd (vc 6 (some t) (fun o => pX6_eliminate o )) fun x90 =>
  rnZ x90
def bX6_solve_52  (k52 : Nat → Option Nat → Option Nat → Int32 → Mo Int32) (t : Nat) (v2 : Option Nat) (v3 : Option Nat) (v4 : Int32) : Mo Int32 :=
  bd (aln v3) fun x55 =>
  if x55 ≤ v4 then
    bX6_solve_89   t
  else
    bd (gI (some t) 6 1) fun x64 =>
    if x64 ≤ (v4 + (2 : Int32)) then
      bX6_solve_89   t
    else
      bd (ldI 0 v3 v4) fun x78 =>
      bd (vc 6 (some t) (fun o => pX6_writeCondition o (v4 + (2 : Int32)) x78 v2)) fun _ =>
      k52 t v2 v3 ((v4 + (1 : Int32)))
def fX6_solve_52   : Nat → Nat → Option Nat → Option Nat → Int32 → Mo Int32
  | 0 => fun _ _ _ _ => fl
  | n + 1 => bX6_solve_52  (fX6_solve_52   n)
def pX6_solve  (t : Nat) (v1 : Int32) (v2 : Option Nat) (v3 : Option Nat) : Mo Int32 :=
  bd (aln v2) fun x2 =>
  bd (pF (some t) 6 1 (vi (mnI x2 (5 : Int32)))) fun _ =>
  bd (gI (some t) 6 1) fun x12 =>
  bd (pF (some t) 6 2 (vi ((x12 + (mnI v1 (60 : Int32))) + (1 : Int32)))) fun _ =>
  bd (gA (some t) 6 0) fun x28 =>
  bd (ldQ 6 x28 (0 : Int32)) fun x32 =>
  bd (gI (some t) 6 2) fun x35 =>
  bd (pJ7_fill_bad5a x32 (0 : Int32) x35 (1 : Int64)) fun _ =>
  bd (vc 6 (some t) (fun o => pX6_writeCondition o (1 : Int32) v1 v2)) fun _ =>
  fX6_solve_52   FU t v2 v3 ((0 : Int32))
def pX10_bridge  (t : Nat) (v1 : Int32) (v2 : Int64) (v4 : Int64) : Mo Int32 :=
  bd (pX10_wellFormed v1 v2 v4) fun x4 =>
  if x4 = 0 then
    rn (-1002 : Int32)
  else
    bd (pX10_placesOf v2) fun x15 =>
    bd (pX10_placesOf v4) fun x22 =>
    bd (gA (some t) 10 6) fun x28 =>
    bd (vc 6 x28 (fun o => pX6_solve o v1 x15 x22)) fun x36 =>
    if x36 = 0 then
      rn (-1003 : Int32)
    else
      bd (gI (some t) 10 1) fun x47 =>
      if x47 < (6 : Int32) then
        bd (gA (some t) 10 0) fun x60 =>
        bd (gI (some t) 10 1) fun x64 =>
        bd (nwO 0 [vi 0, vr none, vi 0, vl 0, vr none, vr none, vr none, vi 0]) fun x67 =>
        bd (aln x22) fun x76 =>
        bd (gA (some t) 10 6) fun x78 =>
        bd (vn x67 (fun o => pX0_init o v1 x15 x76 x78)) fun _ =>
        bd (stQ 3 0 x60 x64 x67) fun _ =>
        bd (gI (some t) 10 1) fun x87 =>
        bd (pF (some t) 10 1 (vi (x87 + (1 : Int32)))) fun _ =>
        bd (gI (some t) 10 1) fun x96 =>
        rn (x96 - (1 : Int32))
      else
        rn (-1004 : Int32)
def pX10_limitsHold  (v0 : Int32) (v1 : Int32) : Mo Int32 :=
  bd (pX10_within v0 (0 : Int32) (100000 : Int32)) fun x5 =>
  if x5 = 0 then
    rnZ (0 : Int32)
  else
    bd (pX10_within v1 (-100000 : Int32) (0 : Int32)) fun x16 =>
    if x16 = 0 then
      rnZ (0 : Int32)
    else
      rnZ (1 : Int32)
def pX0_lacksSupport  (t : Nat) (v1 : Int32) (v2 : Int32) : Mo Int32 :=
  if v1 = 0 then
    bd (gA (some t) 0 1) fun x7 =>
    bd (aln x7) fun x10 =>
    bd (pX10_within v2 (0 : Int32) (x10 - (1 : Int32))) fun x13 =>
    if x13 = 0 then
      rnZ (1 : Int32)
    else
      rnZ (0 : Int32)
  else
    rnZ (0 : Int32)
def pX0_hasResponse  (t : Nat) (v1 : Int32) (v2 : Int32) : Mo Int32 :=
  if v1 = 0 then
    bd (vc 0 (some t) (fun o => pX0_lacksSupport o v1 v2)) fun x7 =>
    if x7 = 0 then
      rnZ (1 : Int32)
    else
      rnZ (0 : Int32)
  else
    if v1 = (1 : Int32) then
      bd (gI (some t) 0 0) fun x29 =>
      bd (pX10_within v2 (0 : Int32) x29) fun x32 =>
      if x32 = 0 then
        rnZ (0 : Int32)
      else
        rnZ (1 : Int32)
    else
      rnZ (0 : Int32)
def pX1_init  (t : Nat) (v1 : Int32) (v2 : Int32) : Mo Unit :=
  bd (vn (some t) (fun _ => rn ())) fun _ =>
  bd (nwO 4 [vr none, vl 0, vi 0]) fun x5 =>
  bd (vn x5 (fun o => pX4_init o )) fun _ =>
  bd (pF (some t) 1 0 (vr x5)) fun _ =>
  bd (pF (some t) 1 1 (vi v1)) fun _ =>
  bd (pF (some t) 1 2 (vi v2)) fun _ =>
  rn ()
def bX0_momentUpper_18  (k18 : Nat → Int32 → Int32 → Int64 → Int32 → Mo Int64) (t : Nat) (v1 : Int32) (v2 : Int32) (v3 : Int64) (v5 : Int32) : Mo Int64 :=
  bd (gA (some t) 0 1) fun x21 =>
  bd (aln x21) fun x24 =>
  if x24 ≤ v5 then
    rn v3
  else
    bd (gA (some t) 0 4) fun x30 =>
    bd (ldQ 6 x30 v5) fun x35 =>
    bd (ldL x35 v2) fun x37 =>
    bd (gA (some t) 0 1) fun x41 =>
    bd (ldI 0 x41 v5) fun x46 =>
    k18 t v1 v2 ((v3 + (x37 * (Int32.toInt64 (mxI (0 : Int32) (v1 - x46)))))) ((v5 + (1 : Int32)))
def fX0_momentUpper_18   : Nat → Nat → Int32 → Int32 → Int64 → Int32 → Mo Int64
  | 0 => fun _ _ _ _ _ => fl
  | n + 1 => bX0_momentUpper_18  (fX0_momentUpper_18   n)
def pX0_momentUpper  (t : Nat) (v1 : Int32) (v2 : Int32) : Mo Int64 :=
  bd (gL (some t) 0 3) fun x1 =>
  fX0_momentUpper_18   FU t v1 v2 (((-x1) * (Int32.toInt64 (mxI (0 : Int32) (v1 - v2))))) ((0 : Int32))
def bX4_draw_67  (k29 : Nat → Option Nat → Int32 → Int32 → Int32 → Mo Unit) (t : Nat) (v1 : Option Nat) (v2 : Int32) (v3 : Int32) (v4 : Int32) (s0 : Option Nat) (s1 : Int32) (s2 : Int64) : Mo Unit :=
  bd (stL s0 s1 s2) fun _ =>
  k29 t v1 v2 v3 ((v4 + (1 : Int32)))
def bX4_draw_29  (k29 : Nat → Option Nat → Int32 → Int32 → Int32 → Mo Unit) (t : Nat) (v1 : Option Nat) (v2 : Int32) (v3 : Int32) (v4 : Int32) : Mo Unit :=
  bd (gI (some t) 4 2) fun x32 =>
  if x32 < v4 then
    rn ()
  else
    bd (gA (some t) 4 0) fun x39 =>
    if v2 = 0 then
      bd (gA v1 0 4) fun x49 =>
      bd (ldQ 6 x49 v3) fun x53 =>
      bd (ldL x53 v4) fun x56 =>
      bX4_draw_67  k29 t v1 v2 v3 v4 x39 v4 x56
    else
      bd (vc 0 v1 (fun o => pX0_momentUpper o v3 v4)) fun x64 =>
      bX4_draw_67  k29 t v1 v2 v3 v4 x39 v4 x64
def fX4_draw_29   : Nat → Nat → Option Nat → Int32 → Int32 → Int32 → Mo Unit
  | 0 => fun _ _ _ _ _ => fl
  | n + 1 => bX4_draw_29  (fX4_draw_29   n)
def pX4_draw  (t : Nat) (v1 : Option Nat) (v2 : Int32) (v3 : Int32) : Mo Unit :=
  bd (vc 0 v1 (fun o => pX0_hasResponse o v2 v3)) fun x3 =>
  if x3 = 0 then
    rn ()
  else
    bd (gI v1 0 0) fun x12 =>
    bd (pF (some t) 4 2 (vi x12)) fun _ =>
    bd (gL v1 0 3) fun x20 =>
    bd (pF (some t) 4 1 (vl x20)) fun _ =>
    fX4_draw_29   FU t v1 v2 v3 ((0 : Int32))
def pX10_check  (t : Nat) (v1 : Int32) (v2 : Int32) (v3 : Int32) (v4 : Int32) (v5 : Int32) : Mo Int32 :=
  bd (vc 10 (some t) (fun o => pX10_bridgeAt o v1)) fun x2 =>
  if x2 = none then
    rn (-1001 : Int32)
  else
    bd (vc 0 x2 (fun o => pX0_lacksSupport o v2 v3)) fun x16 =>
    if x16 = 0 then
      bd (vc 0 x2 (fun o => pX0_hasResponse o v2 v3)) fun x30 =>
      if x30 = 0 then
        rn (-1002 : Int32)
      else
        bd (pX10_limitsHold v4 v5) fun x40 =>
        if x40 = 0 then
          rn (-1002 : Int32)
        else
          bd (gI x2 0 7) fun x52 =>
          if x52 < (5 : Int32) then
            bd (nwO 1 [vr none, vi 0, vi 0]) fun x63 =>
            bd (vn x63 (fun o => pX1_init o v4 v5)) fun _ =>
            bd (gA x63 1 0) fun x78 =>
            bd (vc 4 x78 (fun o => pX4_draw o x2 v2 v3)) fun _ =>
            bd (gA x2 0 6) fun x90 =>
            bd (gI x2 0 7) fun x95 =>
            bd (stQ 4 1 x90 x95 x63) fun _ =>
            bd (gI x2 0 7) fun x104 =>
            bd (pF x2 0 7 (vi (x104 + (1 : Int32)))) fun _ =>
            bd (gI x2 0 7) fun x114 =>
            rn (x114 - (1 : Int32))
          else
            rn (-1004 : Int32)
    else
      rn (-1001 : Int32)
def pX0_checkAt  (t : Nat) (v1 : Int32) : Mo (Option Nat) :=
  bd (gI (some t) 0 7) fun x3 =>
  bd (pX10_within v1 (0 : Int32) (x3 - (1 : Int32))) fun x8 =>
  if x8 = 0 then
    rn none
  else
    bd (gA (some t) 0 6) fun x15 =>
    bd (ldQ 4 x15 v1) fun x19 =>
    rn x19
def pX1_totalLower  (t : Nat) : Mo Int64 :=
  bd (gA (some t) 1 0) fun x1 =>
  bd (gL x1 4 1) fun x4 =>
  rn ((x4 * (100 : Int64)) * (100 : Int64))
def pX1_allows  (t : Nat) (v1 : Int32) (v2 : Int64) : Mo Int32 :=
  if v1 = 0 then
    bd (gI (some t) 1 1) fun x6 =>
    bd (vc 1 (some t) (fun o => pX1_totalLower o )) fun x11 =>
    if ((Int32.toInt64 x6) * x11) < v2 then
      rnZ (0 : Int32)
    else
      rnZ (1 : Int32)
  else
    bd (gI (some t) 1 2) fun x29 =>
    bd (vc 1 (some t) (fun o => pX1_totalLower o )) fun x34 =>
    if v2 < ((Int32.toInt64 x29) * x34) then
      rnZ (0 : Int32)
    else
      rnZ (1 : Int32)
def pX2_set  (t : Nat) (v1 : Int32) (v2 : Int64) (v4 : Int32) (v5 : Int32) : Mo Unit :=
  bd (gA (some t) 2 0) fun x1 =>
  bd (stL x1 v1 v2) fun _ =>
  bd (gA (some t) 2 1) fun x8 =>
  bd (stI x8 v1 v4) fun _ =>
  bd (gA (some t) 2 2) fun x16 =>
  bd (stI x16 v1 v5) fun _ =>
  rn ()
def bX7_addAxle_3  (k3 : Nat → Option Nat → Int64 → Int32 → Int32 → Mo Unit) (t : Nat) (v1 : Option Nat) (v2 : Int64) (v4 : Int32) (v5 : Int32) : Mo Unit :=
  bd (gI v1 4 2) fun x6 =>
  if x6 < v5 then
    rn ()
  else
    bd (gI (some t) 7 1) fun x18 =>
    if x18 ≤ (v4 + v5) then
      rn ()
    else
      bd (gA (some t) 7 0) fun x25 =>
      bd (ldL x25 (v4 + v5)) fun x34 =>
      bd (gA v1 4 0) fun x37 =>
      bd (ldL x37 v5) fun x42 =>
      bd (stL x25 (v4 + v5) (x34 + (v2 * x42))) fun _ =>
      k3 t v1 v2 v4 ((v5 + (1 : Int32)))
def fX7_addAxle_3   : Nat → Nat → Option Nat → Int64 → Int32 → Int32 → Mo Unit
  | 0 => fun _ _ _ _ _ => fl
  | n + 1 => bX7_addAxle_3  (fX7_addAxle_3   n)
def pX7_addAxle  (t : Nat) (v1 : Option Nat) (v2 : Int64) (v4 : Int32) : Mo Unit :=
  fX7_addAxle_3   FU t v1 v2 v4 ((0 : Int32))
def bX7_roll_89  (k44 : Nat → Option Nat → Option Nat → Int32 → Int32 → Int32 → Int32 → Mo Unit) (t : Nat) (v1 : Option Nat) (v2 : Option Nat) (v3 : Int32) (v4 : Int32) (v5 : Int32) (v6 : Int32) (s0 : Option Nat) (s1 : Option Nat) (s2 : Int64) (s3 : Int32) : Mo Unit :=
  bd (vc 7 s0 (fun o => pX7_addAxle o s1 s2 s3)) fun _ =>
  k44 t v1 v2 v3 v4 v5 ((v6 + (1 : Int32)))
def bX7_roll_44  (k44 : Nat → Option Nat → Option Nat → Int32 → Int32 → Int32 → Int32 → Mo Unit) (t : Nat) (v1 : Option Nat) (v2 : Option Nat) (v3 : Int32) (v4 : Int32) (v5 : Int32) (v6 : Int32) : Mo Unit :=
  bd (gI v2 8 2) fun x47 =>
  if x47 ≤ v6 then
    rn ()
  else
    bd (gA v2 8 1) fun x56 =>
    bd (ldI 0 x56 v6) fun x61 =>
    bd (gA v2 8 0) fun x68 =>
    bd (ldI 0 x68 v6) fun x73 =>
    if v3 = 0 then
      bX7_roll_89  k44 t v1 v2 v3 v4 ((v5 + x61)) v6 ((some t)) v1 ((Int32.toInt64 x73)) ((v5 + x61))
    else
      bX7_roll_89  k44 t v1 v2 v3 v4 ((v5 + x61)) v6 ((some t)) v1 ((Int32.toInt64 x73)) ((v4 - (v5 + x61)))
def fX7_roll_44   : Nat → Nat → Option Nat → Option Nat → Int32 → Int32 → Int32 → Int32 → Mo Unit
  | 0 => fun _ _ _ _ _ _ _ => fl
  | n + 1 => bX7_roll_44  (fX7_roll_44   n)
def pX7_roll  (t : Nat) (v1 : Option Nat) (v2 : Option Nat) (v3 : Int32) : Mo Unit :=
  bd (vc 8 v2 (fun o => pX8_allGaps o )) fun x1 =>
  bd (gI v1 4 2) fun x8 =>
  bd (pF (some t) 7 1 (vi (mnI ((x8 + x1) + (1 : Int32)) (341 : Int32)))) fun _ =>
  bd (gA (some t) 7 0) fun x26 =>
  bd (gI (some t) 7 1) fun x31 =>
  bd (pJ7_fill_bad5a x26 (0 : Int32) x31 (0 : Int64)) fun _ =>
  fX7_roll_44   FU t v1 v2 v3 x1 ((0 : Int32)) ((0 : Int32))
def bX2_find_142   (t : Nat) : Mo Unit :=
  bd (gA (some t) 2 0) fun x143 =>
  bd (ldL x143 (1 : Int32)) fun x147 =>
  if x147 ≤ (0 : Int64) then
    rn ()
  else
    bd (vc 2 (some t) (fun o => pX2_set o (1 : Int32) (0 : Int64) (-1 : Int32) (-1 : Int32))) fun _ =>
    rn ()
def bX2_find_100  (k3 : Nat → Option Nat → Option Nat → Option Nat → Int32 → Mo Unit) (k20 : Nat → Option Nat → Option Nat → Option Nat → Int32 → Int32 → Mo Unit) (t : Nat) (v1 : Option Nat) (v2 : Option Nat) (v3 : Option Nat) (v4 : Int32) (v5 : Int32) (v6 : Int64) : Mo Unit :=
  bd (vc 2 (some t) (fun o => pX2_set o (1 : Int32) v6 v4 v5)) fun _ =>
  k20 t v1 v2 v3 v4 ((v5 + (1 : Int32)))
def bX2_find_83  (k3 : Nat → Option Nat → Option Nat → Option Nat → Int32 → Mo Unit) (k20 : Nat → Option Nat → Option Nat → Option Nat → Int32 → Int32 → Mo Unit) (t : Nat) (v1 : Option Nat) (v2 : Option Nat) (v3 : Option Nat) (v4 : Int32) (v5 : Int32) (v6 : Int64) (v8 : Int32) : Mo Unit :=
  if v8 = 0 then
    bd (gA (some t) 2 0) fun x91 =>
    bd (ldL x91 (1 : Int32)) fun x95 =>
    if x95 ≤ v6 then
      k20 t v1 v2 v3 v4 ((v5 + (1 : Int32)))
    else
      bX2_find_100  k3 k20 t v1 v2 v3 v4 v5 v6
  else
    bX2_find_100  k3 k20 t v1 v2 v3 v4 v5 v6
def bX2_find_72  (k3 : Nat → Option Nat → Option Nat → Option Nat → Int32 → Mo Unit) (k20 : Nat → Option Nat → Option Nat → Option Nat → Int32 → Int32 → Mo Unit) (t : Nat) (v1 : Option Nat) (v2 : Option Nat) (v3 : Option Nat) (v4 : Int32) (v5 : Int32) (v6 : Int64) (v8 : Int32) : Mo Unit :=
  bd (vc 2 (some t) (fun o => pX2_set o (0 : Int32) v6 v4 v5)) fun _ =>
  bX2_find_83  k3 k20 t v1 v2 v3 v4 v5 v6 v8
def bX2_find_53  (k3 : Nat → Option Nat → Option Nat → Option Nat → Int32 → Mo Unit) (k20 : Nat → Option Nat → Option Nat → Option Nat → Int32 → Int32 → Mo Unit) (t : Nat) (v1 : Option Nat) (v2 : Option Nat) (v3 : Option Nat) (v4 : Int32) (v5 : Int32) (v6 : Int64) (s0 : Int32) : Mo Unit :=
  if s0 = 0 then
    bd (gA (some t) 2 0) fun x63 =>
    bd (ldL x63 (0 : Int32)) fun x67 =>
    if v6 ≤ x67 then
      bX2_find_83  k3 k20 t v1 v2 v3 v4 v5 v6 s0
    else
      bX2_find_72  k3 k20 t v1 v2 v3 v4 v5 v6 s0
  else
    bX2_find_72  k3 k20 t v1 v2 v3 v4 v5 v6 s0
def bX2_find_20  (k3 : Nat → Option Nat → Option Nat → Option Nat → Int32 → Mo Unit) (k20 : Nat → Option Nat → Option Nat → Option Nat → Int32 → Int32 → Mo Unit) (t : Nat) (v1 : Option Nat) (v2 : Option Nat) (v3 : Option Nat) (v4 : Int32) (v5 : Int32) : Mo Unit :=
  bd (gI v3 7 1) fun x23 =>
  if x23 ≤ v5 then
    k3 t v1 v2 v3 ((v4 + (1 : Int32)))
  else
    bd (gA v3 7 0) fun x30 =>
    bd (ldL x30 v5) fun x35 =>
    if v4 = 0 then
      if v5 = 0 then
        bX2_find_53  k3 k20 t v1 v2 v3 v4 v5 x35 ((1 : Int32))
      else
        bX2_find_53  k3 k20 t v1 v2 v3 v4 v5 x35 ((0 : Int32))
    else
      bX2_find_53  k3 k20 t v1 v2 v3 v4 v5 x35 ((0 : Int32))
def fX2_find_20  (k3 : Nat → Option Nat → Option Nat → Option Nat → Int32 → Mo Unit) : Nat → Nat → Option Nat → Option Nat → Option Nat → Int32 → Int32 → Mo Unit
  | 0 => fun _ _ _ _ _ _ => fl
  | n + 1 => bX2_find_20  k3 (fX2_find_20  k3 n)
def bX2_find_3  (k3 : Nat → Option Nat → Option Nat → Option Nat → Int32 → Mo Unit) (t : Nat) (v1 : Option Nat) (v2 : Option Nat) (v3 : Option Nat) (v4 : Int32) : Mo Unit :=
  if (2 : Int32) ≤ v4 then
    bd (gA (some t) 2 0) fun x124 =>
    bd (ldL x124 (0 : Int32)) fun x128 =>
    if (0 : Int64) ≤ x128 then
      bX2_find_142   t
    else
      bd (vc 2 (some t) (fun o => pX2_set o (0 : Int32) (0 : Int64) (-1 : Int32) (-1 : Int32))) fun _ =>
      bX2_find_142   t
  else
    bd (vc 7 v3 (fun o => pX7_roll o v1 v2 v4)) fun _ =>
    fX2_find_20  k3 FU t v1 v2 v3 v4 ((0 : Int32))
def fX2_find_3   : Nat → Nat → Option Nat → Option Nat → Option Nat → Int32 → Mo Unit
  | 0 => fun _ _ _ _ _ => fl
  | n + 1 => bX2_find_3  (fX2_find_3   n)
def pX2_find  (t : Nat) (v1 : Option Nat) (v2 : Option Nat) (v3 : Option Nat) : Mo Unit :=
  fX2_find_3   FU t v1 v2 v3 ((0 : Int32))
def pX3_totalOf  (t : Nat) (v1 : Int32) (v2 : Int32) (v3 : Int64) : Mo Int64 :=
  bd (gA (some t) 3 2) fun x6 =>
  bd (ldQ 6 x6 v2) fun x10 =>
  bd (ldL x10 v1) fun x12 =>
  bd (gI (some t) 3 3) fun x15 =>
  rn ((((100 : Int64) * v3) + x12) * (Int32.toInt64 x15))
def bX3_isMet_19  (k19 : Nat → Int32 → Option Nat → Int32 → Mo Int32) (t : Nat) (v1 : Int32) (v2 : Option Nat) (v4 : Int32) : Mo Int32 :=
  if (1 : Int32) < v4 then
    rnZ (1 : Int32)
  else
    bd (gA (some t) 3 1) fun x33 =>
    bd (gA x33 2 0) fun x36 =>
    bd (ldL x36 v4) fun x41 =>
    bd (vc 3 (some t) (fun o => pX3_totalOf o v1 v4 x41)) fun x42 =>
    bd (vc 1 v2 (fun o => pX1_allows o v4 x42)) fun x45 =>
    if x45 = 0 then
      bd (pF (some t) 3 4 (vi v1)) fun _ =>
      bd (pF (some t) 3 5 (vi v4)) fun _ =>
      bd (gA (some t) 3 1) fun x64 =>
      bd (gA x64 2 1) fun x67 =>
      bd (ldI 0 x67 v4) fun x72 =>
      bd (pF (some t) 3 6 (vi x72)) fun _ =>
      bd (gA (some t) 3 1) fun x78 =>
      bd (gA x78 2 2) fun x81 =>
      bd (ldI 0 x81 v4) fun x86 =>
      bd (pF (some t) 3 7 (vi x86)) fun _ =>
      rnZ (0 : Int32)
    else
      k19 t v1 v2 ((v4 + (1 : Int32)))
def fX3_isMet_19   : Nat → Nat → Int32 → Option Nat → Int32 → Mo Int32
  | 0 => fun _ _ _ _ => fl
  | n + 1 => bX3_isMet_19  (fX3_isMet_19   n)
def pX3_isMet  (t : Nat) (v1 : Int32) (v2 : Option Nat) (v3 : Option Nat) : Mo Int32 :=
  bd (gA (some t) 3 1) fun x1 =>
  bd (gA v2 1 0) fun x5 =>
  bd (gA (some t) 3 0) fun x10 =>
  bd (vc 2 x1 (fun o => pX2_find o x5 v3 x10)) fun _ =>
  fX3_isMet_19   FU t v1 v2 ((0 : Int32))
def bX3_firstUnmet_2  (k2 : Nat → Option Nat → Option Nat → Int32 → Mo Int32) (t : Nat) (v1 : Option Nat) (v2 : Option Nat) (v3 : Int32) : Mo Int32 :=
  bd (gI v1 0 7) fun x4 =>
  if x4 ≤ v3 then
    rn (-1 : Int32)
  else
    bd (vc 0 v1 (fun o => pX0_checkAt o v3)) fun x12 =>
    if x12 = none then
      k2 t v1 v2 ((v3 + (1 : Int32)))
    else
      bd (vc 3 (some t) (fun o => pX3_isMet o v3 x12 v2)) fun x27 =>
      if x27 = 0 then
        rn v3
      else
        k2 t v1 v2 ((v3 + (1 : Int32)))
def fX3_firstUnmet_2   : Nat → Nat → Option Nat → Option Nat → Int32 → Mo Int32
  | 0 => fun _ _ _ _ => fl
  | n + 1 => bX3_firstUnmet_2  (fX3_firstUnmet_2   n)
def pX3_firstUnmet  (t : Nat) (v1 : Option Nat) (v2 : Option Nat) : Mo Int32 :=
  fX3_firstUnmet_2   FU t v1 v2 ((0 : Int32))
def bX3_prepare_73  (k73 : Nat → Option Nat → Option Nat → Int64 → Int32 → Mo Unit) (t : Nat) (v1 : Option Nat) (v2 : Option Nat) (v5 : Int64) (v7 : Int32) : Mo Unit :=
  if (5 : Int32) ≤ v7 then
    rn ()
  else
    bd (gA (some t) 3 2) fun x80 =>
    bd (ldQ 6 x80 (0 : Int32)) fun x84 =>
    bd (stL x84 v7 (0 : Int64)) fun _ =>
    bd (gA (some t) 3 2) fun x90 =>
    bd (ldQ 6 x90 (1 : Int32)) fun x94 =>
    bd (stL x94 v7 (0 : Int64)) fun _ =>
    bd (vc 0 v1 (fun o => pX0_checkAt o v7)) fun x102 =>
    if x102 = none then
      k73 t v1 v2 v5 ((v7 + (1 : Int32)))
    else
      if v5 = (0 : Int64) then
        k73 t v1 v2 v5 ((v7 + (1 : Int32)))
      else
        bd (gA (some t) 3 1) fun x120 =>
        bd (gA x102 1 0) fun x125 =>
        bd (gA (some t) 3 0) fun x130 =>
        bd (vc 2 x120 (fun o => pX2_find o x125 v2 x130)) fun _ =>
        bd (gA (some t) 3 2) fun x137 =>
        bd (ldQ 6 x137 (0 : Int32)) fun x141 =>
        bd (gA (some t) 3 1) fun x147 =>
        bd (gA x147 2 0) fun x150 =>
        bd (ldL x150 (0 : Int32)) fun x154 =>
        bd (stL x141 v7 (v5 * x154)) fun _ =>
        bd (gA (some t) 3 2) fun x158 =>
        bd (ldQ 6 x158 (1 : Int32)) fun x162 =>
        bd (gA (some t) 3 1) fun x168 =>
        bd (gA x168 2 0) fun x171 =>
        bd (ldL x171 (1 : Int32)) fun x175 =>
        bd (stL x162 v7 (v5 * x175)) fun _ =>
        k73 t v1 v2 v5 ((v7 + (1 : Int32)))
def fX3_prepare_73   : Nat → Nat → Option Nat → Option Nat → Int64 → Int32 → Mo Unit
  | 0 => fun _ _ _ _ _ => fl
  | n + 1 => bX3_prepare_73  (fX3_prepare_73   n)
def bX3_prepare_41   (t : Nat) (v1 : Option Nat) (v2 : Option Nat) (s0 : Int32) : Mo Unit :=
  if s0 = 0 then
    fX3_prepare_73   FU t v1 v2 ((0 : Int64)) ((0 : Int32))
  else
    bd (gA v1 0 5) fun x49 =>
    bd (ldI 0 x49 (1 : Int32)) fun x53 =>
    bd (gA v1 0 5) fun x57 =>
    bd (ldI 0 x57 (2 : Int32)) fun x61 =>
    fX3_prepare_73   FU t v1 v2 ((Int32.toInt64 ((x53 - (1 : Int32)) * x61))) ((0 : Int32))
def bX3_prepare_25   (t : Nat) (v1 : Option Nat) (v2 : Option Nat) (v3 : Int32) (s0 : Option Nat) (s1 : Int32) : Mo Unit :=
  bd (pF s0 3 3 (vi s1)) fun _ =>
  if v3 = 0 then
    if v2 = none then
      bX3_prepare_41   t v1 v2 ((0 : Int32))
    else
      bX3_prepare_41   t v1 v2 ((1 : Int32))
  else
    bX3_prepare_41   t v1 v2 ((0 : Int32))
def pX3_prepare  (t : Nat) (v1 : Option Nat) (v2 : Option Nat) (v3 : Int32) : Mo Unit :=
  bd (pF (some t) 3 4 (vi (-1 : Int32))) fun _ =>
  if v3 = (2 : Int32) then
    bX3_prepare_25   t v1 v2 v3 ((some t)) ((100 : Int32))
  else
    bd (gA v1 0 5) fun x19 =>
    bd (ldI 0 x19 (0 : Int32)) fun x23 =>
    bX3_prepare_25   t v1 v2 v3 ((some t)) (((100 : Int32) + x23))
def bX5_closeOver_2  (k2 : Nat → Int32 → Int32 → Mo Unit) (t : Nat) (v1 : Int32) (v2 : Int32) : Mo Unit :=
  bd (gI (some t) 5 5) fun x4 =>
  if x4 ≤ v2 then
    rn ()
  else
    bd (gA (some t) 5 3) fun x11 =>
    bd (ldI 0 x11 v2) fun x15 =>
    if x15 = v1 then
      bd (gA (some t) 5 4) fun x21 =>
      bd (stZ x21 v2 (1 : Int32)) fun _ =>
      k2 t v1 ((v2 + (1 : Int32)))
    else
      k2 t v1 ((v2 + (1 : Int32)))
def fX5_closeOver_2   : Nat → Nat → Int32 → Int32 → Mo Unit
  | 0 => fun _ _ _ => fl
  | n + 1 => bX5_closeOver_2  (fX5_closeOver_2   n)
def pX5_closeOver  (t : Nat) (v1 : Int32) : Mo Unit :=
  fX5_closeOver_2   FU t v1 ((0 : Int32))
def bX5_openAll_2  (k2 : Nat → Int32 → Mo Unit) (t : Nat) (v1 : Int32) : Mo Unit :=
  bd (gI (some t) 5 5) fun x4 =>
  if x4 ≤ v1 then
    rn ()
  else
    bd (gA (some t) 5 4) fun x11 =>
    bd (stZ x11 v1 (0 : Int32)) fun _ =>
    k2 t ((v1 + (1 : Int32)))
def fX5_openAll_2   : Nat → Nat → Int32 → Mo Unit
  | 0 => fun _ _ => fl
  | n + 1 => bX5_openAll_2  (fX5_openAll_2   n)
def pX5_openAll  (t : Nat) : Mo Unit :=
  fX5_openAll_2   FU t ((0 : Int32))
def bX10_closeRoadsUnmet_70  (k9 : Nat → Option Nat → Int32 → Int32 → Mo Unit) (t : Nat) (v1 : Option Nat) (v2 : Int32) (v3 : Int32) : Mo Unit :=
  bd (gA (some t) 10 13) fun x71 =>
  bd (ldI 0 x71 v3) fun x75 =>
  if x75 = (-1 : Int32) then
    k9 t v1 v2 ((v3 + (1 : Int32)))
  else
    bd (gA (some t) 10 5) fun x81 =>
    bd (vc 5 x81 (fun o => pX5_closeOver o v3)) fun _ =>
    k9 t v1 v2 ((v3 + (1 : Int32)))
def bX10_closeRoadsUnmet_9  (k9 : Nat → Option Nat → Int32 → Int32 → Mo Unit) (t : Nat) (v1 : Option Nat) (v2 : Int32) (v3 : Int32) : Mo Unit :=
  bd (gI (some t) 10 1) fun x11 =>
  if x11 ≤ v3 then
    rn ()
  else
    bd (gA (some t) 10 13) fun x18 =>
    bd (stI x18 v3 (-1 : Int32)) fun _ =>
    bd (vc 10 (some t) (fun o => pX10_bridgeAt o v3)) fun x26 =>
    if x26 = none then
      bX10_closeRoadsUnmet_70  k9 t v1 v2 v3
    else
      bd (gA (some t) 10 10) fun x37 =>
      bd (gI (some t) 10 4) fun x44 =>
      bd (vc 10 (some t) (fun o => pX10_trainAt o x44)) fun x47 =>
      bd (vc 3 x37 (fun o => pX3_prepare o x26 x47 v2)) fun _ =>
      bd (gA (some t) 10 13) fun x55 =>
      bd (gA (some t) 10 10) fun x60 =>
      bd (vc 3 x60 (fun o => pX3_firstUnmet o x26 v1)) fun x66 =>
      bd (stI x55 v3 x66) fun _ =>
      bX10_closeRoadsUnmet_70  k9 t v1 v2 v3
def fX10_closeRoadsUnmet_9   : Nat → Nat → Option Nat → Int32 → Int32 → Mo Unit
  | 0 => fun _ _ _ _ => fl
  | n + 1 => bX10_closeRoadsUnmet_9  (fX10_closeRoadsUnmet_9   n)
def pX10_closeRoadsUnmet  (t : Nat) (v1 : Option Nat) (v2 : Int32) : Mo Unit :=
  bd (gA (some t) 10 5) fun x1 =>
  bd (vc 5 x1 (fun o => pX5_openAll o )) fun _ =>
  fX10_closeRoadsUnmet_9   FU t v1 v2 ((0 : Int32))
def bX10_commonDivisor_9  (k9 : Int64 → Int64 → Int32 → Mo Int64) (v4 : Int64) (v6 : Int64) (v8 : Int32) : Mo Int64 :=
  if (200 : Int32) ≤ v8 then
    rn v4
  else
    if v6 = (0 : Int64) then
      rn v4
    else
      bd (rmL v4 v6) fun x28 =>
      k9 v6 x28 ((v8 + (1 : Int32)))
def fX10_commonDivisor_9   : Nat → Int64 → Int64 → Int32 → Mo Int64
  | 0 => fun _ _ _ => fl
  | n + 1 => bX10_commonDivisor_9  (fX10_commonDivisor_9   n)
def pX10_commonDivisor  (v0 : Int64) (v2 : Int64) : Mo Int64 :=
  fX10_commonDivisor_9   FU v0 v2 ((0 : Int32))
def pX10_count  (t : Nat) (v1 : Int32) : Mo Int32 :=
  swt v1 [
    (
     bd (gI (some t) 10 1) fun x41 =>
     rn x41
    ),
    (
     bd (gI (some t) 10 3) fun x46 =>
     rn x46
    ),
    (
     bd (gA (some t) 10 5) fun x51 =>
     bd (gI x51 5 5) fun x54 =>
     rn x54
    ),
    (
     bd (vc 10 (some t) (fun o => pX10_allChecks o )) fun x59 =>
     rn x59
    ),
    (
     bd (gI (some t) 10 4) fun x64 =>
     rn x64
    ),
    (
     bd (vc 10 (some t) (fun o => pX10_allTraffic o )) fun x69 =>
     rn x69
    )
   ] (
     rn (-1002 : Int32)
    )
def bX10_partOf_29   (v5 : Int64) (s0 : Int64) : Mo Int64 :=
  bd (dvL s0 v5) fun x31 =>
  rn x31
def pX10_partOf  (v0 : Int64) (v2 : Int64) (v4 : Int32) : Mo Int64 :=
  bd (pX10_commonDivisor (abL v0) v2) fun x5 =>
  if x5 = (0 : Int64) then
    rn (0 : Int64)
  else
    if v4 = 0 then
      bX10_partOf_29   x5 v0
    else
      bX10_partOf_29   x5 v2
def bX4_effectOf_51  (k15 : Nat → Option Nat → Int32 → Int32 → Int32 → Int32 → Int64 → Int32 → Mo Int64) (t : Nat) (v1 : Option Nat) (v2 : Int32) (v3 : Int32) (v4 : Int32) (v5 : Int32) (v6 : Int64) (v8 : Int32) (s0 : Int32) (s1 : Int32) : Mo Int64 :=
  bd (gI (some t) 4 2) fun x58 =>
  bd (pX10_within (s0 - s1) (0 : Int32) x58) fun x61 =>
  if x61 = 0 then
    k15 t v1 v2 v3 v4 v5 v6 ((v8 + (1 : Int32)))
  else
    bd (gA v1 8 0) fun x70 =>
    bd (ldI 0 x70 v8) fun x75 =>
    bd (gA (some t) 4 0) fun x78 =>
    bd (ldL x78 (s0 - s1)) fun x83 =>
    k15 t v1 v2 v3 v4 v5 ((v6 + ((Int32.toInt64 x75) * x83))) ((v8 + (1 : Int32)))
def bX4_effectOf_15  (k15 : Nat → Option Nat → Int32 → Int32 → Int32 → Int32 → Int64 → Int32 → Mo Int64) (t : Nat) (v1 : Option Nat) (v2 : Int32) (v3 : Int32) (v4 : Int32) (v5 : Int32) (v6 : Int64) (v8 : Int32) : Mo Int64 :=
  bd (gI v1 8 2) fun x18 =>
  if x18 ≤ v8 then
    rn v6
  else
    bd (gA v1 8 1) fun x27 =>
    bd (ldI 0 x27 v8) fun x32 =>
    if v2 = 0 then
      bX4_effectOf_51  k15 t v1 v2 v3 v4 ((v5 + x32)) v6 v8 v3 ((v5 + x32))
    else
      bX4_effectOf_51  k15 t v1 v2 v3 v4 ((v5 + x32)) v6 v8 v3 ((v4 - (v5 + x32)))
def fX4_effectOf_15   : Nat → Nat → Option Nat → Int32 → Int32 → Int32 → Int32 → Int64 → Int32 → Mo Int64
  | 0 => fun _ _ _ _ _ _ _ _ => fl
  | n + 1 => bX4_effectOf_15  (fX4_effectOf_15   n)
def pX4_effectOf  (t : Nat) (v1 : Option Nat) (v2 : Int32) (v3 : Int32) : Mo Int64 :=
  bd (vc 8 v1 (fun o => pX8_allGaps o )) fun x1 =>
  fX4_effectOf_15   FU t v1 v2 v3 x1 ((0 : Int32)) ((0 : Int64)) ((0 : Int32))
def pX10_effect  (t : Nat) (v1 : Int32) (v2 : Int32) (v3 : Int32) (v4 : Int32) (v5 : Int32) (v6 : Int32) (v7 : Int32) : Mo Int64 :=
  bd (vc 10 (some t) (fun o => pX10_bridgeAt o v1)) fun x2 =>
  bd (vc 10 (some t) (fun o => pX10_trainAt o v4)) fun x10 =>
  if x2 = none then
    rn (-1001 : Int64)
  else
    bd (vc 0 x2 (fun o => pX0_lacksSupport o v2 v3)) fun x24 =>
    if x24 = 0 then
      if x10 = none then
        rn (-1001 : Int64)
      else
        bd (vc 0 x2 (fun o => pX0_hasResponse o v2 v3)) fun x43 =>
        if x43 = 0 then
          rn (-1002 : Int64)
        else
          bd (pX10_within v5 (0 : Int32) (1 : Int32)) fun x53 =>
          if x53 = 0 then
            rn (-1002 : Int64)
          else
            bd (gI x2 0 0) fun x64 =>
            bd (vc 8 x10 (fun o => pX8_allGaps o )) fun x69 =>
            bd (pX10_within v6 (0 : Int32) (x64 + x69)) fun x73 =>
            if x73 = 0 then
              rn (-1002 : Int64)
            else
              bd (pX10_within v7 (0 : Int32) (1 : Int32)) fun x83 =>
              if x83 = 0 then
                rn (-1002 : Int64)
              else
                bd (gA (some t) 10 7) fun x94 =>
                bd (vc 4 x94 (fun o => pX4_draw o x2 v2 v3)) fun _ =>
                bd (gA (some t) 10 7) fun x105 =>
                bd (vc 4 x105 (fun o => pX4_effectOf o x10 v5 v6)) fun x114 =>
                bd (gA (some t) 10 7) fun x118 =>
                bd (gL x118 4 1) fun x121 =>
                bd (pX10_partOf x114 x121 v7) fun x126 =>
                rn x126
    else
      rn (-1001 : Int64)
def pX10_fails  (t : Nat) (v1 : Int32) (v2 : Int32) (v3 : Int32) : Mo Int32 :=
  bd (vc 10 (some t) (fun o => pX10_bridgeAt o v1)) fun x2 =>
  bd (vc 10 (some t) (fun o => pX10_trainAt o v2)) fun x9 =>
  if x2 = none then
    rn (-1001 : Int32)
  else
    if x9 = none then
      rn (-1001 : Int32)
    else
      bd (pX10_within v3 (0 : Int32) (2 : Int32)) fun x31 =>
      if x31 = 0 then
        rn (-1002 : Int32)
      else
        bd (gA (some t) 10 10) fun x42 =>
        bd (gI (some t) 10 4) fun x49 =>
        bd (vc 10 (some t) (fun o => pX10_trainAt o x49)) fun x52 =>
        bd (vc 3 x42 (fun o => pX3_prepare o x2 x52 v3)) fun _ =>
        bd (gA (some t) 10 10) fun x60 =>
        bd (vc 3 x60 (fun o => pX3_firstUnmet o x2 x9)) fun x67 =>
        rn x67
def pX5_bridgeOf  (t : Nat) (v1 : Int32) : Mo Int32 :=
  bd (gI (some t) 5 5) fun x3 =>
  bd (pX10_within v1 (0 : Int32) (x3 - (1 : Int32))) fun x8 =>
  if x8 = 0 then
    rn (-1 : Int32)
  else
    bd (gA (some t) 5 3) fun x15 =>
    bd (ldI 0 x15 v1) fun x19 =>
    rn x19
def pX5_wayRoad  (t : Nat) (v1 : Int32) : Mo Int32 :=
  bd (gI (some t) 5 8) fun x3 =>
  bd (pX10_within v1 (0 : Int32) (x3 - (1 : Int32))) fun x8 =>
  if x8 = 0 then
    rn (-1 : Int32)
  else
    bd (gA (some t) 5 7) fun x15 =>
    bd (ldI 0 x15 v1) fun x19 =>
    rn x19
def bX10_firstUnmetOnWay_2  (k2 : Nat → Int32 → Mo Int32) (t : Nat) (v1 : Int32) : Mo Int32 :=
  bd (gA (some t) 10 5) fun x4 =>
  bd (gI x4 5 8) fun x7 =>
  if x7 ≤ v1 then
    rn (-1 : Int32)
  else
    bd (gA (some t) 10 5) fun x14 =>
    bd (gA (some t) 10 5) fun x18 =>
    bd (vc 5 x18 (fun o => pX5_wayRoad o v1)) fun x22 =>
    bd (vc 5 x14 (fun o => pX5_bridgeOf o x22)) fun x25 =>
    bd (gI (some t) 10 1) fun x32 =>
    bd (pX10_within x25 (0 : Int32) (x32 - (1 : Int32))) fun x37 =>
    if x37 = 0 then
      k2 t ((v1 + (1 : Int32)))
    else
      bd (gA (some t) 10 13) fun x44 =>
      bd (ldI 0 x44 x25) fun x48 =>
      if x48 = (-1 : Int32) then
        k2 t ((v1 + (1 : Int32)))
      else
        bd (gA (some t) 10 13) fun x58 =>
        bd (ldI 0 x58 x25) fun x62 =>
        rn (((10 : Int32) * x25) + x62)
def fX10_firstUnmetOnWay_2   : Nat → Nat → Int32 → Mo Int32
  | 0 => fun _ _ => fl
  | n + 1 => bX10_firstUnmetOnWay_2  (fX10_firstUnmetOnWay_2   n)
def pX10_firstUnmetOnWay  (t : Nat) : Mo Int32 :=
  fX10_firstUnmetOnWay_2   FU t ((0 : Int32))
def pX10_influence  (t : Nat) (v1 : Int32) (v2 : Int32) (v3 : Int32) (v4 : Int32) (v5 : Int32) : Mo Int64 :=
  bd (vc 10 (some t) (fun o => pX10_bridgeAt o v1)) fun x2 =>
  if x2 = none then
    rn (-1001 : Int64)
  else
    bd (vc 0 x2 (fun o => pX0_lacksSupport o v2 v3)) fun x16 =>
    if x16 = 0 then
      bd (vc 0 x2 (fun o => pX0_hasResponse o v2 v3)) fun x30 =>
      if x30 = 0 then
        rn (-1002 : Int64)
      else
        bd (gI x2 0 0) fun x41 =>
        bd (pX10_within v4 (0 : Int32) x41) fun x44 =>
        if x44 = 0 then
          rn (-1002 : Int64)
        else
          bd (pX10_within v5 (0 : Int32) (1 : Int32)) fun x54 =>
          if x54 = 0 then
            rn (-1002 : Int64)
          else
            bd (gA (some t) 10 7) fun x65 =>
            bd (vc 4 x65 (fun o => pX4_draw o x2 v2 v3)) fun _ =>
            bd (gA (some t) 10 7) fun x76 =>
            bd (gA x76 4 0) fun x79 =>
            bd (ldL x79 v4) fun x84 =>
            bd (gA (some t) 10 7) fun x86 =>
            bd (gL x86 4 1) fun x89 =>
            bd (pX10_partOf x84 x89 v5) fun x94 =>
            rn x94
    else
      rn (-1001 : Int64)
def pX10_isTown  (v0 : Int32) : Mo Int32 :=
  bd (pX10_within v0 (0 : Int32) (9 : Int32)) fun x4 =>
  rnZ x4
def bX10_limit_22   (t : Nat) (v3 : Int32) (v4 : Int32) (s0 : Option Nat) : Mo Int32 :=
  if s0 = none then
    rn (-1001 : Int32)
  else
    bd (pX10_limitsHold v3 v4) fun x36 =>
    if x36 = 0 then
      rn (-1002 : Int32)
    else
      bd (pF s0 1 1 (vi v3)) fun _ =>
      bd (pF s0 1 2 (vi v4)) fun _ =>
      rn (1 : Int32)
def pX10_limit  (t : Nat) (v1 : Int32) (v2 : Int32) (v3 : Int32) (v4 : Int32) : Mo Int32 :=
  bd (vc 10 (some t) (fun o => pX10_bridgeAt o v1)) fun x2 =>
  if x2 = none then
    bX10_limit_22   t v3 v4 none
  else
    bd (vc 0 x2 (fun o => pX0_checkAt o v2)) fun x19 =>
    bX10_limit_22   t v3 v4 x19
def pX3_failsAsBefore  (t : Nat) (v1 : Option Nat) (v2 : Option Nat) : Mo Int32 :=
  bd (gI (some t) 3 4) fun x2 =>
  bd (vc 0 v1 (fun o => pX0_checkAt o x2)) fun x5 =>
  if x5 = none then
    rnZ (0 : Int32)
  else
    bd (gI (some t) 3 6) fun x14 =>
    if x14 = (-1 : Int32) then
      rnZ (0 : Int32)
    else
      bd (gA x5 1 0) fun x24 =>
      bd (gI (some t) 3 6) fun x29 =>
      bd (gI (some t) 3 7) fun x33 =>
      bd (vc 4 x24 (fun o => pX4_effectOf o v2 x29 x33)) fun x36 =>
      bd (gI (some t) 3 5) fun x43 =>
      bd (gI (some t) 3 4) fun x48 =>
      bd (gI (some t) 3 5) fun x52 =>
      bd (vc 3 (some t) (fun o => pX3_totalOf o x48 x52 x36)) fun x57 =>
      bd (vc 1 x5 (fun o => pX1_allows o x43 x57)) fun x60 =>
      if x60 = 0 then
        rnZ (1 : Int32)
      else
        rnZ (0 : Int32)
def pX3_allMet  (t : Nat) (v1 : Option Nat) (v2 : Option Nat) : Mo Int32 :=
  bd (vc 3 (some t) (fun o => pX3_failsAsBefore o v1 v2)) fun x3 =>
  if x3 = 0 then
    bd (vc 3 (some t) (fun o => pX3_firstUnmet o v1 v2)) fun x12 =>
    if x12 = (-1 : Int32) then
      rnZ (1 : Int32)
    else
      rnZ (0 : Int32)
  else
    rnZ (0 : Int32)
def bX8_copyWeighing_10  (k10 : Nat → Option Nat → Int32 → Int32 → Mo Unit) (t : Nat) (v1 : Option Nat) (v2 : Int32) (v3 : Int32) : Mo Unit :=
  bd (gI (some t) 8 2) fun x12 =>
  if x12 ≤ v3 then
    rn ()
  else
    bd (gA (some t) 8 1) fun x19 =>
    bd (gA v1 8 1) fun x24 =>
    bd (ldI 0 x24 v3) fun x28 =>
    bd (stI x19 v3 x28) fun _ =>
    bd (gA (some t) 8 0) fun x31 =>
    bd (gA v1 8 0) fun x36 =>
    bd (ldI 0 x36 v3) fun x40 =>
    bd (dvI (x40 * v2) (100 : Int32)) fun x45 =>
    bd (stI x31 v3 x45) fun _ =>
    k10 t v1 v2 ((v3 + (1 : Int32)))
def fX8_copyWeighing_10   : Nat → Nat → Option Nat → Int32 → Int32 → Mo Unit
  | 0 => fun _ _ _ _ => fl
  | n + 1 => bX8_copyWeighing_10  (fX8_copyWeighing_10   n)
def pX8_copyWeighing  (t : Nat) (v1 : Option Nat) (v2 : Int32) : Mo Unit :=
  bd (gI v1 8 2) fun x2 =>
  bd (pF (some t) 8 2 (vi x2)) fun _ =>
  fX8_copyWeighing_10   FU t v1 v2 ((0 : Int32))
def bX10_posted_75  (k75 : Nat → Option Nat → Option Nat → Int32 → Mo Int32) (t : Nat) (v3 : Option Nat) (v4 : Option Nat) (v5 : Int32) : Mo Int32 :=
  if v5 ≤ 0 then
    rn (0 : Int32)
  else
    bd (gA (some t) 10 12) fun x81 =>
    bd (vc 8 x81 (fun o => pX8_copyWeighing o v4 v5)) fun _ =>
    bd (gA (some t) 10 10) fun x92 =>
    bd (gA (some t) 10 12) fun x97 =>
    bd (vc 3 x92 (fun o => pX3_allMet o v3 x97)) fun x100 =>
    if x100 = 0 then
      k75 t v3 v4 ((v5 + (-1 : Int32)))
    else
      rn v5
def fX10_posted_75   : Nat → Nat → Option Nat → Option Nat → Int32 → Mo Int32
  | 0 => fun _ _ _ _ => fl
  | n + 1 => bX10_posted_75  (fX10_posted_75   n)
def pX10_posted  (t : Nat) (v1 : Int32) (v2 : Int32) : Mo Int32 :=
  bd (vc 10 (some t) (fun o => pX10_bridgeAt o v1)) fun x2 =>
  bd (vc 10 (some t) (fun o => pX10_trainAt o v2)) fun x8 =>
  if x2 = none then
    rn (-1001 : Int32)
  else
    if x8 = none then
      rn (-1001 : Int32)
    else
      bd (gA (some t) 10 10) fun x27 =>
      bd (gI (some t) 10 4) fun x33 =>
      bd (vc 10 (some t) (fun o => pX10_trainAt o x33)) fun x36 =>
      bd (vc 3 x27 (fun o => pX3_prepare o x2 x36 (0 : Int32))) fun _ =>
      bd (gA (some t) 10 12) fun x44 =>
      bd (vc 8 x44 (fun o => pX8_copyWeighing o x8 (0 : Int32))) fun _ =>
      bd (gA (some t) 10 10) fun x54 =>
      bd (gA (some t) 10 12) fun x59 =>
      bd (vc 3 x54 (fun o => pX3_allMet o x2 x59)) fun x62 =>
      if x62 = 0 then
        rn (-1 : Int32)
      else
        fX10_posted_75   FU t x2 x8 ((300 : Int32))
def pX5_lay  (t : Nat) (v1 : Int32) (v2 : Int32) (v3 : Int32) (v4 : Int32) : Mo Int32 :=
  bd (gI (some t) 5 5) fun x1 =>
  if x1 < (24 : Int32) then
    bd (gA (some t) 5 0) fun x12 =>
    bd (gI (some t) 5 5) fun x16 =>
    bd (stI x12 x16 v1) fun _ =>
    bd (gA (some t) 5 1) fun x22 =>
    bd (gI (some t) 5 5) fun x26 =>
    bd (stI x22 x26 v2) fun _ =>
    bd (gA (some t) 5 2) fun x32 =>
    bd (gI (some t) 5 5) fun x36 =>
    bd (stI x32 x36 v3) fun _ =>
    bd (gA (some t) 5 3) fun x42 =>
    bd (gI (some t) 5 5) fun x46 =>
    bd (stI x42 x46 v4) fun _ =>
    bd (gI (some t) 5 5) fun x54 =>
    bd (pF (some t) 5 5 (vi (x54 + (1 : Int32)))) fun _ =>
    rnZ (1 : Int32)
  else
    rnZ (0 : Int32)
def bX10_road_33   (t : Nat) (v1 : Int32) (v2 : Int32) (v3 : Int32) (v4 : Int32) : Mo Int32 :=
  bd (pX10_within v3 (1 : Int32) (500 : Int32)) fun x38 =>
  if x38 = 0 then
    rn (-1002 : Int32)
  else
    if v1 = v2 then
      rn (-1002 : Int32)
    else
      bd (gA (some t) 10 5) fun x54 =>
      bd (vc 5 x54 (fun o => pX5_lay o v1 v2 v3 v4)) fun x62 =>
      if x62 = 0 then
        rn (-1004 : Int32)
      else
        bd (gA (some t) 10 5) fun x73 =>
        bd (gI x73 5 5) fun x76 =>
        rn (x76 - (1 : Int32))
def pX10_road  (t : Nat) (v1 : Int32) (v2 : Int32) (v3 : Int32) (v4 : Int32) : Mo Int32 :=
  bd (pX10_isTown v1) fun x1 =>
  if x1 = 0 then
    rn (-1001 : Int32)
  else
    bd (pX10_isTown v2) fun x8 =>
    if x8 = 0 then
      rn (-1001 : Int32)
    else
      if v4 = (-1 : Int32) then
        bX10_road_33   t v1 v2 v3 v4
      else
        bd (vc 10 (some t) (fun o => pX10_bridgeAt o v4)) fun x23 =>
        if x23 = none then
          rn (-1001 : Int32)
        else
          bX10_road_33   t v1 v2 v3 v4
def pX5_costOf  (t : Nat) (v1 : Int32) : Mo Int32 :=
  bd (gA (some t) 5 2) fun x1 =>
  bd (ldI 0 x1 v1) fun x5 =>
  rn ((x5 * (1000 : Int32)) + (1 : Int32))
def pX5_otherEnd  (t : Nat) (v1 : Int32) (v2 : Int32) : Mo Int32 :=
  bd (gA (some t) 5 0) fun x1 =>
  bd (ldI 0 x1 v1) fun x5 =>
  if x5 = v2 then
    bd (gA (some t) 5 1) fun x11 =>
    bd (ldI 0 x11 v1) fun x15 =>
    rn x15
  else
    bd (gA (some t) 5 0) fun x20 =>
    bd (ldI 0 x20 v1) fun x24 =>
    rn x24
def bX5_firstRoadOn_35  (k2 : Nat → Int32 → Int32 → Mo Int32) (t : Nat) (v1 : Int32) (v2 : Int32) (s0 : Int32) : Mo Int32 :=
  if s0 = 0 then
    k2 t v1 ((v2 + (1 : Int32)))
  else
    bd (gA (some t) 5 4) fun x41 =>
    bd (ldI 2 x41 v2) fun x45 =>
    if x45 = 0 then
      bd (gA (some t) 5 6) fun x50 =>
      bd (vc 5 (some t) (fun o => pX5_otherEnd o v2 v1)) fun x56 =>
      bd (ldI 0 x50 x56) fun x59 =>
      bd (vc 5 (some t) (fun o => pX5_costOf o v2)) fun x62 =>
      bd (gA (some t) 5 6) fun x67 =>
      bd (ldI 0 x67 v1) fun x71 =>
      if (x59 + x62) = x71 then
        rn v2
      else
        k2 t v1 ((v2 + (1 : Int32)))
    else
      k2 t v1 ((v2 + (1 : Int32)))
def bX5_firstRoadOn_2  (k2 : Nat → Int32 → Int32 → Mo Int32) (t : Nat) (v1 : Int32) (v2 : Int32) : Mo Int32 :=
  bd (gI (some t) 5 5) fun x4 =>
  if x4 ≤ v2 then
    rn (-1 : Int32)
  else
    bd (gA (some t) 5 0) fun x11 =>
    bd (ldI 0 x11 v2) fun x15 =>
    if x15 = v1 then
      bX5_firstRoadOn_35  k2 t v1 v2 ((1 : Int32))
    else
      bd (gA (some t) 5 1) fun x21 =>
      bd (ldI 0 x21 v2) fun x25 =>
      if x25 = v1 then
        bX5_firstRoadOn_35  k2 t v1 v2 ((1 : Int32))
      else
        bX5_firstRoadOn_35  k2 t v1 v2 ((0 : Int32))
def fX5_firstRoadOn_2   : Nat → Nat → Int32 → Int32 → Mo Int32
  | 0 => fun _ _ _ => fl
  | n + 1 => bX5_firstRoadOn_2  (fX5_firstRoadOn_2   n)
def pX5_firstRoadOn  (t : Nat) (v1 : Int32) : Mo Int32 :=
  fX5_firstRoadOn_2   FU t v1 ((0 : Int32))
def bJ7_fill_53178_5  (k5 : Option Nat → Int32 → Int32 → Int32 → Mo Unit) (v0 : Option Nat) (v1 : Int32) (v2 : Int32) (v3 : Int32) : Mo Unit :=
  if v3 ≤ v2 then
    rn ()
  else
    bd (stI v0 v2 v1) fun _ =>
    k5 v0 v1 ((v2 + (1 : Int32))) v3
def fJ7_fill_53178_5   : Nat → Option Nat → Int32 → Int32 → Int32 → Mo Unit
  | 0 => fun _ _ _ _ => fl
  | n + 1 => bJ7_fill_53178_5  (fJ7_fill_53178_5   n)
def pJ7_fill_53178  (v0 : Option Nat) (v1 : Int32) : Mo Unit :=
  bd (aln v0) fun x3 =>
  fJ7_fill_53178_5   FU v0 v1 ((0 : Int32)) x3
def bX5_spreadCosts_26  (k18 : Nat → Int32 → Mo Unit) (k26 : Nat → Int32 → Int32 → Mo Unit) (t : Nat) (v2 : Int32) (v3 : Int32) : Mo Unit :=
  bd (gI (some t) 5 5) fun x28 =>
  if x28 ≤ v3 then
    k18 t ((v2 + (1 : Int32)))
  else
    bd (gA (some t) 5 4) fun x35 =>
    bd (ldI 2 x35 v3) fun x39 =>
    if x39 = 0 then
      bd (gA (some t) 5 0) fun x44 =>
      bd (ldI 0 x44 v3) fun x48 =>
      bd (gA (some t) 5 1) fun x52 =>
      bd (ldI 0 x52 v3) fun x56 =>
      bd (gA (some t) 5 6) fun x60 =>
      bd (gA (some t) 5 6) fun x66 =>
      bd (ldI 0 x66 x48) fun x71 =>
      bd (gA (some t) 5 6) fun x73 =>
      bd (ldI 0 x73 x56) fun x78 =>
      bd (vc 5 (some t) (fun o => pX5_costOf o v3)) fun x81 =>
      bd (stI x60 x48 (mnI x71 (x78 + x81))) fun _ =>
      bd (gA (some t) 5 6) fun x90 =>
      bd (gA (some t) 5 6) fun x96 =>
      bd (ldI 0 x96 x56) fun x101 =>
      bd (gA (some t) 5 6) fun x103 =>
      bd (ldI 0 x103 x48) fun x108 =>
      bd (vc 5 (some t) (fun o => pX5_costOf o v3)) fun x111 =>
      bd (stI x90 x56 (mnI x101 (x108 + x111))) fun _ =>
      k26 t v2 ((v3 + (1 : Int32)))
    else
      k26 t v2 ((v3 + (1 : Int32)))
def fX5_spreadCosts_26  (k18 : Nat → Int32 → Mo Unit) : Nat → Nat → Int32 → Int32 → Mo Unit
  | 0 => fun _ _ _ => fl
  | n + 1 => bX5_spreadCosts_26  k18 (fX5_spreadCosts_26  k18 n)
def bX5_spreadCosts_18  (k18 : Nat → Int32 → Mo Unit) (t : Nat) (v2 : Int32) : Mo Unit :=
  if (10 : Int32) ≤ v2 then
    rn ()
  else
    fX5_spreadCosts_26  k18 FU t v2 ((0 : Int32))
def fX5_spreadCosts_18   : Nat → Nat → Int32 → Mo Unit
  | 0 => fun _ _ => fl
  | n + 1 => bX5_spreadCosts_18  (fX5_spreadCosts_18   n)
def pX5_spreadCosts  (t : Nat) (v1 : Int32) : Mo Unit :=
  bd (gA (some t) 5 6) fun x1 =>
  bd (pJ7_fill_53178 x1 (1000000000 : Int32)) fun _ =>
  bd (gA (some t) 5 6) fun x10 =>
  bd (stI x10 v1 (0 : Int32)) fun _ =>
  fX5_spreadCosts_18   FU t ((1 : Int32))
def bX5_search_42  (k42 : Nat → Int32 → Int32 → Int32 → Mo Int32) (t : Nat) (v2 : Int32) (v3 : Int32) (v4 : Int32) : Mo Int32 :=
  if (10 : Int32) ≤ v4 then
    rnZ (1 : Int32)
  else
    if v3 = v2 then
      rnZ (1 : Int32)
    else
      bd (vc 5 (some t) (fun o => pX5_firstRoadOn o v3)) fun x56 =>
      if x56 = (-1 : Int32) then
        rnZ (0 : Int32)
      else
        bd (gA (some t) 5 7) fun x70 =>
        bd (stI x70 v4 x56) fun _ =>
        bd (gI (some t) 5 8) fun x80 =>
        bd (pF (some t) 5 8 (vi (x80 + (1 : Int32)))) fun _ =>
        bd (vc 5 (some t) (fun o => pX5_otherEnd o x56 v3)) fun x92 =>
        k42 t v2 x92 ((v4 + (1 : Int32)))
def fX5_search_42   : Nat → Nat → Int32 → Int32 → Int32 → Mo Int32
  | 0 => fun _ _ _ _ => fl
  | n + 1 => bX5_search_42  (fX5_search_42   n)
def pX5_search  (t : Nat) (v1 : Int32) (v2 : Int32) : Mo Int32 :=
  bd (vc 5 (some t) (fun o => pX5_spreadCosts o v2)) fun _ =>
  bd (pF (some t) 5 8 (vi (0 : Int32))) fun _ =>
  bd (gA (some t) 5 6) fun x12 =>
  bd (ldI 0 x12 v1) fun x16 =>
  bd (dvI x16 (1000 : Int32)) fun x20 =>
  bd (pF (some t) 5 9 (vi x20)) fun _ =>
  bd (gA (some t) 5 6) fun x25 =>
  bd (ldI 0 x25 v1) fun x29 =>
  if x29 < (1000000000 : Int32) then
    fX5_search_42   FU t v2 v1 ((0 : Int32))
  else
    rnZ (0 : Int32)
def pX10_route  (t : Nat) (v1 : Int32) (v2 : Int32) (v3 : Int32) (v4 : Int32) (v5 : Int32) : Mo Int32 :=
  bd (vc 10 (some t) (fun o => pX10_trainAt o v1)) fun x2 =>
  if x2 = none then
    rn (-1001 : Int32)
  else
    bd (pX10_isTown v3) fun x13 =>
    if x13 = 0 then
      rn (-1001 : Int32)
    else
      bd (pX10_isTown v4) fun x21 =>
      if x21 = 0 then
        rn (-1001 : Int32)
      else
        bd (pX10_within v2 (0 : Int32) (2 : Int32)) fun x34 =>
        if x34 = 0 then
          rn (-1002 : Int32)
        else
          bd (pX10_within v5 (0 : Int32) (11 : Int32)) fun x45 =>
          if x45 = 0 then
            rn (-1002 : Int32)
          else
            if v3 = v4 then
              rn (-1002 : Int32)
            else
              bd (vc 10 (some t) (fun o => pX10_closeRoadsUnmet o x2 v2)) fun _ =>
              bd (gA (some t) 10 5) fun x69 =>
              bd (vc 5 x69 (fun o => pX5_search o v3 v4)) fun x75 =>
              if x75 = 0 then
                rn (-1 : Int32)
              else
                if v5 = 0 then
                  bd (gA (some t) 10 5) fun x89 =>
                  bd (gI x89 5 9) fun x92 =>
                  rn x92
                else
                  if v5 = (1 : Int32) then
                    bd (gA (some t) 10 5) fun x103 =>
                    bd (gI x103 5 8) fun x106 =>
                    rn x106
                  else
                    bd (gA (some t) 10 5) fun x111 =>
                    bd (vc 5 x111 (fun o => pX5_wayRoad o (v5 - (2 : Int32)))) fun x118 =>
                    rn x118
def pX10_rule  (t : Nat) (v1 : Int32) (v2 : Int32) (v3 : Int32) : Mo Int32 :=
  bd (vc 10 (some t) (fun o => pX10_bridgeAt o v1)) fun x2 =>
  if x2 = none then
    rn (-1001 : Int32)
  else
    bd (pX10_within v2 (0 : Int32) (2 : Int32)) fun x19 =>
    if x19 = 0 then
      rn (-1002 : Int32)
    else
      bd (tb least v2) fun x26 =>
      bd (tb most v2) fun x31 =>
      bd (pX10_within v3 x26 x31) fun x36 =>
      if x36 = 0 then
        rn (-1002 : Int32)
      else
        bd (gA x2 0 5) fun x48 =>
        bd (ldI 0 x48 v2) fun x52 =>
        bd (gA x2 0 5) fun x57 =>
        bd (stI x57 v2 v3) fun _ =>
        rn x52
def bX8_copySpread_39  (k10 : Nat → Option Nat → Int32 → Int32 → Mo Unit) (t : Nat) (v1 : Option Nat) (v2 : Int32) (v3 : Int32) (s0 : Option Nat) (s1 : Int32) (s2 : Int32) : Mo Unit :=
  bd (stI s0 s1 s2) fun _ =>
  bd (gA (some t) 8 0) fun x41 =>
  bd (gA v1 8 0) fun x46 =>
  bd (ldI 0 x46 v3) fun x50 =>
  bd (stI x41 v3 x50) fun _ =>
  k10 t v1 v2 ((v3 + (1 : Int32)))
def bX8_copySpread_10  (k10 : Nat → Option Nat → Int32 → Int32 → Mo Unit) (t : Nat) (v1 : Option Nat) (v2 : Int32) (v3 : Int32) : Mo Unit :=
  bd (gI (some t) 8 2) fun x12 =>
  if x12 ≤ v3 then
    rn ()
  else
    bd (gA (some t) 8 1) fun x19 =>
    if v3 = 0 then
      bX8_copySpread_39  k10 t v1 v2 v3 x19 v3 ((0 : Int32))
    else
      bd (gA v1 8 1) fun x32 =>
      bd (ldI 0 x32 v3) fun x36 =>
      bX8_copySpread_39  k10 t v1 v2 v3 x19 v3 ((x36 + v2))
def fX8_copySpread_10   : Nat → Nat → Option Nat → Int32 → Int32 → Mo Unit
  | 0 => fun _ _ _ _ => fl
  | n + 1 => bX8_copySpread_10  (fX8_copySpread_10   n)
def pX8_copySpread  (t : Nat) (v1 : Option Nat) (v2 : Int32) : Mo Unit :=
  bd (gI v1 8 2) fun x2 =>
  bd (pF (some t) 8 2 (vi x2)) fun _ =>
  fX8_copySpread_10   FU t v1 v2 ((0 : Int32))
def bX10_spread_62  (k62 : Nat → Option Nat → Option Nat → Int32 → Mo Int32) (t : Nat) (v4 : Option Nat) (v5 : Option Nat) (v6 : Int32) : Mo Int32 :=
  if (20 : Int32) < v6 then
    rn (-1 : Int32)
  else
    bd (gA (some t) 10 12) fun x70 =>
    bd (vc 8 x70 (fun o => pX8_copySpread o v5 v6)) fun _ =>
    bd (gA (some t) 10 10) fun x81 =>
    bd (gA (some t) 10 12) fun x87 =>
    bd (vc 3 x81 (fun o => pX3_allMet o v4 x87)) fun x90 =>
    if x90 = 0 then
      k62 t v4 v5 ((v6 + (1 : Int32)))
    else
      rn v6
def fX10_spread_62   : Nat → Nat → Option Nat → Option Nat → Int32 → Mo Int32
  | 0 => fun _ _ _ _ => fl
  | n + 1 => bX10_spread_62  (fX10_spread_62   n)
def pX10_spread  (t : Nat) (v1 : Int32) (v2 : Int32) (v3 : Int32) : Mo Int32 :=
  bd (vc 10 (some t) (fun o => pX10_bridgeAt o v1)) fun x2 =>
  bd (vc 10 (some t) (fun o => pX10_trainAt o v2)) fun x9 =>
  if x2 = none then
    rn (-1001 : Int32)
  else
    if x9 = none then
      rn (-1001 : Int32)
    else
      bd (pX10_within v3 (0 : Int32) (2 : Int32)) fun x31 =>
      if x31 = 0 then
        rn (-1002 : Int32)
      else
        bd (gA (some t) 10 10) fun x42 =>
        bd (gI (some t) 10 4) fun x49 =>
        bd (vc 10 (some t) (fun o => pX10_trainAt o x49)) fun x52 =>
        bd (vc 3 x42 (fun o => pX3_prepare o x2 x52 v3)) fun _ =>
        fX10_spread_62   FU t x2 x9 ((0 : Int32))
def pX10_told  (t : Nat) (v1 : Int32) (v2 : Int32) : Mo Int32 :=
  bd (vc 10 (some t) (fun o => pX10_bridgeAt o v1)) fun x2 =>
  if x2 = none then
    rn (-1001 : Int32)
  else
    swt v2 [
      (
       bd (gI x2 0 0) fun x57 =>
       rn x57
      ),
      (
       bd (gA x2 0 1) fun x62 =>
       bd (aln x62) fun x65 =>
       rn x65
      ),
      (
       bd (gI x2 0 2) fun x68 =>
       rn x68
      ),
      (
       bd (gI x2 0 7) fun x73 =>
       rn x73
      ),
      (
       bd (gA x2 0 5) fun x78 =>
       bd (ldI 0 x78 (0 : Int32)) fun x82 =>
       rn x82
      ),
      (
       bd (gA x2 0 5) fun x85 =>
       bd (ldI 0 x85 (1 : Int32)) fun x89 =>
       rn x89
      ),
      (
       bd (gA x2 0 5) fun x92 =>
       bd (ldI 0 x92 (2 : Int32)) fun x96 =>
       rn x96
      )
     ] (
       rn (-1002 : Int32)
      )
def bX10_total_22   (t : Nat) (v2 : Int32) (v3 : Int32) (v4 : Int32) (v5 : Int32) (v6 : Int32) (v7 : Option Nat) (s0 : Option Nat) : Mo Int64 :=
  bd (vc 10 (some t) (fun o => pX10_trainAt o v3)) fun x26 =>
  if v7 = none then
    rn (-1001 : Int64)
  else
    if s0 = none then
      rn (-1001 : Int64)
    else
      if x26 = none then
        rn (-1001 : Int64)
      else
        bd (pX10_within v4 (0 : Int32) (2 : Int32)) fun x54 =>
        if x54 = 0 then
          rn (-1002 : Int64)
        else
          bd (pX10_within v5 (0 : Int32) (1 : Int32)) fun x64 =>
          if x64 = 0 then
            rn (-1002 : Int64)
          else
            bd (pX10_within v6 (0 : Int32) (1 : Int32)) fun x74 =>
            if x74 = 0 then
              rn (-1002 : Int64)
            else
              bd (gA (some t) 10 10) fun x85 =>
              bd (gI (some t) 10 4) fun x92 =>
              bd (vc 10 (some t) (fun o => pX10_trainAt o x92)) fun x95 =>
              bd (vc 3 x85 (fun o => pX3_prepare o v7 x95 v4)) fun _ =>
              bd (gA (some t) 10 9) fun x104 =>
              bd (gA s0 1 0) fun x109 =>
              bd (gA (some t) 10 8) fun x115 =>
              bd (vc 2 x104 (fun o => pX2_find o x109 x26 x115)) fun _ =>
              bd (gA (some t) 10 10) fun x122 =>
              bd (gA (some t) 10 9) fun x129 =>
              bd (gA x129 2 0) fun x132 =>
              bd (ldL x132 v5) fun x137 =>
              bd (vc 3 x122 (fun o => pX3_totalOf o v2 v5 x137)) fun x138 =>
              bd (vc 1 s0 (fun o => pX1_totalLower o )) fun x143 =>
              bd (pX10_partOf x138 x143 v6) fun x148 =>
              rn x148
def pX10_total  (t : Nat) (v1 : Int32) (v2 : Int32) (v3 : Int32) (v4 : Int32) (v5 : Int32) (v6 : Int32) : Mo Int64 :=
  bd (vc 10 (some t) (fun o => pX10_bridgeAt o v1)) fun x2 =>
  if x2 = none then
    bX10_total_22   t v2 v3 v4 v5 v6 x2 none
  else
    bd (vc 0 x2 (fun o => pX0_checkAt o v2)) fun x19 =>
    bX10_total_22   t v2 v3 v4 v5 v6 x2 x19
def pX10_traffic  (t : Nat) (v1 : Int32) (v2 : Int32) : Mo Int32 :=
  bd (vc 10 (some t) (fun o => pX10_trainAt o v1)) fun x2 =>
  if x2 = none then
    rn (-1001 : Int32)
  else
    bd (pX10_within v2 (0 : Int32) (1000 : Int32)) fun x19 =>
    if x19 = 0 then
      rn (-1002 : Int32)
    else
      bd (gI x2 8 3) fun x30 =>
      bd (pF x2 8 3 (vi v2)) fun _ =>
      rn x30
def pX10_train  (t : Nat) (v1 : Int32) : Mo Int32 :=
  bd (pX10_within v1 (1 : Int32) (200 : Int32)) fun x5 =>
  if x5 = 0 then
    rn (-1002 : Int32)
  else
    bd (gI (some t) 10 3) fun x16 =>
    if x16 < (8 : Int32) then
      bd (nwO 8 [vr none, vr none, vi 0, vi 0]) fun x28 =>
      bd (vn x28 (fun o => pX8_init o )) fun _ =>
      bd (vc 8 x28 (fun o => pX8_couple o (0 : Int32) v1)) fun x39 =>
      bd (gA (some t) 10 2) fun x44 =>
      bd (gI (some t) 10 3) fun x48 =>
      bd (stQ 5 8 x44 x48 x28) fun _ =>
      bd (gI (some t) 10 3) fun x55 =>
      bd (pF (some t) 10 3 (vi (x55 + (1 : Int32)))) fun _ =>
      bd (gI (some t) 10 3) fun x64 =>
      rn (x64 - (1 : Int32))
    else
      rn (-1004 : Int32)
def bX10_usual_17   (t : Nat) (v1 : Int32) : Mo Int32 :=
  bd (gI (some t) 10 4) fun x18 =>
  bd (pF (some t) 10 4 (vi v1)) fun _ =>
  rn x18
def pX10_usual  (t : Nat) (v1 : Int32) : Mo Int32 :=
  if v1 = (-1 : Int32) then
    bX10_usual_17   t v1
  else
    bd (vc 10 (some t) (fun o => pX10_trainAt o v1)) fun x7 =>
    if x7 = none then
      rn (-1001 : Int32)
    else
      bX10_usual_17   t v1
def pX9_liesBetween  (v0 : Int64) (v2 : Int64) (v4 : Int64) : Mo Int32 :=
  if v0 < (mnL v2 v4) then
    rnZ (0 : Int32)
  else
    if (mxL v2 v4) < v0 then
      rnZ (0 : Int32)
    else
      rnZ (1 : Int32)
def bX9_push_50   (t : Nat) (v1 : Int64) : Mo Unit :=
  bd (gI (some t) 9 1) fun x51 =>
  bd (gA (some t) 9 0) fun x55 =>
  bd (aln x55) fun x58 =>
  if x58 ≤ x51 then
    rn ()
  else
    bd (gA (some t) 9 0) fun x63 =>
    bd (gI (some t) 9 1) fun x67 =>
    bd (stL x63 x67 v1) fun _ =>
    bd (gI (some t) 9 1) fun x74 =>
    bd (pF (some t) 9 1 (vi (x74 + (1 : Int32)))) fun _ =>
    rn ()
def bX9_push_0  (k0 : Nat → Int64 → Mo Unit) (t : Nat) (v1 : Int64) : Mo Unit :=
  bd (gI (some t) 9 1) fun x1 =>
  if x1 < (2 : Int32) then
    bX9_push_50   t v1
  else
    bd (gA (some t) 9 0) fun x9 =>
    bd (gI (some t) 9 1) fun x13 =>
    bd (ldL x9 (x13 - (1 : Int32))) fun x18 =>
    bd (gA (some t) 9 0) fun x20 =>
    bd (gI (some t) 9 1) fun x24 =>
    bd (ldL x20 (x24 - (2 : Int32))) fun x29 =>
    bd (pX9_liesBetween x18 x29 v1) fun x31 =>
    if x31 = 0 then
      bX9_push_50   t v1
    else
      bd (gI (some t) 9 1) fun x39 =>
      bd (pF (some t) 9 1 (vi (x39 - (1 : Int32)))) fun _ =>
      k0 t v1
def fX9_push_0   : Nat → Nat → Int64 → Mo Unit
  | 0 => fun _ _ => fl
  | n + 1 => bX9_push_0  (fX9_push_0   n)
def pX9_push  (t : Nat) (v1 : Int64) : Mo Unit :=
  fX9_push_0   FU t v1
def pX4_cut  (t : Nat) (v1 : Int64) : Mo Int64 :=
  bd (gL (some t) 4 1) fun x1 =>
  if x1 = (0 : Int64) then
    rn (0 : Int64)
  else
    bd (gL (some t) 4 1) fun x15 =>
    bd (dvL v1 x15) fun x18 =>
    rn x18
def pX9_cube  (v0 : Int64) : Mo Int64 :=
  rn ((v0 * v0) * v0)
def pX9_step  (t : Nat) (v1 : Int32) : Mo Int64 :=
  bd (gA (some t) 9 0) fun x1 =>
  bd (ldL x1 (v1 + (1 : Int32))) fun x7 =>
  bd (gA (some t) 9 0) fun x9 =>
  bd (ldL x9 v1) fun x13 =>
  rn (abL (x7 - x13))
def bX9_takeHalfTurns_2  (k2 : Nat → Option Nat → Int32 → Mo Unit) (t : Nat) (v1 : Option Nat) (v2 : Int32) : Mo Unit :=
  bd (gI (some t) 9 1) fun x6 =>
  if x6 ≤ (v2 + (1 : Int32)) then
    rn ()
  else
    bd (gI (some t) 9 3) fun x14 =>
    bd (pF (some t) 9 3 (vi (x14 + (1 : Int32)))) fun _ =>
    bd (gL (some t) 9 4) fun x24 =>
    bd (vc 9 (some t) (fun o => pX9_step o v2)) fun x30 =>
    bd (vc 4 v1 (fun o => pX4_cut o x30)) fun x33 =>
    bd (pX9_cube x33) fun x36 =>
    bd (pF (some t) 9 4 (vl (x24 + x36))) fun _ =>
    k2 t v1 ((v2 + (1 : Int32)))
def fX9_takeHalfTurns_2   : Nat → Nat → Option Nat → Int32 → Mo Unit
  | 0 => fun _ _ _ => fl
  | n + 1 => bX9_takeHalfTurns_2  (fX9_takeHalfTurns_2   n)
def pX9_takeHalfTurns  (t : Nat) (v1 : Option Nat) : Mo Unit :=
  fX9_takeHalfTurns_2   FU t v1 ((0 : Int32))
def pX9_innerStepIsLeast  (t : Nat) (v1 : Int32) : Mo Int32 :=
  bd (vc 9 (some t) (fun o => pX9_step o (v1 + (1 : Int32)))) fun x4 =>
  bd (vc 9 (some t) (fun o => pX9_step o v1)) fun x11 =>
  if x11 < x4 then
    rnZ (0 : Int32)
  else
    bd (vc 9 (some t) (fun o => pX9_step o (v1 + (2 : Int32)))) fun x23 =>
    if x23 < x4 then
      rnZ (0 : Int32)
    else
      rnZ (1 : Int32)
def bX9_takeWholeTurns_27  (k4 : Nat → Option Nat → Int32 → Int32 → Mo Unit) (k27 : Nat → Option Nat → Int32 → Int32 → Mo Unit) (t : Nat) (v1 : Option Nat) (v2 : Int32) (v3 : Int32) : Mo Unit :=
  if v2 < (4 : Int32) then
    k4 t v1 v2 ((v3 + (1 : Int32)))
  else
    bd (vc 9 (some t) (fun o => pX9_innerStepIsLeast o (v2 - (4 : Int32)))) fun x36 =>
    if x36 = 0 then
      k4 t v1 v2 ((v3 + (1 : Int32)))
    else
      bd (gI (some t) 9 2) fun x44 =>
      bd (pF (some t) 9 2 (vi (x44 + (1 : Int32)))) fun _ =>
      bd (gL (some t) 9 4) fun x54 =>
      bd (vc 9 (some t) (fun o => pX9_step o (v2 - (3 : Int32)))) fun x65 =>
      bd (vc 4 v1 (fun o => pX4_cut o x65)) fun x68 =>
      bd (pX9_cube x68) fun x71 =>
      bd (pF (some t) 9 4 (vl (x54 + ((2 : Int64) * x71)))) fun _ =>
      bd (gA (some t) 9 0) fun x80 =>
      bd (gA (some t) 9 0) fun x87 =>
      bd (ldL x87 (v2 - (1 : Int32))) fun x93 =>
      bd (stL x80 (v2 - (3 : Int32)) x93) fun _ =>
      k27 t v1 ((v2 + (-2 : Int32))) v3
def fX9_takeWholeTurns_27  (k4 : Nat → Option Nat → Int32 → Int32 → Mo Unit) : Nat → Nat → Option Nat → Int32 → Int32 → Mo Unit
  | 0 => fun _ _ _ _ => fl
  | n + 1 => bX9_takeWholeTurns_27  k4 (fX9_takeWholeTurns_27  k4 n)
def bX9_takeWholeTurns_4  (k4 : Nat → Option Nat → Int32 → Int32 → Mo Unit) (t : Nat) (v1 : Option Nat) (v2 : Int32) (v3 : Int32) : Mo Unit :=
  bd (gI (some t) 9 1) fun x6 =>
  if x6 ≤ v3 then
    bd (pF (some t) 9 1 (vi v2)) fun _ =>
    rn ()
  else
    bd (gA (some t) 9 0) fun x13 =>
    bd (gA (some t) 9 0) fun x18 =>
    bd (ldL x18 v3) fun x22 =>
    bd (stL x13 v2 x22) fun _ =>
    fX9_takeWholeTurns_27  k4 FU t v1 ((v2 + (1 : Int32))) v3
def fX9_takeWholeTurns_4   : Nat → Nat → Option Nat → Int32 → Int32 → Mo Unit
  | 0 => fun _ _ _ _ => fl
  | n + 1 => bX9_takeWholeTurns_4  (fX9_takeWholeTurns_4   n)
def pX9_takeWholeTurns  (t : Nat) (v1 : Option Nat) : Mo Unit :=
  fX9_takeWholeTurns_4   FU t v1 ((0 : Int32)) ((0 : Int32))
def bX9_take_27  (k27 : Nat → Option Nat → Option Nat → Int32 → Mo Unit) (t : Nat) (v1 : Option Nat) (v2 : Option Nat) (v3 : Int32) : Mo Unit :=
  bd (gI v1 7 1) fun x29 =>
  if x29 ≤ v3 then
    bd (vc 9 (some t) (fun o => pX9_push o (0 : Int64))) fun _ =>
    bd (vc 9 (some t) (fun o => pX9_takeWholeTurns o v2)) fun _ =>
    bd (vc 9 (some t) (fun o => pX9_takeHalfTurns o v2)) fun _ =>
    rn ()
  else
    bd (gA v1 7 0) fun x37 =>
    bd (ldL x37 v3) fun x41 =>
    bd (vc 9 (some t) (fun o => pX9_push o x41)) fun _ =>
    k27 t v1 v2 ((v3 + (1 : Int32)))
def fX9_take_27   : Nat → Nat → Option Nat → Option Nat → Int32 → Mo Unit
  | 0 => fun _ _ _ _ => fl
  | n + 1 => bX9_take_27  (fX9_take_27   n)
def pX9_take  (t : Nat) (v1 : Option Nat) (v2 : Option Nat) : Mo Unit :=
  bd (pF (some t) 9 2 (vi (0 : Int32))) fun _ =>
  bd (pF (some t) 9 3 (vi (0 : Int32))) fun _ =>
  bd (pF (some t) 9 4 (vl (0 : Int64))) fun _ =>
  bd (pF (some t) 9 1 (vi (0 : Int32))) fun _ =>
  bd (vc 9 (some t) (fun o => pX9_push o (0 : Int64))) fun _ =>
  fX9_take_27   FU t v1 v2 ((0 : Int32))
def pX10_wear  (t : Nat) (v1 : Int32) (v2 : Int32) (v3 : Int32) (v4 : Int32) (v5 : Int32) : Mo Int64 :=
  bd (vc 10 (some t) (fun o => pX10_bridgeAt o v1)) fun x2 =>
  bd (vc 10 (some t) (fun o => pX10_trainAt o v4)) fun x10 =>
  if x2 = none then
    rn (-1001 : Int64)
  else
    bd (vc 0 x2 (fun o => pX0_lacksSupport o v2 v3)) fun x24 =>
    if x24 = 0 then
      if x10 = none then
        rn (-1001 : Int64)
      else
        bd (vc 0 x2 (fun o => pX0_hasResponse o v2 v3)) fun x43 =>
        if x43 = 0 then
          rn (-1002 : Int64)
        else
          bd (pX10_within v5 (0 : Int32) (2 : Int32)) fun x53 =>
          if x53 = 0 then
            rn (-1002 : Int64)
          else
            bd (gA (some t) 10 7) fun x64 =>
            bd (vc 4 x64 (fun o => pX4_draw o x2 v2 v3)) fun _ =>
            bd (gA (some t) 10 8) fun x75 =>
            bd (gA (some t) 10 7) fun x79 =>
            bd (vc 7 x75 (fun o => pX7_roll o x79 x10 (0 : Int32))) fun _ =>
            bd (gA (some t) 10 11) fun x89 =>
            bd (gA (some t) 10 8) fun x93 =>
            bd (gA (some t) 10 7) fun x97 =>
            bd (vc 9 x89 (fun o => pX9_take o x93 x97)) fun _ =>
            if v5 = 0 then
              bd (gA (some t) 10 11) fun x109 =>
              bd (gL x109 9 4) fun x112 =>
              rn x112
            else
              if v5 = (1 : Int32) then
                bd (gA (some t) 10 11) fun x123 =>
                bd (gI x123 9 2) fun x126 =>
                rn (Int32.toInt64 x126)
              else
                bd (gA (some t) 10 11) fun x134 =>
                bd (gI x134 9 3) fun x137 =>
                rn (Int32.toInt64 x137)
    else
      rn (-1001 : Int64)
def pX10_why  (t : Nat) (v1 : Int32) (v2 : Int32) (v3 : Int32) (v4 : Int32) : Mo Int32 :=
  bd (vc 10 (some t) (fun o => pX10_trainAt o v1)) fun x2 =>
  if x2 = none then
    rn (-1001 : Int32)
  else
    bd (pX10_isTown v3) fun x13 =>
    if x13 = 0 then
      rn (-1001 : Int32)
    else
      bd (pX10_isTown v4) fun x21 =>
      if x21 = 0 then
        rn (-1001 : Int32)
      else
        bd (pX10_within v2 (0 : Int32) (2 : Int32)) fun x34 =>
        if x34 = 0 then
          rn (-1002 : Int32)
        else
          if v3 = v4 then
            rn (-1002 : Int32)
          else
            bd (vc 10 (some t) (fun o => pX10_closeRoadsUnmet o x2 v2)) fun _ =>
            bd (gA (some t) 10 5) fun x58 =>
            bd (vc 5 x58 (fun o => pX5_search o v3 v4)) fun x64 =>
            if x64 = 0 then
              bd (gA (some t) 10 5) fun x73 =>
              bd (vc 5 x73 (fun o => pX5_openAll o )) fun _ =>
              bd (gA (some t) 10 5) fun x80 =>
              bd (vc 5 x80 (fun o => pX5_search o v3 v4)) fun x86 =>
              if x86 = 0 then
                rn (-1 : Int32)
              else
                bd (vc 10 (some t) (fun o => pX10_firstUnmetOnWay o )) fun x95 =>
                rn x95
            else
              rn (-1 : Int32)
def bX10_worn_57  (k57 : Nat → Int64 → Int32 → Mo Int64) (t : Nat) (v5 : Int64) (v7 : Int32) : Mo Int64 :=
  bd (gI (some t) 10 3) fun x60 =>
  if x60 ≤ v7 then
    rn v5
  else
    bd (vc 10 (some t) (fun o => pX10_trainAt o v7)) fun x69 =>
    if x69 = none then
      k57 t v5 ((v7 + (1 : Int32)))
    else
      bd (gI x69 8 3) fun x81 =>
      if x81 ≤ 0 then
        k57 t v5 ((v7 + (1 : Int32)))
      else
        bd (gA (some t) 10 8) fun x88 =>
        bd (gA (some t) 10 7) fun x92 =>
        bd (vc 7 x88 (fun o => pX7_roll o x92 x69 (0 : Int32))) fun _ =>
        bd (gA (some t) 10 11) fun x102 =>
        bd (gA (some t) 10 8) fun x106 =>
        bd (gA (some t) 10 7) fun x110 =>
        bd (vc 9 x102 (fun o => pX9_take o x106 x110)) fun _ =>
        bd (gI x69 8 3) fun x120 =>
        bd (gA (some t) 10 11) fun x125 =>
        bd (gL x125 9 4) fun x128 =>
        k57 t ((v5 + ((Int32.toInt64 x120) * x128))) ((v7 + (1 : Int32)))
def fX10_worn_57   : Nat → Nat → Int64 → Int32 → Mo Int64
  | 0 => fun _ _ _ => fl
  | n + 1 => bX10_worn_57  (fX10_worn_57   n)
def pX10_worn  (t : Nat) (v1 : Int32) (v2 : Int32) (v3 : Int32) : Mo Int64 :=
  bd (vc 10 (some t) (fun o => pX10_bridgeAt o v1)) fun x2 =>
  if x2 = none then
    rn (-1001 : Int64)
  else
    bd (vc 0 x2 (fun o => pX0_lacksSupport o v2 v3)) fun x16 =>
    if x16 = 0 then
      bd (vc 0 x2 (fun o => pX0_hasResponse o v2 v3)) fun x30 =>
      if x30 = 0 then
        rn (-1002 : Int64)
      else
        bd (gA (some t) 10 7) fun x41 =>
        bd (vc 4 x41 (fun o => pX4_draw o x2 v2 v3)) fun _ =>
        fX10_worn_57   FU t ((0 : Int64)) ((0 : Int32))
    else
      rn (-1001 : Int64)
def pX10_worst  (t : Nat) (v1 : Int32) (v2 : Int32) (v3 : Int32) (v4 : Int32) (v5 : Int32) (v6 : Int32) : Mo Int64 :=
  bd (vc 10 (some t) (fun o => pX10_bridgeAt o v1)) fun x2 =>
  bd (vc 10 (some t) (fun o => pX10_trainAt o v4)) fun x10 =>
  if x2 = none then
    rn (-1001 : Int64)
  else
    bd (vc 0 x2 (fun o => pX0_lacksSupport o v2 v3)) fun x24 =>
    if x24 = 0 then
      if x10 = none then
        rn (-1001 : Int64)
      else
        bd (vc 0 x2 (fun o => pX0_hasResponse o v2 v3)) fun x43 =>
        if x43 = 0 then
          rn (-1002 : Int64)
        else
          bd (pX10_within v5 (0 : Int32) (1 : Int32)) fun x53 =>
          if x53 = 0 then
            rn (-1002 : Int64)
          else
            bd (pX10_within v6 (0 : Int32) (3 : Int32)) fun x63 =>
            if x63 = 0 then
              rn (-1002 : Int64)
            else
              bd (gA (some t) 10 7) fun x74 =>
              bd (vc 4 x74 (fun o => pX4_draw o x2 v2 v3)) fun _ =>
              bd (gA (some t) 10 9) fun x85 =>
              bd (gA (some t) 10 7) fun x89 =>
              bd (gA (some t) 10 8) fun x95 =>
              bd (vc 2 x85 (fun o => pX2_find o x89 x10 x95)) fun _ =>
              if v6 = (2 : Int32) then
                bd (gA (some t) 10 9) fun x108 =>
                bd (gA x108 2 1) fun x111 =>
                bd (ldI 0 x111 v5) fun x116 =>
                rn (Int32.toInt64 x116)
              else
                if v6 = (3 : Int32) then
                  bd (gA (some t) 10 9) fun x126 =>
                  bd (gA x126 2 2) fun x129 =>
                  bd (ldI 0 x129 v5) fun x134 =>
                  rn (Int32.toInt64 x134)
                else
                  bd (gA (some t) 10 9) fun x138 =>
                  bd (gA x138 2 0) fun x141 =>
                  bd (ldL x141 v5) fun x146 =>
                  bd (gA (some t) 10 7) fun x148 =>
                  bd (gL x148 4 1) fun x151 =>
                  bd (pX10_partOf x146 x151 v6) fun x156 =>
                  rn x156
    else
      rn (-1001 : Int64)
def bX11_init_256  (k256 : Nat → Int32 → Mo Unit) (t : Nat) (v1 : Int32) : Mo Unit :=
  if (6 : Int32) ≤ v1 then
    rn ()
  else
    bd (gA (some t) 11 5) fun x263 =>
    bd (stI x263 v1 (30 : Int32)) fun _ =>
    bd (gA (some t) 11 6) fun x271 =>
    bd (stI x271 v1 (1 : Int32)) fun _ =>
    bd (gA (some t) 11 7) fun x278 =>
    bd (stI x278 v1 (50 : Int32)) fun _ =>
    k256 t ((v1 + (1 : Int32)))
def fX11_init_256   : Nat → Nat → Int32 → Mo Unit
  | 0 => fun _ _ => fl
  | n + 1 => bX11_init_256  (fX11_init_256   n)
def pX11_init  (t : Nat) : Mo Unit :=
  bd (vn (some t) (fun _ => rn ())) fun _ =>
  bd (nwI 0 (6 : Int32)) fun x7 =>
  bd (pF (some t) 11 1 (vr x7)) fun _ =>
  bd (nwI 0 (6 : Int32)) fun x15 =>
  bd (pF (some t) 11 2 (vr x15)) fun _ =>
  bd (nwI 0 (6 : Int32)) fun x23 =>
  bd (pF (some t) 11 3 (vr x23)) fun _ =>
  bd (nwI 0 (30 : Int32)) fun x31 =>
  bd (pF (some t) 11 4 (vr x31)) fun _ =>
  bd (nwI 0 (6 : Int32)) fun x39 =>
  bd (pF (some t) 11 5 (vr x39)) fun _ =>
  bd (nwI 0 (6 : Int32)) fun x47 =>
  bd (pF (some t) 11 6 (vr x47)) fun _ =>
  bd (nwI 0 (6 : Int32)) fun x55 =>
  bd (pF (some t) 11 7 (vr x55)) fun _ =>
  bd (nwL (1830 : Int32)) fun x64 =>
  bd (pF (some t) 11 8 (vr x64)) fun _ =>
  bd (nwL (6 : Int32)) fun x72 =>
  bd (pF (some t) 11 9 (vr x72)) fun _ =>
  bd (nwL (30 : Int32)) fun x80 =>
  bd (pF (some t) 11 10 (vr x80)) fun _ =>
  bd (nwI 0 (7 : Int32)) fun x88 =>
  bd (pF (some t) 11 11 (vr x88)) fun _ =>
  bd (nwI 0 (8 : Int32)) fun x96 =>
  bd (pF (some t) 11 13 (vr x96)) fun _ =>
  bd (nwI 0 (64 : Int32)) fun x104 =>
  bd (pF (some t) 11 14 (vr x104)) fun _ =>
  bd (nwI 0 (64 : Int32)) fun x112 =>
  bd (pF (some t) 11 15 (vr x112)) fun _ =>
  bd (nwI 0 (8 : Int32)) fun x120 =>
  bd (pF (some t) 11 16 (vr x120)) fun _ =>
  bd (pF (some t) 11 17 (vi (-1 : Int32))) fun _ =>
  bd (pF (some t) 11 18 (vi (100 : Int32))) fun _ =>
  bd (pF (some t) 11 20 (vi (-1 : Int32))) fun _ =>
  bd (nwI 0 (6 : Int32)) fun x144 =>
  bd (pF (some t) 11 23 (vr x144)) fun _ =>
  bd (nwI 0 (30 : Int32)) fun x152 =>
  bd (pF (some t) 11 24 (vr x152)) fun _ =>
  bd (nwI 0 (30 : Int32)) fun x160 =>
  bd (pF (some t) 11 25 (vr x160)) fun _ =>
  bd (nwI 0 (30 : Int32)) fun x168 =>
  bd (pF (some t) 11 26 (vr x168)) fun _ =>
  bd (nwI 0 (30 : Int32)) fun x176 =>
  bd (pF (some t) 11 27 (vr x176)) fun _ =>
  bd (nwI 0 (24 : Int32)) fun x184 =>
  bd (pF (some t) 11 29 (vr x184)) fun _ =>
  bd (nwI 0 (24 : Int32)) fun x192 =>
  bd (pF (some t) 11 30 (vr x192)) fun _ =>
  bd (nwI 0 (24 : Int32)) fun x200 =>
  bd (pF (some t) 11 31 (vr x200)) fun _ =>
  bd (nwI 0 (24 : Int32)) fun x208 =>
  bd (pF (some t) 11 32 (vr x208)) fun _ =>
  bd (nwI 2 (24 : Int32)) fun x216 =>
  bd (pF (some t) 11 33 (vr x216)) fun _ =>
  bd (nwI 0 (10 : Int32)) fun x224 =>
  bd (pF (some t) 11 34 (vr x224)) fun _ =>
  bd (nwI 0 (10 : Int32)) fun x232 =>
  bd (pF (some t) 11 35 (vr x232)) fun _ =>
  bd (nwI 0 (12 : Int32)) fun x240 =>
  bd (pF (some t) 11 36 (vr x240)) fun _ =>
  bd (nwL (210 : Int32)) fun x249 =>
  bd (pF (some t) 11 37 (vr x249)) fun _ =>
  fX11_init_256   FU t ((0 : Int32))
def pX11_in  (v0 : Int64) (v2 : Int64) (v4 : Int64) : Mo Int32 :=
  if v0 < v2 then
    rnZ (0 : Int32)
  else
    if v4 < v0 then
      rnZ (0 : Int32)
    else
      rnZ (1 : Int32)
def pX11_noTrain  (t : Nat) (v1 : Int32) : Mo Int32 :=
  bd (gI (some t) 11 12) fun x4 =>
  bd (pX11_in (Int32.toInt64 v1) (0 : Int64) (Int32.toInt64 (x4 - (1 : Int32)))) fun x10 =>
  if x10 = 0 then
    rnZ (1 : Int32)
  else
    rnZ (0 : Int32)
def pX11_axle  (t : Nat) (v1 : Int32) (v2 : Int32) (v3 : Int32) : Mo Int32 :=
  bd (vc 11 (some t) (fun o => pX11_noTrain o v1)) fun x2 =>
  if x2 = 0 then
    bd (pX11_in (Int32.toInt64 v2) (1 : Int64) (20 : Int64)) fun x18 =>
    if x18 = 0 then
      rn (-1002 : Int32)
    else
      bd (pX11_in (Int32.toInt64 v3) (1 : Int64) (200 : Int64)) fun x30 =>
      if x30 = 0 then
        rn (-1002 : Int32)
      else
        bd (gA (some t) 11 13) fun x41 =>
        bd (ldI 0 x41 v1) fun x45 =>
        if x45 = (8 : Int32) then
          rn (-1004 : Int32)
        else
          bd (gA (some t) 11 14) fun x56 =>
          bd (gA (some t) 11 13) fun x64 =>
          bd (ldI 0 x64 v1) fun x68 =>
          bd (stI x56 (((8 : Int32) * v1) + x68) v3) fun _ =>
          bd (gA (some t) 11 15) fun x73 =>
          bd (gA (some t) 11 13) fun x81 =>
          bd (ldI 0 x81 v1) fun x85 =>
          bd (stI x73 (((8 : Int32) * v1) + x85) v2) fun _ =>
          bd (gA (some t) 11 13) fun x90 =>
          bd (ldI 0 x90 v1) fun x95 =>
          bd (stI x90 v1 (x95 + (1 : Int32))) fun _ =>
          bd (gA (some t) 11 13) fun x100 =>
          bd (ldI 0 x100 v1) fun x104 =>
          rn x104
  else
    rn (-1001 : Int32)
def pX11_gapOf  (t : Nat) (v1 : Int32) (v2 : Int32) : Mo Int32 :=
  if v2 = 0 then
    rn (0 : Int32)
  else
    bd (gA (some t) 11 15) fun x9 =>
    bd (ldI 0 x9 (((8 : Int32) * v1) + v2)) fun x18 =>
    bd (gI (some t) 11 20) fun x21 =>
    if v1 = x21 then
      bd (gI (some t) 11 19) fun x28 =>
      rn (x18 + x28)
    else
      rn (x18 + (0 : Int32))
def bX11_allGaps_4  (k4 : Nat → Int32 → Int32 → Int32 → Mo Int32) (t : Nat) (v1 : Int32) (v2 : Int32) (v3 : Int32) : Mo Int32 :=
  bd (gA (some t) 11 13) fun x6 =>
  bd (ldI 0 x6 v1) fun x10 =>
  if x10 ≤ v3 then
    rn v2
  else
    bd (vc 11 (some t) (fun o => pX11_gapOf o v1 v3)) fun x18 =>
    k4 t v1 ((v2 + x18)) ((v3 + (1 : Int32)))
def fX11_allGaps_4   : Nat → Nat → Int32 → Int32 → Int32 → Mo Int32
  | 0 => fun _ _ _ _ => fl
  | n + 1 => bX11_allGaps_4  (fX11_allGaps_4   n)
def pX11_allGaps  (t : Nat) (v1 : Int32) : Mo Int32 :=
  fX11_allGaps_4   FU t v1 ((0 : Int32)) ((0 : Int32))
def pX11_axles  (t : Nat) (v1 : Int32) (v2 : Int32) (v3 : Int32) : Mo Int32 :=
  bd (vc 11 (some t) (fun o => pX11_noTrain o v1)) fun x2 =>
  if x2 = 0 then
    bd (pX11_in (Int32.toInt64 v3) (0 : Int64) (1 : Int64)) fun x16 =>
    if x16 = 0 then
      rn (-1002 : Int32)
    else
      if v2 = (-1 : Int32) then
        if v3 = 0 then
          bd (gA (some t) 11 13) fun x36 =>
          bd (ldI 0 x36 v1) fun x40 =>
          rn x40
        else
          bd (vc 11 (some t) (fun o => pX11_allGaps o v1)) fun x46 =>
          rn x46
      else
        bd (gA (some t) 11 13) fun x54 =>
        bd (ldI 0 x54 v1) fun x58 =>
        bd (pX11_in (Int32.toInt64 v2) (0 : Int64) (Int32.toInt64 (x58 - (1 : Int32)))) fun x62 =>
        if x62 = 0 then
          rn (-1 : Int32)
        else
          if v3 = 0 then
            bd (gA (some t) 11 14) fun x75 =>
            bd (ldI 0 x75 (((8 : Int32) * v1) + v2)) fun x84 =>
            rn x84
          else
            bd (gA (some t) 11 15) fun x89 =>
            bd (ldI 0 x89 (((8 : Int32) * v1) + v2)) fun x98 =>
            rn x98
  else
    rn (-1001 : Int32)
def bX11_countOf_4  (k4 : Int64 → Int32 → Int32 → Mo Int32) (v0 : Int64) (v2 : Int32) (v3 : Int32) : Mo Int32 :=
  if (64 : Int32) ≤ v3 then
    rn v2
  else
    k4 v0 ((v2 + (Int64.toInt32 ((srL v0 v3) &&& (1 : Int64))))) ((v3 + (1 : Int32)))
def fX11_countOf_4   : Nat → Int64 → Int32 → Int32 → Mo Int32
  | 0 => fun _ _ _ => fl
  | n + 1 => bX11_countOf_4  (fX11_countOf_4   n)
def pX11_countOf  (v0 : Int64) : Mo Int32 :=
  fX11_countOf_4   FU v0 ((0 : Int32)) ((0 : Int32))
def bX11_layTable_174  (k14 : Nat → Int32 → Int64 → Int32 → Int32 → Int32 → Int32 → Mo Unit) (t : Nat) (v1 : Int32) (v2 : Int64) (v4 : Int32) (v5 : Int32) (v6 : Int32) (v7 : Int32) (s0 : Option Nat) (s1 : Int32) (s2 : Int64) : Mo Unit :=
  bd (stL s0 s1 s2) fun _ =>
  k14 t v1 v2 v4 v5 ((v6 + (1 : Int32))) ((v7 + (1 : Int32)))
def bX11_layTable_132  (k14 : Nat → Int32 → Int64 → Int32 → Int32 → Int32 → Int32 → Mo Unit) (t : Nat) (v1 : Int32) (v2 : Int64) (v4 : Int32) (v5 : Int32) (v6 : Int32) (v7 : Int32) (v8 : Int32) : Mo Unit :=
  if v8 = 0 then
    k14 t v1 v2 v4 v5 v6 ((v7 + (1 : Int32)))
  else
    bd (gA (some t) 11 10) fun x138 =>
    if v7 = 0 then
      bX11_layTable_174  k14 t v1 v2 v4 v5 v6 v7 x138 ((((6 : Int32) * v6) + (5 : Int32))) ((1 : Int64))
    else
      if v7 ≤ v4 then
        bX11_layTable_174  k14 t v1 v2 v4 v5 v6 v7 x138 ((((6 : Int32) * v6) + (5 : Int32))) ((0 : Int64))
      else
        bX11_layTable_174  k14 t v1 v2 v4 v5 v6 v7 x138 ((((6 : Int32) * v6) + (5 : Int32))) ((Int32.toInt64 (v7 - v4)))
def bX11_layTable_125  (k14 : Nat → Int32 → Int64 → Int32 → Int32 → Int32 → Int32 → Mo Unit) (k62 : Nat → Int32 → Int64 → Int32 → Int32 → Int32 → Int32 → Int32 → Int32 → Mo Unit) (t : Nat) (v1 : Int32) (v2 : Int64) (v4 : Int32) (v5 : Int32) (v6 : Int32) (v7 : Int32) (v8 : Int32) (v9 : Int32) (s0 : Option Nat) (s1 : Int32) (s2 : Int64) : Mo Unit :=
  bd (stL s0 s1 s2) fun _ =>
  k62 t v1 v2 v4 v5 v6 v7 v8 ((v9 + (1 : Int32)))
def bX11_layTable_62  (k14 : Nat → Int32 → Int64 → Int32 → Int32 → Int32 → Int32 → Mo Unit) (k62 : Nat → Int32 → Int64 → Int32 → Int32 → Int32 → Int32 → Int32 → Int32 → Mo Unit) (t : Nat) (v1 : Int32) (v2 : Int64) (v4 : Int32) (v5 : Int32) (v6 : Int32) (v7 : Int32) (v8 : Int32) (v9 : Int32) : Mo Unit :=
  if v5 ≤ v9 then
    bX11_layTable_132  k14 t v1 v2 v4 v5 v6 v7 v8
  else
    if v8 = 0 then
      bX11_layTable_132  k14 t v1 v2 v4 v5 v6 v7 v8
    else
      bd (gA (some t) 11 4) fun x75 =>
      bd (ldI 0 x75 (((5 : Int32) * v1) + v9)) fun x84 =>
      bd (gA (some t) 11 10) fun x88 =>
      if v7 = 0 then
        bX11_layTable_125  k14 k62 t v1 v2 v4 v5 v6 v7 v8 v9 x88 ((((6 : Int32) * v6) + v9)) ((1 : Int64))
      else
        if v7 ≤ x84 then
          bX11_layTable_125  k14 k62 t v1 v2 v4 v5 v6 v7 v8 v9 x88 ((((6 : Int32) * v6) + v9)) ((0 : Int64))
        else
          bX11_layTable_125  k14 k62 t v1 v2 v4 v5 v6 v7 v8 v9 x88 ((((6 : Int32) * v6) + v9)) ((Int32.toInt64 (v7 - x84)))
def fX11_layTable_62  (k14 : Nat → Int32 → Int64 → Int32 → Int32 → Int32 → Int32 → Mo Unit) : Nat → Nat → Int32 → Int64 → Int32 → Int32 → Int32 → Int32 → Int32 → Int32 → Mo Unit
  | 0 => fun _ _ _ _ _ _ _ _ _ => fl
  | n + 1 => bX11_layTable_62  k14 (fX11_layTable_62  k14 n)
def bX11_layTable_14  (k14 : Nat → Int32 → Int64 → Int32 → Int32 → Int32 → Int32 → Mo Unit) (t : Nat) (v1 : Int32) (v2 : Int64) (v4 : Int32) (v5 : Int32) (v6 : Int32) (v7 : Int32) : Mo Unit :=
  bd (gA (some t) 11 1) fun x17 =>
  bd (ldI 0 x17 v1) fun x21 =>
  if x21 < v7 then
    rn ()
  else
    if v7 = 0 then
      fX11_layTable_62  k14 FU t v1 v2 v4 v5 v6 v7 ((1 : Int32)) ((0 : Int32))
    else
      bd (gA (some t) 11 1) fun x33 =>
      bd (ldI 0 x33 v1) fun x37 =>
      if v7 = x37 then
        fX11_layTable_62  k14 FU t v1 v2 v4 v5 v6 v7 ((1 : Int32)) ((0 : Int32))
      else
        if ((srL v2 v7) &&& (1 : Int64)) = (1 : Int64) then
          fX11_layTable_62  k14 FU t v1 v2 v4 v5 v6 v7 ((1 : Int32)) ((0 : Int32))
        else
          fX11_layTable_62  k14 FU t v1 v2 v4 v5 v6 v7 ((0 : Int32)) ((0 : Int32))
def fX11_layTable_14   : Nat → Nat → Int32 → Int64 → Int32 → Int32 → Int32 → Int32 → Mo Unit
  | 0 => fun _ _ _ _ _ _ _ => fl
  | n + 1 => bX11_layTable_14  (fX11_layTable_14   n)
def pX11_layTable  (t : Nat) (v1 : Int32) (v2 : Int64) (v4 : Int32) : Mo Unit :=
  bd (gA (some t) 11 2) fun x1 =>
  bd (ldI 0 x1 v1) fun x5 =>
  fX11_layTable_14   FU t v1 v2 v4 x5 ((0 : Int32)) ((0 : Int32))
def pX11_size  (v0 : Int64) : Mo Int64 :=
  if (0 : Int64) ≤ v0 then
    rn v0
  else
    rn (-v0)
def bX11_change_2  (k2 : Nat → Int32 → Int32 → Int32 → Mo Unit) (t : Nat) (v1 : Int32) (v2 : Int32) (v3 : Int32) : Mo Unit :=
  if (6 : Int32) ≤ v3 then
    rn ()
  else
    bd (gA (some t) 11 10) fun x9 =>
    bd (ldL x9 (((6 : Int32) * v1) + v3)) fun x18 =>
    bd (gA (some t) 11 10) fun x22 =>
    bd (gA (some t) 11 10) fun x32 =>
    bd (ldL x32 (((6 : Int32) * v2) + v3)) fun x41 =>
    bd (stL x22 (((6 : Int32) * v1) + v3) x41) fun _ =>
    bd (gA (some t) 11 10) fun x44 =>
    bd (stL x44 (((6 : Int32) * v2) + v3) x18) fun _ =>
    k2 t v1 v2 ((v3 + (1 : Int32)))
def fX11_change_2   : Nat → Nat → Int32 → Int32 → Int32 → Mo Unit
  | 0 => fun _ _ _ _ => fl
  | n + 1 => bX11_change_2  (fX11_change_2   n)
def pX11_change  (t : Nat) (v1 : Int32) (v2 : Int32) : Mo Unit :=
  fX11_change_2   FU t v1 v2 ((0 : Int32))
def bX11_solve_154  (k5 : Nat → Int32 → Int64 → Int32 → Mo Int64) (k130 : Nat → Int32 → Int64 → Int32 → Int64 → Int32 → Mo Int64) (k154 : Nat → Int32 → Int64 → Int32 → Int64 → Int32 → Int64 → Int32 → Mo Int64) (t : Nat) (v1 : Int32) (v2 : Int64) (v4 : Int32) (v6 : Int64) (v8 : Int32) (v9 : Int64) (v11 : Int32) : Mo Int64 :=
  if (6 : Int32) ≤ v11 then
    k130 t v1 v2 v4 v6 ((v8 + (1 : Int32)))
  else
    if v8 = v4 then
      k130 t v1 v2 v4 v6 ((v8 + (1 : Int32)))
    else
      bd (gA (some t) 11 10) fun x169 =>
      bd (gA (some t) 11 10) fun x181 =>
      bd (ldL x181 (((6 : Int32) * v8) + v11)) fun x192 =>
      bd (gA (some t) 11 10) fun x199 =>
      bd (ldL x199 (((6 : Int32) * v4) + v11)) fun x210 =>
      bd (dvL ((x192 * v6) - (v9 * x210)) v2) fun x214 =>
      bd (stL x169 (((6 : Int32) * v8) + v11) x214) fun _ =>
      k154 t v1 v2 v4 v6 v8 v9 ((v11 + (1 : Int32)))
def fX11_solve_154  (k5 : Nat → Int32 → Int64 → Int32 → Mo Int64) (k130 : Nat → Int32 → Int64 → Int32 → Int64 → Int32 → Mo Int64) : Nat → Nat → Int32 → Int64 → Int32 → Int64 → Int32 → Int64 → Int32 → Mo Int64
  | 0 => fun _ _ _ _ _ _ _ _ => fl
  | n + 1 => bX11_solve_154  k5 k130 (fX11_solve_154  k5 k130 n)
def bX11_solve_130  (k5 : Nat → Int32 → Int64 → Int32 → Mo Int64) (k130 : Nat → Int32 → Int64 → Int32 → Int64 → Int32 → Mo Int64) (t : Nat) (v1 : Int32) (v2 : Int64) (v4 : Int32) (v6 : Int64) (v8 : Int32) : Mo Int64 :=
  if v1 ≤ v8 then
    k5 t v1 v6 ((v4 + (1 : Int32)))
  else
    bd (gA (some t) 11 10) fun x137 =>
    bd (ldL x137 (((6 : Int32) * v8) + v4)) fun x148 =>
    fX11_solve_154  k5 k130 FU t v1 v2 v4 v6 v8 x148 ((0 : Int32))
def fX11_solve_130  (k5 : Nat → Int32 → Int64 → Int32 → Mo Int64) : Nat → Nat → Int32 → Int64 → Int32 → Int64 → Int32 → Mo Int64
  | 0 => fun _ _ _ _ _ _ => fl
  | n + 1 => bX11_solve_130  k5 (fX11_solve_130  k5 n)
def bX11_solve_112  (k5 : Nat → Int32 → Int64 → Int32 → Mo Int64) (t : Nat) (v1 : Int32) (v2 : Int64) (v4 : Int32) : Mo Int64 :=
  bd (gA (some t) 11 10) fun x113 =>
  bd (ldL x113 (((6 : Int32) * v4) + v4)) fun x124 =>
  fX11_solve_130  k5 FU t v1 v2 v4 x124 ((0 : Int32))
def bX11_solve_71  (k5 : Nat → Int32 → Int64 → Int32 → Mo Int64) (k71 : Nat → Int32 → Int64 → Int32 → Int32 → Int32 → Mo Int64) (t : Nat) (v1 : Int32) (v2 : Int64) (v4 : Int32) (v5 : Int32) (v6 : Int32) : Mo Int64 :=
  if (6 : Int32) ≤ v6 then
    bX11_solve_112  k5 t v1 v2 v4
  else
    bd (gA (some t) 11 10) fun x79 =>
    bd (gA (some t) 11 10) fun x92 =>
    bd (ldL x92 (((6 : Int32) * v5) + v6)) fun x103 =>
    bd (stL x79 (((6 : Int32) * v5) + v6) ((0 : Int64) - x103)) fun _ =>
    k71 t v1 v2 v4 v5 ((v6 + (1 : Int32)))
def fX11_solve_71  (k5 : Nat → Int32 → Int64 → Int32 → Mo Int64) : Nat → Nat → Int32 → Int64 → Int32 → Int32 → Int32 → Mo Int64
  | 0 => fun _ _ _ _ _ _ => fl
  | n + 1 => bX11_solve_71  k5 (fX11_solve_71  k5 n)
def bX11_solve_45  (k5 : Nat → Int32 → Int64 → Int32 → Mo Int64) (t : Nat) (v1 : Int32) (v2 : Int64) (v4 : Int32) (v5 : Int32) : Mo Int64 :=
  if v5 = v1 then
    rn (0 : Int64)
  else
    if v5 = v4 then
      bX11_solve_112  k5 t v1 v2 v4
    else
      bd (vc 11 (some t) (fun o => pX11_change o v5 v4)) fun _ =>
      fX11_solve_71  k5 FU t v1 v2 v4 v5 ((0 : Int32))
def bX11_solve_15  (k5 : Nat → Int32 → Int64 → Int32 → Mo Int64) (k15 : Nat → Int32 → Int64 → Int32 → Int32 → Mo Int64) (t : Nat) (v1 : Int32) (v2 : Int64) (v4 : Int32) (v5 : Int32) : Mo Int64 :=
  if v1 ≤ v5 then
    bX11_solve_45  k5 t v1 v2 v4 v5
  else
    bd (gA (some t) 11 10) fun x22 =>
    bd (ldL x22 (((6 : Int32) * v5) + v4)) fun x33 =>
    if x33 = (0 : Int64) then
      k15 t v1 v2 v4 ((v5 + (1 : Int32)))
    else
      bX11_solve_45  k5 t v1 v2 v4 v5
def fX11_solve_15  (k5 : Nat → Int32 → Int64 → Int32 → Mo Int64) : Nat → Nat → Int32 → Int64 → Int32 → Int32 → Mo Int64
  | 0 => fun _ _ _ _ _ => fl
  | n + 1 => bX11_solve_15  k5 (fX11_solve_15  k5 n)
def bX11_solve_5  (k5 : Nat → Int32 → Int64 → Int32 → Mo Int64) (t : Nat) (v1 : Int32) (v2 : Int64) (v4 : Int32) : Mo Int64 :=
  if v1 ≤ v4 then
    rn v2
  else
    fX11_solve_15  k5 FU t v1 v2 v4 v4
def fX11_solve_5   : Nat → Nat → Int32 → Int64 → Int32 → Mo Int64
  | 0 => fun _ _ _ _ => fl
  | n + 1 => bX11_solve_5  (fX11_solve_5   n)
def pX11_solve  (t : Nat) (v1 : Int32) : Mo Int64 :=
  fX11_solve_5   FU t v1 ((1 : Int64)) ((0 : Int32))
def bX11_findBridge_144  (k11 : Nat → Int32 → Int64 → Int32 → Int32 → Mo Int32) (k85 : Nat → Int32 → Int64 → Int32 → Int32 → Int64 → Int32 → Mo Int32) (t : Nat) (v1 : Int32) (v2 : Int64) (v4 : Int32) (v5 : Int32) (v6 : Int64) (v8 : Int32) (s0 : Option Nat) (s1 : Int32) (s2 : Int64) : Mo Int32 :=
  bd (stL s0 s1 s2) fun _ =>
  k85 t v1 v2 v4 v5 v6 ((v8 + (1 : Int32)))
def bX11_findBridge_85  (k11 : Nat → Int32 → Int64 → Int32 → Int32 → Mo Int32) (k85 : Nat → Int32 → Int64 → Int32 → Int32 → Int64 → Int32 → Mo Int32) (t : Nat) (v1 : Int32) (v2 : Int64) (v4 : Int32) (v5 : Int32) (v6 : Int64) (v8 : Int32) : Mo Int32 :=
  if v4 ≤ v8 then
    k11 t v1 v2 v4 ((v5 + (1 : Int32)))
  else
    bd (gA (some t) 11 8) fun x93 =>
    if (0 : Int64) ≤ v6 then
      bd (gA (some t) 11 10) fun x133 =>
      bd (ldL x133 (((6 : Int32) * v8) + (5 : Int32))) fun x143 =>
      bX11_findBridge_144  k11 k85 t v1 v2 v4 v5 v6 v8 x93 ((((5 : Int32) * (((61 : Int32) * v1) + v5)) + v8)) x143
    else
      bd (gA (some t) 11 10) fun x117 =>
      bd (ldL x117 (((6 : Int32) * v8) + (5 : Int32))) fun x127 =>
      bX11_findBridge_144  k11 k85 t v1 v2 v4 v5 v6 v8 x93 ((((5 : Int32) * (((61 : Int32) * v1) + v5)) + v8)) (((0 : Int64) - x127))
def fX11_findBridge_85  (k11 : Nat → Int32 → Int64 → Int32 → Int32 → Mo Int32) : Nat → Nat → Int32 → Int64 → Int32 → Int32 → Int64 → Int32 → Mo Int32
  | 0 => fun _ _ _ _ _ _ _ => fl
  | n + 1 => bX11_findBridge_85  k11 (fX11_findBridge_85  k11 n)
def bX11_findBridge_25  (k11 : Nat → Int32 → Int64 → Int32 → Int32 → Mo Int32) (k25 : Nat → Int32 → Int64 → Int32 → Int32 → Int32 → Mo Int32) (t : Nat) (v1 : Int32) (v2 : Int64) (v4 : Int32) (v5 : Int32) (v6 : Int32) : Mo Int32 :=
  if (30 : Int32) ≤ v6 then
    bd (vc 11 (some t) (fun o => pX11_layTable o v1 v2 v5)) fun _ =>
    bd (vc 11 (some t) (fun o => pX11_solve o v4)) fun x57 =>
    if x57 = (0 : Int64) then
      rnZ (0 : Int32)
    else
      bd (gA (some t) 11 9) fun x72 =>
      bd (pX11_size x57) fun x78 =>
      bd (stL x72 v1 x78) fun _ =>
      fX11_findBridge_85  k11 FU t v1 v2 v4 v5 x57 ((0 : Int32))
  else
    bd (gA (some t) 11 10) fun x33 =>
    bd (stL x33 v6 (0 : Int64)) fun _ =>
    k25 t v1 v2 v4 v5 ((v6 + (1 : Int32)))
def fX11_findBridge_25  (k11 : Nat → Int32 → Int64 → Int32 → Int32 → Mo Int32) : Nat → Nat → Int32 → Int64 → Int32 → Int32 → Int32 → Mo Int32
  | 0 => fun _ _ _ _ _ _ => fl
  | n + 1 => bX11_findBridge_25  k11 (fX11_findBridge_25  k11 n)
def bX11_findBridge_11  (k11 : Nat → Int32 → Int64 → Int32 → Int32 → Mo Int32) (t : Nat) (v1 : Int32) (v2 : Int64) (v4 : Int32) (v5 : Int32) : Mo Int32 :=
  bd (gA (some t) 11 1) fun x14 =>
  bd (ldI 0 x14 v1) fun x18 =>
  if x18 < v5 then
    rnZ (1 : Int32)
  else
    fX11_findBridge_25  k11 FU t v1 v2 v4 v5 ((0 : Int32))
def fX11_findBridge_11   : Nat → Nat → Int32 → Int64 → Int32 → Int32 → Mo Int32
  | 0 => fun _ _ _ _ _ => fl
  | n + 1 => bX11_findBridge_11  (fX11_findBridge_11   n)
def pX11_findBridge  (t : Nat) (v1 : Int32) (v2 : Int64) : Mo Int32 :=
  bd (gA (some t) 11 2) fun x1 =>
  bd (ldI 0 x1 v1) fun x5 =>
  fX11_findBridge_11   FU t v1 v2 x5 ((0 : Int32))
def bX11_laySupports_6  (k6 : Nat → Int32 → Int64 → Int32 → Int32 → Mo Unit) (t : Nat) (v1 : Int32) (v2 : Int64) (v4 : Int32) (v5 : Int32) : Mo Unit :=
  if (61 : Int32) ≤ v5 then
    rn ()
  else
    if ((srL v2 v5) &&& (1 : Int64)) = (1 : Int64) then
      bd (gA (some t) 11 4) fun x25 =>
      bd (stI x25 (((5 : Int32) * v1) + v4) v5) fun _ =>
      k6 t v1 v2 ((v4 + (1 : Int32))) ((v5 + (1 : Int32)))
    else
      k6 t v1 v2 v4 ((v5 + (1 : Int32)))
def fX11_laySupports_6   : Nat → Nat → Int32 → Int64 → Int32 → Int32 → Mo Unit
  | 0 => fun _ _ _ _ _ => fl
  | n + 1 => bX11_laySupports_6  (fX11_laySupports_6   n)
def pX11_laySupports  (t : Nat) (v1 : Int32) (v2 : Int64) : Mo Unit :=
  fX11_laySupports_6   FU t v1 v2 ((0 : Int32)) ((0 : Int32))
def bX11_isLoose_169  (k169 : Nat → Int32 → Int32 → Int32 → Mo Int32) (t : Nat) (v7 : Int32) (v8 : Int32) (v9 : Int32) : Mo Int32 :=
  if (5 : Int32) ≤ v9 then
    rnZ v8
  else
    bd (gA (some t) 11 4) fun x176 =>
    bd (gA (some t) 11 11) fun x187 =>
    bd (ldI 0 x187 v9) fun x192 =>
    bd (stI x176 (((5 : Int32) * v7) + v9) x192) fun _ =>
    k169 t v7 v8 ((v9 + (1 : Int32)))
def fX11_isLoose_169   : Nat → Nat → Int32 → Int32 → Int32 → Mo Int32
  | 0 => fun _ _ _ _ => fl
  | n + 1 => bX11_isLoose_169  (fX11_isLoose_169   n)
def bX11_isLoose_137   (t : Nat) (v7 : Int32) (s0 : Int32) : Mo Int32 :=
  bd (gA (some t) 11 1) fun x140 =>
  bd (gA (some t) 11 11) fun x146 =>
  bd (ldI 0 x146 (5 : Int32)) fun x150 =>
  bd (stI x140 v7 x150) fun _ =>
  bd (gA (some t) 11 2) fun x153 =>
  bd (gA (some t) 11 11) fun x159 =>
  bd (ldI 0 x159 (6 : Int32)) fun x164 =>
  bd (stI x153 v7 x164) fun _ =>
  fX11_isLoose_169   FU t v7 s0 ((0 : Int32))
def bX11_isLoose_91  (k91 : Nat → Int64 → Int32 → Int32 → Int32 → Mo Int32) (t : Nat) (v4 : Int64) (v6 : Int32) (v7 : Int32) (v8 : Int32) : Mo Int32 :=
  if (30 : Int32) ≤ v8 then
    bd (vc 11 (some t) (fun o => pX11_layTable o v7 v4 (0 : Int32))) fun _ =>
    bd (vc 11 (some t) (fun o => pX11_solve o v6)) fun x124 =>
    if x124 = (0 : Int64) then
      bX11_isLoose_137   t v7 ((1 : Int32))
    else
      bX11_isLoose_137   t v7 ((0 : Int32))
  else
    bd (gA (some t) 11 10) fun x99 =>
    bd (stL x99 v8 (0 : Int64)) fun _ =>
    k91 t v4 v6 v7 ((v8 + (1 : Int32)))
def fX11_isLoose_91   : Nat → Nat → Int64 → Int32 → Int32 → Int32 → Mo Int32
  | 0 => fun _ _ _ _ _ => fl
  | n + 1 => bX11_isLoose_91  (fX11_isLoose_91   n)
def bX11_isLoose_33  (k33 : Nat → Int32 → Int64 → Int64 → Int32 → Int32 → Int32 → Mo Int32) (t : Nat) (v1 : Int32) (v2 : Int64) (v4 : Int64) (v6 : Int32) (v7 : Int32) (v8 : Int32) : Mo Int32 :=
  if (5 : Int32) ≤ v8 then
    bd (gA (some t) 11 1) fun x65 =>
    bd (stI x65 v7 v1) fun _ =>
    bd (gA (some t) 11 2) fun x73 =>
    bd (stI x73 v7 v6) fun _ =>
    bd (vc 11 (some t) (fun o => pX11_laySupports o v7 v2)) fun _ =>
    fX11_isLoose_91   FU t v4 v6 v7 ((0 : Int32))
  else
    bd (gA (some t) 11 11) fun x40 =>
    bd (gA (some t) 11 4) fun x46 =>
    bd (ldI 0 x46 (((5 : Int32) * v7) + v8)) fun x56 =>
    bd (stI x40 v8 x56) fun _ =>
    k33 t v1 v2 v4 v6 v7 ((v8 + (1 : Int32)))
def fX11_isLoose_33   : Nat → Nat → Int32 → Int64 → Int64 → Int32 → Int32 → Int32 → Mo Int32
  | 0 => fun _ _ _ _ _ _ _ => fl
  | n + 1 => bX11_isLoose_33  (fX11_isLoose_33   n)
def pX11_isLoose  (t : Nat) (v1 : Int32) (v2 : Int64) (v4 : Int64) (v6 : Int32) : Mo Int32 :=
  bd (gA (some t) 11 11) fun x4 =>
  bd (gA (some t) 11 1) fun x9 =>
  bd (ldI 0 x9 (5 : Int32)) fun x14 =>
  bd (stI x4 (5 : Int32) x14) fun _ =>
  bd (gA (some t) 11 11) fun x17 =>
  bd (gA (some t) 11 2) fun x23 =>
  bd (ldI 0 x23 (5 : Int32)) fun x28 =>
  bd (stI x17 (6 : Int32) x28) fun _ =>
  fX11_isLoose_33   FU t v1 v2 v4 v6 ((5 : Int32)) ((0 : Int32))
def bX11_bridge_134   (t : Nat) (v1 : Int32) (v2 : Int64) (v4 : Int64) (v6 : Int32) (v7 : Int32) (s0 : Int32) : Mo Int32 :=
  if v7 = 0 then
    bd (gA (some t) 11 1) fun x165 =>
    bd (stI x165 s0 v1) fun _ =>
    bd (gA (some t) 11 2) fun x173 =>
    bd (stI x173 s0 v6) fun _ =>
    bd (gA (some t) 11 3) fun x182 =>
    bd (stI x182 s0 (v6 - (2 : Int32))) fun _ =>
    bd (vc 11 (some t) (fun o => pX11_laySupports o s0 v2)) fun _ =>
    bd (vc 11 (some t) (fun o => pX11_findBridge o s0 v4)) fun x204 =>
    if x204 = 0 then
      rn (-1003 : Int32)
    else
      bd (gA (some t) 11 23) fun x215 =>
      bd (stI x215 s0 (0 : Int32)) fun _ =>
      bd (gI (some t) 11 0) fun x224 =>
      bd (pF (some t) 11 0 (vi (x224 + (1 : Int32)))) fun _ =>
      rn s0
  else
    bd (vc 11 (some t) (fun o => pX11_isLoose o v1 v2 v4 v6)) fun x148 =>
    if x148 = 0 then
      rn (-1004 : Int32)
    else
      rn (-1003 : Int32)
def bX11_bridge_119   (t : Nat) (v1 : Int32) (v2 : Int64) (v4 : Int64) (v6 : Int32) (s0 : Int32) : Mo Int32 :=
  if s0 = 0 then
    bd (gI (some t) 11 0) fun x131 =>
    bX11_bridge_134   t v1 v2 v4 v6 s0 x131
  else
    bX11_bridge_134   t v1 v2 v4 v6 s0 ((5 : Int32))
def pX11_bridge  (t : Nat) (v1 : Int32) (v2 : Int64) (v4 : Int64) : Mo Int32 :=
  bd (pX11_in (Int32.toInt64 v1) (2 : Int64) (60 : Int64)) fun x8 =>
  if x8 = 0 then
    rn (-1002 : Int32)
  else
    if v2 < (0 : Int64) then
      rn (-1002 : Int32)
    else
      if v4 < (0 : Int64) then
        rn (-1002 : Int32)
      else
        if (srL v2 (v1 + (1 : Int32))) = (0 : Int64) then
          if (srL v4 v1) = (0 : Int64) then
            bd (pX11_countOf v2) fun x51 =>
            bd (pX11_in (Int32.toInt64 x51) (2 : Int64) (5 : Int64)) fun x65 =>
            if x65 = 0 then
              rn (-1002 : Int32)
            else
              bd (pX11_countOf v4) fun x73 =>
              if x73 = (x51 - (2 : Int32)) then
                if (v2 &&& v4) = (0 : Int64) then
                  if (v4 &&& (1 : Int64)) = (0 : Int64) then
                    bd (gI (some t) 11 0) fun x106 =>
                    if x106 = (6 : Int32) then
                      bX11_bridge_119   t v1 v2 v4 x51 ((1 : Int32))
                    else
                      bX11_bridge_119   t v1 v2 v4 x51 ((0 : Int32))
                  else
                    rn (-1002 : Int32)
                else
                  rn (-1002 : Int32)
              else
                rn (-1002 : Int32)
          else
            rn (-1002 : Int32)
        else
          rn (-1002 : Int32)
def pX11_isLimit  (v0 : Int32) (v1 : Int32) : Mo Int32 :=
  bd (pX11_in (Int32.toInt64 v0) (0 : Int64) (100000 : Int64)) fun x6 =>
  if x6 = 0 then
    rnZ (0 : Int32)
  else
    bd (pX11_in (Int32.toInt64 v1) (-100000 : Int64) (0 : Int64)) fun x18 =>
    if x18 = 0 then
      rnZ (0 : Int32)
    else
      rnZ (1 : Int32)
def pX11_isResponse  (t : Nat) (v1 : Int32) (v2 : Int32) (v3 : Int32) : Mo Int32 :=
  if v2 = 0 then
    rnZ (1 : Int32)
  else
    if v2 = (1 : Int32) then
      bd (gA (some t) 11 1) fun x13 =>
      bd (ldI 0 x13 v1) fun x17 =>
      bd (pX11_in (Int32.toInt64 v3) (0 : Int64) (Int32.toInt64 x17)) fun x19 =>
      if x19 = 0 then
        rnZ (0 : Int32)
      else
        rnZ (1 : Int32)
    else
      rnZ (0 : Int32)
def pX11_noBridge  (t : Nat) (v1 : Int32) : Mo Int32 :=
  bd (gI (some t) 11 0) fun x4 =>
  bd (pX11_in (Int32.toInt64 v1) (0 : Int64) (Int32.toInt64 (x4 - (1 : Int32)))) fun x10 =>
  if x10 = 0 then
    rnZ (1 : Int32)
  else
    rnZ (0 : Int32)
def pX11_noSupport  (t : Nat) (v1 : Int32) (v2 : Int32) (v3 : Int32) : Mo Int32 :=
  if v2 = 0 then
    bd (gA (some t) 11 2) fun x8 =>
    bd (ldI 0 x8 v1) fun x12 =>
    bd (pX11_in (Int32.toInt64 v3) (0 : Int64) (Int32.toInt64 (x12 - (1 : Int32)))) fun x16 =>
    if x16 = 0 then
      rnZ (1 : Int32)
    else
      rnZ (0 : Int32)
  else
    rnZ (0 : Int32)
def pX11_check  (t : Nat) (v1 : Int32) (v2 : Int32) (v3 : Int32) (v4 : Int32) (v5 : Int32) : Mo Int32 :=
  bd (vc 11 (some t) (fun o => pX11_noBridge o v1)) fun x2 =>
  if x2 = 0 then
    bd (vc 11 (some t) (fun o => pX11_noSupport o v1 v2 v3)) fun x12 =>
    if x12 = 0 then
      bd (vc 11 (some t) (fun o => pX11_isResponse o v1 v2 v3)) fun x26 =>
      if x26 = 0 then
        rn (-1002 : Int32)
      else
        bd (pX11_isLimit v4 v5) fun x36 =>
        if x36 = 0 then
          rn (-1002 : Int32)
        else
          bd (gA (some t) 11 23) fun x47 =>
          bd (ldI 0 x47 v1) fun x51 =>
          if x51 = (5 : Int32) then
            rn (-1004 : Int32)
          else
            bd (gA (some t) 11 23) fun x64 =>
            bd (ldI 0 x64 v1) fun x68 =>
            bd (gA (some t) 11 24) fun x73 =>
            bd (stI x73 (((5 : Int32) * v1) + x68) v2) fun _ =>
            bd (gA (some t) 11 25) fun x81 =>
            bd (stI x81 (((5 : Int32) * v1) + x68) v3) fun _ =>
            bd (gA (some t) 11 26) fun x89 =>
            bd (stI x89 (((5 : Int32) * v1) + x68) v4) fun _ =>
            bd (gA (some t) 11 27) fun x98 =>
            bd (stI x98 (((5 : Int32) * v1) + x68) v5) fun _ =>
            bd (gA (some t) 11 23) fun x107 =>
            bd (ldI 0 x107 v1) fun x112 =>
            bd (stI x107 v1 (x112 + (1 : Int32))) fun _ =>
            bd (gA (some t) 11 23) fun x117 =>
            bd (ldI 0 x117 v1) fun x121 =>
            rn (x121 - (1 : Int32))
    else
      rn (-1001 : Int32)
  else
    rn (-1001 : Int32)
def bX11_count_35  (k35 : Nat → Int32 → Int32 → Int32 → Int32 → Mo Int32) (t : Nat) (v1 : Int32) (v2 : Int32) (v3 : Int32) (v4 : Int32) : Mo Int32 :=
  bd (gI (some t) 11 12) fun x38 =>
  if x38 ≤ v4 then
    swt v1 [
      (
       bd (gI (some t) 11 0) fun x101 =>
       rn x101
      ),
      (
       bd (gI (some t) 11 12) fun x106 =>
       rn x106
      ),
      (
       bd (gI (some t) 11 28) fun x111 =>
       rn x111
      ),
      (
       rn v2
      ),
      (
       bd (gI (some t) 11 17) fun x118 =>
       rn x118
      ),
      (
       rn v3
      )
     ] (
       rn (-1002 : Int32)
      )
  else
    bd (gA (some t) 11 16) fun x46 =>
    bd (ldI 0 x46 v4) fun x51 =>
    k35 t v1 v2 ((v3 + x51)) ((v4 + (1 : Int32)))
def fX11_count_35   : Nat → Nat → Int32 → Int32 → Int32 → Int32 → Mo Int32
  | 0 => fun _ _ _ _ _ => fl
  | n + 1 => bX11_count_35  (fX11_count_35   n)
def bX11_count_7  (k7 : Nat → Int32 → Int32 → Int32 → Int32 → Mo Int32) (t : Nat) (v1 : Int32) (v2 : Int32) (v3 : Int32) (v4 : Int32) : Mo Int32 :=
  bd (gI (some t) 11 0) fun x10 =>
  if x10 ≤ v4 then
    fX11_count_35   FU t v1 v2 v3 ((0 : Int32))
  else
    bd (gA (some t) 11 23) fun x18 =>
    bd (ldI 0 x18 v4) fun x23 =>
    k7 t v1 ((v2 + x23)) v3 ((v4 + (1 : Int32)))
def fX11_count_7   : Nat → Nat → Int32 → Int32 → Int32 → Int32 → Mo Int32
  | 0 => fun _ _ _ _ _ => fl
  | n + 1 => bX11_count_7  (fX11_count_7   n)
def pX11_count  (t : Nat) (v1 : Int32) : Mo Int32 :=
  fX11_count_7   FU t v1 ((0 : Int32)) ((0 : Int32)) ((0 : Int32))
def bX11_influenceAt_54  (k54 : Nat → Int32 → Int32 → Int32 → Int64 → Int32 → Mo Int64) (t : Nat) (v1 : Int32) (v3 : Int32) (v5 : Int32) (v6 : Int64) (v8 : Int32) : Mo Int64 :=
  bd (gA (some t) 11 2) fun x57 =>
  bd (ldI 0 x57 v1) fun x61 =>
  if x61 ≤ v8 then
    rn v6
  else
    bd (gA (some t) 11 4) fun x66 =>
    bd (ldI 0 x66 (((5 : Int32) * v1) + v8)) fun x75 =>
    if v3 ≤ x75 then
      k54 t v1 v3 v5 ((v6 + (0 : Int64))) ((v8 + (1 : Int32)))
    else
      bd (gA (some t) 11 8) fun x87 =>
      bd (ldL x87 (v5 + v8)) fun x95 =>
      k54 t v1 v3 v5 ((v6 + (x95 * (Int32.toInt64 (v3 - x75))))) ((v8 + (1 : Int32)))
def fX11_influenceAt_54   : Nat → Nat → Int32 → Int32 → Int32 → Int64 → Int32 → Mo Int64
  | 0 => fun _ _ _ _ _ _ => fl
  | n + 1 => bX11_influenceAt_54  (fX11_influenceAt_54   n)
def pX11_influenceAt  (t : Nat) (v1 : Int32) (v2 : Int32) (v3 : Int32) (v4 : Int32) : Mo Int64 :=
  if v2 = 0 then
    bd (gA (some t) 11 8) fun x16 =>
    bd (ldL x16 (((5 : Int32) * (((61 : Int32) * v1) + v4)) + v3)) fun x23 =>
    rn x23
  else
    if v3 ≤ v4 then
      fX11_influenceAt_54   FU t v1 v3 (((5 : Int32) * (((61 : Int32) * v1) + v4))) ((0 : Int64)) ((0 : Int32))
    else
      bd (gA (some t) 11 9) fun x38 =>
      bd (ldL x38 v1) fun x42 =>
      fX11_influenceAt_54   FU t v1 v3 (((5 : Int32) * (((61 : Int32) * v1) + v4))) (((0 : Int64) - ((Int32.toInt64 (v3 - v4)) * x42))) ((0 : Int32))
def pX11_weightOf  (t : Nat) (v1 : Int32) (v2 : Int32) : Mo Int32 :=
  bd (gA (some t) 11 14) fun x1 =>
  bd (ldI 0 x1 (((8 : Int32) * v1) + v2)) fun x10 =>
  bd (gI (some t) 11 20) fun x14 =>
  if v1 = x14 then
    bd (gI (some t) 11 18) fun x22 =>
    bd (dvI (x10 * x22) (100 : Int32)) fun x28 =>
    rn x28
  else
    rn x10
def bX11_effectAt_120  (k10 : Nat → Int32 → Int32 → Int32 → Int32 → Int32 → Int64 → Int32 → Int32 → Mo Int64) (t : Nat) (v1 : Int32) (v2 : Int32) (v3 : Int32) (v4 : Int32) (v5 : Int32) (v7 : Int64) (v10 : Int32) (s0 : Int32) (s1 : Option Nat) (s2 : Int32) (s3 : Int32) : Mo Int64 :=
  bd (vc 11 s1 (fun o => pX11_gapOf o s2 s3)) fun x120 =>
  k10 t v1 v2 v3 v4 v5 v7 ((s0 - x120)) ((v10 + (1 : Int32)))
def bX11_effectAt_87  (k10 : Nat → Int32 → Int32 → Int32 → Int32 → Int32 → Int64 → Int32 → Int32 → Mo Int64) (t : Nat) (v1 : Int32) (v2 : Int32) (v3 : Int32) (v4 : Int32) (v5 : Int32) (v7 : Int64) (v9 : Int32) (v10 : Int32) (v11 : Int32) : Mo Int64 :=
  bd (gA (some t) 11 13) fun x92 =>
  bd (ldI 0 x92 v4) fun x97 =>
  if x97 ≤ (v10 + (1 : Int32)) then
    k10 t v1 v2 v3 v4 v5 v7 v9 ((v10 + (1 : Int32)))
  else
    if v5 = 0 then
      bX11_effectAt_120  k10 t v1 v2 v3 v4 v5 v7 v10 v9 ((some t)) v4 ((v11 + (1 : Int32)))
    else
      bX11_effectAt_120  k10 t v1 v2 v3 v4 v5 v7 v10 v9 ((some t)) v4 v11
def bX11_effectAt_44  (k10 : Nat → Int32 → Int32 → Int32 → Int32 → Int32 → Int64 → Int32 → Int32 → Mo Int64) (t : Nat) (v1 : Int32) (v2 : Int32) (v3 : Int32) (v4 : Int32) (v5 : Int32) (v7 : Int64) (v9 : Int32) (v10 : Int32) (s0 : Int32) : Mo Int64 :=
  bd (gA (some t) 11 1) fun x51 =>
  bd (ldI 0 x51 v1) fun x55 =>
  bd (pX11_in (Int32.toInt64 v9) (0 : Int64) (Int32.toInt64 x55)) fun x57 =>
  if x57 = 0 then
    bX11_effectAt_87  k10 t v1 v2 v3 v4 v5 v7 v9 v10 s0
  else
    bd (vc 11 (some t) (fun o => pX11_weightOf o v4 s0)) fun x70 =>
    bd (vc 11 (some t) (fun o => pX11_influenceAt o v1 v2 v3 v9)) fun x80 =>
    bX11_effectAt_87  k10 t v1 v2 v3 v4 v5 ((v7 + ((Int32.toInt64 x70) * x80))) v9 v10 s0
def bX11_effectAt_10  (k10 : Nat → Int32 → Int32 → Int32 → Int32 → Int32 → Int64 → Int32 → Int32 → Mo Int64) (t : Nat) (v1 : Int32) (v2 : Int32) (v3 : Int32) (v4 : Int32) (v5 : Int32) (v7 : Int64) (v9 : Int32) (v10 : Int32) : Mo Int64 :=
  bd (gA (some t) 11 13) fun x13 =>
  bd (ldI 0 x13 v4) fun x18 =>
  if x18 ≤ v10 then
    rn v7
  else
    if v5 = 0 then
      bX11_effectAt_44  k10 t v1 v2 v3 v4 v5 v7 v9 v10 v10
    else
      bd (gA (some t) 11 13) fun x33 =>
      bd (ldI 0 x33 v4) fun x38 =>
      bX11_effectAt_44  k10 t v1 v2 v3 v4 v5 v7 v9 v10 (((x38 - (1 : Int32)) - v10))
def fX11_effectAt_10   : Nat → Nat → Int32 → Int32 → Int32 → Int32 → Int32 → Int64 → Int32 → Int32 → Mo Int64
  | 0 => fun _ _ _ _ _ _ _ _ _ => fl
  | n + 1 => bX11_effectAt_10  (fX11_effectAt_10   n)
def pX11_effectAt  (t : Nat) (v1 : Int32) (v2 : Int32) (v3 : Int32) (v4 : Int32) (v5 : Int32) (v6 : Int32) : Mo Int64 :=
  fX11_effectAt_10   FU t v1 v2 v3 v4 v5 ((0 : Int64)) v6 ((0 : Int32))
def bX11_gcd_12  (k12 : Int64 → Int64 → Mo Int64) (v4 : Int64) (v6 : Int64) : Mo Int64 :=
  if v6 = (0 : Int64) then
    rn v4
  else
    bd (rmL v4 v6) fun x23 =>
    k12 v6 x23
def fX11_gcd_12   : Nat → Int64 → Int64 → Mo Int64
  | 0 => fun _ _ => fl
  | n + 1 => bX11_gcd_12  (fX11_gcd_12   n)
def pX11_gcd  (v0 : Int64) (v2 : Int64) : Mo Int64 :=
  bd (pX11_size v0) fun x1 =>
  bd (pX11_size v2) fun x7 =>
  fX11_gcd_12   FU x1 x7
def pX11_part  (v0 : Int64) (v2 : Int64) (v4 : Int32) : Mo Int64 :=
  bd (pX11_gcd v0 v2) fun x2 =>
  if v4 = 0 then
    bd (dvL v0 x2) fun x15 =>
    rn x15
  else
    bd (dvL v2 x2) fun x22 =>
    rn x22
def pX11_effect  (t : Nat) (v1 : Int32) (v2 : Int32) (v3 : Int32) (v4 : Int32) (v5 : Int32) (v6 : Int32) (v7 : Int32) : Mo Int64 :=
  bd (vc 11 (some t) (fun o => pX11_noBridge o v1)) fun x2 =>
  if x2 = 0 then
    bd (vc 11 (some t) (fun o => pX11_noSupport o v1 v2 v3)) fun x12 =>
    if x12 = 0 then
      bd (vc 11 (some t) (fun o => pX11_noTrain o v4)) fun x21 =>
      if x21 = 0 then
        bd (vc 11 (some t) (fun o => pX11_isResponse o v1 v2 v3)) fun x35 =>
        if x35 = 0 then
          rn (-1002 : Int64)
        else
          bd (pX11_in (Int32.toInt64 v5) (0 : Int64) (1 : Int64)) fun x46 =>
          if x46 = 0 then
            rn (-1002 : Int64)
          else
            bd (gA (some t) 11 1) fun x57 =>
            bd (ldI 0 x57 v1) fun x61 =>
            bd (vc 11 (some t) (fun o => pX11_allGaps o v4)) fun x65 =>
            bd (pX11_in (Int32.toInt64 v6) (0 : Int64) (Int32.toInt64 (x61 + x65))) fun x70 =>
            if x70 = 0 then
              rn (-1002 : Int64)
            else
              bd (pX11_in (Int32.toInt64 v7) (0 : Int64) (1 : Int64)) fun x81 =>
              if x81 = 0 then
                rn (-1002 : Int64)
              else
                bd (vc 11 (some t) (fun o => pX11_effectAt o v1 v2 v3 v4 v5 v6)) fun x101 =>
                bd (gA (some t) 11 9) fun x105 =>
                bd (ldL x105 v1) fun x109 =>
                bd (pX11_part x101 x109 v7) fun x112 =>
                rn x112
      else
        rn (-1001 : Int64)
    else
      rn (-1001 : Int64)
  else
    rn (-1001 : Int64)
def bX11_extreme_96  (k16 : Nat → Int32 → Int32 → Int32 → Int32 → Int32 → Int64 → Int32 → Mo Int64) (k25 : Nat → Int32 → Int32 → Int32 → Int32 → Int32 → Int64 → Int32 → Int32 → Mo Int64) (t : Nat) (v1 : Int32) (v2 : Int32) (v3 : Int32) (v4 : Int32) (v5 : Int32) (v8 : Int32) (v9 : Int32) (v12 : Int64) : Mo Int64 :=
  bd (pF (some t) 11 21 (vi v8)) fun _ =>
  bd (pF (some t) 11 22 (vi v9)) fun _ =>
  k25 t v1 v2 v3 v4 v5 v12 v8 ((v9 + (1 : Int32)))
def bX11_extreme_72  (k16 : Nat → Int32 → Int32 → Int32 → Int32 → Int32 → Int64 → Int32 → Mo Int64) (k25 : Nat → Int32 → Int32 → Int32 → Int32 → Int32 → Int64 → Int32 → Int32 → Mo Int64) (t : Nat) (v1 : Int32) (v2 : Int32) (v3 : Int32) (v4 : Int32) (v5 : Int32) (v6 : Int64) (v8 : Int32) (v9 : Int32) (s0 : Int64) : Mo Int64 :=
  if s0 < (0 : Int64) then
    k25 t v1 v2 v3 v4 v5 v6 v8 ((v9 + (1 : Int32)))
  else
    bd (gI (some t) 11 21) fun x82 =>
    if x82 < 0 then
      bX11_extreme_96  k16 k25 t v1 v2 v3 v4 v5 v8 v9 s0
    else
      if s0 ≤ v6 then
        k25 t v1 v2 v3 v4 v5 v6 v8 ((v9 + (1 : Int32)))
      else
        bX11_extreme_96  k16 k25 t v1 v2 v3 v4 v5 v8 v9 s0
def bX11_extreme_25  (k16 : Nat → Int32 → Int32 → Int32 → Int32 → Int32 → Int64 → Int32 → Mo Int64) (k25 : Nat → Int32 → Int32 → Int32 → Int32 → Int32 → Int64 → Int32 → Int32 → Mo Int64) (t : Nat) (v1 : Int32) (v2 : Int32) (v3 : Int32) (v4 : Int32) (v5 : Int32) (v6 : Int64) (v8 : Int32) (v9 : Int32) : Mo Int64 :=
  bd (gA (some t) 11 1) fun x28 =>
  bd (ldI 0 x28 v1) fun x32 =>
  bd (vc 11 (some t) (fun o => pX11_allGaps o v4)) fun x36 =>
  if (x32 + x36) < v9 then
    k16 t v1 v2 v3 v4 v5 v6 ((v8 + (1 : Int32)))
  else
    bd (vc 11 (some t) (fun o => pX11_effectAt o v1 v2 v3 v4 v8 v9)) fun x53 =>
    if v5 = 0 then
      bX11_extreme_72  k16 k25 t v1 v2 v3 v4 v5 v6 v8 v9 x53
    else
      bX11_extreme_72  k16 k25 t v1 v2 v3 v4 v5 v6 v8 v9 (((0 : Int64) - x53))
def fX11_extreme_25  (k16 : Nat → Int32 → Int32 → Int32 → Int32 → Int32 → Int64 → Int32 → Mo Int64) : Nat → Nat → Int32 → Int32 → Int32 → Int32 → Int32 → Int64 → Int32 → Int32 → Mo Int64
  | 0 => fun _ _ _ _ _ _ _ _ _ => fl
  | n + 1 => bX11_extreme_25  k16 (fX11_extreme_25  k16 n)
def bX11_extreme_16  (k16 : Nat → Int32 → Int32 → Int32 → Int32 → Int32 → Int64 → Int32 → Mo Int64) (t : Nat) (v1 : Int32) (v2 : Int32) (v3 : Int32) (v4 : Int32) (v5 : Int32) (v6 : Int64) (v8 : Int32) : Mo Int64 :=
  if (2 : Int32) ≤ v8 then
    if v5 = 0 then
      rn v6
    else
      rn ((0 : Int64) - v6)
  else
    fX11_extreme_25  k16 FU t v1 v2 v3 v4 v5 v6 v8 ((0 : Int32))
def fX11_extreme_16   : Nat → Nat → Int32 → Int32 → Int32 → Int32 → Int32 → Int64 → Int32 → Mo Int64
  | 0 => fun _ _ _ _ _ _ _ _ => fl
  | n + 1 => bX11_extreme_16  (fX11_extreme_16   n)
def pX11_extreme  (t : Nat) (v1 : Int32) (v2 : Int32) (v3 : Int32) (v4 : Int32) (v5 : Int32) : Mo Int64 :=
  bd (pF (some t) 11 21 (vi (-1 : Int32))) fun _ =>
  bd (pF (some t) 11 22 (vi (-1 : Int32))) fun _ =>
  fX11_extreme_16   FU t v1 v2 v3 v4 v5 ((0 : Int64)) ((0 : Int32))
def bX11_totalOf_122   (t : Nat) (v1 : Int32) (v4 : Int32) (v7 : Int64) : Mo Int64 :=
  if v4 = (2 : Int32) then
    rn (v7 * (Int32.toInt64 (100 : Int32)))
  else
    bd (gA (some t) 11 5) fun x138 =>
    bd (ldI 0 x138 v1) fun x142 =>
    rn (v7 * (Int32.toInt64 ((100 : Int32) + x142)))
def pX11_totalOf  (t : Nat) (v1 : Int32) (v2 : Int32) (v3 : Int32) (v4 : Int32) (v5 : Int32) : Mo Int64 :=
  bd (gA (some t) 11 24) fun x13 =>
  bd (ldI 0 x13 (((5 : Int32) * v1) + v2)) fun x18 =>
  bd (gA (some t) 11 25) fun x20 =>
  bd (ldI 0 x20 (((5 : Int32) * v1) + v2)) fun x25 =>
  bd (vc 11 (some t) (fun o => pX11_extreme o v1 x18 x25 v3 v5)) fun x29 =>
  if v4 = 0 then
    bd (gI (some t) 11 17) fun x41 =>
    if x41 < 0 then
      bX11_totalOf_122   t v1 v4 (((100 : Int64) * x29))
    else
      bd (gA (some t) 11 6) fun x48 =>
      bd (ldI 0 x48 v1) fun x52 =>
      if x52 ≤ (1 : Int32) then
        bX11_totalOf_122   t v1 v4 (((100 : Int64) * x29))
      else
        bd (gI (some t) 11 20) fun x58 =>
        bd (pF (some t) 11 20 (vi (-1 : Int32))) fun _ =>
        bd (gA (some t) 11 6) fun x71 =>
        bd (ldI 0 x71 v1) fun x75 =>
        bd (gA (some t) 11 7) fun x80 =>
        bd (ldI 0 x80 v1) fun x84 =>
        bd (gA (some t) 11 24) fun x90 =>
        bd (ldI 0 x90 (((5 : Int32) * v1) + v2)) fun x95 =>
        bd (gA (some t) 11 25) fun x97 =>
        bd (ldI 0 x97 (((5 : Int32) * v1) + v2)) fun x102 =>
        bd (gI (some t) 11 17) fun x104 =>
        bd (vc 11 (some t) (fun o => pX11_extreme o v1 x95 x102 x104 v5)) fun x109 =>
        bd (pF (some t) 11 20 (vi x58)) fun _ =>
        bX11_totalOf_122   t v1 v4 ((((100 : Int64) * x29) + (((Int32.toInt64 (x75 - (1 : Int32))) * (Int32.toInt64 x84)) * x109)))
  else
    bX11_totalOf_122   t v1 v4 (((100 : Int64) * x29))
def pX11_isMet  (t : Nat) (v1 : Int32) (v2 : Int32) (v3 : Int32) (v4 : Int32) : Mo Int32 :=
  bd (gA (some t) 11 9) fun x4 =>
  bd (ldL x4 v1) fun x8 =>
  bd (vc 11 (some t) (fun o => pX11_totalOf o v1 v2 v3 v4 (0 : Int32))) fun x19 =>
  bd (gA (some t) 11 26) fun x23 =>
  bd (ldI 0 x23 (((5 : Int32) * v1) + v2)) fun x31 =>
  if ((Int32.toInt64 x31) * ((10000 : Int64) * x8)) < x19 then
    rnZ (0 : Int32)
  else
    bd (vc 11 (some t) (fun o => pX11_totalOf o v1 v2 v3 v4 (1 : Int32))) fun x47 =>
    bd (gA (some t) 11 27) fun x51 =>
    bd (ldI 0 x51 (((5 : Int32) * v1) + v2)) fun x59 =>
    if x47 < ((Int32.toInt64 x59) * ((10000 : Int64) * x8)) then
      rnZ (0 : Int32)
    else
      rnZ (1 : Int32)
def bX11_failing_3  (k3 : Nat → Int32 → Int32 → Int32 → Int32 → Mo Int32) (t : Nat) (v1 : Int32) (v2 : Int32) (v3 : Int32) (v4 : Int32) : Mo Int32 :=
  bd (gA (some t) 11 23) fun x6 =>
  bd (ldI 0 x6 v1) fun x10 =>
  if x10 ≤ v4 then
    rn (-1 : Int32)
  else
    bd (vc 11 (some t) (fun o => pX11_isMet o v1 v4 v2 v3)) fun x20 =>
    if x20 = 0 then
      rn v4
    else
      k3 t v1 v2 v3 ((v4 + (1 : Int32)))
def fX11_failing_3   : Nat → Nat → Int32 → Int32 → Int32 → Int32 → Mo Int32
  | 0 => fun _ _ _ _ _ => fl
  | n + 1 => bX11_failing_3  (fX11_failing_3   n)
def pX11_failing  (t : Nat) (v1 : Int32) (v2 : Int32) (v3 : Int32) : Mo Int32 :=
  fX11_failing_3   FU t v1 v2 v3 ((0 : Int32))
def pX11_isMode  (v0 : Int32) : Mo Int32 :=
  bd (pX11_in (Int32.toInt64 v0) (0 : Int64) (2 : Int64)) fun x6 =>
  rnZ x6
def pX11_fails  (t : Nat) (v1 : Int32) (v2 : Int32) (v3 : Int32) : Mo Int32 :=
  bd (vc 11 (some t) (fun o => pX11_noBridge o v1)) fun x2 =>
  if x2 = 0 then
    bd (vc 11 (some t) (fun o => pX11_noTrain o v2)) fun x10 =>
    if x10 = 0 then
      bd (pX11_isMode v3) fun x21 =>
      if x21 = 0 then
        rn (-1002 : Int32)
      else
        bd (vc 11 (some t) (fun o => pX11_failing o v1 v2 v3)) fun x31 =>
        rn x31
    else
      rn (-1001 : Int32)
  else
    rn (-1001 : Int32)
def pX11_influence  (t : Nat) (v1 : Int32) (v2 : Int32) (v3 : Int32) (v4 : Int32) (v5 : Int32) : Mo Int64 :=
  bd (vc 11 (some t) (fun o => pX11_noBridge o v1)) fun x2 =>
  if x2 = 0 then
    bd (vc 11 (some t) (fun o => pX11_noSupport o v1 v2 v3)) fun x12 =>
    if x12 = 0 then
      bd (vc 11 (some t) (fun o => pX11_isResponse o v1 v2 v3)) fun x26 =>
      if x26 = 0 then
        rn (-1002 : Int64)
      else
        bd (gA (some t) 11 1) fun x37 =>
        bd (ldI 0 x37 v1) fun x41 =>
        bd (pX11_in (Int32.toInt64 v4) (0 : Int64) (Int32.toInt64 x41)) fun x43 =>
        if x43 = 0 then
          rn (-1002 : Int64)
        else
          bd (pX11_in (Int32.toInt64 v5) (0 : Int64) (1 : Int64)) fun x54 =>
          if x54 = 0 then
            rn (-1002 : Int64)
          else
            bd (vc 11 (some t) (fun o => pX11_influenceAt o v1 v2 v3 v4)) fun x70 =>
            bd (gA (some t) 11 9) fun x74 =>
            bd (ldL x74 v1) fun x78 =>
            bd (pX11_part x70 x78 v5) fun x81 =>
            rn x81
    else
      rn (-1001 : Int64)
  else
    rn (-1001 : Int64)
def pX11_noCheck  (t : Nat) (v1 : Int32) (v2 : Int32) : Mo Int32 :=
  bd (vc 11 (some t) (fun o => pX11_noBridge o v1)) fun x2 =>
  if x2 = 0 then
    bd (gA (some t) 11 23) fun x12 =>
    bd (ldI 0 x12 v1) fun x16 =>
    bd (pX11_in (Int32.toInt64 v2) (0 : Int64) (Int32.toInt64 (x16 - (1 : Int32)))) fun x20 =>
    if x20 = 0 then
      rnZ (1 : Int32)
    else
      rnZ (0 : Int32)
  else
    rnZ (1 : Int32)
def pX11_limit  (t : Nat) (v1 : Int32) (v2 : Int32) (v3 : Int32) (v4 : Int32) : Mo Int32 :=
  bd (vc 11 (some t) (fun o => pX11_noCheck o v1 v2)) fun x3 =>
  if x3 = 0 then
    bd (pX11_isLimit v3 v4) fun x16 =>
    if x16 = 0 then
      rn (-1002 : Int32)
    else
      bd (gA (some t) 11 26) fun x27 =>
      bd (stI x27 (((5 : Int32) * v1) + v2) v3) fun _ =>
      bd (gA (some t) 11 27) fun x38 =>
      bd (stI x38 (((5 : Int32) * v1) + v2) v4) fun _ =>
      rn (1 : Int32)
  else
    rn (-1001 : Int32)
def bX11_holds_32   (t : Nat) (s0 : Int32) : Mo Int32 :=
  bd (pF (some t) 11 20 (vi (-1 : Int32))) fun _ =>
  bd (pF (some t) 11 18 (vi (100 : Int32))) fun _ =>
  bd (pF (some t) 11 19 (vi (0 : Int32))) fun _ =>
  rnZ s0
def pX11_holds  (t : Nat) (v1 : Int32) (v2 : Int32) (v3 : Int32) (v4 : Int32) (v5 : Int32) : Mo Int32 :=
  bd (pF (some t) 11 20 (vi v2)) fun _ =>
  bd (pF (some t) 11 18 (vi v4)) fun _ =>
  bd (pF (some t) 11 19 (vi v5)) fun _ =>
  bd (vc 11 (some t) (fun o => pX11_failing o v1 v2 v3)) fun x21 =>
  if 0 ≤ x21 then
    bX11_holds_32   t ((0 : Int32))
  else
    bX11_holds_32   t ((1 : Int32))
def bX11_posted_24  (k24 : Nat → Int32 → Int32 → Int32 → Mo Int32) (t : Nat) (v1 : Int32) (v2 : Int32) (v3 : Int32) : Mo Int32 :=
  if v3 < 0 then
    rn v3
  else
    bd (vc 11 (some t) (fun o => pX11_holds o v1 v2 (0 : Int32) v3 (0 : Int32))) fun x34 =>
    if x34 = 0 then
      k24 t v1 v2 ((v3 + (-1 : Int32)))
    else
      rn v3
def fX11_posted_24   : Nat → Nat → Int32 → Int32 → Int32 → Mo Int32
  | 0 => fun _ _ _ _ => fl
  | n + 1 => bX11_posted_24  (fX11_posted_24   n)
def pX11_posted  (t : Nat) (v1 : Int32) (v2 : Int32) : Mo Int32 :=
  bd (vc 11 (some t) (fun o => pX11_noBridge o v1)) fun x2 =>
  if x2 = 0 then
    bd (vc 11 (some t) (fun o => pX11_noTrain o v2)) fun x10 =>
    if x10 = 0 then
      fX11_posted_24   FU t v1 v2 ((300 : Int32))
    else
      rn (-1001 : Int32)
  else
    rn (-1001 : Int32)
def pX11_isTown  (v0 : Int32) : Mo Int32 :=
  bd (pX11_in (Int32.toInt64 v0) (0 : Int64) (9 : Int64)) fun x6 =>
  rnZ x6
def bX11_road_33   (t : Nat) (v1 : Int32) (v2 : Int32) (v3 : Int32) (v4 : Int32) : Mo Int32 :=
  bd (pX11_in (Int32.toInt64 v3) (1 : Int64) (500 : Int64)) fun x39 =>
  if x39 = 0 then
    rn (-1002 : Int32)
  else
    if v1 = v2 then
      rn (-1002 : Int32)
    else
      bd (gI (some t) 11 28) fun x55 =>
      if x55 = (24 : Int32) then
        rn (-1004 : Int32)
      else
        bd (gA (some t) 11 29) fun x68 =>
        bd (gI (some t) 11 28) fun x72 =>
        bd (stI x68 x72 v1) fun _ =>
        bd (gA (some t) 11 30) fun x78 =>
        bd (gI (some t) 11 28) fun x82 =>
        bd (stI x78 x82 v2) fun _ =>
        bd (gA (some t) 11 31) fun x88 =>
        bd (gI (some t) 11 28) fun x92 =>
        bd (stI x88 x92 v3) fun _ =>
        bd (gA (some t) 11 32) fun x98 =>
        bd (gI (some t) 11 28) fun x102 =>
        bd (stI x98 x102 v4) fun _ =>
        bd (gI (some t) 11 28) fun x110 =>
        bd (pF (some t) 11 28 (vi (x110 + (1 : Int32)))) fun _ =>
        bd (gI (some t) 11 28) fun x119 =>
        rn (x119 - (1 : Int32))
def pX11_road  (t : Nat) (v1 : Int32) (v2 : Int32) (v3 : Int32) (v4 : Int32) : Mo Int32 :=
  bd (pX11_isTown v1) fun x1 =>
  if x1 = 0 then
    rn (-1001 : Int32)
  else
    bd (pX11_isTown v2) fun x8 =>
    if x8 = 0 then
      rn (-1001 : Int32)
    else
      if v4 = (-1 : Int32) then
        bX11_road_33   t v1 v2 v3 v4
      else
        bd (vc 11 (some t) (fun o => pX11_noBridge o v4)) fun x23 =>
        if x23 = 0 then
          bX11_road_33   t v1 v2 v3 v4
        else
          rn (-1001 : Int32)
def pX11_beyond  (t : Nat) (v1 : Int32) (v2 : Int32) : Mo Int32 :=
  bd (gA (some t) 11 29) fun x1 =>
  bd (ldI 0 x1 v1) fun x5 =>
  if x5 = v2 then
    bd (gA (some t) 11 30) fun x11 =>
    bd (ldI 0 x11 v1) fun x15 =>
    rn x15
  else
    bd (gA (some t) 11 30) fun x20 =>
    bd (ldI 0 x20 v1) fun x24 =>
    if x24 = v2 then
      bd (gA (some t) 11 29) fun x30 =>
      bd (ldI 0 x30 v1) fun x34 =>
      rn x34
    else
      rn (-1 : Int32)
def bX11_findFar_201  (k39 : Nat → Int32 → Mo Unit) (k47 : Nat → Int32 → Int32 → Mo Unit) (k58 : Nat → Int32 → Int32 → Int32 → Mo Unit) (t : Nat) (v2 : Int32) (v3 : Int32) (v4 : Int32) (v5 : Int32) (v6 : Int32) (v7 : Int32) (s0 : Int32) : Mo Unit :=
  if s0 = 0 then
    k58 t v2 v3 ((v4 + (1 : Int32)))
  else
    bd (gA (some t) 11 34) fun x209 =>
    bd (stI x209 v6 v7) fun _ =>
    bd (gA (some t) 11 35) fun x218 =>
    bd (gA (some t) 11 35) fun x224 =>
    bd (ldI 0 x224 v5) fun x229 =>
    bd (stI x218 v6 (x229 + (1 : Int32))) fun _ =>
    k58 t ((1 : Int32)) v3 ((v4 + (1 : Int32)))
def bX11_findFar_115  (k39 : Nat → Int32 → Mo Unit) (k47 : Nat → Int32 → Int32 → Mo Unit) (k58 : Nat → Int32 → Int32 → Int32 → Mo Unit) (t : Nat) (v2 : Int32) (v3 : Int32) (v4 : Int32) (v5 : Int32) (s0 : Int32) : Mo Unit :=
  bd (gA (some t) 11 34) fun x118 =>
  bd (ldI 0 x118 v5) fun x123 =>
  bd (gA (some t) 11 31) fun x125 =>
  bd (ldI 0 x125 v3) fun x129 =>
  bd (gA (some t) 11 34) fun x134 =>
  bd (ldI 0 x134 v5) fun x139 =>
  if x139 < 0 then
    bX11_findFar_201  k39 k47 k58 t v2 v3 v4 v5 s0 ((x123 + x129)) ((0 : Int32))
  else
    bd (gA (some t) 11 34) fun x144 =>
    bd (ldI 0 x144 s0) fun x149 =>
    if x149 < 0 then
      bX11_findFar_201  k39 k47 k58 t v2 v3 v4 v5 s0 ((x123 + x129)) ((1 : Int32))
    else
      bd (gA (some t) 11 34) fun x156 =>
      bd (ldI 0 x156 s0) fun x161 =>
      if (x123 + x129) < x161 then
        bX11_findFar_201  k39 k47 k58 t v2 v3 v4 v5 s0 ((x123 + x129)) ((1 : Int32))
      else
        bd (gA (some t) 11 34) fun x168 =>
        bd (ldI 0 x168 s0) fun x173 =>
        if (x123 + x129) = x173 then
          bd (gA (some t) 11 35) fun x178 =>
          bd (ldI 0 x178 v5) fun x183 =>
          bd (gA (some t) 11 35) fun x187 =>
          bd (ldI 0 x187 s0) fun x192 =>
          if x192 ≤ (x183 + (1 : Int32)) then
            bX11_findFar_201  k39 k47 k58 t v2 v3 v4 v5 s0 ((x123 + x129)) ((0 : Int32))
          else
            bX11_findFar_201  k39 k47 k58 t v2 v3 v4 v5 s0 ((x123 + x129)) ((1 : Int32))
        else
          bX11_findFar_201  k39 k47 k58 t v2 v3 v4 v5 s0 ((x123 + x129)) ((0 : Int32))
def bX11_findFar_93  (k39 : Nat → Int32 → Mo Unit) (k47 : Nat → Int32 → Int32 → Mo Unit) (k58 : Nat → Int32 → Int32 → Int32 → Mo Unit) (t : Nat) (v2 : Int32) (v3 : Int32) (v4 : Int32) (s0 : Int32) : Mo Unit :=
  if v4 = 0 then
    bd (gA (some t) 11 30) fun x101 =>
    bd (ldI 0 x101 v3) fun x105 =>
    bX11_findFar_115  k39 k47 k58 t v2 v3 v4 s0 x105
  else
    bd (gA (some t) 11 29) fun x110 =>
    bd (ldI 0 x110 v3) fun x114 =>
    bX11_findFar_115  k39 k47 k58 t v2 v3 v4 s0 x114
def bX11_findFar_58  (k39 : Nat → Int32 → Mo Unit) (k47 : Nat → Int32 → Int32 → Mo Unit) (k58 : Nat → Int32 → Int32 → Int32 → Mo Unit) (t : Nat) (v2 : Int32) (v3 : Int32) (v4 : Int32) : Mo Unit :=
  if (2 : Int32) ≤ v4 then
    k47 t v2 ((v3 + (1 : Int32)))
  else
    bd (gA (some t) 11 33) fun x65 =>
    bd (ldI 2 x65 v3) fun x69 =>
    if x69 = 0 then
      k47 t v2 ((v3 + (1 : Int32)))
    else
      if v4 = 0 then
        bd (gA (some t) 11 29) fun x79 =>
        bd (ldI 0 x79 v3) fun x83 =>
        bX11_findFar_93  k39 k47 k58 t v2 v3 v4 x83
      else
        bd (gA (some t) 11 30) fun x88 =>
        bd (ldI 0 x88 v3) fun x92 =>
        bX11_findFar_93  k39 k47 k58 t v2 v3 v4 x92
def fX11_findFar_58  (k39 : Nat → Int32 → Mo Unit) (k47 : Nat → Int32 → Int32 → Mo Unit) : Nat → Nat → Int32 → Int32 → Int32 → Mo Unit
  | 0 => fun _ _ _ _ => fl
  | n + 1 => bX11_findFar_58  k39 k47 (fX11_findFar_58  k39 k47 n)
def bX11_findFar_47  (k39 : Nat → Int32 → Mo Unit) (k47 : Nat → Int32 → Int32 → Mo Unit) (t : Nat) (v2 : Int32) (v3 : Int32) : Mo Unit :=
  bd (gI (some t) 11 28) fun x49 =>
  if x49 ≤ v3 then
    k39 t v2
  else
    fX11_findFar_58  k39 k47 FU t v2 v3 ((0 : Int32))
def fX11_findFar_47  (k39 : Nat → Int32 → Mo Unit) : Nat → Nat → Int32 → Int32 → Mo Unit
  | 0 => fun _ _ _ => fl
  | n + 1 => bX11_findFar_47  k39 (fX11_findFar_47  k39 n)
def bX11_findFar_39  (k39 : Nat → Int32 → Mo Unit) (t : Nat) (v2 : Int32) : Mo Unit :=
  if v2 = 0 then
    rn ()
  else
    fX11_findFar_47  k39 FU t ((0 : Int32)) ((0 : Int32))
def fX11_findFar_39   : Nat → Nat → Int32 → Mo Unit
  | 0 => fun _ _ => fl
  | n + 1 => bX11_findFar_39  (fX11_findFar_39   n)
def bX11_findFar_23  (k2 : Nat → Int32 → Int32 → Mo Unit) (t : Nat) (v1 : Int32) (v2 : Int32) (s0 : Option Nat) (s1 : Int32) (s2 : Int32) : Mo Unit :=
  bd (stI s0 s1 s2) fun _ =>
  bd (gA (some t) 11 35) fun x25 =>
  bd (stI x25 v2 (0 : Int32)) fun _ =>
  k2 t v1 ((v2 + (1 : Int32)))
def bX11_findFar_2  (k2 : Nat → Int32 → Int32 → Mo Unit) (t : Nat) (v1 : Int32) (v2 : Int32) : Mo Unit :=
  if (10 : Int32) ≤ v2 then
    fX11_findFar_39   FU t ((1 : Int32))
  else
    bd (gA (some t) 11 34) fun x9 =>
    if v2 = v1 then
      bX11_findFar_23  k2 t v1 v2 x9 v2 ((0 : Int32))
    else
      bX11_findFar_23  k2 t v1 v2 x9 v2 ((-1 : Int32))
def fX11_findFar_2   : Nat → Nat → Int32 → Int32 → Mo Unit
  | 0 => fun _ _ _ => fl
  | n + 1 => bX11_findFar_2  (fX11_findFar_2   n)
def pX11_findFar  (t : Nat) (v1 : Int32) : Mo Unit :=
  fX11_findFar_2   FU t v1 ((0 : Int32))
def bX11_layRoute_122  (k21 : Nat → Int32 → Int32 → Int32 → Mo Int32) (k32 : Nat → Int32 → Int32 → Int32 → Int32 → Int32 → Mo Int32) (t : Nat) (v2 : Int32) (v3 : Int32) (v4 : Int32) (v5 : Int32) (s0 : Int32) : Mo Int32 :=
  if s0 = 0 then
    k32 t v2 v3 v4 ((v5 + (1 : Int32))) s0
  else
    k32 t v2 v3 v4 ((v5 + (0 : Int32))) s0
def bX11_layRoute_58  (k21 : Nat → Int32 → Int32 → Int32 → Mo Int32) (k32 : Nat → Int32 → Int32 → Int32 → Int32 → Int32 → Mo Int32) (t : Nat) (v2 : Int32) (v3 : Int32) (v4 : Int32) (v5 : Int32) (s0 : Int32) : Mo Int32 :=
  if s0 < 0 then
    bX11_layRoute_122  k21 k32 t v2 v3 v4 v5 ((0 : Int32))
  else
    bd (gA (some t) 11 34) fun x66 =>
    bd (ldI 0 x66 s0) fun x71 =>
    if x71 < 0 then
      bX11_layRoute_122  k21 k32 t v2 v3 v4 v5 ((0 : Int32))
    else
      bd (gA (some t) 11 34) fun x76 =>
      bd (ldI 0 x76 s0) fun x81 =>
      bd (gA (some t) 11 31) fun x83 =>
      bd (ldI 0 x83 v5) fun x88 =>
      bd (gA (some t) 11 34) fun x91 =>
      bd (ldI 0 x91 v3) fun x95 =>
      if (x81 + x88) = x95 then
        bd (gA (some t) 11 35) fun x100 =>
        bd (ldI 0 x100 s0) fun x105 =>
        bd (gA (some t) 11 35) fun x109 =>
        bd (ldI 0 x109 v3) fun x113 =>
        if (x105 + (1 : Int32)) = x113 then
          bX11_layRoute_122  k21 k32 t v2 v3 v4 v5 ((1 : Int32))
        else
          bX11_layRoute_122  k21 k32 t v2 v3 v4 v5 ((0 : Int32))
      else
        bX11_layRoute_122  k21 k32 t v2 v3 v4 v5 ((0 : Int32))
def bX11_layRoute_32  (k21 : Nat → Int32 → Int32 → Int32 → Mo Int32) (k32 : Nat → Int32 → Int32 → Int32 → Int32 → Int32 → Mo Int32) (t : Nat) (v2 : Int32) (v3 : Int32) (v4 : Int32) (v5 : Int32) (v6 : Int32) : Mo Int32 :=
  if v6 = 0 then
    bd (gA (some t) 11 33) fun x38 =>
    bd (ldI 2 x38 v5) fun x43 =>
    if x43 = 0 then
      bX11_layRoute_58  k21 k32 t v2 v3 v4 v5 ((-1 : Int32))
    else
      bd (vc 11 (some t) (fun o => pX11_beyond o v5 v3)) fun x51 =>
      bX11_layRoute_58  k21 k32 t v2 v3 v4 v5 x51
  else
    bd (gA (some t) 11 36) fun x143 =>
    bd (stI x143 v4 v5) fun _ =>
    bd (vc 11 (some t) (fun o => pX11_beyond o v5 v3)) fun x158 =>
    k21 t v2 x158 ((v4 + (1 : Int32)))
def fX11_layRoute_32  (k21 : Nat → Int32 → Int32 → Int32 → Mo Int32) : Nat → Nat → Int32 → Int32 → Int32 → Int32 → Int32 → Mo Int32
  | 0 => fun _ _ _ _ _ _ => fl
  | n + 1 => bX11_layRoute_32  k21 (fX11_layRoute_32  k21 n)
def bX11_layRoute_21  (k21 : Nat → Int32 → Int32 → Int32 → Mo Int32) (t : Nat) (v2 : Int32) (v3 : Int32) (v4 : Int32) : Mo Int32 :=
  if v3 = v2 then
    rn v4
  else
    fX11_layRoute_32  k21 FU t v2 v3 v4 ((0 : Int32)) ((0 : Int32))
def fX11_layRoute_21   : Nat → Nat → Int32 → Int32 → Int32 → Mo Int32
  | 0 => fun _ _ _ _ => fl
  | n + 1 => bX11_layRoute_21  (fX11_layRoute_21   n)
def pX11_layRoute  (t : Nat) (v1 : Int32) (v2 : Int32) : Mo Int32 :=
  bd (vc 11 (some t) (fun o => pX11_findFar o v2)) fun _ =>
  bd (gA (some t) 11 34) fun x6 =>
  bd (ldI 0 x6 v1) fun x10 =>
  if 0 ≤ x10 then
    fX11_layRoute_21   FU t v2 v1 ((0 : Int32))
  else
    rn (-1 : Int32)
def bX11_open_53  (k3 : Nat → Int32 → Int32 → Int32 → Int32 → Mo Unit) (t : Nat) (v1 : Int32) (v2 : Int32) (v3 : Int32) (v4 : Int32) (s0 : Option Nat) (s1 : Int32) (s2 : Int32) : Mo Unit :=
  bd (stZ s0 s1 s2) fun _ =>
  k3 t v1 v2 v3 ((v4 + (1 : Int32)))
def bX11_open_3  (k3 : Nat → Int32 → Int32 → Int32 → Int32 → Mo Unit) (t : Nat) (v1 : Int32) (v2 : Int32) (v3 : Int32) (v4 : Int32) : Mo Unit :=
  bd (gI (some t) 11 28) fun x6 =>
  if x6 ≤ v4 then
    rn ()
  else
    bd (gA (some t) 11 33) fun x13 =>
    if v3 = 0 then
      bd (gA (some t) 11 32) fun x23 =>
      bd (ldI 0 x23 v4) fun x28 =>
      if x28 < 0 then
        bX11_open_53  k3 t v1 v2 v3 v4 x13 v4 ((1 : Int32))
      else
        bd (gA (some t) 11 32) fun x34 =>
        bd (ldI 0 x34 v4) fun x39 =>
        bd (vc 11 (some t) (fun o => pX11_failing o x39 v1 v2)) fun x42 =>
        if 0 ≤ x42 then
          bX11_open_53  k3 t v1 v2 v3 v4 x13 v4 ((0 : Int32))
        else
          bX11_open_53  k3 t v1 v2 v3 v4 x13 v4 ((1 : Int32))
    else
      bX11_open_53  k3 t v1 v2 v3 v4 x13 v4 ((1 : Int32))
def fX11_open_3   : Nat → Nat → Int32 → Int32 → Int32 → Int32 → Mo Unit
  | 0 => fun _ _ _ _ _ => fl
  | n + 1 => bX11_open_3  (fX11_open_3   n)
def pX11_open  (t : Nat) (v1 : Int32) (v2 : Int32) (v3 : Int32) : Mo Unit :=
  fX11_open_3   FU t v1 v2 v3 ((0 : Int32))
def pX11_route  (t : Nat) (v1 : Int32) (v2 : Int32) (v3 : Int32) (v4 : Int32) (v5 : Int32) : Mo Int32 :=
  bd (vc 11 (some t) (fun o => pX11_noTrain o v1)) fun x2 =>
  if x2 = 0 then
    bd (pX11_isTown v3) fun x9 =>
    if x9 = 0 then
      rn (-1001 : Int32)
    else
      bd (pX11_isTown v4) fun x17 =>
      if x17 = 0 then
        rn (-1001 : Int32)
      else
        bd (pX11_isMode v2) fun x28 =>
        if x28 = 0 then
          rn (-1002 : Int32)
        else
          bd (pX11_in (Int32.toInt64 v5) (0 : Int64) (11 : Int64)) fun x41 =>
          if x41 = 0 then
            rn (-1002 : Int32)
          else
            if v3 = v4 then
              rn (-1002 : Int32)
            else
              bd (vc 11 (some t) (fun o => pX11_open o v1 v2 (0 : Int32))) fun _ =>
              bd (vc 11 (some t) (fun o => pX11_layRoute o v3 v4)) fun x68 =>
              if 0 ≤ x68 then
                if v5 = 0 then
                  bd (gA (some t) 11 34) fun x86 =>
                  bd (ldI 0 x86 v3) fun x90 =>
                  rn x90
                else
                  if v5 = (1 : Int32) then
                    rn x68
                  else
                    if x68 ≤ (v5 - (2 : Int32)) then
                      rn (-1 : Int32)
                    else
                      bd (gA (some t) 11 36) fun x115 =>
                      bd (ldI 0 x115 (v5 - (2 : Int32))) fun x122 =>
                      rn x122
              else
                rn (-1 : Int32)
  else
    rn (-1001 : Int32)
def bX11_rule_86   (t : Nat) (v1 : Int32) (v2 : Int32) (v3 : Int32) (v4 : Int32) : Mo Int32 :=
  if v2 = (2 : Int32) then
    bd (pX11_in (Int32.toInt64 v3) (0 : Int64) (100 : Int64)) fun x97 =>
    if x97 = 0 then
      rn v4
    else
      bd (gA (some t) 11 7) fun x104 =>
      bd (ldI 0 x104 v1) fun x108 =>
      bd (gA (some t) 11 7) fun x112 =>
      bd (stI x112 v1 v3) fun _ =>
      rn x108
  else
    rn v4
def bX11_rule_51   (t : Nat) (v1 : Int32) (v2 : Int32) (v3 : Int32) (v4 : Int32) : Mo Int32 :=
  if v2 = (1 : Int32) then
    bd (pX11_in (Int32.toInt64 v3) (1 : Int64) (4 : Int64)) fun x62 =>
    if x62 = 0 then
      bX11_rule_86   t v1 v2 v3 v4
    else
      bd (gA (some t) 11 6) fun x69 =>
      bd (ldI 0 x69 v1) fun x73 =>
      bd (gA (some t) 11 6) fun x77 =>
      bd (stI x77 v1 v3) fun _ =>
      rn x73
  else
    bX11_rule_86   t v1 v2 v3 v4
def pX11_rule  (t : Nat) (v1 : Int32) (v2 : Int32) (v3 : Int32) : Mo Int32 :=
  bd (vc 11 (some t) (fun o => pX11_noBridge o v1)) fun x2 =>
  if x2 = 0 then
    if v2 = 0 then
      bd (pX11_in (Int32.toInt64 v3) (0 : Int64) (60 : Int64)) fun x27 =>
      if x27 = 0 then
        bX11_rule_51   t v1 v2 v3 ((-1002 : Int32))
      else
        bd (gA (some t) 11 5) fun x34 =>
        bd (ldI 0 x34 v1) fun x38 =>
        bd (gA (some t) 11 5) fun x42 =>
        bd (stI x42 v1 v3) fun _ =>
        rn x38
    else
      bX11_rule_51   t v1 v2 v3 ((-1002 : Int32))
  else
    rn (-1001 : Int32)
def bX11_spread_61   (t : Nat) (v4 : Int32) : Mo Int32 :=
  if v4 ≤ (20 : Int32) then
    rn v4
  else
    rn (-1 : Int32)
def bX11_spread_34  (k34 : Nat → Int32 → Int32 → Int32 → Int32 → Mo Int32) (t : Nat) (v1 : Int32) (v2 : Int32) (v3 : Int32) (v4 : Int32) : Mo Int32 :=
  if (20 : Int32) < v4 then
    bX11_spread_61   t v4
  else
    bd (vc 11 (some t) (fun o => pX11_holds o v1 v2 v3 (100 : Int32) v4)) fun x49 =>
    if x49 = 0 then
      k34 t v1 v2 v3 ((v4 + (1 : Int32)))
    else
      bX11_spread_61   t v4
def fX11_spread_34   : Nat → Nat → Int32 → Int32 → Int32 → Int32 → Mo Int32
  | 0 => fun _ _ _ _ _ => fl
  | n + 1 => bX11_spread_34  (fX11_spread_34   n)
def pX11_spread  (t : Nat) (v1 : Int32) (v2 : Int32) (v3 : Int32) : Mo Int32 :=
  bd (vc 11 (some t) (fun o => pX11_noBridge o v1)) fun x2 =>
  if x2 = 0 then
    bd (vc 11 (some t) (fun o => pX11_noTrain o v2)) fun x10 =>
    if x10 = 0 then
      bd (pX11_isMode v3) fun x21 =>
      if x21 = 0 then
        rn (-1002 : Int32)
      else
        fX11_spread_34   FU t v1 v2 v3 ((0 : Int32))
    else
      rn (-1001 : Int32)
  else
    rn (-1001 : Int32)
def pX11_told  (t : Nat) (v1 : Int32) (v2 : Int32) : Mo Int32 :=
  bd (vc 11 (some t) (fun o => pX11_noBridge o v1)) fun x2 =>
  if x2 = 0 then
    swt v2 [
      (
       bd (gA (some t) 11 1) fun x57 =>
       bd (ldI 0 x57 v1) fun x61 =>
       rn x61
      ),
      (
       bd (gA (some t) 11 2) fun x64 =>
       bd (ldI 0 x64 v1) fun x68 =>
       rn x68
      ),
      (
       bd (gA (some t) 11 3) fun x71 =>
       bd (ldI 0 x71 v1) fun x75 =>
       rn x75
      ),
      (
       bd (gA (some t) 11 23) fun x78 =>
       bd (ldI 0 x78 v1) fun x82 =>
       rn x82
      ),
      (
       bd (gA (some t) 11 5) fun x85 =>
       bd (ldI 0 x85 v1) fun x89 =>
       rn x89
      ),
      (
       bd (gA (some t) 11 6) fun x92 =>
       bd (ldI 0 x92 v1) fun x96 =>
       rn x96
      ),
      (
       bd (gA (some t) 11 7) fun x99 =>
       bd (ldI 0 x99 v1) fun x103 =>
       rn x103
      )
     ] (
       rn (-1002 : Int32)
      )
  else
    rn (-1001 : Int32)
def pX11_total  (t : Nat) (v1 : Int32) (v2 : Int32) (v3 : Int32) (v4 : Int32) (v5 : Int32) (v6 : Int32) : Mo Int64 :=
  bd (vc 11 (some t) (fun o => pX11_noCheck o v1 v2)) fun x3 =>
  if x3 = 0 then
    bd (vc 11 (some t) (fun o => pX11_noTrain o v3)) fun x11 =>
    if x11 = 0 then
      bd (pX11_isMode v4) fun x23 =>
      if x23 = 0 then
        rn (-1002 : Int64)
      else
        bd (pX11_in (Int32.toInt64 v5) (0 : Int64) (1 : Int64)) fun x34 =>
        if x34 = 0 then
          rn (-1002 : Int64)
        else
          bd (pX11_in (Int32.toInt64 v6) (0 : Int64) (1 : Int64)) fun x45 =>
          if x45 = 0 then
            rn (-1002 : Int64)
          else
            bd (vc 11 (some t) (fun o => pX11_totalOf o v1 v2 v3 v4 v5)) fun x63 =>
            bd (gA (some t) 11 9) fun x70 =>
            bd (ldL x70 v1) fun x74 =>
            bd (pX11_part x63 ((10000 : Int64) * x74) v6) fun x78 =>
            rn x78
    else
      rn (-1001 : Int64)
  else
    rn (-1001 : Int64)
def pX11_traffic  (t : Nat) (v1 : Int32) (v2 : Int32) : Mo Int32 :=
  bd (vc 11 (some t) (fun o => pX11_noTrain o v1)) fun x2 =>
  if x2 = 0 then
    bd (pX11_in (Int32.toInt64 v2) (0 : Int64) (1000 : Int64)) fun x18 =>
    if x18 = 0 then
      rn (-1002 : Int32)
    else
      bd (gA (some t) 11 16) fun x29 =>
      bd (ldI 0 x29 v1) fun x33 =>
      bd (gA (some t) 11 16) fun x36 =>
      bd (stI x36 v1 v2) fun _ =>
      rn x33
  else
    rn (-1001 : Int32)
def pX11_train  (t : Nat) (v1 : Int32) : Mo Int32 :=
  bd (pX11_in (Int32.toInt64 v1) (1 : Int64) (200 : Int64)) fun x6 =>
  if x6 = 0 then
    rn (-1002 : Int32)
  else
    bd (gI (some t) 11 12) fun x17 =>
    if x17 = (8 : Int32) then
      rn (-1004 : Int32)
    else
      bd (gA (some t) 11 13) fun x30 =>
      bd (gI (some t) 11 12) fun x34 =>
      bd (stI x30 x34 (1 : Int32)) fun _ =>
      bd (gA (some t) 11 14) fun x40 =>
      bd (gI (some t) 11 12) fun x46 =>
      bd (stI x40 ((8 : Int32) * x46) v1) fun _ =>
      bd (gA (some t) 11 15) fun x53 =>
      bd (gI (some t) 11 12) fun x59 =>
      bd (stI x53 ((8 : Int32) * x59) (0 : Int32)) fun _ =>
      bd (gA (some t) 11 16) fun x66 =>
      bd (gI (some t) 11 12) fun x70 =>
      bd (stI x66 x70 (0 : Int32)) fun _ =>
      bd (gI (some t) 11 12) fun x77 =>
      bd (pF (some t) 11 12 (vi (x77 + (1 : Int32)))) fun _ =>
      bd (gI (some t) 11 12) fun x86 =>
      rn (x86 - (1 : Int32))
def bX11_usual_17   (t : Nat) (v1 : Int32) : Mo Int32 :=
  bd (gI (some t) 11 17) fun x18 =>
  bd (pF (some t) 11 17 (vi v1)) fun _ =>
  rn x18
def pX11_usual  (t : Nat) (v1 : Int32) : Mo Int32 :=
  if v1 = (-1 : Int32) then
    bX11_usual_17   t v1
  else
    bd (vc 11 (some t) (fun o => pX11_noTrain o v1)) fun x7 =>
    if x7 = 0 then
      bX11_usual_17   t v1
    else
      rn (-1001 : Int32)
def pX11_cube  (v0 : Int64) : Mo Int64 :=
  rn ((v0 * v0) * v0)
def bX11_isIdle_69   (t : Nat) (s0 : Int32) (s1 : Int32) : Mo Int32 :=
  if s0 = s1 then
    rnZ (1 : Int32)
  else
    rnZ (0 : Int32)
def bX11_isIdle_57   (t : Nat) (v4 : Int64) (s0 : Int32) : Mo Int32 :=
  if v4 ≤ (0 : Int64) then
    bX11_isIdle_69   t s0 ((0 : Int32))
  else
    bX11_isIdle_69   t s0 ((1 : Int32))
def pX11_isIdle  (t : Nat) (v1 : Int32) : Mo Int32 :=
  bd (gA (some t) 11 37) fun x1 =>
  bd (ldL x1 v1) fun x5 =>
  bd (gA (some t) 11 37) fun x7 =>
  bd (ldL x7 (v1 - (1 : Int32))) fun x13 =>
  bd (gA (some t) 11 37) fun x17 =>
  bd (ldL x17 (v1 + (1 : Int32))) fun x23 =>
  bd (gA (some t) 11 37) fun x25 =>
  bd (ldL x25 v1) fun x29 =>
  if (x5 - x13) = (0 : Int64) then
    rnZ (1 : Int32)
  else
    if (x23 - x29) = (0 : Int64) then
      rnZ (1 : Int32)
    else
      if (x5 - x13) ≤ (0 : Int64) then
        bX11_isIdle_57   t ((x23 - x29)) ((0 : Int32))
      else
        bX11_isIdle_57   t ((x23 - x29)) ((1 : Int32))
def bX11_out_2  (k2 : Nat → Int32 → Int32 → Mo Unit) (t : Nat) (v2 : Int32) (v3 : Int32) : Mo Unit :=
  bd (gI (some t) 11 38) fun x6 =>
  if x6 ≤ (v3 + v2) then
    bd (gI (some t) 11 38) fun x34 =>
    bd (pF (some t) 11 38 (vi (x34 - v2))) fun _ =>
    rn ()
  else
    bd (gA (some t) 11 37) fun x13 =>
    bd (gA (some t) 11 37) fun x18 =>
    bd (ldL x18 (v3 + v2)) fun x24 =>
    bd (stL x13 v3 x24) fun _ =>
    k2 t v2 ((v3 + (1 : Int32)))
def fX11_out_2   : Nat → Nat → Int32 → Int32 → Mo Unit
  | 0 => fun _ _ _ => fl
  | n + 1 => bX11_out_2  (fX11_out_2   n)
def pX11_out  (t : Nat) (v1 : Int32) (v2 : Int32) : Mo Unit :=
  fX11_out_2   FU t v2 v1
def pX11_stepAt  (t : Nat) (v1 : Int32) : Mo Int64 :=
  bd (gA (some t) 11 37) fun x1 =>
  bd (ldL x1 (v1 + (1 : Int32))) fun x7 =>
  bd (gA (some t) 11 37) fun x9 =>
  bd (ldL x9 v1) fun x13 =>
  bd (pX11_size (x7 - x13)) fun x15 =>
  rn x15
def bX11_wearOf_255  (k255 : Nat → Int32 → Int64 → Int32 → Mo Int64) (t : Nat) (v1 : Int32) (v6 : Int64) (v8 : Int32) : Mo Int64 :=
  bd (gI (some t) 11 38) fun x260 =>
  if x260 ≤ (v8 + (1 : Int32)) then
    rn v6
  else
    bd (vc 11 (some t) (fun o => pX11_stepAt o v8)) fun x271 =>
    bd (gA (some t) 11 9) fun x275 =>
    bd (ldL x275 v1) fun x279 =>
    bd (dvL x271 x279) fun x280 =>
    bd (pX11_cube x280) fun x281 =>
    k255 t v1 ((v6 + x281)) ((v8 + (1 : Int32)))
def fX11_wearOf_255   : Nat → Nat → Int32 → Int64 → Int32 → Mo Int64
  | 0 => fun _ _ _ _ => fl
  | n + 1 => bX11_wearOf_255  (fX11_wearOf_255   n)
def bX11_wearOf_143  (k143 : Nat → Int32 → Int32 → Int64 → Mo Int64) (t : Nat) (v1 : Int32) (v5 : Int32) (v6 : Int64) : Mo Int64 :=
  bd (gI (some t) 11 38) fun x148 =>
  if x148 ≤ (v5 + (3 : Int32)) then
    bd (gI (some t) 11 38) fun x244 =>
    bd (pF (some t) 11 40 (vi (x244 - (1 : Int32)))) fun _ =>
    fX11_wearOf_255   FU t v1 v6 ((0 : Int32))
  else
    bd (vc 11 (some t) (fun o => pX11_stepAt o (v5 + (1 : Int32)))) fun x159 =>
    bd (vc 11 (some t) (fun o => pX11_stepAt o v5)) fun x169 =>
    if x169 < x159 then
      k143 t v1 ((v5 + (1 : Int32))) v6
    else
      bd (vc 11 (some t) (fun o => pX11_stepAt o (v5 + (2 : Int32)))) fun x183 =>
      if x183 < x159 then
        k143 t v1 ((v5 + (1 : Int32))) v6
      else
        bd (gA (some t) 11 9) fun x198 =>
        bd (ldL x198 v1) fun x202 =>
        bd (dvL x159 x202) fun x203 =>
        bd (pX11_cube x203) fun x204 =>
        bd (gI (some t) 11 39) fun x213 =>
        bd (pF (some t) 11 39 (vi (x213 + (1 : Int32)))) fun _ =>
        bd (vc 11 (some t) (fun o => pX11_out o (v5 + (1 : Int32)) (2 : Int32))) fun _ =>
        k143 t v1 ((0 : Int32)) ((v6 + ((2 : Int64) * x204)))
def fX11_wearOf_143   : Nat → Nat → Int32 → Int32 → Int64 → Mo Int64
  | 0 => fun _ _ _ _ => fl
  | n + 1 => bX11_wearOf_143  (fX11_wearOf_143   n)
def bX11_wearOf_93  (k93 : Nat → Int32 → Int32 → Mo Int64) (t : Nat) (v1 : Int32) (v5 : Int32) : Mo Int64 :=
  bd (gI (some t) 11 38) fun x98 =>
  if x98 ≤ (v5 + (1 : Int32)) then
    bd (pF (some t) 11 39 (vi (0 : Int32))) fun _ =>
    fX11_wearOf_143   FU t v1 ((0 : Int32)) ((0 : Int64))
  else
    bd (vc 11 (some t) (fun o => pX11_isIdle o v5)) fun x107 =>
    if x107 = 0 then
      k93 t v1 ((v5 + (1 : Int32)))
    else
      bd (vc 11 (some t) (fun o => pX11_out o v5 (1 : Int32))) fun _ =>
      k93 t v1 ((1 : Int32))
def fX11_wearOf_93   : Nat → Nat → Int32 → Int32 → Mo Int64
  | 0 => fun _ _ _ => fl
  | n + 1 => bX11_wearOf_93  (fX11_wearOf_93   n)
def bX11_wearOf_15  (k15 : Nat → Int32 → Int32 → Int32 → Int32 → Int32 → Mo Int64) (t : Nat) (v1 : Int32) (v2 : Int32) (v3 : Int32) (v4 : Int32) (v5 : Int32) : Mo Int64 :=
  bd (gA (some t) 11 1) fun x18 =>
  bd (ldI 0 x18 v1) fun x22 =>
  bd (vc 11 (some t) (fun o => pX11_allGaps o v4)) fun x26 =>
  if (x22 + x26) < v5 then
    bd (gA (some t) 11 37) fun x71 =>
    bd (gI (some t) 11 38) fun x75 =>
    bd (stL x71 x75 (0 : Int64)) fun _ =>
    bd (gI (some t) 11 38) fun x82 =>
    bd (pF (some t) 11 38 (vi (x82 + (1 : Int32)))) fun _ =>
    fX11_wearOf_93   FU t v1 ((1 : Int32))
  else
    bd (gA (some t) 11 37) fun x34 =>
    bd (gI (some t) 11 38) fun x38 =>
    bd (vc 11 (some t) (fun o => pX11_effectAt o v1 v2 v3 v4 (0 : Int32) v5)) fun x50 =>
    bd (stL x34 x38 x50) fun _ =>
    bd (gI (some t) 11 38) fun x56 =>
    bd (pF (some t) 11 38 (vi (x56 + (1 : Int32)))) fun _ =>
    k15 t v1 v2 v3 v4 ((v5 + (1 : Int32)))
def fX11_wearOf_15   : Nat → Nat → Int32 → Int32 → Int32 → Int32 → Int32 → Mo Int64
  | 0 => fun _ _ _ _ _ _ => fl
  | n + 1 => bX11_wearOf_15  (fX11_wearOf_15   n)
def pX11_wearOf  (t : Nat) (v1 : Int32) (v2 : Int32) (v3 : Int32) (v4 : Int32) : Mo Int64 :=
  bd (pF (some t) 11 38 (vi (1 : Int32))) fun _ =>
  bd (gA (some t) 11 37) fun x6 =>
  bd (stL x6 (0 : Int32) (0 : Int64)) fun _ =>
  fX11_wearOf_15   FU t v1 v2 v3 v4 ((0 : Int32))
def pX11_wear  (t : Nat) (v1 : Int32) (v2 : Int32) (v3 : Int32) (v4 : Int32) (v5 : Int32) : Mo Int64 :=
  bd (vc 11 (some t) (fun o => pX11_noBridge o v1)) fun x2 =>
  if x2 = 0 then
    bd (vc 11 (some t) (fun o => pX11_noSupport o v1 v2 v3)) fun x12 =>
    if x12 = 0 then
      bd (vc 11 (some t) (fun o => pX11_noTrain o v4)) fun x21 =>
      if x21 = 0 then
        bd (vc 11 (some t) (fun o => pX11_isResponse o v1 v2 v3)) fun x35 =>
        if x35 = 0 then
          rn (-1002 : Int64)
        else
          bd (pX11_in (Int32.toInt64 v5) (0 : Int64) (2 : Int64)) fun x48 =>
          if x48 = 0 then
            rn (-1002 : Int64)
          else
            bd (vc 11 (some t) (fun o => pX11_wearOf o v1 v2 v3 v4)) fun x64 =>
            if v5 = 0 then
              rn x64
            else
              if v5 = (1 : Int32) then
                bd (gI (some t) 11 39) fun x86 =>
                rn (Int32.toInt64 x86)
              else
                bd (gI (some t) 11 40) fun x94 =>
                rn (Int32.toInt64 x94)
      else
        rn (-1001 : Int64)
    else
      rn (-1001 : Int64)
  else
    rn (-1001 : Int64)
def bX11_why_120  (k82 : Nat → Int32 → Int32 → Int32 → Int32 → Mo Int32) (t : Nat) (v1 : Int32) (v2 : Int32) (v5 : Int32) (v6 : Int32) (v7 : Int32) (s0 : Int32) : Mo Int32 :=
  if s0 < 0 then
    k82 t v1 v2 v5 ((v6 + (1 : Int32)))
  else
    rn (((10 : Int32) * v7) + s0)
def bX11_why_82  (k82 : Nat → Int32 → Int32 → Int32 → Int32 → Mo Int32) (t : Nat) (v1 : Int32) (v2 : Int32) (v5 : Int32) (v6 : Int32) : Mo Int32 :=
  if v5 ≤ v6 then
    rn (-1 : Int32)
  else
    bd (gA (some t) 11 32) fun x90 =>
    bd (gA (some t) 11 36) fun x94 =>
    bd (ldI 0 x94 v6) fun x99 =>
    bd (ldI 0 x90 x99) fun x100 =>
    if 0 ≤ x100 then
      bd (vc 11 (some t) (fun o => pX11_failing o x100 v1 v2)) fun x117 =>
      bX11_why_120  k82 t v1 v2 v5 v6 x100 x117
    else
      bX11_why_120  k82 t v1 v2 v5 v6 x100 ((-1 : Int32))
def fX11_why_82   : Nat → Nat → Int32 → Int32 → Int32 → Int32 → Mo Int32
  | 0 => fun _ _ _ _ _ => fl
  | n + 1 => bX11_why_82  (fX11_why_82   n)
def pX11_why  (t : Nat) (v1 : Int32) (v2 : Int32) (v3 : Int32) (v4 : Int32) : Mo Int32 :=
  bd (vc 11 (some t) (fun o => pX11_noTrain o v1)) fun x2 =>
  if x2 = 0 then
    bd (pX11_isTown v3) fun x9 =>
    if x9 = 0 then
      rn (-1001 : Int32)
    else
      bd (pX11_isTown v4) fun x17 =>
      if x17 = 0 then
        rn (-1001 : Int32)
      else
        bd (pX11_isMode v2) fun x28 =>
        if x28 = 0 then
          rn (-1002 : Int32)
        else
          if v3 = v4 then
            rn (-1002 : Int32)
          else
            bd (vc 11 (some t) (fun o => pX11_open o v1 v2 (0 : Int32))) fun _ =>
            bd (vc 11 (some t) (fun o => pX11_layRoute o v3 v4)) fun x55 =>
            if x55 < 0 then
              bd (vc 11 (some t) (fun o => pX11_open o v1 v2 (1 : Int32))) fun _ =>
              bd (vc 11 (some t) (fun o => pX11_layRoute o v3 v4)) fun x74 =>
              fX11_why_82   FU t v1 v2 x74 ((0 : Int32))
            else
              rn (-1 : Int32)
  else
    rn (-1001 : Int32)
def bX11_worn_42  (k42 : Nat → Int32 → Int32 → Int32 → Int64 → Int32 → Mo Int64) (t : Nat) (v1 : Int32) (v2 : Int32) (v3 : Int32) (v4 : Int64) (v6 : Int32) : Mo Int64 :=
  bd (gI (some t) 11 12) fun x45 =>
  if x45 ≤ v6 then
    rn v4
  else
    bd (gA (some t) 11 16) fun x54 =>
    bd (ldI 0 x54 v6) fun x59 =>
    bd (vc 11 (some t) (fun o => pX11_wearOf o v1 v2 v3 v6)) fun x67 =>
    k42 t v1 v2 v3 ((v4 + ((Int32.toInt64 x59) * x67))) ((v6 + (1 : Int32)))
def fX11_worn_42   : Nat → Nat → Int32 → Int32 → Int32 → Int64 → Int32 → Mo Int64
  | 0 => fun _ _ _ _ _ _ => fl
  | n + 1 => bX11_worn_42  (fX11_worn_42   n)
def pX11_worn  (t : Nat) (v1 : Int32) (v2 : Int32) (v3 : Int32) : Mo Int64 :=
  bd (vc 11 (some t) (fun o => pX11_noBridge o v1)) fun x2 =>
  if x2 = 0 then
    bd (vc 11 (some t) (fun o => pX11_noSupport o v1 v2 v3)) fun x12 =>
    if x12 = 0 then
      bd (vc 11 (some t) (fun o => pX11_isResponse o v1 v2 v3)) fun x26 =>
      if x26 = 0 then
        rn (-1002 : Int64)
      else
        fX11_worn_42   FU t v1 v2 v3 ((0 : Int64)) ((0 : Int32))
    else
      rn (-1001 : Int64)
  else
    rn (-1001 : Int64)
def pX11_worst  (t : Nat) (v1 : Int32) (v2 : Int32) (v3 : Int32) (v4 : Int32) (v5 : Int32) (v6 : Int32) : Mo Int64 :=
  bd (vc 11 (some t) (fun o => pX11_noBridge o v1)) fun x2 =>
  if x2 = 0 then
    bd (vc 11 (some t) (fun o => pX11_noSupport o v1 v2 v3)) fun x12 =>
    if x12 = 0 then
      bd (vc 11 (some t) (fun o => pX11_noTrain o v4)) fun x21 =>
      if x21 = 0 then
        bd (vc 11 (some t) (fun o => pX11_isResponse o v1 v2 v3)) fun x35 =>
        if x35 = 0 then
          rn (-1002 : Int64)
        else
          bd (pX11_in (Int32.toInt64 v5) (0 : Int64) (1 : Int64)) fun x46 =>
          if x46 = 0 then
            rn (-1002 : Int64)
          else
            bd (pX11_in (Int32.toInt64 v6) (0 : Int64) (3 : Int64)) fun x59 =>
            if x59 = 0 then
              rn (-1002 : Int64)
            else
              bd (vc 11 (some t) (fun o => pX11_extreme o v1 v2 v3 v4 v5)) fun x77 =>
              if (2 : Int32) ≤ v6 then
                if v6 = (2 : Int32) then
                  bd (gI (some t) 11 21) fun x111 =>
                  rn (Int32.toInt64 x111)
                else
                  bd (gI (some t) 11 22) fun x119 =>
                  rn (Int32.toInt64 x119)
              else
                bd (gA (some t) 11 9) fun x91 =>
                bd (ldL x91 v1) fun x95 =>
                bd (pX11_part x77 x95 v6) fun x98 =>
                rn x98
      else
        rn (-1001 : Int64)
    else
      rn (-1001 : Int64)
  else
    rn (-1001 : Int64)
