def M8_in (x0 : Int64) (x2 : Int64) (x4 : Int64) (σ : St) : Option (Int32 × St) :=
  some (if (lg_cmp x0 x2) < 0 then 0 else if 0 < (lg_cmp x0 x4) then 0 else 1, σ)
def M8_back_J83 (x1 : Int32) (x2 : Int32) (y0 : Int32) (y1 : Int32) (σ : St) : Option (Int32 × St) :=
  lt (s2 σ 0 11 (y1 - y0)) fun σ9 =>
  if x1 = 2 then
    lt (s2 σ9 0 13 ((σ9 0 13) - 1)) fun σ12 =>
    some (x2 - 1, σ12)
  else
    lt (s2 σ9 0 13 ((σ9 0 13) - 0)) fun σ11 =>
    some (x2 - 1, σ11)
def M8_back_J64 (x1 : Int32) (x2 : Int32) (y0 : Int32) (y1 : Int32) (σ : St) : Option (Int32 × St) :=
  lt (s2 σ 0 9 (y1 - y0)) fun σ7 =>
  M8_back_J83 x1 x2 (if x1 = 1 then 1 else 0) (σ7 0 11) σ7
def M8_back_J42 (x1 : Int32) (y0 : Int32) (σ : St) : Option (Int32 × St) :=
  if y0 = 0 then
    some ((-3), σ)
  else
    M8_back_J64 x1 y0 (if x1 = 0 then 1 else 0) (σ 0 9) σ
def M8_back (x1 : Int32) (σ : St) : Option (Int32 × St) :=
  bd (M8_in x1.toInt64 0 2 σ) fun r1 σ1 =>
  if r1 = 0 then
    some ((-2), σ1)
  else
    M8_back_J42 x1 (if x1 = 0 then σ1 0 9 else if x1 = 1 then σ1 0 11 else σ1 0 13) σ1
def M8_begins_L71 (kx : St → Option (Unit × St)) : Nat → Int32 → St → Option (Unit × St)
  | 0, _, _ => none
  | n + 1, x1, σ =>
    if (σ 0 9) ≤ x1 then
      kx σ
    else
      if inb x1 52 then
      lt (s2 σ 17 x1.toNatClampNeg 0) fun σ18 =>
      lt (s2 σ18 18 x1.toNatClampNeg ((-1))) fun σ20 =>
      lt (s2 σ20 20 x1.toNatClampNeg ((-1))) fun σ22 =>
      lt (x1 + 1) fun v23 =>
      M8_begins_L71 kx n v23 σ22
      else none
def M8_begins_L2 (kx : St → Option (Unit × St)) : Nat → Int32 → St → Option (Unit × St)
  | 0, _, _ => none
  | n + 1, x1, σ =>
    if (σ 7 0) ≤ x1 then
      kx σ
    else
      if inb ((4 * x1) + 1) 64 then
      if inb x1 8 then
      lt (s2 σ 12 x1.toNatClampNeg (σ 8 ((4 * x1) + 1).toNatClampNeg)) fun σ5 =>
      if inb ((4 * x1) + 2) 64 then
      lt (s2 σ5 13 x1.toNatClampNeg (σ5 8 ((4 * x1) + 2).toNatClampNeg)) fun σ8 =>
      lt (s2 σ8 14 x1.toNatClampNeg ((-1))) fun σ10 =>
      lt (s2 σ10 16 x1.toNatClampNeg 0) fun σ12 =>
      lt (x1 + 1) fun v13 =>
      M8_begins_L2 kx n v13 σ12
      else none
      else none
      else none
def M8_begins (σ : St) : Option (Unit × St) :=
  M8_begins_L2 (fun (σ14 : St) =>
    lt (s2 σ14 0 21 0) fun σ15 =>
    M8_begins_L71 (fun (σ24 : St) =>
      some ((), σ24)) FU 0 σ15) FU 0 σ
def M8_isIn (x0 : Int32) (x1 : Int32) (σ : St) : Option (Int32 × St) :=
  some (if ((x0 >>> (x1 &&& 31)) &&& 1) = 1 then 1 else 0, σ)
def M8_comesBack_J54 (x1 : Int32) (y0 : Int32) (y1 : Int32) (y2 : Nat) (σ : St) : Option (Unit × St) :=
  if inb y1 (ln y2) then
  lt (s2 σ y2 y1.toNatClampNeg y0) fun σ12 =>
  lt (s2 σ12 0 21 ((σ12 0 21) &&& (((1 : Int32) <<< (x1 &&& 31)) ^^^ ((-1))))) fun σ13 =>
  some ((), σ13)
  else none
def M8_comesBack (x1 : Int32) (x2 : Int32) (σ : St) : Option (Unit × St) :=
  if inb x1 8 then
  lt (σ 14 x1.toNatClampNeg) fun v2 =>
  lt (s2 σ 14 x1.toNatClampNeg ((-1))) fun σ4 =>
  if inb v2 52 then
  lt (s2 σ4 20 v2.toNatClampNeg ((σ4 12 x1.toNatClampNeg) * (σ4 13 x1.toNatClampNeg))) fun σ8 =>
  bd (M8_isIn (σ8 0 21) x1 σ8) fun r9 σ9 =>
  M8_comesBack_J54 x1 (if r9 = 0 then (-1) else x2) v2 18 σ9
  else none
  else none
def M8_isHole (x1 : Int32) (σ : St) : Option (Int32 × St) :=
  bd (M8_in x1.toInt64 0 (((σ 7 0) - 1).toInt64) σ) fun r2 σ2 =>
  if r2 = 0 ∨ r2 = 1 then some (r2, σ2) else none
def M8_fillsOn_J63 (kb : Int32 → St → Option (Unit × St)) (x1 : Int32) (x2 : Int32) (y0 : Int32) (y1 : Int32) (σ : St) : Option (Unit × St) :=
  lt (s2 σ 0 21 (y1 ||| y0)) fun σ6 =>
  lt (x2 + 1) fun v7 =>
  kb v7 σ6
def M8_fillsOn_J62 (kb : Int32 → St → Option (Unit × St)) (x1 : Int32) (x2 : Int32) (y0 : Int32) (σ : St) : Option (Unit × St) :=
  M8_fillsOn_J63 kb x1 x2 0 y0 σ
def M8_fillsOn_L2 (x1 : Int32) (kx : St → Option (Unit × St)) : Nat → Int32 → St → Option (Unit × St)
  | 0, _, _ => none
  | n + 1, x2, σ =>
    if (σ 0 11) ≤ x2 then
      kx σ
    else
      if inb ((2 * x2) + 1) 16 then
      lt (σ 10 ((2 * x2) + 1).toNatClampNeg) fun v3 =>
      if inb (2 * x2) 16 then
      if (σ 10 (2 * x2).toNatClampNeg) = x1 then
        bd (M8_isHole v3 σ) fun r8 σ8 =>
        if r8 = 0 then
          M8_fillsOn_J62 (fun x2 σ => M8_fillsOn_L2 x1 kx n x2 σ) x1 x2 (σ 0 21) σ8
        else
          if inb v3 8 then
          if (σ8 14 v3.toNatClampNeg) = ((-1)) then
            M8_fillsOn_J62 (fun x2 σ => M8_fillsOn_L2 x1 kx n x2 σ) x1 x2 (σ 0 21) σ8
          else
            M8_fillsOn_J63 (fun x2 σ => M8_fillsOn_L2 x1 kx n x2 σ) x1 x2 ((1 : Int32) <<< (v3 &&& 31)) (σ 0 21) σ8
          else none
      else
        M8_fillsOn_J62 (fun x2 σ => M8_fillsOn_L2 x1 kx n x2 σ) x1 x2 (σ 0 21) σ
      else none
      else none
def M8_fillsOn (x1 : Int32) (σ : St) : Option (Unit × St) :=
  M8_fillsOn_L2 x1 (fun (σ12 : St) =>
    some ((), σ12)) FU 0 σ
def M8_greater (x0 : Int32) (x1 : Int32) (σ : St) : Option (Int32 × St) :=
  some (if x0 ≤ x1 then x1 else x0, σ)
def M8_lesser (x0 : Int32) (x1 : Int32) (σ : St) : Option (Int32 × St) :=
  some (if x1 ≤ x0 then x1 else x0, σ)
def M8_grows_J41 (x1 : Int32) (x2 : Int32) (y0 : Int32) (y1 : Int32) (y2 : Nat) (σ : St) : Option (Unit × St) :=
  if inb y1 (ln y2) then
  lt (s2 σ y2 y1.toNatClampNeg y0) fun σ7 =>
  if x2 = 2 then
    if inb x1 8 then
    bd (M8_lesser ((σ7 13 x1.toNatClampNeg) + 1) 9 σ7) fun r18 σ18 =>
    lt (s2 σ18 13 x1.toNatClampNeg r18) fun σ20 =>
    some ((), σ20)
    else none
  else
    if x2 = 1 then
      if inb x1 8 then
      bd (M8_greater ((σ7 13 x1.toNatClampNeg) - 1) 1 σ7) fun r14 σ14 =>
      lt (s2 σ14 13 x1.toNatClampNeg r14) fun σ16 =>
      some ((), σ16)
      else none
    else
      if inb x1 8 then
      lt (s2 σ7 13 x1.toNatClampNeg (σ7 13 x1.toNatClampNeg)) fun σ12 =>
      some ((), σ12)
      else none
  else none
def M8_grows (x1 : Int32) (σ : St) : Option (Unit × St) :=
  if inb (4 * x1) 64 then
  lt (σ 8 (4 * x1).toNatClampNeg) fun v2 =>
  if v2 = 2 then
    if inb x1 8 then
    M8_grows_J41 x1 v2 (σ 12 x1.toNatClampNeg) x1 12 σ
    else none
  else
    if inb x1 8 then
    bd (M8_lesser ((σ 12 x1.toNatClampNeg) + 1) 9 σ) fun r5 σ5 =>
    M8_grows_J41 x1 v2 r5 x1 12 σ5
    else none
  else none
def M8_lendsOn_J119 (kb : Int32 → St → Option (Unit × St)) (x1 : Int32) (x2 : Int32) (σ : St) : Option (Unit × St) :=
  lt (x2 + 1) fun v5 =>
  kb v5 σ
def M8_lendsOn_L2 (x1 : Int32) (kx : St → Option (Unit × St)) : Nat → Int32 → St → Option (Unit × St)
  | 0, _, _ => none
  | n + 1, x2, σ =>
    if (σ 0 9) ≤ x2 then
      kx σ
    else
      if inb ((4 * x2) + 1) 208 then
      lt (σ 9 ((4 * x2) + 1).toNatClampNeg) fun v3 =>
      if x2 = (σ 0 26) then
        M8_lendsOn_J119 (fun x2 σ => M8_lendsOn_L2 x1 kx n x2 σ) x1 x2 σ
      else
        if inb (4 * x2) 208 then
        if (σ 9 (4 * x2).toNatClampNeg) = x1 then
          bd (M8_isHole v3 σ) fun r8 σ8 =>
          if r8 = 0 then
            M8_lendsOn_J119 (fun x2 σ => M8_lendsOn_L2 x1 kx n x2 σ) x1 x2 σ8
          else
            if inb v3 8 then
            if (σ8 14 v3.toNatClampNeg) = ((-1)) then
              lt (s2 σ8 14 v3.toNatClampNeg x2) fun σ13 =>
              lt (s2 σ13 16 v3.toNatClampNeg 0) fun σ15 =>
              if inb ((4 * x2) + 3) 208 then
              lt (s2 σ15 15 v3.toNatClampNeg ((x1 + (σ15 9 ((4 * x2) + 3).toNatClampNeg)) - 1)) fun σ18 =>
              if inb x2 52 then
              lt (s2 σ18 17 x2.toNatClampNeg 1) fun σ20 =>
              lt (s2 σ20 19 x2.toNatClampNeg ((σ20 12 v3.toNatClampNeg) * (σ20 13 v3.toNatClampNeg))) fun σ24 =>
              M8_lendsOn_J119 (fun x2 σ => M8_lendsOn_L2 x1 kx n x2 σ) x1 x2 σ24
              else none
              else none
            else
              M8_lendsOn_J119 (fun x2 σ => M8_lendsOn_L2 x1 kx n x2 σ) x1 x2 σ8
            else none
        else
          M8_lendsOn_J119 (fun x2 σ => M8_lendsOn_L2 x1 kx n x2 σ) x1 x2 σ
        else none
      else none
def M8_lendsOn (x1 : Int32) (σ : St) : Option (Unit × St) :=
  M8_lendsOn_L2 x1 (fun (σ25 : St) =>
    some ((), σ25)) FU 0 σ
def M8_patchesOn_J77 (kb : Int32 → St → Option (Unit × St)) (x1 : Int32) (x2 : Int32) (σ : St) : Option (Unit × St) :=
  lt (x2 + 1) fun v5 =>
  kb v5 σ
def M8_patchesOn_L2 (x1 : Int32) (kx : St → Option (Unit × St)) : Nat → Int32 → St → Option (Unit × St)
  | 0, _, _ => none
  | n + 1, x2, σ =>
    if (σ 0 13) ≤ x2 then
      kx σ
    else
      if inb ((2 * x2) + 1) 22 then
      lt (σ 11 ((2 * x2) + 1).toNatClampNeg) fun v3 =>
      if x2 = (σ 0 27) then
        M8_patchesOn_J77 (fun x2 σ => M8_patchesOn_L2 x1 kx n x2 σ) x1 x2 σ
      else
        if inb (2 * x2) 22 then
        if (σ 11 (2 * x2).toNatClampNeg) = x1 then
          bd (M8_isHole v3 σ) fun r8 σ8 =>
          if r8 = 0 then
            M8_patchesOn_J77 (fun x2 σ => M8_patchesOn_L2 x1 kx n x2 σ) x1 x2 σ8
          else
            if inb v3 8 then
            if (σ8 14 v3.toNatClampNeg) = ((-1)) then
              bd (M8_greater ((σ8 12 v3.toNatClampNeg) - 1) 1 σ8) fun r13 σ13 =>
              lt (s2 σ13 12 v3.toNatClampNeg r13) fun σ15 =>
              M8_patchesOn_J77 (fun x2 σ => M8_patchesOn_L2 x1 kx n x2 σ) x1 x2 σ15
            else
              M8_patchesOn_J77 (fun x2 σ => M8_patchesOn_L2 x1 kx n x2 σ) x1 x2 σ8
            else none
        else
          M8_patchesOn_J77 (fun x2 σ => M8_patchesOn_L2 x1 kx n x2 σ) x1 x2 σ
        else none
      else none
def M8_patchesOn (x1 : Int32) (σ : St) : Option (Unit × St) :=
  M8_patchesOn_L2 x1 (fun (σ16 : St) =>
    some ((), σ16)) FU 0 σ
def M8_day_J94 (kb : Int32 → St → Option (Unit × St)) (x1 : Int32) (x2 : Int32) (σ : St) : Option (Unit × St) :=
  lt (x2 + 1) fun v8 =>
  kb v8 σ
def M8_day_J78 (kb : Int32 → St → Option (Unit × St)) (x1 : Int32) (x2 : Int32) (σ : St) : Option (Unit × St) :=
  if inb x2 8 then
  if (σ 15 x2.toNatClampNeg) = x1 then
    bd (M8_comesBack x2 x1 σ) fun r17 σ17 =>
    M8_day_J94 kb x1 x2 σ17
  else
    M8_day_J94 kb x1 x2 σ
  else none
def M8_day_L17 (x1 : Int32) (kx : St → Option (Unit × St)) : Nat → Int32 → St → Option (Unit × St)
  | 0, _, _ => none
  | n + 1, x2, σ =>
    if (σ 7 0) ≤ x2 then
      kx σ
    else
      if inb x2 8 then
      if (σ 14 x2.toNatClampNeg) = ((-1)) then
        M8_day_J94 (fun x2 σ => M8_day_L17 x1 kx n x2 σ) x1 x2 σ
      else
        lt (s2 σ 16 x2.toNatClampNeg ((σ 16 x2.toNatClampNeg) + 1)) fun σ11 =>
        if inb ((4 * x2) + 3) 64 then
        lt (σ11 8 ((4 * x2) + 3).toNatClampNeg) fun v13 =>
        if v13 ≤ 0 then
          M8_day_J78 (fun x2 σ => M8_day_L17 x1 kx n x2 σ) x1 x2 σ11
        else
          if ¬ v13 = 0 then
          if ((σ11 16 x2.toNatClampNeg) - (σ11 16 x2.toNatClampNeg) / v13 * v13) = 0 then
            bd (M8_grows x2 σ11) fun r21 σ21 =>
            M8_day_J78 (fun x2 σ => M8_day_L17 x1 kx n x2 σ) x1 x2 σ21
          else
            M8_day_J78 (fun x2 σ => M8_day_L17 x1 kx n x2 σ) x1 x2 σ11
          else none
        else none
      else none
def M8_day (x1 : Int32) (σ : St) : Option (Unit × St) :=
  bd (M8_lendsOn x1 σ) fun r1 σ1 =>
  bd (M8_fillsOn x1 σ1) fun r2 σ2 =>
  bd (M8_patchesOn x1 σ2) fun r3 σ3 =>
  M8_day_L17 x1 (fun (σ22 : St) =>
    some ((), σ22)) FU 0 σ3
def M8_lives_L6 (x1 : Int32) (kx : St → Option (Unit × St)) : Nat → Int32 → St → Option (Unit × St)
  | 0, _, _ => none
  | n + 1, x2, σ =>
    if x1 < x2 then
      kx σ
    else
      bd (M8_day x2 σ) fun r3 σ3 =>
      lt (x2 + 1) fun v4 =>
      M8_lives_L6 x1 kx n v4 σ3
def M8_lives (x1 : Int32) (σ : St) : Option (Unit × St) :=
  bd (M8_begins σ) fun r1 σ1 =>
  M8_lives_L6 x1 (fun (σ5 : St) =>
    some ((), σ5)) FU 0 σ1
def M8_vaultNow_J42 (kb : Int32 → Int32 → St → Option (Int32 × St)) (x2 : Int32) (y0 : Int32) (y1 : Int32) (σ : St) : Option (Int32 × St) :=
  lt (y1 + y0) fun v5 =>
  lt (x2 + 1) fun v6 =>
  kb v5 v6 σ
def M8_vaultNow_L4 (kx : Int32 → St → Option (Int32 × St)) : Nat → Int32 → Int32 → St → Option (Int32 × St)
  | 0, _, _, _ => none
  | n + 1, x1, x2, σ =>
    if (σ 7 0) ≤ x2 then
      kx x1 σ
    else
      if inb x2 8 then
      M8_vaultNow_J42 (fun x1 x2 σ => M8_vaultNow_L4 kx n x1 x2 σ) x2 (if (σ 14 x2.toNatClampNeg) = ((-1)) then (σ 12 x2.toNatClampNeg) * (σ 13 x2.toNatClampNeg) else 0) x1 σ
      else none
def M8_vaultNow (σ : St) : Option (Int32 × St) :=
  M8_vaultNow_L4 (fun (v9 : Int32) (σ10 : St) =>
    some (v9, σ10)) FU 0 0 σ
def M8_behindOf (x1 : Int32) (x2 : Int32) (σ : St) : Option (Int32 × St) :=
  bd (M8_lives x1 σ) fun r1 σ1 =>
  if x2 = 0 then
    bd (M8_vaultNow σ1) fun r3 σ3 =>
    some (r3, σ3)
  else
    some (σ1 0 21, σ1)
def M8_isDay (x0 : Int32) (σ : St) : Option (Int32 × St) :=
  bd (M8_in x0.toInt64 0 39 σ) fun r1 σ1 =>
  if r1 = 0 ∨ r1 = 1 then some (r1, σ1) else none
def M8_isTwo (x0 : Int32) (σ : St) : Option (Int32 × St) :=
  bd (M8_in x0.toInt64 0 1 σ) fun r1 σ1 =>
  if r1 = 0 ∨ r1 = 1 then some (r1, σ1) else none
def M8_shapeOf (x0 : Int32) (x1 : Int32) (σ : St) : Option (Int32 × St) :=
  some (if x1 = 114 then 0 else if x1 = 115 then 1 else if x1 = 108 then 2 else if x1 = 97 then if x0 = 1 then 3 else (-9) else (-9), σ)
def M8_tellsOf_J57 (x2 : Int32) (y0 : Int32) (σ : St) : Option (Int32 × St) :=
  bd (M8_in x2.toInt64 ((48 + y0).toInt64) 57 σ) fun r4 σ4 =>
  some (if r4 = 0 then (-9) else x2 - 48, σ4)
def M8_tellsOf_J56 (x2 : Int32) (σ : St) : Option (Int32 × St) :=
  M8_tellsOf_J57 x2 0 σ
def M8_tellsOf_J52 (x2 : Int32) (σ : St) : Option (Int32 × St) :=
  M8_tellsOf_J57 x2 1 σ
def M8_tellsOf_J42 (x0 : Int32) (x1 : Int32) (x2 : Int32) (σ : St) : Option (Int32 × St) :=
  if x1 = 3 then
    if x0 = 1 then
      M8_tellsOf_J52 x2 σ
    else
      M8_tellsOf_J56 x2 σ
  else
    M8_tellsOf_J56 x2 σ
def M8_tellsOf (x0 : Int32) (x1 : Int32) (x2 : Int32) (σ : St) : Option (Int32 × St) :=
  if x1 = 0 then
    bd (M8_shapeOf x0 x2 σ) fun r11 σ11 =>
    some (r11, σ11)
  else
    if x1 = 4 then
      some (if x2 = 59 then 0 else (-9), σ)
    else
      if x1 = 1 then
        M8_tellsOf_J52 x2 σ
      else
        if x1 = 2 then
          if x0 = 0 then
            M8_tellsOf_J52 x2 σ
          else
            M8_tellsOf_J42 x0 x1 x2 σ
        else
          M8_tellsOf_J42 x0 x1 x2 σ
def M8_readsText_J105 (kb : Int32 → St → Option (Int32 × St)) (x1 : Int32) (x2 : Int32) (x3 : Int32) (y0 : Int32) (y1 : Int32) (y2 : Int32) (y3 : Nat) (σ : St) : Option (Int32 × St) :=
  if inb y2 (ln y3) then
  lt (s2 σ y3 y2.toNatClampNeg (y1 + y0)) fun σ15 =>
  lt (x3 + 1) fun v16 =>
  kb v16 σ15
  else none
def M8_readsText_J87 (kb : Int32 → St → Option (Int32 × St)) (x1 : Int32) (x2 : Int32) (x3 : Int32) (x4 : Int32) (σ : St) : Option (Int32 × St) :=
  if inb x1 2 then
  M8_readsText_J105 kb x1 x2 x3 (if x4 = 3 then 1 else 0) (σ 7 x1.toNatClampNeg) x1 7 σ
  else none
def M8_readsText_L16 (x1 : Int32) (x2 : Int32) (kx : St → Option (Int32 × St)) : Nat → Int32 → St → Option (Int32 × St)
  | 0, _, _ => none
  | n + 1, x3, σ =>
    if x2 ≤ x3 then
      kx σ
    else
      lt (x3 - x3 / 5 * 5) fun v7 =>
      if inb ((40 * x1) + x3) 80 then
      bd (M8_tellsOf x1 v7 (σ 5 ((40 * x1) + x3).toNatClampNeg) σ) fun r9 σ9 =>
      if r9 = ((-9)) then
        if inb x1 2 then
        lt (s2 σ9 7 x1.toNatClampNeg 0) fun σ21 =>
        some (x3, σ21)
        else none
      else
        if 4 ≤ v7 then
          M8_readsText_J87 (fun x3 σ => M8_readsText_L16 x1 x2 kx n x3 σ) x1 x2 x3 v7 σ9
        else
          if inb (((32 * x1) + (4 * (x3 / 5))) + v7) 64 then
          lt (s2 σ9 8 (((32 * x1) + (4 * (x3 / 5))) + v7).toNatClampNeg r9) fun σ19 =>
          M8_readsText_J87 (fun x3 σ => M8_readsText_L16 x1 x2 kx n x3 σ) x1 x2 x3 v7 σ19
          else none
      else none
def M8_readsText (x1 : Int32) (σ : St) : Option (Int32 × St) :=
  if inb x1 2 then
  lt (s2 σ 7 x1.toNatClampNeg 0) fun σ2 =>
  lt (σ2 6 x1.toNatClampNeg) fun v4 =>
  M8_readsText_L16 x1 v4 (fun (σ22 : St) =>
    if v4 ≤ 0 then
      some ((-1), σ22)
    else
      if (v4 - v4 / 5 * 5) = 4 then
        some ((-1), σ22)
      else
        lt (s2 σ22 7 x1.toNatClampNeg 0) fun σ27 =>
        some (v4, σ27)) FU 0 σ2
  else none
def M8_reads (σ : St) : Option (Unit × St) :=
  bd (M8_readsText 0 σ) fun r1 σ1 =>
  bd (M8_readsText 1 σ1) fun r2 σ2 =>
  some ((), σ2)
def M8_behind (x1 : Int32) (x2 : Int32) (σ : St) : Option (Int32 × St) :=
  bd (M8_reads σ) fun r1 σ1 =>
  bd (M8_isDay x1 σ1) fun r2 σ2 =>
  if r2 = 0 then
    some ((-2), σ2)
  else
    bd (M8_isTwo x2 σ2) fun r4 σ4 =>
    if r4 = 0 then
      some ((-2), σ4)
    else
      bd (M8_behindOf x1 x2 σ4) fun r6 σ6 =>
      some (r6, σ6)
def M8_servesBy_J42 (x1 : Int32) (x3 : Int32) (x4 : Int32) (y0 : Int32) (σ : St) : Option (Int32 × St) :=
  if y0 = 0 then
    some (0, σ)
  else
    if inb (x4 + 1) 64 then
    bd (M8_in x3.toInt64 ((σ 8 (x4 + 1).toNatClampNeg).toInt64) (((σ 8 (x4 + 1).toNatClampNeg) + (σ 0 15)).toInt64) σ) fun r7 σ7 =>
    if r7 = 0 then
      some (0, σ7)
    else
      if inb x1 8 then
      if inb (x4 + 2) 64 then
      some (if (σ7 13 x1.toNatClampNeg) < (σ7 8 (x4 + 2).toNatClampNeg) then 0 else 1, σ7)
      else none
      else none
    else none
def M8_servesBy_J37 (x1 : Int32) (x3 : Int32) (x4 : Int32) (σ : St) : Option (Int32 × St) :=
  M8_servesBy_J42 x1 x3 x4 1 σ
def M8_servesBy (x1 : Int32) (x2 : Int32) (x3 : Int32) (σ : St) : Option (Int32 × St) :=
  lt (32 + (4 * x2)) fun v1 =>
  if inb v1 64 then
  if (σ 8 v1.toNatClampNeg) = 3 then
    M8_servesBy_J37 x1 x3 v1 σ
  else
    if inb (4 * x1) 64 then
    if (σ 8 v1.toNatClampNeg) = (σ 8 (4 * x1).toNatClampNeg) then
      M8_servesBy_J37 x1 x3 v1 σ
    else
      M8_servesBy_J42 x1 x3 v1 0 σ
    else none
  else none
def M8_servesNow (x1 : Int32) (x2 : Int32) (σ : St) : Option (Int32 × St) :=
  if inb x1 8 then
  bd (M8_servesBy x1 x2 (σ 12 x1.toNatClampNeg) σ) fun r2 σ2 =>
  if r2 = 0 ∨ r2 = 1 then some (r2, σ2) else none
  else none
def M8_may (x1 : Int32) (x2 : Int32) (x3 : Int32) (σ : St) : Option (Int32 × St) :=
  bd (M8_isIn x3 x2 σ) fun r1 σ1 =>
  if r1 = 0 then
    if inb x2 8 then
    if (σ1 14 x2.toNatClampNeg) = ((-1)) then
      bd (M8_servesNow x2 x1 σ1) fun r5 σ5 =>
      some (if r5 = 0 then 0 else 1, σ5)
    else
      some (0, σ1)
    else none
  else
    some (0, σ1)
def M8_worthBy (x1 : Int32) (x2 : Int32) (x3 : Int32) (σ : St) : Option (Int32 × St) :=
  if inb ((32 + (4 * x1)) + 3) 64 then
  if inb ((256 * (x1 + 1)) + (x3 ||| ((1 : Int32) <<< (x2 &&& 31)))) 2304 then
  some ((σ 8 ((32 + (4 * x1)) + 3).toNatClampNeg) + (σ 21 ((256 * (x1 + 1)) + (x3 ||| ((1 : Int32) <<< (x2 &&& 31)))).toNatClampNeg), σ)
  else none
  else none
def M8_bestNow_J118 (kb : Int32 → St → Option (Int32 × St)) (x1 : Int32) (x2 : Int32) (x3 : Int32) (x4 : Int32) (σ : St) : Option (Int32 × St) :=
  if inb ((256 * x2) + x3) 2304 then
  lt (s2 σ 21 ((256 * x2) + x3).toNatClampNeg x4) fun σ22 =>
  lt (x3 + 1) fun v23 =>
  kb v23 σ22
  else none
def M8_bestNow_J110 (kb : Int32 → Int32 → St → Option (Int32 × St)) (x1 : Int32) (x2 : Int32) (x3 : Int32) (x5 : Int32) (y0 : Int32) (σ : St) : Option (Int32 × St) :=
  lt (x5 + 1) fun v16 =>
  kb y0 v16 σ
def M8_bestNow_L60 (x1 : Int32) (x2 : Int32) (x3 : Int32) (kx : Int32 → St → Option (Int32 × St)) : Nat → Int32 → Int32 → St → Option (Int32 × St)
  | 0, _, _, _ => none
  | n + 1, x4, x5, σ =>
    if (σ 7 0) ≤ x5 then
      kx x4 σ
    else
      if (σ 7 1) ≤ x2 then
        kx x4 σ
      else
        bd (M8_may x2 x5 x3 σ) fun r14 σ14 =>
        if r14 = 0 then
          M8_bestNow_J110 (fun x4 x5 σ => M8_bestNow_L60 x1 x2 x3 kx n x4 x5 σ) x1 x2 x3 x5 x4 σ14
        else
          bd (M8_worthBy x2 x5 x3 σ14) fun r17 σ17 =>
          bd (M8_greater r17 x4 σ17) fun r18 σ18 =>
          M8_bestNow_J110 (fun x4 x5 σ => M8_bestNow_L60 x1 x2 x3 kx n x4 x5 σ) x1 x2 x3 x5 r18 σ18
def M8_bestNow_J55 (kb : Int32 → St → Option (Int32 × St)) (x1 : Int32) (x2 : Int32) (x3 : Int32) (y0 : Int32) (σ : St) : Option (Int32 × St) :=
  M8_bestNow_L60 x1 x2 x3 (fun (v19 : Int32) (σ20 : St) =>
    M8_bestNow_J118 kb x1 x2 x3 v19 σ20) FU y0 0 σ
def M8_bestNow_L22 (x1 : Int32) (x2 : Int32) (kx : St → Option (Int32 × St)) : Nat → Int32 → St → Option (Int32 × St)
  | 0, _, _ => none
  | n + 1, x3, σ =>
    if x1 ≤ x3 then
      kx σ
    else
      if x2 = (σ 7 1) then
        M8_bestNow_J55 (fun x3 σ => M8_bestNow_L22 x1 x2 kx n x3 σ) x1 x2 x3 0 σ
      else
        if inb ((256 * (x2 + 1)) + x3) 2304 then
        M8_bestNow_J55 (fun x3 σ => M8_bestNow_L22 x1 x2 kx n x3 σ) x1 x2 x3 (σ 21 ((256 * (x2 + 1)) + x3).toNatClampNeg) σ
        else none
def M8_bestNow_L16 (x1 : Int32) (kx : St → Option (Int32 × St)) : Nat → Int32 → St → Option (Int32 × St)
  | 0, _, _ => none
  | n + 1, x2, σ =>
    if x2 < 0 then
      kx σ
    else
      M8_bestNow_L22 x1 x2 (fun (σ24 : St) =>
        lt (x2 + (-1)) fun v25 =>
        M8_bestNow_L16 x1 kx n v25 σ24) FU 0 σ
def M8_bestNow (σ : St) : Option (Int32 × St) :=
  lt ((1 : Int32) <<< ((σ 7 0) &&& 31)) fun v2 =>
  lt (σ 7 1) fun v4 =>
  M8_bestNow_L16 v2 (fun (σ26 : St) =>
    some (σ26 21 0, σ26)) FU v4 σ
def M8_bestOf_J134 (x2 : Int32) (x3 : Int32) (x5 : Int32) (σ : St) : Option (Int32 × St) :=
  some (if x2 = ((-1)) then x3 else if (σ 7 1) ≤ x2 then (-1) else x5, σ)
def M8_bestOf_J125 (kb : Int32 → Int32 → Int32 → St → Option (Int32 × St)) (x2 : Int32) (x3 : Int32) (x5 : Int32) (x6 : Int32) (y0 : Int32) (y1 : Int32) (σ : St) : Option (Int32 × St) :=
  lt (y1 ||| y0) fun v18 =>
  lt (x6 + 1) fun v19 =>
  kb v18 x5 v19 σ
def M8_bestOf_J101 (kb : Int32 → Int32 → St → Option (Int32 × St)) (x2 : Int32) (x3 : Int32) (x4 : Int32) (x6 : Int32) (x7 : Int32) (y0 : Int32) (σ : St) : Option (Int32 × St) :=
  lt (x7 + (-1)) fun v11 =>
  kb y0 v11 σ
def M8_bestOf_J99 (kb : Int32 → Int32 → St → Option (Int32 × St)) (x2 : Int32) (x3 : Int32) (x4 : Int32) (x5 : Int32) (x6 : Int32) (x7 : Int32) (σ : St) : Option (Int32 × St) :=
  M8_bestOf_J101 kb x2 x3 x4 x6 x7 x5 σ
def M8_bestOf_L49 (x2 : Int32) (x3 : Int32) (x4 : Int32) (x6 : Int32) (kx : Int32 → St → Option (Int32 × St)) : Nat → Int32 → Int32 → St → Option (Int32 × St)
  | 0, _, _, _ => none
  | n + 1, x5, x7, σ =>
    if x7 < 0 then
      kx x5 σ
    else
      bd (M8_may x6 x7 x4 σ) fun r9 σ9 =>
      if r9 = 0 then
        M8_bestOf_J99 (fun x5 x7 σ => M8_bestOf_L49 x2 x3 x4 x6 kx n x5 x7 σ) x2 x3 x4 x5 x6 x7 σ9
      else
        bd (M8_worthBy x6 x7 x4 σ9) fun r12 σ12 =>
        if inb ((256 * x6) + x4) 2304 then
        if r12 = (σ12 21 ((256 * x6) + x4).toNatClampNeg) then
          M8_bestOf_J101 (fun x5 x7 σ => M8_bestOf_L49 x2 x3 x4 x6 kx n x5 x7 σ) x2 x3 x4 x6 x7 x7 σ12
        else
          M8_bestOf_J99 (fun x5 x7 σ => M8_bestOf_L49 x2 x3 x4 x6 kx n x5 x7 σ) x2 x3 x4 x5 x6 x7 σ12
        else none
def M8_bestOf_L19 (x2 : Int32) (x3 : Int32) (kx : Int32 → St → Option (Int32 × St)) : Nat → Int32 → Int32 → Int32 → St → Option (Int32 × St)
  | 0, _, _, _, _ => none
  | n + 1, x4, x5, x6, σ =>
    if x2 < x6 then
      kx x5 σ
    else
      if (σ 7 1) ≤ x6 then
        kx x5 σ
      else
        lt ((σ 7 0) - 1) fun v7 =>
        M8_bestOf_L49 x2 x3 x4 x6 (fun (v15 : Int32) (σ16 : St) =>
          M8_bestOf_J125 (fun x4 x5 x6 σ => M8_bestOf_L19 x2 x3 kx n x4 x5 x6 σ) x2 x3 v15 x6 (if v15 = ((-1)) then 0 else (1 : Int32) <<< (v15 &&& 31)) x4 σ16) FU ((-1)) v7 σ
def M8_bestOf (x1 : Int32) (x2 : Int32) (σ : St) : Option (Int32 × St) :=
  bd (M8_lives x1 σ) fun r1 σ1 =>
  bd (M8_bestNow σ1) fun r2 σ2 =>
  M8_bestOf_L19 x2 r2 (fun (v20 : Int32) (σ21 : St) =>
    M8_bestOf_J134 x2 r2 v20 σ21) FU 0 ((-1)) 0 σ2
def M8_best (x1 : Int32) (x2 : Int32) (σ : St) : Option (Int32 × St) :=
  bd (M8_reads σ) fun r1 σ1 =>
  bd (M8_isDay x1 σ1) fun r2 σ2 =>
  if r2 = 0 then
    some ((-2), σ2)
  else
    bd (M8_in x2.toInt64 ((-1)) 7 σ2) fun r4 σ4 =>
    if r4 = 0 then
      some ((-2), σ4)
    else
      bd (M8_bestOf x1 x2 σ4) fun r6 σ6 =>
      some (r6, σ6)
def M8_breachesOf_J48 (kb : Int32 → Int32 → St → Option (Int32 × St)) (x1 : Int32) (x3 : Int32) (y0 : Int32) (y1 : Int32) (σ : St) : Option (Int32 × St) :=
  lt (y1 + y0) fun v5 =>
  lt (x3 + 1) fun v6 =>
  kb v5 v6 σ
def M8_breachesOf_J47 (kb : Int32 → Int32 → St → Option (Int32 × St)) (x1 : Int32) (x3 : Int32) (y0 : Int32) (σ : St) : Option (Int32 × St) :=
  M8_breachesOf_J48 kb x1 x3 0 y0 σ
def M8_breachesOf_L10 (x1 : Int32) (kx : Int32 → St → Option (Int32 × St)) : Nat → Int32 → Int32 → St → Option (Int32 × St)
  | 0, _, _, _ => none
  | n + 1, x2, x3, σ =>
    if (σ 0 9) ≤ x3 then
      kx x2 σ
    else
      if inb x3 52 then
      if (σ 18 x3.toNatClampNeg) = ((-1)) then
        M8_breachesOf_J47 (fun x2 x3 σ => M8_breachesOf_L10 x1 kx n x2 x3 σ) x1 x3 x2 σ
      else
        if inb ((4 * x3) + 2) 208 then
        if (σ 9 ((4 * x3) + 2).toNatClampNeg) = x1 then
          M8_breachesOf_J48 (fun x2 x3 σ => M8_breachesOf_L10 x1 kx n x2 x3 σ) x1 x3 1 x2 σ
        else
          M8_breachesOf_J47 (fun x2 x3 σ => M8_breachesOf_L10 x1 kx n x2 x3 σ) x1 x3 x2 σ
        else none
      else none
def M8_breachesOf (x1 : Int32) (σ : St) : Option (Int32 × St) :=
  bd (M8_lives 39 σ) fun r1 σ1 =>
  M8_breachesOf_L10 x1 (fun (v9 : Int32) (σ10 : St) =>
    some (v9, σ10)) FU 0 0 σ1
def M8_breaches (x1 : Int32) (σ : St) : Option (Int32 × St) :=
  bd (M8_reads σ) fun r1 σ1 =>
  bd (M8_in x1.toInt64 0 5 σ1) fun r2 σ2 =>
  if r2 = 0 then
    some ((-2), σ2)
  else
    bd (M8_breachesOf x1 σ2) fun r4 σ4 =>
    some (r4, σ4)
def M8_callOf_J156 (x3 : Int32) (σ : St) : Option (Int32 × St) :=
  some (x3, σ)
def M8_callOf_J141 (kb : Int32 → Int32 → Int32 → St → Option (Int32 × St)) (x1 : Int32) (x2 : Int32) (x3 : Int32) (x4 : Int32) (x5 : Int32) (σ : St) : Option (Int32 × St) :=
  lt (x5 + 1) fun v12 =>
  kb x3 x4 v12 σ
def M8_callOf_J139 (kb : Int32 → Int32 → Int32 → St → Option (Int32 × St)) (x1 : Int32) (x2 : Int32) (x3 : Int32) (x5 : Int32) (y0 : Int32) (σ : St) : Option (Int32 × St) :=
  M8_callOf_J141 kb x1 x2 x3 y0 x5 σ
def M8_callOf_J126 (kb : Int32 → Int32 → Int32 → St → Option (Int32 × St)) (x1 : Int32) (x2 : Int32) (x4 : Int32) (x5 : Int32) (x7 : Int32) (x8 : Int32) (y0 : Int32) (σ : St) : Option (Int32 × St) :=
  M8_callOf_J139 kb x1 x2 y0 x5 (if x8 = 0 then x4 else x7) σ
def M8_callOf_J113 (kb : Int32 → Int32 → Int32 → St → Option (Int32 × St)) (x1 : Int32) (x2 : Int32) (x3 : Int32) (x4 : Int32) (x5 : Int32) (x7 : Int32) (y0 : Int32) (σ : St) : Option (Int32 × St) :=
  M8_callOf_J126 kb x1 x2 x4 x5 x7 y0 (if y0 = 0 then x3 else x5) σ
def M8_callOf_J108 (kb : Int32 → Int32 → Int32 → St → Option (Int32 × St)) (x1 : Int32) (x2 : Int32) (x3 : Int32) (x4 : Int32) (x5 : Int32) (x7 : Int32) (σ : St) : Option (Int32 × St) :=
  M8_callOf_J113 kb x1 x2 x3 x4 x5 x7 1 σ
def M8_callOf_J61 (kb : Int32 → Int32 → St → Option (Int32 × St)) (x1 : Int32) (x2 : Int32) (x3 : Int32) (x4 : Int32) (x5 : Int32) (x7 : Int32) (y0 : Int32) (σ : St) : Option (Int32 × St) :=
  lt (x7 + 1) fun v6 =>
  kb y0 v6 σ
def M8_callOf_J56 (kb : Int32 → Int32 → St → Option (Int32 × St)) (x1 : Int32) (x2 : Int32) (x3 : Int32) (x4 : Int32) (x5 : Int32) (x7 : Int32) (σ : St) : Option (Int32 × St) :=
  M8_callOf_J61 kb x1 x2 x3 x4 x5 x7 1 σ
def M8_callOf_L28 (x1 : Int32) (x2 : Int32) (x3 : Int32) (x4 : Int32) (x5 : Int32) (kx : Int32 → St → Option (Int32 × St)) : Nat → Int32 → Int32 → St → Option (Int32 × St)
  | 0, _, _, _ => none
  | n + 1, x6, x7, σ =>
    if (σ 7 0) ≤ x7 then
      kx x6 σ
    else
      if x6 = 0 then
        if inb x7 8 then
        if (σ 14 x7.toNatClampNeg) = x5 then
          M8_callOf_J56 (fun x6 x7 σ => M8_callOf_L28 x1 x2 x3 x4 x5 kx n x6 x7 σ) x1 x2 x3 x4 x5 x7 σ
        else
          M8_callOf_J61 (fun x6 x7 σ => M8_callOf_L28 x1 x2 x3 x4 x5 kx n x6 x7 σ) x1 x2 x3 x4 x5 x7 0 σ
        else none
      else
        M8_callOf_J56 (fun x6 x7 σ => M8_callOf_L28 x1 x2 x3 x4 x5 kx n x6 x7 σ) x1 x2 x3 x4 x5 x7 σ
def M8_callOf_L8 (x1 : Int32) (x2 : Int32) (kx : Int32 → Int32 → St → Option (Int32 × St)) : Nat → Int32 → Int32 → Int32 → St → Option (Int32 × St)
  | 0, _, _, _, _ => none
  | n + 1, x3, x4, x5, σ =>
    if (σ 0 9) ≤ x5 then
      kx x3 x4 σ
    else
      bd (M8_lives x1 σ) fun r2 σ2 =>
      M8_callOf_L28 x1 x2 x3 x4 x5 (fun (v9 : Int32) (σ10 : St) =>
        if v9 = 0 then
          M8_callOf_J141 (fun x3 x4 x5 σ => M8_callOf_L8 x1 x2 kx n x3 x4 x5 σ) x1 x2 x3 x4 x5 σ10
        else
          lt (s2 σ10 0 26 x5) fun σ13 =>
          bd (M8_lives x1 σ13) fun r14 σ14 =>
          lt (s2 σ14 0 26 ((-1))) fun σ15 =>
          bd (M8_bestNow σ15) fun r16 σ16 =>
          if x3 = ((-1)) then
            M8_callOf_J108 (fun x3 x4 x5 σ => M8_callOf_L8 x1 x2 kx n x3 x4 x5 σ) x1 x2 x3 x4 x5 r16 σ16
          else
            if r16 ≤ x4 then
              M8_callOf_J113 (fun x3 x4 x5 σ => M8_callOf_L8 x1 x2 kx n x3 x4 x5 σ) x1 x2 x3 x4 x5 r16 0 σ16
            else
              M8_callOf_J108 (fun x3 x4 x5 σ => M8_callOf_L8 x1 x2 kx n x3 x4 x5 σ) x1 x2 x3 x4 x5 r16 σ16) FU 0 0 σ2
def M8_callOf (x1 : Int32) (x2 : Int32) (σ : St) : Option (Int32 × St) :=
  M8_callOf_L8 x1 x2 (fun (v21 : Int32) (v22 : Int32) (σ23 : St) =>
    if v21 = ((-1)) then
      M8_callOf_J156 v21 σ23
    else
      if x2 = 0 then
        M8_callOf_J156 v21 σ23
      else
        bd (M8_bestOf x1 ((-1)) σ23) fun r26 σ26 =>
        some (v22 - r26, σ26)) FU ((-1)) 0 0 σ
def M8_call (x1 : Int32) (x2 : Int32) (σ : St) : Option (Int32 × St) :=
  bd (M8_reads σ) fun r1 σ1 =>
  bd (M8_isDay x1 σ1) fun r2 σ2 =>
  if r2 = 0 then
    some ((-1002), σ2)
  else
    bd (M8_isTwo x2 σ2) fun r4 σ4 =>
    if r4 = 0 then
      some ((-1002), σ4)
    else
      bd (M8_callOf x1 x2 σ4) fun r6 σ6 =>
      some (r6, σ6)
def M8_cameOf (x1 : Int32) (x2 : Int32) (σ : St) : Option (Int32 × St) :=
  bd (M8_lives 39 σ) fun r1 σ1 =>
  if x2 = 0 then
    if inb x1 52 then
    some (σ1 17 x1.toNatClampNeg, σ1)
    else none
  else
    if x2 = 1 then
      if inb x1 52 then
      some (if (σ1 18 x1.toNatClampNeg) = ((-1)) then 0 else 1, σ1)
      else none
    else
      if inb x1 52 then
      some (if (σ1 20 x1.toNatClampNeg) = ((-1)) then 0 else (σ1 20 x1.toNatClampNeg) - (σ1 19 x1.toNatClampNeg), σ1)
      else none
def M8_came (x1 : Int32) (x2 : Int32) (σ : St) : Option (Int32 × St) :=
  bd (M8_reads σ) fun r1 σ1 =>
  bd (M8_in x1.toInt64 0 (((σ1 0 9) - 1).toInt64) σ1) fun r2 σ2 =>
  if r2 = 0 then
    some ((-1002), σ2)
  else
    bd (M8_in x2.toInt64 0 2 σ2) fun r4 σ4 =>
    if r4 = 0 then
      some ((-1002), σ4)
    else
      bd (M8_cameOf x1 x2 σ4) fun r6 σ6 =>
      some (r6, σ6)
def M8_finds (x1 : Int32) (σ : St) : Option (Int32 × St) :=
  lt (s2 σ 0 4 x1) fun σ1 =>
  some (((-10)) - x1, σ1)
def M8_isSheet (x0 : Int32) (σ : St) : Option (Int32 × St) :=
  bd (M8_in x0.toInt64 0 3 σ) fun r1 σ1 =>
  if r1 = 0 ∨ r1 = 1 then some (r1, σ1) else none
def M8_copy_L157 (x3 : Int32) (x4 : Int32) (x5 : Int32) (kx : St → Option (Int32 × St)) : Nat → Int32 → St → Option (Int32 × St)
  | 0, _, _ => none
  | n + 1, x6, σ =>
    if x5 ≤ x6 then
      kx σ
    else
      if inb x6 60 then
      if inb (((60 * x3) + x4) + x6) 240 then
      lt (s2 σ 3 (((60 * x3) + x4) + x6).toNatClampNeg (σ 4 x6.toNatClampNeg)) fun σ30 =>
      lt (x6 + 1) fun v31 =>
      M8_copy_L157 x3 x4 x5 kx n v31 σ30
      else none
      else none
def M8_copy_L120 (x1 : Int32) (x2 : Int32) (x3 : Int32) (x4 : Int32) (x5 : Int32) (kx : St → Option (Int32 × St)) : Nat → Int32 → St → Option (Int32 × St)
  | 0, _, _ => none
  | n + 1, x6, σ =>
    if x5 ≤ x6 then
      kx σ
    else
      if inb (((60 * x1) + x2) + x6) 240 then
      if inb x6 60 then
      lt (s2 σ 4 x6.toNatClampNeg (σ 3 (((60 * x1) + x2) + x6).toNatClampNeg)) fun σ24 =>
      lt (x6 + 1) fun v25 =>
      M8_copy_L120 x1 x2 x3 x4 x5 kx n v25 σ24
      else none
      else none
def M8_copy_J111 (σ : St) : Option (Int32 × St) :=
  bd (M8_finds 2 σ) fun r14 σ14 =>
  some (r14, σ14)
def M8_copy_J35 (σ : St) : Option (Int32 × St) :=
  bd (M8_finds 1 σ) fun r7 σ7 =>
  some (r7, σ7)
def M8_copy (x1 : Int32) (x2 : Int32) (x3 : Int32) (x4 : Int32) (x5 : Int32) (σ : St) : Option (Int32 × St) :=
  bd (M8_isSheet x1 σ) fun r1 σ1 =>
  if r1 = 0 then
    some ((-2), σ1)
  else
    bd (M8_isSheet x3 σ1) fun r3 σ3 =>
    if r3 = 0 then
      some ((-2), σ3)
    else
      if inb x1 4 then
      if (σ3 1 x1.toNatClampNeg) < 0 then
        M8_copy_J35 σ3
      else
        if inb x3 4 then
        if 0 ≤ (σ3 1 x3.toNatClampNeg) then
          if (σ3 1 x1.toNatClampNeg) = (σ3 1 x3.toNatClampNeg) then
            if x2 < 0 then
              M8_copy_J111 σ3
            else
              if x4 < 0 then
                M8_copy_J111 σ3
              else
                if x5 < 0 then
                  M8_copy_J111 σ3
                else
                  if 0 < (lg_cmp (x2.toInt64 + x5.toInt64) ((σ3 2 x1.toNatClampNeg).toInt64)) then
                    M8_copy_J111 σ3
                  else
                    if (lg_cmp (x4.toInt64 + x5.toInt64) ((σ3 2 x3.toNatClampNeg).toInt64)) ≤ 0 then
                      M8_copy_L120 x1 x2 x3 x4 x5 (fun (σ26 : St) =>
                        M8_copy_L157 x3 x4 x5 (fun (σ32 : St) =>
                          some (1, σ32)) FU 0 σ26) FU 0 σ3
                    else
                      M8_copy_J111 σ3
          else
            bd (M8_finds 4 σ3) fun r33 σ33 =>
            some (r33, σ33)
        else
          M8_copy_J35 σ3
        else none
      else none
def M8_counting_L10 (kx : Int32 → St → Option (Int32 × St)) : Nat → Int32 → Int32 → St → Option (Int32 × St)
  | 0, _, _, _ => none
  | n + 1, x1, x2, σ =>
    if (σ 0 9) ≤ x2 then
      kx x1 σ
    else
      if inb x2 52 then
      lt (x1 + (σ 17 x2.toNatClampNeg)) fun v4 =>
      lt (x2 + 1) fun v5 =>
      M8_counting_L10 kx n v4 v5 σ
      else none
def M8_counting (σ : St) : Option (Int32 × St) :=
  bd (M8_lives 39 σ) fun r1 σ1 =>
  M8_counting_L10 (fun (v6 : Int32) (σ7 : St) =>
    some (v6, σ7)) FU 0 0 σ1
def M8_count (x1 : Int32) (σ : St) : Option (Int32 × St) :=
  bd (M8_reads σ) fun r1 σ1 =>
  if x1 = 0 then
    if inb x1 2 then
    some (σ1 7 x1.toNatClampNeg, σ1)
    else none
  else if x1 = 1 then
    if inb x1 2 then
    some (σ1 7 x1.toNatClampNeg, σ1)
    else none
  else if x1 = 2 then
    if inb (x1 - 2) 2 then
    some (σ1 6 (x1 - 2).toNatClampNeg, σ1)
    else none
  else if x1 = 3 then
    if inb (x1 - 2) 2 then
    some (σ1 6 (x1 - 2).toNatClampNeg, σ1)
    else none
  else if x1 = 4 then
    some (σ1 0 9, σ1)
  else if x1 = 5 then
    bd (M8_counting σ1) fun r6 σ6 =>
    some (r6, σ6)
  else if x1 = 6 then
    some ((σ1 0 11) + (σ1 0 13), σ1)
  else if x1 = 7 then
    some (σ1 0 30, σ1)
  else if x1 = 8 then
    some (σ1 0 4, σ1)
  else some ((-2), σ1)
def M8_cut (x0 : Int32) (x1 : Int32) (σ : St) : Option (Int32 × St) :=
  some (if x0 = 0 then x1.toInt8.toInt32 else if x0 = 1 then x1.toInt16.toInt32 else x1, σ)
def M8_firstNow_J53 (kb : Int32 → Int32 → St → Option (Int32 × St)) (x2 : Int32) (y0 : Int32) (σ : St) : Option (Int32 × St) :=
  lt (x2 + 1) fun v5 =>
  kb y0 v5 σ
def M8_firstNow_J52 (kb : Int32 → Int32 → St → Option (Int32 × St)) (x1 : Int32) (x2 : Int32) (σ : St) : Option (Int32 × St) :=
  M8_firstNow_J53 kb x2 x1 σ
def M8_firstNow_J48 (kb : Int32 → Int32 → St → Option (Int32 × St)) (x2 : Int32) (σ : St) : Option (Int32 × St) :=
  M8_firstNow_J53 kb x2 x2 σ
def M8_firstNow_L10 (kx : Int32 → St → Option (Int32 × St)) : Nat → Int32 → Int32 → St → Option (Int32 × St)
  | 0, _, _, _ => none
  | n + 1, x1, x2, σ =>
    if (σ 0 9) ≤ x2 then
      kx x1 σ
    else
      if inb x2 52 then
      if (σ 18 x2.toNatClampNeg) = ((-1)) then
        M8_firstNow_J52 (fun x1 x2 σ => M8_firstNow_L10 kx n x1 x2 σ) x1 x2 σ
      else
        if x1 = ((-1)) then
          M8_firstNow_J48 (fun x1 x2 σ => M8_firstNow_L10 kx n x1 x2 σ) x2 σ
        else
          if inb x1 52 then
          if (σ 18 x1.toNatClampNeg) ≤ (σ 18 x2.toNatClampNeg) then
            M8_firstNow_J52 (fun x1 x2 σ => M8_firstNow_L10 kx n x1 x2 σ) x1 x2 σ
          else
            M8_firstNow_J48 (fun x1 x2 σ => M8_firstNow_L10 kx n x1 x2 σ) x2 σ
          else none
      else none
def M8_firstNow (σ : St) : Option (Int32 × St) :=
  bd (M8_lives 39 σ) fun r1 σ1 =>
  M8_firstNow_L10 (fun (v10 : Int32) (σ11 : St) =>
    some (v10, σ11)) FU ((-1)) 0 σ1
def M8_looksNow (x1 : Int32) (σ : St) : Option (Int32 × St) :=
  if inb x1 8 then
  some (if (σ 14 x1.toNatClampNeg) = ((-1)) then σ 12 x1.toNatClampNeg else 0, σ)
  else none
def M8_isSeen_J77 (kb : Int32 → Int32 → St → Option (Int32 × St)) (x2 : Int32) (y0 : Int32) (σ : St) : Option (Int32 × St) :=
  lt (x2 + 1) fun v8 =>
  kb y0 v8 σ
def M8_isSeen_J76 (kb : Int32 → Int32 → St → Option (Int32 × St)) (x2 : Int32) (σ : St) : Option (Int32 × St) :=
  M8_isSeen_J77 kb x2 0 σ
def M8_isSeen_L4 (kx : Int32 → St → Option (Int32 × St)) : Nat → Int32 → Int32 → St → Option (Int32 × St)
  | 0, _, _, _ => none
  | n + 1, x1, x2, σ =>
    if (σ 0 30) ≤ x2 then
      kx x1 σ
    else
      if x1 = 0 then
        kx x1 σ
      else
        if inb (3 * x2) 24 then
        bd (M8_lives (σ 23 (3 * x2).toNatClampNeg) σ) fun r4 σ4 =>
        if inb ((3 * x2) + 1) 24 then
        bd (M8_isHole (σ4 23 ((3 * x2) + 1).toNatClampNeg) σ4) fun r6 σ6 =>
        if r6 = 0 then
          M8_isSeen_J76 (fun x1 x2 σ => M8_isSeen_L4 kx n x1 x2 σ) x2 σ6
        else
          bd (M8_looksNow (σ6 23 ((3 * x2) + 1).toNatClampNeg) σ6) fun r10 σ10 =>
          if inb ((3 * x2) + 2) 24 then
          if r10 = (σ10 23 ((3 * x2) + 2).toNatClampNeg) then
            M8_isSeen_J77 (fun x1 x2 σ => M8_isSeen_L4 kx n x1 x2 σ) x2 1 σ10
          else
            M8_isSeen_J76 (fun x1 x2 σ => M8_isSeen_L4 kx n x1 x2 σ) x2 σ10
          else none
        else none
        else none
def M8_isSeen (σ : St) : Option (Int32 × St) :=
  M8_isSeen_L4 (fun (v13 : Int32) (σ14 : St) =>
    if v13 = 0 ∨ v13 = 1 then some (v13, σ14) else none) FU 1 0 σ
def M8_neverOf_J65 (kb : Int32 → Int32 → St → Option (Int32 × St)) (x1 : Int32) (x3 : Int32) (y0 : Int32) (y1 : Int32) (σ : St) : Option (Int32 × St) :=
  lt (y1 ||| y0) fun v9 =>
  lt (x3 + 1) fun v10 =>
  kb v9 v10 σ
def M8_neverOf_J47 (kb : Int32 → Int32 → St → Option (Int32 × St)) (x1 : Int32) (x2 : Int32) (x3 : Int32) (y0 : Int32) (σ : St) : Option (Int32 × St) :=
  lt (s2 σ 0 27 y0) fun σ6 =>
  bd (M8_isSeen σ6) fun r7 σ7 =>
  M8_neverOf_J65 kb x1 x3 (if r7 = 0 then 0 else (1 : Int32) <<< (x3 &&& 31)) x2 σ7
def M8_neverOf_J33 (kb : Int32 → Int32 → St → Option (Int32 × St)) (x1 : Int32) (x2 : Int32) (x3 : Int32) (y0 : Int32) (σ : St) : Option (Int32 × St) :=
  lt (s2 σ 0 26 y0) fun σ4 =>
  M8_neverOf_J47 kb x1 x2 x3 (if x1 = 1 then x3 else (-1)) σ4
def M8_neverOf_J20 (kb : Int32 → Int32 → St → Option (Int32 × St)) (kx : Int32 → St → Option (Int32 × St)) (x1 : Int32) (x2 : Int32) (x3 : Int32) (y0 : Int32) (y1 : Int32) (σ : St) : Option (Int32 × St) :=
  if y0 ≤ y1 then
    kx x2 σ
  else
    M8_neverOf_J33 kb x1 x2 x3 (if x1 = 0 then x3 else (-1)) σ
def M8_neverOf_L4 (x1 : Int32) (kx : Int32 → St → Option (Int32 × St)) : Nat → Int32 → Int32 → St → Option (Int32 × St)
  | 0, _, _, _ => none
  | n + 1, x2, x3, σ =>
    M8_neverOf_J20 (fun x2 x3 σ => M8_neverOf_L4 x1 kx n x2 x3 σ) kx x1 x2 x3 (if x1 = 0 then σ 0 9 else σ 0 13) x3 σ
def M8_neverOf (x1 : Int32) (σ : St) : Option (Int32 × St) :=
  M8_neverOf_L4 x1 (fun (v11 : Int32) (σ12 : St) =>
    lt (s2 σ12 0 26 ((-1))) fun σ13 =>
    lt (s2 σ13 0 27 ((-1))) fun σ14 =>
    some (v11, σ14)) FU 0 0 σ
def M8_lends (x1 : Int32) (x2 : Int32) (x3 : Int32) (x4 : Int32) (σ : St) : Option (Unit × St) :=
  if inb (4 * (σ 0 9)) 208 then
  lt (s2 σ 9 (4 * (σ 0 9)).toNatClampNeg x1) fun σ2 =>
  if inb ((4 * (σ2 0 9)) + 1) 208 then
  lt (s2 σ2 9 ((4 * (σ2 0 9)) + 1).toNatClampNeg x2) fun σ4 =>
  if inb ((4 * (σ4 0 9)) + 2) 208 then
  lt (s2 σ4 9 ((4 * (σ4 0 9)) + 2).toNatClampNeg x3) fun σ6 =>
  if inb ((4 * (σ6 0 9)) + 3) 208 then
  lt (s2 σ6 9 ((4 * (σ6 0 9)) + 3).toNatClampNeg x4) fun σ8 =>
  lt (s2 σ8 0 9 ((σ8 0 9) + 1)) fun σ9 =>
  some ((), σ9)
  else none
  else none
  else none
  else none
def M8_lot (x1 : Int32) (σ : St) : Option (Int32 × St) :=
  lt (s2 σ 0 33 ((1103515245 * (σ 0 33)) + 12345)) fun σ1 =>
  if ¬ x1 = 0 then
  some ((((σ1 0 33).toUInt32 >>> ((16 : Int32).toUInt32 &&& Int32.toUInt32 31)).toInt32) - (((σ1 0 33).toUInt32 >>> ((16 : Int32).toUInt32 &&& Int32.toUInt32 31)).toInt32) / x1 * x1, σ1)
  else none
def M8_runOf_L78 (x3 : Int32) (x4 : Int32) (kx : Int32 → St → Option (Int32 × St)) : Nat → Int32 → Int32 → St → Option (Int32 × St)
  | 0, _, _, _ => none
  | n + 1, x5, x6, σ =>
    if (σ 0 9) ≤ x6 then
      kx x5 σ
    else
      if inb x6 52 then
      lt (x5 + (σ 17 x6.toNatClampNeg)) fun v15 =>
      lt (x6 + 1) fun v16 =>
      M8_runOf_L78 x3 x4 kx n v15 v16 σ
      else none
def M8_runOf_J64 (x2 : Int32) (x3 : Int32) (x4 : Int32) (σ : St) : Option (Int32 × St) :=
  bd (M8_lives (x2 - 1) σ) fun r12 σ12 =>
  M8_runOf_L78 x3 x4 (fun (v17 : Int32) (σ18 : St) =>
    lt (s2 σ18 0 9 x4) fun σ19 =>
    if x3 = 0 then
      bd (M8_vaultNow σ19) fun r21 σ21 =>
      some (r21, σ21)
    else
      some (v17, σ19)) FU 0 x4 σ12
def M8_runOf_L14 (x2 : Int32) (x3 : Int32) (x4 : Int32) (kx : St → Option (Int32 × St)) : Nat → Int32 → St → Option (Int32 × St)
  | 0, _, _ => none
  | n + 1, x5, σ =>
    if x2 ≤ x5 then
      kx σ
    else
      if (σ 7 0) ≤ 0 then
        kx σ
      else
        bd (M8_lot (σ 7 0) σ) fun r7 σ7 =>
        bd (M8_lot 9 σ7) fun r8 σ8 =>
        bd (M8_lends x5 r7 0 (r8 + 1) σ8) fun r9 σ9 =>
        lt (x5 + 1) fun v10 =>
        M8_runOf_L14 x2 x3 x4 kx n v10 σ9
def M8_runOf (x1 : Int32) (x2 : Int32) (x3 : Int32) (σ : St) : Option (Int32 × St) :=
  lt (σ 0 9) fun v1 =>
  lt (s2 σ 0 33 x1) fun σ2 =>
  M8_runOf_L14 x2 x3 v1 (fun (σ11 : St) =>
    M8_runOf_J64 x2 x3 v1 σ11) FU 0 σ2
def M8_lookOf_J208 (kb : Int32 → Int32 → Int32 → St → Option (Int32 × St)) (x3 : Int32) (x5 : Int32) (y0 : Int32) (σ : St) : Option (Int32 × St) :=
  lt (x5 + 1) fun v34 =>
  kb x3 y0 v34 σ
def M8_lookOf_J195 (kb : Int32 → Int32 → Int32 → St → Option (Int32 × St)) (x4 : Int32) (x5 : Int32) (x6 : Int32) (x7 : Int32) (y0 : Int32) (σ : St) : Option (Int32 × St) :=
  M8_lookOf_J208 kb y0 x5 (if x7 = 0 then x4 else x6) σ
def M8_lookOf_J182 (kb : Int32 → Int32 → Int32 → St → Option (Int32 × St)) (x3 : Int32) (x4 : Int32) (x5 : Int32) (x6 : Int32) (y0 : Int32) (σ : St) : Option (Int32 × St) :=
  M8_lookOf_J195 kb x4 x5 x6 y0 (if y0 = 0 then x3 else x5) σ
def M8_lookOf_J177 (kb : Int32 → Int32 → Int32 → St → Option (Int32 × St)) (x3 : Int32) (x4 : Int32) (x5 : Int32) (x6 : Int32) (σ : St) : Option (Int32 × St) :=
  M8_lookOf_J182 kb x3 x4 x5 x6 1 σ
def M8_lookOf_L132 (x3 : Int32) (x4 : Int32) (x5 : Int32) (kx : Int32 → St → Option (Int32 × St)) : Nat → Int32 → Int32 → St → Option (Int32 × St)
  | 0, _, _, _ => none
  | n + 1, x6, x7, σ =>
    if 10 ≤ x7 then
      kx x6 σ
    else
      if inb ((10 * x5) + x7) 80 then
      bd (M8_greater (σ 24 ((10 * x5) + x7).toNatClampNeg) x6 σ) fun r27 σ27 =>
      lt (x7 + 1) fun v28 =>
      M8_lookOf_L132 x3 x4 x5 kx n r27 v28 σ27
      else none
def M8_lookOf_L115 (kx : Int32 → St → Option (Int32 × St)) : Nat → Int32 → Int32 → Int32 → St → Option (Int32 × St)
  | 0, _, _, _, _ => none
  | n + 1, x3, x4, x5, σ =>
    if (σ 7 0) ≤ x5 then
      kx x3 σ
    else
      M8_lookOf_L132 x3 x4 x5 (fun (v29 : Int32) (σ30 : St) =>
        if x3 = ((-1)) then
          M8_lookOf_J177 (fun x3 x4 x5 σ => M8_lookOf_L115 kx n x3 x4 x5 σ) x3 x4 x5 v29 σ30
        else
          if x4 ≤ v29 then
            M8_lookOf_J182 (fun x3 x4 x5 σ => M8_lookOf_L115 kx n x3 x4 x5 σ) x3 x4 x5 v29 0 σ30
          else
            M8_lookOf_J177 (fun x3 x4 x5 σ => M8_lookOf_L115 kx n x3 x4 x5 σ) x3 x4 x5 v29 σ30) FU 0 0 σ
def M8_lookOf_J101 (kb : Int32 → St → Option (Int32 × St)) (x1 : Int32) (x2 : Int32) (x3 : Int32) (σ : St) : Option (Int32 × St) :=
  lt (x3 + 1) fun v10 =>
  kb v10 σ
def M8_lookOf_L63 (x1 : Int32) (x2 : Int32) (x3 : Int32) (kx : St → Option (Int32 × St)) : Nat → Int32 → St → Option (Int32 × St)
  | 0, _, _ => none
  | n + 1, x4, σ =>
    if (σ 7 0) ≤ x4 then
      kx σ
    else
      bd (M8_looksNow x4 σ) fun r16 σ16 =>
      if inb ((10 * x4) + r16) 80 then
      lt (s2 σ16 24 ((10 * x4) + r16).toNatClampNeg ((σ16 24 ((10 * x4) + r16).toNatClampNeg) + 1)) fun σ19 =>
      lt (x4 + 1) fun v20 =>
      M8_lookOf_L63 x1 x2 x3 kx n v20 σ19
      else none
def M8_lookOf_L29 (x1 : Int32) (x2 : Int32) (kx : St → Option (Int32 × St)) : Nat → Int32 → St → Option (Int32 × St)
  | 0, _, _ => none
  | n + 1, x3, σ =>
    if (σ 0 9) ≤ x3 then
      kx σ
    else
      bd (M8_isIn x2 x3 σ) fun r8 σ8 =>
      if r8 = 0 then
        M8_lookOf_J101 (fun x3 σ => M8_lookOf_L29 x1 x2 kx n x3 σ) x1 x2 x3 σ8
      else
        lt (s2 σ8 0 26 x3) fun σ11 =>
        bd (M8_lives x1 σ11) fun r12 σ12 =>
        lt (s2 σ12 0 26 ((-1))) fun σ13 =>
        M8_lookOf_L63 x1 x2 x3 (fun (σ21 : St) =>
          M8_lookOf_J101 (fun x3 σ => M8_lookOf_L29 x1 x2 kx n x3 σ) x1 x2 x3 σ21) FU 0 σ13
def M8_lookOf_L8 (x1 : Int32) (x2 : Int32) (kx : St → Option (Int32 × St)) : Nat → Int32 → St → Option (Int32 × St)
  | 0, _, _ => none
  | n + 1, x3, σ =>
    if 80 ≤ x3 then
      kx σ
    else
      if inb x3 80 then
      lt (s2 σ 24 x3.toNatClampNeg 0) fun σ4 =>
      lt (x3 + 1) fun v5 =>
      M8_lookOf_L8 x1 x2 kx n v5 σ4
      else none
def M8_lookOf (x1 : Int32) (σ : St) : Option (Int32 × St) :=
  bd (M8_neverOf 0 σ) fun r1 σ1 =>
  M8_lookOf_L8 x1 r1 (fun (σ6 : St) =>
    M8_lookOf_L29 x1 r1 (fun (σ22 : St) =>
      M8_lookOf_L115 (fun (v36 : Int32) (σ37 : St) =>
        some (v36, σ37)) FU ((-1)) 0 0 σ22) FU 0 σ6) FU 0 σ1
def M8_tellsDay (x1 : Int64) (x3 : Int32) (σ : St) : Option (Int64 × St) :=
  bd (M8_behindOf x3 0 σ) fun r1 σ1 =>
  lt ((31 * x1) + r1.toInt64) fun v2 =>
  bd (M8_behindOf x3 1 σ1) fun r3 σ3 =>
  lt ((31 * v2) + r3.toInt64) fun v4 =>
  bd (M8_bestOf x3 ((-1)) σ3) fun r5 σ5 =>
  lt ((31 * v4) + r5.toInt64) fun v6 =>
  bd (M8_bestOf x3 0 σ5) fun r7 σ7 =>
  lt ((31 * v6) + r7.toInt64) fun v8 =>
  bd (M8_callOf x3 0 σ7) fun r9 σ9 =>
  lt ((31 * v8) + r9.toInt64) fun v10 =>
  bd (M8_callOf x3 1 σ9) fun r11 σ11 =>
  lt ((31 * v10) + r11.toInt64) fun v12 =>
  bd (M8_lookOf x3 σ11) fun r13 σ13 =>
  some ((31 * v12) + r13.toInt64, σ13)
def M8_isOf (x1 : Int32) (x2 : Int32) (x3 : Int32) (σ : St) : Option (Int32 × St) :=
  bd (M8_lives x1 σ) fun r1 σ1 =>
  if x3 = 0 then
    if inb x2 8 then
    some (σ1 12 x2.toNatClampNeg, σ1)
    else none
  else
    if x3 = 1 then
      if inb x2 8 then
      some (σ1 13 x2.toNatClampNeg, σ1)
      else none
    else
      if inb x2 8 then
      if (σ1 14 x2.toNatClampNeg) = ((-1)) then
        some ((-1), σ1)
      else
        if inb ((4 * (σ1 14 x2.toNatClampNeg)) + 2) 208 then
        some (σ1 9 ((4 * (σ1 14 x2.toNatClampNeg)) + 2).toNatClampNeg, σ1)
        else none
      else none
def M8_servesOf_J40 (kb : Int32 → Int32 → St → Option (Int32 × St)) (x2 : Int32) (x4 : Int32) (y0 : Int32) (y1 : Int32) (σ : St) : Option (Int32 × St) :=
  lt (y1 ||| y0) fun v6 =>
  lt (x4 + 1) fun v7 =>
  kb v6 v7 σ
def M8_servesOf_L10 (x2 : Int32) (kx : Int32 → St → Option (Int32 × St)) : Nat → Int32 → Int32 → St → Option (Int32 × St)
  | 0, _, _, _ => none
  | n + 1, x3, x4, σ =>
    if (σ 7 1) ≤ x4 then
      kx x3 σ
    else
      bd (M8_servesNow x2 x4 σ) fun r4 σ4 =>
      M8_servesOf_J40 (fun x3 x4 σ => M8_servesOf_L10 x2 kx n x3 x4 σ) x2 x4 (if r4 = 0 then 0 else (1 : Int32) <<< (x4 &&& 31)) x3 σ4
def M8_servesOf (x1 : Int32) (x2 : Int32) (σ : St) : Option (Int32 × St) :=
  bd (M8_lives x1 σ) fun r1 σ1 =>
  M8_servesOf_L10 x2 (fun (v8 : Int32) (σ9 : St) =>
    some (v8, σ9)) FU 0 0 σ1
def M8_tellsHole_J68 (kb : Int64 → Int32 → St → Option (Int64 × St)) (x3 : Int32) (x6 : Int32) (y0 : Int32) (y2 : Int64) (σ : St) : Option (Int64 × St) :=
  bd (M8_isOf y0 x3 (x6 - x6 / 3 * 3) σ) fun r10 σ10 =>
  lt (y2 + r10.toInt64) fun v11 =>
  lt (x6 + 1) fun v12 =>
  kb v11 v12 σ10
def M8_tellsHole_L42 (x3 : Int32) (kx : Int64 → St → Option (Int64 × St)) : Nat → Int64 → Int32 → St → Option (Int64 × St)
  | 0, _, _, _ => none
  | n + 1, x4, x6, σ =>
    if 6 ≤ x6 then
      kx x4 σ
    else
      M8_tellsHole_J68 (fun x4 x6 σ => M8_tellsHole_L42 x3 kx n x4 x6 σ) x3 x6 (if 3 ≤ x6 then 39 else 5) (31 * x4) σ
def M8_tellsHole_L6 (x3 : Int32) (kx : Int64 → St → Option (Int64 × St)) : Nat → Int64 → Int32 → St → Option (Int64 × St)
  | 0, _, _, _ => none
  | n + 1, x4, x6, σ =>
    if 4 ≤ x6 then
      kx x4 σ
    else
      if inb ((4 * x3) + x6) 64 then
      lt ((31 * x4) + ((σ 8 ((4 * x3) + x6).toNatClampNeg).toInt64)) fun v3 =>
      lt (x6 + 1) fun v4 =>
      M8_tellsHole_L6 x3 kx n v3 v4 σ
      else none
def M8_tellsHole (x1 : Int64) (x3 : Int32) (σ : St) : Option (Int64 × St) :=
  M8_tellsHole_L6 x3 (fun (v5 : Int64) (σ6 : St) =>
    M8_tellsHole_L42 x3 (fun (v13 : Int64) (σ14 : St) =>
      bd (M8_servesOf 5 x3 σ14) fun r15 σ15 =>
      some ((31 * v13) + r15.toInt64, σ15)) FU v5 0 σ6) FU x1 0 σ
def M8_goesOn_L39 (x1 : Int32) (x2 : Int32) (kx : St → Option (Int32 × St)) : Nat → Int32 → St → Option (Int32 × St)
  | 0, _, _ => none
  | n + 1, x3, σ =>
    if x1 ≤ x3 then
      kx σ
    else
      if inb x2 3 then
      if inb x3 3 then
      lt (s2 σ 22 x3.toNatClampNeg (σ 22 x2.toNatClampNeg)) fun σ14 =>
      lt (x3 + 1) fun v15 =>
      M8_goesOn_L39 x1 x2 kx n v15 σ14
      else none
      else none
def M8_goesOn_L4 (x1 : Int32) (kx : St → Option (Int32 × St)) : Nat → Int32 → St → Option (Int32 × St)
  | 0, _, _ => none
  | n + 1, x2, σ =>
    if x2 < 0 then
      kx σ
    else
      if inb x2 3 then
      if ((σ 7 0) - 1) ≤ (σ 22 x2.toNatClampNeg) then
        lt (x2 + (-1)) fun v6 =>
        M8_goesOn_L4 x1 kx n v6 σ
      else
        lt (s2 σ 22 x2.toNatClampNeg ((σ 22 x2.toNatClampNeg) + 1)) fun σ9 =>
        lt (x2 + 1) fun v10 =>
        M8_goesOn_L39 x1 x2 (fun (σ16 : St) =>
          some (1, σ16)) FU v10 σ9
      else none
def M8_goesOn (x1 : Int32) (σ : St) : Option (Int32 × St) :=
  lt (x1 - 1) fun v1 =>
  M8_goesOn_L4 x1 (fun (σ17 : St) =>
    some (0, σ17)) FU v1 σ
def M8_isServed_J51 (kb : Int32 → Int32 → St → Option (Int32 × St)) (x1 : Int32) (x4 : Int32) (y0 : Int32) (σ : St) : Option (Int32 × St) :=
  lt (x4 + 1) fun v5 =>
  kb y0 v5 σ
def M8_isServed_J50 (kb : Int32 → Int32 → St → Option (Int32 × St)) (x1 : Int32) (x4 : Int32) (σ : St) : Option (Int32 × St) :=
  M8_isServed_J51 kb x1 x4 0 σ
def M8_isServed_J46 (kb : Int32 → Int32 → St → Option (Int32 × St)) (x1 : Int32) (x4 : Int32) (σ : St) : Option (Int32 × St) :=
  M8_isServed_J51 kb x1 x4 1 σ
def M8_isServed_L10 (x1 : Int32) (kx : Int32 → St → Option (Int32 × St)) : Nat → Int32 → Int32 → St → Option (Int32 × St)
  | 0, _, _, _ => none
  | n + 1, x3, x4, σ =>
    if (σ 7 0) ≤ x4 then
      kx x3 σ
    else
      if x3 = 0 then
        if inb x4 8 then
        if (σ 14 x4.toNatClampNeg) = ((-1)) then
          bd (M8_servesNow x4 x1 σ) fun r8 σ8 =>
          if r8 = 0 then
            M8_isServed_J50 (fun x3 x4 σ => M8_isServed_L10 x1 kx n x3 x4 σ) x1 x4 σ8
          else
            M8_isServed_J46 (fun x3 x4 σ => M8_isServed_L10 x1 kx n x3 x4 σ) x1 x4 σ8
        else
          M8_isServed_J50 (fun x3 x4 σ => M8_isServed_L10 x1 kx n x3 x4 σ) x1 x4 σ
        else none
      else
        M8_isServed_J46 (fun x3 x4 σ => M8_isServed_L10 x1 kx n x3 x4 σ) x1 x4 σ
def M8_isServed (x1 : Int32) (x2 : Int32) (σ : St) : Option (Int32 × St) :=
  bd (M8_lives x2 σ) fun r1 σ1 =>
  M8_isServed_L10 x1 (fun (v10 : Int32) (σ11 : St) =>
    if v10 = 0 ∨ v10 = 1 then some (v10, σ11) else none) FU 0 0 σ1
def M8_patchesMore (x1 : Int32) (x2 : Int32) (σ : St) : Option (Unit × St) :=
  if inb (2 * (σ 0 13)) 22 then
  lt (s2 σ 11 (2 * (σ 0 13)).toNatClampNeg x1) fun σ2 =>
  if inb ((2 * (σ2 0 13)) + 1) 22 then
  lt (s2 σ2 11 ((2 * (σ2 0 13)) + 1).toNatClampNeg x2) fun σ4 =>
  lt (s2 σ4 0 13 ((σ4 0 13) + 1)) fun σ5 =>
  some ((), σ5)
  else none
  else none
def M8_mendOf_L67 (x1 : Int32) (x2 : Int32) (x3 : Int32) (x4 : Int32) (x5 : Int32) (kx : St → Option (Int32 × St)) : Nat → Int32 → St → Option (Int32 × St)
  | 0, _, _ => none
  | n + 1, x7, σ =>
    if x5 ≤ x7 then
      kx σ
    else
      if inb x7 3 then
      bd (M8_patchesMore x2 (σ 22 x7.toNatClampNeg) σ) fun r12 σ12 =>
      lt (x7 + 1) fun v13 =>
      M8_mendOf_L67 x1 x2 x3 x4 x5 kx n v13 σ12
      else none
def M8_mendOf_L59 (x1 : Int32) (x2 : Int32) (x3 : Int32) (x4 : Int32) (x5 : Int32) (kx : St → Option (Int32 × St)) : Nat → Int32 → St → Option (Int32 × St)
  | 0, _, _ => none
  | n + 1, x6, σ =>
    if x6 = 0 then
      kx σ
    else
      M8_mendOf_L67 x1 x2 x3 x4 x5 (fun (σ14 : St) =>
        bd (M8_isServed x1 x2 σ14) fun r15 σ15 =>
        lt (s2 σ15 0 13 x4) fun σ16 =>
        if r15 = 0 then
          bd (M8_goesOn x5 σ16) fun r18 σ18 =>
          M8_mendOf_L59 x1 x2 x3 x4 x5 kx n r18 σ18
        else
          if x3 = ((-1)) then
            some (x5, σ16)
          else
            if x5 ≤ x3 then
              some ((-1), σ16)
            else
              if inb x3 3 then
              some (σ16 22 x3.toNatClampNeg, σ16)
              else none) FU 0 σ
def M8_mendOf_L39 (x1 : Int32) (x2 : Int32) (x3 : Int32) (x4 : Int32) (x5 : Int32) (x6 : Int32) (kx : St → Option (Int32 × St)) : Nat → Int32 → St → Option (Int32 × St)
  | 0, _, _ => none
  | n + 1, x7, σ =>
    if 3 ≤ x7 then
      kx σ
    else
      if inb x7 3 then
      lt (s2 σ 22 x7.toNatClampNeg 0) fun σ6 =>
      lt (x7 + 1) fun v7 =>
      M8_mendOf_L39 x1 x2 x3 x4 x5 x6 kx n v7 σ6
      else none
def M8_mendOf_J34 (kb : Int32 → St → Option (Int32 × St)) (x1 : Int32) (x2 : Int32) (x3 : Int32) (x4 : Int32) (x5 : Int32) (y0 : Int32) (σ : St) : Option (Int32 × St) :=
  M8_mendOf_L39 x1 x2 x3 x4 x5 y0 (fun (σ8 : St) =>
    M8_mendOf_L59 x1 x2 x3 x4 x5 (fun (σ22 : St) =>
      lt (x5 + 1) fun v23 =>
      kb v23 σ22) FU y0 σ8) FU 0 σ
def M8_mendOf_J29 (kb : Int32 → St → Option (Int32 × St)) (x1 : Int32) (x2 : Int32) (x3 : Int32) (x4 : Int32) (x5 : Int32) (σ : St) : Option (Int32 × St) :=
  M8_mendOf_J34 kb x1 x2 x3 x4 x5 1 σ
def M8_mendOf_L9 (x1 : Int32) (x2 : Int32) (x3 : Int32) (x4 : Int32) (kx : St → Option (Int32 × St)) : Nat → Int32 → St → Option (Int32 × St)
  | 0, _, _ => none
  | n + 1, x5, σ =>
    if 4 ≤ x5 then
      kx σ
    else
      if x5 = 0 then
        M8_mendOf_J29 (fun x5 σ => M8_mendOf_L9 x1 x2 x3 x4 kx n x5 σ) x1 x2 x3 x4 x5 σ
      else
        if (σ 7 0) ≤ 0 then
          M8_mendOf_J34 (fun x5 σ => M8_mendOf_L9 x1 x2 x3 x4 kx n x5 σ) x1 x2 x3 x4 x5 0 σ
        else
          M8_mendOf_J29 (fun x5 σ => M8_mendOf_L9 x1 x2 x3 x4 kx n x5 σ) x1 x2 x3 x4 x5 σ
def M8_mendOf (x1 : Int32) (x2 : Int32) (x3 : Int32) (σ : St) : Option (Int32 × St) :=
  lt (σ 0 13) fun v1 =>
  M8_mendOf_L9 x1 x2 x3 v1 (fun (σ26 : St) =>
    some ((-1), σ26)) FU 0 σ
def M8_part_L6 (x0 : Int64) (x2 : Int64) (x4 : Int32) (kx : Int64 → St → Option (Int64 × St)) : Nat → Int64 → Int64 → St → Option (Int64 × St)
  | 0, _, _, _ => none
  | n + 1, x5, x7, σ =>
    if (lg_cmp x7 0) = 0 then
      kx x5 σ
    else
      if ¬ x7 = 0 then
      lt (x5 - x5 / x7 * x7) fun v3 =>
      M8_part_L6 x0 x2 x4 kx n x7 v3 σ
      else none
def M8_part (x0 : Int64) (x2 : Int64) (x4 : Int32) (σ : St) : Option (Int64 × St) :=
  M8_part_L6 x0 x2 x4 (fun (v4 : Int64) (σ5 : St) =>
    if x4 = 0 then
      if ¬ v4 = 0 then
      some (x0 / v4, σ5)
      else none
    else
      if ¬ v4 = 0 then
      some (x2 / v4, σ5)
      else none) FU x0 x2 σ
def M8_mothsOf_J113 (kb : Int64 → Int64 → Int32 → St → Option (Int64 × St)) (x1 : Int32) (x3 : Int32) (x4 : Int32) (x5 : Int64) (x7 : Int64) (x9 : Int32) (σ : St) : Option (Int64 × St) :=
  lt (x9 + 1) fun v6 =>
  kb x5 x7 v6 σ
def M8_mothsOf_J94 (kb : Int64 → Int64 → Int32 → St → Option (Int64 × St)) (x1 : Int32) (x3 : Int32) (x4 : Int32) (x5 : Int64) (x7 : Int64) (x9 : Int32) (y0 : Int32) (y1 : Int32) (σ : St) : Option (Int64 × St) :=
  lt (y1 + y0) fun v14 =>
  lt (x5 * v14.toInt64) fun v15 =>
  lt (x7 * 16) fun v16 =>
  M8_mothsOf_J113 kb x1 x3 x4 v15 v16 x9 σ
def M8_mothsOf_J61 (kb : Int64 → Int64 → Int32 → St → Option (Int64 × St)) (x1 : Int32) (x3 : Int32) (x4 : Int32) (x5 : Int64) (x7 : Int64) (x9 : Int32) (y0 : Int32) (σ : St) : Option (Int64 × St) :=
  if inb x9 8 then
  bd (M8_lesser ((σ 12 x9.toNatClampNeg) + 1) 9 σ) fun r11 σ11 =>
  bd (M8_servesBy x9 x3 r11 σ11) fun r12 σ12 =>
  M8_mothsOf_J94 kb x1 x3 x4 x5 x7 x9 (if r12 = 0 then x1 else 0) y0 σ12
  else none
def M8_mothsOf_L14 (x1 : Int32) (x3 : Int32) (x4 : Int32) (kx : Int64 → Int64 → St → Option (Int64 × St)) : Nat → Int64 → Int64 → Int32 → St → Option (Int64 × St)
  | 0, _, _, _, _ => none
  | n + 1, x5, x7, x9, σ =>
    if (σ 7 0) ≤ x9 then
      kx x5 x7 σ
    else
      if inb x9 8 then
      if (σ 14 x9.toNatClampNeg) = ((-1)) then
        bd (M8_servesBy x9 x3 (σ 12 x9.toNatClampNeg) σ) fun r8 σ8 =>
        M8_mothsOf_J61 (fun x5 x7 x9 σ => M8_mothsOf_L14 x1 x3 x4 kx n x5 x7 x9 σ) x1 x3 x4 x5 x7 x9 (if r8 = 0 then 16 - x1 else 0) σ8
      else
        M8_mothsOf_J113 (fun x5 x7 x9 σ => M8_mothsOf_L14 x1 x3 x4 kx n x5 x7 x9 σ) x1 x3 x4 x5 x7 x9 σ
      else none
def M8_mothsOf (x1 : Int32) (x2 : Int32) (x3 : Int32) (x4 : Int32) (σ : St) : Option (Int64 × St) :=
  bd (M8_lives x2 σ) fun r1 σ1 =>
  M8_mothsOf_L14 x1 x3 x4 (fun (v17 : Int64) (v18 : Int64) (σ19 : St) =>
    bd (M8_part (v18 - v17) v18 x4 σ19) fun r20 σ20 =>
    some (r20, σ20)) FU 1 1 0 σ1
def M8_tellsWork_L6 (x3 : Int32) (kx : Int64 → St → Option (Int64 × St)) : Nat → Int64 → Int32 → St → Option (Int64 × St)
  | 0, _, _, _ => none
  | n + 1, x4, x6, σ =>
    if 4 ≤ x6 then
      kx x4 σ
    else
      if inb ((32 + (4 * x3)) + x6) 64 then
      lt ((31 * x4) + ((σ 8 ((32 + (4 * x3)) + x6).toNatClampNeg).toInt64)) fun v3 =>
      lt (x6 + 1) fun v4 =>
      M8_tellsWork_L6 x3 kx n v3 v4 σ
      else none
def M8_tellsWork (x1 : Int64) (x3 : Int32) (σ : St) : Option (Int64 × St) :=
  M8_tellsWork_L6 x3 (fun (v5 : Int64) (σ6 : St) =>
    bd (M8_mendOf x3 3 ((-1)) σ6) fun r7 σ7 =>
    lt ((31 * v5) + r7.toInt64) fun v8 =>
    bd (M8_mendOf x3 3 0 σ7) fun r9 σ9 =>
    lt ((31 * v8) + r9.toInt64) fun v10 =>
    bd (M8_mothsOf 5 9 x3 0 σ9) fun r11 σ11 =>
    lt ((31 * v10) + r11) fun v12 =>
    bd (M8_mothsOf 5 9 x3 1 σ11) fun r13 σ13 =>
    some ((31 * v12) + r13, σ13)) FU x1 0 σ
def M8_digest_L173 (kx : Int64 → St → Option (Int64 × St)) : Nat → Int64 → Int32 → St → Option (Int64 × St)
  | 0, _, _, _ => none
  | n + 1, x1, x3, σ =>
    if 6 ≤ x3 then
      kx x1 σ
    else
      bd (M8_breachesOf x3 σ) fun r37 σ37 =>
      lt ((31 * x1) + r37.toInt64) fun v38 =>
      lt (x3 + 1) fun v39 =>
      M8_digest_L173 kx n v38 v39 σ37
def M8_digest_L120 (x3 : Int32) (kx : Int64 → St → Option (Int64 × St)) : Nat → Int64 → Int32 → St → Option (Int64 × St)
  | 0, _, _, _ => none
  | n + 1, x1, x4, σ =>
    if 3 ≤ x4 then
      kx x1 σ
    else
      bd (M8_cameOf x3 x4 σ) fun r25 σ25 =>
      lt ((31 * x1) + r25.toInt64) fun v26 =>
      lt (x4 + 1) fun v27 =>
      M8_digest_L120 x3 kx n v26 v27 σ25
def M8_digest_L109 (kx : Int64 → St → Option (Int64 × St)) : Nat → Int64 → Int32 → St → Option (Int64 × St)
  | 0, _, _, _ => none
  | n + 1, x1, x3, σ =>
    if (σ 0 9) ≤ x3 then
      kx x1 σ
    else
      M8_digest_L120 x3 (fun (v28 : Int64) (σ29 : St) =>
        lt (x3 + 1) fun v30 =>
        M8_digest_L109 kx n v28 v30 σ29) FU x1 0 σ
def M8_digest_L84 (kx : Int64 → St → Option (Int64 × St)) : Nat → Int64 → Int32 → St → Option (Int64 × St)
  | 0, _, _, _ => none
  | n + 1, x1, x3, σ =>
    if (σ 7 1) ≤ x3 then
      kx x1 σ
    else
      bd (M8_tellsWork x1 x3 σ) fun r19 σ19 =>
      lt (x3 + 1) fun v20 =>
      M8_digest_L84 kx n r19 v20 σ19
def M8_digest_L59 (kx : Int64 → St → Option (Int64 × St)) : Nat → Int64 → Int32 → St → Option (Int64 × St)
  | 0, _, _, _ => none
  | n + 1, x1, x3, σ =>
    if (σ 7 0) ≤ x3 then
      kx x1 σ
    else
      bd (M8_tellsHole x1 x3 σ) fun r13 σ13 =>
      lt (x3 + 1) fun v14 =>
      M8_digest_L59 kx n r13 v14 σ13
def M8_digest_L6 (kx : Int64 → St → Option (Int64 × St)) : Nat → Int64 → Int32 → St → Option (Int64 × St)
  | 0, _, _, _ => none
  | n + 1, x1, x3, σ =>
    if 8 ≤ x3 then
      kx x1 σ
    else
      bd (M8_count x3 σ) fun r2 σ2 =>
      lt ((31 * x1) + r2.toInt64) fun v3 =>
      lt (x3 + 1) fun v4 =>
      M8_digest_L6 kx n v3 v4 σ2
def M8_digest (σ : St) : Option (Int64 × St) :=
  M8_digest_L6 (fun (v5 : Int64) (σ6 : St) =>
    bd (M8_readsText 0 σ6) fun r7 σ7 =>
    lt ((31 * v5) + r7.toInt64) fun v8 =>
    bd (M8_readsText 1 σ7) fun r9 σ9 =>
    lt ((31 * v8) + r9.toInt64) fun v10 =>
    M8_digest_L59 (fun (v15 : Int64) (σ16 : St) =>
      M8_digest_L84 (fun (v21 : Int64) (σ22 : St) =>
        M8_digest_L109 (fun (v31 : Int64) (σ32 : St) =>
          bd (M8_tellsDay v31 0 σ32) fun r33 σ33 =>
          bd (M8_tellsDay r33 5 σ33) fun r34 σ34 =>
          bd (M8_tellsDay r34 39 σ34) fun r35 σ35 =>
          M8_digest_L173 (fun (v40 : Int64) (σ41 : St) =>
            bd (M8_firstNow σ41) fun r42 σ42 =>
            lt ((31 * v40) + r42.toInt64) fun v43 =>
            bd (M8_neverOf 0 σ42) fun r44 σ44 =>
            lt ((31 * v43) + r44.toInt64) fun v45 =>
            bd (M8_neverOf 1 σ44) fun r46 σ46 =>
            lt ((31 * v45) + r46.toInt64) fun v47 =>
            bd (M8_runOf 7 20 0 σ46) fun r48 σ48 =>
            lt ((31 * v47) + r48.toInt64) fun v49 =>
            bd (M8_runOf 7 20 1 σ48) fun r50 σ50 =>
            some ((31 * v49) + r50.toInt64, σ50)) FU r35 0 σ35) FU v21 0 σ22) FU v15 0 σ16) FU v10 0 σ9) FU 17 0 σ
def M8_ease (x1 : Int32) (σ : St) : Option (Int32 × St) :=
  bd (M8_in x1.toInt64 0 8 σ) fun r1 σ1 =>
  if r1 = 0 then
    some ((-2), σ1)
  else
    lt (σ1 0 15) fun v3 =>
    lt (s2 σ1 0 15 x1) fun σ4 =>
    some (v3, σ4)
def M8_fault (x1 : Int32) (σ : St) : Option (Int32 × St) :=
  bd (M8_isTwo x1 σ) fun r1 σ1 =>
  if r1 = 0 then
    some ((-2), σ1)
  else
    bd (M8_readsText x1 σ1) fun r3 σ3 =>
    some (r3, σ3)
def M8_isAnyHole (x0 : Int32) (σ : St) : Option (Int32 × St) :=
  bd (M8_in x0.toInt64 0 7 σ) fun r1 σ1 =>
  if r1 = 0 ∨ r1 = 1 then some (r1, σ1) else none
def M8_fill (x1 : Int32) (x2 : Int32) (σ : St) : Option (Int32 × St) :=
  bd (M8_isDay x1 σ) fun r1 σ1 =>
  if r1 = 0 then
    some ((-2), σ1)
  else
    bd (M8_isAnyHole x2 σ1) fun r3 σ3 =>
    if r3 = 0 then
      some ((-2), σ3)
    else
      if (σ3 0 11) = 8 then
        some ((-4), σ3)
      else
        if inb (2 * (σ3 0 11)) 16 then
        lt (s2 σ3 10 (2 * (σ3 0 11)).toNatClampNeg x1) fun σ7 =>
        if inb ((2 * (σ7 0 11)) + 1) 16 then
        lt (s2 σ7 10 ((2 * (σ7 0 11)) + 1).toNatClampNeg x2) fun σ9 =>
        lt (s2 σ9 0 11 ((σ9 0 11) + 1)) fun σ10 =>
        some (σ10 0 11, σ10)
        else none
        else none
def M8_first (σ : St) : Option (Int32 × St) :=
  bd (M8_reads σ) fun r1 σ1 =>
  bd (M8_firstNow σ1) fun r2 σ2 =>
  some (r2, σ2)
def M8_forget (σ : St) : Option (Int32 × St) :=
  lt (σ 0 30) fun v1 =>
  lt (s2 σ 0 30 0) fun σ2 =>
  some (v1, σ2)
def M8_lacks (x1 : Int32) (x2 : Int32) (x3 : Int32) (σ : St) : Option (Int32 × St) :=
  if inb x1 4 then
  if 0 ≤ (σ 1 x1.toNatClampNeg) then
    if (σ 1 x1.toNatClampNeg) = x2 then
      bd (M8_in x3.toInt64 0 (((σ 2 x1.toNatClampNeg) - 1).toInt64) σ) fun r6 σ6 =>
      if r6 = 0 then
        bd (M8_finds 2 σ6) fun r8 σ8 =>
        some (r8, σ8)
      else
        some (0, σ6)
    else
      bd (M8_finds 3 σ) fun r9 σ9 =>
      some (r9, σ9)
  else
    bd (M8_finds 1 σ) fun r10 σ10 =>
    some (r10, σ10)
  else none
def M8_get (x1 : Int32) (x2 : Int32) (x3 : Int32) (σ : St) : Option (Int32 × St) :=
  bd (M8_isSheet x1 σ) fun r1 σ1 =>
  if r1 = 0 then
    some ((-2147483648), σ1)
  else
    bd (M8_in x2.toInt64 0 2 σ1) fun r3 σ3 =>
    if r3 = 0 then
      some ((-2147483648), σ3)
    else
      bd (M8_lacks x1 x2 x3 σ3) fun r5 σ5 =>
      if r5 = 0 then
        if inb ((60 * x1) + x3) 240 then
        some (σ5 3 ((60 * x1) + x3).toNatClampNeg, σ5)
        else none
      else
        some ((-2147483648), σ5)
def M8_hole (x1 : Int32) (x2 : Int32) (σ : St) : Option (Int32 × St) :=
  bd (M8_reads σ) fun r1 σ1 =>
  bd (M8_isHole x1 σ1) fun r2 σ2 =>
  if r2 = 0 then
    some ((-2), σ2)
  else
    bd (M8_in x2.toInt64 0 3 σ2) fun r4 σ4 =>
    if r4 = 0 then
      some ((-2), σ4)
    else
      if inb ((4 * x1) + x2) 64 then
      some (σ4 8 ((4 * x1) + x2).toNatClampNeg, σ4)
      else none
def M8_is (x1 : Int32) (x2 : Int32) (x3 : Int32) (σ : St) : Option (Int32 × St) :=
  bd (M8_reads σ) fun r1 σ1 =>
  bd (M8_isDay x1 σ1) fun r2 σ2 =>
  if r2 = 0 then
    some ((-2), σ2)
  else
    bd (M8_isHole x2 σ2) fun r4 σ4 =>
    if r4 = 0 then
      some ((-2), σ4)
    else
      bd (M8_in x3.toInt64 0 2 σ4) fun r6 σ6 =>
      if r6 = 0 then
        some ((-2), σ6)
      else
        bd (M8_isOf x1 x2 x3 σ6) fun r8 σ8 =>
        some (r8, σ8)
def M8_isWork (x1 : Int32) (σ : St) : Option (Int32 × St) :=
  bd (M8_in x1.toInt64 0 (((σ 7 1) - 1).toInt64) σ) fun r2 σ2 =>
  if r2 = 0 ∨ r2 = 1 then some (r2, σ2) else none
def M8_lay (x1 : Int32) (x2 : Int32) (x3 : Int32) (x4 : Int32) (σ : St) : Option (Int32 × St) :=
  bd (M8_isSheet x1 σ) fun r1 σ1 =>
  if r1 = 0 then
    some ((-2), σ1)
  else
    bd (M8_in x2.toInt64 0 2 σ1) fun r3 σ3 =>
    if r3 = 0 then
      some ((-2), σ3)
    else
      bd (M8_lacks x1 x2 x3 σ3) fun r5 σ5 =>
      if r5 = 0 then
        bd (M8_cut x2 x4 σ5) fun r7 σ7 =>
        if inb ((60 * x1) + x3) 240 then
        lt (s2 σ7 3 ((60 * x1) + x3).toNatClampNeg r7) fun σ9 =>
        some (1, σ9)
        else none
      else
        some (r5, σ5)
def M8_loan (x1 : Int32) (x2 : Int32) (x3 : Int32) (x4 : Int32) (σ : St) : Option (Int32 × St) :=
  bd (M8_isDay x1 σ) fun r1 σ1 =>
  if r1 = 0 then
    some ((-2), σ1)
  else
    bd (M8_isAnyHole x2 σ1) fun r3 σ3 =>
    if r3 = 0 then
      some ((-2), σ3)
    else
      bd (M8_in x3.toInt64 0 5 σ3) fun r5 σ5 =>
      if r5 = 0 then
        some ((-2), σ5)
      else
        bd (M8_in x4.toInt64 1 9 σ5) fun r7 σ7 =>
        if r7 = 0 then
          some ((-2), σ7)
        else
          if (σ7 0 9) = 12 then
            some ((-4), σ7)
          else
            bd (M8_lends x1 x2 x3 x4 σ7) fun r10 σ10 =>
            some (σ10 0 9, σ10)
def M8_look (x1 : Int32) (σ : St) : Option (Int32 × St) :=
  bd (M8_reads σ) fun r1 σ1 =>
  bd (M8_isDay x1 σ1) fun r2 σ2 =>
  if r2 = 0 then
    some ((-2), σ2)
  else
    bd (M8_lookOf x1 σ2) fun r4 σ4 =>
    some (r4, σ4)
def M8_lose (x1 : Int32) (σ : St) : Option (Int32 × St) :=
  bd (M8_isSheet x1 σ) fun r1 σ1 =>
  if r1 = 0 then
    some ((-2), σ1)
  else
    if inb x1 4 then
    if 0 ≤ (σ1 1 x1.toNatClampNeg) then
      lt (s2 σ1 1 x1.toNatClampNeg ((-1))) fun σ6 =>
      some (σ6 2 x1.toNatClampNeg, σ6)
    else
      bd (M8_finds 1 σ1) fun r8 σ8 =>
      some (r8, σ8)
    else none
def M8_mend (x1 : Int32) (x2 : Int32) (x3 : Int32) (σ : St) : Option (Int32 × St) :=
  bd (M8_reads σ) fun r1 σ1 =>
  bd (M8_isWork x1 σ1) fun r2 σ2 =>
  if r2 = 0 then
    some ((-2), σ2)
  else
    bd (M8_isDay x2 σ2) fun r4 σ4 =>
    if r4 = 0 then
      some ((-2), σ4)
    else
      bd (M8_in x3.toInt64 ((-1)) 2 σ4) fun r6 σ6 =>
      if r6 = 0 then
        some ((-2), σ6)
      else
        bd (M8_mendOf x1 x2 x3 σ6) fun r8 σ8 =>
        some (r8, σ8)
def M8_no (x0 : Int32) (σ : St) : Option (Int64 × St) :=
  some (((-9223372036854775808)) - x0.toInt64, σ)
def M8_moths_J51 (σ : St) : Option (Int64 × St) :=
  bd (M8_no ((-2)) σ) fun r4 σ4 =>
  some (r4, σ4)
def M8_moths (x1 : Int32) (x2 : Int32) (x3 : Int32) (x4 : Int32) (σ : St) : Option (Int64 × St) :=
  bd (M8_reads σ) fun r1 σ1 =>
  bd (M8_in x1.toInt64 0 16 σ1) fun r2 σ2 =>
  if r2 = 0 then
    M8_moths_J51 σ2
  else
    bd (M8_isDay x2 σ2) fun r5 σ5 =>
    if r5 = 0 then
      M8_moths_J51 σ5
    else
      bd (M8_isWork x3 σ5) fun r7 σ7 =>
      if r7 = 0 then
        M8_moths_J51 σ7
      else
        bd (M8_isTwo x4 σ7) fun r9 σ9 =>
        if r9 = 0 then
          M8_moths_J51 σ9
        else
          bd (M8_mothsOf x1 x2 x3 x4 σ9) fun r11 σ11 =>
          some (r11, σ11)
def M8_never (x1 : Int32) (σ : St) : Option (Int32 × St) :=
  bd (M8_reads σ) fun r1 σ1 =>
  bd (M8_isTwo x1 σ1) fun r2 σ2 =>
  if r2 = 0 then
    some ((-2), σ2)
  else
    bd (M8_neverOf x1 σ2) fun r4 σ4 =>
    some (r4, σ4)
def M8_patch (x1 : Int32) (x2 : Int32) (σ : St) : Option (Int32 × St) :=
  bd (M8_isDay x1 σ) fun r1 σ1 =>
  if r1 = 0 then
    some ((-2), σ1)
  else
    bd (M8_isAnyHole x2 σ1) fun r3 σ3 =>
    if r3 = 0 then
      some ((-2), σ3)
    else
      if (σ3 0 13) = 8 then
        some ((-4), σ3)
      else
        bd (M8_patchesMore x1 x2 σ3) fun r6 σ6 =>
        some (σ6 0 13, σ6)
def M8_read_J114 (kb : Int32 → Int32 → St → Option (Int32 × St)) (x1 : Int32) (x3 : Int32) (y0 : Int32) (y1 : Int32) (σ : St) : Option (Int32 × St) :=
  lt (y1 + y0) fun v16 =>
  kb v16 x3 σ
def M8_read_J103 (kb : Int32 → Int32 → St → Option (Int32 × St)) (x1 : Int32) (x2 : Int32) (y0 : Int32) (σ : St) : Option (Int32 × St) :=
  M8_read_J114 kb x1 y0 (if y0 = 0 then 0 else 1) x2 σ
def M8_read_L29 (x1 : Int32) (kx : Int32 → St → Option (Int32 × St)) : Nat → Int32 → Int32 → St → Option (Int32 × St)
  | 0, _, _, _ => none
  | n + 1, x2, x3, σ =>
    if x3 = 0 then
      kx x2 σ
    else
      if inb x1 4 then
      if (σ 2 x1.toNatClampNeg) < ((4 * x2) + 4) then
        kx x2 σ
      else
        lt ((60 * x1) + (4 * x2)) fun v8 =>
        if inb v8 240 then
        if inb (v8 + 1) 240 then
        if inb (v8 + 2) 240 then
        if inb (v8 + 3) 240 then
        bd (M8_loan (σ 3 v8.toNatClampNeg) (σ 3 (v8 + 1).toNatClampNeg) (σ 3 (v8 + 2).toNatClampNeg) (σ 3 (v8 + 3).toNatClampNeg) σ) fun r13 σ13 =>
        M8_read_J103 (fun x2 x3 σ => M8_read_L29 x1 kx n x2 x3 σ) x1 x2 (if r13 < 0 then 0 else 1) σ13
        else none
        else none
        else none
        else none
      else none
def M8_read (x1 : Int32) (σ : St) : Option (Int32 × St) :=
  bd (M8_isSheet x1 σ) fun r1 σ1 =>
  if r1 = 0 then
    some ((-2), σ1)
  else
    if inb x1 4 then
    if 0 ≤ (σ1 1 x1.toNatClampNeg) then
      M8_read_L29 x1 (fun (v17 : Int32) (σ18 : St) =>
        some (v17, σ18)) FU 0 1 σ1
    else
      bd (M8_finds 1 σ1) fun r19 σ19 =>
      some (r19, σ19)
    else none
def M8_run (x1 : Int32) (x2 : Int32) (x3 : Int32) (σ : St) : Option (Int32 × St) :=
  bd (M8_reads σ) fun r1 σ1 =>
  bd (M8_in x2.toInt64 1 40 σ1) fun r2 σ2 =>
  if r2 = 0 then
    some ((-2), σ2)
  else
    bd (M8_isTwo x3 σ2) fun r4 σ4 =>
    if r4 = 0 then
      some ((-2), σ4)
    else
      bd (M8_runOf x1 x2 x3 σ4) fun r6 σ6 =>
      some (r6, σ6)
def M8_seen (x1 : Int32) (x2 : Int32) (x3 : Int32) (σ : St) : Option (Int32 × St) :=
  bd (M8_isDay x1 σ) fun r1 σ1 =>
  if r1 = 0 then
    some ((-2), σ1)
  else
    bd (M8_isAnyHole x2 σ1) fun r3 σ3 =>
    if r3 = 0 then
      some ((-2), σ3)
    else
      bd (M8_in x3.toInt64 0 9 σ3) fun r5 σ5 =>
      if r5 = 0 then
        some ((-2), σ5)
      else
        if (σ5 0 30) = 8 then
          some ((-4), σ5)
        else
          if inb (3 * (σ5 0 30)) 24 then
          lt (s2 σ5 23 (3 * (σ5 0 30)).toNatClampNeg x1) fun σ9 =>
          if inb ((3 * (σ9 0 30)) + 1) 24 then
          lt (s2 σ9 23 ((3 * (σ9 0 30)) + 1).toNatClampNeg x2) fun σ11 =>
          if inb ((3 * (σ11 0 30)) + 2) 24 then
          lt (s2 σ11 23 ((3 * (σ11 0 30)) + 2).toNatClampNeg x3) fun σ13 =>
          lt (s2 σ13 0 30 ((σ13 0 30) + 1)) fun σ14 =>
          some (σ14 0 30, σ14)
          else none
          else none
          else none
def M8_serves (x1 : Int32) (x2 : Int32) (σ : St) : Option (Int32 × St) :=
  bd (M8_reads σ) fun r1 σ1 =>
  bd (M8_isDay x1 σ1) fun r2 σ2 =>
  if r2 = 0 then
    some ((-2), σ2)
  else
    bd (M8_isHole x2 σ2) fun r4 σ4 =>
    if r4 = 0 then
      some ((-2), σ4)
    else
      bd (M8_servesOf x1 x2 σ4) fun r6 σ6 =>
      some (r6, σ6)
def M8_sheet_L55 (x1 : Int32) (x3 : Int32) (kx : St → Option (Int32 × St)) : Nat → Int32 → St → Option (Int32 × St)
  | 0, _, _ => none
  | n + 1, x4, σ =>
    if x3 ≤ x4 then
      kx σ
    else
      if inb ((60 * x1) + x4) 240 then
      lt (s2 σ 3 ((60 * x1) + x4).toNatClampNeg 0) fun σ13 =>
      lt (x4 + 1) fun v14 =>
      M8_sheet_L55 x1 x3 kx n v14 σ13
      else none
def M8_sheet (x1 : Int32) (x2 : Int32) (x3 : Int32) (σ : St) : Option (Int32 × St) :=
  bd (M8_isSheet x1 σ) fun r1 σ1 =>
  if r1 = 0 then
    some ((-2), σ1)
  else
    bd (M8_in x2.toInt64 0 2 σ1) fun r3 σ3 =>
    if r3 = 0 then
      some ((-2), σ3)
    else
      if x3 ≤ 60 then
        if 0 ≤ x3 then
          if inb x1 4 then
          lt (s2 σ3 1 x1.toNatClampNeg x2) fun σ8 =>
          lt (s2 σ8 2 x1.toNatClampNeg x3) fun σ10 =>
          M8_sheet_L55 x1 x3 (fun (σ15 : St) =>
            some (x3, σ15)) FU 0 σ10
          else none
        else
          bd (M8_finds 5 σ3) fun r16 σ16 =>
          some (r16, σ16)
      else
        some ((-2), σ3)
def M8_type (x1 : Int32) (x2 : Int32) (σ : St) : Option (Int32 × St) :=
  bd (M8_isTwo x1 σ) fun r1 σ1 =>
  if r1 = 0 then
    some ((-2), σ1)
  else
    bd (M8_in x2.toInt64 0 255 σ1) fun r3 σ3 =>
    if r3 = 0 then
      some ((-2), σ3)
    else
      if inb x1 2 then
      if (σ3 6 x1.toNatClampNeg) = 39 then
        some ((-4), σ3)
      else
        if inb ((40 * x1) + (σ3 6 x1.toNatClampNeg)) 80 then
        lt (s2 σ3 5 ((40 * x1) + (σ3 6 x1.toNatClampNeg)).toNatClampNeg x2) fun σ9 =>
        lt (s2 σ9 6 x1.toNatClampNeg ((σ9 6 x1.toNatClampNeg) + 1)) fun σ12 =>
        some (σ12 6 x1.toNatClampNeg, σ12)
        else none
      else none
def M8_undo (x1 : Int32) (σ : St) : Option (Int32 × St) :=
  bd (M8_isTwo x1 σ) fun r1 σ1 =>
  if r1 = 0 then
    some ((-2), σ1)
  else
    if inb x1 2 then
    if (σ1 6 x1.toNatClampNeg) = 0 then
      some ((-3), σ1)
    else
      lt (s2 σ1 6 x1.toNatClampNeg ((σ1 6 x1.toNatClampNeg) - 1)) fun σ7 =>
      some (σ7 6 x1.toNatClampNeg, σ7)
    else none
def M8_wipe (x1 : Int32) (σ : St) : Option (Int32 × St) :=
  bd (M8_isTwo x1 σ) fun r1 σ1 =>
  if r1 = 0 then
    some ((-2), σ1)
  else
    if inb x1 2 then
    lt (σ1 6 x1.toNatClampNeg) fun v4 =>
    lt (s2 σ1 6 x1.toNatClampNeg 0) fun σ6 =>
    some (v4, σ6)
    else none
def M8_work (x1 : Int32) (x2 : Int32) (σ : St) : Option (Int32 × St) :=
  bd (M8_reads σ) fun r1 σ1 =>
  bd (M8_isWork x1 σ1) fun r2 σ2 =>
  if r2 = 0 then
    some ((-2), σ2)
  else
    bd (M8_in x2.toInt64 0 3 σ2) fun r4 σ4 =>
    if r4 = 0 then
      some ((-2), σ4)
    else
      if inb ((32 + (4 * x1)) + x2) 64 then
      some (σ4 8 ((32 + (4 * x1)) + x2).toNatClampNeg, σ4)
      else none
def M8_write_L60 (x2 : Int32) (x3 : Int32) (kx : St → Option (Int32 × St)) : Nat → Int32 → St → Option (Int32 × St)
  | 0, _, _ => none
  | n + 1, x4, σ =>
    if x3 ≤ x4 then
      kx σ
    else
      if inb x2 4 then
      bd (M8_looksNow x4 σ) fun r14 σ14 =>
      bd (M8_cut (σ 1 x2.toNatClampNeg) r14 σ14) fun r15 σ15 =>
      if inb ((60 * x2) + x4) 240 then
      lt (s2 σ15 3 ((60 * x2) + x4).toNatClampNeg r15) fun σ17 =>
      lt (x4 + 1) fun v18 =>
      M8_write_L60 x2 x3 kx n v18 σ17
      else none
      else none
def M8_write (x1 : Int32) (x2 : Int32) (σ : St) : Option (Int32 × St) :=
  bd (M8_isDay x1 σ) fun r1 σ1 =>
  if r1 = 0 then
    some ((-2), σ1)
  else
    bd (M8_isSheet x2 σ1) fun r3 σ3 =>
    if r3 = 0 then
      some ((-2), σ3)
    else
      if inb x2 4 then
      if 0 ≤ (σ3 1 x2.toNatClampNeg) then
        bd (M8_reads σ3) fun r7 σ7 =>
        bd (M8_lives x1 σ7) fun r8 σ8 =>
        bd (M8_lesser (σ8 2 x2.toNatClampNeg) (σ8 7 0) σ8) fun r11 σ11 =>
        M8_write_L60 x2 r11 (fun (σ19 : St) =>
          some (r11, σ19)) FU 0 σ11
      else
        bd (M8_finds 1 σ3) fun r20 σ20 =>
        some (r20, σ20)
      else none
def MJ0_coder_7d493 (o0 : Nat) (σ : St) : Option (Int32 × St) :=
  some (0, σ)
def MJ0_isLatin1_aae02 (o0 : Nat) (σ : St) : Option (Int32 × St) :=
  some (1, σ)
def MJ0_length_8abf5 (o0 : Nat) (σ : St) : Option (Int32 × St) :=
  bd (MJ0_coder_7d493 o0 σ) fun r1 σ1 =>
  some ((nI (bln (o0 + 2))) >>> (r1 &&& 31), σ1)
def MJ1_canEncode_9a6ad (x0 : Int32) (σ : St) : Option (Int32 × St) :=
  some (if x0 < 0 then 0 else if 255 < x0 then 0 else 1, σ)
def MJ1_indexOfChar_4cfef_L7 (o0 : Nat) (x3 : Int32) (x4 : Int32) (kx : St → Option (Int32 × St)) : Nat → Int32 → St → Option (Int32 × St)
  | 0, _, _ => none
  | n + 1, x5, σ =>
    if x3 ≤ x5 then
      kx σ
    else
      if inb x5 (bln o0) then
      if (bch o0 x5.toNatClampNeg) = x4 then
        some (x5, σ)
      else
        lt (x5 + 1) fun v4 =>
        MJ1_indexOfChar_4cfef_L7 o0 x3 x4 kx n v4 σ
      else none
def MJ1_indexOfChar_4cfef (o0 : Nat) (x1 : Int32) (x2 : Int32) (x3 : Int32) (σ : St) : Option (Int32 × St) :=
  MJ1_indexOfChar_4cfef_L7 o0 x3 x1.toInt8.toInt32 (fun (σ5 : St) =>
    some ((-1), σ5)) FU x2 σ
def MJ1_indexOf_4cfef (o0 : Nat) (x1 : Int32) (x2 : Int32) (x3 : Int32) (σ : St) : Option (Int32 × St) :=
  bd (MJ1_canEncode_9a6ad x1 σ) fun r1 σ1 =>
  if r1 = 0 then
    some ((-1), σ1)
  else
    lt (if x2 < 0 then 0 else x2) fun v3 =>
    lt (if (nI (bln o0)) < x3 then nI (bln o0) else x3) fun v4 =>
    if v3 < v4 then
      bd (MJ1_indexOfChar_4cfef o0 x1 v3 v4 σ1) fun r6 σ6 =>
      some (r6, σ6)
    else
      some ((-1), σ1)
def MJ0_indexOf_7cf53 (o0 : Nat) (x1 : Int32) (x2 : Int32) (σ : St) : Option (Int32 × St) :=
  bd (MJ0_isLatin1_aae02 o0 σ) fun r1 σ1 =>
  if r1 = 0 then
    bd (MJ0_length_8abf5 o0 σ1) fun r3 σ3 =>
    none
  else
    bd (MJ0_length_8abf5 o0 σ1) fun r4 σ4 =>
    bd (MJ1_indexOf_4cfef (o0 + 2) x1 x2 r4 σ4) fun r5 σ5 =>
    some (r5, σ5)
def MJ0_indexOf_0f7a4 (o0 : Nat) (x1 : Int32) (σ : St) : Option (Int32 × St) :=
  bd (MJ0_indexOf_7cf53 o0 x1 0 σ) fun r1 σ1 =>
  some (r1, σ1)
def MJ7_fill_53178_L5 (o0 : Nat) (x1 : Int32) (x3 : Int32) (kx : St → Option (Unit × St)) : Nat → Int32 → St → Option (Unit × St)
  | 0, _, _ => none
  | n + 1, x2, σ =>
    if x3 ≤ x2 then
      kx σ
    else
      if inb x2 (ln o0) then
      lt (s2 σ o0 x2.toNatClampNeg x1) fun σ4 =>
      lt (x2 + 1) fun v5 =>
      MJ7_fill_53178_L5 o0 x1 x3 kx n v5 σ4
      else none
def MJ7_fill_53178 (o0 : Nat) (x1 : Int32) (σ : St) : Option (Unit × St) :=
  lt (nI (ln o0)) fun v1 =>
  MJ7_fill_53178_L5 o0 x1 v1 (fun (σ6 : St) =>
    some ((), σ6)) FU 0 σ
def M4_takeAll (o0 : Nat) (o1 : Nat) (σ : St) : Option (Unit × St) :=
  lt (s2 σ o0 2 (if (σ o0 0) < (σ o1 2) then σ o0 0 else σ o1 2)) fun σ1 =>
  if cpk 0 0 ((σ1 o0 2) * 4) (ln (o1 + 1)) (ln (o0 + 1)) then
  lt (s1 σ1 (o0 + 1) (va_cpy (σ1 (o1 + 1)) (σ1 (o0 + 1)) (0 : Int32).toNatClampNeg (0 : Int32).toNatClampNeg ((σ1 o0 2) * 4).toNatClampNeg)) fun σ3 =>
  some ((), σ3)
  else none
def M0_takeAll (o0 : Nat) (o1 : Nat) (σ : St) : Option (Unit × St) :=
  bd (M4_takeAll (o0 + 1) (o1 + 1) σ) fun r1 σ1 =>
  bd (M4_takeAll (o0 + 3) (o1 + 3) σ1) fun r2 σ2 =>
  bd (M4_takeAll (o0 + 5) (o1 + 5) σ2) fun r3 σ3 =>
  some ((), σ3)
def M1_bitsAtBank_J31 (kb : Int32 → Int32 → St → Option (Int32 × St)) (o0 : Nat) (x1 : Int32) (x2 : Int32) (σ : St) : Option (Int32 × St) :=
  lt (x2 + 1) fun v4 =>
  kb x1 v4 σ
def M1_bitsAtBank_L4 (o0 : Nat) (kx : Int32 → St → Option (Int32 × St)) : Nat → Int32 → Int32 → St → Option (Int32 × St)
  | 0, _, _, _ => none
  | n + 1, x1, x2, σ =>
    if (σ o0 9) ≤ x2 then
      kx x1 σ
    else
      if inb x2 8 then
      if (σ (o0 + 1 + 9 + x2.toNatClampNeg) 4) = ((-1)) then
        lt (x1 ||| ((1 : Int32) <<< (x2 &&& 31))) fun v5 =>
        M1_bitsAtBank_J31 (fun x1 x2 σ => M1_bitsAtBank_L4 o0 kx n x1 x2 σ) o0 v5 x2 σ
      else
        M1_bitsAtBank_J31 (fun x1 x2 σ => M1_bitsAtBank_L4 o0 kx n x1 x2 σ) o0 x1 x2 σ
      else none
def M1_bitsAtBank (o0 : Nat) (σ : St) : Option (Int32 × St) :=
  M1_bitsAtBank_L4 o0 (fun (v6 : Int32) (σ7 : St) =>
    some (v6, σ7)) FU 0 0 σ
def M1_bitsFilled_J30 (kb : Int32 → Int32 → St → Option (Int32 × St)) (o0 : Nat) (x1 : Int32) (x2 : Int32) (σ : St) : Option (Int32 × St) :=
  lt (x2 + 1) fun v4 =>
  kb x1 v4 σ
def M1_bitsFilled_L4 (o0 : Nat) (kx : Int32 → St → Option (Int32 × St)) : Nat → Int32 → Int32 → St → Option (Int32 × St)
  | 0, _, _, _ => none
  | n + 1, x1, x2, σ =>
    if (σ o0 9) ≤ x2 then
      kx x1 σ
    else
      if inb x2 8 then
      if (σ (o0 + 1 + 9 + x2.toNatClampNeg) 7) = 0 then
        M1_bitsFilled_J30 (fun x1 x2 σ => M1_bitsFilled_L4 o0 kx n x1 x2 σ) o0 x1 x2 σ
      else
        lt (x1 ||| ((1 : Int32) <<< (x2 &&& 31))) fun v5 =>
        M1_bitsFilled_J30 (fun x1 x2 σ => M1_bitsFilled_L4 o0 kx n x1 x2 σ) o0 v5 x2 σ
      else none
def M1_bitsFilled (o0 : Nat) (σ : St) : Option (Int32 × St) :=
  M1_bitsFilled_L4 o0 (fun (v6 : Int32) (σ7 : St) =>
    some (v6, σ7)) FU 0 0 σ
def M1_couldBePatched (o0 : Nat) (x1 : Int32) (x2 : Int32) (σ : St) : Option (Int32 × St) :=
  if inb x1 40 then
  some (if (((σ (o0 + 5) x1.toNatClampNeg) >>> (x2 &&& 31)) &&& 1) = 1 then 1 else 0, σ)
  else none
def M1_countedFrom_L5 (o0 : Nat) (x2 : Int32) (kx : Int32 → St → Option (Int32 × St)) : Nat → Int32 → Int32 → St → Option (Int32 × St)
  | 0, _, _, _ => none
  | n + 1, x3, x4, σ =>
    if x2 ≤ x4 then
      kx x3 σ
    else
      if 52 ≤ x4 then
        kx x3 σ
      else
        if inb x4 52 then
        lt (x3 + (σ (o0 + 7) x4.toNatClampNeg)) fun v4 =>
        lt (x4 + 1) fun v5 =>
        M1_countedFrom_L5 o0 x2 kx n v4 v5 σ
        else none
def M1_countedFrom (o0 : Nat) (x1 : Int32) (x2 : Int32) (σ : St) : Option (Int32 × St) :=
  M1_countedFrom_L5 o0 x2 (fun (v6 : Int32) (σ7 : St) =>
    some (v6, σ7)) FU 0 x1 σ
def M1_deepBehind (o0 : Nat) (x1 : Int32) (x2 : Int32) (σ : St) : Option (Int32 × St) :=
  if inb ((x1 * 8) + x2) 320 then
  some (σ (o0 + 3) ((x1 * 8) + x2).toNatClampNeg, σ)
  else none
def M4_cell (o0 : Nat) (x1 : Int32) (x2 : Int32) (σ : St) : Option (Int32 × St) :=
  if inb ((x1 * 4) + x2) (ln (o0 + 1)) then
  some (σ (o0 + 1) ((x1 * 4) + x2).toNatClampNeg, σ)
  else none
def M1_fillAll_J62 (kb : Int32 → St → Option (Unit × St)) (o0 : Nat) (x1 : Int32) (o2 : Nat) (x3 : Int32) (σ : St) : Option (Unit × St) :=
  lt (x3 + 1) fun v5 =>
  kb v5 σ
def M1_fillAll_L2 (o0 : Nat) (x1 : Int32) (o2 : Nat) (kx : St → Option (Unit × St)) : Nat → Int32 → St → Option (Unit × St)
  | 0, _, _ => none
  | n + 1, x3, σ =>
    if (σ o2 2) ≤ x3 then
      kx σ
    else
      bd (M4_cell o2 x3 1 σ) fun r2 σ2 =>
      bd (M4_cell o2 x3 0 σ2) fun r3 σ3 =>
      if r3 = x1 then
        if (σ3 o0 9) ≤ r2 then
          M1_fillAll_J62 (fun x3 σ => M1_fillAll_L2 o0 x1 o2 kx n x3 σ) o0 x1 o2 x3 σ3
        else
          if inb r2 8 then
          if (σ3 (o0 + 1 + 9 + r2.toNatClampNeg) 4) = ((-1)) then
            M1_fillAll_J62 (fun x3 σ => M1_fillAll_L2 o0 x1 o2 kx n x3 σ) o0 x1 o2 x3 σ3
          else
            lt (s2 σ3 (o0 + 1 + 9 + r2.toNatClampNeg) 7 1) fun σ10 =>
            M1_fillAll_J62 (fun x3 σ => M1_fillAll_L2 o0 x1 o2 kx n x3 σ) o0 x1 o2 x3 σ10
          else none
      else
        M1_fillAll_J62 (fun x3 σ => M1_fillAll_L2 o0 x1 o2 kx n x3 σ) o0 x1 o2 x3 σ3
def M1_fillAll (o0 : Nat) (x1 : Int32) (o2 : Nat) (σ : St) : Option (Unit × St) :=
  M1_fillAll_L2 o0 x1 o2 (fun (σ11 : St) =>
    some ((), σ11)) FU 0 σ
def M2_lendBy (o0 : Nat) (x1 : Int32) (σ : St) : Option (Unit × St) :=
  lt (s2 σ o0 4 x1) fun σ1 =>
  lt (s2 σ1 o0 5 0) fun σ2 =>
  lt (s2 σ2 o0 6 ((σ2 o0 1) * (σ2 o0 2))) fun σ3 =>
  some ((), σ3)
def M1_lendAll_J69 (kb : Int32 → St → Option (Unit × St)) (o0 : Nat) (x1 : Int32) (o2 : Nat) (x3 : Int32) (σ : St) : Option (Unit × St) :=
  lt (x3 + 1) fun v5 =>
  kb v5 σ
def M1_lendAll_L2 (o0 : Nat) (x1 : Int32) (o2 : Nat) (kx : St → Option (Unit × St)) : Nat → Int32 → St → Option (Unit × St)
  | 0, _, _ => none
  | n + 1, x3, σ =>
    if (σ o2 2) ≤ x3 then
      kx σ
    else
      bd (M4_cell o2 x3 1 σ) fun r2 σ2 =>
      bd (M4_cell o2 x3 0 σ2) fun r3 σ3 =>
      if r3 = x1 then
        if (σ3 o0 9) ≤ r2 then
          M1_lendAll_J69 (fun x3 σ => M1_lendAll_L2 o0 x1 o2 kx n x3 σ) o0 x1 o2 x3 σ3
        else
          if inb r2 8 then
          if (σ3 (o0 + 1 + 9 + r2.toNatClampNeg) 4) = ((-1)) then
            bd (M2_lendBy (o0 + 1 + 9 + r2.toNatClampNeg) x3 σ3) fun r10 σ10 =>
            if inb x3 52 then
            lt (s2 σ10 (o0 + 7) x3.toNatClampNeg 1) fun σ12 =>
            M1_lendAll_J69 (fun x3 σ => M1_lendAll_L2 o0 x1 o2 kx n x3 σ) o0 x1 o2 x3 σ12
            else none
          else
            M1_lendAll_J69 (fun x3 σ => M1_lendAll_L2 o0 x1 o2 kx n x3 σ) o0 x1 o2 x3 σ3
          else none
      else
        M1_lendAll_J69 (fun x3 σ => M1_lendAll_L2 o0 x1 o2 kx n x3 σ) o0 x1 o2 x3 σ3
def M1_lendAll (o0 : Nat) (x1 : Int32) (o2 : Nat) (σ : St) : Option (Unit × St) :=
  M1_lendAll_L2 o0 x1 o2 (fun (σ13 : St) =>
    some ((), σ13)) FU 0 σ
def M1_note (o0 : Nat) (x1 : Int32) (x2 : Int32) (σ : St) : Option (Unit × St) :=
  lt ((x1 * 8) + x2) fun v1 =>
  if inb x2 8 then
  if inb v1 320 then
  lt (s2 σ (o0 + 2) v1.toNatClampNeg (σ (o0 + 1 + 9 + x2.toNatClampNeg) 1)) fun σ4 =>
  lt (s2 σ4 (o0 + 3) v1.toNatClampNeg (σ4 (o0 + 1 + 9 + x2.toNatClampNeg) 2)) fun σ7 =>
  lt (s2 σ7 (o0 + 4) v1.toNatClampNeg (σ7 (o0 + 1 + 9 + x2.toNatClampNeg) 4)) fun σ10 =>
  some ((), σ10)
  else none
  else none
def M2_passDayOut_J84 (o0 : Nat) (σ : St) : Option (Unit × St) :=
  if (σ o0 0) = 1 then
    if (σ o0 2) ≤ 1 then
      some ((), σ)
    else
      lt (s2 σ o0 2 ((σ o0 2) - 1)) fun σ9 =>
      some ((), σ9)
  else
    some ((), σ)
def M2_passDayOut_J57 (o0 : Nat) (σ : St) : Option (Unit × St) :=
  if (σ o0 0) = 2 then
    if 9 ≤ (σ o0 2) then
      M2_passDayOut_J84 o0 σ
    else
      lt (s2 σ o0 2 ((σ o0 2) + 1)) fun σ11 =>
      M2_passDayOut_J84 o0 σ11
  else
    M2_passDayOut_J84 o0 σ
def M2_passDayOut (o0 : Nat) (σ : St) : Option (Unit × St) :=
  lt (s2 σ o0 5 ((σ o0 5) + 1)) fun σ1 =>
  if (σ1 o0 3) = 0 then
    some ((), σ1)
  else
    if ¬ (σ1 o0 3) = 0 then
    if ((σ1 o0 5) - (σ1 o0 5) / (σ1 o0 3) * (σ1 o0 3)) = 0 then
      if (σ1 o0 0) = 2 then
        M2_passDayOut_J57 o0 σ1
      else
        if 9 ≤ (σ1 o0 1) then
          M2_passDayOut_J57 o0 σ1
        else
          lt (s2 σ1 o0 1 ((σ1 o0 1) + 1)) fun σ13 =>
          M2_passDayOut_J57 o0 σ13
    else
      some ((), σ1)
    else none
def M1_passDayOut (o0 : Nat) (x1 : Int32) (o2 : Nat) (o3 : Nat) (σ : St) : Option (Unit × St) :=
  bd (M2_passDayOut o2 σ) fun r1 σ1 =>
  lt (σ1 o2 4) fun v2 =>
  bd (M4_cell o3 v2 3 σ1) fun r3 σ3 =>
  if r3 ≤ (σ1 o2 5) then
    if inb v2 52 then
    lt (s2 σ3 (o0 + 9) v2.toNatClampNeg (((σ3 o2 1) * (σ3 o2 2)) - (σ3 o2 6))) fun σ6 =>
    if (σ6 o2 7) = 0 then
      lt (s2 σ6 o2 4 ((-1))) fun σ8 =>
      some ((), σ8)
    else
      lt (s2 σ6 (o0 + 8) v2.toNatClampNeg x1) fun σ10 =>
      lt (s2 σ10 o2 7 0) fun σ11 =>
      lt (s2 σ11 o2 4 ((-1))) fun σ12 =>
      some ((), σ12)
    else none
  else
    some ((), σ3)
def M1_patchAll_J77 (kb : Int32 → St → Option (Unit × St)) (o0 : Nat) (x1 : Int32) (o2 : Nat) (x3 : Int32) (σ : St) : Option (Unit × St) :=
  lt (x3 + 1) fun v5 =>
  kb v5 σ
def M1_patchAll_L2 (o0 : Nat) (x1 : Int32) (o2 : Nat) (kx : St → Option (Unit × St)) : Nat → Int32 → St → Option (Unit × St)
  | 0, _, _ => none
  | n + 1, x3, σ =>
    if (σ o2 2) ≤ x3 then
      kx σ
    else
      bd (M4_cell o2 x3 1 σ) fun r2 σ2 =>
      bd (M4_cell o2 x3 0 σ2) fun r3 σ3 =>
      if r3 = x1 then
        if (σ3 o0 9) ≤ r2 then
          M1_patchAll_J77 (fun x3 σ => M1_patchAll_L2 o0 x1 o2 kx n x3 σ) o0 x1 o2 x3 σ3
        else
          if inb r2 8 then
          if (σ3 (o0 + 1 + 9 + r2.toNatClampNeg) 4) = ((-1)) then
            lt (s2 σ3 (o0 + 1 + 9 + r2.toNatClampNeg) 1 (if 1 < ((σ3 (o0 + 1 + 9 + r2.toNatClampNeg) 1) - 1) then (σ3 (o0 + 1 + 9 + r2.toNatClampNeg) 1) - 1 else 1)) fun σ11 =>
            M1_patchAll_J77 (fun x3 σ => M1_patchAll_L2 o0 x1 o2 kx n x3 σ) o0 x1 o2 x3 σ11
          else
            M1_patchAll_J77 (fun x3 σ => M1_patchAll_L2 o0 x1 o2 kx n x3 σ) o0 x1 o2 x3 σ3
          else none
      else
        M1_patchAll_J77 (fun x3 σ => M1_patchAll_L2 o0 x1 o2 kx n x3 σ) o0 x1 o2 x3 σ3
def M1_patchAll (o0 : Nat) (x1 : Int32) (o2 : Nat) (σ : St) : Option (Unit × St) :=
  M1_patchAll_L2 o0 x1 o2 (fun (σ12 : St) =>
    some ((), σ12)) FU 0 σ
def M6_figure (o0 : Nat) (x1 : Int32) (x2 : Int32) (σ : St) : Option (Int32 × St) :=
  if inb ((x1 * 4) + x2) 32 then
  some (σ (o0 + 2) ((x1 * 4) + x2).toNatClampNeg, σ)
  else none
def M2_begin (o0 : Nat) (o1 : Nat) (x2 : Int32) (σ : St) : Option (Unit × St) :=
  bd (M6_figure o1 x2 0 σ) fun r1 σ1 =>
  lt (s2 σ1 o0 0 r1) fun σ2 =>
  bd (M6_figure o1 x2 1 σ2) fun r3 σ3 =>
  lt (s2 σ3 o0 1 r3) fun σ4 =>
  bd (M6_figure o1 x2 2 σ4) fun r5 σ5 =>
  lt (s2 σ5 o0 2 r5) fun σ6 =>
  bd (M6_figure o1 x2 3 σ6) fun r7 σ7 =>
  lt (s2 σ7 o0 3 r7) fun σ8 =>
  lt (s2 σ8 o0 4 ((-1))) fun σ9 =>
  lt (s2 σ9 o0 5 0) fun σ10 =>
  lt (s2 σ10 o0 6 0) fun σ11 =>
  lt (s2 σ11 o0 7 0) fun σ12 =>
  some ((), σ12)
def M1_follow_J163 (kb : Int32 → St → Option (Unit × St)) (o0 : Nat) (o2 : Nat) (x3 : Int32) (x4 : Int32) (x5 : Int32) (σ : St) : Option (Unit × St) :=
  bd (M1_note o0 x4 x5 σ) fun r21 σ21 =>
  lt (x5 + 1) fun v22 =>
  kb v22 σ21
def M1_follow_L123 (o0 : Nat) (o2 : Nat) (x3 : Int32) (x4 : Int32) (kx : St → Option (Unit × St)) : Nat → Int32 → St → Option (Unit × St)
  | 0, _, _ => none
  | n + 1, x5, σ =>
    if (σ o0 9) ≤ x5 then
      kx σ
    else
      if inb x5 8 then
      if (σ (o0 + 1 + 9 + x5.toNatClampNeg) 4) = ((-1)) then
        M1_follow_J163 (fun x5 σ => M1_follow_L123 o0 o2 x3 x4 kx n x5 σ) o0 o2 x3 x4 x5 σ
      else
        bd (M1_passDayOut o0 x4 (o0 + 1 + 9 + x5.toNatClampNeg) (o2 + 1) σ) fun r24 σ24 =>
        M1_follow_J163 (fun x5 σ => M1_follow_L123 o0 o2 x3 x4 kx n x5 σ) o0 o2 x3 x4 x5 σ24
      else none
def M1_follow_L66 (o0 : Nat) (o2 : Nat) (x3 : Int32) (kx : St → Option (Unit × St)) : Nat → Int32 → St → Option (Unit × St)
  | 0, _, _ => none
  | n + 1, x4, σ =>
    if x3 < x4 then
      kx σ
    else
      if 40 ≤ x4 then
        kx σ
      else
        bd (M1_lendAll o0 x4 (o2 + 1) σ) fun r12 σ12 =>
        bd (M1_fillAll o0 x4 (o2 + 3) σ12) fun r13 σ13 =>
        bd (M1_patchAll o0 x4 (o2 + 5) σ13) fun r14 σ14 =>
        bd (M1_bitsAtBank o0 σ14) fun r15 σ15 =>
        if inb x4 40 then
        lt (s2 σ15 (o0 + 5) x4.toNatClampNeg r15) fun σ17 =>
        M1_follow_L123 o0 o2 x3 x4 (fun (σ25 : St) =>
          bd (M1_bitsFilled o0 σ25) fun r26 σ26 =>
          lt (s2 σ26 (o0 + 6) x4.toNatClampNeg r26) fun σ28 =>
          lt (x4 + 1) fun v29 =>
          M1_follow_L66 o0 o2 x3 kx n v29 σ28) FU 0 σ17
        else none
def M1_follow_L11 (o0 : Nat) (o1 : Nat) (o2 : Nat) (x3 : Int32) (kx : St → Option (Unit × St)) : Nat → Int32 → St → Option (Unit × St)
  | 0, _, _ => none
  | n + 1, x4, σ =>
    if (σ o0 9) ≤ x4 then
      kx σ
    else
      if inb x4 8 then
      bd (M2_begin (o0 + 1 + 9 + x4.toNatClampNeg) o1 x4 σ) fun r4 σ4 =>
      lt (x4 + 1) fun v5 =>
      M1_follow_L11 o0 o1 o2 x3 kx n v5 σ4
      else none
def M1_follow (o0 : Nat) (o1 : Nat) (o2 : Nat) (x3 : Int32) (σ : St) : Option (Unit × St) :=
  lt (s2 σ o0 9 (σ o1 7)) fun σ1 =>
  M1_follow_L11 o0 o1 o2 x3 (fun (σ6 : St) =>
    bd (MJ7_fill_53178 (o0 + 7) 0 σ6) fun r7 σ7 =>
    bd (MJ7_fill_53178 (o0 + 8) ((-1)) σ7) fun r8 σ8 =>
    bd (MJ7_fill_53178 (o0 + 9) 0 σ8) fun r9 σ9 =>
    M1_follow_L66 o0 o2 x3 (fun (σ30 : St) =>
      some ((), σ30)) FU 0 σ9) FU 0 σ1
def M1_loanBehind (o0 : Nat) (x1 : Int32) (x2 : Int32) (σ : St) : Option (Int32 × St) :=
  if inb ((x1 * 8) + x2) 320 then
  some (σ (o0 + 4) ((x1 * 8) + x2).toNatClampNeg, σ)
  else none
def M1_isOutBy (o0 : Nat) (x1 : Int32) (x2 : Int32) (x3 : Int32) (σ : St) : Option (Int32 × St) :=
  if (σ o0 9) ≤ x2 then
    some (0, σ)
  else
    bd (M1_loanBehind o0 x1 x2 σ) fun r2 σ2 =>
    some (if r2 = x3 then 1 else 0, σ2)
def M1_wideBehind (o0 : Nat) (x1 : Int32) (x2 : Int32) (σ : St) : Option (Int32 × St) :=
  if inb ((x1 * 8) + x2) 320 then
  some (σ (o0 + 2) ((x1 * 8) + x2).toNatClampNeg, σ)
  else none
def M1_sightOf (o0 : Nat) (x1 : Int32) (x2 : Int32) (σ : St) : Option (Int32 × St) :=
  bd (M1_loanBehind o0 x1 x2 σ) fun r1 σ1 =>
  if r1 = ((-1)) then
    bd (M1_wideBehind o0 x1 x2 σ1) fun r3 σ3 =>
    some (r3, σ3)
  else
    some (0, σ1)
def M1_vaultBehind_J38 (kb : Int32 → Int32 → St → Option (Int32 × St)) (o0 : Nat) (x1 : Int32) (x2 : Int32) (x3 : Int32) (σ : St) : Option (Int32 × St) :=
  lt (x3 + 1) fun v4 =>
  kb x2 v4 σ
def M1_vaultBehind_L4 (o0 : Nat) (x1 : Int32) (kx : Int32 → St → Option (Int32 × St)) : Nat → Int32 → Int32 → St → Option (Int32 × St)
  | 0, _, _, _ => none
  | n + 1, x2, x3, σ =>
    if (σ o0 9) ≤ x3 then
      kx x2 σ
    else
      bd (M1_loanBehind o0 x1 x3 σ) fun r2 σ2 =>
      if r2 = ((-1)) then
        bd (M1_wideBehind o0 x1 x3 σ2) fun r5 σ5 =>
        bd (M1_deepBehind o0 x1 x3 σ5) fun r6 σ6 =>
        lt (x2 + (r5 * r6)) fun v7 =>
        M1_vaultBehind_J38 (fun x2 x3 σ => M1_vaultBehind_L4 o0 x1 kx n x2 x3 σ) o0 x1 v7 x3 σ6
      else
        M1_vaultBehind_J38 (fun x2 x3 σ => M1_vaultBehind_L4 o0 x1 kx n x2 x3 σ) o0 x1 x2 x3 σ2
def M1_vaultBehind (o0 : Nat) (x1 : Int32) (σ : St) : Option (Int32 × St) :=
  M1_vaultBehind_L4 o0 x1 (fun (v8 : Int32) (σ9 : St) =>
    some (v8, σ9)) FU 0 0 σ
def M3_begin (o0 : Nat) (x1 : Int32) (σ : St) : Option (Unit × St) :=
  lt (s2 σ o0 3 x1) fun σ1 =>
  some ((), σ1)
def M3_leastHole_J75 (kb : Int32 → St → Option (Int32 × St)) (o0 : Nat) (x1 : Int32) (x2 : Int32) (x3 : Int32) (x4 : Int32) (σ : St) : Option (Int32 × St) :=
  lt (x4 + 1) fun v5 =>
  kb v5 σ
def M3_leastHole_L14 (o0 : Nat) (x1 : Int32) (x2 : Int32) (x3 : Int32) (kx : St → Option (Int32 × St)) : Nat → Int32 → St → Option (Int32 × St)
  | 0, _, _ => none
  | n + 1, x4, σ =>
    if 8 ≤ x4 then
      kx σ
    else
      if ((x3 >>> (x4 &&& 31)) &&& 1) = 1 then
        if inb x1 8 then
        if inb (((x1 + 1) * 256) + (x2 ||| ((1 : Int32) <<< (x4 &&& 31)))) 2304 then
        if inb ((x1 * 256) + x2) 2304 then
        if ((σ (o0 + 1) x1.toNatClampNeg) + (σ (o0 + 3) (((x1 + 1) * 256) + (x2 ||| ((1 : Int32) <<< (x4 &&& 31)))).toNatClampNeg)) = (σ (o0 + 3) ((x1 * 256) + x2).toNatClampNeg) then
          some (x4, σ)
        else
          M3_leastHole_J75 (fun x4 σ => M3_leastHole_L14 o0 x1 x2 x3 kx n x4 σ) o0 x1 x2 x3 x4 σ
        else none
        else none
        else none
      else
        M3_leastHole_J75 (fun x4 σ => M3_leastHole_L14 o0 x1 x2 x3 kx n x4 σ) o0 x1 x2 x3 x4 σ
def M3_leastHole (o0 : Nat) (x1 : Int32) (x2 : Int32) (σ : St) : Option (Int32 × St) :=
  if inb x1 8 then
  lt ((σ (o0 + 2) x1.toNatClampNeg) &&& (x2 ^^^ ((-1)))) fun v2 =>
  M3_leastHole_L14 o0 x1 x2 v2 (fun (σ10 : St) =>
    some ((-1), σ10)) FU 0 σ
  else none
def M3_holeFor_J41 (kb : Int32 → Int32 → St → Option (Int32 × St)) (o0 : Nat) (x1 : Int32) (x2 : Int32) (x3 : Int32) (σ : St) : Option (Int32 × St) :=
  lt (x3 + 1) fun v5 =>
  kb x2 v5 σ
def M3_holeFor_L4 (o0 : Nat) (x1 : Int32) (kx : St → Option (Int32 × St)) : Nat → Int32 → Int32 → St → Option (Int32 × St)
  | 0, _, _, _ => none
  | n + 1, x2, x3, σ =>
    if (σ o0 3) ≤ x3 then
      kx σ
    else
      bd (M3_leastHole o0 x3 x2 σ) fun r2 σ2 =>
      if x3 = x1 then
        some (r2, σ2)
      else
        if r2 = ((-1)) then
          M3_holeFor_J41 (fun x2 x3 σ => M3_holeFor_L4 o0 x1 kx n x2 x3 σ) o0 x1 x2 x3 σ2
        else
          lt (x2 ||| ((1 : Int32) <<< (r2 &&& 31))) fun v6 =>
          M3_holeFor_J41 (fun x2 x3 σ => M3_holeFor_L4 o0 x1 kx n x2 x3 σ) o0 x1 v6 x3 σ2
def M3_holeFor (o0 : Nat) (x1 : Int32) (σ : St) : Option (Int32 × St) :=
  M3_holeFor_L4 o0 x1 (fun (σ7 : St) =>
    some ((-1), σ7)) FU 0 0 σ
def M3_mostFrom_J87 (kb : Int32 → Int32 → St → Option (Int32 × St)) (o0 : Nat) (x1 : Int32) (x2 : Int32) (x3 : Int32) (x4 : Int32) (x5 : Int32) (σ : St) : Option (Int32 × St) :=
  lt (x5 + 1) fun v8 =>
  kb x3 v8 σ
def M3_mostFrom_L30 (o0 : Nat) (x1 : Int32) (x2 : Int32) (x4 : Int32) (kx : Int32 → St → Option (Int32 × St)) : Nat → Int32 → Int32 → St → Option (Int32 × St)
  | 0, _, _, _ => none
  | n + 1, x3, x5, σ =>
    if 8 ≤ x5 then
      kx x3 σ
    else
      if (x4 >>> (x5 &&& 31)) = 0 then
        kx x3 σ
      else
        if ((x4 >>> (x5 &&& 31)) &&& 1) = 1 then
          if inb x1 8 then
          if inb (((x1 + 1) * 256) + (x2 ||| ((1 : Int32) <<< (x5 &&& 31)))) 2304 then
          lt (if x3 < ((σ (o0 + 1) x1.toNatClampNeg) + (σ (o0 + 3) (((x1 + 1) * 256) + (x2 ||| ((1 : Int32) <<< (x5 &&& 31)))).toNatClampNeg)) then (σ (o0 + 1) x1.toNatClampNeg) + (σ (o0 + 3) (((x1 + 1) * 256) + (x2 ||| ((1 : Int32) <<< (x5 &&& 31)))).toNatClampNeg) else x3) fun v11 =>
          M3_mostFrom_J87 (fun x3 x5 σ => M3_mostFrom_L30 o0 x1 x2 x4 kx n x3 x5 σ) o0 x1 x2 v11 x4 x5 σ
          else none
          else none
        else
          M3_mostFrom_J87 (fun x3 x5 σ => M3_mostFrom_L30 o0 x1 x2 x4 kx n x3 x5 σ) o0 x1 x2 x3 x4 x5 σ
def M3_mostFrom (o0 : Nat) (x1 : Int32) (x2 : Int32) (σ : St) : Option (Int32 × St) :=
  if inb (((x1 + 1) * 256) + x2) 2304 then
  lt (σ (o0 + 3) (((x1 + 1) * 256) + x2).toNatClampNeg) fun v2 =>
  if inb x1 8 then
  lt ((σ (o0 + 2) x1.toNatClampNeg) &&& (x2 ^^^ ((-1)))) fun v4 =>
  M3_mostFrom_L30 o0 x1 x2 v4 (fun (v12 : Int32) (σ13 : St) =>
    some (v12, σ13)) FU v2 0 σ
  else none
  else none
def M3_set (o0 : Nat) (x1 : Int32) (x2 : Int32) (x3 : Int32) (σ : St) : Option (Unit × St) :=
  if inb x1 8 then
  lt (s2 σ (o0 + 1) x1.toNatClampNeg x2) fun σ2 =>
  lt (s2 σ2 (o0 + 2) x1.toNatClampNeg x3) fun σ4 =>
  some ((), σ4)
  else none
def M3_solve_L85 (o0 : Nat) (x1 : Int32) (x2 : Int32) (kx : St → Option (Int32 × St)) : Nat → Int32 → St → Option (Int32 × St)
  | 0, _, _ => none
  | n + 1, x3, σ =>
    if x3 ≤ 0 then
      kx σ
    else
      bd (M3_mostFrom o0 x2 x3 σ) fun r17 σ17 =>
      if inb ((x2 * 256) + x3) 2304 then
      lt (s2 σ17 (o0 + 3) ((x2 * 256) + x3).toNatClampNeg r17) fun σ19 =>
      lt ((x3 - 1) &&& x1) fun v20 =>
      M3_solve_L85 o0 x1 x2 kx n v20 σ19
      else none
def M3_solve_L79 (o0 : Nat) (x1 : Int32) (kx : St → Option (Int32 × St)) : Nat → Int32 → St → Option (Int32 × St)
  | 0, _, _ => none
  | n + 1, x2, σ =>
    if x2 < 0 then
      kx σ
    else
      M3_solve_L85 o0 x1 x2 (fun (σ21 : St) =>
        bd (M3_mostFrom o0 x2 0 σ21) fun r22 σ22 =>
        if inb (x2 * 256) 2304 then
        lt (s2 σ22 (o0 + 3) (x2 * 256).toNatClampNeg r22) fun σ24 =>
        lt (x2 + (-1)) fun v25 =>
        M3_solve_L79 o0 x1 kx n v25 σ24
        else none) FU x1 σ
def M3_solve_L29 (o0 : Nat) (x1 : Int32) (kx : St → Option (Int32 × St)) : Nat → Int32 → St → Option (Int32 × St)
  | 0, _, _ => none
  | n + 1, x2, σ =>
    if x2 ≤ 0 then
      kx σ
    else
      if inb (((σ o0 3) * 256) + x2) 2304 then
      lt (s2 σ (o0 + 3) (((σ o0 3) * 256) + x2).toNatClampNeg 0) fun σ9 =>
      lt ((x2 - 1) &&& x1) fun v10 =>
      M3_solve_L29 o0 x1 kx n v10 σ9
      else none
def M3_solve_L4 (o0 : Nat) (kx : Int32 → St → Option (Int32 × St)) : Nat → Int32 → Int32 → St → Option (Int32 × St)
  | 0, _, _, _ => none
  | n + 1, x1, x2, σ =>
    if (σ o0 3) ≤ x2 then
      kx x1 σ
    else
      if inb x2 8 then
      lt (x1 ||| (σ (o0 + 2) x2.toNatClampNeg)) fun v3 =>
      lt (x2 + 1) fun v4 =>
      M3_solve_L4 o0 kx n v3 v4 σ
      else none
def M3_solve (o0 : Nat) (σ : St) : Option (Int32 × St) :=
  M3_solve_L4 o0 (fun (v5 : Int32) (σ6 : St) =>
    M3_solve_L29 o0 v5 (fun (σ11 : St) =>
      if inb ((σ11 o0 3) * 256) 2304 then
      lt (s2 σ11 (o0 + 3) ((σ11 o0 3) * 256).toNatClampNeg 0) fun σ13 =>
      lt ((σ13 o0 3) - 1) fun v14 =>
      M3_solve_L79 o0 v5 (fun (σ26 : St) =>
        some (σ26 (o0 + 3) 0, σ26)) FU v14 σ13
      else none) FU v5 σ6) FU 0 0 σ
def M4_add (o0 : Nat) (x1 : Int32) (x2 : Int32) (x3 : Int32) (x4 : Int32) (σ : St) : Option (Int32 × St) :=
  if (σ o0 0) ≤ (σ o0 2) then
    some (σ o0 2, σ)
  else
    lt ((σ o0 2) * 4) fun v2 =>
    if inb v2 (ln (o0 + 1)) then
    lt (s2 σ (o0 + 1) v2.toNatClampNeg x1) fun σ4 =>
    if inb (v2 + 1) (ln (o0 + 1)) then
    lt (s2 σ4 (o0 + 1) (v2 + 1).toNatClampNeg x2) fun σ6 =>
    if inb (v2 + 2) (ln (o0 + 1)) then
    lt (s2 σ6 (o0 + 1) (v2 + 2).toNatClampNeg x3) fun σ8 =>
    if inb (v2 + 3) (ln (o0 + 1)) then
    lt (s2 σ8 (o0 + 1) (v2 + 3).toNatClampNeg x4) fun σ10 =>
    lt (s2 σ10 o0 2 ((σ10 o0 2) + 1)) fun σ11 =>
    some (σ11 o0 2, σ11)
    else none
    else none
    else none
    else none
def M4_clear (o0 : Nat) (σ : St) : Option (Unit × St) :=
  lt (s2 σ o0 2 0) fun σ1 =>
  some ((), σ1)
def M7_isBelow (x0 : Int32) (x1 : Int32) (σ : St) : Option (Int32 × St) :=
  some (if x0 < 0 then 0 else if x1 ≤ x0 then 0 else 1, σ)
def M4_drop (o0 : Nat) (x1 : Int32) (σ : St) : Option (Int32 × St) :=
  bd (M7_isBelow x1 (σ o0 2) σ) fun r1 σ1 =>
  if r1 = 0 then
    some (σ1 o0 2, σ1)
  else
    lt ((x1 + 1) * 4) fun v3 =>
    if cpk v3 (v3 - 4) (((σ1 o0 2) * 4) - v3) (ln (o0 + 1)) (ln (o0 + 1)) then
    lt (s1 σ1 (o0 + 1) (va_cpy (σ1 (o0 + 1)) (σ1 (o0 + 1)) v3.toNatClampNeg (v3 - 4).toNatClampNeg (((σ1 o0 2) * 4) - v3).toNatClampNeg)) fun σ5 =>
    lt (s2 σ5 o0 2 ((σ5 o0 2) - 1)) fun σ6 =>
    some (σ6 o0 2, σ6)
    else none
def M4_isFull (o0 : Nat) (σ : St) : Option (Int32 × St) :=
  some (if (σ o0 2) < (σ o0 0) then 0 else 1, σ)
def M5_begin (o0 : Nat) (x1 : Int32) (x2 : Int32) (σ : St) : Option (Unit × St) :=
  lt (s2 σ o0 1 0) fun σ1 =>
  lt (s2 σ1 o0 2 x1) fun σ2 =>
  lt (s2 σ2 o0 3 x2) fun σ3 =>
  bd (MJ7_fill_53178 (o0 + 1) 0 σ3) fun r4 σ4 =>
  some ((), σ4)
def M5_hasRange (o0 : Nat) (x1 : Int32) (x2 : Int32) (σ : St) : Option (Int32 × St) :=
  some (if x1 < 0 then 0 else if x2 < 0 then 0 else if (σ o0 3) < x1 then 0 else if ((σ o0 3) - x1) < x2 then 0 else 1, σ)
def M5_item (o0 : Nat) (x1 : Int32) (σ : St) : Option (Int32 × St) :=
  if inb x1 60 then
  some (σ (o0 + 1) x1.toNatClampNeg, σ)
  else none
def M5_put (o0 : Nat) (x1 : Int32) (x2 : Int32) (σ : St) : Option (Unit × St) :=
  if (σ o0 2) = 0 then
    if inb x1 60 then
    lt (s2 σ (o0 + 1) x1.toNatClampNeg x2.toInt8.toInt32) fun σ8 =>
    some ((), σ8)
    else none
  else
    if (σ o0 2) = 1 then
      if inb x1 60 then
      lt (s2 σ (o0 + 1) x1.toNatClampNeg x2.toInt16.toInt32) fun σ6 =>
      some ((), σ6)
      else none
    else
      if inb x1 60 then
      lt (s2 σ (o0 + 1) x1.toNatClampNeg x2) fun σ4 =>
      some ((), σ4)
      else none
def M5_refusal (o0 : Nat) (x1 : Int32) (x2 : Int32) (σ : St) : Option (Int32 × St) :=
  if (σ o0 1) = 0 then
    if (σ o0 2) = x1 then
      bd (M7_isBelow x2 (σ o0 3) σ) fun r3 σ3 =>
      some (if r3 = 0 then 2 else 0, σ3)
    else
      some (3, σ)
  else
    some (1, σ)
def M6_isFigureFrom (x0 : Int32) (x1 : Int32) (σ : St) : Option (Int32 × St) :=
  some (if x1 < (48 + x0) then 0 else if 57 < x1 then 0 else 1, σ)
def M6_goesOnAt (o0 : Nat) (x1 : Int32) (σ : St) : Option (Int32 × St) :=
  if inb x1 39 then
  lt (σ (o0 + 1) x1.toNatClampNeg) fun v2 =>
  if (x1 - x1 / 5 * 5) = 0 then
    bd (MJ0_indexOf_0f7a4 (98 + (o0 - 26) / 3) ((v2.toUInt32 % 65536).toInt32) σ) fun r4 σ4 =>
    some (if r4 < 0 then 0 else 1, σ4)
  else if (x1 - x1 / 5 * 5) = 1 then
    bd (M6_isFigureFrom 1 v2 σ) fun r6 σ6 =>
    if r6 = 0 ∨ r6 = 1 then some (r6, σ6) else none
  else if (x1 - x1 / 5 * 5) = 2 then
    bd (M6_isFigureFrom (σ o0 1) v2 σ) fun r8 σ8 =>
    if r8 = 0 ∨ r8 = 1 then some (r8, σ8) else none
  else if (x1 - x1 / 5 * 5) = 3 then
    bd (M6_isFigureFrom (σ o0 2) v2 σ) fun r10 σ10 =>
    if r10 = 0 ∨ r10 = 1 then some (r10, σ10) else none
  else some (if v2 = 59 then 1 else 0, σ)
  else none
def M6_firstFault_J43 (σ : St) : Option (Int32 × St) :=
  some ((-1), σ)
def M6_firstFault_L2 (o0 : Nat) (kx : St → Option (Int32 × St)) : Nat → Int32 → St → Option (Int32 × St)
  | 0, _, _ => none
  | n + 1, x1, σ =>
    if (σ o0 5) ≤ x1 then
      kx σ
    else
      bd (M6_goesOnAt o0 x1 σ) fun r2 σ2 =>
      if r2 = 0 then
        some (x1, σ2)
      else
        lt (x1 + 1) fun v4 =>
        M6_firstFault_L2 o0 kx n v4 σ2
def M6_firstFault (o0 : Nat) (σ : St) : Option (Int32 × St) :=
  M6_firstFault_L2 o0 (fun (σ5 : St) =>
    if (σ5 o0 5) = 0 then
      M6_firstFault_J43 σ5
    else
      if ((σ5 o0 5) - (σ5 o0 5) / 5 * 5) = 4 then
        M6_firstFault_J43 σ5
      else
        some (σ5 o0 5, σ5)) FU 0 σ
def M6_parse_L70 (o0 : Nat) (x1 : Int32) (kx : St → Option (Unit × St)) : Nat → Int32 → St → Option (Unit × St)
  | 0, _, _ => none
  | n + 1, x2, σ =>
    if 4 ≤ x2 then
      kx σ
    else
      if inb ((x1 * 5) + x2) 39 then
      if inb ((x1 * 4) + x2) 32 then
      lt (s2 σ (o0 + 2) ((x1 * 4) + x2).toNatClampNeg ((σ (o0 + 1) ((x1 * 5) + x2).toNatClampNeg) - 48)) fun σ13 =>
      lt (x2 + 1) fun v14 =>
      M6_parse_L70 o0 x1 kx n v14 σ13
      else none
      else none
def M6_parse_L34 (o0 : Nat) (kx : St → Option (Unit × St)) : Nat → Int32 → St → Option (Unit × St)
  | 0, _, _ => none
  | n + 1, x1, σ =>
    if (σ o0 7) ≤ x1 then
      kx σ
    else
      if inb (x1 * 5) 39 then
      bd (MJ0_indexOf_0f7a4 (98 + (o0 - 26) / 3) (((σ (o0 + 1) (x1 * 5).toNatClampNeg).toUInt32 % 65536).toInt32) σ) fun r7 σ7 =>
      if inb ((x1 * 4) + 0) 32 then
      lt (s2 σ7 (o0 + 2) ((x1 * 4) + 0).toNatClampNeg r7) fun σ9 =>
      M6_parse_L70 o0 x1 (fun (σ15 : St) =>
        lt (x1 + 1) fun v16 =>
        M6_parse_L34 o0 kx n v16 σ15) FU 1 σ9
      else none
      else none
def M6_parse_J29 (o0 : Nat) (y0 : Int32) (y1 : Nat) (σ : St) : Option (Unit × St) :=
  lt (s2 σ y1 7 y0) fun σ4 =>
  M6_parse_L34 o0 (fun (σ17 : St) =>
    some ((), σ17)) FU 0 σ4
def M6_parse (o0 : Nat) (σ : St) : Option (Unit × St) :=
  bd (M6_firstFault o0 σ) fun r1 σ1 =>
  lt (s2 σ1 o0 6 r1) fun σ2 =>
  M6_parse_J29 o0 (if (σ2 o0 6) = ((-1)) then ((σ2 o0 5) + 1) / 5 else 0) o0 σ2
def M6_append (o0 : Nat) (x1 : Int32) (σ : St) : Option (Int32 × St) :=
  if 39 ≤ (σ o0 5) then
    some (σ o0 5, σ)
  else
    if inb (σ o0 5) 39 then
    lt (s2 σ (o0 + 1) (σ o0 5).toNatClampNeg x1) fun σ3 =>
    lt (s2 σ3 o0 5 ((σ3 o0 5) + 1)) fun σ4 =>
    bd (M6_parse o0 σ4) fun r5 σ5 =>
    some (σ5 o0 5, σ5)
    else none
def M6_shorten (o0 : Nat) (x1 : Int32) (σ : St) : Option (Unit × St) :=
  lt (s2 σ o0 5 x1) fun σ1 =>
  bd (M6_parse o0 σ1) fun r2 σ2 =>
  some ((), σ2)
def M7_addToAlike_L2 (o1 : Nat) (x2 : Int32) (kx : St → Option (Unit × St)) : Nat → Int32 → St → Option (Unit × St)
  | 0, _, _ => none
  | n + 1, x3, σ =>
    if (σ 26 7) ≤ x3 then
      kx σ
    else
      bd (M1_sightOf o1 x2 x3 σ) fun r2 σ2 =>
      if inb ((x3 * 10) + r2) 80 then
      lt (s2 σ2 88 ((x3 * 10) + r2).toNatClampNeg ((σ2 88 ((x3 * 10) + r2).toNatClampNeg) + 1)) fun σ5 =>
      lt (x3 + 1) fun v6 =>
      M7_addToAlike_L2 o1 x2 kx n v6 σ5
      else none
def M7_addToAlike (o1 : Nat) (x2 : Int32) (σ : St) : Option (Unit × St) :=
  M7_addToAlike_L2 o1 x2 (fun (σ7 : St) =>
    some ((), σ7)) FU 0 σ
def M7_back_J47 (y0 : Nat) (σ : St) : Option (Int32 × St) :=
  if (σ y0 2) = 0 then
    some ((-3), σ)
  else
    lt (s2 σ 25 5 1) fun σ6 =>
    bd (M4_drop y0 ((σ6 y0 2) - 1) σ6) fun r7 σ7 =>
    some (r7, σ7)
def M7_back (x1 : Int32) (σ : St) : Option (Int32 × St) :=
  bd (M7_isBelow x1 3 σ) fun r1 σ1 =>
  if r1 = 0 then
    some ((-2), σ1)
  else
    M7_back_J47 (if x1 = 0 then 33 else if x1 = 1 then 35 else 37) σ1
def M7_toldCourse (σ : St) : Option (Nat × St) :=
  if (σ 25 5) = 0 then
    some (48, σ)
  else
    bd (M1_follow 48 26 32 39 σ) fun r2 σ2 =>
    lt (s2 σ2 25 5 0) fun σ3 =>
    some (48, σ3)
def M7_behind (x1 : Int32) (x2 : Int32) (σ : St) : Option (Int32 × St) :=
  bd (M7_isBelow x1 40 σ) fun r1 σ1 =>
  if r1 = 0 then
    some ((-2), σ1)
  else
    bd (M7_isBelow x2 2 σ1) fun r3 σ3 =>
    if r3 = 0 then
      some ((-2), σ3)
    else
      bd (M7_toldCourse σ3) fun r5 σ5 =>
      if kd r5 = 1 then
      if x2 = 0 then
        bd (M1_vaultBehind r5 x1 σ5) fun r9 σ9 =>
        some (r9, σ9)
      else
        if inb x1 40 then
        some (σ5 (r5 + 6) x1.toNatClampNeg, σ5)
        else none
      else none
def M7_suits_J42 (x1 : Int32) (x3 : Int32) (x4 : Int32) (x6 : Int32) (σ : St) : Option (Int32 × St) :=
  if x3 < x6 then
    some (0, σ)
  else
    if (x6 + (σ 25 11)) < x3 then
      some (0, σ)
    else
      bd (M6_figure 29 x1 2 σ) fun r6 σ6 =>
      some (if x4 < r6 then 0 else 1, σ6)
def M7_suits (x1 : Int32) (x2 : Int32) (x3 : Int32) (x4 : Int32) (σ : St) : Option (Int32 × St) :=
  bd (M6_figure 29 x1 0 σ) fun r1 σ1 =>
  bd (M6_figure 29 x1 1 σ1) fun r2 σ2 =>
  if r1 = 3 then
    M7_suits_J42 x1 x3 x4 r2 σ2
  else
    bd (M6_figure 26 x2 0 σ2) fun r8 σ8 =>
    if r1 = r8 then
      M7_suits_J42 x1 x3 x4 r2 σ8
    else
      some (0, σ8)
def M7_mostWorth_J89 (kb : Int32 → Int32 → St → Option (Int32 × St)) (o1 : Nat) (x2 : Int32) (x3 : Int32) (x4 : Int32) (x5 : Int32) (σ : St) : Option (Int32 × St) :=
  lt (x5 + 1) fun v6 =>
  kb x4 v6 σ
def M7_mostWorth_L33 (o1 : Nat) (x2 : Int32) (x3 : Int32) (kx : Int32 → St → Option (Int32 × St)) : Nat → Int32 → Int32 → St → Option (Int32 × St)
  | 0, _, _, _ => none
  | n + 1, x4, x5, σ =>
    if (σ 26 7) ≤ x5 then
      kx x4 σ
    else
      bd (M1_loanBehind o1 x2 x5 σ) fun r4 σ4 =>
      if r4 = ((-1)) then
        bd (M1_wideBehind o1 x2 x5 σ4) fun r7 σ7 =>
        bd (M1_deepBehind o1 x2 x5 σ7) fun r8 σ8 =>
        bd (M7_suits x3 x5 r7 r8 σ8) fun r9 σ9 =>
        if r9 = 0 then
          M7_mostWorth_J89 (fun x4 x5 σ => M7_mostWorth_L33 o1 x2 x3 kx n x4 x5 σ) o1 x2 x3 x4 x5 σ9
        else
          lt (x4 ||| ((1 : Int32) <<< (x5 &&& 31))) fun v11 =>
          M7_mostWorth_J89 (fun x4 x5 σ => M7_mostWorth_L33 o1 x2 x3 kx n x4 x5 σ) o1 x2 x3 v11 x5 σ9
      else
        M7_mostWorth_J89 (fun x4 x5 σ => M7_mostWorth_L33 o1 x2 x3 kx n x4 x5 σ) o1 x2 x3 x4 x5 σ4
def M7_mostWorth_L16 (o1 : Nat) (x2 : Int32) (kx : St → Option (Int32 × St)) : Nat → Int32 → St → Option (Int32 × St)
  | 0, _, _ => none
  | n + 1, x3, σ =>
    if (σ 29 7) ≤ x3 then
      kx σ
    else
      M7_mostWorth_L33 o1 x2 x3 (fun (v12 : Int32) (σ13 : St) =>
        bd (M6_figure 29 x3 3 σ13) fun r14 σ14 =>
        bd (M3_set 84 x3 r14 v12 σ14) fun r15 σ15 =>
        lt (x3 + 1) fun v16 =>
        M7_mostWorth_L16 o1 x2 kx n v16 σ15) FU 0 0 σ
def M7_mostWorth (o1 : Nat) (x2 : Int32) (σ : St) : Option (Int32 × St) :=
  bd (M3_begin 84 (σ 29 7) σ) fun r1 σ1 =>
  M7_mostWorth_L16 o1 x2 (fun (σ17 : St) =>
    bd (M3_solve 84 σ17) fun r18 σ18 =>
    some (r18, σ18)) FU 0 σ1
def M7_best_J26 (x1 : Int32) (x2 : Int32) (σ : St) : Option (Int32 × St) :=
  bd (M7_toldCourse σ) fun r4 σ4 =>
  if kd r4 = 1 then
  bd (M7_mostWorth r4 x1 σ4) fun r6 σ6 =>
  if x2 = ((-1)) then
    some (r6, σ6)
  else
    bd (M3_holeFor 84 x2 σ6) fun r8 σ8 =>
    some (r8, σ8)
  else none
def M7_best (x1 : Int32) (x2 : Int32) (σ : St) : Option (Int32 × St) :=
  bd (M7_isBelow x1 40 σ) fun r1 σ1 =>
  if r1 = 0 then
    some ((-2), σ1)
  else
    if x2 = ((-1)) then
      M7_best_J26 x1 x2 σ1
    else
      bd (M7_isBelow x2 8 σ1) fun r9 σ9 =>
      if r9 = 0 then
        some ((-2), σ9)
      else
        M7_best_J26 x1 x2 σ9
def M7_breaches_J68 (kb : Int32 → Int32 → St → Option (Int32 × St)) (x1 : Int32) (o2 : Nat) (x3 : Int32) (x4 : Int32) (σ : St) : Option (Int32 × St) :=
  lt (x4 + 1) fun v8 =>
  kb x3 v8 σ
def M7_breaches_L22 (x1 : Int32) (o2 : Nat) (kx : Int32 → St → Option (Int32 × St)) : Nat → Int32 → Int32 → St → Option (Int32 × St)
  | 0, _, _, _ => none
  | n + 1, x3, x4, σ =>
    if (σ 33 2) ≤ x4 then
      kx x3 σ
    else
      if inb x4 52 then
      if (σ (o2 + 8) x4.toNatClampNeg) = ((-1)) then
        M7_breaches_J68 (fun x3 x4 σ => M7_breaches_L22 x1 o2 kx n x3 x4 σ) x1 o2 x3 x4 σ
      else
        bd (M4_cell 33 x4 2 σ) fun r9 σ9 =>
        if r9 = x1 then
          lt (x3 + 1) fun v11 =>
          M7_breaches_J68 (fun x3 x4 σ => M7_breaches_L22 x1 o2 kx n x3 x4 σ) x1 o2 v11 x4 σ9
        else
          M7_breaches_J68 (fun x3 x4 σ => M7_breaches_L22 x1 o2 kx n x3 x4 σ) x1 o2 x3 x4 σ9
      else none
def M7_breaches (x1 : Int32) (σ : St) : Option (Int32 × St) :=
  bd (M7_isBelow x1 6 σ) fun r1 σ1 =>
  if r1 = 0 then
    some ((-2), σ1)
  else
    bd (M7_toldCourse σ1) fun r3 σ3 =>
    if kd r3 = 1 then
    M7_breaches_L22 x1 r3 (fun (v12 : Int32) (σ13 : St) =>
      some (v12, σ13)) FU 0 0 σ3
    else none
def M7_courseWithoutLoan (x1 : Int32) (x2 : Int32) (σ : St) : Option (Nat × St) :=
  bd (M0_takeAll 39 32 σ) fun r1 σ1 =>
  bd (M4_drop 40 x1 σ1) fun r2 σ2 =>
  bd (M1_follow 66 26 39 x2 σ2) fun r3 σ3 =>
  some (66, σ3)
def M7_call_J113 (kb : Int32 → Int32 → Int32 → St → Option (Int32 × St)) (x1 : Int32) (x2 : Int32) (o3 : Nat) (x4 : Int32) (x5 : Int32) (x6 : Int32) (x7 : Int32) (σ : St) : Option (Int32 × St) :=
  lt (x7 + 1) fun v16 =>
  kb x5 x6 v16 σ
def M7_call_L43 (x1 : Int32) (x2 : Int32) (o3 : Nat) (x4 : Int32) (kx : Int32 → Int32 → St → Option (Int32 × St)) : Nat → Int32 → Int32 → Int32 → St → Option (Int32 × St)
  | 0, _, _, _, _ => none
  | n + 1, x5, x6, x7, σ =>
    if (σ 33 2) ≤ x7 then
      kx x5 x6 σ
    else
      bd (M4_cell 33 x7 1 σ) fun r9 σ9 =>
      bd (M1_isOutBy o3 x1 r9 x7 σ9) fun r10 σ10 =>
      if r10 = 0 then
        M7_call_J113 (fun x5 x6 x7 σ => M7_call_L43 x1 x2 o3 x4 kx n x5 x6 x7 σ) x1 x2 o3 x4 x5 x6 x7 σ10
      else
        bd (M7_courseWithoutLoan x7 x1 σ10) fun r12 σ12 =>
        if kd r12 = 1 then
        bd (M7_mostWorth r12 x1 σ12) fun r14 σ14 =>
        M7_call_J113 (fun x5 x6 x7 σ => M7_call_L43 x1 x2 o3 x4 kx n x5 x6 x7 σ) x1 x2 o3 x4 (if r14 ≤ x6 then x5 else x7) (if r14 ≤ x6 then x6 else r14) x7 σ14
        else none
def M7_call (x1 : Int32) (x2 : Int32) (σ : St) : Option (Int32 × St) :=
  bd (M7_isBelow x1 40 σ) fun r1 σ1 =>
  if r1 = 0 then
    some ((-1002), σ1)
  else
    bd (M7_isBelow x2 2 σ1) fun r3 σ3 =>
    if r3 = 0 then
      some ((-1002), σ3)
    else
      bd (M7_toldCourse σ3) fun r5 σ5 =>
      if kd r5 = 1 then
      bd (M7_mostWorth r5 x1 σ5) fun r7 σ7 =>
      M7_call_L43 x1 x2 r5 r7 (fun (v17 : Int32) (v18 : Int32) (σ19 : St) =>
        some (if v17 = ((-1)) then (-1) else if x2 = 0 then v17 else v18 - r7, σ19)) FU ((-1)) ((-1)) 0 σ7
      else none
def M7_came (x1 : Int32) (x2 : Int32) (σ : St) : Option (Int32 × St) :=
  bd (M7_isBelow x1 (σ 33 2) σ) fun r1 σ1 =>
  if r1 = 0 then
    some ((-1002), σ1)
  else
    bd (M7_isBelow x2 3 σ1) fun r3 σ3 =>
    if r3 = 0 then
      some ((-1002), σ3)
    else
      bd (M7_toldCourse σ3) fun r5 σ5 =>
      if kd r5 = 1 then
      if x2 = 0 then
        if inb x1 52 then
        some (σ5 (r5 + 7) x1.toNatClampNeg, σ5)
        else none
      else
        if x2 = 1 then
          if inb x1 52 then
          some (if (σ5 (r5 + 8) x1.toNatClampNeg) = ((-1)) then 0 else 1, σ5)
          else none
        else
          if inb x1 52 then
          some (σ5 (r5 + 9) x1.toNatClampNeg, σ5)
          else none
      else none
def M7_isHole (x1 : Int32) (σ : St) : Option (Int32 × St) :=
  bd (M7_isBelow x1 (σ 26 7) σ) fun r1 σ1 =>
  if r1 = 0 ∨ r1 = 1 then some (r1, σ1) else none
def M7_comesOutAsSeen_L2 (o1 : Nat) (kx : St → Option (Int32 × St)) : Nat → Int32 → St → Option (Int32 × St)
  | 0, _, _ => none
  | n + 1, x2, σ =>
    if (σ 46 2) ≤ x2 then
      kx σ
    else
      bd (M4_cell 46 x2 1 σ) fun r2 σ2 =>
      bd (M7_isHole r2 σ2) fun r3 σ3 =>
      if r3 = 0 then
        some (0, σ3)
      else
        bd (M4_cell 46 x2 0 σ3) fun r5 σ5 =>
        bd (M1_sightOf o1 r5 r2 σ5) fun r6 σ6 =>
        bd (M4_cell 46 x2 2 σ6) fun r7 σ7 =>
        if r6 = r7 then
          lt (x2 + 1) fun v9 =>
          M7_comesOutAsSeen_L2 o1 kx n v9 σ7
        else
          some (0, σ7)
def M7_comesOutAsSeen (o1 : Nat) (σ : St) : Option (Int32 × St) :=
  M7_comesOutAsSeen_L2 o1 (fun (σ10 : St) =>
    some (1, σ10)) FU 0 σ
def M7_found (x1 : Int32) (σ : St) : Option (Int32 × St) :=
  lt (s2 σ 25 12 x1) fun σ1 =>
  some (((-10)) - x1, σ1)
def M7_copy_J99 (σ : St) : Option (Int32 × St) :=
  bd (M7_found 2 σ) fun r13 σ13 =>
  some (r13, σ13)
def M7_copy_J51 (σ : St) : Option (Int32 × St) :=
  bd (M7_found 1 σ) fun r8 σ8 =>
  some (r8, σ8)
def M7_copy (x1 : Int32) (x2 : Int32) (x3 : Int32) (x4 : Int32) (x5 : Int32) (σ : St) : Option (Int32 × St) :=
  bd (M7_isBelow x1 4 σ) fun r1 σ1 =>
  if r1 = 0 then
    some ((-2), σ1)
  else
    bd (M7_isBelow x3 4 σ1) fun r3 σ3 =>
    if r3 = 0 then
      some ((-2), σ3)
    else
      if inb x1 4 then
      if inb x3 4 then
      if (σ3 (89 + 1 + 2 * x1.toNatClampNeg) 1) = 0 then
        if (σ3 (89 + 1 + 2 * x3.toNatClampNeg) 1) = 0 then
          if (σ3 (89 + 1 + 2 * x1.toNatClampNeg) 2) = (σ3 (89 + 1 + 2 * x3.toNatClampNeg) 2) then
            bd (M5_hasRange (89 + 1 + 2 * x1.toNatClampNeg) x2 x5 σ3) fun r11 σ11 =>
            if r11 = 0 then
              M7_copy_J99 σ11
            else
              bd (M5_hasRange (89 + 1 + 2 * x3.toNatClampNeg) x4 x5 σ11) fun r14 σ14 =>
              if r14 = 0 then
                M7_copy_J99 σ14
              else
                if cpk x2 x4 x5 (ln (89 + 1 + 2 * x1.toNatClampNeg + 1)) (ln (89 + 1 + 2 * x3.toNatClampNeg + 1)) then
                lt (s1 σ14 (89 + 1 + 2 * x3.toNatClampNeg + 1) (va_cpy (σ14 (89 + 1 + 2 * x1.toNatClampNeg + 1)) (σ14 (89 + 1 + 2 * x3.toNatClampNeg + 1)) x2.toNatClampNeg x4.toNatClampNeg x5.toNatClampNeg)) fun σ17 =>
                some (1, σ17)
                else none
          else
            bd (M7_found 4 σ3) fun r18 σ18 =>
            some (r18, σ18)
        else
          M7_copy_J51 σ3
      else
        M7_copy_J51 σ3
      else none
      else none
def M7_count (x1 : Int32) (σ : St) : Option (Int32 × St) :=
  if x1 = 0 then
    some (σ 26 7, σ)
  else if x1 = 1 then
    some (σ 29 7, σ)
  else if x1 = 2 then
    some (σ 26 5, σ)
  else if x1 = 3 then
    some (σ 29 5, σ)
  else if x1 = 4 then
    some (σ 33 2, σ)
  else if x1 = 5 then
    bd (M7_toldCourse σ) fun r1 σ1 =>
    if kd r1 = 1 then
    bd (M1_countedFrom r1 0 (σ1 33 2) σ1) fun r3 σ3 =>
    some (r3, σ3)
    else none
  else if x1 = 6 then
    some ((σ 35 2) + (σ 37 2), σ)
  else if x1 = 7 then
    some (σ 46 2, σ)
  else if x1 = 8 then
    some (σ 25 12, σ)
  else some ((-2), σ)
def M7_courseWithoutPatch (x1 : Int32) (x2 : Int32) (σ : St) : Option (Nat × St) :=
  bd (M0_takeAll 39 32 σ) fun r1 σ1 =>
  bd (M4_drop 44 x1 σ1) fun r2 σ2 =>
  bd (M1_follow 66 26 39 x2 σ2) fun r3 σ3 =>
  some (66, σ3)
def M7_greatestAlike_L4 (x1 : Int32) (kx : Int32 → St → Option (Int32 × St)) : Nat → Int32 → Int32 → St → Option (Int32 × St)
  | 0, _, _, _ => none
  | n + 1, x2, x3, σ =>
    if 9 < x3 then
      kx x2 σ
    else
      if inb ((x1 * 10) + x3) 80 then
      lt (if x2 < (σ 88 ((x1 * 10) + x3).toNatClampNeg) then σ 88 ((x1 * 10) + x3).toNatClampNeg else x2) fun v3 =>
      lt (x3 + 1) fun v4 =>
      M7_greatestAlike_L4 x1 kx n v3 v4 σ
      else none
def M7_greatestAlike (x1 : Int32) (σ : St) : Option (Int32 × St) :=
  M7_greatestAlike_L4 x1 (fun (v5 : Int32) (σ6 : St) =>
    some (v5, σ6)) FU 0 0 σ
def M7_lastSightDay_L4 (kx : Int32 → St → Option (Int32 × St)) : Nat → Int32 → Int32 → St → Option (Int32 × St)
  | 0, _, _, _ => none
  | n + 1, x1, x2, σ =>
    if (σ 46 2) ≤ x2 then
      kx x1 σ
    else
      bd (M4_cell 46 x2 0 σ) fun r2 σ2 =>
      lt (if x1 < r2 then r2 else x1) fun v3 =>
      lt (x2 + 1) fun v4 =>
      M7_lastSightDay_L4 kx n v3 v4 σ2
def M7_lastSightDay (σ : St) : Option (Int32 × St) :=
  M7_lastSightDay_L4 (fun (v5 : Int32) (σ6 : St) =>
    some (v5, σ6)) FU 0 0 σ
def M7_look_J118 (kb : Int32 → Int32 → Int32 → St → Option (Int32 × St)) (x3 : Int32) (x4 : Int32) (x5 : Int32) (σ : St) : Option (Int32 × St) :=
  lt (x5 + 1) fun v17 =>
  kb x3 x4 v17 σ
def M7_look_L84 (kx : Int32 → St → Option (Int32 × St)) : Nat → Int32 → Int32 → Int32 → St → Option (Int32 × St)
  | 0, _, _, _, _ => none
  | n + 1, x3, x4, x5, σ =>
    if (σ 26 7) ≤ x5 then
      kx x3 σ
    else
      bd (M7_greatestAlike x5 σ) fun r15 σ15 =>
      M7_look_J118 (fun x3 x4 x5 σ => M7_look_L84 kx n x3 x4 x5 σ) (if x4 ≤ r15 then x3 else x5) (if x4 ≤ r15 then x4 else r15) x5 σ15
def M7_look_J69 (kb : Int32 → St → Option (Int32 × St)) (x1 : Int32) (x2 : Int32) (x3 : Int32) (σ : St) : Option (Int32 × St) :=
  lt (x3 + 1) fun v11 =>
  kb v11 σ
def M7_look_L31 (x1 : Int32) (x2 : Int32) (kx : St → Option (Int32 × St)) : Nat → Int32 → St → Option (Int32 × St)
  | 0, _, _ => none
  | n + 1, x3, σ =>
    if (σ 33 2) ≤ x3 then
      kx σ
    else
      bd (M7_courseWithoutLoan x3 x2 σ) fun r7 σ7 =>
      if kd r7 = 1 then
      bd (M7_comesOutAsSeen r7 σ7) fun r9 σ9 =>
      if r9 = 0 then
        M7_look_J69 (fun x3 σ => M7_look_L31 x1 x2 kx n x3 σ) x1 x2 x3 σ9
      else
        bd (M7_addToAlike r7 x1 σ9) fun r12 σ12 =>
        M7_look_J69 (fun x3 σ => M7_look_L31 x1 x2 kx n x3 σ) x1 x2 x3 σ12
      else none
def M7_look (x1 : Int32) (σ : St) : Option (Int32 × St) :=
  bd (M7_isBelow x1 40 σ) fun r1 σ1 =>
  if r1 = 0 then
    some ((-2), σ1)
  else
    bd (MJ7_fill_53178 88 0 σ1) fun r3 σ3 =>
    bd (M7_lastSightDay σ3) fun r4 σ4 =>
    lt (if x1 < r4 then r4 else x1) fun v5 =>
    M7_look_L31 x1 v5 (fun (σ13 : St) =>
      M7_look_L84 (fun (v18 : Int32) (σ19 : St) =>
        some (v18, σ19)) FU ((-1)) 13 0 σ13) FU 0 σ4
def M7_digestDay (x1 : Int64) (x3 : Int32) (σ : St) : Option (Int64 × St) :=
  bd (M7_behind x3 0 σ) fun r1 σ1 =>
  lt ((31 * x1) + r1.toInt64) fun v2 =>
  bd (M7_behind x3 1 σ1) fun r3 σ3 =>
  lt ((31 * v2) + r3.toInt64) fun v4 =>
  bd (M7_best x3 ((-1)) σ3) fun r5 σ5 =>
  lt ((31 * v4) + r5.toInt64) fun v6 =>
  bd (M7_best x3 0 σ5) fun r7 σ7 =>
  lt ((31 * v6) + r7.toInt64) fun v8 =>
  bd (M7_call x3 0 σ7) fun r9 σ9 =>
  lt ((31 * v8) + r9.toInt64) fun v10 =>
  bd (M7_call x3 1 σ9) fun r11 σ11 =>
  lt ((31 * v10) + r11.toInt64) fun v12 =>
  bd (M7_look x3 σ11) fun r13 σ13 =>
  some ((31 * v12) + r13.toInt64, σ13)
def M7_hole (x1 : Int32) (x2 : Int32) (σ : St) : Option (Int32 × St) :=
  bd (M7_isHole x1 σ) fun r1 σ1 =>
  if r1 = 0 then
    some ((-2), σ1)
  else
    bd (M7_isBelow x2 4 σ1) fun r3 σ3 =>
    if r3 = 0 then
      some ((-2), σ3)
    else
      bd (M6_figure 26 x1 x2 σ3) fun r5 σ5 =>
      some (r5, σ5)
def M7_is (x1 : Int32) (x2 : Int32) (x3 : Int32) (σ : St) : Option (Int32 × St) :=
  bd (M7_isBelow x1 40 σ) fun r1 σ1 =>
  if r1 = 0 then
    some ((-2), σ1)
  else
    bd (M7_isHole x2 σ1) fun r3 σ3 =>
    if r3 = 0 then
      some ((-2), σ3)
    else
      bd (M7_isBelow x3 3 σ3) fun r5 σ5 =>
      if r5 = 0 then
        some ((-2), σ5)
      else
        bd (M7_toldCourse σ5) fun r7 σ7 =>
        if kd r7 = 1 then
        if x3 = 0 then
          bd (M1_wideBehind r7 x1 x2 σ7) fun r15 σ15 =>
          some (r15, σ15)
        else
          if x3 = 1 then
            bd (M1_deepBehind r7 x1 x2 σ7) fun r14 σ14 =>
            some (r14, σ14)
          else
            bd (M1_loanBehind r7 x1 x2 σ7) fun r11 σ11 =>
            if r11 = ((-1)) then
              some ((-1), σ11)
            else
              bd (M4_cell 33 r11 2 σ11) fun r13 σ13 =>
              some (r13, σ13)
        else none
def M7_serves_J74 (kb : Int32 → Int32 → St → Option (Int32 × St)) (x1 : Int32) (x2 : Int32) (o3 : Nat) (x4 : Int32) (x5 : Int32) (σ : St) : Option (Int32 × St) :=
  lt (x5 + 1) fun v12 =>
  kb x4 v12 σ
def M7_serves_L31 (x1 : Int32) (x2 : Int32) (o3 : Nat) (kx : Int32 → St → Option (Int32 × St)) : Nat → Int32 → Int32 → St → Option (Int32 × St)
  | 0, _, _, _ => none
  | n + 1, x4, x5, σ =>
    if (σ 29 7) ≤ x5 then
      kx x4 σ
    else
      bd (M1_wideBehind o3 x1 x2 σ) fun r8 σ8 =>
      bd (M1_deepBehind o3 x1 x2 σ8) fun r9 σ9 =>
      bd (M7_suits x5 x2 r8 r9 σ9) fun r10 σ10 =>
      if r10 = 0 then
        M7_serves_J74 (fun x4 x5 σ => M7_serves_L31 x1 x2 o3 kx n x4 x5 σ) x1 x2 o3 x4 x5 σ10
      else
        lt (x4 ||| ((1 : Int32) <<< (x5 &&& 31))) fun v13 =>
        M7_serves_J74 (fun x4 x5 σ => M7_serves_L31 x1 x2 o3 kx n x4 x5 σ) x1 x2 o3 v13 x5 σ10
def M7_serves (x1 : Int32) (x2 : Int32) (σ : St) : Option (Int32 × St) :=
  bd (M7_isBelow x1 40 σ) fun r1 σ1 =>
  if r1 = 0 then
    some ((-2), σ1)
  else
    bd (M7_isHole x2 σ1) fun r3 σ3 =>
    if r3 = 0 then
      some ((-2), σ3)
    else
      bd (M7_toldCourse σ3) fun r5 σ5 =>
      if kd r5 = 1 then
      M7_serves_L31 x1 x2 r5 (fun (v14 : Int32) (σ15 : St) =>
        some (v14, σ15)) FU 0 0 σ5
      else none
def M7_digestHole_L71 (x3 : Int32) (kx : Int64 → St → Option (Int64 × St)) : Nat → Int64 → Int32 → St → Option (Int64 × St)
  | 0, _, _, _ => none
  | n + 1, x4, x6, σ =>
    if 3 ≤ x6 then
      kx x4 σ
    else
      bd (M7_is 39 x3 x6 σ) fun r14 σ14 =>
      lt ((31 * x4) + r14.toInt64) fun v15 =>
      lt (x6 + 1) fun v16 =>
      M7_digestHole_L71 x3 kx n v15 v16 σ14
def M7_digestHole_L38 (x3 : Int32) (kx : Int64 → St → Option (Int64 × St)) : Nat → Int64 → Int32 → St → Option (Int64 × St)
  | 0, _, _, _ => none
  | n + 1, x4, x6, σ =>
    if 3 ≤ x6 then
      kx x4 σ
    else
      bd (M7_is 5 x3 x6 σ) fun r8 σ8 =>
      lt ((31 * x4) + r8.toInt64) fun v9 =>
      lt (x6 + 1) fun v10 =>
      M7_digestHole_L38 x3 kx n v9 v10 σ8
def M7_digestHole_L6 (x3 : Int32) (kx : Int64 → St → Option (Int64 × St)) : Nat → Int64 → Int32 → St → Option (Int64 × St)
  | 0, _, _, _ => none
  | n + 1, x4, x6, σ =>
    if 4 ≤ x6 then
      kx x4 σ
    else
      bd (M7_hole x3 x6 σ) fun r2 σ2 =>
      lt ((31 * x4) + r2.toInt64) fun v3 =>
      lt (x6 + 1) fun v4 =>
      M7_digestHole_L6 x3 kx n v3 v4 σ2
def M7_digestHole (x1 : Int64) (x3 : Int32) (σ : St) : Option (Int64 × St) :=
  M7_digestHole_L6 x3 (fun (v5 : Int64) (σ6 : St) =>
    M7_digestHole_L38 x3 (fun (v11 : Int64) (σ12 : St) =>
      M7_digestHole_L71 x3 (fun (v17 : Int64) (σ18 : St) =>
        bd (M7_serves 5 x3 σ18) fun r19 σ19 =>
        some ((31 * v17) + r19.toInt64, σ19)) FU v11 0 σ12) FU v5 0 σ6) FU x1 0 σ
def M7_holeMendedBy_J81 (kb : Int32 → St → Option (Int32 × St)) (o1 : Nat) (x2 : Int32) (x3 : Int32) (x4 : Int32) (x5 : Int32) (σ : St) : Option (Int32 × St) :=
  lt (x5 + 1) fun v10 =>
  kb v10 σ
def M7_holeMendedBy_J59 (kb : Int32 → St → Option (Int32 × St)) (o1 : Nat) (x2 : Int32) (x3 : Int32) (x4 : Int32) (x5 : Int32) (x6 : Int32) (σ : St) : Option (Int32 × St) :=
  bd (M1_deepBehind o1 x3 x5 σ) fun r7 σ7 =>
  bd (M7_suits x2 x5 x6 r7 σ7) fun r8 σ8 =>
  if r8 = 0 then
    M7_holeMendedBy_J81 kb o1 x2 x3 x4 x5 σ8
  else
    some (x5, σ8)
def M7_holeMendedBy_L3 (o1 : Nat) (x2 : Int32) (x3 : Int32) (x4 : Int32) (kx : St → Option (Int32 × St)) : Nat → Int32 → St → Option (Int32 × St)
  | 0, _, _ => none
  | n + 1, x5, σ =>
    if (σ 26 7) ≤ x5 then
      kx σ
    else
      bd (M1_loanBehind o1 x3 x5 σ) fun r2 σ2 =>
      if r2 = ((-1)) then
        bd (M1_wideBehind o1 x3 x5 σ2) fun r4 σ4 =>
        bd (M1_couldBePatched o1 x3 x5 σ4) fun r5 σ5 =>
        if r5 = 0 then
          M7_holeMendedBy_J59 (fun x5 σ => M7_holeMendedBy_L3 o1 x2 x3 x4 kx n x5 σ) o1 x2 x3 x4 x5 r4 σ5
        else
          lt (if 1 < (r4 - x4) then r4 - x4 else 1) fun v11 =>
          M7_holeMendedBy_J59 (fun x5 σ => M7_holeMendedBy_L3 o1 x2 x3 x4 kx n x5 σ) o1 x2 x3 x4 x5 v11 σ5
      else
        M7_holeMendedBy_J81 (fun x5 σ => M7_holeMendedBy_L3 o1 x2 x3 x4 kx n x5 σ) o1 x2 x3 x4 x5 σ2
def M7_holeMendedBy (o1 : Nat) (x2 : Int32) (x3 : Int32) (x4 : Int32) (σ : St) : Option (Int32 × St) :=
  M7_holeMendedBy_L3 o1 x2 x3 x4 (fun (σ12 : St) =>
    some ((-1), σ12)) FU 0 σ
def M7_isWork (x1 : Int32) (σ : St) : Option (Int32 × St) :=
  bd (M7_isBelow x1 (σ 29 7) σ) fun r1 σ1 =>
  if r1 = 0 ∨ r1 = 1 then some (r1, σ1) else none
def M7_mend_L42 (x1 : Int32) (x2 : Int32) (x3 : Int32) (o4 : Nat) (kx : St → Option (Int32 × St)) : Nat → Int32 → St → Option (Int32 × St)
  | 0, _, _ => none
  | n + 1, x5, σ =>
    if 3 < x5 then
      kx σ
    else
      bd (M7_holeMendedBy o4 x1 x2 x5 σ) fun r9 σ9 =>
      if r9 = ((-1)) then
        lt (x5 + 1) fun v11 =>
        M7_mend_L42 x1 x2 x3 o4 kx n v11 σ9
      else
        some (if x3 = ((-1)) then x5 else if x5 ≤ x3 then (-1) else r9, σ9)
def M7_mend_J33 (x1 : Int32) (x2 : Int32) (x3 : Int32) (σ : St) : Option (Int32 × St) :=
  bd (M7_toldCourse σ) fun r6 σ6 =>
  if kd r6 = 1 then
  M7_mend_L42 x1 x2 x3 r6 (fun (σ14 : St) =>
    some ((-1), σ14)) FU 0 σ6
  else none
def M7_mend (x1 : Int32) (x2 : Int32) (x3 : Int32) (σ : St) : Option (Int32 × St) :=
  bd (M7_isWork x1 σ) fun r1 σ1 =>
  if r1 = 0 then
    some ((-2), σ1)
  else
    bd (M7_isBelow x2 40 σ1) fun r3 σ3 =>
    if r3 = 0 then
      some ((-2), σ3)
    else
      if x3 = ((-1)) then
        M7_mend_J33 x1 x2 x3 σ3
      else
        bd (M7_isBelow x3 3 σ3) fun r15 σ15 =>
        if r15 = 0 then
          some ((-2), σ15)
        else
          M7_mend_J33 x1 x2 x3 σ15
def M7_sixteenthsServed_J41 (x2 : Int32) (x4 : Int32) (x5 : Int32) (x6 : Int32) (x7 : Int32) (y0 : Int32) (σ : St) : Option (Int32 × St) :=
  bd (M7_suits x2 x4 (if (x6 + 1) < 9 then x6 + 1 else 9) x7 σ) fun r5 σ5 =>
  some (if r5 = 0 then y0 else y0 + x5, σ5)
def M7_sixteenthsServed (o1 : Nat) (x2 : Int32) (x3 : Int32) (x4 : Int32) (x5 : Int32) (σ : St) : Option (Int32 × St) :=
  bd (M1_wideBehind o1 x3 x4 σ) fun r1 σ1 =>
  bd (M1_deepBehind o1 x3 x4 σ1) fun r2 σ2 =>
  bd (M7_suits x2 x4 r1 r2 σ2) fun r3 σ3 =>
  M7_sixteenthsServed_J41 x2 x4 x5 r1 r2 (if r3 = 0 then 0 else 16 - x5) σ3
def M7_moths_J173 (x4 : Int32) (x8 : Int64) (x10 : Int64) (σ : St) : Option (Int64 × St) :=
  some (if x4 = 0 then x10 else x8, σ)
def M7_moths_L122 (x4 : Int32) (kx : Int64 → Int64 → St → Option (Int64 × St)) : Nat → Int64 → Int64 → Int32 → St → Option (Int64 × St)
  | 0, _, _, _, _ => none
  | n + 1, x8, x10, x12, σ =>
    if 32 ≤ x12 then
      kx x8 x10 σ
    else
      if (lg_cmp (x8 - x8 / 2 * 2) 0) = 0 then
        if (lg_cmp (x10 - x10 / 2 * 2) 0) = 0 then
          lt (x10 / 2) fun v28 =>
          lt (x8 / 2) fun v30 =>
          lt (x12 + 1) fun v31 =>
          M7_moths_L122 x4 kx n v30 v28 v31 σ
        else
          kx x8 x10 σ
      else
        kx x8 x10 σ
def M7_moths_J106 (kb : Int64 → Int64 → Int32 → St → Option (Int64 × St)) (x1 : Int32) (x2 : Int32) (x3 : Int32) (x4 : Int32) (o5 : Nat) (x6 : Int64) (x8 : Int64) (x10 : Int32) (σ : St) : Option (Int64 × St) :=
  lt (x10 + 1) fun v14 =>
  kb x6 x8 v14 σ
def M7_moths_L54 (x1 : Int32) (x2 : Int32) (x3 : Int32) (x4 : Int32) (o5 : Nat) (kx : Int64 → Int64 → St → Option (Int64 × St)) : Nat → Int64 → Int64 → Int32 → St → Option (Int64 × St)
  | 0, _, _, _, _ => none
  | n + 1, x6, x8, x10, σ =>
    if (σ 26 7) ≤ x10 then
      kx x6 x8 σ
    else
      bd (M1_loanBehind o5 x2 x10 σ) fun r12 σ12 =>
      if r12 = ((-1)) then
        bd (M7_sixteenthsServed o5 x3 x2 x10 x1 σ12) fun r15 σ15 =>
        lt (x6 * ((16 - r15).toInt64)) fun v16 =>
        lt (x8 * 16) fun v17 =>
        M7_moths_J106 (fun x6 x8 x10 σ => M7_moths_L54 x1 x2 x3 x4 o5 kx n x6 x8 x10 σ) x1 x2 x3 x4 o5 v16 v17 x10 σ15
      else
        M7_moths_J106 (fun x6 x8 x10 σ => M7_moths_L54 x1 x2 x3 x4 o5 kx n x6 x8 x10 σ) x1 x2 x3 x4 o5 x6 x8 x10 σ12
def M7_moths (x1 : Int32) (x2 : Int32) (x3 : Int32) (x4 : Int32) (σ : St) : Option (Int64 × St) :=
  bd (M7_isBelow x1 17 σ) fun r1 σ1 =>
  if r1 = 0 then
    some ((-9223372036854775806), σ1)
  else
    bd (M7_isBelow x2 40 σ1) fun r3 σ3 =>
    if r3 = 0 then
      some ((-9223372036854775806), σ3)
    else
      bd (M7_isWork x3 σ3) fun r5 σ5 =>
      if r5 = 0 then
        some ((-9223372036854775806), σ5)
      else
        bd (M7_isBelow x4 2 σ5) fun r7 σ7 =>
        if r7 = 0 then
          some ((-9223372036854775806), σ7)
        else
          bd (M7_toldCourse σ7) fun r9 σ9 =>
          if kd r9 = 1 then
          M7_moths_L54 x1 x2 x3 x4 r9 (fun (v18 : Int64) (v19 : Int64) (σ20 : St) =>
            lt (v19 - v18) fun v21 =>
            M7_moths_L122 x4 (fun (v32 : Int64) (v33 : Int64) (σ34 : St) =>
              M7_moths_J173 x4 v32 v33 σ34) FU v19 v21 0 σ20) FU 1 1 0 σ9
          else none
def M7_work (x1 : Int32) (x2 : Int32) (σ : St) : Option (Int32 × St) :=
  bd (M7_isWork x1 σ) fun r1 σ1 =>
  if r1 = 0 then
    some ((-2), σ1)
  else
    bd (M7_isBelow x2 4 σ1) fun r3 σ3 =>
    if r3 = 0 then
      some ((-2), σ3)
    else
      bd (M6_figure 29 x1 x2 σ3) fun r5 σ5 =>
      some (r5, σ5)
def M7_digestWork_L6 (x3 : Int32) (kx : Int64 → St → Option (Int64 × St)) : Nat → Int64 → Int32 → St → Option (Int64 × St)
  | 0, _, _, _ => none
  | n + 1, x4, x6, σ =>
    if 4 ≤ x6 then
      kx x4 σ
    else
      bd (M7_work x3 x6 σ) fun r2 σ2 =>
      lt ((31 * x4) + r2.toInt64) fun v3 =>
      lt (x6 + 1) fun v4 =>
      M7_digestWork_L6 x3 kx n v3 v4 σ2
def M7_digestWork (x1 : Int64) (x3 : Int32) (σ : St) : Option (Int64 × St) :=
  M7_digestWork_L6 x3 (fun (v5 : Int64) (σ6 : St) =>
    bd (M7_mend x3 3 ((-1)) σ6) fun r7 σ7 =>
    lt ((31 * v5) + r7.toInt64) fun v8 =>
    bd (M7_mend x3 3 0 σ7) fun r9 σ9 =>
    lt ((31 * v8) + r9.toInt64) fun v10 =>
    bd (M7_moths 5 9 x3 0 σ9) fun r11 σ11 =>
    lt ((31 * v10) + r11) fun v12 =>
    bd (M7_moths 5 9 x3 1 σ11) fun r13 σ13 =>
    some ((31 * v12) + r13, σ13)) FU x1 0 σ
def M7_textOf (x1 : Int32) (σ : St) : Option (Nat × St) :=
  some (if x1 = 0 then 26 else 29, σ)
def M7_fault (x1 : Int32) (σ : St) : Option (Int32 × St) :=
  bd (M7_isBelow x1 2 σ) fun r1 σ1 =>
  if r1 = 0 then
    some ((-2), σ1)
  else
    bd (M7_textOf x1 σ1) fun r3 σ3 =>
    if kd r3 = 6 then
    some (σ3 r3 6, σ3)
    else none
def M7_first_J55 (kb : Int32 → Int32 → Int32 → St → Option (Int32 × St)) (o1 : Nat) (x2 : Int32) (x3 : Int32) (x4 : Int32) (σ : St) : Option (Int32 × St) :=
  lt (x4 + 1) fun v7 =>
  kb x2 x3 v7 σ
def M7_first_L13 (o1 : Nat) (kx : Int32 → St → Option (Int32 × St)) : Nat → Int32 → Int32 → Int32 → St → Option (Int32 × St)
  | 0, _, _, _, _ => none
  | n + 1, x2, x3, x4, σ =>
    if (σ 33 2) ≤ x4 then
      kx x2 σ
    else
      if inb x4 52 then
      lt (σ (o1 + 8) x4.toNatClampNeg) fun v5 =>
      M7_first_J55 (fun x2 x3 x4 σ => M7_first_L13 o1 kx n x2 x3 x4 σ) o1 (if v5 = ((-1)) then x2 else if x3 ≤ v5 then x2 else x4) (if v5 = ((-1)) then x3 else if x3 ≤ v5 then x3 else v5) x4 σ
      else none
def M7_first (σ : St) : Option (Int32 × St) :=
  bd (M7_toldCourse σ) fun r1 σ1 =>
  if kd r1 = 1 then
  M7_first_L13 r1 (fun (v9 : Int32) (σ10 : St) =>
    some (v9, σ10)) FU ((-1)) 40 0 σ1
  else none
def M7_never_J97 (kb : Int32 → Int32 → St → Option (Int32 × St)) (x1 : Int32) (x2 : Int32) (x3 : Int32) (x4 : Int32) (x5 : Int32) (σ : St) : Option (Int32 × St) :=
  lt (x5 + 1) fun v11 =>
  kb x2 v11 σ
def M7_never_J79 (kb : Int32 → Int32 → St → Option (Int32 × St)) (x1 : Int32) (x2 : Int32) (x3 : Int32) (x4 : Int32) (x5 : Int32) (y0 : Nat) (σ : St) : Option (Int32 × St) :=
  bd (M7_comesOutAsSeen y0 σ) fun r9 σ9 =>
  if r9 = 0 then
    M7_never_J97 kb x1 x2 x3 x4 x5 σ9
  else
    lt (x2 ||| ((1 : Int32) <<< (x5 &&& 31))) fun v12 =>
    M7_never_J97 kb x1 v12 x3 x4 x5 σ9
def M7_never_L50 (x1 : Int32) (x3 : Int32) (x4 : Int32) (kx : Int32 → St → Option (Int32 × St)) : Nat → Int32 → Int32 → St → Option (Int32 × St)
  | 0, _, _, _ => none
  | n + 1, x2, x5, σ =>
    if x3 ≤ x5 then
      kx x2 σ
    else
      if x1 = 0 then
        bd (M7_courseWithoutLoan x5 x4 σ) fun r13 σ13 =>
        if kd r13 = 1 then
        M7_never_J79 (fun x2 x5 σ => M7_never_L50 x1 x3 x4 kx n x2 x5 σ) x1 x2 x3 x4 x5 r13 σ13
        else none
      else
        bd (M7_courseWithoutPatch x5 x4 σ) fun r7 σ7 =>
        if kd r7 = 1 then
        M7_never_J79 (fun x2 x5 σ => M7_never_L50 x1 x3 x4 kx n x2 x5 σ) x1 x2 x3 x4 x5 r7 σ7
        else none
def M7_never_J40 (x1 : Int32) (x2 : Int32) (y0 : Int32) (σ : St) : Option (Int32 × St) :=
  bd (M7_lastSightDay σ) fun r4 σ4 =>
  M7_never_L50 x1 y0 r4 (fun (v15 : Int32) (σ16 : St) =>
    some (v15, σ16)) FU x2 0 σ4
def M7_never (x1 : Int32) (σ : St) : Option (Int32 × St) :=
  bd (M7_isBelow x1 2 σ) fun r1 σ1 =>
  if r1 = 0 then
    some ((-2), σ1)
  else
    M7_never_J40 x1 0 (if x1 = 0 then σ1 33 2 else σ1 37 2) σ1
def M7_lotOf (x0 : Int32) (x1 : Int32) (σ : St) : Option (Int32 × St) :=
  if 1 ≤ x1 then
    if ¬ x1 = 0 then
    some (((x0.toUInt32 >>> ((16 : Int32).toUInt32 &&& Int32.toUInt32 31)).toInt32) - ((x0.toUInt32 >>> ((16 : Int32).toUInt32 &&& Int32.toUInt32 31)).toInt32) / x1 * x1, σ)
    else none
  else
    some (0, σ)
def M7_nextLot (x0 : Int32) (σ : St) : Option (Int32 × St) :=
  some ((1103515245 * x0) + 12345, σ)
def M7_run_L51 (x2 : Int32) (x3 : Int32) (kx : St → Option (Int32 × St)) : Nat → Int32 → Int32 → St → Option (Int32 × St)
  | 0, _, _, _ => none
  | n + 1, x4, x5, σ =>
    if x2 ≤ x5 then
      kx σ
    else
      bd (M7_nextLot x4 σ) fun r8 σ8 =>
      bd (M7_lotOf r8 (σ8 26 7) σ8) fun r9 σ9 =>
      bd (M7_nextLot r8 σ9) fun r10 σ10 =>
      bd (M7_lotOf r10 9 σ10) fun r11 σ11 =>
      bd (M4_add 40 x5 r9 0 (r11 + 1) σ11) fun r12 σ12 =>
      lt (x5 + 1) fun v13 =>
      M7_run_L51 x2 x3 kx n r10 v13 σ12
def M7_run (x1 : Int32) (x2 : Int32) (x3 : Int32) (σ : St) : Option (Int32 × St) :=
  if x2 < 1 then
    some ((-2), σ)
  else
    if 40 < x2 then
      some ((-2), σ)
    else
      bd (M7_isBelow x3 2 σ) fun r3 σ3 =>
      if r3 = 0 then
        some ((-2), σ3)
      else
        if (σ3 26 7) = 0 then
          some (0, σ3)
        else
          bd (M0_takeAll 39 32 σ3) fun r6 σ6 =>
          M7_run_L51 x2 x3 (fun (σ14 : St) =>
            bd (M1_follow 66 26 39 (x2 - 1) σ14) fun r15 σ15 =>
            if x3 = 0 then
              bd (M1_vaultBehind 66 (x2 - 1) σ15) fun r18 σ18 =>
              some (r18, σ18)
            else
              bd (M1_countedFrom 66 (σ15 33 2) (σ15 40 2) σ15) fun r17 σ17 =>
              some (r17, σ17)) FU x1 0 σ6
def M7_digest_L185 (kx : Int64 → St → Option (Int64 × St)) : Nat → Int64 → Int32 → St → Option (Int64 × St)
  | 0, _, _, _ => none
  | n + 1, x1, x3, σ =>
    if 6 ≤ x3 then
      kx x1 σ
    else
      bd (M7_breaches x3 σ) fun r37 σ37 =>
      lt ((31 * x1) + r37.toInt64) fun v38 =>
      lt (x3 + 1) fun v39 =>
      M7_digest_L185 kx n v38 v39 σ37
def M7_digest_L128 (x3 : Int32) (kx : Int64 → St → Option (Int64 × St)) : Nat → Int64 → Int32 → St → Option (Int64 × St)
  | 0, _, _, _ => none
  | n + 1, x1, x4, σ =>
    if 3 ≤ x4 then
      kx x1 σ
    else
      bd (M7_came x3 x4 σ) fun r25 σ25 =>
      lt ((31 * x1) + r25.toInt64) fun v26 =>
      lt (x4 + 1) fun v27 =>
      M7_digest_L128 x3 kx n v26 v27 σ25
def M7_digest_L111 (kx : Int64 → St → Option (Int64 × St)) : Nat → Int64 → Int32 → St → Option (Int64 × St)
  | 0, _, _, _ => none
  | n + 1, x1, x3, σ =>
    if (σ 33 2) ≤ x3 then
      kx x1 σ
    else
      M7_digest_L128 x3 (fun (v28 : Int64) (σ29 : St) =>
        lt (x3 + 1) fun v30 =>
        M7_digest_L111 kx n v28 v30 σ29) FU x1 0 σ
def M7_digest_L85 (kx : Int64 → St → Option (Int64 × St)) : Nat → Int64 → Int32 → St → Option (Int64 × St)
  | 0, _, _, _ => none
  | n + 1, x1, x3, σ =>
    if (σ 29 7) ≤ x3 then
      kx x1 σ
    else
      bd (M7_digestWork x1 x3 σ) fun r19 σ19 =>
      lt (x3 + 1) fun v20 =>
      M7_digest_L85 kx n r19 v20 σ19
def M7_digest_L59 (kx : Int64 → St → Option (Int64 × St)) : Nat → Int64 → Int32 → St → Option (Int64 × St)
  | 0, _, _, _ => none
  | n + 1, x1, x3, σ =>
    if (σ 26 7) ≤ x3 then
      kx x1 σ
    else
      bd (M7_digestHole x1 x3 σ) fun r14 σ14 =>
      lt (x3 + 1) fun v15 =>
      M7_digest_L59 kx n r14 v15 σ14
def M7_digest_L33 (kx : Int64 → St → Option (Int64 × St)) : Nat → Int64 → Int32 → St → Option (Int64 × St)
  | 0, _, _, _ => none
  | n + 1, x1, x3, σ =>
    if 2 ≤ x3 then
      kx x1 σ
    else
      bd (M7_fault x3 σ) fun r8 σ8 =>
      lt ((31 * x1) + r8.toInt64) fun v9 =>
      lt (x3 + 1) fun v10 =>
      M7_digest_L33 kx n v9 v10 σ8
def M7_digest_L6 (kx : Int64 → St → Option (Int64 × St)) : Nat → Int64 → Int32 → St → Option (Int64 × St)
  | 0, _, _, _ => none
  | n + 1, x1, x3, σ =>
    if 7 < x3 then
      kx x1 σ
    else
      bd (M7_count x3 σ) fun r2 σ2 =>
      lt ((31 * x1) + r2.toInt64) fun v3 =>
      lt (x3 + 1) fun v4 =>
      M7_digest_L6 kx n v3 v4 σ2
def M7_digest (σ : St) : Option (Int64 × St) :=
  M7_digest_L6 (fun (v5 : Int64) (σ6 : St) =>
    M7_digest_L33 (fun (v11 : Int64) (σ12 : St) =>
      M7_digest_L59 (fun (v16 : Int64) (σ17 : St) =>
        M7_digest_L85 (fun (v21 : Int64) (σ22 : St) =>
          M7_digest_L111 (fun (v31 : Int64) (σ32 : St) =>
            bd (M7_digestDay v31 0 σ32) fun r33 σ33 =>
            bd (M7_digestDay r33 5 σ33) fun r34 σ34 =>
            bd (M7_digestDay r34 39 σ34) fun r35 σ35 =>
            M7_digest_L185 (fun (v40 : Int64) (σ41 : St) =>
              bd (M7_first σ41) fun r42 σ42 =>
              lt ((31 * v40) + r42.toInt64) fun v43 =>
              bd (M7_never 0 σ42) fun r44 σ44 =>
              lt ((31 * v43) + r44.toInt64) fun v45 =>
              bd (M7_never 1 σ44) fun r46 σ46 =>
              lt ((31 * v45) + r46.toInt64) fun v47 =>
              bd (M7_run 7 20 0 σ46) fun r48 σ48 =>
              lt ((31 * v47) + r48.toInt64) fun v49 =>
              bd (M7_run 7 20 1 σ48) fun r50 σ50 =>
              some ((31 * v49) + r50.toInt64, σ50)) FU r35 0 σ35) FU v21 0 σ22) FU v16 0 σ17) FU v11 0 σ12) FU v5 0 σ6) FU 17 0 σ
def M7_ease (x1 : Int32) (σ : St) : Option (Int32 × St) :=
  bd (M7_isBelow x1 9 σ) fun r1 σ1 =>
  if r1 = 0 then
    some ((-2), σ1)
  else
    lt (σ1 25 11) fun v3 =>
    lt (s2 σ1 25 11 x1) fun σ4 =>
    some (v3, σ4)
def M7_tell (o1 : Nat) (x2 : Int32) (x3 : Int32) (σ : St) : Option (Int32 × St) :=
  bd (M7_isBelow x2 40 σ) fun r1 σ1 =>
  if r1 = 0 then
    some ((-2), σ1)
  else
    bd (M7_isBelow x3 8 σ1) fun r3 σ3 =>
    if r3 = 0 then
      some ((-2), σ3)
    else
      bd (M4_isFull o1 σ3) fun r5 σ5 =>
      if r5 = 0 then
        lt (s2 σ5 25 5 1) fun σ7 =>
        bd (M4_add o1 x2 x3 0 0 σ7) fun r8 σ8 =>
        some (r8, σ8)
      else
        some ((-4), σ5)
def M7_fill (x1 : Int32) (x2 : Int32) (σ : St) : Option (Int32 × St) :=
  bd (M7_tell 35 x1 x2 σ) fun r1 σ1 =>
  some (r1, σ1)
def M7_forget (σ : St) : Option (Int32 × St) :=
  lt (σ 46 2) fun v1 =>
  bd (M4_clear 46 σ) fun r2 σ2 =>
  some (v1, σ2)
def M7_get (x1 : Int32) (x2 : Int32) (x3 : Int32) (σ : St) : Option (Int32 × St) :=
  bd (M7_isBelow x1 4 σ) fun r1 σ1 =>
  if r1 = 0 then
    some ((-2147483648), σ1)
  else
    bd (M7_isBelow x2 3 σ1) fun r3 σ3 =>
    if r3 = 0 then
      some ((-2147483648), σ3)
    else
      if inb x1 4 then
      bd (M5_refusal (89 + 1 + 2 * x1.toNatClampNeg) x2 x3 σ3) fun r6 σ6 =>
      if r6 = 0 then
        bd (M5_item (89 + 1 + 2 * x1.toNatClampNeg) x3 σ6) fun r9 σ9 =>
        some (r9, σ9)
      else
        bd (M7_found r6 σ6) fun r10 σ10 =>
        some ((-2147483648), σ10)
      else none
def M7_lay (x1 : Int32) (x2 : Int32) (x3 : Int32) (x4 : Int32) (σ : St) : Option (Int32 × St) :=
  bd (M7_isBelow x1 4 σ) fun r1 σ1 =>
  if r1 = 0 then
    some ((-2), σ1)
  else
    bd (M7_isBelow x2 3 σ1) fun r3 σ3 =>
    if r3 = 0 then
      some ((-2), σ3)
    else
      if inb x1 4 then
      bd (M5_refusal (89 + 1 + 2 * x1.toNatClampNeg) x2 x3 σ3) fun r6 σ6 =>
      if r6 = 0 then
        bd (M5_put (89 + 1 + 2 * x1.toNatClampNeg) x3 x4 σ6) fun r9 σ9 =>
        some (1, σ9)
      else
        bd (M7_found r6 σ6) fun r10 σ10 =>
        some (r10, σ10)
      else none
def M7_mayBeLoan (x0 : Int32) (x1 : Int32) (x2 : Int32) (x3 : Int32) (σ : St) : Option (Int32 × St) :=
  bd (M7_isBelow x0 40 σ) fun r1 σ1 =>
  if r1 = 0 then
    some (0, σ1)
  else
    bd (M7_isBelow x1 8 σ1) fun r3 σ3 =>
    if r3 = 0 then
      some (0, σ3)
    else
      bd (M7_isBelow x2 6 σ3) fun r5 σ5 =>
      some (if r5 = 0 then 0 else if x3 < 1 then 0 else if 9 < x3 then 0 else 1, σ5)
def M7_loan (x1 : Int32) (x2 : Int32) (x3 : Int32) (x4 : Int32) (σ : St) : Option (Int32 × St) :=
  bd (M7_mayBeLoan x1 x2 x3 x4 σ) fun r1 σ1 =>
  if r1 = 0 then
    some ((-2), σ1)
  else
    bd (M4_isFull 33 σ1) fun r3 σ3 =>
    if r3 = 0 then
      lt (s2 σ3 25 5 1) fun σ5 =>
      bd (M4_add 33 x1 x2 x3 x4 σ5) fun r6 σ6 =>
      some (r6, σ6)
    else
      some ((-4), σ3)
def M7_lose (x1 : Int32) (σ : St) : Option (Int32 × St) :=
  bd (M7_isBelow x1 4 σ) fun r1 σ1 =>
  if r1 = 0 then
    some ((-2), σ1)
  else
    if inb x1 4 then
    if (σ1 (89 + 1 + 2 * x1.toNatClampNeg) 1) = 0 then
      lt (s2 σ1 (89 + 1 + 2 * x1.toNatClampNeg) 1 1) fun σ5 =>
      some (σ5 (89 + 1 + 2 * x1.toNatClampNeg) 3, σ5)
    else
      bd (M7_found 1 σ1) fun r6 σ6 =>
      some (r6, σ6)
    else none
def M7_patch (x1 : Int32) (x2 : Int32) (σ : St) : Option (Int32 × St) :=
  bd (M7_tell 37 x1 x2 σ) fun r1 σ1 =>
  some (r1, σ1)
def M7_read_L36 (o2 : Nat) (kx : Int32 → St → Option (Int32 × St)) : Nat → Int32 → Int32 → St → Option (Int32 × St)
  | 0, _, _, _ => none
  | n + 1, x3, x4, σ =>
    if (σ o2 3) < (x4 + 4) then
      kx x3 σ
    else
      bd (M5_item o2 x4 σ) fun r6 σ6 =>
      bd (M5_item o2 (x4 + 1) σ6) fun r7 σ7 =>
      bd (M5_item o2 (x4 + 2) σ7) fun r8 σ8 =>
      bd (M5_item o2 (x4 + 3) σ8) fun r9 σ9 =>
      bd (M7_loan r6 r7 r8 r9 σ9) fun r10 σ10 =>
      if 0 ≤ r10 then
        lt (x3 + 1) fun v12 =>
        lt (x4 + 4) fun v13 =>
        M7_read_L36 o2 kx n v12 v13 σ10
      else
        kx x3 σ10
def M7_read (x1 : Int32) (σ : St) : Option (Int32 × St) :=
  bd (M7_isBelow x1 4 σ) fun r1 σ1 =>
  if r1 = 0 then
    some ((-2), σ1)
  else
    if inb x1 4 then
    if (σ1 (89 + 1 + 2 * x1.toNatClampNeg) 1) = 0 then
      M7_read_L36 (89 + 1 + 2 * x1.toNatClampNeg) (fun (v14 : Int32) (σ15 : St) =>
        some (v14, σ15)) FU 0 0 σ1
    else
      bd (M7_found 1 σ1) fun r16 σ16 =>
      some (r16, σ16)
    else none
def M7_seen (x1 : Int32) (x2 : Int32) (x3 : Int32) (σ : St) : Option (Int32 × St) :=
  bd (M7_isBelow x1 40 σ) fun r1 σ1 =>
  if r1 = 0 then
    some ((-2), σ1)
  else
    bd (M7_isBelow x2 8 σ1) fun r3 σ3 =>
    if r3 = 0 then
      some ((-2), σ3)
    else
      bd (M7_isBelow x3 10 σ3) fun r5 σ5 =>
      if r5 = 0 then
        some ((-2), σ5)
      else
        bd (M4_isFull 46 σ5) fun r7 σ7 =>
        if r7 = 0 then
          bd (M4_add 46 x1 x2 x3 0 σ7) fun r9 σ9 =>
          some (r9, σ9)
        else
          some ((-4), σ7)
def M7_sheet (x1 : Int32) (x2 : Int32) (x3 : Int32) (σ : St) : Option (Int32 × St) :=
  bd (M7_isBelow x1 4 σ) fun r1 σ1 =>
  if r1 = 0 then
    some ((-2), σ1)
  else
    bd (M7_isBelow x2 3 σ1) fun r3 σ3 =>
    if r3 = 0 then
      some ((-2), σ3)
    else
      if x3 ≤ 60 then
        if 0 ≤ x3 then
          if inb x1 4 then
          bd (M5_begin (89 + 1 + 2 * x1.toNatClampNeg) x2 x3 σ3) fun r8 σ8 =>
          some (x3, σ8)
          else none
        else
          bd (M7_found 5 σ3) fun r9 σ9 =>
          some (r9, σ9)
      else
        some ((-2), σ3)
def M7_type (x1 : Int32) (x2 : Int32) (σ : St) : Option (Int32 × St) :=
  bd (M7_isBelow x1 2 σ) fun r1 σ1 =>
  if r1 = 0 then
    some ((-2), σ1)
  else
    bd (M7_isBelow x2 256 σ1) fun r3 σ3 =>
    if r3 = 0 then
      some ((-2), σ3)
    else
      bd (M7_textOf x1 σ3) fun r5 σ5 =>
      if kd r5 = 6 then
      if (σ5 r5 5) < 39 then
        lt (s2 σ5 25 5 1) fun σ8 =>
        bd (M6_append r5 x2 σ8) fun r9 σ9 =>
        some (r9, σ9)
      else
        some ((-4), σ5)
      else none
def M7_undo (x1 : Int32) (σ : St) : Option (Int32 × St) :=
  bd (M7_isBelow x1 2 σ) fun r1 σ1 =>
  if r1 = 0 then
    some ((-2), σ1)
  else
    bd (M7_textOf x1 σ1) fun r3 σ3 =>
    if kd r3 = 6 then
    if (σ3 r3 5) = 0 then
      some ((-3), σ3)
    else
      lt (s2 σ3 25 5 1) fun σ6 =>
      bd (M6_shorten r3 ((σ6 r3 5) - 1) σ6) fun r7 σ7 =>
      some (σ7 r3 5, σ7)
    else none
def M7_wipe (x1 : Int32) (σ : St) : Option (Int32 × St) :=
  bd (M7_isBelow x1 2 σ) fun r1 σ1 =>
  if r1 = 0 then
    some ((-2), σ1)
  else
    lt (s2 σ1 25 5 1) fun σ3 =>
    bd (M7_textOf x1 σ3) fun r4 σ4 =>
    if kd r4 = 6 then
    lt (σ4 r4 5) fun v6 =>
    bd (M6_shorten r4 0 σ4) fun r7 σ7 =>
    some (v6, σ7)
    else none
def M7_write_L65 (x1 : Int32) (o3 : Nat) (o4 : Nat) (x5 : Int32) (kx : St → Option (Int32 × St)) : Nat → Int32 → St → Option (Int32 × St)
  | 0, _, _ => none
  | n + 1, x6, σ =>
    if x5 ≤ x6 then
      kx σ
    else
      bd (M1_sightOf o4 x1 x6 σ) fun r11 σ11 =>
      bd (M5_put o3 x6 r11 σ11) fun r12 σ12 =>
      lt (x6 + 1) fun v13 =>
      M7_write_L65 x1 o3 o4 x5 kx n v13 σ12
def M7_write (x1 : Int32) (x2 : Int32) (σ : St) : Option (Int32 × St) :=
  bd (M7_isBelow x1 40 σ) fun r1 σ1 =>
  if r1 = 0 then
    some ((-2), σ1)
  else
    bd (M7_isBelow x2 4 σ1) fun r3 σ3 =>
    if r3 = 0 then
      some ((-2), σ3)
    else
      if inb x2 4 then
      if (σ3 (89 + 1 + 2 * x2.toNatClampNeg) 1) = 0 then
        bd (M7_toldCourse σ3) fun r7 σ7 =>
        if kd r7 = 1 then
        lt (if (σ7 26 7) < (σ7 (89 + 1 + 2 * x2.toNatClampNeg) 3) then σ7 26 7 else σ7 (89 + 1 + 2 * x2.toNatClampNeg) 3) fun v9 =>
        M7_write_L65 x1 (89 + 1 + 2 * x2.toNatClampNeg) r7 v9 (fun (σ14 : St) =>
          some (v9, σ14)) FU 0 σ7
        else none
      else
        bd (M7_found 1 σ3) fun r15 σ15 =>
        some (r15, σ15)
      else none
