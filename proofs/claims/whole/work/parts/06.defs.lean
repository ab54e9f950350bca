/-! StonePost.isWithin -/
def fn_Post_isWithin_L15 (y0 : Int32) : Option Int32 :=
  zu_gd (zu_01 y0) <|
  some y0
def fn_Post_isWithin_L14 : Option Int32 :=
  fn_Post_isWithin_L15 (0 : Int32)
def fn_Post_isWithin (a0 : Int32) (a1 : Int32) (a2 : Int32) : Option Int32 :=
  if a0 < a1 then
    fn_Post_isWithin_L14
  else
    if a2 < a0 then
      fn_Post_isWithin_L14
    else
      fn_Post_isWithin_L15 (1 : Int32)
/-! StonePost.isKind -/
def fn_Post_isKind (a0 : Int32) : Option Int32 :=
  zu_b1 (fn_Post_isWithin a0 (0 : Int32) (6 : Int32)) fun v1 =>
  zu_gd (zu_01 v1) <|
  some v1
/-! StonePost.isCell -/
def fn_Post_isCell (a0 : Int32) : Option Int32 :=
  zu_b1 (fn_Post_isWithin a0 (0 : Int32) (23 : Int32)) fun v1 =>
  zu_gd (zu_01 v1) <|
  some v1
/-! StonePost$Land.standingOn -/
def fn_Land_standingOn_B2 (X : IX) (k2 : Nat → Int32 → Int32 → Option Int32) (r0 : Nat) (x1 : Int32) (x2 : Int32) : Option Int32 :=
  if (X r0 4) ≤ x2 then
    some (-1 : Int32)
  else
    zu_gd (zu_ib x2 10) <|
    if (X ((zu_th (r0 + 6) (x2.toNatClampNeg)) + 30) 1) = x1 then
      some x2
    else
      zu_nx (x2 + (1 : Int32)) fun v4 =>
      k2 r0 x1 v4
def fn_Land_standingOn_L2 (X : IX) : Nat → Nat → Int32 → Int32 → Option Int32
  | 0, _, _, _ => none
  | n + 1, r0, x1, x2 => fn_Land_standingOn_B2 X (fn_Land_standingOn_L2 X n) r0 x1 x2
def fn_Land_standingOn (X : IX) (r0 : Nat) (a1 : Int32) : Option Int32 :=
  fn_Land_standingOn_L2 X 400 r0 a1 (0 : Int32)
/-! StonePost$Thrower.begin -/
def fn_Thr_begin (r0 : Nat) (a1 : Int32) (a2 : Int32) (X : IX) : IX :=
  zu_nx (zu_up X (r0 + 30) (va_cpy zs_first (X (r0 + 30)) 0 0 9)) fun X1 =>
  zu_nx (zu_st X1 (r0 + 30) 0 a1) fun X2 =>
  zu_nx (zu_st X2 (r0 + 30) 1 a2) fun X3 =>
  X3
/-! StonePost$Land.addThrower -/
def fn_Land_addThrower (r0 : Nat) (a1 : Int32) (a2 : Int32) (X : IX) : Option (Int32 × IX) :=
  if (X r0 4) < (10 : Int32) then
    zu_gd (zu_ib (X r0 4) 10) <|
    zu_nx (fn_Thr_begin (zu_th (r0 + 6) ((X r0 4).toNatClampNeg)) a1 a2 X) fun X3 =>
    zu_nx (zu_st X3 r0 4 ((X3 r0 4) + (1 : Int32))) fun X5 =>
    some ((X5 r0 4) - (1 : Int32), X5)
  else
    some ((-1 : Int32), X)
/-! StonePost.finding -/
def fn_Post_finding_L25 (x1 : Int32) (X : IX) : Option (Int32 × IX) :=
  some (x1, X)
def fn_Post_finding (a1 : Int32) (X : IX) : Option (Int32 × IX) :=
  zu_nx ((-1000001 : Int32) - a1) fun v1 =>
  zu_b1 (fn_Post_isWithin v1 (0 : Int32) (6 : Int32)) fun v2 =>
  if v2 = 0 then
    fn_Post_finding_L25 a1 X
  else
    zu_gd (zu_ib v1 7) <|
    zu_gd (zu_ib v1 7) <|
    zu_nx (zu_st X 11 (v1.toNatClampNeg) ((X 11 (v1.toNatClampNeg)) + (1 : Int32))) fun X7 =>
    fn_Post_finding_L25 a1 X7
/-! StonePost.thrower -/
def fn_Post_thrower_L65 (y0 : Int32) (X : IX) : Option (Int32 × IX) :=
  some (y0, X)
def fn_Post_thrower_L14 (X : IX) : Option (Int32 × IX) :=
  zu_b2 (fn_Post_finding (-1000001 : Int32) X) fun v20 X21 =>
  some (v20, X21)
def fn_Post_thrower (a1 : Int32) (a2 : Int32) (X : IX) : Option (Int32 × IX) :=
  zu_b1 (fn_Post_isKind a1) fun v1 =>
  if v1 = 0 then
    fn_Post_thrower_L14 X
  else
    zu_b1 (fn_Post_isCell a2) fun v4 =>
    if v4 = 0 then
      fn_Post_thrower_L14 X
    else
      zu_b1 (fn_Land_standingOn X 20 a2) fun v7 =>
      if v7 = (-1 : Int32) then
        zu_b2 (fn_Land_addThrower 20 a1 a2 X) fun v10 X11 =>
        if v10 = (-1 : Int32) then
          zu_b2 (fn_Post_finding (-1000002 : Int32) X11) fun v14 X15 =>
          fn_Post_thrower_L65 v14 X15
        else
          fn_Post_thrower_L65 v10 X11
      else
        zu_b2 (fn_Post_finding (-1000005 : Int32) X) fun v17 X18 =>
        some (v17, X18)
/-! StonePostModel.in -/
def fn_Mod_in_L18 (y0 : Int32) : Option Int32 :=
  zu_gd (zu_01 y0) <|
  some y0
def fn_Mod_in_L17 : Option Int32 :=
  fn_Mod_in_L18 (0 : Int32)
def fn_Mod_in (a0 : Int64) (a2 : Int64) (a4 : Int64) : Option Int32 :=
  if (lg_cmp a0 a2) < 0 then
    fn_Mod_in_L17
  else
    if 0 < (lg_cmp a0 a4) then
      fn_Mod_in_L17
    else
      fn_Mod_in_L18 (1 : Int32)
/-! StonePostModel.isCell -/
def fn_Mod_isCell (a0 : Int32) : Option Int32 :=
  zu_b1 (fn_Mod_in (a0.toInt64) (0 : Int64) (23 : Int64)) fun v1 =>
  zu_gd (zu_01 v1) <|
  some v1
/-! StonePostModel.at -/
def fn_Mod_at (a0 : Int32) (a1 : Int32) : Int32 :=
  ((30 : Int32) + ((9 : Int32) * a0)) + a1
/-! StonePostModel.its -/
def fn_Mod_its (X : IX) (a1 : Int32) (a2 : Int32) : Option Int32 :=
  zu_nx (fn_Mod_at a1 a2) fun v1 =>
  zu_gd (zu_ib v1 142) <|
  some (X 96 (v1.toNatClampNeg))
/-! StonePostModel.standing -/
def fn_Mod_standing_L29 (X : IX) (k4 : Int32 → Int32 → Int32 → Option Int32) (x1 : Int32) (x3 : Int32) (y0 : Int32) : Option Int32 :=
  zu_nx (x3 + (1 : Int32)) fun v5 =>
  k4 x1 y0 v5
def fn_Mod_standing_B4 (X : IX) (k4 : Int32 → Int32 → Int32 → Option Int32) (x1 : Int32) (x2 : Int32) (x3 : Int32) : Option Int32 :=
  if (X 96 1) ≤ x3 then
    some x2
  else
    zu_b1 (fn_Mod_its X x3 (1 : Int32)) fun v2 =>
    if v2 = x1 then
      fn_Mod_standing_L29 X k4 x1 x3 x3
    else
      fn_Mod_standing_L29 X k4 x1 x3 x2
def fn_Mod_standing_L4 (X : IX) : Nat → Int32 → Int32 → Int32 → Option Int32
  | 0, _, _, _ => none
  | n + 1, x1, x2, x3 => fn_Mod_standing_B4 X (fn_Mod_standing_L4 X n) x1 x2 x3
def fn_Mod_standing (X : IX) (a1 : Int32) : Option Int32 :=
  fn_Mod_standing_L4 X 400 a1 (-1 : Int32) (0 : Int32)
/-! StonePostModel.newThrower -/
def fn_Mod_newThrower (a1 : Int32) (a2 : Int32) (X : IX) : Option (Int32 × IX) :=
  zu_nx (X 96 1) fun v1 =>
  zu_nx (fn_Mod_at v1 (0 : Int32)) fun v2 =>
  zu_gd (zu_ib v2 142) <|
  zu_nx (zu_st X 96 (v2.toNatClampNeg) a1) fun X5 =>
  zu_nx (fn_Mod_at v1 (1 : Int32)) fun v6 =>
  zu_gd (zu_ib v6 142) <|
  zu_nx (zu_st X5 96 (v6.toNatClampNeg) a2) fun X9 =>
  zu_nx (fn_Mod_at v1 (2 : Int32)) fun v10 =>
  zu_gd (zu_ib v10 142) <|
  zu_nx (zu_st X9 96 (v10.toNatClampNeg) (2 : Int32)) fun X13 =>
  zu_nx (fn_Mod_at v1 (3 : Int32)) fun v14 =>
  zu_gd (zu_ib v14 142) <|
  zu_nx (zu_st X13 96 (v14.toNatClampNeg) (5 : Int32)) fun X17 =>
  zu_nx (fn_Mod_at v1 (4 : Int32)) fun v18 =>
  zu_gd (zu_ib v18 142) <|
  zu_nx (zu_st X17 96 (v18.toNatClampNeg) (1 : Int32)) fun X21 =>
  zu_nx (fn_Mod_at v1 (5 : Int32)) fun v22 =>
  zu_gd (zu_ib v22 142) <|
  zu_nx (zu_st X21 96 (v22.toNatClampNeg) (8 : Int32)) fun X25 =>
  zu_nx (fn_Mod_at v1 (6 : Int32)) fun v26 =>
  zu_gd (zu_ib v26 142) <|
  zu_nx (zu_st X25 96 (v26.toNatClampNeg) (0 : Int32)) fun X29 =>
  zu_nx (fn_Mod_at v1 (7 : Int32)) fun v30 =>
  zu_gd (zu_ib v30 142) <|
  zu_nx (zu_st X29 96 (v30.toNatClampNeg) (0 : Int32)) fun X33 =>
  zu_nx (fn_Mod_at v1 (8 : Int32)) fun v34 =>
  zu_gd (zu_ib v34 142) <|
  zu_nx (zu_st X33 96 (v34.toNatClampNeg) (0 : Int32)) fun X37 =>
  zu_nx (zu_st X37 96 1 ((X37 96 1) + (1 : Int32))) fun X38 =>
  some (v1, X38)
/-! StonePostModel.finds -/
def fn_Mod_finds (a1 : Int32) (X : IX) : Option (Int32 × IX) :=
  zu_gd (zu_ib ((-1000001 : Int32) - a1) 7) <|
  zu_gd (zu_ib ((-1000001 : Int32) - a1) 7) <|
  zu_nx (zu_st X 99 (((-1000001 : Int32) - a1).toNatClampNeg) ((X 99 (((-1000001 : Int32) - a1).toNatClampNeg)) + (1 : Int32))) fun X3 =>
  some (a1, X3)
/-! StonePostModel.thrower -/
def fn_Mod_thrower_L67 (y0 : Int32) (X : IX) : Option (Int32 × IX) :=
  some (y0, X)
def fn_Mod_thrower_L19 (X : IX) : Option (Int32 × IX) :=
  zu_b2 (fn_Mod_finds (-1000001 : Int32) X) fun v20 X21 =>
  some (v20, X21)
def fn_Mod_thrower (a1 : Int32) (a2 : Int32) (X : IX) : Option (Int32 × IX) :=
  zu_b1 (fn_Mod_in (a1.toInt64) (0 : Int64) (6 : Int64)) fun v1 =>
  if v1 = 0 then
    fn_Mod_thrower_L19 X
  else
    zu_b1 (fn_Mod_isCell a2) fun v4 =>
    if v4 = 0 then
      fn_Mod_thrower_L19 X
    else
      zu_b1 (fn_Mod_standing X a2) fun v7 =>
      if v7 < 0 then
        if (X 96 1) = (10 : Int32) then
          zu_b2 (fn_Mod_finds (-1000002 : Int32) X) fun v14 X15 =>
          fn_Mod_thrower_L67 v14 X15
        else
          zu_b2 (fn_Mod_newThrower a1 a2 X) fun v11 X12 =>
          fn_Mod_thrower_L67 v11 X12
      else
        zu_b2 (fn_Mod_finds (-1000005 : Int32) X) fun v17 X18 =>
        some (v17, X18)
