/-! StonePost.isWithin -/
def fn_Post_isWithin_L15 (y0 : Int32) : Option Int32 :=
  zu_gd (zu_01 y0) <|
  some y0
def fn_Post_isWithin_L14 : Option Int32 :=
  fn_Post_isWithin_L15 (0 : Int32)
def fn_Post_isWithin (a0 : Int32) (a1 : Int32) (a2 : Int32) : Option Int32 :=
  if a0 < a1 then
    fn_Post_isWithin_L14
  else
    if a2 < a0 then
      fn_Post_isWithin_L14
    else
      fn_Post_isWithin_L15 (1 : Int32)
/-! StonePost.isCell -/
def fn_Post_isCell (a0 : Int32) : Option Int32 :=
  zu_b1 (fn_Post_isWithin a0 (0 : Int32) (23 : Int32)) fun v1 =>
  zu_gd (zu_01 v1) <|
  some v1
/-! StonePost.finding -/
def fn_Post_finding_L25 (x1 : Int32) (X : IX) : Option (Int32 × IX) :=
  some (x1, X)
def fn_Post_finding (a1 : Int32) (X : IX) : Option (Int32 × IX) :=
  zu_nx ((-1000001 : Int32) - a1) fun v1 =>
  zu_b1 (fn_Post_isWithin v1 (0 : Int32) (6 : Int32)) fun v2 =>
  if v2 = 0 then
    fn_Post_finding_L25 a1 X
  else
    zu_gd (zu_ib v1 7) <|
    zu_gd (zu_ib v1 7) <|
    zu_nx (zu_st X 11 (v1.toNatClampNeg) ((X 11 (v1.toNatClampNeg)) + (1 : Int32))) fun X7 =>
    fn_Post_finding_L25 a1 X7
/-! StonePost.stuff -/
def fn_Post_stuff_L16 (X : IX) : Option (Int32 × IX) :=
  zu_b2 (fn_Post_finding (-1000001 : Int32) X) fun v11 X12 =>
  some (v11, X12)
def fn_Post_stuff (a1 : Int32) (a2 : Int32) (X : IX) : Option (Int32 × IX) :=
  zu_b1 (fn_Post_isCell a1) fun v1 =>
  if v1 = 0 then
    fn_Post_stuff_L16 X
  else
    zu_b1 (fn_Post_isWithin a2 (0 : Int32) (3 : Int32)) fun v4 =>
    if v4 = 0 then
      fn_Post_stuff_L16 X
    else
      zu_gd (zu_ib a1 24) <|
      zu_nx (X (20 + 3) (a1.toNatClampNeg)) fun v8 =>
      zu_gd (zu_ib a1 24) <|
      zu_nx (zu_st X (20 + 3) (a1.toNatClampNeg) a2) fun X10 =>
      some (v8, X10)
/-! StonePost.rule -/
def fn_Post_rule_L62 (X : IX) : Option (Int32 × IX) :=
  zu_b2 (fn_Post_finding (-1000001 : Int32) X) fun v13 X14 =>
  some (v13, X14)
def fn_Post_rule_L29 (x1 : Int32) (x2 : Int32) (X : IX) : Option (Int32 × IX) :=
  if x1 = (1 : Int32) then
    zu_b1 (fn_Post_isWithin x2 (0 : Int32) (9 : Int32)) fun v8 =>
    if v8 = 0 then
      fn_Post_rule_L62 X
    else
      zu_nx (X 20 7) fun v11 =>
      zu_nx (zu_st X 20 7 x2) fun X12 =>
      some (v11, X12)
  else
    fn_Post_rule_L62 X
def fn_Post_rule (a1 : Int32) (a2 : Int32) (X : IX) : Option (Int32 × IX) :=
  if a1 = 0 then
    zu_b1 (fn_Post_isCell a2) fun v2 =>
    if v2 = 0 then
      fn_Post_rule_L29 a1 a2 X
    else
      zu_nx (X 20 6) fun v5 =>
      zu_nx (zu_st X 20 6 a2) fun X6 =>
      some (v5, X6)
  else
    fn_Post_rule_L29 a1 a2 X
/-! StonePost.isKind -/
def fn_Post_isKind (a0 : Int32) : Option Int32 :=
  zu_b1 (fn_Post_isWithin a0 (0 : Int32) (6 : Int32)) fun v1 =>
  zu_gd (zu_01 v1) <|
  some v1
/-! StonePost$Land.standingOn -/
def fn_Land_standingOn_B2 (X : IX) (k2 : Nat → Int32 → Int32 → Option Int32) (r0 : Nat) (x1 : Int32) (x2 : Int32) : Option Int32 :=
  if (X r0 4) ≤ x2 then
    some (-1 : Int32)
  else
    zu_gd (zu_ib x2 10) <|
    if (X ((zu_th (r0 + 6) (x2.toNatClampNeg)) + 30) 1) = x1 then
      some x2
    else
      zu_nx (x2 + (1 : Int32)) fun v4 =>
      k2 r0 x1 v4
def fn_Land_standingOn_L2 (X : IX) : Nat → Nat → Int32 → Int32 → Option Int32
  | 0, _, _, _ => none
  | n + 1, r0, x1, x2 => fn_Land_standingOn_B2 X (fn_Land_standingOn_L2 X n) r0 x1 x2
def fn_Land_standingOn (X : IX) (r0 : Nat) (a1 : Int32) : Option Int32 :=
  fn_Land_standingOn_L2 X 400 r0 a1 (0 : Int32)
/-! StonePost$Thrower.begin -/
def fn_Thr_begin (r0 : Nat) (a1 : Int32) (a2 : Int32) (X : IX) : Option IX :=
  zu_nx (zu_up X (r0 + 30) (va_cpy zs_first (X (r0 + 30)) 0 0 9)) fun X1 =>
  zu_nx (zu_st X1 (r0 + 30) 0 a1) fun X2 =>
  zu_nx (zu_st X2 (r0 + 30) 1 a2) fun X3 =>
  some X3
/-! StonePost$Land.addThrower -/
def fn_Land_addThrower (r0 : Nat) (a1 : Int32) (a2 : Int32) (X : IX) : Option (Int32 × IX) :=
  if (X r0 4) < (10 : Int32) then
    zu_gd (zu_ib (X r0 4) 10) <|
    zu_b1 (fn_Thr_begin (zu_th (r0 + 6) ((X r0 4).toNatClampNeg)) a1 a2 X) fun X3 =>
    zu_nx (zu_st X3 r0 4 ((X3 r0 4) + (1 : Int32))) fun X5 =>
    some ((X5 r0 4) - (1 : Int32), X5)
  else
    some ((-1 : Int32), X)
/-! StonePost.thrower -/
def fn_Post_thrower_L65 (y0 : Int32) (X : IX) : Option (Int32 × IX) :=
  some (y0, X)
def fn_Post_thrower_L14 (X : IX) : Option (Int32 × IX) :=
  zu_b2 (fn_Post_finding (-1000001 : Int32) X) fun v20 X21 =>
  some (v20, X21)
def fn_Post_thrower (a1 : Int32) (a2 : Int32) (X : IX) : Option (Int32 × IX) :=
  zu_b1 (fn_Post_isKind a1) fun v1 =>
  if v1 = 0 then
    fn_Post_thrower_L14 X
  else
    zu_b1 (fn_Post_isCell a2) fun v4 =>
    if v4 = 0 then
      fn_Post_thrower_L14 X
    else
      zu_b1 (fn_Land_standingOn X 20 a2) fun v7 =>
      if v7 = (-1 : Int32) then
        zu_b2 (fn_Land_addThrower 20 a1 a2 X) fun v10 X11 =>
        if v10 = (-1 : Int32) then
          zu_b2 (fn_Post_finding (-1000002 : Int32) X11) fun v14 X15 =>
          fn_Post_thrower_L65 v14 X15
        else
          fn_Post_thrower_L65 v10 X11
      else
        zu_b2 (fn_Post_finding (-1000005 : Int32) X) fun v17 X18 =>
        some (v17, X18)
/-! StonePost.isThrower -/
def fn_Post_isThrower (X : IX) (a1 : Int32) : Option Int32 :=
  zu_b1 (fn_Post_isWithin a1 (0 : Int32) ((X 20 4) - (1 : Int32))) fun v1 =>
  zu_gd (zu_01 v1) <|
  some v1
/-! StonePost.of -/
def fn_Post_of_L18 (X : IX) : Option (Int32 × IX) :=
  zu_b2 (fn_Post_finding (-1000001 : Int32) X) fun v9 X10 =>
  some (v9, X10)
def fn_Post_of (a1 : Int32) (a2 : Int32) (X : IX) : Option (Int32 × IX) :=
  zu_b1 (fn_Post_isThrower X a1) fun v1 =>
  if v1 = 0 then
    fn_Post_of_L18 X
  else
    zu_b1 (fn_Post_isWithin a2 (0 : Int32) (8 : Int32)) fun v4 =>
    if v4 = 0 then
      fn_Post_of_L18 X
    else
      zu_gd (zu_ib a1 10) <|
      zu_gd (zu_ib a2 9) <|
      some (X ((zu_th (20 + 6) (a1.toNatClampNeg)) + 30) (a2.toNatClampNeg), X)
/-! StonePost$Thrower.canBecome -/
def fn_Thr_canBecome_L32 (y0 : Int32) : Option Int32 :=
  zu_gd (zu_01 y0) <|
  some y0
def fn_Thr_canBecome_L31 : Option Int32 :=
  fn_Thr_canBecome_L32 (0 : Int32)
def fn_Thr_canBecome (a0 : Int32) (a1 : Int32) : Option Int32 :=
  zu_b1 (fn_Post_isWithin a0 (0 : Int32) (8 : Int32)) fun v1 =>
  if v1 = 0 then
    fn_Thr_canBecome_L31
  else
    zu_gd (zu_ib a0 9) <|
    zu_gd (zu_ib a0 9) <|
    zu_b1 (fn_Post_isWithin a1 (zs_least a0.toNatClampNeg) (zs_most a0.toNatClampNeg)) fun v6 =>
    if v6 = 0 then
      fn_Thr_canBecome_L31
    else
      fn_Thr_canBecome_L32 (1 : Int32)
/-! StonePost.change -/
def fn_Post_change_L16 (X : IX) : Option (Int32 × IX) :=
  zu_b2 (fn_Post_finding (-1000001 : Int32) X) fun v12 X13 =>
  some (v12, X13)
def fn_Post_change (a1 : Int32) (a2 : Int32) (a3 : Int32) (X : IX) : Option (Int32 × IX) :=
  zu_b1 (fn_Post_isThrower X a1) fun v1 =>
  if v1 = 0 then
    fn_Post_change_L16 X
  else
    zu_b1 (fn_Thr_canBecome a2 a3) fun v4 =>
    if v4 = 0 then
      fn_Post_change_L16 X
    else
      zu_gd (zu_ib a1 10) <|
      zu_gd (zu_ib a2 9) <|
      zu_nx (X ((zu_th (20 + 6) (a1.toNatClampNeg)) + 30) (a2.toNatClampNeg)) fun v9 =>
      zu_gd (zu_ib a2 9) <|
      zu_nx (zu_st X ((zu_th (20 + 6) (a1.toNatClampNeg)) + 30) (a2.toNatClampNeg) a3) fun X11 =>
      some (v9, X11)
/-! StonePost.walk -/
def fn_Post_walk_L48 (x1 : Int32) (x2 : Int32) (X : IX) : Option (Int32 × IX) :=
  zu_gd (zu_ib x1 10) <|
  zu_nx (X ((zu_th (20 + 6) (x1.toNatClampNeg)) + 30) 1) fun v18 =>
  zu_nx (zu_st X ((zu_th (20 + 6) (x1.toNatClampNeg)) + 30) 1 x2) fun X19 =>
  some (v18, X19)
def fn_Post_walk_L15 (X : IX) : Option (Int32 × IX) :=
  zu_b2 (fn_Post_finding (-1000001 : Int32) X) fun v14 X15 =>
  some (v14, X15)
def fn_Post_walk (a1 : Int32) (a2 : Int32) (X : IX) : Option (Int32 × IX) :=
  zu_b1 (fn_Post_isThrower X a1) fun v1 =>
  if v1 = 0 then
    fn_Post_walk_L15 X
  else
    zu_b1 (fn_Post_isCell a2) fun v4 =>
    if v4 = 0 then
      fn_Post_walk_L15 X
    else
      zu_b1 (fn_Land_standingOn X 20 a2) fun v7 =>
      if v7 = (-1 : Int32) then
        fn_Post_walk_L48 a1 a2 X
      else
        if v7 = a1 then
          fn_Post_walk_L48 a1 a2 X
        else
          zu_b2 (fn_Post_finding (-1000005 : Int32) X) fun v11 X12 =>
          some (v11, X12)
/-! StonePost.isThrow -/
def fn_Post_isThrow_L24 (y0 : Int32) : Option Int32 :=
  zu_gd (zu_01 y0) <|
  some y0
def fn_Post_isThrow_L23 : Option Int32 :=
  fn_Post_isThrow_L24 (0 : Int32)
def fn_Post_isThrow (a0 : Int32) (a1 : Int32) : Option Int32 :=
  zu_b1 (fn_Post_isWithin a0 (0 : Int32) (1 : Int32)) fun v1 =>
  if v1 = 0 then
    fn_Post_isThrow_L23
  else
    zu_b1 (fn_Post_isWithin a1 (0 : Int32) (23 : Int32)) fun v4 =>
    if v4 = 0 then
      fn_Post_isThrow_L23
    else
      fn_Post_isThrow_L24 (1 : Int32)
/-! StonePost.isNight -/
def fn_Post_isNight_L21 (y0 : Int32) : Option Int32 :=
  zu_gd (zu_01 y0) <|
  some y0
def fn_Post_isNight_L16 : Option Int32 :=
  fn_Post_isNight_L21 (1 : Int32)
def fn_Post_isNight (a0 : Int32) : Option Int32 :=
  zu_nx (a0 - a0 / (24 : Int32) * (24 : Int32)) fun v1 =>
  if (18 : Int32) ≤ v1 then
    fn_Post_isNight_L16
  else
    if (5 : Int32) < v1 then
      fn_Post_isNight_L21 (0 : Int32)
    else
      fn_Post_isNight_L16
/-! StonePost$Thrower.sure -/
def fn_Thr_sure_L95 (X : IX) (x3 : Int32) : Int32 :=
  x3
def fn_Thr_sure_L91 (X : IX) (y0 : Int32) : Int32 :=
  y0
def fn_Thr_sure_L26 (X : IX) (r0 : Nat) (x2 : Int32) (y0 : Int32) : Int32 :=
  zu_nx (X (r0 + 30) 0) fun v3 =>
  if v3 = (2 : Int32) then
    zu_nx (if (0 : Int32) < (y0 - (3 : Int32)) then (y0 - (3 : Int32)) else (0 : Int32)) fun v4 =>
    v4
  else
    if v3 = (3 : Int32) then
      fn_Thr_sure_L95 X y0
    else
      if v3 = (4 : Int32) then
        if x2 = 0 then
          zu_nx (if (0 : Int32) < (y0 - (3 : Int32)) then (y0 - (3 : Int32)) else (0 : Int32)) fun v6 =>
          fn_Thr_sure_L91 X v6
        else
          fn_Thr_sure_L91 X (0 : Int32)
      else
        if v3 = (5 : Int32) then
          fn_Thr_sure_L95 X y0
        else
          if v3 = (6 : Int32) then
            (12 : Int32)
          else
            fn_Thr_sure_L95 X y0
def fn_Thr_sure (X : IX) (r0 : Nat) (a1 : Int32) (a2 : Int32) : Int32 :=
  if a1 = (1 : Int32) then
    zu_nx (if (0 : Int32) < ((X (r0 + 30) 5) - (2 : Int32)) then ((X (r0 + 30) 5) - (2 : Int32)) else (0 : Int32)) fun v2 =>
    fn_Thr_sure_L26 X r0 a2 v2
  else
    fn_Thr_sure_L26 X r0 a2 (X (r0 + 30) 5)
/-! StonePost$Thrower.reach -/
def fn_Thr_reach_L99 (X : IX) (x3 : Int32) : Int32 :=
  x3
def fn_Thr_reach_L94 (X : IX) (y0 : Int32) : Int32 :=
  y0
def fn_Thr_reach_L82 (X : IX) (y0 : Int32) : Int32 :=
  y0
def fn_Thr_reach_L20 (X : IX) (r0 : Nat) (x1 : Int32) (x2 : Int32) (y0 : Int32) : Int32 :=
  zu_nx (X (r0 + 30) 0) fun v2 =>
  if v2 = (1 : Int32) then
    y0 + (1 : Int32)
  else
    if v2 = (2 : Int32) then
      fn_Thr_reach_L99 X y0
    else
      if v2 = (3 : Int32) then
        if x1 = (1 : Int32) then
          fn_Thr_reach_L82 X (y0 + (3 : Int32))
        else
          fn_Thr_reach_L82 X (y0 + (1 : Int32))
      else
        if v2 = (4 : Int32) then
          fn_Thr_reach_L99 X y0
        else
          if v2 = (5 : Int32) then
            if x2 = 0 then
              fn_Thr_reach_L94 X y0
            else
              fn_Thr_reach_L94 X (y0 - (1 : Int32))
          else
            if v2 = (6 : Int32) then
              y0 / (2 : Int32)
            else
              fn_Thr_reach_L99 X y0
def fn_Thr_reach (X : IX) (r0 : Nat) (a1 : Int32) (a2 : Int32) : Int32 :=
  if a1 = (1 : Int32) then
    fn_Thr_reach_L20 X r0 a1 a2 (X (r0 + 30) 3)
  else
    fn_Thr_reach_L20 X r0 a1 a2 (X (r0 + 30) 2)
/-! StonePost.told -/
def fn_Post_told_L73 (y0 : Int32) (X : IX) : Option (Int32 × IX) :=
  some (y0, X)
def fn_Post_told_L26 (X : IX) : Option (Int32 × IX) :=
  zu_b2 (fn_Post_finding (-1000001 : Int32) X) fun v20 X21 =>
  some (v20, X21)
def fn_Post_told (a1 : Int32) (a2 : Int32) (a3 : Int32) (a4 : Int32) (X : IX) : Option (Int32 × IX) :=
  zu_b1 (fn_Post_isThrower X a1) fun v1 =>
  if v1 = 0 then
    fn_Post_told_L26 X
  else
    zu_b1 (fn_Post_isWithin a2 (0 : Int32) (1 : Int32)) fun v4 =>
    if v4 = 0 then
      fn_Post_told_L26 X
    else
      zu_b1 (fn_Post_isThrow a3 a4) fun v7 =>
      if v7 = 0 then
        fn_Post_told_L26 X
      else
        zu_gd (zu_ib a1 10) <|
        if a2 = 0 then
          zu_b1 (fn_Post_isNight a4) fun v16 =>
          zu_nx (fn_Thr_reach X (zu_th (20 + 6) (a1.toNatClampNeg)) a3 v16) fun v18 =>
          fn_Post_told_L73 v18 X
        else
          zu_b1 (fn_Post_isNight a4) fun v12 =>
          zu_nx (fn_Thr_sure X (zu_th (20 + 6) (a1.toNatClampNeg)) a3 v12) fun v14 =>
          fn_Post_told_L73 v14 X
/-! StonePost$Thrower.cellAway -/
def fn_Thr_cellAway_L29 (X : IX) (y0 : Int32) : Int32 :=
  zu_nx (if y0 < (23 : Int32) then y0 else (23 : Int32)) fun v2 =>
  zu_nx (if (0 : Int32) < v2 then v2 else (0 : Int32)) fun v3 =>
  v3
def fn_Thr_cellAway (X : IX) (r0 : Nat) (a1 : Int32) : Int32 :=
  if (X (r0 + 30) 4) = (1 : Int32) then
    fn_Thr_cellAway_L29 X ((X (r0 + 30) 1) + a1)
  else
    fn_Thr_cellAway_L29 X ((X (r0 + 30) 1) - a1)
/-! StonePost$Thrower.toldCell -/
def fn_Thr_toldCell (X : IX) (r0 : Nat) (a1 : Int32) (a2 : Int32) : Int32 :=
  zu_nx (fn_Thr_reach X r0 a1 a2) fun v1 =>
  zu_nx (fn_Thr_cellAway X r0 v1) fun v3 =>
  v3
/-! StonePost$Thrower.shortCell -/
def fn_Thr_shortCell (X : IX) (r0 : Nat) (a1 : Int32) (a2 : Int32) : Int32 :=
  zu_nx (fn_Thr_reach X r0 a1 a2) fun v1 =>
  zu_nx (if (0 : Int32) < (v1 - (1 : Int32)) then (v1 - (1 : Int32)) else (0 : Int32)) fun v3 =>
  zu_nx (fn_Thr_cellAway X r0 v3) fun v4 =>
  v4
/-! StonePost.falls -/
def fn_Post_falls_L62 (y0 : Int32) (X : IX) : Option (Int32 × IX) :=
  some (y0, X)
def fn_Post_falls_L16 (X : IX) : Option (Int32 × IX) :=
  zu_b2 (fn_Post_finding (-1000001 : Int32) X) fun v17 X18 =>
  some (v17, X18)
def fn_Post_falls (a1 : Int32) (a2 : Int32) (a3 : Int32) (a4 : Int32) (X : IX) : Option (Int32 × IX) :=
  zu_b1 (fn_Post_isThrower X a1) fun v1 =>
  if v1 = 0 then
    fn_Post_falls_L16 X
  else
    zu_b1 (fn_Post_isThrow a2 a3) fun v4 =>
    if v4 = 0 then
      fn_Post_falls_L16 X
    else
      zu_gd (zu_ib a1 10) <|
      if a4 = 0 then
        zu_b1 (fn_Post_isNight a3) fun v9 =>
        zu_nx (fn_Thr_toldCell X (zu_th (20 + 6) (a1.toNatClampNeg)) a2 v9) fun v11 =>
        fn_Post_falls_L62 v11 X
      else
        zu_b1 (fn_Post_isNight a3) fun v13 =>
        zu_nx (fn_Thr_shortCell X (zu_th (20 + 6) (a1.toNatClampNeg)) a2 v13) fun v15 =>
        fn_Post_falls_L62 v15 X
/-! StonePost$Land.placeSort -/
def fn_Land_placeSort_L25 (X : IX) (y0 : Int32) : Option Int32 :=
  some y0
def fn_Land_placeSort (X : IX) (r0 : Nat) (a1 : Int32) : Option Int32 :=
  if a1 = (X r0 6) then
    some (0 : Int32)
  else
    zu_gd (zu_ib a1 24) <|
    if (X (r0 + 3) (a1.toNatClampNeg)) = (1 : Int32) then
      fn_Land_placeSort_L25 X (1 : Int32)
    else
      fn_Land_placeSort_L25 X (2 : Int32)
/-! StonePost$Land.staysOn -/
def fn_Land_staysOn_L14 (X : IX) (y0 : Int32) : Option Int32 :=
  zu_gd (zu_01 y0) <|
  some y0
def fn_Land_staysOn (X : IX) (r0 : Nat) (a1 : Int32) : Option Int32 :=
  zu_b1 (fn_Land_placeSort X r0 a1) fun v1 =>
  if v1 = (2 : Int32) then
    fn_Land_staysOn_L14 X (0 : Int32)
  else
    fn_Land_staysOn_L14 X (1 : Int32)
/-! StonePost$Thrower.isIll -/
def fn_Thr_isIll_L16 (X : IX) (y0 : Int32) : Option Int32 :=
  zu_gd (zu_01 y0) <|
  some y0
def fn_Thr_isIll (X : IX) (r0 : Nat) : Option Int32 :=
  if (X (r0 + 30) 7) = (1 : Int32) then
    fn_Thr_isIll_L16 X (1 : Int32)
  else
    fn_Thr_isIll_L16 X (0 : Int32)
/-! StonePost$Land.away -/
def fn_Land_away (X : IX) (r0 : Nat) (a1 : Int32) (a2 : Int32) : Option Int32 :=
  zu_gd (zu_ib a1 10) <|
  zu_nx (if 0 ≤ ((X ((zu_th (r0 + 6) (a1.toNatClampNeg)) + 30) 1) - a2) then ((X ((zu_th (r0 + 6) (a1.toNatClampNeg)) + 30) 1) - a2) else 0 - ((X ((zu_th (r0 + 6) (a1.toNatClampNeg)) + 30) 1) - a2)) fun v2 =>
  some v2
/-! StonePost$Land.isNearer -/
def fn_Land_isNearer_L66 (X : IX) (y0 : Int32) : Option Int32 :=
  zu_gd (zu_01 y0) <|
  some y0
def fn_Land_isNearer_L35 (X : IX) (y0 : Int32) : Option Int32 :=
  zu_gd (zu_01 y0) <|
  some y0
def fn_Land_isNearer (X : IX) (r0 : Nat) (a1 : Int32) (a2 : Int32) (a3 : Int32) : Option Int32 :=
  zu_b1 (fn_Land_away X r0 a1 a3) fun v1 =>
  zu_b1 (fn_Land_away X r0 a2 a3) fun v3 =>
  if v1 = v3 then
    zu_gd (zu_ib a1 10) <|
    zu_gd (zu_ib a2 10) <|
    if (X ((zu_th (r0 + 6) (a2.toNatClampNeg)) + 30) 1) ≤ (X ((zu_th (r0 + 6) (a1.toNatClampNeg)) + 30) 1) then
      fn_Land_isNearer_L66 X (0 : Int32)
    else
      fn_Land_isNearer_L66 X (1 : Int32)
  else
    zu_b1 (fn_Land_away X r0 a1 a3) fun v9 =>
    zu_b1 (fn_Land_away X r0 a2 a3) fun v11 =>
    if v11 ≤ v9 then
      fn_Land_isNearer_L35 X (0 : Int32)
    else
      fn_Land_isNearer_L35 X (1 : Int32)
/-! StonePost$Land.handFor -/
def fn_Land_handFor_L64 (X : IX) (k14 : Nat → Int32 → Int32 → Int32 → Option Int32) (r0 : Nat) (x1 : Int32) (x2 : Int32) (x3 : Int32) : Option Int32 :=
  zu_nx (x3 + (1 : Int32)) fun v16 =>
  k14 r0 x1 x2 v16
def fn_Land_handFor_L62 (X : IX) (k14 : Nat → Int32 → Int32 → Int32 → Option Int32) (r0 : Nat) (x1 : Int32) (x3 : Int32) : Option Int32 :=
  fn_Land_handFor_L64 X k14 r0 x1 x3 x3
def fn_Land_handFor_B14 (X : IX) (k14 : Nat → Int32 → Int32 → Int32 → Option Int32) (r0 : Nat) (x1 : Int32) (x2 : Int32) (x3 : Int32) : Option Int32 :=
  if (X r0 4) ≤ x3 then
    some x2
  else
    zu_gd (zu_ib x3 10) <|
    zu_b1 (fn_Thr_isIll X (zu_th (r0 + 6) (x3.toNatClampNeg))) fun v6 =>
    if v6 = 0 then
      zu_b1 (fn_Land_away X r0 x3 x1) fun v9 =>
      if (X r0 7) < v9 then
        fn_Land_handFor_L64 X k14 r0 x1 x2 x3
      else
        if x2 = (-1 : Int32) then
          fn_Land_handFor_L62 X k14 r0 x1 x3
        else
          zu_b1 (fn_Land_isNearer X r0 x3 x2 x1) fun v13 =>
          if v13 = 0 then
            fn_Land_handFor_L64 X k14 r0 x1 x2 x3
          else
            fn_Land_handFor_L62 X k14 r0 x1 x3
    else
      fn_Land_handFor_L64 X k14 r0 x1 x2 x3
def fn_Land_handFor_L14 (X : IX) : Nat → Nat → Int32 → Int32 → Int32 → Option Int32
  | 0, _, _, _, _ => none
  | n + 1, r0, x1, x2, x3 => fn_Land_handFor_B14 X (fn_Land_handFor_L14 X n) r0 x1 x2 x3
def fn_Land_handFor (X : IX) (r0 : Nat) (a1 : Int32) : Option Int32 :=
  zu_b1 (fn_Land_staysOn X r0 a1) fun v1 =>
  if v1 = 0 then
    fn_Land_handFor_L14 X 400 r0 a1 (-1 : Int32) (0 : Int32)
  else
    some (-1 : Int32)
/-! StonePost.next -/
def fn_Post_next_L38 (y0 : Int32) (X : IX) : Option (Int32 × IX) :=
  some (y0, X)
def fn_Post_next (a1 : Int32) (X : IX) : Option (Int32 × IX) :=
  zu_b1 (fn_Post_isCell a1) fun v1 =>
  if v1 = 0 then
    zu_b2 (fn_Post_finding (-1000001 : Int32) X) fun v10 X11 =>
    some (v10, X11)
  else
    zu_b1 (fn_Land_handFor X 20 a1) fun v4 =>
    if v4 = (-1 : Int32) then
      zu_b2 (fn_Post_finding (-1000004 : Int32) X) fun v7 X8 =>
      fn_Post_next_L38 v7 X8
    else
      fn_Post_next_L38 v4 X
/-! StonePost$Land.addLetter -/
def fn_Land_addLetter (r0 : Nat) (a1 : Int32) (X : IX) : Option (Int32 × IX) :=
  if (X r0 5) < (12 : Int32) then
    zu_gd (zu_ib (X r0 5) 12) <|
    zu_nx (zu_st X (r0 + 9) ((X r0 5).toNatClampNeg) a1) fun X3 =>
    zu_nx (zu_st X3 r0 5 ((X3 r0 5) + (1 : Int32))) fun X4 =>
    some ((X4 r0 5) - (1 : Int32), X4)
  else
    some ((-1 : Int32), X)
/-! StonePost.letter -/
def fn_Post_letter_L38 (y0 : Int32) (X : IX) : Option (Int32 × IX) :=
  some (y0, X)
def fn_Post_letter (a1 : Int32) (X : IX) : Option (Int32 × IX) :=
  zu_b1 (fn_Post_isCell a1) fun v1 =>
  if v1 = 0 then
    zu_b2 (fn_Post_finding (-1000001 : Int32) X) fun v11 X12 =>
    some (v11, X12)
  else
    zu_b2 (fn_Land_addLetter 20 a1 X) fun v4 X5 =>
    if v4 = (-1 : Int32) then
      zu_b2 (fn_Post_finding (-1000002 : Int32) X5) fun v8 X9 =>
      fn_Post_letter_L38 v8 X9
    else
      fn_Post_letter_L38 v4 X5
/-! StonePost.isLetter -/
def fn_Post_isLetter (X : IX) (a1 : Int32) : Option Int32 :=
  zu_b1 (fn_Post_isWithin a1 (0 : Int32) ((X 20 5) - (1 : Int32))) fun v1 =>
  zu_gd (zu_01 v1) <|
  some v1
/-! StonePost.where -/
def fn_Post_where_L26 (y0 : Int32) (X : IX) : Option (Int32 × IX) :=
  some (y0, X)
def fn_Post_where (a1 : Int32) (X : IX) : Option (Int32 × IX) :=
  zu_b1 (fn_Post_isLetter X a1) fun v1 =>
  if v1 = 0 then
    zu_b2 (fn_Post_finding (-1000001 : Int32) X) fun v4 X5 =>
    fn_Post_where_L26 v4 X5
  else
    zu_gd (zu_ib a1 12) <|
    fn_Post_where_L26 (X (20 + 9) (a1.toNatClampNeg)) X
/-! StonePost.take -/
def fn_Post_take_B40 (k40 : Int32 → Int32 → IX → Option (Int32 × IX)) (x2 : Int32) (x3 : Int32) (X : IX) : Option (Int32 × IX) :=
  if (X 20 5) ≤ x3 then
    some (x2, X)
  else
    zu_gd (zu_ib (x3 + (1 : Int32)) 12) <|
    zu_gd (zu_ib x3 12) <|
    zu_nx (zu_st X (20 + 9) (x3.toNatClampNeg) (X (20 + 9) ((x3 + (1 : Int32)).toNatClampNeg))) fun X13 =>
    zu_nx (x3 + (1 : Int32)) fun v14 =>
    k40 x2 v14 X13
def fn_Post_take_L40 : Nat → Int32 → Int32 → IX → Option (Int32 × IX)
  | 0, _, _, _ => none
  | n + 1, x2, x3, X => fn_Post_take_B40 (fn_Post_take_L40 n) x2 x3 X
def fn_Post_take (a1 : Int32) (X : IX) : Option (Int32 × IX) :=
  zu_b1 (fn_Post_isLetter X a1) fun v1 =>
  if v1 = 0 then
    zu_b2 (fn_Post_finding (-1000001 : Int32) X) fun v7 X8 =>
    some (v7, X8)
  else
    zu_gd (zu_ib a1 12) <|
    zu_nx (X (20 + 9) (a1.toNatClampNeg)) fun v5 =>
    zu_nx (zu_st X 20 5 ((X 20 5) - (1 : Int32))) fun X6 =>
    fn_Post_take_L40 400 v5 a1 X6
/-! StonePost$Land.choiceSet -/
def fn_Land_choiceSet_B4 (X : IX) (k4 : Nat → Int32 → Int32 → Option Int32) (r0 : Nat) (x1 : Int32) (x2 : Int32) : Option Int32 :=
  if (X r0 4) ≤ x2 then
    some x1
  else
    zu_gd (zu_ib x2 10) <|
    zu_nx (x1 ||| ((X ((zu_th (r0 + 6) (x2.toNatClampNeg)) + 30) 6) <<< (x2 &&& 31))) fun v3 =>
    zu_nx (x2 + (1 : Int32)) fun v4 =>
    k4 r0 v3 v4
def fn_Land_choiceSet_L4 (X : IX) : Nat → Nat → Int32 → Int32 → Option Int32
  | 0, _, _, _ => none
  | n + 1, r0, x1, x2 => fn_Land_choiceSet_B4 X (fn_Land_choiceSet_L4 X n) r0 x1 x2
def fn_Land_choiceSet (X : IX) (r0 : Nat) : Option Int32 :=
  fn_Land_choiceSet_L4 X 400 r0 (0 : Int32) (0 : Int32)
/-! StonePost$Land.isHedge -/
def fn_Land_isHedge_L15 (X : IX) (y0 : Int32) : Option Int32 :=
  zu_gd (zu_01 y0) <|
  some y0
def fn_Land_isHedge (X : IX) (r0 : Nat) (a1 : Int32) : Option Int32 :=
  zu_gd (zu_ib a1 24) <|
  if (X (r0 + 3) (a1.toNatClampNeg)) = (2 : Int32) then
    fn_Land_isHedge_L15 X (1 : Int32)
  else
    fn_Land_isHedge_L15 X (0 : Int32)
/-! StonePost$Chart.layThrows -/
def fn_Chart_layThrows_L17 (k2 : Nat → Int32 → Int32 → IX → Option IX) (r1 : Nat) (x2 : Int32) (x3 : Int32) (y0 : Int32) (X : IX) : Option IX :=
  zu_nx (x3 &&& (1 : Int32)) fun v3 =>
  zu_nx ((x3 * (24 : Int32)) + x2) fun v4 =>
  zu_nx (fn_Thr_toldCell X r1 v3 y0) fun v5 =>
  zu_gd (zu_ib v4 96) <|
  zu_nx (zu_st X 2 (v4.toNatClampNeg) v5) fun X8 =>
  zu_nx (fn_Thr_shortCell X8 r1 v3 y0) fun v9 =>
  zu_gd (zu_ib v4 96) <|
  zu_nx (zu_st X8 3 (v4.toNatClampNeg) v9) fun X12 =>
  zu_nx (fn_Thr_sure X12 r1 v3 y0) fun v13 =>
  zu_gd (zu_ib v4 96) <|
  zu_nx (zu_st X12 4 (v4.toNatClampNeg) v13) fun X16 =>
  zu_nx (x3 + (1 : Int32)) fun v17 =>
  k2 r1 x2 v17 X16
def fn_Chart_layThrows_B2 (k2 : Nat → Int32 → Int32 → IX → Option IX) (r1 : Nat) (x2 : Int32) (x3 : Int32) (X : IX) : Option IX :=
  if (4 : Int32) ≤ x3 then
    some X
  else
    if x3 < (2 : Int32) then
      fn_Chart_layThrows_L17 k2 r1 x2 x3 (0 : Int32) X
    else
      fn_Chart_layThrows_L17 k2 r1 x2 x3 (1 : Int32) X
def fn_Chart_layThrows_L2 : Nat → Nat → Int32 → Int32 → IX → Option IX
  | 0, _, _, _, _ => none
  | n + 1, r1, x2, x3, X => fn_Chart_layThrows_B2 (fn_Chart_layThrows_L2 n) r1 x2 x3 X
def fn_Chart_layThrows (r1 : Nat) (a2 : Int32) (X : IX) : Option IX :=
  fn_Chart_layThrows_L2 400 r1 a2 (0 : Int32) X
/-! StonePost$Land.isRoad -/
def fn_Land_isRoad_L15 (X : IX) (y0 : Int32) : Option Int32 :=
  zu_gd (zu_01 y0) <|
  some y0
def fn_Land_isRoad (X : IX) (r0 : Nat) (a1 : Int32) : Option Int32 :=
  zu_gd (zu_ib a1 24) <|
  if (X (r0 + 3) (a1.toNatClampNeg)) = (3 : Int32) then
    fn_Land_isRoad_L15 X (1 : Int32)
  else
    fn_Land_isRoad_L15 X (0 : Int32)
/-! StonePost$Chart.unfetchedCell -/
def fn_Chart_unfetchedCell_L35 (X : IX) (y0 : Int32) : Option Int32 :=
  some y0
def fn_Chart_unfetchedCell_L16 (X : IX) (x2 : Int32) : Option Int32 :=
  some x2
def fn_Chart_unfetchedCell (X : IX) (r1 : Nat) (a2 : Int32) : Option Int32 :=
  zu_b1 (fn_Land_staysOn X r1 a2) fun v1 =>
  if v1 = 0 then
    zu_b1 (fn_Land_isRoad X r1 a2) fun v4 =>
    if v4 = 0 then
      fn_Chart_unfetchedCell_L16 X a2
    else
      if (X r1 6) ≤ a2 then
        fn_Chart_unfetchedCell_L35 X (a2 - (1 : Int32))
      else
        fn_Chart_unfetchedCell_L35 X (a2 + (1 : Int32))
  else
    fn_Chart_unfetchedCell_L16 X a2
/-! StonePost$Chart.layPlain -/
def fn_Chart_layPlain_B3 (k3 : Int32 → Int32 → Int32 → Int32 → IX → Option IX) (x1 : Int32) (x2 : Int32) (x3 : Int32) (x4 : Int32) (X : IX) : Option IX :=
  if (96 : Int32) ≤ x4 then
    some X
  else
    zu_gd (zu_ib x4 96) <|
    zu_nx (zu_st X 2 (x4.toNatClampNeg) x2) fun X3 =>
    zu_gd (zu_ib x4 96) <|
    zu_nx (zu_st X3 3 (x4.toNatClampNeg) x1) fun X5 =>
    zu_gd (zu_ib x4 96) <|
    zu_nx (zu_st X5 4 (x4.toNatClampNeg) x3) fun X7 =>
    zu_nx (x4 + (24 : Int32)) fun v8 =>
    k3 x1 x2 x3 v8 X7
def fn_Chart_layPlain_L3 : Nat → Int32 → Int32 → Int32 → Int32 → IX → Option IX
  | 0, _, _, _, _, _ => none
  | n + 1, x1, x2, x3, x4, X => fn_Chart_layPlain_B3 (fn_Chart_layPlain_L3 n) x1 x2 x3 x4 X
def fn_Chart_layPlain (a1 : Int32) (a2 : Int32) (a3 : Int32) (X : IX) : Option IX :=
  fn_Chart_layPlain_L3 400 a1 a2 a3 a1 X
/-! StonePost$Chart.layCell -/
def fn_Chart_layCell_L94 (X : IX) : Option IX :=
  some X
def fn_Chart_layCell_L91 (y0 : Int32) (y1 : Int32) (y2 : Int32) (X : IX) : Option IX :=
  zu_b1 (fn_Chart_layPlain y2 y1 y0 X) fun X20 =>
  fn_Chart_layCell_L94 X20
def fn_Chart_layCell (r1 : Nat) (a2 : Int32) (X : IX) : Option IX :=
  zu_gd (zu_ib a2 24) <|
  zu_nx (zu_st X 5 (a2.toNatClampNeg) (-1 : Int32)) fun X2 =>
  zu_b1 (fn_Land_handFor X2 r1 a2) fun v3 =>
  if v3 = (-1 : Int32) then
    zu_b1 (fn_Chart_unfetchedCell X2 r1 a2) fun v16 =>
    zu_b1 (fn_Chart_layPlain a2 v16 (12 : Int32) X2) fun X18 =>
    some X18
  else
    zu_gd (zu_ib v3 10) <|
    zu_nx (X2 ((zu_th (r1 + 6) (v3.toNatClampNeg)) + 30) 1) fun v7 =>
    if v7 = a2 then
      zu_gd (zu_ib a2 24) <|
      zu_nx (zu_st X2 5 (a2.toNatClampNeg) v3) fun X13 =>
      zu_b1 (fn_Chart_layThrows (zu_th (r1 + 6) (v3.toNatClampNeg)) a2 X13) fun X14 =>
      fn_Chart_layCell_L94 X14
    else
      zu_b1 (fn_Land_isHedge X2 r1 a2) fun v9 =>
      if v9 = 0 then
        fn_Chart_layCell_L91 (12 : Int32) v7 a2 X2
      else
        fn_Chart_layCell_L91 (6 : Int32) v7 a2 X2
/-! StonePost$Chart.lay -/
def fn_Chart_lay_B26 (k26 : Nat → Int32 → IX → Option IX) (r1 : Nat) (x2 : Int32) (X : IX) : Option IX :=
  if (24 : Int32) ≤ x2 then
    some X
  else
    zu_b1 (fn_Chart_layCell r1 x2 X) fun X7 =>
    zu_nx (x2 + (1 : Int32)) fun v9 =>
    k26 r1 v9 X7
def fn_Chart_lay_L26 : Nat → Nat → Int32 → IX → Option IX
  | 0, _, _, _ => none
  | n + 1, r1, x2, X => fn_Chart_lay_B26 (fn_Chart_lay_L26 n) r1 x2 X
def fn_Chart_lay (r1 : Nat) (X : IX) : Option IX :=
  zu_b1 (fn_Land_choiceSet X r1) fun v1 =>
  zu_nx (zu_st X 1 6 v1) fun X3 =>
  zu_nx (zu_st X3 1 7 (X3 r1 8)) fun X4 =>
  zu_nx (zu_st X4 1 8 (X4 r1 6)) fun X5 =>
  fn_Chart_lay_L26 400 r1 (0 : Int32) X5
/-! StonePost$Chart.row -/
def fn_Chart_row_L19 (X : IX) (x1 : Int32) (y0 : Int32) : Option Int32 :=
  some ((y0 * (24 : Int32)) + x1)
def fn_Chart_row (X : IX) (a1 : Int32) (a2 : Int32) (a3 : Int32) : Option Int32 :=
  zu_b1 (fn_Post_isNight ((X 1 7) + a2)) fun v1 =>
  if v1 = 0 then
    fn_Chart_row_L19 X a1 a3
  else
    fn_Chart_row_L19 X a1 ((2 : Int32) + a3)
/-! StonePost$Chart.chosenRow -/
def fn_Chart_chosenRow_L27 (X : IX) (y0 : Int32) (y1 : Int32) (y2 : Int32) : Option Int32 :=
  zu_b1 (fn_Chart_row X y2 y1 y0) fun v4 =>
  some v4
def fn_Chart_chosenRow (X : IX) (a1 : Int32) (a2 : Int32) (a3 : Int32) : Option Int32 :=
  zu_gd (zu_ib a1 24) <|
  zu_nx (X 5 (a1.toNatClampNeg)) fun v2 =>
  if v2 = (-1 : Int32) then
    fn_Chart_chosenRow_L27 X (0 : Int32) a2 a1
  else
    fn_Chart_chosenRow_L27 X ((a3 >>> (v2 &&& 31)) &&& (1 : Int32)) a2 a1
/-! StonePost$Land.draw -/
def fn_Land_draw (r0 : Nat) (X : IX) : Option (Int32 × IX) :=
  zu_nx (zu_st X r0 9 (((X r0 9) * (1103515245 : Int32)) + (12345 : Int32))) fun X1 =>
  some (((X1 r0 9).toUInt32 >>> ((8 : Int32).toUInt32 &&& Int32.toUInt32 31)).toInt32, X1)
/-! StonePost.drawnCell -/
def fn_Post_drawnCell_L75 (y0 : Int32) (X : IX) : Option (Int32 × IX) :=
  some (y0, X)
def fn_Post_drawnCell (a1 : Int32) (X : IX) : Option (Int32 × IX) :=
  zu_gd (zu_ib a1 96) <|
  zu_nx (X 4 (a1.toNatClampNeg)) fun v2 =>
  if v2 = (12 : Int32) then
    zu_gd (zu_ib a1 96) <|
    some (X 2 (a1.toNatClampNeg), X)
  else
    if v2 = 0 then
      zu_gd (zu_ib a1 96) <|
      some (X 3 (a1.toNatClampNeg), X)
    else
      zu_b2 (fn_Land_draw 20 X) fun v5 X6 =>
      if v2 ≤ (v5 - v5 / (12 : Int32) * (12 : Int32)) then
        zu_gd (zu_ib a1 96) <|
        fn_Post_drawnCell_L75 (X6 3 (a1.toNatClampNeg)) X6
      else
        zu_gd (zu_ib a1 96) <|
        fn_Post_drawnCell_L75 (X6 2 (a1.toNatClampNeg)) X6
/-! StonePost.passHour -/
def fn_Post_passHour_L114 (k4 : Int32 → Int32 → Int32 → IX → Option (Int32 × IX)) (x1 : Int32) (x2 : Int32) (x3 : Int32) (x6 : Int32) (X : IX) : Option (Int32 × IX) :=
  zu_gd (zu_ib x3 12) <|
  zu_nx (zu_st X (20 + 9) (x3.toNatClampNeg) x6) fun X18 =>
  zu_nx (x3 + (1 : Int32)) fun v19 =>
  k4 x1 x2 v19 X18
def fn_Post_passHour_L64 (k4 : Int32 → Int32 → Int32 → IX → Option (Int32 × IX)) (x1 : Int32) (x2 : Int32) (x3 : Int32) (x4 : Int32) (X : IX) : Option (Int32 × IX) :=
  zu_b1 (fn_Chart_chosenRow X x4 x1 (X 1 6)) fun v9 =>
  zu_b2 (fn_Post_drawnCell v9 X) fun v11 X12 =>
  if v11 = (X12 20 6) then
    if x4 = (X12 20 6) then
      fn_Post_passHour_L114 k4 x1 x2 x3 v11 X12
    else
      zu_nx (x2 + (1 : Int32)) fun v16 =>
      fn_Post_passHour_L114 k4 x1 v16 x3 v11 X12
  else
    fn_Post_passHour_L114 k4 x1 x2 x3 v11 X12
def fn_Post_passHour_B4 (k4 : Int32 → Int32 → Int32 → IX → Option (Int32 × IX)) (x1 : Int32) (x2 : Int32) (x3 : Int32) (X : IX) : Option (Int32 × IX) :=
  if (X 20 5) ≤ x3 then
    some (x2, X)
  else
    zu_gd (zu_ib x3 12) <|
    zu_nx (X (20 + 9) (x3.toNatClampNeg)) fun v3 =>
    zu_gd (zu_ib v3 24) <|
    zu_nx (X 5 (v3.toNatClampNeg)) fun v5 =>
    if v5 = (-1 : Int32) then
      fn_Post_passHour_L64 k4 x1 x2 x3 v3 X
    else
      zu_gd (zu_ib v5 10) <|
      zu_nx (zu_st X ((zu_th (20 + 6) (v5.toNatClampNeg)) + 30) 8 ((X ((zu_th (20 + 6) (v5.toNatClampNeg)) + 30) 8) + (1 : Int32))) fun X8 =>
      fn_Post_passHour_L64 k4 x1 x2 x3 v3 X8
def fn_Post_passHour_L4 : Nat → Int32 → Int32 → Int32 → IX → Option (Int32 × IX)
  | 0, _, _, _, _ => none
  | n + 1, x1, x2, x3, X => fn_Post_passHour_B4 (fn_Post_passHour_L4 n) x1 x2 x3 X
def fn_Post_passHour (a1 : Int32) (X : IX) : Option (Int32 × IX) :=
  fn_Post_passHour_L4 400 a1 (0 : Int32) (0 : Int32) X
/-! StonePost.hours -/
def fn_Post_hours_B54 (k54 : Int32 → Int32 → Int32 → IX → Option (Int32 × IX)) (x1 : Int32) (x2 : Int32) (x3 : Int32) (X : IX) : Option (Int32 × IX) :=
  if x1 ≤ x3 then
    some (x2, X)
  else
    zu_b2 (fn_Post_passHour x3 X) fun v14 X15 =>
    zu_nx (x2 + v14) fun v17 =>
    zu_nx (zu_st X15 20 8 ((X15 20 8) + (1 : Int32))) fun X18 =>
    zu_nx (x3 + (1 : Int32)) fun v19 =>
    k54 x1 v17 v19 X18
def fn_Post_hours_L54 : Nat → Int32 → Int32 → Int32 → IX → Option (Int32 × IX)
  | 0, _, _, _, _ => none
  | n + 1, x1, x2, x3, X => fn_Post_hours_B54 (fn_Post_hours_L54 n) x1 x2 x3 X
def fn_Post_hours (a1 : Int32) (X : IX) : Option (Int32 × IX) :=
  zu_b1 (fn_Post_isWithin a1 (1 : Int32) (48 : Int32)) fun v1 =>
  if v1 = 0 then
    zu_b2 (fn_Post_finding (-1000001 : Int32) X) fun v10 X11 =>
    some (v10, X11)
  else
    if ((X 20 8) + a1) ≤ (9999 : Int32) then
      zu_b1 (fn_Chart_lay 20 X) fun X5 =>
      fn_Post_hours_L54 400 a1 (0 : Int32) (0 : Int32) X5
    else
      zu_b2 (fn_Post_finding (-1000005 : Int32) X) fun v7 X8 =>
      some (v7, X8)
/-! StonePost.letters -/
def fn_Post_letters_L54 (k20 : Int32 → Int32 → Int32 → IX → Option (Int32 × IX)) (x1 : Int32) (x2 : Int32) (x3 : Int32) (X : IX) : Option (Int32 × IX) :=
  zu_nx (x3 + (1 : Int32)) fun v13 =>
  k20 x1 x2 v13 X
def fn_Post_letters_B20 (k20 : Int32 → Int32 → Int32 → IX → Option (Int32 × IX)) (x1 : Int32) (x2 : Int32) (x3 : Int32) (X : IX) : Option (Int32 × IX) :=
  if (X 20 5) ≤ x3 then
    some (x2, X)
  else
    zu_gd (zu_ib x3 12) <|
    zu_b1 (fn_Land_placeSort X 20 (X (20 + 9) (x3.toNatClampNeg))) fun v9 =>
    if v9 = x1 then
      zu_nx (x2 + (1 : Int32)) fun v12 =>
      fn_Post_letters_L54 k20 x1 v12 x3 X
    else
      fn_Post_letters_L54 k20 x1 x2 x3 X
def fn_Post_letters_L20 : Nat → Int32 → Int32 → Int32 → IX → Option (Int32 × IX)
  | 0, _, _, _, _ => none
  | n + 1, x1, x2, x3, X => fn_Post_letters_B20 (fn_Post_letters_L20 n) x1 x2 x3 X
def fn_Post_letters (a1 : Int32) (X : IX) : Option (Int32 × IX) :=
  zu_b1 (fn_Post_isWithin a1 (0 : Int32) (2 : Int32)) fun v1 =>
  if v1 = 0 then
    zu_b2 (fn_Post_finding (-1000001 : Int32) X) fun v4 X5 =>
    some (v4, X5)
  else
    fn_Post_letters_L20 400 a1 (0 : Int32) (0 : Int32) X
/-! java/util/Arrays.fill -/
def fn_Arr_fillJ_12_B6 (k6 : Nat → Int64 → Int32 → Int32 → LX → Option LX) (r0 : Nat) (x1 : Int64) (x3 : Int32) (x4 : Int32) (Y : LX) : Option LX :=
  if x4 ≤ x3 then
    some Y
  else
    zu_gd (zu_ib x3 24) <|
    zu_nx (zu_stl Y r0 (x3.toNatClampNeg) x1) fun Y3 =>
    zu_nx (x3 + (1 : Int32)) fun v4 =>
    k6 r0 x1 v4 x4 Y3
def fn_Arr_fillJ_12_L6 : Nat → Nat → Int64 → Int32 → Int32 → LX → Option LX
  | 0, _, _, _, _, _ => none
  | n + 1, r0, x1, x3, x4, Y => fn_Arr_fillJ_12_B6 (fn_Arr_fillJ_12_L6 n) r0 x1 x3 x4 Y
def fn_Arr_fillJ_12 (r0 : Nat) (a1 : Int64) (Y : LX) : Option LX :=
  fn_Arr_fillJ_12_L6 400 r0 a1 (0 : Int32) (24 : Int32) Y
/-! StonePost$Chart.spread -/
def fn_Chart_spread_L130 (X : IX) (k18 : Int32 → Int32 → Int32 → LX → Option LX) (k35 : Int32 → Int32 → Int32 → Int32 → LX → Option LX) (x2 : Int32) (x3 : Int32) (x4 : Int32) (x5 : Int32) (Y : LX) : Option LX :=
  zu_nx (x5 + (1 : Int32)) fun v27 =>
  k35 x2 x3 x4 v27 Y
def fn_Chart_spread_B35 (X : IX) (k18 : Int32 → Int32 → Int32 → LX → Option LX) (k35 : Int32 → Int32 → Int32 → Int32 → LX → Option LX) (x2 : Int32) (x3 : Int32) (x4 : Int32) (x5 : Int32) (Y : LX) : Option LX :=
  if (24 : Int32) ≤ x5 then
    zu_nx (zu_upl Y 6 (va_cpy (Y 7) (Y 6) 0 0 24)) fun Y9 =>
    zu_nx (x4 + (1 : Int32)) fun v10 =>
    k18 x2 x3 v10 Y9
  else
    zu_gd (zu_ib x5 24) <|
    if (lg_cmp (Y 6 (x5.toNatClampNeg)) (0 : Int64)) = 0 then
      fn_Chart_spread_L130 X k18 k35 x2 x3 x4 x5 Y
    else
      zu_b1 (fn_Chart_chosenRow X x5 x4 x3) fun v13 =>
      zu_gd (zu_ib v13 96) <|
      zu_gd (zu_ib (X 2 (v13.toNatClampNeg)) 24) <|
      zu_gd (zu_ib x5 24) <|
      zu_gd (zu_ib v13 96) <|
      zu_gd (zu_ib (X 2 (v13.toNatClampNeg)) 24) <|
      zu_nx (zu_stl Y 7 ((X 2 (v13.toNatClampNeg)).toNatClampNeg) ((Y 7 ((X 2 (v13.toNatClampNeg)).toNatClampNeg)) + ((Y 6 (x5.toNatClampNeg)) * ((X 4 (v13.toNatClampNeg)).toInt64)))) fun Y20 =>
      zu_gd (zu_ib v13 96) <|
      zu_gd (zu_ib (X 3 (v13.toNatClampNeg)) 24) <|
      zu_gd (zu_ib x5 24) <|
      zu_gd (zu_ib v13 96) <|
      zu_gd (zu_ib (X 3 (v13.toNatClampNeg)) 24) <|
      zu_nx (zu_stl Y20 7 ((X 3 (v13.toNatClampNeg)).toNatClampNeg) ((Y20 7 ((X 3 (v13.toNatClampNeg)).toNatClampNeg)) + ((Y20 6 (x5.toNatClampNeg)) * (((12 : Int32) - (X 4 (v13.toNatClampNeg))).toInt64)))) fun Y26 =>
      fn_Chart_spread_L130 X k18 k35 x2 x3 x4 x5 Y26
def fn_Chart_spread_L35 (X : IX) (k18 : Int32 → Int32 → Int32 → LX → Option LX) : Nat → Int32 → Int32 → Int32 → Int32 → LX → Option LX
  | 0, _, _, _, _, _ => none
  | n + 1, x2, x3, x4, x5, Y => fn_Chart_spread_B35 X k18 (fn_Chart_spread_L35 X k18 n) x2 x3 x4 x5 Y
def fn_Chart_spread_B18 (X : IX) (k18 : Int32 → Int32 → Int32 → LX → Option LX) (x2 : Int32) (x3 : Int32) (x4 : Int32) (Y : LX) : Option LX :=
  if x2 ≤ x4 then
    some Y
  else
    zu_b1 (fn_Arr_fillJ_12 7 (0 : Int64) Y) fun Y6 =>
    fn_Chart_spread_L35 X k18 400 x2 x3 x4 (0 : Int32) Y6
def fn_Chart_spread_L18 (X : IX) : Nat → Int32 → Int32 → Int32 → LX → Option LX
  | 0, _, _, _, _ => none
  | n + 1, x2, x3, x4, Y => fn_Chart_spread_B18 X (fn_Chart_spread_L18 X n) x2 x3 x4 Y
def fn_Chart_spread (X : IX) (a1 : Int32) (a2 : Int32) (a3 : Int32) (Y : LX) : Option LX :=
  zu_b1 (fn_Arr_fillJ_12 6 (0 : Int64) Y) fun Y1 =>
  zu_gd (zu_ib a1 24) <|
  zu_nx (zu_stl Y1 6 (a1.toNatClampNeg) (1 : Int64)) fun Y4 =>
  fn_Chart_spread_L18 X 400 a2 a3 (0 : Int32) Y4
/-! StonePost.odds -/
def fn_Post_odds_L24 (X : IX) (Y : LX) : Option (Int64 × IX × LX) :=
  zu_b2 (fn_Post_finding (-1000001 : Int32) X) fun v15 X16 =>
  some (v15.toInt64, X16, Y)
def fn_Post_odds (a1 : Int32) (a2 : Int32) (a3 : Int32) (X : IX) (Y : LX) : Option (Int64 × IX × LX) :=
  zu_b1 (fn_Post_isCell a1) fun v1 =>
  if v1 = 0 then
    fn_Post_odds_L24 X Y
  else
    zu_b1 (fn_Post_isWithin a2 (0 : Int32) (15 : Int32)) fun v4 =>
    if v4 = 0 then
      fn_Post_odds_L24 X Y
    else
      zu_b1 (fn_Post_isCell a3) fun v7 =>
      if v7 = 0 then
        fn_Post_odds_L24 X Y
      else
        zu_b1 (fn_Chart_lay 20 X) fun X10 =>
        zu_b1 (fn_Chart_spread X10 a1 a2 (X10 1 6) Y) fun Y12 =>
        zu_gd (zu_ib a3 24) <|
        some (Y12 6 (a3.toNatClampNeg), X10, Y12)
/-! StonePost.lost -/
def fn_Post_lost_L90 (k57 : Int64 → Int32 → IX → LX → Option (Int64 × IX × LX)) (x3 : Int64) (x5 : Int32) (X : IX) (Y : LX) : Option (Int64 × IX × LX) :=
  zu_nx (x5 + (1 : Int32)) fun v20 =>
  k57 x3 v20 X Y
def fn_Post_lost_B57 (k57 : Int64 → Int32 → IX → LX → Option (Int64 × IX × LX)) (x3 : Int64) (x5 : Int32) (X : IX) (Y : LX) : Option (Int64 × IX × LX) :=
  if (24 : Int32) ≤ x5 then
    some (x3, X, Y)
  else
    zu_b1 (fn_Land_placeSort X 20 x5) fun v15 =>
    if v15 = (1 : Int32) then
      zu_gd (zu_ib x5 24) <|
      zu_nx (x3 + (Y 6 (x5.toNatClampNeg))) fun v19 =>
      fn_Post_lost_L90 k57 v19 x5 X Y
    else
      fn_Post_lost_L90 k57 x3 x5 X Y
def fn_Post_lost_L57 : Nat → Int64 → Int32 → IX → LX → Option (Int64 × IX × LX)
  | 0, _, _, _, _ => none
  | n + 1, x3, x5, X, Y => fn_Post_lost_B57 (fn_Post_lost_L57 n) x3 x5 X Y
def fn_Post_lost_L17 (X : IX) (Y : LX) : Option (Int64 × IX × LX) :=
  zu_b2 (fn_Post_finding (-1000001 : Int32) X) fun v11 X12 =>
  some (v11.toInt64, X12, Y)
def fn_Post_lost (a1 : Int32) (a2 : Int32) (X : IX) (Y : LX) : Option (Int64 × IX × LX) :=
  zu_b1 (fn_Post_isCell a1) fun v1 =>
  if v1 = 0 then
    fn_Post_lost_L17 X Y
  else
    zu_b1 (fn_Post_isWithin a2 (0 : Int32) (15 : Int32)) fun v4 =>
    if v4 = 0 then
      fn_Post_lost_L17 X Y
    else
      zu_b1 (fn_Chart_lay 20 X) fun X7 =>
      zu_b1 (fn_Chart_spread X7 a1 a2 (X7 1 6) Y) fun Y9 =>
      fn_Post_lost_L57 400 (0 : Int64) (0 : Int32) X7 Y9
/-! StonePost.likeliest -/
def fn_Post_likeliest_L89 (k56 : Int32 → Int32 → IX → LX → Option (Int32 × IX × LX)) (x3 : Int32) (x4 : Int32) (X : IX) (Y : LX) : Option (Int32 × IX × LX) :=
  zu_nx (x4 + (1 : Int32)) fun v18 =>
  k56 x3 v18 X Y
def fn_Post_likeliest_B56 (k56 : Int32 → Int32 → IX → LX → Option (Int32 × IX × LX)) (x3 : Int32) (x4 : Int32) (X : IX) (Y : LX) : Option (Int32 × IX × LX) :=
  if (24 : Int32) ≤ x4 then
    some (x3, X, Y)
  else
    zu_gd (zu_ib x4 24) <|
    zu_gd (zu_ib x3 24) <|
    if (lg_cmp (Y 6 (x4.toNatClampNeg)) (Y 6 (x3.toNatClampNeg))) ≤ 0 then
      fn_Post_likeliest_L89 k56 x3 x4 X Y
    else
      fn_Post_likeliest_L89 k56 x4 x4 X Y
def fn_Post_likeliest_L56 : Nat → Int32 → Int32 → IX → LX → Option (Int32 × IX × LX)
  | 0, _, _, _, _ => none
  | n + 1, x3, x4, X, Y => fn_Post_likeliest_B56 (fn_Post_likeliest_L56 n) x3 x4 X Y
def fn_Post_likeliest_L17 (X : IX) (Y : LX) : Option (Int32 × IX × LX) :=
  zu_b2 (fn_Post_finding (-1000001 : Int32) X) fun v11 X12 =>
  some (v11, X12, Y)
def fn_Post_likeliest (a1 : Int32) (a2 : Int32) (X : IX) (Y : LX) : Option (Int32 × IX × LX) :=
  zu_b1 (fn_Post_isCell a1) fun v1 =>
  if v1 = 0 then
    fn_Post_likeliest_L17 X Y
  else
    zu_b1 (fn_Post_isWithin a2 (0 : Int32) (15 : Int32)) fun v4 =>
    if v4 = 0 then
      fn_Post_likeliest_L17 X Y
    else
      zu_b1 (fn_Chart_lay 20 X) fun X7 =>
      zu_b1 (fn_Chart_spread X7 a1 a2 (X7 1 6) Y) fun Y9 =>
      fn_Post_likeliest_L56 400 (0 : Int32) (1 : Int32) X7 Y9
/-! StonePost$Chart.cellsOf -/
def fn_Chart_cellsOf_L44 (X : IX) (x2 : Int32) : Option Int32 :=
  some x2
def fn_Chart_cellsOf_L22 (X : IX) (x1 : Int32) (x2 : Int32) : Option Int32 :=
  zu_gd (zu_ib x1 96) <|
  if (12 : Int32) ≤ (X 4 (x1.toNatClampNeg)) then
    fn_Chart_cellsOf_L44 X x2
  else
    zu_gd (zu_ib x1 96) <|
    zu_nx (x2 ||| ((1 : Int32) <<< ((X 3 (x1.toNatClampNeg)) &&& 31))) fun v8 =>
    fn_Chart_cellsOf_L44 X v8
def fn_Chart_cellsOf (X : IX) (a1 : Int32) : Option Int32 :=
  zu_gd (zu_ib a1 96) <|
  if (X 4 (a1.toNatClampNeg)) ≤ 0 then
    fn_Chart_cellsOf_L22 X a1 (0 : Int32)
  else
    zu_gd (zu_ib a1 96) <|
    zu_nx ((0 : Int32) ||| ((1 : Int32) <<< ((X 2 (a1.toNatClampNeg)) &&& 31))) fun v4 =>
    fn_Chart_cellsOf_L22 X a1 v4
/-! StonePost$Chart.after -/
def fn_Chart_after_L40 (X : IX) (k5 : Int32 → Int32 → Int32 → Int32 → Option Int32) (x1 : Int32) (x2 : Int32) (x3 : Int32) (x4 : Int32) : Option Int32 :=
  zu_nx (x4 + (1 : Int32)) fun v8 =>
  k5 x1 x2 x3 v8
def fn_Chart_after_B5 (X : IX) (k5 : Int32 → Int32 → Int32 → Int32 → Option Int32) (x1 : Int32) (x2 : Int32) (x3 : Int32) (x4 : Int32) : Option Int32 :=
  if (24 : Int32) ≤ x4 then
    some x3
  else
    if ((x1 >>> (x4 &&& 31)) &&& (1 : Int32)) = (1 : Int32) then
      zu_b1 (fn_Chart_chosenRow X x4 x2 (X 1 6)) fun v3 =>
      zu_b1 (fn_Chart_cellsOf X v3) fun v5 =>
      zu_nx (x3 ||| v5) fun v7 =>
      fn_Chart_after_L40 X k5 x1 x2 v7 x4
    else
      fn_Chart_after_L40 X k5 x1 x2 x3 x4
def fn_Chart_after_L5 (X : IX) : Nat → Int32 → Int32 → Int32 → Int32 → Option Int32
  | 0, _, _, _, _ => none
  | n + 1, x1, x2, x3, x4 => fn_Chart_after_B5 X (fn_Chart_after_L5 X n) x1 x2 x3 x4
def fn_Chart_after (X : IX) (a1 : Int32) (a2 : Int32) : Option Int32 :=
  fn_Chart_after_L5 X 400 a1 a2 (0 : Int32) (0 : Int32)
/-! StonePost$Chart.afterAny -/
def fn_Chart_afterAny_L50 (X : IX) (k5 : Int32 → Int32 → Int32 → Int32 → Option Int32) (x1 : Int32) (x2 : Int32) (x3 : Int32) (x4 : Int32) : Option Int32 :=
  zu_nx (x4 + (1 : Int32)) fun v12 =>
  k5 x1 x2 x3 v12
def fn_Chart_afterAny_B5 (X : IX) (k5 : Int32 → Int32 → Int32 → Int32 → Option Int32) (x1 : Int32) (x2 : Int32) (x3 : Int32) (x4 : Int32) : Option Int32 :=
  if (24 : Int32) ≤ x4 then
    some x3
  else
    if ((x1 >>> (x4 &&& 31)) &&& (1 : Int32)) = (1 : Int32) then
      zu_b1 (fn_Chart_row X x4 x2 (0 : Int32)) fun v3 =>
      zu_b1 (fn_Chart_cellsOf X v3) fun v5 =>
      zu_b1 (fn_Chart_row X x4 x2 (1 : Int32)) fun v7 =>
      zu_b1 (fn_Chart_cellsOf X v7) fun v9 =>
      zu_nx (x3 ||| (v5 ||| v9)) fun v11 =>
      fn_Chart_afterAny_L50 X k5 x1 x2 v11 x4
    else
      fn_Chart_afterAny_L50 X k5 x1 x2 x3 x4
def fn_Chart_afterAny_L5 (X : IX) : Nat → Int32 → Int32 → Int32 → Int32 → Option Int32
  | 0, _, _, _, _ => none
  | n + 1, x1, x2, x3, x4 => fn_Chart_afterAny_B5 X (fn_Chart_afterAny_L5 X n) x1 x2 x3 x4
def fn_Chart_afterAny (X : IX) (a1 : Int32) (a2 : Int32) : Option Int32 :=
  fn_Chart_afterAny_L5 X 400 a1 a2 (0 : Int32) (0 : Int32)
/-! StonePost.hoursHome -/
def fn_Post_hoursHome_L84 (k32 : Int32 → Int32 → Int32 → IX → Option (Int32 × IX)) (x2 : Int32) (x4 : Int32) (y0 : Int32) (X : IX) : Option (Int32 × IX) :=
  zu_nx (x4 + (1 : Int32)) fun v20 =>
  k32 x2 y0 v20 X
def fn_Post_hoursHome_B32 (k32 : Int32 → Int32 → Int32 → IX → Option (Int32 × IX)) (x2 : Int32) (x3 : Int32) (x4 : Int32) (X : IX) : Option (Int32 × IX) :=
  if (60 : Int32) < x4 then
    zu_b2 (fn_Post_finding (-1000004 : Int32) X) fun v11 X12 =>
    some (v11, X12)
  else
    if ((x3 >>> ((X 20 6) &&& 31)) &&& (1 : Int32)) = (1 : Int32) then
      some (x4, X)
    else
      if x2 = 0 then
        zu_b1 (fn_Chart_after X x3 x4) fun v16 =>
        fn_Post_hoursHome_L84 k32 x2 x4 v16 X
      else
        zu_b1 (fn_Chart_afterAny X x3 x4) fun v18 =>
        fn_Post_hoursHome_L84 k32 x2 x4 v18 X
def fn_Post_hoursHome_L32 : Nat → Int32 → Int32 → Int32 → IX → Option (Int32 × IX)
  | 0, _, _, _, _ => none
  | n + 1, x2, x3, x4, X => fn_Post_hoursHome_B32 (fn_Post_hoursHome_L32 n) x2 x3 x4 X
def fn_Post_hoursHome (a1 : Int32) (a2 : Int32) (X : IX) : Option (Int32 × IX) :=
  zu_b1 (fn_Post_isCell a1) fun v1 =>
  if v1 = 0 then
    zu_b2 (fn_Post_finding (-1000001 : Int32) X) fun v7 X8 =>
    some (v7, X8)
  else
    zu_b1 (fn_Chart_lay 20 X) fun X4 =>
    zu_nx ((1 : Int32) <<< (a1 &&& 31)) fun v6 =>
    fn_Post_hoursHome_L32 400 a2 v6 (0 : Int32) X4
/-! StonePost.fewest -/
def fn_Post_fewest (a1 : Int32) (X : IX) : Option (Int32 × IX) :=
  zu_b2 (fn_Post_hoursHome a1 (0 : Int32) X) fun v1 X2 =>
  some (v1, X2)
/-! StonePost.free -/
def fn_Post_free (a1 : Int32) (X : IX) : Option (Int32 × IX) :=
  zu_b2 (fn_Post_hoursHome a1 (1 : Int32) X) fun v1 X2 =>
  some (v1, X2)
/-! StonePost.may -/
def fn_Post_may_B42 (k42 : Int32 → Int32 → Int32 → IX → Option (Int32 × IX)) (x2 : Int32) (x3 : Int32) (x4 : Int32) (X : IX) : Option (Int32 × IX) :=
  if x2 ≤ x4 then
    some (x3, X)
  else
    zu_b1 (fn_Chart_after X x3 x4) fun v14 =>
    zu_nx (x4 + (1 : Int32)) fun v16 =>
    k42 x2 v14 v16 X
def fn_Post_may_L42 : Nat → Int32 → Int32 → Int32 → IX → Option (Int32 × IX)
  | 0, _, _, _, _ => none
  | n + 1, x2, x3, x4, X => fn_Post_may_B42 (fn_Post_may_L42 n) x2 x3 x4 X
def fn_Post_may_L17 (X : IX) : Option (Int32 × IX) :=
  zu_b2 (fn_Post_finding (-1000001 : Int32) X) fun v10 X11 =>
  some (v10, X11)
def fn_Post_may (a1 : Int32) (a2 : Int32) (X : IX) : Option (Int32 × IX) :=
  zu_b1 (fn_Post_isCell a1) fun v1 =>
  if v1 = 0 then
    fn_Post_may_L17 X
  else
    zu_b1 (fn_Post_isWithin a2 (0 : Int32) (60 : Int32)) fun v4 =>
    if v4 = 0 then
      fn_Post_may_L17 X
    else
      zu_b1 (fn_Chart_lay 20 X) fun X7 =>
      zu_nx ((1 : Int32) <<< (a1 &&& 31)) fun v9 =>
      fn_Post_may_L42 400 a2 v9 (0 : Int32) X7
/-! StonePost$Chart.worth -/
def fn_Chart_worth (X : IX) (Y : LX) (a1 : Int32) : Option Int64 :=
  zu_gd (zu_ib a1 96) <|
  zu_gd (zu_ib (X 2 (a1.toNatClampNeg)) 24) <|
  zu_gd (zu_ib a1 96) <|
  zu_gd (zu_ib a1 96) <|
  zu_gd (zu_ib (X 3 (a1.toNatClampNeg)) 24) <|
  zu_gd (zu_ib a1 96) <|
  some (((Y 6 ((X 2 (a1.toNatClampNeg)).toNatClampNeg)) * ((X 4 (a1.toNatClampNeg)).toInt64)) + ((Y 6 ((X 3 (a1.toNatClampNeg)).toNatClampNeg)) * (((12 : Int32) - (X 4 (a1.toNatClampNeg))).toInt64)))
/-! StonePost$Chart.weigh -/
def fn_Chart_weigh_B30 (X : IX) (k22 : Int32 → Int32 → LX → Option LX) (k30 : Int32 → Int32 → Int32 → LX → Option LX) (x1 : Int32) (x3 : Int32) (x4 : Int32) (Y : LX) : Option LX :=
  if (24 : Int32) ≤ x4 then
    zu_nx (zu_upl Y 6 (va_cpy (Y 7) (Y 6) 0 0 24)) fun Y8 =>
    zu_nx (x3 + (-1 : Int32)) fun v9 =>
    k22 x1 v9 Y8
  else
    zu_b1 (fn_Chart_row X x4 x3 (0 : Int32)) fun v10 =>
    zu_b1 (fn_Chart_worth X Y v10) fun v12 =>
    zu_b1 (fn_Chart_row X x4 x3 (1 : Int32)) fun v14 =>
    zu_b1 (fn_Chart_worth X Y v14) fun v16 =>
    zu_nx (if v16 < v12 then v12 else v16) fun v18 =>
    zu_gd (zu_ib x4 24) <|
    zu_nx (zu_stl Y 7 (x4.toNatClampNeg) v18) fun Y20 =>
    zu_nx (x4 + (1 : Int32)) fun v21 =>
    k30 x1 x3 v21 Y20
def fn_Chart_weigh_L30 (X : IX) (k22 : Int32 → Int32 → LX → Option LX) : Nat → Int32 → Int32 → Int32 → LX → Option LX
  | 0, _, _, _, _ => none
  | n + 1, x1, x3, x4, Y => fn_Chart_weigh_B30 X k22 (fn_Chart_weigh_L30 X k22 n) x1 x3 x4 Y
def fn_Chart_weigh_B22 (X : IX) (k22 : Int32 → Int32 → LX → Option LX) (x1 : Int32) (x3 : Int32) (Y : LX) : Option LX :=
  if x3 < x1 then
    some Y
  else
    fn_Chart_weigh_L30 X k22 400 x1 x3 (0 : Int32) Y
def fn_Chart_weigh_L22 (X : IX) : Nat → Int32 → Int32 → LX → Option LX
  | 0, _, _, _ => none
  | n + 1, x1, x3, Y => fn_Chart_weigh_B22 X (fn_Chart_weigh_L22 X n) x1 x3 Y
def fn_Chart_weigh (X : IX) (a1 : Int32) (a2 : Int32) (Y : LX) : Option LX :=
  zu_b1 (fn_Arr_fillJ_12 6 (0 : Int64) Y) fun Y1 =>
  zu_gd (zu_ib (X 1 8) 24) <|
  zu_nx (zu_stl Y1 6 ((X 1 8).toNatClampNeg) (1 : Int64)) fun Y4 =>
  zu_nx (a2 - (1 : Int32)) fun v5 =>
  fn_Chart_weigh_L22 X 400 a1 v5 Y4
/-! StonePost.best -/
def fn_Post_best_L17 (X : IX) (Y : LX) : Option (Int64 × IX × LX) :=
  zu_b2 (fn_Post_finding (-1000001 : Int32) X) fun v12 X13 =>
  some (v12.toInt64, X13, Y)
def fn_Post_best (a1 : Int32) (a2 : Int32) (X : IX) (Y : LX) : Option (Int64 × IX × LX) :=
  zu_b1 (fn_Post_isCell a1) fun v1 =>
  if v1 = 0 then
    fn_Post_best_L17 X Y
  else
    zu_b1 (fn_Post_isWithin a2 (0 : Int32) (15 : Int32)) fun v4 =>
    if v4 = 0 then
      fn_Post_best_L17 X Y
    else
      zu_b1 (fn_Chart_lay 20 X) fun X7 =>
      zu_b1 (fn_Chart_weigh X7 (0 : Int32) a2 Y) fun Y9 =>
      zu_gd (zu_ib a1 24) <|
      some (Y9 6 (a1.toNatClampNeg), X7, Y9)
/-! StonePost.choose -/
def fn_Post_choose_L134 (y0 : Int32) (X : IX) (Y : LX) : Option (Int32 × IX × LX) :=
  some (y0, X, Y)
def fn_Post_choose_L62 (X : IX) (Y : LX) : Option (Int32 × IX × LX) :=
  zu_b2 (fn_Post_finding (-1000005 : Int32) X) fun v31 X32 =>
  some (v31, X32, Y)
def fn_Post_choose_L18 (X : IX) (Y : LX) : Option (Int32 × IX × LX) :=
  zu_b2 (fn_Post_finding (-1000001 : Int32) X) fun v28 X29 =>
  some (v28, X29, Y)
def fn_Post_choose (a1 : Int32) (a2 : Int32) (X : IX) (Y : LX) : Option (Int32 × IX × LX) :=
  zu_b1 (fn_Post_isThrower X a1) fun v1 =>
  if v1 = 0 then
    fn_Post_choose_L18 X Y
  else
    zu_b1 (fn_Post_isWithin a2 (1 : Int32) (15 : Int32)) fun v4 =>
    if v4 = 0 then
      fn_Post_choose_L18 X Y
    else
      zu_gd (zu_ib a1 10) <|
      zu_nx (X ((zu_th (20 + 6) (a1.toNatClampNeg)) + 30) 1) fun v8 =>
      zu_b1 (fn_Thr_isIll X (zu_th (20 + 6) (a1.toNatClampNeg))) fun v9 =>
      if v9 = 0 then
        zu_b1 (fn_Land_staysOn X 20 v8) fun v12 =>
        if v12 = 0 then
          zu_b1 (fn_Chart_lay 20 X) fun X15 =>
          zu_b1 (fn_Chart_weigh X15 (1 : Int32) a2 Y) fun Y17 =>
          zu_b1 (fn_Chart_row X15 v8 (0 : Int32) (1 : Int32)) fun v19 =>
          zu_b1 (fn_Chart_worth X15 Y17 v19) fun v21 =>
          zu_b1 (fn_Chart_row X15 v8 (0 : Int32) (0 : Int32)) fun v23 =>
          zu_b1 (fn_Chart_worth X15 Y17 v23) fun v25 =>
          if (lg_cmp v21 v25) ≤ 0 then
            fn_Post_choose_L134 (0 : Int32) X15 Y17
          else
            fn_Post_choose_L134 (1 : Int32) X15 Y17
        else
          fn_Post_choose_L62 X Y
      else
        fn_Post_choose_L62 X Y
/-! StonePost.plan -/
def fn_Post_plan_L130 (k64 : Int32 → Int32 → Int32 → Int64 → Int32 → IX → LX → Option (Int32 × IX × LX)) (x1 : Int32) (x2 : Int32) (x3 : Int32) (x4 : Int64) (x6 : Int32) (X : IX) (Y : LX) : Option (Int32 × IX × LX) :=
  zu_nx (x6 + (1 : Int32)) fun v23 =>
  k64 x1 x2 x3 x4 v23 X Y
def fn_Post_plan_B64 (k64 : Int32 → Int32 → Int32 → Int64 → Int32 → IX → LX → Option (Int32 × IX × LX)) (x1 : Int32) (x2 : Int32) (x3 : Int32) (x4 : Int64) (x6 : Int32) (X : IX) (Y : LX) : Option (Int32 × IX × LX) :=
  if ((1 : Int32) <<< ((X 20 4) &&& 31)) ≤ x6 then
    some (x3, X, Y)
  else
    zu_b1 (fn_Chart_spread X x1 x2 x6 Y) fun Y17 =>
    zu_gd (zu_ib (X 20 6) 24) <|
    if (lg_cmp (Y17 6 ((X 20 6).toNatClampNeg)) x4) ≤ 0 then
      fn_Post_plan_L130 k64 x1 x2 x3 x4 x6 X Y17
    else
      zu_gd (zu_ib (X 20 6) 24) <|
      zu_nx (Y17 6 ((X 20 6).toNatClampNeg)) fun v22 =>
      fn_Post_plan_L130 k64 x1 x2 x6 v22 x6 X Y17
def fn_Post_plan_L64 : Nat → Int32 → Int32 → Int32 → Int64 → Int32 → IX → LX → Option (Int32 × IX × LX)
  | 0, _, _, _, _, _, _, _ => none
  | n + 1, x1, x2, x3, x4, x6, X, Y => fn_Post_plan_B64 (fn_Post_plan_L64 n) x1 x2 x3 x4 x6 X Y
def fn_Post_plan_L17 (X : IX) (Y : LX) : Option (Int32 × IX × LX) :=
  zu_b2 (fn_Post_finding (-1000001 : Int32) X) fun v13 X14 =>
  some (v13, X14, Y)
def fn_Post_plan (a1 : Int32) (a2 : Int32) (X : IX) (Y : LX) : Option (Int32 × IX × LX) :=
  zu_b1 (fn_Post_isCell a1) fun v1 =>
  if v1 = 0 then
    fn_Post_plan_L17 X Y
  else
    zu_b1 (fn_Post_isWithin a2 (1 : Int32) (8 : Int32)) fun v4 =>
    if v4 = 0 then
      fn_Post_plan_L17 X Y
    else
      if (X 20 4) ≤ (8 : Int32) then
        zu_b1 (fn_Chart_lay 20 X) fun X8 =>
        fn_Post_plan_L64 400 a1 a2 (0 : Int32) (-1 : Int64) (0 : Int32) X8 Y
      else
        zu_b2 (fn_Post_finding (-1000007 : Int32) X) fun v10 X11 =>
        some (v10, X11, Y)
/-! java/lang/Integer.bitCount -/
def fn_Itg_bitCount (a0 : Int32) : Int32 :=
  zu_nx (a0 - (((a0.toUInt32 >>> ((1 : Int32).toUInt32 &&& Int32.toUInt32 31)).toInt32) &&& (1431655765 : Int32))) fun v1 =>
  zu_nx ((v1 &&& (858993459 : Int32)) + (((v1.toUInt32 >>> ((2 : Int32).toUInt32 &&& Int32.toUInt32 31)).toInt32) &&& (858993459 : Int32))) fun v2 =>
  zu_nx ((v2 + ((v2.toUInt32 >>> ((4 : Int32).toUInt32 &&& Int32.toUInt32 31)).toInt32)) &&& (252645135 : Int32)) fun v3 =>
  zu_nx (v3 + ((v3.toUInt32 >>> ((8 : Int32).toUInt32 &&& Int32.toUInt32 31)).toInt32)) fun v4 =>
  zu_nx (v4 + ((v4.toUInt32 >>> ((16 : Int32).toUInt32 &&& Int32.toUInt32 31)).toInt32)) fun v5 =>
  v5 &&& (63 : Int32)
/-! StonePost.set -/
def fn_Post_set_B41 (k41 : Int32 → Int32 → Int32 → IX → Option (Int32 × IX)) (x1 : Int32) (x2 : Int32) (x3 : Int32) (X : IX) : Option (Int32 × IX) :=
  if (X 20 4) ≤ x3 then
    some (x2, X)
  else
    zu_gd (zu_ib x3 10) <|
    zu_nx (zu_st X ((zu_th (20 + 6) (x3.toNatClampNeg)) + 30) 6 ((x1 >>> (x3 &&& 31)) &&& (1 : Int32))) fun X13 =>
    zu_nx (x3 + (1 : Int32)) fun v14 =>
    k41 x1 x2 v14 X13
def fn_Post_set_L41 : Nat → Int32 → Int32 → Int32 → IX → Option (Int32 × IX)
  | 0, _, _, _, _ => none
  | n + 1, x1, x2, x3, X => fn_Post_set_B41 (fn_Post_set_L41 n) x1 x2 x3 X
def fn_Post_set (a1 : Int32) (X : IX) : Option (Int32 × IX) :=
  zu_b1 (fn_Post_isWithin a1 (0 : Int32) (((1 : Int32) <<< ((X 20 4) &&& 31)) - (1 : Int32))) fun v1 =>
  if v1 = 0 then
    zu_b2 (fn_Post_finding (-1000001 : Int32) X) fun v8 X9 =>
    some (v8, X9)
  else
    zu_b1 (fn_Land_choiceSet X 20) fun v4 =>
    zu_nx (fn_Itg_bitCount (a1 ^^^ v4)) fun v6 =>
    fn_Post_set_L41 400 a1 v6 (0 : Int32) X
/-! StonePost$Land.become -/
def fn_Land_become_B47 (k47 : Nat → Nat → Int32 → IX → Option IX) (r0 : Nat) (r1 : Nat) (x2 : Int32) (X : IX) : Option IX :=
  if (10 : Int32) ≤ x2 then
    zu_nx (zu_st X r0 4 (X r1 4)) fun X5 =>
    zu_nx (zu_st X5 r0 5 (X5 r1 5)) fun X6 =>
    zu_nx (zu_st X6 r0 6 (X6 r1 6)) fun X7 =>
    zu_nx (zu_st X7 r0 7 (X7 r1 7)) fun X8 =>
    zu_nx (zu_st X8 r0 8 (X8 r1 8)) fun X9 =>
    zu_nx (zu_st X9 r0 9 (X9 r1 9)) fun X10 =>
    some X10
  else
    zu_gd (zu_ib x2 10) <|
    zu_gd (zu_ib x2 10) <|
    zu_nx (zu_up X ((zu_th (r0 + 6) (x2.toNatClampNeg)) + 30) (va_cpy (X ((zu_th (r1 + 6) (x2.toNatClampNeg)) + 30)) (X ((zu_th (r0 + 6) (x2.toNatClampNeg)) + 30)) 0 0 9)) fun X13 =>
    zu_nx (x2 + (1 : Int32)) fun v14 =>
    k47 r0 r1 v14 X13
def fn_Land_become_L47 : Nat → Nat → Nat → Int32 → IX → Option IX
  | 0, _, _, _, _ => none
  | n + 1, r0, r1, x2, X => fn_Land_become_B47 (fn_Land_become_L47 n) r0 r1 x2 X
def fn_Land_become (r0 : Nat) (r1 : Nat) (X : IX) : Option IX :=
  zu_nx (zu_up X (r0 + 3) (va_cpy (X (r1 + 3)) (X (r0 + 3)) 0 0 24)) fun X1 =>
  zu_nx (zu_up X1 (r0 + 9) (va_cpy (X1 (r1 + 9)) (X1 (r0 + 9)) 0 0 12)) fun X2 =>
  zu_nx (zu_up X2 (r0 + 12) (va_cpy (X2 (r1 + 12)) (X2 (r0 + 12)) 0 0 10)) fun X3 =>
  fn_Land_become_L47 400 r0 r1 (0 : Int32) X3
/-! StonePost.homeParts -/
def fn_Post_homeParts (r1 : Nat) (a2 : Int32) (a3 : Int32) (X : IX) (Y : LX) : Option (Int64 × IX × LX) :=
  zu_b1 (fn_Chart_lay r1 X) fun X1 =>
  zu_b1 (fn_Chart_spread X1 a2 a3 (X1 1 6) Y) fun Y3 =>
  zu_gd (zu_ib (X1 r1 6) 24) <|
  some (Y3 6 ((X1 r1 6).toNatClampNeg), X1, Y3)
/-! StonePost.missed -/
def fn_Post_missed_L158 (y0 : Int32) (X : IX) (Y : LX) : Option (Int32 × IX × LX) :=
  some (y0, X, Y)
def fn_Post_missed_L137 (k43 : Int32 → Int32 → Int32 → Int64 → Int32 → IX → LX → Option (Int32 × IX × LX)) (x1 : Int32) (x2 : Int32) (x3 : Int32) (x4 : Int64) (x6 : Int32) (X : IX) (Y : LX) : Option (Int32 × IX × LX) :=
  zu_nx (x6 + (1 : Int32)) fun v31 =>
  k43 x1 x2 x3 x4 v31 X Y
def fn_Post_missed_L130 (k43 : Int32 → Int32 → Int32 → Int64 → Int32 → IX → LX → Option (Int32 × IX × LX)) (x1 : Int32) (x2 : Int32) (x6 : Int32) (x7 : Int64) (X : IX) (Y : LX) : Option (Int32 × IX × LX) :=
  fn_Post_missed_L137 k43 x1 x2 x6 x7 x6 X Y
def fn_Post_missed_B43 (k43 : Int32 → Int32 → Int32 → Int64 → Int32 → IX → LX → Option (Int32 × IX × LX)) (x1 : Int32) (x2 : Int32) (x3 : Int32) (x4 : Int64) (x6 : Int32) (X : IX) (Y : LX) : Option (Int32 × IX × LX) :=
  if (X 22 4) ≤ x6 then
    if x3 = (-1 : Int32) then
      zu_b2 (fn_Post_finding (-1000004 : Int32) X) fun v14 X15 =>
      fn_Post_missed_L158 v14 X15 Y
    else
      fn_Post_missed_L158 x3 X Y
  else
    zu_gd (zu_ib x6 10) <|
    zu_b1 (fn_Thr_isIll X (zu_th (22 + 6) (x6.toNatClampNeg))) fun v18 =>
    if v18 = 0 then
      zu_gd (zu_ib x6 10) <|
      zu_nx (zu_st X ((zu_th (22 + 6) (x6.toNatClampNeg)) + 30) 7 (1 : Int32)) fun X22 =>
      zu_b3 (fn_Post_homeParts 22 x1 x2 X22 Y) fun v23 X24 Y25 =>
      zu_gd (zu_ib x6 10) <|
      zu_nx (zu_st X24 ((zu_th (22 + 6) (x6.toNatClampNeg)) + 30) 7 (0 : Int32)) fun X28 =>
      if x3 = (-1 : Int32) then
        fn_Post_missed_L130 k43 x1 x2 x6 v23 X28 Y25
      else
        if 0 ≤ (lg_cmp v23 x4) then
          fn_Post_missed_L137 k43 x1 x2 x3 x4 x6 X28 Y25
        else
          fn_Post_missed_L130 k43 x1 x2 x6 v23 X28 Y25
    else
      fn_Post_missed_L137 k43 x1 x2 x3 x4 x6 X Y
def fn_Post_missed_L43 : Nat → Int32 → Int32 → Int32 → Int64 → Int32 → IX → LX → Option (Int32 × IX × LX)
  | 0, _, _, _, _, _, _, _ => none
  | n + 1, x1, x2, x3, x4, x6, X, Y => fn_Post_missed_B43 (fn_Post_missed_L43 n) x1 x2 x3 x4 x6 X Y
def fn_Post_missed_L17 (X : IX) (Y : LX) : Option (Int32 × IX × LX) :=
  zu_b2 (fn_Post_finding (-1000001 : Int32) X) fun v9 X10 =>
  some (v9, X10, Y)
def fn_Post_missed (a1 : Int32) (a2 : Int32) (X : IX) (Y : LX) : Option (Int32 × IX × LX) :=
  zu_b1 (fn_Post_isCell a1) fun v1 =>
  if v1 = 0 then
    fn_Post_missed_L17 X Y
  else
    zu_b1 (fn_Post_isWithin a2 (1 : Int32) (10 : Int32)) fun v4 =>
    if v4 = 0 then
      fn_Post_missed_L17 X Y
    else
      zu_b1 (fn_Land_become 22 20 X) fun X7 =>
      fn_Post_missed_L43 400 a1 a2 (-1 : Int32) (0 : Int64) (0 : Int32) X7 Y
/-! StonePost.stand -/
def fn_Post_stand_L136 (k82 : Int32 → Int32 → Nat → Int32 → Int64 → Int32 → IX → LX → Option (Int32 × IX × LX)) (x1 : Int32) (x2 : Int32) (r4 : Nat) (x5 : Int32) (x6 : Int64) (x8 : Int32) (X : IX) (Y : LX) : Option (Int32 × IX × LX) :=
  zu_nx (x8 + (1 : Int32)) fun v30 =>
  k82 x1 x2 r4 x5 x6 v30 X Y
def fn_Post_stand_B82 (k82 : Int32 → Int32 → Nat → Int32 → Int64 → Int32 → IX → LX → Option (Int32 × IX × LX)) (x1 : Int32) (x2 : Int32) (r4 : Nat) (x5 : Int32) (x6 : Int64) (x8 : Int32) (X : IX) (Y : LX) : Option (Int32 × IX × LX) :=
  if (24 : Int32) ≤ x8 then
    some (x5, X, Y)
  else
    zu_b1 (fn_Land_standingOn X 20 x8) fun v21 =>
    if v21 = (-1 : Int32) then
      zu_nx (zu_st X r4 1 x8) fun X24 =>
      zu_b3 (fn_Post_homeParts 22 x1 x2 X24 Y) fun v25 X26 Y27 =>
      if (lg_cmp v25 x6) ≤ 0 then
        fn_Post_stand_L136 k82 x1 x2 r4 x5 x6 x8 X26 Y27
      else
        fn_Post_stand_L136 k82 x1 x2 r4 x8 v25 x8 X26 Y27
    else
      fn_Post_stand_L136 k82 x1 x2 r4 x5 x6 x8 X Y
def fn_Post_stand_L82 : Nat → Int32 → Int32 → Nat → Int32 → Int64 → Int32 → IX → LX → Option (Int32 × IX × LX)
  | 0, _, _, _, _, _, _, _, _ => none
  | n + 1, x1, x2, r4, x5, x6, x8, X, Y => fn_Post_stand_B82 (fn_Post_stand_L82 n) x1 x2 r4 x5 x6 x8 X Y
def fn_Post_stand_L17 (X : IX) (Y : LX) : Option (Int32 × IX × LX) :=
  zu_b2 (fn_Post_finding (-1000001 : Int32) X) fun v17 X18 =>
  some (v17, X18, Y)
def fn_Post_stand (a1 : Int32) (a2 : Int32) (X : IX) (Y : LX) : Option (Int32 × IX × LX) :=
  zu_b1 (fn_Post_isCell a1) fun v1 =>
  if v1 = 0 then
    fn_Post_stand_L17 X Y
  else
    zu_b1 (fn_Post_isWithin a2 (1 : Int32) (10 : Int32)) fun v4 =>
    if v4 = 0 then
      fn_Post_stand_L17 X Y
    else
      zu_b1 (fn_Land_become 22 20 X) fun X7 =>
      zu_b2 (fn_Land_addThrower 22 (0 : Int32) (0 : Int32) X7) fun v9 X10 =>
      if v9 = (-1 : Int32) then
        zu_b2 (fn_Post_finding (-1000002 : Int32) X10) fun v14 X15 =>
        some (v14, X15, Y)
      else
        zu_gd (zu_ib v9 10) <|
        fn_Post_stand_L82 400 a1 a2 ((zu_th (22 + 6) (v9.toNatClampNeg)) + 30) (0 : Int32) (-1 : Int64) (0 : Int32) X10 Y
/-! StonePost.fetchFor -/
def fn_Post_fetchFor_L88 (k45 : Int32 → Int32 → Int32 → Int64 → Int32 → IX → LX → Option (Int32 × IX × LX)) (x1 : Int32) (x2 : Int32) (x3 : Int32) (x4 : Int64) (x6 : Int32) (X : IX) (Y : LX) : Option (Int32 × IX × LX) :=
  zu_nx (x6 + (1 : Int32)) fun v19 =>
  k45 x1 x2 x3 x4 v19 X Y
def fn_Post_fetchFor_B45 (k45 : Int32 → Int32 → Int32 → Int64 → Int32 → IX → LX → Option (Int32 × IX × LX)) (x1 : Int32) (x2 : Int32) (x3 : Int32) (x4 : Int64) (x6 : Int32) (X : IX) (Y : LX) : Option (Int32 × IX × LX) :=
  if (9 : Int32) < x6 then
    some (x3, X, Y)
  else
    zu_nx (zu_st X 22 7 x6) fun X13 =>
    zu_b3 (fn_Post_homeParts 22 x1 x2 X13 Y) fun v14 X15 Y16 =>
    if (lg_cmp v14 x4) ≤ 0 then
      fn_Post_fetchFor_L88 k45 x1 x2 x3 x4 x6 X15 Y16
    else
      fn_Post_fetchFor_L88 k45 x1 x2 x6 v14 x6 X15 Y16
def fn_Post_fetchFor_L45 : Nat → Int32 → Int32 → Int32 → Int64 → Int32 → IX → LX → Option (Int32 × IX × LX)
  | 0, _, _, _, _, _, _, _ => none
  | n + 1, x1, x2, x3, x4, x6, X, Y => fn_Post_fetchFor_B45 (fn_Post_fetchFor_L45 n) x1 x2 x3 x4 x6 X Y
def fn_Post_fetchFor_L17 (X : IX) (Y : LX) : Option (Int32 × IX × LX) :=
  zu_b2 (fn_Post_finding (-1000001 : Int32) X) fun v9 X10 =>
  some (v9, X10, Y)
def fn_Post_fetchFor (a1 : Int32) (a2 : Int32) (X : IX) (Y : LX) : Option (Int32 × IX × LX) :=
  zu_b1 (fn_Post_isCell a1) fun v1 =>
  if v1 = 0 then
    fn_Post_fetchFor_L17 X Y
  else
    zu_b1 (fn_Post_isWithin a2 (1 : Int32) (10 : Int32)) fun v4 =>
    if v4 = 0 then
      fn_Post_fetchFor_L17 X Y
    else
      zu_b1 (fn_Land_become 22 20 X) fun X7 =>
      fn_Post_fetchFor_L45 400 a1 a2 (0 : Int32) (-1 : Int64) (0 : Int32) X7 Y
/-! StonePost.copies -/
def fn_Post_copies_B30 (k30 : Int32 → Int32 → Int64 → Int32 → IX → LX → Option (Int64 × IX × LX)) (x1 : Int32) (x2 : Int32) (x3 : Int64) (x5 : Int32) (X : IX) (Y : LX) : Option (Int64 × IX × LX) :=
  if x2 ≤ x5 then
    zu_b3 (fn_Post_homeParts 20 x1 x2 X Y) fun v11 X12 Y13 =>
    zu_nx (x3 - v11) fun v15 =>
    some ((x3 * x3) - (v15 * v15), X12, Y13)
  else
    zu_nx (x3 * (12 : Int64)) fun v16 =>
    zu_nx (x5 + (1 : Int32)) fun v17 =>
    k30 x1 x2 v16 v17 X Y
def fn_Post_copies_L30 : Nat → Int32 → Int32 → Int64 → Int32 → IX → LX → Option (Int64 × IX × LX)
  | 0, _, _, _, _, _, _ => none
  | n + 1, x1, x2, x3, x5, X, Y => fn_Post_copies_B30 (fn_Post_copies_L30 n) x1 x2 x3 x5 X Y
def fn_Post_copies_L17 (X : IX) (Y : LX) : Option (Int64 × IX × LX) :=
  zu_b2 (fn_Post_finding (-1000001 : Int32) X) fun v7 X8 =>
  some (v7.toInt64, X8, Y)
def fn_Post_copies (a1 : Int32) (a2 : Int32) (X : IX) (Y : LX) : Option (Int64 × IX × LX) :=
  zu_b1 (fn_Post_isCell a1) fun v1 =>
  if v1 = 0 then
    fn_Post_copies_L17 X Y
  else
    zu_b1 (fn_Post_isWithin a2 (0 : Int32) (7 : Int32)) fun v4 =>
    if v4 = 0 then
      fn_Post_copies_L17 X Y
    else
      fn_Post_copies_L30 400 a1 a2 (1 : Int64) (0 : Int32) X Y
/-! StonePost$Thrower.canHit -/
def fn_Thr_canHit_L49 (X : IX) (k2 : Nat → Int32 → Int32 → Int32 → Option Int32) (r0 : Nat) (x1 : Int32) (x2 : Int32) (x3 : Int32) : Option Int32 :=
  zu_nx (x3 + (1 : Int32)) fun v12 =>
  k2 r0 x1 x2 v12
def fn_Thr_canHit_L47 (X : IX) : Option Int32 :=
  some (1 : Int32)
def fn_Thr_canHit_L30 (X : IX) (k2 : Nat → Int32 → Int32 → Int32 → Option Int32) (r0 : Nat) (x1 : Int32) (x2 : Int32) (x3 : Int32) (x4 : Int32) : Option Int32 :=
  if (12 : Int32) ≤ x4 then
    fn_Thr_canHit_L49 X k2 r0 x1 x2 x3
  else
    zu_nx (fn_Thr_shortCell X r0 x3 x2) fun v9 =>
    if v9 = x1 then
      fn_Thr_canHit_L47 X
    else
      fn_Thr_canHit_L49 X k2 r0 x1 x2 x3
def fn_Thr_canHit_B2 (X : IX) (k2 : Nat → Int32 → Int32 → Int32 → Option Int32) (r0 : Nat) (x1 : Int32) (x2 : Int32) (x3 : Int32) : Option Int32 :=
  if (1 : Int32) < x3 then
    some (0 : Int32)
  else
    zu_nx (fn_Thr_sure X r0 x3 x2) fun v2 =>
    if v2 ≤ 0 then
      fn_Thr_canHit_L30 X k2 r0 x1 x2 x3 v2
    else
      zu_nx (fn_Thr_toldCell X r0 x3 x2) fun v5 =>
      if v5 = x1 then
        fn_Thr_canHit_L47 X
      else
        fn_Thr_canHit_L30 X k2 r0 x1 x2 x3 v2
def fn_Thr_canHit_L2 (X : IX) : Nat → Nat → Int32 → Int32 → Int32 → Option Int32
  | 0, _, _, _, _ => none
  | n + 1, r0, x1, x2, x3 => fn_Thr_canHit_B2 X (fn_Thr_canHit_L2 X n) r0 x1 x2 x3
def fn_Thr_canHit (X : IX) (r0 : Nat) (a1 : Int32) (a2 : Int32) : Option Int32 :=
  fn_Thr_canHit_L2 X 400 r0 a1 a2 (0 : Int32)
/-! StonePost.whose -/
def fn_Post_whose_L69 (k29 : Int32 → Int32 → Int32 → Int32 → IX → Option (Int32 × IX)) (x1 : Int32) (x2 : Int32) (x3 : Int32) (x4 : Int32) (X : IX) : Option (Int32 × IX) :=
  zu_nx (x4 + (1 : Int32)) fun v18 =>
  k29 x1 x2 x3 v18 X
def fn_Post_whose_B29 (k29 : Int32 → Int32 → Int32 → Int32 → IX → Option (Int32 × IX)) (x1 : Int32) (x2 : Int32) (x3 : Int32) (x4 : Int32) (X : IX) : Option (Int32 × IX) :=
  if (X 20 4) ≤ x4 then
    some (x3, X)
  else
    zu_gd (zu_ib x4 10) <|
    zu_b1 (fn_Post_isNight x2) fun v12 =>
    zu_b1 (fn_Thr_canHit X (zu_th (20 + 6) (x4.toNatClampNeg)) x1 v12) fun v14 =>
    if v14 = 0 then
      fn_Post_whose_L69 k29 x1 x2 x3 x4 X
    else
      zu_nx (x3 ||| ((1 : Int32) <<< (x4 &&& 31))) fun v17 =>
      fn_Post_whose_L69 k29 x1 x2 v17 x4 X
def fn_Post_whose_L29 : Nat → Int32 → Int32 → Int32 → Int32 → IX → Option (Int32 × IX)
  | 0, _, _, _, _, _ => none
  | n + 1, x1, x2, x3, x4, X => fn_Post_whose_B29 (fn_Post_whose_L29 n) x1 x2 x3 x4 X
def fn_Post_whose_L17 (X : IX) : Option (Int32 × IX) :=
  zu_b2 (fn_Post_finding (-1000001 : Int32) X) fun v7 X8 =>
  some (v7, X8)
def fn_Post_whose (a1 : Int32) (a2 : Int32) (X : IX) : Option (Int32 × IX) :=
  zu_b1 (fn_Post_isCell a1) fun v1 =>
  if v1 = 0 then
    fn_Post_whose_L17 X
  else
    zu_b1 (fn_Post_isWithin a2 (0 : Int32) (23 : Int32)) fun v4 =>
    if v4 = 0 then
      fn_Post_whose_L17 X
    else
      fn_Post_whose_L29 400 a1 a2 (0 : Int32) (0 : Int32) X
/-! StonePost$Chart.ahead -/
def fn_Chart_ahead_L39 (X : IX) (k5 : Int32 → Int32 → Int32 → Int32 → Option Int32) (x1 : Int32) (x2 : Int32) (x3 : Int32) (x4 : Int32) : Option Int32 :=
  zu_nx (x4 + (1 : Int32)) fun v8 =>
  k5 x1 x2 x3 v8
def fn_Chart_ahead_B5 (X : IX) (k5 : Int32 → Int32 → Int32 → Int32 → Option Int32) (x1 : Int32) (x2 : Int32) (x3 : Int32) (x4 : Int32) : Option Int32 :=
  if (24 : Int32) ≤ x4 then
    some x3
  else
    zu_b1 (fn_Chart_chosenRow X x4 x2 (X 1 6)) fun v2 =>
    zu_b1 (fn_Chart_cellsOf X v2) fun v4 =>
    if (v4 &&& x1) = 0 then
      fn_Chart_ahead_L39 X k5 x1 x2 x3 x4
    else
      zu_nx (x3 ||| ((1 : Int32) <<< (x4 &&& 31))) fun v7 =>
      fn_Chart_ahead_L39 X k5 x1 x2 v7 x4
def fn_Chart_ahead_L5 (X : IX) : Nat → Int32 → Int32 → Int32 → Int32 → Option Int32
  | 0, _, _, _, _ => none
  | n + 1, x1, x2, x3, x4 => fn_Chart_ahead_B5 X (fn_Chart_ahead_L5 X n) x1 x2 x3 x4
def fn_Chart_ahead (X : IX) (a1 : Int32) (a2 : Int32) : Option Int32 :=
  fn_Chart_ahead_L5 X 400 a1 a2 (0 : Int32) (0 : Int32)
/-! StonePost.from -/
def fn_Post_from_B44 (k44 : Int32 → Int32 → IX → Option (Int32 × IX)) (x3 : Int32) (x4 : Int32) (X : IX) : Option (Int32 × IX) :=
  if x4 < 0 then
    some (x3, X)
  else
    zu_b1 (fn_Chart_ahead X x3 x4) fun v15 =>
    zu_nx (x4 + (-1 : Int32)) fun v17 =>
    k44 v15 v17 X
def fn_Post_from_L44 : Nat → Int32 → Int32 → IX → Option (Int32 × IX)
  | 0, _, _, _ => none
  | n + 1, x3, x4, X => fn_Post_from_B44 (fn_Post_from_L44 n) x3 x4 X
def fn_Post_from_L17 (X : IX) : Option (Int32 × IX) :=
  zu_b2 (fn_Post_finding (-1000001 : Int32) X) fun v11 X12 =>
  some (v11, X12)
def fn_Post_from (a1 : Int32) (a2 : Int32) (X : IX) : Option (Int32 × IX) :=
  zu_b1 (fn_Post_isCell a1) fun v1 =>
  if v1 = 0 then
    fn_Post_from_L17 X
  else
    zu_b1 (fn_Post_isWithin a2 (0 : Int32) (20 : Int32)) fun v4 =>
    if v4 = 0 then
      fn_Post_from_L17 X
    else
      zu_b1 (fn_Chart_lay 20 X) fun X7 =>
      zu_nx ((1 : Int32) <<< (a1 &&& 31)) fun v9 =>
      zu_nx (a2 - (1 : Int32)) fun v10 =>
      fn_Post_from_L44 400 v9 v10 X7
/-! StonePost.isCutOff -/
def fn_Post_isCutOff_L59 (X : IX) (y0 : Int32) : Option Int32 :=
  zu_gd (zu_01 y0) <|
  some y0
def fn_Post_isCutOff_B8 (X : IX) (k8 : Int32 → Int32 → Int32 → Int32 → Option Int32) (x2 : Int32) (x3 : Int32) (x4 : Int32) (x5 : Int32) : Option Int32 :=
  if x2 ≤ x5 then
    if ((x4 >>> ((X 20 6) &&& 31)) &&& (1 : Int32)) = 0 then
      fn_Post_isCutOff_L59 X (1 : Int32)
    else
      fn_Post_isCutOff_L59 X (0 : Int32)
  else
    zu_b1 (fn_Chart_after X x4 x5) fun v4 =>
    zu_nx (v4 &&& (((1 : Int32) <<< (x3 &&& 31)) ^^^ (-1 : Int32))) fun v6 =>
    zu_nx (x5 + (1 : Int32)) fun v7 =>
    k8 x2 x3 v6 v7
def fn_Post_isCutOff_L8 (X : IX) : Nat → Int32 → Int32 → Int32 → Int32 → Option Int32
  | 0, _, _, _, _ => none
  | n + 1, x2, x3, x4, x5 => fn_Post_isCutOff_B8 X (fn_Post_isCutOff_L8 X n) x2 x3 x4 x5
def fn_Post_isCutOff (X : IX) (a1 : Int32) (a2 : Int32) (a3 : Int32) : Option Int32 :=
  zu_nx ((1 : Int32) <<< (a1 &&& 31)) fun v1 =>
  fn_Post_isCutOff_L8 X 400 a2 a3 v1 (0 : Int32)
/-! StonePost.thief -/
def fn_Post_thief_L83 (k40 : Int32 → Int32 → Int32 → Int32 → IX → Option (Int32 × IX)) (x1 : Int32) (x2 : Int32) (x3 : Int32) (x4 : Int32) (X : IX) : Option (Int32 × IX) :=
  zu_nx (x4 + (1 : Int32)) fun v19 =>
  k40 x1 x2 x3 v19 X
def fn_Post_thief_B40 (k40 : Int32 → Int32 → Int32 → Int32 → IX → Option (Int32 × IX)) (x1 : Int32) (x2 : Int32) (x3 : Int32) (x4 : Int32) (X : IX) : Option (Int32 × IX) :=
  if (24 : Int32) ≤ x4 then
    some (x3, X)
  else
    if x4 = (X 20 6) then
      fn_Post_thief_L83 k40 x1 x2 x3 x4 X
    else
      if x4 = x1 then
        fn_Post_thief_L83 k40 x1 x2 x3 x4 X
      else
        zu_b1 (fn_Post_isCutOff X x1 x2 x4) fun v15 =>
        if v15 = 0 then
          fn_Post_thief_L83 k40 x1 x2 x3 x4 X
        else
          zu_nx (x3 ||| ((1 : Int32) <<< (x4 &&& 31))) fun v18 =>
          fn_Post_thief_L83 k40 x1 x2 v18 x4 X
def fn_Post_thief_L40 : Nat → Int32 → Int32 → Int32 → Int32 → IX → Option (Int32 × IX)
  | 0, _, _, _, _, _ => none
  | n + 1, x1, x2, x3, x4, X => fn_Post_thief_B40 (fn_Post_thief_L40 n) x1 x2 x3 x4 X
def fn_Post_thief_L17 (X : IX) : Option (Int32 × IX) :=
  zu_b2 (fn_Post_finding (-1000001 : Int32) X) fun v9 X10 =>
  some (v9, X10)
def fn_Post_thief (a1 : Int32) (a2 : Int32) (X : IX) : Option (Int32 × IX) :=
  zu_b1 (fn_Post_isCell a1) fun v1 =>
  if v1 = 0 then
    fn_Post_thief_L17 X
  else
    zu_b1 (fn_Post_isWithin a2 (1 : Int32) (20 : Int32)) fun v4 =>
    if v4 = 0 then
      fn_Post_thief_L17 X
    else
      zu_b1 (fn_Chart_lay 20 X) fun X7 =>
      fn_Post_thief_L40 400 a1 a2 (0 : Int32) (0 : Int32) X7
/-! StonePost$Land.sumOf -/
def fn_Land_sumOf_B4 (X : IX) (k4 : Nat → Int32 → Int32 → Int32 → Option Int32) (r0 : Nat) (x1 : Int32) (x2 : Int32) (x3 : Int32) : Option Int32 :=
  if (X r0 4) ≤ x3 then
    some x2
  else
    zu_gd (zu_ib x3 10) <|
    zu_gd (zu_ib x1 9) <|
    zu_nx (x2 + (X ((zu_th (r0 + 6) (x3.toNatClampNeg)) + 30) (x1.toNatClampNeg))) fun v4 =>
    zu_nx (x3 + (1 : Int32)) fun v5 =>
    k4 r0 x1 v4 v5
def fn_Land_sumOf_L4 (X : IX) : Nat → Nat → Int32 → Int32 → Int32 → Option Int32
  | 0, _, _, _, _ => none
  | n + 1, r0, x1, x2, x3 => fn_Land_sumOf_B4 X (fn_Land_sumOf_L4 X n) r0 x1 x2 x3
def fn_Land_sumOf (X : IX) (r0 : Nat) (a1 : Int32) : Option Int32 :=
  fn_Land_sumOf_L4 X 400 r0 a1 (0 : Int32) (0 : Int32)
/-! StonePost$Land.thanksOfAll -/
def fn_Land_thanksOfAll (X : IX) (r0 : Nat) : Option Int32 :=
  zu_b1 (fn_Land_sumOf X r0 (8 : Int32)) fun v1 =>
  some v1
/-! StonePost$Land.withMostThanks -/
def fn_Land_withMostThanks_L46 (X : IX) (k9 : Nat → Nat → Int32 → Option Nat) (r0 : Nat) (r1 : Nat) (x2 : Int32) : Option Nat :=
  zu_nx (x2 + (1 : Int32)) fun v5 =>
  k9 r0 r1 v5
def fn_Land_withMostThanks_B9 (X : IX) (k9 : Nat → Nat → Int32 → Option Nat) (r0 : Nat) (r1 : Nat) (x2 : Int32) : Option Nat :=
  if (X r0 4) ≤ x2 then
    some r1
  else
    zu_gd (zu_ib x2 10) <|
    if (X ((zu_th (r0 + 6) (x2.toNatClampNeg)) + 30) 8) ≤ (X (r1 + 30) 8) then
      fn_Land_withMostThanks_L46 X k9 r0 r1 x2
    else
      zu_gd (zu_ib x2 10) <|
      fn_Land_withMostThanks_L46 X k9 r0 (zu_th (r0 + 6) (x2.toNatClampNeg)) x2
def fn_Land_withMostThanks_L9 (X : IX) : Nat → Nat → Nat → Int32 → Option Nat
  | 0, _, _, _ => none
  | n + 1, r0, r1, x2 => fn_Land_withMostThanks_B9 X (fn_Land_withMostThanks_L9 X n) r0 r1 x2
def fn_Land_withMostThanks (X : IX) (r0 : Nat) : Option Nat :=
  fn_Land_withMostThanks_L9 X 400 r0 (zu_th (r0 + 6) 0) (1 : Int32)
/-! StonePost$Land.withLeastThanks -/
def fn_Land_withLeastThanks_L46 (X : IX) (k9 : Nat → Nat → Int32 → Option Nat) (r0 : Nat) (r1 : Nat) (x2 : Int32) : Option Nat :=
  zu_nx (x2 + (1 : Int32)) fun v5 =>
  k9 r0 r1 v5
def fn_Land_withLeastThanks_B9 (X : IX) (k9 : Nat → Nat → Int32 → Option Nat) (r0 : Nat) (r1 : Nat) (x2 : Int32) : Option Nat :=
  if (X r0 4) ≤ x2 then
    some r1
  else
    zu_gd (zu_ib x2 10) <|
    if (X (r1 + 30) 8) ≤ (X ((zu_th (r0 + 6) (x2.toNatClampNeg)) + 30) 8) then
      fn_Land_withLeastThanks_L46 X k9 r0 r1 x2
    else
      zu_gd (zu_ib x2 10) <|
      fn_Land_withLeastThanks_L46 X k9 r0 (zu_th (r0 + 6) (x2.toNatClampNeg)) x2
def fn_Land_withLeastThanks_L9 (X : IX) : Nat → Nat → Nat → Int32 → Option Nat
  | 0, _, _, _ => none
  | n + 1, r0, r1, x2 => fn_Land_withLeastThanks_B9 X (fn_Land_withLeastThanks_L9 X n) r0 r1 x2
def fn_Land_withLeastThanks (X : IX) (r0 : Nat) : Option Nat :=
  fn_Land_withLeastThanks_L9 X 400 r0 (zu_th (r0 + 6) 0) (1 : Int32)
/-! StonePost.gifts -/
def fn_Post_gifts_L142 (x2 : Int32) (X : IX) : Option (Int32 × IX) :=
  some (x2, X)
def fn_Post_gifts_B43 (k43 : Int32 → Int32 → Int32 → IX → Option (Int32 × IX)) (x1 : Int32) (x2 : Int32) (x3 : Int32) (X : IX) : Option (Int32 × IX) :=
  if (10 : Int32) ≤ x3 then
    fn_Post_gifts_L142 x2 X
  else
    zu_b1 (fn_Land_withMostThanks X 22) fun r9 =>
    zu_b1 (fn_Land_withLeastThanks X 22) fun r12 =>
    zu_nx ((X (r9 + 30) 8) - x1) fun v15 =>
    zu_nx (x1 - (X (r12 + 30) 8)) fun v16 =>
    if v15 ≤ 0 then
      fn_Post_gifts_L142 x2 X
    else
      if 0 < v16 then
        zu_nx (if v16 < v15 then v16 else v15) fun v19 =>
        zu_nx (zu_st X (r9 + 30) 8 ((X (r9 + 30) 8) - v19)) fun X20 =>
        zu_nx (zu_st X20 (r12 + 30) 8 ((X20 (r12 + 30) 8) + v19)) fun X21 =>
        zu_nx (x2 + (1 : Int32)) fun v22 =>
        zu_nx (x3 + (1 : Int32)) fun v23 =>
        k43 x1 v22 v23 X21
      else
        fn_Post_gifts_L142 x2 X
def fn_Post_gifts_L43 : Nat → Int32 → Int32 → Int32 → IX → Option (Int32 × IX)
  | 0, _, _, _, _ => none
  | n + 1, x1, x2, x3, X => fn_Post_gifts_B43 (fn_Post_gifts_L43 n) x1 x2 x3 X
def fn_Post_gifts (X : IX) : Option (Int32 × IX) :=
  if 0 < (X 20 4) then
    zu_b1 (fn_Land_thanksOfAll X 20) fun v2 =>
    zu_gd (decide (¬ (X 20 4) = 0)) <|
    zu_nx (v2 / (X 20 4)) fun v5 =>
    zu_b1 (fn_Land_become 22 20 X) fun X6 =>
    fn_Post_gifts_L43 400 v5 (0 : Int32) (0 : Int32) X6
  else
    some ((0 : Int32), X)
/-! StonePost.seed -/
def fn_Post_seed (a1 : Int32) (X : IX) : Option (Int32 × IX) :=
  zu_nx (X 20 9) fun v1 =>
  zu_nx (zu_st X 20 9 a1) fun X2 =>
  some (v1, X2)
/-! StonePost.feed -/
def fn_Post_feed_B41 (k41 : Int32 → Int32 → IX → Option (Int32 × IX)) (x1 : Int32) (x3 : Int32) (X : IX) : Option (Int32 × IX) :=
  if x3 < 0 then
    some (X 8 1, X)
  else
    zu_gd (zu_ib (X 8 1) 120) <|
    zu_nx (zu_st X 9 ((X 8 1).toNatClampNeg) ((x1 >>> (((8 : Int32) * x3) &&& 31)) &&& (255 : Int32))) fun X14 =>
    zu_nx (zu_st X14 8 1 ((X14 8 1) + (1 : Int32))) fun X15 =>
    zu_nx (x3 + (-1 : Int32)) fun v16 =>
    k41 x1 v16 X15
def fn_Post_feed_L41 : Nat → Int32 → Int32 → IX → Option (Int32 × IX)
  | 0, _, _, _ => none
  | n + 1, x1, x3, X => fn_Post_feed_B41 (fn_Post_feed_L41 n) x1 x3 X
def fn_Post_feed (a1 : Int32) (a2 : Int32) (X : IX) : Option (Int32 × IX) :=
  zu_b1 (fn_Post_isWithin a2 (1 : Int32) (4 : Int32)) fun v1 =>
  if v1 = 0 then
    zu_b2 (fn_Post_finding (-1000001 : Int32) X) fun v9 X10 =>
    some (v9, X10)
  else
    if ((X 8 1) + a2) ≤ (120 : Int32) then
      zu_nx (a2 - (1 : Int32)) fun v5 =>
      fn_Post_feed_L41 400 a1 v5 X
    else
      zu_b2 (fn_Post_finding (-1000002 : Int32) X) fun v6 X7 =>
      some (v6, X7)
/-! StonePost.wipe -/
def fn_Post_wipe (X : IX) : Option (Int32 × IX) :=
  zu_nx (X 8 1) fun v1 =>
  zu_nx (zu_st X 8 1 (0 : Int32)) fun X2 =>
  some (v1, X2)
/-! StonePost$Tape.isLetterByte -/
def fn_Tape_isLetterByte_L17 (y0 : Int32) : Option Int32 :=
  zu_gd (zu_01 y0) <|
  some y0
def fn_Tape_isLetterByte_L16 : Option Int32 :=
  fn_Tape_isLetterByte_L17 (0 : Int32)
def fn_Tape_isLetterByte (a0 : Int32) : Option Int32 :=
  if a0 < (97 : Int32) then
    fn_Tape_isLetterByte_L16
  else
    if (122 : Int32) < a0 then
      fn_Tape_isLetterByte_L16
    else
      fn_Tape_isLetterByte_L17 (1 : Int32)
/-! StonePost$Tape.isDigit -/
def fn_Tape_isDigit_L17 (y0 : Int32) : Option Int32 :=
  zu_gd (zu_01 y0) <|
  some y0
def fn_Tape_isDigit_L16 : Option Int32 :=
  fn_Tape_isDigit_L17 (0 : Int32)
def fn_Tape_isDigit (a0 : Int32) : Option Int32 :=
  if a0 < (48 : Int32) then
    fn_Tape_isDigit_L16
  else
    if (57 : Int32) < a0 then
      fn_Tape_isDigit_L16
    else
      fn_Tape_isDigit_L17 (1 : Int32)
/-! StonePost$Tape.readNumber -/
def fn_Tape_readNumber_L79 (X : IX) : Option IX :=
  some X
def fn_Tape_readNumber_B10 (k10 : IX → Option IX) (X : IX) : Option IX :=
  if (X 8 1) ≤ (X 8 5) then
    fn_Tape_readNumber_L79 X
  else
    zu_gd (zu_ib (X 8 5) 120) <|
    zu_b1 (fn_Tape_isDigit (X 9 ((X 8 5).toNatClampNeg))) fun v5 =>
    if v5 = 0 then
      fn_Tape_readNumber_L79 X
    else
      zu_gd (zu_ib (X 8 5) 120) <|
      zu_nx (if ((((X 8 4) * (10 : Int32)) + (X 9 ((X 8 5).toNatClampNeg))) - (48 : Int32)) < (1000 : Int32) then ((((X 8 4) * (10 : Int32)) + (X 9 ((X 8 5).toNatClampNeg))) - (48 : Int32)) else (1000 : Int32)) fun v9 =>
      zu_nx (zu_st X 8 4 v9) fun X10 =>
      zu_nx (zu_st X10 8 5 ((X10 8 5) + (1 : Int32))) fun X11 =>
      k10 X11
def fn_Tape_readNumber_L10 : Nat → IX → Option IX
  | 0, _ => none
  | n + 1, X => fn_Tape_readNumber_B10 (fn_Tape_readNumber_L10 n) X
def fn_Tape_readNumber (X : IX) : Option IX :=
  zu_nx (zu_st X 8 2 (1 : Int32)) fun X1 =>
  zu_nx (zu_st X1 8 4 (0 : Int32)) fun X2 =>
  fn_Tape_readNumber_L10 400 X2
/-! StonePost$Tape.readWord -/
def fn_Tape_readWord_L44 (X : IX) : Option IX :=
  some X
def fn_Tape_readWord_B5 (k5 : IX → Option IX) (X : IX) : Option IX :=
  if (X 8 1) ≤ (X 8 5) then
    fn_Tape_readWord_L44 X
  else
    zu_gd (zu_ib (X 8 5) 120) <|
    zu_b1 (fn_Tape_isLetterByte (X 9 ((X 8 5).toNatClampNeg))) fun v4 =>
    if v4 = 0 then
      fn_Tape_readWord_L44 X
    else
      zu_nx (zu_st X 8 5 ((X 8 5) + (1 : Int32))) fun X7 =>
      k5 X7
def fn_Tape_readWord_L5 : Nat → IX → Option IX
  | 0, _ => none
  | n + 1, X => fn_Tape_readWord_B5 (fn_Tape_readWord_L5 n) X
def fn_Tape_readWord (X : IX) : Option IX :=
  zu_nx (zu_st X 8 2 (0 : Int32)) fun X1 =>
  fn_Tape_readWord_L5 400 X1
/-! StonePost$Tape.readOn -/
def fn_Tape_readOn_L150 (X : IX) : Option IX :=
  some X
def fn_Tape_readOn_L137 (y0 : Int32) (X : IX) : Option IX :=
  zu_nx (zu_st X 8 2 y0) fun X23 =>
  zu_nx (zu_st X23 8 5 ((X23 8 5) + (1 : Int32))) fun X24 =>
  fn_Tape_readOn_L150 X24
def fn_Tape_readOn_L46 (X : IX) : Option IX :=
  zu_nx (zu_st X 8 5 (X 8 3)) fun X6 =>
  if (X6 8 3) < (X6 8 1) then
    zu_gd (zu_ib (X6 8 3) 120) <|
    zu_b1 (fn_Tape_isLetterByte (X6 9 ((X6 8 3).toNatClampNeg))) fun v9 =>
    if v9 = 0 then
      zu_gd (zu_ib (X6 8 3) 120) <|
      zu_b1 (fn_Tape_isDigit (X6 9 ((X6 8 3).toNatClampNeg))) fun v13 =>
      if v13 = 0 then
        zu_gd (zu_ib (X6 8 3) 120) <|
        if (X6 9 ((X6 8 3).toNatClampNeg)) = (59 : Int32) then
          fn_Tape_readOn_L137 (2 : Int32) X6
        else
          fn_Tape_readOn_L137 (4 : Int32) X6
      else
        zu_b1 (fn_Tape_readNumber X6) fun X18 =>
        fn_Tape_readOn_L150 X18
    else
      zu_b1 (fn_Tape_readWord X6) fun X20 =>
      fn_Tape_readOn_L150 X20
  else
    zu_nx (zu_st X6 8 2 (3 : Int32)) fun X22 =>
    fn_Tape_readOn_L150 X22
def fn_Tape_readOn_B8 (k8 : IX → Option IX) (X : IX) : Option IX :=
  if (X 8 1) ≤ (X 8 3) then
    fn_Tape_readOn_L46 X
  else
    zu_gd (zu_ib (X 8 3) 120) <|
    if (X 9 ((X 8 3).toNatClampNeg)) = (32 : Int32) then
      zu_nx (zu_st X 8 3 ((X 8 3) + (1 : Int32))) fun X5 =>
      k8 X5
    else
      fn_Tape_readOn_L46 X
def fn_Tape_readOn_L8 : Nat → IX → Option IX
  | 0, _ => none
  | n + 1, X => fn_Tape_readOn_B8 (fn_Tape_readOn_L8 n) X
def fn_Tape_readOn (X : IX) : Option IX :=
  zu_nx (zu_st X 8 3 (X 8 5)) fun X1 =>
  fn_Tape_readOn_L8 400 X1
/-! StonePost$Tape.readFirst -/
def fn_Tape_readFirst (X : IX) : Option IX :=
  zu_nx (zu_st X 8 5 (0 : Int32)) fun X1 =>
  zu_b1 (fn_Tape_readOn X1) fun X2 =>
  some X2
/-! java/lang/String.coder -/
def fn_Str_coder_L14 (y0 : Int32) : Option Int32 :=
  zu_gd (zu_by y0) <|
  some y0
def fn_Str_coder (r0 : Nat) : Option Int32 :=
  fn_Str_coder_L14 (0 : Int32)
/-! java/lang/String.length -/
def fn_Str_length (r0 : Nat) : Option Int32 :=
  zu_b1 (fn_Str_coder r0) fun v1 =>
  some ((nI (zs_len.getD r0 0)) >>> (v1 &&& 31))
/-! java/lang/String.isLatin1 -/
def fn_Str_isLatin1_L18 (y0 : Int32) : Option Int32 :=
  zu_gd (zu_01 y0) <|
  some y0
def fn_Str_isLatin1 (r0 : Nat) : Option Int32 :=
  fn_Str_isLatin1_L18 (1 : Int32)
/-! jdk/internal/util/Preconditions.checkIndex -/
def fn_Prc_checkIndex (a0 : Int32) (a1 : Int32) : Option Int32 :=
  if a0 < 0 then
    none
  else
    if a0 < a1 then
      some a0
    else
      none
/-! java/lang/String.checkIndex -/
def fn_Str_checkIndex (a0 : Int32) (a1 : Int32) : Option Unit :=
  zu_b1 (fn_Prc_checkIndex a0 a1) fun v1 =>
  some ()
/-! java/lang/StringLatin1.charAt -/
def fn_Lat_charAt (r0 : Nat) (a1 : Int32) : Option Int32 :=
  zu_b1 (fn_Str_checkIndex a1 (nI (zs_len.getD r0 0))) fun _ =>
  zu_gd (zu_ib a1 (zs_len.getD r0 0)) <|
  zu_gd (zu_ch (((((zs_byt.getD r0 []).getD a1.toNatClampNeg 0) &&& (255 : Int32)).toUInt32 % 65536).toInt32)) <|
  some (((((zs_byt.getD r0 []).getD a1.toNatClampNeg 0) &&& (255 : Int32)).toUInt32 % 65536).toInt32)
/-! java/lang/String.charAt -/
def fn_Str_charAt (r0 : Nat) (a1 : Int32) : Option Int32 :=
  zu_b1 (fn_Str_isLatin1 r0) fun v1 =>
  if v1 = 0 then
    none
  else
    zu_b1 (fn_Lat_charAt r0 a1) fun v4 =>
    zu_gd (zu_ch v4) <|
    some v4
/-! StonePost$Tape.isWord -/
def fn_Tape_isWord_B27 (X : IX) (k27 : Nat → Int32 → Option Int32) (r1 : Nat) (x2 : Int32) : Option Int32 :=
  zu_b1 (fn_Str_length r1) fun v5 =>
  if v5 ≤ x2 then
    some (1 : Int32)
  else
    zu_gd (zu_ib ((X 8 3) + x2) 120) <|
    zu_b1 (fn_Str_charAt r1 x2) fun v9 =>
    if (X 9 (((X 8 3) + x2).toNatClampNeg)) = v9 then
      zu_nx (x2 + (1 : Int32)) fun v12 =>
      k27 r1 v12
    else
      some (0 : Int32)
def fn_Tape_isWord_L27 (X : IX) : Nat → Nat → Int32 → Option Int32
  | 0, _, _ => none
  | n + 1, r1, x2 => fn_Tape_isWord_B27 X (fn_Tape_isWord_L27 X n) r1 x2
def fn_Tape_isWord_L23 (X : IX) : Option Int32 :=
  some (0 : Int32)
def fn_Tape_isWord (X : IX) (r1 : Nat) : Option Int32 :=
  if (X 8 2) = 0 then
    zu_b1 (fn_Str_length r1) fun v2 =>
    if ((X 8 5) - (X 8 3)) = v2 then
      fn_Tape_isWord_L27 X 400 r1 (0 : Int32)
    else
      fn_Tape_isWord_L23 X
  else
    fn_Tape_isWord_L23 X
/-! StonePost$TextReader.namedStuff -/
def fn_Read_namedStuff_L47 (X : IX) (y0 : Int32) : Option Int32 :=
  some y0
def fn_Read_namedStuff (X : IX) : Option Int32 :=
  zu_b1 (fn_Tape_isWord X 3) fun v1 =>
  if v1 = 0 then
    zu_b1 (fn_Tape_isWord X 4) fun v4 =>
    if v4 = 0 then
      zu_b1 (fn_Tape_isWord X 5) fun v7 =>
      if v7 = 0 then
        zu_b1 (fn_Tape_isWord X 6) fun v10 =>
        if v10 = 0 then
          fn_Read_namedStuff_L47 X (-1 : Int32)
        else
          fn_Read_namedStuff_L47 X (3 : Int32)
      else
        some (2 : Int32)
    else
      some (1 : Int32)
  else
    some (0 : Int32)
/-! StonePost$TextReader.namedKind -/
def fn_Read_namedKind_L81 (X : IX) (y0 : Int32) : Option Int32 :=
  some y0
def fn_Read_namedKind (X : IX) : Option Int32 :=
  zu_b1 (fn_Tape_isWord X 7) fun v1 =>
  if v1 = 0 then
    zu_b1 (fn_Tape_isWord X 8) fun v4 =>
    if v4 = 0 then
      zu_b1 (fn_Tape_isWord X 9) fun v7 =>
      if v7 = 0 then
        zu_b1 (fn_Tape_isWord X 10) fun v10 =>
        if v10 = 0 then
          zu_b1 (fn_Tape_isWord X 11) fun v13 =>
          if v13 = 0 then
            zu_b1 (fn_Tape_isWord X 12) fun v16 =>
            if v16 = 0 then
              zu_b1 (fn_Tape_isWord X 13) fun v19 =>
              if v19 = 0 then
                fn_Read_namedKind_L81 X (-1 : Int32)
              else
                fn_Read_namedKind_L81 X (6 : Int32)
            else
              some (5 : Int32)
          else
            some (4 : Int32)
        else
          some (3 : Int32)
      else
        some (2 : Int32)
    else
      some (1 : Int32)
  else
    some (0 : Int32)
/-! StonePost$Tape.isNumber -/
def fn_Tape_isNumber_L25 (X : IX) (y0 : Int32) : Option Int32 :=
  zu_gd (zu_01 y0) <|
  some y0
def fn_Tape_isNumber_L24 (X : IX) : Option Int32 :=
  fn_Tape_isNumber_L25 X (0 : Int32)
def fn_Tape_isNumber (X : IX) (a1 : Int32) (a2 : Int32) : Option Int32 :=
  if (X 8 2) = (1 : Int32) then
    zu_b1 (fn_Post_isWithin (X 8 4) a1 a2) fun v2 =>
    if v2 = 0 then
      fn_Tape_isNumber_L24 X
    else
      fn_Tape_isNumber_L25 X (1 : Int32)
  else
    fn_Tape_isNumber_L24 X
/-! StonePost$TextReader.readLetter -/
def fn_Read_readLetter (r1 : Nat) (X : IX) : Option (Int32 × IX) :=
  if (X r1 5) < (12 : Int32) then
    zu_b1 (fn_Tape_readOn X) fun X2 =>
    zu_b1 (fn_Tape_isNumber X2 (0 : Int32) (23 : Int32)) fun v4 =>
    if v4 = 0 then
      some ((0 : Int32), X2)
    else
      zu_b2 (fn_Land_addLetter r1 (X2 8 4) X2) fun v7 X8 =>
      zu_b1 (fn_Tape_readOn X8) fun X10 =>
      some ((1 : Int32), X10)
  else
    some ((0 : Int32), X)
/-! StonePost$TextReader.readFetch -/
def fn_Read_readFetch (r1 : Nat) (X : IX) : Option (Int32 × IX) :=
  zu_b1 (fn_Tape_readOn X) fun X1 =>
  zu_b1 (fn_Tape_isNumber X1 (0 : Int32) (9 : Int32)) fun v3 =>
  if v3 = 0 then
    some ((0 : Int32), X1)
  else
    zu_nx (zu_st X1 r1 7 (X1 8 4)) fun X6 =>
    zu_b1 (fn_Tape_readOn X6) fun X7 =>
    some ((1 : Int32), X7)
/-! StonePost$TextReader.readHome -/
def fn_Read_readHome (r1 : Nat) (X : IX) : Option (Int32 × IX) :=
  zu_b1 (fn_Tape_readOn X) fun X1 =>
  zu_b1 (fn_Tape_isNumber X1 (0 : Int32) (23 : Int32)) fun v3 =>
  if v3 = 0 then
    some ((0 : Int32), X1)
  else
    zu_nx (zu_st X1 r1 6 (X1 8 4)) fun X6 =>
    zu_b1 (fn_Tape_readOn X6) fun X7 =>
    some ((1 : Int32), X7)
/-! StonePost$TextReader.readPerhaps -/
def fn_Read_readPerhaps (r1 : Nat) (r2 : Nat) (a3 : Int32) (X : IX) : Option (Int32 × IX) :=
  zu_b1 (fn_Tape_isWord X r1) fun v1 =>
  if v1 = 0 then
    some ((1 : Int32), X)
  else
    zu_b1 (fn_Tape_readOn X) fun X4 =>
    zu_gd (zu_ib a3 9) <|
    zu_gd (zu_ib a3 9) <|
    zu_b1 (fn_Tape_isNumber X4 (zs_least a3.toNatClampNeg) (zs_most a3.toNatClampNeg)) fun v8 =>
    if v8 = 0 then
      some ((0 : Int32), X4)
    else
      zu_gd (zu_ib a3 9) <|
      zu_nx (zu_st X4 r2 (a3.toNatClampNeg) (X4 8 4)) fun X12 =>
      zu_b1 (fn_Tape_readOn X12) fun X13 =>
      some ((1 : Int32), X13)
/-! StonePost$TextReader.readThrower -/
def fn_Read_readThrower_L142 (X : IX) : Option (Int32 × IX) :=
  some ((1 : Int32), X)
def fn_Read_readThrower_L122 (X : IX) : Option (Int32 × IX) :=
  some ((0 : Int32), X)
def fn_Read_readThrower_L52 (X : IX) : Option (Int32 × IX) :=
  some ((0 : Int32), X)
def fn_Read_readThrower (r1 : Nat) (a2 : Int32) (X : IX) : Option (Int32 × IX) :=
  if (X r1 4) < (10 : Int32) then
    zu_b1 (fn_Tape_readOn X) fun X2 =>
    zu_b1 (fn_Tape_isWord X2 15) fun v4 =>
    if v4 = 0 then
      some ((0 : Int32), X2)
    else
      zu_b1 (fn_Tape_readOn X2) fun X7 =>
      zu_b1 (fn_Tape_isNumber X7 (0 : Int32) (23 : Int32)) fun v9 =>
      if v9 = 0 then
        fn_Read_readThrower_L52 X7
      else
        zu_b1 (fn_Land_standingOn X7 r1 (X7 8 4)) fun v12 =>
        if v12 = (-1 : Int32) then
          zu_b2 (fn_Land_addThrower r1 a2 (X7 8 4) X7) fun v15 X16 =>
          if v15 = (-1 : Int32) then
            some ((0 : Int32), X16)
          else
            zu_gd (zu_ib v15 10) <|
            zu_b1 (fn_Tape_readOn X16) fun X20 =>
            zu_b2 (fn_Read_readPerhaps 16 ((zu_th (r1 + 6) (v15.toNatClampNeg)) + 30) (2 : Int32) X20) fun v22 X23 =>
            if v22 = 0 then
              fn_Read_readThrower_L122 X23
            else
              zu_b2 (fn_Read_readPerhaps 17 ((zu_th (r1 + 6) (v15.toNatClampNeg)) + 30) (3 : Int32) X23) fun v26 X27 =>
              if v26 = 0 then
                fn_Read_readThrower_L122 X27
              else
                zu_b2 (fn_Read_readPerhaps 18 ((zu_th (r1 + 6) (v15.toNatClampNeg)) + 30) (5 : Int32) X27) fun v30 X31 =>
                if v30 = 0 then
                  fn_Read_readThrower_L122 X31
                else
                  zu_b1 (fn_Tape_isWord X31 19) fun v34 =>
                  if v34 = 0 then
                    fn_Read_readThrower_L142 X31
                  else
                    zu_nx (zu_st X31 ((zu_th (r1 + 6) (v15.toNatClampNeg)) + 30) 4 (0 : Int32)) fun X37 =>
                    zu_b1 (fn_Tape_readOn X37) fun X38 =>
                    fn_Read_readThrower_L142 X38
        else
          fn_Read_readThrower_L52 X7
  else
    some ((0 : Int32), X)
/-! StonePost$TextReader.readStuff -/
def fn_Read_readStuff_B66 (k66 : Nat → Int32 → Int32 → Int32 → IX → Option (Int32 × IX)) (r1 : Nat) (x2 : Int32) (x4 : Int32) (x5 : Int32) (X : IX) : Option (Int32 × IX) :=
  if x4 < x5 then
    some ((1 : Int32), X)
  else
    zu_gd (zu_ib x5 24) <|
    zu_nx (zu_st X (r1 + 3) (x5.toNatClampNeg) x2) fun X22 =>
    zu_nx (x5 + (1 : Int32)) fun v23 =>
    k66 r1 x2 x4 v23 X22
def fn_Read_readStuff_L66 : Nat → Nat → Int32 → Int32 → Int32 → IX → Option (Int32 × IX)
  | 0, _, _, _, _, _ => none
  | n + 1, r1, x2, x4, x5, X => fn_Read_readStuff_B66 (fn_Read_readStuff_L66 n) r1 x2 x4 x5 X
def fn_Read_readStuff_L63 (r1 : Nat) (x2 : Int32) (x3 : Int32) (x4 : Int32) (X : IX) : Option (Int32 × IX) :=
  fn_Read_readStuff_L66 400 r1 x2 x4 x3 X
def fn_Read_readStuff (r1 : Nat) (a2 : Int32) (X : IX) : Option (Int32 × IX) :=
  zu_b1 (fn_Tape_readOn X) fun X1 =>
  zu_b1 (fn_Tape_isNumber X1 (0 : Int32) (23 : Int32)) fun v3 =>
  if v3 = 0 then
    some ((0 : Int32), X1)
  else
    zu_nx (X1 8 4) fun v6 =>
    zu_b1 (fn_Tape_readOn X1) fun X7 =>
    zu_b1 (fn_Tape_isWord X7 14) fun v9 =>
    if v9 = 0 then
      fn_Read_readStuff_L63 r1 a2 v6 v6 X7
    else
      zu_b1 (fn_Tape_readOn X7) fun X12 =>
      zu_b1 (fn_Tape_isNumber X12 v6 (23 : Int32)) fun v14 =>
      if v14 = 0 then
        some ((0 : Int32), X12)
      else
        zu_nx (X12 8 4) fun v17 =>
        zu_b1 (fn_Tape_readOn X12) fun X18 =>
        fn_Read_readStuff_L63 r1 a2 v6 v17 X18
/-! StonePost$TextReader.readItem -/
def fn_Read_readItem_L86 (y0 : Int32) (X : IX) : Option (Int32 × IX) :=
  zu_gd (zu_01 y0) <|
  some (y0, X)
def fn_Read_readItem_L85 (X : IX) : Option (Int32 × IX) :=
  fn_Read_readItem_L86 (0 : Int32) X
def fn_Read_readItem (r1 : Nat) (X : IX) : Option (Int32 × IX) :=
  zu_b1 (fn_Read_namedStuff X) fun v1 =>
  if v1 = (-1 : Int32) then
    zu_b1 (fn_Read_namedKind X) fun v4 =>
    if v4 = (-1 : Int32) then
      zu_b1 (fn_Tape_isWord X 0) fun v7 =>
      if v7 = 0 then
        zu_b1 (fn_Tape_isWord X 1) fun v10 =>
        if v10 = 0 then
          zu_b1 (fn_Tape_isWord X 2) fun v13 =>
          if v13 = 0 then
            fn_Read_readItem_L85 X
          else
            zu_b2 (fn_Read_readLetter r1 X) fun v16 X17 =>
            if v16 = 0 then
              fn_Read_readItem_L85 X17
            else
              fn_Read_readItem_L86 (1 : Int32) X17
        else
          zu_b2 (fn_Read_readFetch r1 X) fun v20 X21 =>
          zu_gd (zu_01 v20) <|
          some (v20, X21)
      else
        zu_b2 (fn_Read_readHome r1 X) fun v24 X25 =>
        zu_gd (zu_01 v24) <|
        some (v24, X25)
    else
      zu_b2 (fn_Read_readThrower r1 v4 X) fun v28 X29 =>
      zu_gd (zu_01 v28) <|
      some (v28, X29)
  else
    zu_b2 (fn_Read_readStuff r1 v1 X) fun v32 X33 =>
    zu_gd (zu_01 v32) <|
    some (v32, X33)
/-! StonePost$TextReader.readItems -/
def fn_Read_readItems_L54 (X : IX) : Option (Int32 × IX) :=
  some ((-1 : Int32) - (X 8 3), X)
def fn_Read_readItems_B6 (k6 : Nat → Int32 → IX → Option (Int32 × IX)) (r1 : Nat) (x2 : Int32) (X : IX) : Option (Int32 × IX) :=
  if (120 : Int32) < x2 then
    fn_Read_readItems_L54 X
  else
    zu_b2 (fn_Read_readItem r1 X) fun v4 X5 =>
    if v4 = 0 then
      fn_Read_readItems_L54 X5
    else
      if (X5 8 2) = (3 : Int32) then
        some (x2, X5)
      else
        if (X5 8 2) = (2 : Int32) then
          zu_b1 (fn_Tape_readOn X5) fun X10 =>
          zu_nx (x2 + (1 : Int32)) fun v12 =>
          k6 r1 v12 X10
        else
          fn_Read_readItems_L54 X5
def fn_Read_readItems_L6 : Nat → Nat → Int32 → IX → Option (Int32 × IX)
  | 0, _, _, _ => none
  | n + 1, r1, x2, X => fn_Read_readItems_B6 (fn_Read_readItems_L6 n) r1 x2 X
def fn_Read_readItems (r1 : Nat) (X : IX) : Option (Int32 × IX) :=
  zu_b1 (fn_Tape_readFirst X) fun X1 =>
  fn_Read_readItems_L6 400 r1 (1 : Int32) X1
/-! StonePost.text -/
def fn_Post_text_L38 (x1 : Int32) (X : IX) : Option (Int32 × IX) :=
  zu_nx (zu_st X 8 1 (0 : Int32)) fun X9 =>
  some (x1, X9)
def fn_Post_text (X : IX) : Option (Int32 × IX) :=
  zu_b1 (fn_Land_become 22 20 X) fun X1 =>
  zu_b2 (fn_Read_readItems 22 X1) fun v3 X4 =>
  if v3 < 0 then
    fn_Post_text_L38 v3 X4
  else
    zu_b1 (fn_Land_become 20 22 X4) fun X7 =>
    fn_Post_text_L38 v3 X7
/-! StonePost.hold -/
def fn_Post_hold_L30 (x1 : Int32) (x2 : Int32) (X : IX) : Option (Int32 × IX) :=
  zu_gd (zu_ib x1 10) <|
  zu_nx (zu_st X (20 + 12) (x1.toNatClampNeg) x2) fun X12 =>
  some ((1 : Int32), X12)
def fn_Post_hold_L23 (X : IX) : Option (Int32 × IX) :=
  zu_b2 (fn_Post_finding (-1000001 : Int32) X) fun v8 X9 =>
  some (v8, X9)
def fn_Post_hold (a1 : Int32) (a2 : Int32) (X : IX) : Option (Int32 × IX) :=
  zu_b1 (fn_Post_isWithin a1 (0 : Int32) (9 : Int32)) fun v1 =>
  if v1 = 0 then
    fn_Post_hold_L23 X
  else
    if a2 = (-1 : Int32) then
      fn_Post_hold_L30 a1 a2 X
    else
      zu_b1 (fn_Post_isThrower X a2) fun v5 =>
      if v5 = 0 then
        fn_Post_hold_L23 X
      else
        fn_Post_hold_L30 a1 a2 X
/-! StonePost$Thrower.isA -/
def fn_Thr_isA_L41 (X : IX) : Option Int32 :=
  some (0 : Int32)
def fn_Thr_isA_B9 (X : IX) (k9 : Int32 → Int32 → Int32 → Option Int32) (x1 : Int32) (x2 : Int32) (x3 : Int32) : Option Int32 :=
  if (6 : Int32) < x3 then
    fn_Thr_isA_L41 X
  else
    zu_b1 (fn_Post_isKind x2) fun v3 =>
    if v3 = 0 then
      fn_Thr_isA_L41 X
    else
      if x2 = x1 then
        some (1 : Int32)
      else
        zu_gd (zu_ib x2 7) <|
        zu_nx (zs_above x2.toNatClampNeg) fun v8 =>
        zu_nx (x3 + (1 : Int32)) fun v9 =>
        k9 x1 v8 v9
def fn_Thr_isA_L9 (X : IX) : Nat → Int32 → Int32 → Int32 → Option Int32
  | 0, _, _, _ => none
  | n + 1, x1, x2, x3 => fn_Thr_isA_B9 X (fn_Thr_isA_L9 X n) x1 x2 x3
def fn_Thr_isA (X : IX) (r0 : Nat) (a1 : Int32) : Option Int32 :=
  zu_nx (X (r0 + 30) 0) fun v1 =>
  fn_Thr_isA_L9 X 400 a1 v1 (0 : Int32)
/-! StonePost.as -/
def fn_Post_as_L75 (y0 : Int32) (X : IX) : Option (Int32 × IX) :=
  some (y0, X)
def fn_Post_as_L17 (X : IX) : Option (Int32 × IX) :=
  zu_b2 (fn_Post_finding (-1000001 : Int32) X) fun v22 X23 =>
  some (v22, X23)
def fn_Post_as (a1 : Int32) (a2 : Int32) (X : IX) : Option (Int32 × IX) :=
  zu_b1 (fn_Post_isWithin a1 (0 : Int32) (9 : Int32)) fun v1 =>
  if v1 = 0 then
    fn_Post_as_L17 X
  else
    zu_b1 (fn_Post_isKind a2) fun v4 =>
    if v4 = 0 then
      fn_Post_as_L17 X
    else
      zu_gd (zu_ib a1 10) <|
      zu_nx (X (20 + 12) (a1.toNatClampNeg)) fun v8 =>
      zu_b1 (fn_Post_isThrower X v8) fun v9 =>
      if v9 = 0 then
        zu_b2 (fn_Post_finding (-1000006 : Int32) X) fun v19 X20 =>
        some (v19, X20)
      else
        zu_gd (zu_ib v8 10) <|
        zu_b1 (fn_Thr_isA X (zu_th (20 + 6) (v8.toNatClampNeg)) a2) fun v13 =>
        if v13 = 0 then
          zu_b2 (fn_Post_finding (-1000003 : Int32) X) fun v16 X17 =>
          fn_Post_as_L75 v16 X17
        else
          fn_Post_as_L75 v8 X
/-! StonePost.isSheet -/
def fn_Post_isSheet (a0 : Int32) : Option Int32 :=
  zu_b1 (fn_Post_isWithin a0 (0 : Int32) (3 : Int32)) fun v1 =>
  zu_gd (zu_01 v1) <|
  some v1
/-! StonePost$Sheet.isWidth -/
def fn_Sheet_isWidth_L27 (y0 : Int32) : Option Int32 :=
  zu_gd (zu_01 y0) <|
  some y0
def fn_Sheet_isWidth_L22 : Option Int32 :=
  fn_Sheet_isWidth_L27 (1 : Int32)
def fn_Sheet_isWidth (a0 : Int32) : Option Int32 :=
  if a0 = 0 then
    fn_Sheet_isWidth_L22
  else
    if a0 = (8 : Int32) then
      fn_Sheet_isWidth_L22
    else
      if a0 = (16 : Int32) then
        fn_Sheet_isWidth_L22
      else
        if a0 = (32 : Int32) then
          fn_Sheet_isWidth_L22
        else
          fn_Sheet_isWidth_L27 (0 : Int32)
/-! java/util/Arrays.fill -/
def fn_Arr_fill_16_B5 (k5 : Nat → Int32 → Int32 → Int32 → IX → Option IX) (r0 : Nat) (x1 : Int32) (x2 : Int32) (x3 : Int32) (X : IX) : Option IX :=
  if x3 ≤ x2 then
    some X
  else
    zu_gd (zu_ib x2 40) <|
    zu_nx (zu_st X r0 (x2.toNatClampNeg) x1) fun X3 =>
    zu_nx (x2 + (1 : Int32)) fun v4 =>
    k5 r0 x1 v4 x3 X3
def fn_Arr_fill_16_L5 : Nat → Nat → Int32 → Int32 → Int32 → IX → Option IX
  | 0, _, _, _, _, _ => none
  | n + 1, r0, x1, x2, x3, X => fn_Arr_fill_16_B5 (fn_Arr_fill_16_L5 n) r0 x1 x2 x3 X
def fn_Arr_fill_16 (r0 : Nat) (a1 : Int32) (X : IX) : Option IX :=
  fn_Arr_fill_16_L5 400 r0 a1 (0 : Int32) (40 : Int32) X
/-! StonePost$Sheet.renew -/
def fn_Sheet_renew_L15 (r0 : Nat) (y0 : Int32) (q1 : Nat) (X : IX) : Option IX :=
  zu_nx (zu_st X q1 2 y0) fun X3 =>
  zu_b1 (fn_Arr_fill_16 (r0 + 4) (0 : Int32) X3) fun X4 =>
  some X4
def fn_Sheet_renew (r0 : Nat) (a1 : Int32) (a2 : Int32) (X : IX) : Option IX :=
  zu_nx (zu_st X r0 1 a1) fun X1 =>
  if a1 = 0 then
    fn_Sheet_renew_L15 r0 (0 : Int32) r0 X1
  else
    fn_Sheet_renew_L15 r0 a2 r0 X1
/-! StonePost.sheet -/
def fn_Post_sheet_L14 (X : IX) : Option (Int32 × IX) :=
  zu_b2 (fn_Post_finding (-1000001 : Int32) X) fun v19 X20 =>
  some (v19, X20)
def fn_Post_sheet (a1 : Int32) (a2 : Int32) (a3 : Int32) (X : IX) : Option (Int32 × IX) :=
  zu_b1 (fn_Post_isSheet a1) fun v1 =>
  if v1 = 0 then
    fn_Post_sheet_L14 X
  else
    zu_b1 (fn_Sheet_isWidth a2) fun v4 =>
    if v4 = 0 then
      fn_Post_sheet_L14 X
    else
      if 0 ≤ a3 then
        if a3 ≤ (40 : Int32) then
          zu_gd (zu_ib a1 4) <|
          zu_b1 (fn_Sheet_renew (12 + (a1.toNatClampNeg)) a2 a3 X) fun X10 =>
          zu_gd (zu_ib a1 4) <|
          some (X10 (12 + (a1.toNatClampNeg)) 2, X10)
        else
          zu_b2 (fn_Post_finding (-1000001 : Int32) X) fun v13 X14 =>
          some (v13, X14)
      else
        zu_b2 (fn_Post_finding (-1000007 : Int32) X) fun v16 X17 =>
        some (v16, X17)
/-! StonePost$Sheet.isMissing -/
def fn_Sheet_isMissing_L12 (X : IX) (y0 : Int32) : Option Int32 :=
  zu_gd (zu_01 y0) <|
  some y0
def fn_Sheet_isMissing (X : IX) (r0 : Nat) : Option Int32 :=
  if (X r0 1) = 0 then
    fn_Sheet_isMissing_L12 X (1 : Int32)
  else
    fn_Sheet_isMissing_L12 X (0 : Int32)
/-! StonePost$Sheet.put -/
def fn_Sheet_put (r0 : Nat) (a1 : Int32) (a2 : Int32) (X : IX) : Option IX :=
  zu_nx ((32 : Int32) - (X r0 1)) fun v1 =>
  zu_gd (zu_ib a1 40) <|
  zu_nx (zu_st X (r0 + 4) (a1.toNatClampNeg) ((a2 <<< (v1 &&& 31)) >>> (v1 &&& 31))) fun X3 =>
  some X3
/-! StonePost.write -/
def fn_Post_write (a1 : Int32) (a2 : Int32) (a3 : Int32) (X : IX) : Option (Int32 × IX) :=
  zu_b1 (fn_Post_isSheet a1) fun v1 =>
  if v1 = 0 then
    zu_b2 (fn_Post_finding (-1000001 : Int32) X) fun v21 X22 =>
    some (v21, X22)
  else
    zu_gd (zu_ib a1 4) <|
    zu_b1 (fn_Sheet_isMissing X (12 + (a1.toNatClampNeg))) fun v5 =>
    if v5 = 0 then
      zu_gd (zu_ib a1 4) <|
      zu_b1 (fn_Post_isWithin a2 (0 : Int32) ((X (12 + (a1.toNatClampNeg)) 2) - (1 : Int32))) fun v9 =>
      if v9 = 0 then
        zu_b2 (fn_Post_finding (-1000001 : Int32) X) fun v15 X16 =>
        some (v15, X16)
      else
        zu_gd (zu_ib a1 4) <|
        zu_b1 (fn_Sheet_put (12 + (a1.toNatClampNeg)) a2 a3 X) fun X13 =>
        some ((1 : Int32), X13)
    else
      zu_b2 (fn_Post_finding (-1000006 : Int32) X) fun v18 X19 =>
      some (v18, X19)
/-! StonePost$Sheet.hasRow -/
def fn_Sheet_hasRow_L27 (X : IX) (y0 : Int32) : Option Int32 :=
  zu_gd (zu_01 y0) <|
  some y0
def fn_Sheet_hasRow_L26 (X : IX) : Option Int32 :=
  fn_Sheet_hasRow_L27 X (0 : Int32)
def fn_Sheet_hasRow (X : IX) (r0 : Nat) (a1 : Int32) (a2 : Int32) : Option Int32 :=
  if a1 < 0 then
    fn_Sheet_hasRow_L26 X
  else
    if a2 < 0 then
      fn_Sheet_hasRow_L26 X
    else
      if 0 < (lg_cmp ((a1.toInt64) + (a2.toInt64)) ((X r0 2).toInt64)) then
        fn_Sheet_hasRow_L26 X
      else
        fn_Sheet_hasRow_L27 X (1 : Int32)
/-! StonePost.copy -/
def fn_Post_copy_L111 (X : IX) : Option (Int32 × IX) :=
  zu_b2 (fn_Post_finding (-1000001 : Int32) X) fun v39 X40 =>
  some (v39, X40)
def fn_Post_copy_L45 (X : IX) : Option (Int32 × IX) :=
  zu_b2 (fn_Post_finding (-1000006 : Int32) X) fun v36 X37 =>
  some (v36, X37)
def fn_Post_copy_L14 (X : IX) : Option (Int32 × IX) :=
  zu_b2 (fn_Post_finding (-1000001 : Int32) X) fun v33 X34 =>
  some (v33, X34)
def fn_Post_copy (a1 : Int32) (a2 : Int32) (a3 : Int32) (a4 : Int32) (a5 : Int32) (X : IX) : Option (Int32 × IX) :=
  zu_b1 (fn_Post_isSheet a1) fun v1 =>
  if v1 = 0 then
    fn_Post_copy_L14 X
  else
    zu_b1 (fn_Post_isSheet a3) fun v4 =>
    if v4 = 0 then
      fn_Post_copy_L14 X
    else
      zu_gd (zu_ib a1 4) <|
      zu_b1 (fn_Sheet_isMissing X (12 + (a1.toNatClampNeg))) fun v8 =>
      if v8 = 0 then
        zu_gd (zu_ib a3 4) <|
        zu_b1 (fn_Sheet_isMissing X (12 + (a3.toNatClampNeg))) fun v12 =>
        if v12 = 0 then
          zu_gd (zu_ib a1 4) <|
          zu_gd (zu_ib a3 4) <|
          if (X (12 + (a1.toNatClampNeg)) 1) = (X (12 + (a3.toNatClampNeg)) 1) then
            zu_gd (zu_ib a1 4) <|
            zu_b1 (fn_Sheet_hasRow X (12 + (a1.toNatClampNeg)) a2 a5) fun v19 =>
            if v19 = 0 then
              fn_Post_copy_L111 X
            else
              zu_gd (zu_ib a3 4) <|
              zu_b1 (fn_Sheet_hasRow X (12 + (a3.toNatClampNeg)) a4 a5) fun v23 =>
              if v23 = 0 then
                fn_Post_copy_L111 X
              else
                zu_gd (zu_ib a1 4) <|
                zu_gd (zu_ib a3 4) <|
                zu_gd (zu_cp a2 a4 a5 40 40) <|
                zu_nx (zu_up X ((12 + (a3.toNatClampNeg)) + 4) (va_cpy (X ((12 + (a1.toNatClampNeg)) + 4)) (X ((12 + (a3.toNatClampNeg)) + 4)) (a2.toNatClampNeg) (a4.toNatClampNeg) (a5.toNatClampNeg))) fun X29 =>
                some (a5, X29)
          else
            zu_b2 (fn_Post_finding (-1000003 : Int32) X) fun v30 X31 =>
            some (v30, X31)
        else
          fn_Post_copy_L45 X
      else
        fn_Post_copy_L45 X
/-! StonePost.load -/
def fn_Post_load_L100 (x2 : Int32) (X : IX) : Option (Int32 × IX) :=
  some (x2, X)
def fn_Post_load_B50 (k50 : Int32 → Int32 → Int32 → IX → Option (Int32 × IX)) (x1 : Int32) (x2 : Int32) (x3 : Int32) (X : IX) : Option (Int32 × IX) :=
  if x3 ≤ x2 then
    fn_Post_load_L100 x2 X
  else
    zu_gd (zu_ib x1 4) <|
    zu_gd (zu_ib x2 40) <|
    zu_b1 (fn_Post_isWithin (X ((12 + (x1.toNatClampNeg)) + 4) (x2.toNatClampNeg)) (0 : Int32) (3 : Int32)) fun v19 =>
    if v19 = 0 then
      fn_Post_load_L100 x2 X
    else
      zu_gd (zu_ib x1 4) <|
      zu_gd (zu_ib x2 40) <|
      zu_gd (zu_ib x2 24) <|
      zu_nx (zu_st X (20 + 3) (x2.toNatClampNeg) (X ((12 + (x1.toNatClampNeg)) + 4) (x2.toNatClampNeg))) fun X25 =>
      zu_nx (x2 + (1 : Int32)) fun v26 =>
      k50 x1 v26 x3 X25
def fn_Post_load_L50 : Nat → Int32 → Int32 → Int32 → IX → Option (Int32 × IX)
  | 0, _, _, _, _ => none
  | n + 1, x1, x2, x3, X => fn_Post_load_B50 (fn_Post_load_L50 n) x1 x2 x3 X
def fn_Post_load (a1 : Int32) (X : IX) : Option (Int32 × IX) :=
  zu_b1 (fn_Post_isSheet a1) fun v1 =>
  if v1 = 0 then
    zu_b2 (fn_Post_finding (-1000001 : Int32) X) fun v13 X14 =>
    some (v13, X14)
  else
    zu_gd (zu_ib a1 4) <|
    zu_b1 (fn_Sheet_isMissing X (12 + (a1.toNatClampNeg))) fun v5 =>
    if v5 = 0 then
      zu_gd (zu_ib a1 4) <|
      zu_nx (if (24 : Int32) < (X (12 + (a1.toNatClampNeg)) 2) then (24 : Int32) else (X (12 + (a1.toNatClampNeg)) 2)) fun v9 =>
      fn_Post_load_L50 400 a1 (0 : Int32) v9 X
    else
      zu_b2 (fn_Post_finding (-1000006 : Int32) X) fun v10 X11 =>
      some (v10, X11)
/-! StonePost.rightCells -/
def fn_Post_rightCells_L42 (X : IX) (x4 : Int32) : Option Int32 :=
  some x4
def fn_Post_rightCells_B7 (X : IX) (k7 : Nat → Int32 → Int32 → Option Int32) (r1 : Nat) (x3 : Int32) (x4 : Int32) : Option Int32 :=
  if (X r1 2) ≤ x4 then
    some (X r1 2)
  else
    zu_gd (zu_ib x4 40) <|
    zu_nx (X (r1 + 4) (x4.toNatClampNeg)) fun v4 =>
    zu_b1 (fn_Post_isCell v4) fun v5 =>
    if v5 = 0 then
      fn_Post_rightCells_L42 X x4
    else
      if ((x3 >>> (v4 &&& 31)) &&& (1 : Int32)) = 0 then
        fn_Post_rightCells_L42 X x4
      else
        zu_b1 (fn_Chart_after X ((1 : Int32) <<< (v4 &&& 31)) x4) fun v9 =>
        zu_nx (x4 + (1 : Int32)) fun v11 =>
        k7 r1 v9 v11
def fn_Post_rightCells_L7 (X : IX) : Nat → Nat → Int32 → Int32 → Option Int32
  | 0, _, _, _ => none
  | n + 1, r1, x3, x4 => fn_Post_rightCells_B7 X (fn_Post_rightCells_L7 X n) r1 x3 x4
def fn_Post_rightCells (X : IX) (r1 : Nat) (a2 : Int32) : Option Int32 :=
  zu_nx ((1 : Int32) <<< (a2 &&& 31)) fun v1 =>
  fn_Post_rightCells_L7 X 400 r1 v1 (0 : Int32)
/-! StonePost.judge -/
def fn_Post_judge_L99 (y0 : Int32) (X : IX) : Option (Int32 × IX) :=
  some (y0, X)
def fn_Post_judge (a1 : Int32) (a2 : Int32) (X : IX) : Option (Int32 × IX) :=
  zu_b1 (fn_Post_isSheet a1) fun v1 =>
  if v1 = 0 then
    zu_b2 (fn_Post_finding (-1000001 : Int32) X) fun v25 X26 =>
    some (v25, X26)
  else
    zu_gd (zu_ib a1 4) <|
    zu_b1 (fn_Sheet_isMissing X (12 + (a1.toNatClampNeg))) fun v5 =>
    if v5 = 0 then
      zu_b1 (fn_Post_isLetter X a2) fun v8 =>
      if v8 = 0 then
        zu_b2 (fn_Post_finding (-1000001 : Int32) X) fun v19 X20 =>
        some (v19, X20)
      else
        zu_b1 (fn_Chart_lay 20 X) fun X11 =>
        zu_gd (zu_ib a1 4) <|
        zu_gd (zu_ib a2 12) <|
        zu_b1 (fn_Post_rightCells X11 (12 + (a1.toNatClampNeg)) (X11 (20 + 9) (a2.toNatClampNeg))) fun v15 =>
        zu_gd (zu_ib a1 4) <|
        if v15 = (X11 (12 + (a1.toNatClampNeg)) 2) then
          fn_Post_judge_L99 (0 : Int32) X11
        else
          fn_Post_judge_L99 ((1 : Int32) + v15) X11
    else
      zu_b2 (fn_Post_finding (-1000006 : Int32) X) fun v22 X23 =>
      some (v22, X23)
/-! StonePost.image -/
def fn_Post_image (X : IX) : Option (Int32 × IX) :=
  zu_b1 (fn_Land_become 21 20 X) fun X1 =>
  zu_nx (zu_st X1 0 7 (1 : Int32)) fun X3 =>
  some ((1 : Int32), X3)
/-! StonePost.undo -/
def fn_Post_undo (X : IX) : Option (Int32 × IX) :=
  if (X 0 7) = 0 then
    zu_b2 (fn_Post_finding (-1000004 : Int32) X) fun v4 X5 =>
    some (v4, X5)
  else
    zu_b1 (fn_Land_become 20 21 X) fun X2 =>
    some (X2 20 8, X2)
/-! StonePost.tear -/
def fn_Post_tear_L12 (y0 : Int32) (X : IX) : Option (Int32 × IX) :=
  zu_nx (zu_st X 0 7 (0 : Int32)) fun X2 =>
  some (y0, X2)
def fn_Post_tear (X : IX) : Option (Int32 × IX) :=
  if (X 0 7) = 0 then
    fn_Post_tear_L12 (0 : Int32) X
  else
    fn_Post_tear_L12 (1 : Int32) X
/-! StonePost$Land.illCount -/
def fn_Land_illCount (X : IX) (r0 : Nat) : Option Int32 :=
  zu_b1 (fn_Land_sumOf X r0 (7 : Int32)) fun v1 =>
  some v1
/-! StonePost$Land.heldSpots -/
def fn_Land_heldSpots_L23 (X : IX) (k4 : Nat → Int32 → Int32 → Option Int32) (r0 : Nat) (x1 : Int32) (x2 : Int32) : Option Int32 :=
  zu_nx (x2 + (1 : Int32)) fun v5 =>
  k4 r0 x1 v5
def fn_Land_heldSpots_B4 (X : IX) (k4 : Nat → Int32 → Int32 → Option Int32) (r0 : Nat) (x1 : Int32) (x2 : Int32) : Option Int32 :=
  if (10 : Int32) ≤ x2 then
    some x1
  else
    zu_gd (zu_ib x2 10) <|
    if (X (r0 + 12) (x2.toNatClampNeg)) = (-1 : Int32) then
      fn_Land_heldSpots_L23 X k4 r0 x1 x2
    else
      zu_nx (x1 + (1 : Int32)) fun v4 =>
      fn_Land_heldSpots_L23 X k4 r0 v4 x2
def fn_Land_heldSpots_L4 (X : IX) : Nat → Nat → Int32 → Int32 → Option Int32
  | 0, _, _, _ => none
  | n + 1, r0, x1, x2 => fn_Land_heldSpots_B4 X (fn_Land_heldSpots_L4 X n) r0 x1 x2
def fn_Land_heldSpots (X : IX) (r0 : Nat) : Option Int32 :=
  fn_Land_heldSpots_L4 X 400 r0 (0 : Int32) (0 : Int32)
/-! StonePost.count -/
def fn_Post_count (a1 : Int32) (X : IX) : Option (Int32 × IX) :=
  if a1 = (0 : Int32) then
    some (X 20 8, X)
  else
    if a1 = (1 : Int32) then
      some (X 20 4, X)
    else
      if a1 = (2 : Int32) then
        some (X 20 5, X)
      else
        if a1 = (3 : Int32) then
          zu_b1 (fn_Land_thanksOfAll X 20) fun v1 =>
          some (v1, X)
        else
          if a1 = (4 : Int32) then
            zu_b1 (fn_Land_illCount X 20) fun v3 =>
            some (v3, X)
          else
            if a1 = (5 : Int32) then
              some (X 8 1, X)
            else
              if a1 = (6 : Int32) then
                some (X 20 9, X)
              else
                if a1 = (7 : Int32) then
                  zu_b1 (fn_Land_heldSpots X 20) fun v5 =>
                  some (v5, X)
                else
                  zu_b2 (fn_Post_finding (-1000001 : Int32) X) fun v7 X8 =>
                  some (v7, X8)
/-! StonePost.status -/
def fn_Post_status_B33 (k33 : Int32 → Int32 → IX → Option (Int32 × IX)) (x2 : Int32) (x3 : Int32) (X : IX) : Option (Int32 × IX) :=
  if (7 : Int32) ≤ x3 then
    some (x2, X)
  else
    zu_gd (zu_ib x3 7) <|
    zu_nx (x2 + (X 11 (x3.toNatClampNeg))) fun v11 =>
    zu_nx (x3 + (1 : Int32)) fun v12 =>
    k33 v11 v12 X
def fn_Post_status_L33 : Nat → Int32 → Int32 → IX → Option (Int32 × IX)
  | 0, _, _, _ => none
  | n + 1, x2, x3, X => fn_Post_status_B33 (fn_Post_status_L33 n) x2 x3 X
def fn_Post_status (a1 : Int32) (X : IX) : Option (Int32 × IX) :=
  zu_b1 (fn_Post_isWithin a1 (0 : Int32) (6 : Int32)) fun v1 =>
  if v1 = 0 then
    if a1 = (-1 : Int32) then
      fn_Post_status_L33 400 (0 : Int32) (0 : Int32) X
    else
      zu_b2 (fn_Post_finding (-1000001 : Int32) X) fun v5 X6 =>
      some (v5, X6)
  else
    zu_gd (zu_ib a1 7) <|
    some (X 11 (a1.toNatClampNeg), X)
/-! StonePostModel.in -/
def fn_Mod_in_L18 (y0 : Int32) : Option Int32 :=
  zu_gd (zu_01 y0) <|
  some y0
def fn_Mod_in_L17 : Option Int32 :=
  fn_Mod_in_L18 (0 : Int32)
def fn_Mod_in (a0 : Int64) (a2 : Int64) (a4 : Int64) : Option Int32 :=
  if (lg_cmp a0 a2) < 0 then
    fn_Mod_in_L17
  else
    if 0 < (lg_cmp a0 a4) then
      fn_Mod_in_L17
    else
      fn_Mod_in_L18 (1 : Int32)
/-! StonePostModel.finds -/
def fn_Mod_finds (a1 : Int32) (X : IX) : Option (Int32 × IX) :=
  zu_gd (zu_ib ((-1000001 : Int32) - a1) 7) <|
  zu_gd (zu_ib ((-1000001 : Int32) - a1) 7) <|
  zu_nx (zu_st X 99 (((-1000001 : Int32) - a1).toNatClampNeg) ((X 99 (((-1000001 : Int32) - a1).toNatClampNeg)) + (1 : Int32))) fun X3 =>
  some (a1, X3)
/-! StonePostModel.isCell -/
def fn_Mod_isCell (a0 : Int32) : Option Int32 :=
  zu_b1 (fn_Mod_in (a0.toInt64) (0 : Int64) (23 : Int64)) fun v1 =>
  zu_gd (zu_01 v1) <|
  some v1
/-! StonePostModel.isThrower -/
def fn_Mod_isThrower (X : IX) (a1 : Int32) : Option Int32 :=
  zu_b1 (fn_Mod_in (a1.toInt64) (0 : Int64) (((X 96 1) - (1 : Int32)).toInt64)) fun v1 =>
  zu_gd (zu_01 v1) <|
  some v1
/-! StonePostModel.isLetter -/
def fn_Mod_isLetter (X : IX) (a1 : Int32) : Option Int32 :=
  zu_b1 (fn_Mod_in (a1.toInt64) (0 : Int64) (((X 96 2) - (1 : Int32)).toInt64)) fun v1 =>
  zu_gd (zu_01 v1) <|
  some v1
/-! StonePostModel.has -/
def fn_Mod_has_L14 (y0 : Int32) : Option Int32 :=
  zu_gd (zu_01 y0) <|
  some y0
def fn_Mod_has (a0 : Int32) (a1 : Int32) : Option Int32 :=
  if ((a0 >>> (a1 &&& 31)) &&& (1 : Int32)) = (1 : Int32) then
    fn_Mod_has_L14 (1 : Int32)
  else
    fn_Mod_has_L14 (0 : Int32)
/-! StonePostModel.size -/
def fn_Mod_size_L11 (y0 : Int32) : Int32 :=
  y0
def fn_Mod_size (a0 : Int32) : Int32 :=
  if 0 ≤ a0 then
    fn_Mod_size_L11 a0
  else
    fn_Mod_size_L11 ((0 : Int32) - a0)
/-! StonePostModel.draw -/
def fn_Mod_draw (X : IX) : Option (Int32 × IX) :=
  zu_nx (zu_st X 96 5 (((X 96 5) * (1103515245 : Int32)) + (12345 : Int32))) fun X1 =>
  some (((X1 96 5).toUInt32 >>> ((8 : Int32).toUInt32 &&& Int32.toUInt32 31)).toInt32, X1)
/-! StonePostModel.puts -/
def fn_Mod_puts_B2 (k2 : Int32 → IX → Option IX) (x1 : Int32) (X : IX) : Option IX :=
  if (142 : Int32) ≤ x1 then
    some X
  else
    zu_gd (zu_ib x1 142) <|
    zu_gd (zu_ib x1 142) <|
    zu_nx (zu_st X 98 (x1.toNatClampNeg) (X 96 (x1.toNatClampNeg))) fun X4 =>
    zu_nx (x1 + (1 : Int32)) fun v5 =>
    k2 v5 X4
def fn_Mod_puts_L2 : Nat → Int32 → IX → Option IX
  | 0, _, _ => none
  | n + 1, x1, X => fn_Mod_puts_B2 (fn_Mod_puts_L2 n) x1 X
def fn_Mod_puts (X : IX) : Option IX :=
  fn_Mod_puts_L2 400 (0 : Int32) X
/-! StonePostModel.putsBack -/
def fn_Mod_putsBack_B2 (k2 : Int32 → IX → Option IX) (x1 : Int32) (X : IX) : Option IX :=
  if (142 : Int32) ≤ x1 then
    some X
  else
    zu_gd (zu_ib x1 142) <|
    zu_gd (zu_ib x1 142) <|
    zu_nx (zu_st X 96 (x1.toNatClampNeg) (X 98 (x1.toNatClampNeg))) fun X4 =>
    zu_nx (x1 + (1 : Int32)) fun v5 =>
    k2 v5 X4
def fn_Mod_putsBack_L2 : Nat → Int32 → IX → Option IX
  | 0, _, _ => none
  | n + 1, x1, X => fn_Mod_putsBack_B2 (fn_Mod_putsBack_L2 n) x1 X
def fn_Mod_putsBack (X : IX) : Option IX :=
  fn_Mod_putsBack_L2 400 (0 : Int32) X
/-! StonePostModel.stuff -/
def fn_Mod_stuff_L19 (X : IX) : Option (Int32 × IX) :=
  zu_b2 (fn_Mod_finds (-1000001 : Int32) X) fun v11 X12 =>
  some (v11, X12)
def fn_Mod_stuff (a1 : Int32) (a2 : Int32) (X : IX) : Option (Int32 × IX) :=
  zu_b1 (fn_Mod_isCell a1) fun v1 =>
  if v1 = 0 then
    fn_Mod_stuff_L19 X
  else
    zu_b1 (fn_Mod_in (a2.toInt64) (0 : Int64) (3 : Int64)) fun v4 =>
    if v4 = 0 then
      fn_Mod_stuff_L19 X
    else
      zu_gd (zu_ib ((6 : Int32) + a1) 142) <|
      zu_nx (X 96 (((6 : Int32) + a1).toNatClampNeg)) fun v8 =>
      zu_gd (zu_ib ((6 : Int32) + a1) 142) <|
      zu_nx (zu_st X 96 (((6 : Int32) + a1).toNatClampNeg) a2) fun X10 =>
      some (v8, X10)
/-! StonePostModel.rule -/
def fn_Mod_rule_L32 (X : IX) : Option (Int32 × IX) :=
  zu_b2 (fn_Mod_finds (-1000001 : Int32) X) fun v5 X6 =>
  some (v5, X6)
def fn_Mod_rule_L26 (x1 : Int32) (x2 : Int32) (y0 : Int64) (y1 : Int64) (y2 : Int64) (X : IX) : Option (Int32 × IX) :=
  zu_b1 (fn_Mod_in y2 y1 y0) fun v8 =>
  if v8 = 0 then
    fn_Mod_rule_L32 X
  else
    zu_gd (zu_ib ((3 : Int32) + x1) 142) <|
    zu_nx (X 96 (((3 : Int32) + x1).toNatClampNeg)) fun v12 =>
    zu_gd (zu_ib ((3 : Int32) + x1) 142) <|
    zu_nx (zu_st X 96 (((3 : Int32) + x1).toNatClampNeg) x2) fun X14 =>
    some (v12, X14)
def fn_Mod_rule (a1 : Int32) (a2 : Int32) (X : IX) : Option (Int32 × IX) :=
  zu_b1 (fn_Mod_in (a1.toInt64) (0 : Int64) (1 : Int64)) fun v1 =>
  if v1 = 0 then
    fn_Mod_rule_L32 X
  else
    if a1 = 0 then
      fn_Mod_rule_L26 a1 a2 (23 : Int64) (0 : Int64) (a2.toInt64) X
    else
      fn_Mod_rule_L26 a1 a2 (9 : Int64) (0 : Int64) (a2.toInt64) X
/-! StonePostModel.at -/
def fn_Mod_at (a0 : Int32) (a1 : Int32) : Int32 :=
  ((30 : Int32) + ((9 : Int32) * a0)) + a1
/-! StonePostModel.its -/
def fn_Mod_its (X : IX) (a1 : Int32) (a2 : Int32) : Option Int32 :=
  zu_nx (fn_Mod_at a1 a2) fun v1 =>
  zu_gd (zu_ib v1 142) <|
  some (X 96 (v1.toNatClampNeg))
/-! StonePostModel.standing -/
def fn_Mod_standing_L29 (X : IX) (k4 : Int32 → Int32 → Int32 → Option Int32) (x1 : Int32) (x3 : Int32) (y0 : Int32) : Option Int32 :=
  zu_nx (x3 + (1 : Int32)) fun v5 =>
  k4 x1 y0 v5
def fn_Mod_standing_B4 (X : IX) (k4 : Int32 → Int32 → Int32 → Option Int32) (x1 : Int32) (x2 : Int32) (x3 : Int32) : Option Int32 :=
  if (X 96 1) ≤ x3 then
    some x2
  else
    zu_b1 (fn_Mod_its X x3 (1 : Int32)) fun v2 =>
    if v2 = x1 then
      fn_Mod_standing_L29 X k4 x1 x3 x3
    else
      fn_Mod_standing_L29 X k4 x1 x3 x2
def fn_Mod_standing_L4 (X : IX) : Nat → Int32 → Int32 → Int32 → Option Int32
  | 0, _, _, _ => none
  | n + 1, x1, x2, x3 => fn_Mod_standing_B4 X (fn_Mod_standing_L4 X n) x1 x2 x3
def fn_Mod_standing (X : IX) (a1 : Int32) : Option Int32 :=
  fn_Mod_standing_L4 X 400 a1 (-1 : Int32) (0 : Int32)
/-! StonePostModel.newThrower -/
def fn_Mod_newThrower (a1 : Int32) (a2 : Int32) (X : IX) : Option (Int32 × IX) :=
  zu_nx (X 96 1) fun v1 =>
  zu_nx (fn_Mod_at v1 (0 : Int32)) fun v2 =>
  zu_gd (zu_ib v2 142) <|
  zu_nx (zu_st X 96 (v2.toNatClampNeg) a1) fun X5 =>
  zu_nx (fn_Mod_at v1 (1 : Int32)) fun v6 =>
  zu_gd (zu_ib v6 142) <|
  zu_nx (zu_st X5 96 (v6.toNatClampNeg) a2) fun X9 =>
  zu_nx (fn_Mod_at v1 (2 : Int32)) fun v10 =>
  zu_gd (zu_ib v10 142) <|
  zu_nx (zu_st X9 96 (v10.toNatClampNeg) (2 : Int32)) fun X13 =>
  zu_nx (fn_Mod_at v1 (3 : Int32)) fun v14 =>
  zu_gd (zu_ib v14 142) <|
  zu_nx (zu_st X13 96 (v14.toNatClampNeg) (5 : Int32)) fun X17 =>
  zu_nx (fn_Mod_at v1 (4 : Int32)) fun v18 =>
  zu_gd (zu_ib v18 142) <|
  zu_nx (zu_st X17 96 (v18.toNatClampNeg) (1 : Int32)) fun X21 =>
  zu_nx (fn_Mod_at v1 (5 : Int32)) fun v22 =>
  zu_gd (zu_ib v22 142) <|
  zu_nx (zu_st X21 96 (v22.toNatClampNeg) (8 : Int32)) fun X25 =>
  zu_nx (fn_Mod_at v1 (6 : Int32)) fun v26 =>
  zu_gd (zu_ib v26 142) <|
  zu_nx (zu_st X25 96 (v26.toNatClampNeg) (0 : Int32)) fun X29 =>
  zu_nx (fn_Mod_at v1 (7 : Int32)) fun v30 =>
  zu_gd (zu_ib v30 142) <|
  zu_nx (zu_st X29 96 (v30.toNatClampNeg) (0 : Int32)) fun X33 =>
  zu_nx (fn_Mod_at v1 (8 : Int32)) fun v34 =>
  zu_gd (zu_ib v34 142) <|
  zu_nx (zu_st X33 96 (v34.toNatClampNeg) (0 : Int32)) fun X37 =>
  zu_nx (zu_st X37 96 1 ((X37 96 1) + (1 : Int32))) fun X38 =>
  some (v1, X38)
/-! StonePostModel.thrower -/
def fn_Mod_thrower_L67 (y0 : Int32) (X : IX) : Option (Int32 × IX) :=
  some (y0, X)
def fn_Mod_thrower_L19 (X : IX) : Option (Int32 × IX) :=
  zu_b2 (fn_Mod_finds (-1000001 : Int32) X) fun v20 X21 =>
  some (v20, X21)
def fn_Mod_thrower (a1 : Int32) (a2 : Int32) (X : IX) : Option (Int32 × IX) :=
  zu_b1 (fn_Mod_in (a1.toInt64) (0 : Int64) (6 : Int64)) fun v1 =>
  if v1 = 0 then
    fn_Mod_thrower_L19 X
  else
    zu_b1 (fn_Mod_isCell a2) fun v4 =>
    if v4 = 0 then
      fn_Mod_thrower_L19 X
    else
      zu_b1 (fn_Mod_standing X a2) fun v7 =>
      if v7 < 0 then
        if (X 96 1) = (10 : Int32) then
          zu_b2 (fn_Mod_finds (-1000002 : Int32) X) fun v14 X15 =>
          fn_Mod_thrower_L67 v14 X15
        else
          zu_b2 (fn_Mod_newThrower a1 a2 X) fun v11 X12 =>
          fn_Mod_thrower_L67 v11 X12
      else
        zu_b2 (fn_Mod_finds (-1000005 : Int32) X) fun v17 X18 =>
        some (v17, X18)
/-! StonePostModel.of -/
def fn_Mod_of_L35 (y0 : Int32) (X : IX) : Option (Int32 × IX) :=
  some (y0, X)
def fn_Mod_of_L29 (X : IX) : Option (Int32 × IX) :=
  zu_b2 (fn_Mod_finds (-1000001 : Int32) X) fun v9 X10 =>
  fn_Mod_of_L35 v9 X10
def fn_Mod_of (a1 : Int32) (a2 : Int32) (X : IX) : Option (Int32 × IX) :=
  zu_b1 (fn_Mod_isThrower X a1) fun v1 =>
  if v1 = 0 then
    fn_Mod_of_L29 X
  else
    zu_b1 (fn_Mod_in (a2.toInt64) (0 : Int64) (8 : Int64)) fun v4 =>
    if v4 = 0 then
      fn_Mod_of_L29 X
    else
      zu_b1 (fn_Mod_its X a1 a2) fun v7 =>
      fn_Mod_of_L35 v7 X
/-! StonePostModel.isPart -/
def fn_Mod_isPart_L112 (y0 : Int32) : Option Int32 :=
  zu_gd (zu_01 y0) <|
  some y0
def fn_Mod_isPart_L111 : Option Int32 :=
  fn_Mod_isPart_L112 (0 : Int32)
def fn_Mod_isPart_L97 (x1 : Int32) : Option Int32 :=
  zu_b1 (fn_Mod_in (x1.toInt64) (0 : Int64) (1 : Int64)) fun v16 =>
  if v16 = 0 then
    fn_Mod_isPart_L111
  else
    fn_Mod_isPart_L112 (1 : Int32)
def fn_Mod_isPart_L80 (x0 : Int32) (x1 : Int32) : Option Int32 :=
  if x0 = (4 : Int32) then
    fn_Mod_isPart_L97 x1
  else
    if x0 = (6 : Int32) then
      fn_Mod_isPart_L97 x1
    else
      if x0 = (7 : Int32) then
        fn_Mod_isPart_L97 x1
      else
        fn_Mod_isPart_L111
def fn_Mod_isPart (a0 : Int32) (a1 : Int32) : Option Int32 :=
  if a0 = (0 : Int32) then
    zu_b1 (fn_Mod_in (a1.toInt64) (0 : Int64) (6 : Int64)) fun v1 =>
    zu_gd (zu_01 v1) <|
    some v1
  else
    if a0 = (1 : Int32) then
      fn_Mod_isPart_L80 a0 a1
    else
      if a0 = (2 : Int32) then
        zu_b1 (fn_Mod_in (a1.toInt64) (1 : Int64) (9 : Int64)) fun v4 =>
        zu_gd (zu_01 v4) <|
        some v4
      else
        if a0 = (3 : Int32) then
          zu_b1 (fn_Mod_in (a1.toInt64) (1 : Int64) (12 : Int64)) fun v7 =>
          zu_gd (zu_01 v7) <|
          some v7
        else
          if a0 = (4 : Int32) then
            fn_Mod_isPart_L80 a0 a1
          else
            if a0 = (5 : Int32) then
              zu_b1 (fn_Mod_in (a1.toInt64) (0 : Int64) (12 : Int64)) fun v10 =>
              zu_gd (zu_01 v10) <|
              some v10
            else
              fn_Mod_isPart_L80 a0 a1
/-! StonePostModel.change -/
def fn_Mod_change_L16 (X : IX) : Option (Int32 × IX) :=
  zu_b2 (fn_Mod_finds (-1000001 : Int32) X) fun v13 X14 =>
  some (v13, X14)
def fn_Mod_change (a1 : Int32) (a2 : Int32) (a3 : Int32) (X : IX) : Option (Int32 × IX) :=
  zu_b1 (fn_Mod_isThrower X a1) fun v1 =>
  if v1 = 0 then
    fn_Mod_change_L16 X
  else
    zu_b1 (fn_Mod_isPart a2 a3) fun v4 =>
    if v4 = 0 then
      fn_Mod_change_L16 X
    else
      zu_b1 (fn_Mod_its X a1 a2) fun v7 =>
      zu_nx (fn_Mod_at a1 a2) fun v9 =>
      zu_gd (zu_ib v9 142) <|
      zu_nx (zu_st X 96 (v9.toNatClampNeg) a3) fun X12 =>
      some (v7, X12)
/-! StonePostModel.walk -/
def fn_Mod_walk_L44 (x1 : Int32) (x2 : Int32) (X : IX) : Option (Int32 × IX) :=
  zu_b1 (fn_Mod_its X x1 (1 : Int32)) fun v17 =>
  zu_nx (fn_Mod_at x1 (1 : Int32)) fun v19 =>
  zu_gd (zu_ib v19 142) <|
  zu_nx (zu_st X 96 (v19.toNatClampNeg) x2) fun X22 =>
  some (v17, X22)
def fn_Mod_walk_L15 (X : IX) : Option (Int32 × IX) :=
  zu_b2 (fn_Mod_finds (-1000001 : Int32) X) fun v14 X15 =>
  some (v14, X15)
def fn_Mod_walk (a1 : Int32) (a2 : Int32) (X : IX) : Option (Int32 × IX) :=
  zu_b1 (fn_Mod_isThrower X a1) fun v1 =>
  if v1 = 0 then
    fn_Mod_walk_L15 X
  else
    zu_b1 (fn_Mod_isCell a2) fun v4 =>
    if v4 = 0 then
      fn_Mod_walk_L15 X
    else
      zu_b1 (fn_Mod_standing X a2) fun v7 =>
      if v7 < 0 then
        fn_Mod_walk_L44 a1 a2 X
      else
        if v7 = a1 then
          fn_Mod_walk_L44 a1 a2 X
        else
          zu_b2 (fn_Mod_finds (-1000005 : Int32) X) fun v11 X12 =>
          some (v11, X12)
/-! StonePostModel.isNight -/
def fn_Mod_isNight_L17 (y0 : Int32) : Option Int32 :=
  zu_gd (zu_01 y0) <|
  some y0
def fn_Mod_isNight_L12 : Option Int32 :=
  fn_Mod_isNight_L17 (1 : Int32)
def fn_Mod_isNight (a0 : Int32) : Option Int32 :=
  if a0 < (6 : Int32) then
    fn_Mod_isNight_L12
  else
    if a0 ≤ (17 : Int32) then
      fn_Mod_isNight_L17 (0 : Int32)
    else
      fn_Mod_isNight_L12
/-! StonePostModel.reach -/
def fn_Mod_reach_L104 (X : IX) (x4 : Int32) : Option Int32 :=
  some x4
def fn_Mod_reach_L98 (X : IX) (y0 : Int32) : Option Int32 :=
  some y0
def fn_Mod_reach_L20 (X : IX) (x1 : Int32) (x2 : Int32) (x3 : Int32) (y0 : Int32) : Option Int32 :=
  zu_b1 (fn_Mod_its X x1 (0 : Int32)) fun v6 =>
  if v6 = (1 : Int32) then
    some (y0 + (1 : Int32))
  else
    if v6 = (2 : Int32) then
      fn_Mod_reach_L104 X y0
    else
      if v6 = (3 : Int32) then
        some ((y0 + (1 : Int32)) + ((2 : Int32) * x2))
      else
        if v6 = (4 : Int32) then
          fn_Mod_reach_L104 X y0
        else
          if v6 = (5 : Int32) then
            zu_b1 (fn_Mod_isNight x3) fun v8 =>
            if v8 = 0 then
              fn_Mod_reach_L98 X y0
            else
              fn_Mod_reach_L98 X (y0 - (1 : Int32))
          else
            if v6 = (6 : Int32) then
              some (y0 / (2 : Int32))
            else
              fn_Mod_reach_L104 X y0
def fn_Mod_reach (X : IX) (a1 : Int32) (a2 : Int32) (a3 : Int32) : Option Int32 :=
  if a2 = (1 : Int32) then
    zu_b1 (fn_Mod_its X a1 (3 : Int32)) fun v4 =>
    fn_Mod_reach_L20 X a1 a2 a3 v4
  else
    zu_b1 (fn_Mod_its X a1 (2 : Int32)) fun v2 =>
    fn_Mod_reach_L20 X a1 a2 a3 v2
/-! StonePostModel.least0 -/
def fn_Mod_least0_L9 (y0 : Int32) : Int32 :=
  y0
def fn_Mod_least0 (a0 : Int32) : Int32 :=
  if 0 ≤ a0 then
    fn_Mod_least0_L9 a0
  else
    fn_Mod_least0_L9 (0 : Int32)
/-! StonePostModel.sure -/
def fn_Mod_sure_L86 (X : IX) (x4 : Int32) : Option Int32 :=
  some x4
def fn_Mod_sure_L82 (X : IX) (y0 : Int32) : Option Int32 :=
  some y0
def fn_Mod_sure (X : IX) (a1 : Int32) (a2 : Int32) (a3 : Int32) : Option Int32 :=
  zu_b1 (fn_Mod_its X a1 (5 : Int32)) fun v1 =>
  zu_nx (fn_Mod_least0 (v1 - ((2 : Int32) * a2))) fun v3 =>
  zu_b1 (fn_Mod_its X a1 (0 : Int32)) fun v5 =>
  if v5 = (2 : Int32) then
    zu_nx (fn_Mod_least0 (v3 - (3 : Int32))) fun v7 =>
    some v7
  else
    if v5 = (3 : Int32) then
      fn_Mod_sure_L86 X v3
    else
      if v5 = (4 : Int32) then
        zu_b1 (fn_Mod_isNight a3) fun v9 =>
        if v9 = 0 then
          zu_nx (fn_Mod_least0 (v3 - (3 : Int32))) fun v12 =>
          fn_Mod_sure_L82 X v12
        else
          fn_Mod_sure_L82 X (0 : Int32)
      else
        if v5 = (5 : Int32) then
          fn_Mod_sure_L86 X v3
        else
          if v5 = (6 : Int32) then
            some (12 : Int32)
          else
            fn_Mod_sure_L86 X v3
/-! StonePostModel.landing -/
def fn_Mod_landing_L84 (X : IX) (y0 : Int32) : Option Int32 :=
  some y0
def fn_Mod_landing_L59 (X : IX) (y0 : Int32) : Option Int32 :=
  if 0 ≤ y0 then
    if y0 ≤ (23 : Int32) then
      fn_Mod_landing_L84 X y0
    else
      fn_Mod_landing_L84 X (23 : Int32)
  else
    fn_Mod_landing_L84 X (0 : Int32)
def fn_Mod_landing_L26 (X : IX) (x1 : Int32) (y0 : Int32) : Option Int32 :=
  zu_b1 (fn_Mod_its X x1 (4 : Int32)) fun v6 =>
  if v6 = (1 : Int32) then
    zu_b1 (fn_Mod_its X x1 (1 : Int32)) fun v11 =>
    fn_Mod_landing_L59 X (v11 + y0)
  else
    zu_b1 (fn_Mod_its X x1 (1 : Int32)) fun v9 =>
    fn_Mod_landing_L59 X (v9 - y0)
def fn_Mod_landing (X : IX) (a1 : Int32) (a2 : Int32) (a3 : Int32) (a4 : Int32) : Option Int32 :=
  zu_b1 (fn_Mod_reach X a1 a2 a3) fun v1 =>
  if a4 = 0 then
    fn_Mod_landing_L26 X a1 v1
  else
    zu_nx (fn_Mod_least0 (v1 - (1 : Int32))) fun v4 =>
    fn_Mod_landing_L26 X a1 v4
/-! StonePostModel.isThrow -/
def fn_Mod_isThrow_L35 (X : IX) (y0 : Int32) : Option Int32 :=
  zu_gd (zu_01 y0) <|
  some y0
def fn_Mod_isThrow_L34 (X : IX) : Option Int32 :=
  fn_Mod_isThrow_L35 X (0 : Int32)
def fn_Mod_isThrow (X : IX) (a1 : Int32) (a2 : Int32) (a3 : Int32) : Option Int32 :=
  zu_b1 (fn_Mod_isThrower X a1) fun v1 =>
  if v1 = 0 then
    fn_Mod_isThrow_L34 X
  else
    zu_b1 (fn_Mod_in (a2.toInt64) (0 : Int64) (1 : Int64)) fun v4 =>
    if v4 = 0 then
      fn_Mod_isThrow_L34 X
    else
      zu_b1 (fn_Mod_in (a3.toInt64) (0 : Int64) (23 : Int64)) fun v7 =>
      if v7 = 0 then
        fn_Mod_isThrow_L34 X
      else
        fn_Mod_isThrow_L35 X (1 : Int32)
/-! StonePostModel.told -/
def fn_Mod_told_L51 (y0 : Int32) (X : IX) : Option (Int32 × IX) :=
  some (y0, X)
def fn_Mod_told_L21 (X : IX) : Option (Int32 × IX) :=
  zu_b2 (fn_Mod_finds (-1000001 : Int32) X) fun v12 X13 =>
  some (v12, X13)
def fn_Mod_told (a1 : Int32) (a2 : Int32) (a3 : Int32) (a4 : Int32) (X : IX) : Option (Int32 × IX) :=
  zu_b1 (fn_Mod_isThrow X a1 a3 a4) fun v1 =>
  if v1 = 0 then
    fn_Mod_told_L21 X
  else
    zu_b1 (fn_Mod_in (a2.toInt64) (0 : Int64) (1 : Int64)) fun v4 =>
    if v4 = 0 then
      fn_Mod_told_L21 X
    else
      if a2 = 0 then
        zu_b1 (fn_Mod_reach X a1 a3 a4) fun v10 =>
        fn_Mod_told_L51 v10 X
      else
        zu_b1 (fn_Mod_sure X a1 a3 a4) fun v8 =>
        fn_Mod_told_L51 v8 X
/-! StonePostModel.falls -/
def fn_Mod_falls_L28 (y0 : Int32) (X : IX) : Option (Int32 × IX) :=
  some (y0, X)
def fn_Mod_falls (a1 : Int32) (a2 : Int32) (a3 : Int32) (a4 : Int32) (X : IX) : Option (Int32 × IX) :=
  zu_b1 (fn_Mod_isThrow X a1 a2 a3) fun v1 =>
  if v1 = 0 then
    zu_b2 (fn_Mod_finds (-1000001 : Int32) X) fun v4 X5 =>
    fn_Mod_falls_L28 v4 X5
  else
    zu_b1 (fn_Mod_landing X a1 a2 a3 a4) fun v7 =>
    fn_Mod_falls_L28 v7 X
/-! StonePostModel.isStaying -/
def fn_Mod_isStaying_L28 (X : IX) (y0 : Int32) : Option Int32 :=
  zu_gd (zu_01 y0) <|
  some y0
def fn_Mod_isStaying_L23 (X : IX) : Option Int32 :=
  fn_Mod_isStaying_L28 X (1 : Int32)
def fn_Mod_isStaying (X : IX) (a1 : Int32) : Option Int32 :=
  if a1 = (X 96 3) then
    fn_Mod_isStaying_L23 X
  else
    zu_gd (zu_ib ((6 : Int32) + a1) 142) <|
    if (X 96 (((6 : Int32) + a1).toNatClampNeg)) = (1 : Int32) then
      fn_Mod_isStaying_L23 X
    else
      fn_Mod_isStaying_L28 X (0 : Int32)
/-! StonePostModel.nearest -/
def fn_Mod_nearest_L116 (X : IX) (k4 : Int32 → Int32 → Int32 → Option Int32) (x1 : Int32) (x3 : Int32) (y0 : Int32) : Option Int32 :=
  zu_nx (x3 + (1 : Int32)) fun v23 =>
  k4 x1 y0 v23
def fn_Mod_nearest_L115 (X : IX) (k4 : Int32 → Int32 → Int32 → Option Int32) (x1 : Int32) (x2 : Int32) (x3 : Int32) : Option Int32 :=
  fn_Mod_nearest_L116 X k4 x1 x3 x2
def fn_Mod_nearest_L111 (X : IX) (k4 : Int32 → Int32 → Int32 → Option Int32) (x1 : Int32) (x3 : Int32) : Option Int32 :=
  fn_Mod_nearest_L116 X k4 x1 x3 x3
def fn_Mod_nearest_L75 (X : IX) (k4 : Int32 → Int32 → Int32 → Option Int32) (x1 : Int32) (x2 : Int32) (x3 : Int32) (x4 : Int32) (x5 : Int32) (y0 : Int32) : Option Int32 :=
  if x5 = 0 then
    fn_Mod_nearest_L115 X k4 x1 x2 x3
  else
    if x4 < y0 then
      fn_Mod_nearest_L111 X k4 x1 x3
    else
      if x4 = y0 then
        zu_b1 (fn_Mod_its X x3 (1 : Int32)) fun v18 =>
        zu_b1 (fn_Mod_its X x2 (1 : Int32)) fun v20 =>
        if v20 ≤ v18 then
          fn_Mod_nearest_L115 X k4 x1 x2 x3
        else
          fn_Mod_nearest_L111 X k4 x1 x3
      else
        fn_Mod_nearest_L115 X k4 x1 x2 x3
def fn_Mod_nearest_L53 (X : IX) (k4 : Int32 → Int32 → Int32 → Option Int32) (x1 : Int32) (x2 : Int32) (x3 : Int32) (x4 : Int32) (y0 : Int32) : Option Int32 :=
  if 0 ≤ x2 then
    zu_b1 (fn_Mod_its X x2 (1 : Int32)) fun v11 =>
    zu_nx (fn_Mod_size (v11 - x1)) fun v13 =>
    fn_Mod_nearest_L75 X k4 x1 x2 x3 x4 y0 v13
  else
    fn_Mod_nearest_L75 X k4 x1 x2 x3 x4 y0 (99 : Int32)
def fn_Mod_nearest_L52 (X : IX) (k4 : Int32 → Int32 → Int32 → Option Int32) (x1 : Int32) (x2 : Int32) (x3 : Int32) (x4 : Int32) : Option Int32 :=
  fn_Mod_nearest_L53 X k4 x1 x2 x3 x4 (0 : Int32)
def fn_Mod_nearest_B4 (X : IX) (k4 : Int32 → Int32 → Int32 → Option Int32) (x1 : Int32) (x2 : Int32) (x3 : Int32) : Option Int32 :=
  if (X 96 1) ≤ x3 then
    some x2
  else
    zu_b1 (fn_Mod_its X x3 (1 : Int32)) fun v2 =>
    zu_nx (fn_Mod_size (v2 - x1)) fun v4 =>
    zu_b1 (fn_Mod_its X x3 (7 : Int32)) fun v6 =>
    if v6 = 0 then
      if (X 96 4) < v4 then
        fn_Mod_nearest_L52 X k4 x1 x2 x3 v4
      else
        fn_Mod_nearest_L53 X k4 x1 x2 x3 v4 (1 : Int32)
    else
      fn_Mod_nearest_L52 X k4 x1 x2 x3 v4
def fn_Mod_nearest_L4 (X : IX) : Nat → Int32 → Int32 → Int32 → Option Int32
  | 0, _, _, _ => none
  | n + 1, x1, x2, x3 => fn_Mod_nearest_B4 X (fn_Mod_nearest_L4 X n) x1 x2 x3
def fn_Mod_nearest (X : IX) (a1 : Int32) : Option Int32 :=
  fn_Mod_nearest_L4 X 400 a1 (-1 : Int32) (0 : Int32)
/-! StonePostModel.next -/
def fn_Mod_next_L46 (y0 : Int32) (X : IX) : Option (Int32 × IX) :=
  some (y0, X)
def fn_Mod_next_L31 (y0 : Int32) (X : IX) : Option (Int32 × IX) :=
  if 0 ≤ y0 then
    fn_Mod_next_L46 y0 X
  else
    zu_b2 (fn_Mod_finds (-1000004 : Int32) X) fun v13 X14 =>
    fn_Mod_next_L46 v13 X14
def fn_Mod_next (a1 : Int32) (X : IX) : Option (Int32 × IX) :=
  zu_b1 (fn_Mod_isCell a1) fun v1 =>
  if v1 = 0 then
    zu_b2 (fn_Mod_finds (-1000001 : Int32) X) fun v9 X10 =>
    some (v9, X10)
  else
    zu_b1 (fn_Mod_isStaying X a1) fun v4 =>
    if v4 = 0 then
      zu_b1 (fn_Mod_nearest X a1) fun v7 =>
      fn_Mod_next_L31 v7 X
    else
      fn_Mod_next_L31 (-1 : Int32) X
/-! StonePostModel.goes -/
def fn_Mod_goes_L200 (X : IX) : Option IX :=
  some X
def fn_Mod_goes_L197 (y0 : Int32) (X : IX) : Option IX :=
  zu_nx (zu_st X 95 5 y0) fun X36 =>
  fn_Mod_goes_L200 X36
def fn_Mod_goes_L158 (y0 : Int32) (X : IX) : Option IX :=
  zu_nx (zu_st X 95 6 y0) fun X37 =>
  fn_Mod_goes_L200 X37
def fn_Mod_goes_L121 (x1 : Int32) (x4 : Int32) (X : IX) : Option IX :=
  if x4 < 0 then
    zu_gd (zu_ib ((6 : Int32) + x1) 142) <|
    if (X 96 (((6 : Int32) + x1).toNatClampNeg)) = (3 : Int32) then
      if (X 96 3) ≤ x1 then
        fn_Mod_goes_L197 (x1 - (1 : Int32)) X
      else
        fn_Mod_goes_L197 (x1 + (1 : Int32)) X
    else
      fn_Mod_goes_L200 X
  else
    zu_b1 (fn_Mod_its X x4 (1 : Int32)) fun v21 =>
    zu_nx (zu_st X 95 5 v21) fun X23 =>
    zu_gd (zu_ib ((6 : Int32) + x1) 142) <|
    if (X23 96 (((6 : Int32) + x1).toNatClampNeg)) = (2 : Int32) then
      fn_Mod_goes_L158 (6 : Int32) X23
    else
      fn_Mod_goes_L158 (12 : Int32) X23
def fn_Mod_goes_L69 (x2 : Int32) (x4 : Int32) (y0 : Int32) (X : IX) : Option IX :=
  zu_nx (zu_st X 95 8 x4) fun X26 =>
  zu_b1 (fn_Mod_landing X26 x4 y0 x2 (0 : Int32)) fun v27 =>
  zu_nx (zu_st X26 95 5 v27) fun X29 =>
  zu_b1 (fn_Mod_landing X29 x4 y0 x2 (1 : Int32)) fun v30 =>
  zu_nx (zu_st X29 95 7 v30) fun X32 =>
  zu_b1 (fn_Mod_sure X32 x4 y0 x2) fun v33 =>
  zu_nx (zu_st X32 95 6 v33) fun X35 =>
  fn_Mod_goes_L200 X35
def fn_Mod_goes (a1 : Int32) (a2 : Int32) (a3 : Int32) (X : IX) : Option IX :=
  zu_nx (zu_st X 95 5 a1) fun X1 =>
  zu_nx (zu_st X1 95 7 a1) fun X2 =>
  zu_nx (zu_st X2 95 6 (12 : Int32)) fun X3 =>
  zu_nx (zu_st X3 95 8 (-1 : Int32)) fun X4 =>
  zu_b1 (fn_Mod_isStaying X4 a1) fun v5 =>
  if v5 = 0 then
    zu_b1 (fn_Mod_nearest X4 a1) fun v8 =>
    if v8 < 0 then
      fn_Mod_goes_L121 a1 v8 X4
    else
      zu_b1 (fn_Mod_its X4 v8 (1 : Int32)) fun v11 =>
      if v11 = a1 then
        if 0 ≤ a3 then
          fn_Mod_goes_L69 a2 v8 a3 X4
        else
          zu_b1 (fn_Mod_its X4 v8 (6 : Int32)) fun v15 =>
          fn_Mod_goes_L69 a2 v8 v15 X4
      else
        fn_Mod_goes_L121 a1 v8 X4
  else
    some X4
/-! StonePostModel.letter -/
def fn_Mod_letter (a1 : Int32) (X : IX) : Option (Int32 × IX) :=
  zu_b1 (fn_Mod_isCell a1) fun v1 =>
  if v1 = 0 then
    zu_b2 (fn_Mod_finds (-1000001 : Int32) X) fun v11 X12 =>
    some (v11, X12)
  else
    if (X 96 2) = (12 : Int32) then
      zu_b2 (fn_Mod_finds (-1000002 : Int32) X) fun v8 X9 =>
      some (v8, X9)
    else
      zu_gd (zu_ib ((120 : Int32) + (X 96 2)) 142) <|
      zu_nx (zu_st X 96 (((120 : Int32) + (X 96 2)).toNatClampNeg) a1) fun X6 =>
      zu_nx (zu_st X6 96 2 ((X6 96 2) + (1 : Int32))) fun X7 =>
      some ((X7 96 2) - (1 : Int32), X7)
/-! StonePostModel.where -/
def fn_Mod_where_L26 (y0 : Int32) (X : IX) : Option (Int32 × IX) :=
  some (y0, X)
def fn_Mod_where (a1 : Int32) (X : IX) : Option (Int32 × IX) :=
  zu_b1 (fn_Mod_isLetter X a1) fun v1 =>
  if v1 = 0 then
    zu_b2 (fn_Mod_finds (-1000001 : Int32) X) fun v4 X5 =>
    fn_Mod_where_L26 v4 X5
  else
    zu_gd (zu_ib ((120 : Int32) + a1) 142) <|
    fn_Mod_where_L26 (X 96 (((120 : Int32) + a1).toNatClampNeg)) X
/-! StonePostModel.take -/
def fn_Mod_take_B37 (k37 : Int32 → Int32 → IX → Option (Int32 × IX)) (x2 : Int32) (x3 : Int32) (X : IX) : Option (Int32 × IX) :=
  if (X 96 2) ≤ x3 then
    some (x2, X)
  else
    zu_gd (zu_ib (((120 : Int32) + x3) + (1 : Int32)) 142) <|
    zu_gd (zu_ib ((120 : Int32) + x3) 142) <|
    zu_nx (zu_st X 96 (((120 : Int32) + x3).toNatClampNeg) (X 96 ((((120 : Int32) + x3) + (1 : Int32)).toNatClampNeg))) fun X13 =>
    zu_nx (x3 + (1 : Int32)) fun v14 =>
    k37 x2 v14 X13
def fn_Mod_take_L37 : Nat → Int32 → Int32 → IX → Option (Int32 × IX)
  | 0, _, _, _ => none
  | n + 1, x2, x3, X => fn_Mod_take_B37 (fn_Mod_take_L37 n) x2 x3 X
def fn_Mod_take (a1 : Int32) (X : IX) : Option (Int32 × IX) :=
  zu_b1 (fn_Mod_isLetter X a1) fun v1 =>
  if v1 = 0 then
    zu_b2 (fn_Mod_finds (-1000001 : Int32) X) fun v7 X8 =>
    some (v7, X8)
  else
    zu_gd (zu_ib ((120 : Int32) + a1) 142) <|
    zu_nx (X 96 (((120 : Int32) + a1).toNatClampNeg)) fun v5 =>
    zu_nx (zu_st X 96 2 ((X 96 2) - (1 : Int32))) fun X6 =>
    fn_Mod_take_L37 400 v5 a1 X6
/-! StonePostModel.clockIn -/
def fn_Mod_clockIn (X : IX) (a1 : Int32) : Int32 :=
  ((X 96 0) + a1) - ((X 96 0) + a1) / (24 : Int32) * (24 : Int32)
/-! StonePostModel.hour -/
def fn_Mod_hour_L129 (k2 : Int32 → IX → Option IX) (x1 : Int32) (y0 : Int32) (y1 : Int32) (X : IX) : Option IX :=
  zu_gd (zu_ib y1 142) <|
  zu_nx (zu_st X 96 (y1.toNatClampNeg) y0) fun X24 =>
  zu_nx (x1 + (1 : Int32)) fun v25 =>
  k2 v25 X24
def fn_Mod_hour_L106 (k2 : Int32 → IX → Option IX) (x1 : Int32) (x2 : Int32) (X : IX) : Option IX :=
  if x2 = 0 then
    fn_Mod_hour_L129 k2 x1 (X 95 7) ((120 : Int32) + x1) X
  else
    fn_Mod_hour_L129 k2 x1 (X 95 5) ((120 : Int32) + x1) X
def fn_Mod_hour_L81 (k2 : Int32 → IX → Option IX) (x1 : Int32) (x2 : Int32) (X : IX) : Option IX :=
  if (X 95 8) < 0 then
    fn_Mod_hour_L106 k2 x1 x2 X
  else
    zu_nx (fn_Mod_at (X 95 8) (8 : Int32)) fun v17 =>
    zu_gd (zu_ib v17 142) <|
    zu_gd (zu_ib v17 142) <|
    zu_nx (zu_st X 96 (v17.toNatClampNeg) ((X 96 (v17.toNatClampNeg)) + (1 : Int32))) fun X21 =>
    fn_Mod_hour_L106 k2 x1 x2 X21
def fn_Mod_hour_L80 (k2 : Int32 → IX → Option IX) (x1 : Int32) (y0 : Int32) (X : IX) : Option IX :=
  fn_Mod_hour_L81 k2 x1 y0 X
def fn_Mod_hour_L45 (k2 : Int32 → IX → Option IX) (x1 : Int32) (y0 : Int32) (X : IX) : Option IX :=
  zu_b1 (fn_Mod_in ((X 95 6).toInt64) (1 : Int64) (11 : Int64)) fun v9 =>
  if v9 = 0 then
    fn_Mod_hour_L81 k2 x1 y0 X
  else
    zu_b2 (fn_Mod_draw X) fun v12 X13 =>
    if (X13 95 6) ≤ (v12 - v12 / (12 : Int32) * (12 : Int32)) then
      fn_Mod_hour_L80 k2 x1 (0 : Int32) X13
    else
      fn_Mod_hour_L80 k2 x1 (1 : Int32) X13
def fn_Mod_hour_B2 (k2 : Int32 → IX → Option IX) (x1 : Int32) (X : IX) : Option IX :=
  if (X 96 2) ≤ x1 then
    zu_nx (zu_st X 96 0 ((X 96 0) + (1 : Int32))) fun X2 =>
    some X2
  else
    zu_gd (zu_ib ((120 : Int32) + x1) 142) <|
    zu_nx (fn_Mod_clockIn X (0 : Int32)) fun v4 =>
    zu_b1 (fn_Mod_goes (X 96 (((120 : Int32) + x1).toNatClampNeg)) v4 (-1 : Int32) X) fun X6 =>
    if (X6 95 6) = (12 : Int32) then
      fn_Mod_hour_L45 k2 x1 (1 : Int32) X6
    else
      fn_Mod_hour_L45 k2 x1 (0 : Int32) X6
def fn_Mod_hour_L2 : Nat → Int32 → IX → Option IX
  | 0, _, _ => none
  | n + 1, x1, X => fn_Mod_hour_B2 (fn_Mod_hour_L2 n) x1 X
def fn_Mod_hour (X : IX) : Option IX :=
  fn_Mod_hour_L2 400 (0 : Int32) X
/-! StonePostModel.lettersHome -/
def fn_Mod_lettersHome_L38 (X : IX) (k4 : Int32 → Int32 → Option Int32) (x2 : Int32) (y0 : Int32) (y1 : Int32) : Option Int32 :=
  zu_nx (y1 + y0) fun v4 =>
  zu_nx (x2 + (1 : Int32)) fun v5 =>
  k4 v4 v5
def fn_Mod_lettersHome_B4 (X : IX) (k4 : Int32 → Int32 → Option Int32) (x1 : Int32) (x2 : Int32) : Option Int32 :=
  if (X 96 2) ≤ x2 then
    some x1
  else
    zu_gd (zu_ib ((120 : Int32) + x2) 142) <|
    if (X 96 (((120 : Int32) + x2).toNatClampNeg)) = (X 96 3) then
      fn_Mod_lettersHome_L38 X k4 x2 (1 : Int32) x1
    else
      fn_Mod_lettersHome_L38 X k4 x2 (0 : Int32) x1
def fn_Mod_lettersHome_L4 (X : IX) : Nat → Int32 → Int32 → Option Int32
  | 0, _, _ => none
  | n + 1, x1, x2 => fn_Mod_lettersHome_B4 X (fn_Mod_lettersHome_L4 X n) x1 x2
def fn_Mod_lettersHome (X : IX) : Option Int32 :=
  fn_Mod_lettersHome_L4 X 400 (0 : Int32) (0 : Int32)
/-! StonePostModel.hours -/
def fn_Mod_hours_B47 (k47 : Int32 → Int32 → Int32 → IX → Option (Int32 × IX)) (x1 : Int32) (x2 : Int32) (x3 : Int32) (X : IX) : Option (Int32 × IX) :=
  if x1 ≤ x3 then
    zu_b1 (fn_Mod_lettersHome X) fun v14 =>
    some (v14 - x2, X)
  else
    zu_b1 (fn_Mod_hour X) fun X16 =>
    zu_nx (x3 + (1 : Int32)) fun v18 =>
    k47 x1 x2 v18 X16
def fn_Mod_hours_L47 : Nat → Int32 → Int32 → Int32 → IX → Option (Int32 × IX)
  | 0, _, _, _, _ => none
  | n + 1, x1, x2, x3, X => fn_Mod_hours_B47 (fn_Mod_hours_L47 n) x1 x2 x3 X
def fn_Mod_hours (a1 : Int32) (X : IX) : Option (Int32 × IX) :=
  zu_b1 (fn_Mod_in (a1.toInt64) (1 : Int64) (48 : Int64)) fun v1 =>
  if v1 = 0 then
    zu_b2 (fn_Mod_finds (-1000001 : Int32) X) fun v10 X11 =>
    some (v10, X11)
  else
    if ((X 96 0) + a1) ≤ (9999 : Int32) then
      zu_b1 (fn_Mod_lettersHome X) fun v5 =>
      fn_Mod_hours_L47 400 a1 v5 (0 : Int32) X
    else
      zu_b2 (fn_Mod_finds (-1000005 : Int32) X) fun v7 X8 =>
      some (v7, X8)
/-! StonePostModel.letters -/
def fn_Mod_letters_L92 (k23 : Int32 → Int32 → Int32 → IX → Option (Int32 × IX)) (x1 : Int32) (x3 : Int32) (y0 : Int32) (y1 : Int32) (X : IX) : Option (Int32 × IX) :=
  zu_nx (y1 + y0) fun v14 =>
  zu_nx (x3 + (1 : Int32)) fun v15 =>
  k23 x1 v14 v15 X
def fn_Mod_letters_L78 (k23 : Int32 → Int32 → Int32 → IX → Option (Int32 × IX)) (x1 : Int32) (x2 : Int32) (x3 : Int32) (y0 : Int32) (X : IX) : Option (Int32 × IX) :=
  if y0 = x1 then
    fn_Mod_letters_L92 k23 x1 x3 (1 : Int32) x2 X
  else
    fn_Mod_letters_L92 k23 x1 x3 (0 : Int32) x2 X
def fn_Mod_letters_B23 (k23 : Int32 → Int32 → Int32 → IX → Option (Int32 × IX)) (x1 : Int32) (x2 : Int32) (x3 : Int32) (X : IX) : Option (Int32 × IX) :=
  if (X 96 2) ≤ x3 then
    some (x2, X)
  else
    zu_gd (zu_ib ((120 : Int32) + x3) 142) <|
    zu_nx (X 96 (((120 : Int32) + x3).toNatClampNeg)) fun v9 =>
    if v9 = (X 96 3) then
      fn_Mod_letters_L78 k23 x1 x2 x3 (0 : Int32) X
    else
      zu_gd (zu_ib ((6 : Int32) + v9) 142) <|
      if (X 96 (((6 : Int32) + v9).toNatClampNeg)) = (1 : Int32) then
        fn_Mod_letters_L78 k23 x1 x2 x3 (1 : Int32) X
      else
        fn_Mod_letters_L78 k23 x1 x2 x3 (2 : Int32) X
def fn_Mod_letters_L23 : Nat → Int32 → Int32 → Int32 → IX → Option (Int32 × IX)
  | 0, _, _, _, _ => none
  | n + 1, x1, x2, x3, X => fn_Mod_letters_B23 (fn_Mod_letters_L23 n) x1 x2 x3 X
def fn_Mod_letters (a1 : Int32) (X : IX) : Option (Int32 × IX) :=
  zu_b1 (fn_Mod_in (a1.toInt64) (0 : Int64) (2 : Int64)) fun v1 =>
  if v1 = 0 then
    zu_b2 (fn_Mod_finds (-1000001 : Int32) X) fun v4 X5 =>
    some (v4, X5)
  else
    fn_Mod_letters_L23 400 a1 (0 : Int32) (0 : Int32) X
/-! StonePostModel.all -/
def fn_Mod_all_B4 (k4 : Int32 → Int64 → Int32 → Option Int64) (x0 : Int32) (x1 : Int64) (x3 : Int32) : Option Int64 :=
  if x0 ≤ x3 then
    some x1
  else
    zu_nx (x1 * (12 : Int64)) fun v2 =>
    zu_nx (x3 + (1 : Int32)) fun v3 =>
    k4 x0 v2 v3
def fn_Mod_all_L4 : Nat → Int32 → Int64 → Int32 → Option Int64
  | 0, _, _, _ => none
  | n + 1, x0, x1, x3 => fn_Mod_all_B4 (fn_Mod_all_L4 n) x0 x1 x3
def fn_Mod_all (a0 : Int32) : Option Int64 :=
  fn_Mod_all_L4 400 a0 (1 : Int64) (0 : Int32)
/-! StonePostModel.findParts -/
def fn_Mod_findParts_B157 (k32 : Int32 → Int32 → IX → LX → Option (IX × LX)) (k157 : Int32 → Int32 → Int32 → IX → LX → Option (IX × LX)) (x2 : Int32) (x3 : Int32) (x4 : Int32) (X : IX) (Y : LX) : Option (IX × LX) :=
  if (24 : Int32) ≤ x4 then
    zu_nx (x3 + (1 : Int32)) fun v27 =>
    k32 x2 v27 X Y
  else
    zu_gd (zu_ib x4 24) <|
    zu_gd (zu_ib x4 24) <|
    zu_nx (zu_stl Y 100 (x4.toNatClampNeg) (Y 101 (x4.toNatClampNeg))) fun Y30 =>
    zu_nx (x4 + (1 : Int32)) fun v31 =>
    k157 x2 x3 v31 X Y30
def fn_Mod_findParts_L157 (k32 : Int32 → Int32 → IX → LX → Option (IX × LX)) : Nat → Int32 → Int32 → Int32 → IX → LX → Option (IX × LX)
  | 0, _, _, _, _, _ => none
  | n + 1, x2, x3, x4, X, Y => fn_Mod_findParts_B157 k32 (fn_Mod_findParts_L157 k32 n) x2 x3 x4 X Y
def fn_Mod_findParts_L148 (k32 : Int32 → Int32 → IX → LX → Option (IX × LX)) (k64 : Int32 → Int32 → Int32 → IX → LX → Option (IX × LX)) (x2 : Int32) (x3 : Int32) (x4 : Int32) (X : IX) (Y : LX) : Option (IX × LX) :=
  zu_nx (x4 + (1 : Int32)) fun v32 =>
  k64 x2 x3 v32 X Y
def fn_Mod_findParts_B64 (k32 : Int32 → Int32 → IX → LX → Option (IX × LX)) (k64 : Int32 → Int32 → Int32 → IX → LX → Option (IX × LX)) (x2 : Int32) (x3 : Int32) (x4 : Int32) (X : IX) (Y : LX) : Option (IX × LX) :=
  if (24 : Int32) ≤ x4 then
    fn_Mod_findParts_L157 k32 400 x2 x3 (0 : Int32) X Y
  else
    zu_gd (zu_ib x4 24) <|
    if (lg_cmp (Y 100 (x4.toNatClampNeg)) (0 : Int64)) ≤ 0 then
      fn_Mod_findParts_L148 k32 k64 x2 x3 x4 X Y
    else
      zu_nx (fn_Mod_clockIn X x3) fun v14 =>
      zu_b1 (fn_Mod_goes x4 v14 (-1 : Int32) X) fun X16 =>
      zu_gd (zu_ib (X16 95 5) 24) <|
      zu_gd (zu_ib x4 24) <|
      zu_gd (zu_ib (X16 95 5) 24) <|
      zu_nx (zu_stl Y 101 ((X16 95 5).toNatClampNeg) ((Y 101 ((X16 95 5).toNatClampNeg)) + (((X16 95 6).toInt64) * (Y 100 (x4.toNatClampNeg))))) fun Y21 =>
      zu_gd (zu_ib (X16 95 7) 24) <|
      zu_gd (zu_ib x4 24) <|
      zu_gd (zu_ib (X16 95 7) 24) <|
      zu_nx (zu_stl Y21 101 ((X16 95 7).toNatClampNeg) ((Y21 101 ((X16 95 7).toNatClampNeg)) + ((((12 : Int32) - (X16 95 6)).toInt64) * (Y21 100 (x4.toNatClampNeg))))) fun Y25 =>
      fn_Mod_findParts_L148 k32 k64 x2 x3 x4 X16 Y25
def fn_Mod_findParts_L64 (k32 : Int32 → Int32 → IX → LX → Option (IX × LX)) : Nat → Int32 → Int32 → Int32 → IX → LX → Option (IX × LX)
  | 0, _, _, _, _, _ => none
  | n + 1, x2, x3, x4, X, Y => fn_Mod_findParts_B64 k32 (fn_Mod_findParts_L64 k32 n) x2 x3 x4 X Y
def fn_Mod_findParts_B40 (k32 : Int32 → Int32 → IX → LX → Option (IX × LX)) (k40 : Int32 → Int32 → Int32 → IX → LX → Option (IX × LX)) (x2 : Int32) (x3 : Int32) (x4 : Int32) (X : IX) (Y : LX) : Option (IX × LX) :=
  if (24 : Int32) ≤ x4 then
    fn_Mod_findParts_L64 k32 400 x2 x3 (0 : Int32) X Y
  else
    zu_gd (zu_ib x4 24) <|
    zu_nx (zu_stl Y 101 (x4.toNatClampNeg) (0 : Int64)) fun Y9 =>
    zu_nx (x4 + (1 : Int32)) fun v10 =>
    k40 x2 x3 v10 X Y9
def fn_Mod_findParts_L40 (k32 : Int32 → Int32 → IX → LX → Option (IX × LX)) : Nat → Int32 → Int32 → Int32 → IX → LX → Option (IX × LX)
  | 0, _, _, _, _, _ => none
  | n + 1, x2, x3, x4, X, Y => fn_Mod_findParts_B40 k32 (fn_Mod_findParts_L40 k32 n) x2 x3 x4 X Y
def fn_Mod_findParts_B32 (k32 : Int32 → Int32 → IX → LX → Option (IX × LX)) (x2 : Int32) (x3 : Int32) (X : IX) (Y : LX) : Option (IX × LX) :=
  if x2 ≤ x3 then
    some (X, Y)
  else
    fn_Mod_findParts_L40 k32 400 x2 x3 (0 : Int32) X Y
def fn_Mod_findParts_L32 : Nat → Int32 → Int32 → IX → LX → Option (IX × LX)
  | 0, _, _, _, _ => none
  | n + 1, x2, x3, X, Y => fn_Mod_findParts_B32 (fn_Mod_findParts_L32 n) x2 x3 X Y
def fn_Mod_findParts_L23 (k2 : Int32 → Int32 → Int32 → IX → LX → Option (IX × LX)) (x1 : Int32) (x2 : Int32) (x3 : Int32) (y0 : Int64) (y1 : Int32) (X : IX) (Y : LX) : Option (IX × LX) :=
  zu_gd (zu_ib y1 24) <|
  zu_nx (zu_stl Y 100 (y1.toNatClampNeg) y0) fun Y5 =>
  zu_nx (x3 + (1 : Int32)) fun v6 =>
  k2 x1 x2 v6 X Y5
def fn_Mod_findParts_B2 (k2 : Int32 → Int32 → Int32 → IX → LX → Option (IX × LX)) (x1 : Int32) (x2 : Int32) (x3 : Int32) (X : IX) (Y : LX) : Option (IX × LX) :=
  if (24 : Int32) ≤ x3 then
    fn_Mod_findParts_L32 400 x2 (0 : Int32) X Y
  else
    if x3 = x1 then
      fn_Mod_findParts_L23 k2 x1 x2 x3 (1 : Int64) x3 X Y
    else
      fn_Mod_findParts_L23 k2 x1 x2 x3 (0 : Int64) x3 X Y
def fn_Mod_findParts_L2 : Nat → Int32 → Int32 → Int32 → IX → LX → Option (IX × LX)
  | 0, _, _, _, _, _ => none
  | n + 1, x1, x2, x3, X, Y => fn_Mod_findParts_B2 (fn_Mod_findParts_L2 n) x1 x2 x3 X Y
def fn_Mod_findParts (a1 : Int32) (a2 : Int32) (X : IX) (Y : LX) : Option (IX × LX) :=
  fn_Mod_findParts_L2 400 a1 a2 (0 : Int32) X Y
/-! StonePostModel.homeParts -/
def fn_Mod_homeParts (a1 : Int32) (a2 : Int32) (X : IX) (Y : LX) : Option (Int64 × IX × LX) :=
  zu_b2 (fn_Mod_findParts a1 a2 X Y) fun X1 Y2 =>
  zu_gd (zu_ib (X1 96 3) 24) <|
  some (Y2 100 ((X1 96 3).toNatClampNeg), X1, Y2)
/-! StonePostModel.isOdds -/
def fn_Mod_isOdds_L23 (y0 : Int32) : Option Int32 :=
  zu_gd (zu_01 y0) <|
  some y0
def fn_Mod_isOdds_L22 : Option Int32 :=
  fn_Mod_isOdds_L23 (0 : Int32)
def fn_Mod_isOdds (a0 : Int32) (a1 : Int32) (a2 : Int32) : Option Int32 :=
  zu_b1 (fn_Mod_isCell a0) fun v1 =>
  if v1 = 0 then
    fn_Mod_isOdds_L22
  else
    zu_b1 (fn_Mod_in (a1.toInt64) (0 : Int64) (a2.toInt64)) fun v4 =>
    if v4 = 0 then
      fn_Mod_isOdds_L22
    else
      fn_Mod_isOdds_L23 (1 : Int32)
/-! StonePostModel.odds -/
def fn_Mod_odds_L17 (X : IX) (Y : LX) : Option (Int64 × IX × LX) :=
  zu_b2 (fn_Mod_finds (-1000001 : Int32) X) fun v11 X12 =>
  some (v11.toInt64, X12, Y)
def fn_Mod_odds (a1 : Int32) (a2 : Int32) (a3 : Int32) (X : IX) (Y : LX) : Option (Int64 × IX × LX) :=
  zu_b1 (fn_Mod_isOdds a1 a2 (15 : Int32)) fun v1 =>
  if v1 = 0 then
    fn_Mod_odds_L17 X Y
  else
    zu_b1 (fn_Mod_isCell a3) fun v4 =>
    if v4 = 0 then
      fn_Mod_odds_L17 X Y
    else
      zu_b2 (fn_Mod_findParts a1 a2 X Y) fun X7 Y8 =>
      zu_gd (zu_ib a3 24) <|
      some (Y8 100 (a3.toNatClampNeg), X7, Y8)
/-! StonePostModel.lost -/
def fn_Mod_lost_L73 (k29 : Int64 → Int32 → IX → LX → Option (Int64 × IX × LX)) (x5 : Int32) (y0 : Int64) (y1 : Int64) (X : IX) (Y : LX) : Option (Int64 × IX × LX) :=
  zu_nx (y1 + y0) fun v15 =>
  zu_nx (x5 + (1 : Int32)) fun v16 =>
  k29 v15 v16 X Y
def fn_Mod_lost_L72 (k29 : Int64 → Int32 → IX → LX → Option (Int64 × IX × LX)) (x5 : Int32) (y0 : Int64) (X : IX) (Y : LX) : Option (Int64 × IX × LX) :=
  fn_Mod_lost_L73 k29 x5 (0 : Int64) y0 X Y
def fn_Mod_lost_B29 (k29 : Int64 → Int32 → IX → LX → Option (Int64 × IX × LX)) (x3 : Int64) (x5 : Int32) (X : IX) (Y : LX) : Option (Int64 × IX × LX) :=
  if (24 : Int32) ≤ x5 then
    some (x3, X, Y)
  else
    zu_gd (zu_ib ((6 : Int32) + x5) 142) <|
    if (X 96 (((6 : Int32) + x5).toNatClampNeg)) = (1 : Int32) then
      if x5 = (X 96 3) then
        fn_Mod_lost_L72 k29 x5 x3 X Y
      else
        zu_gd (zu_ib x5 24) <|
        fn_Mod_lost_L73 k29 x5 (Y 100 (x5.toNatClampNeg)) x3 X Y
    else
      fn_Mod_lost_L72 k29 x5 x3 X Y
def fn_Mod_lost_L29 : Nat → Int64 → Int32 → IX → LX → Option (Int64 × IX × LX)
  | 0, _, _, _, _ => none
  | n + 1, x3, x5, X, Y => fn_Mod_lost_B29 (fn_Mod_lost_L29 n) x3 x5 X Y
def fn_Mod_lost (a1 : Int32) (a2 : Int32) (X : IX) (Y : LX) : Option (Int64 × IX × LX) :=
  zu_b1 (fn_Mod_isOdds a1 a2 (15 : Int32)) fun v1 =>
  if v1 = 0 then
    zu_b2 (fn_Mod_finds (-1000001 : Int32) X) fun v7 X8 =>
    some (v7.toInt64, X8, Y)
  else
    zu_b2 (fn_Mod_findParts a1 a2 X Y) fun X4 Y5 =>
    fn_Mod_lost_L29 400 (0 : Int64) (0 : Int32) X4 Y5
/-! StonePostModel.likeliest -/
def fn_Mod_likeliest_L58 (k28 : Int32 → Int32 → IX → LX → Option (Int32 × IX × LX)) (x4 : Int32) (y0 : Int32) (X : IX) (Y : LX) : Option (Int32 × IX × LX) :=
  zu_nx (x4 + (1 : Int32)) fun v14 =>
  k28 y0 v14 X Y
def fn_Mod_likeliest_B28 (k28 : Int32 → Int32 → IX → LX → Option (Int32 × IX × LX)) (x3 : Int32) (x4 : Int32) (X : IX) (Y : LX) : Option (Int32 × IX × LX) :=
  if (24 : Int32) ≤ x4 then
    some (x3, X, Y)
  else
    zu_gd (zu_ib x4 24) <|
    zu_gd (zu_ib x3 24) <|
    if (lg_cmp (Y 100 (x4.toNatClampNeg)) (Y 100 (x3.toNatClampNeg))) ≤ 0 then
      fn_Mod_likeliest_L58 k28 x4 x3 X Y
    else
      fn_Mod_likeliest_L58 k28 x4 x4 X Y
def fn_Mod_likeliest_L28 : Nat → Int32 → Int32 → IX → LX → Option (Int32 × IX × LX)
  | 0, _, _, _, _ => none
  | n + 1, x3, x4, X, Y => fn_Mod_likeliest_B28 (fn_Mod_likeliest_L28 n) x3 x4 X Y
def fn_Mod_likeliest (a1 : Int32) (a2 : Int32) (X : IX) (Y : LX) : Option (Int32 × IX × LX) :=
  zu_b1 (fn_Mod_isOdds a1 a2 (15 : Int32)) fun v1 =>
  if v1 = 0 then
    zu_b2 (fn_Mod_finds (-1000001 : Int32) X) fun v7 X8 =>
    some (v7, X8, Y)
  else
    zu_b2 (fn_Mod_findParts a1 a2 X Y) fun X4 Y5 =>
    fn_Mod_likeliest_L28 400 (0 : Int32) (1 : Int32) X4 Y5
/-! StonePostModel.ways -/
def fn_Mod_ways_L43 (y0 : Int32) (y1 : Int32) (X : IX) : Option (Int32 × IX) :=
  some (y1 ||| y0, X)
def fn_Mod_ways_L24 (y0 : Int32) (X : IX) : Option (Int32 × IX) :=
  if (12 : Int32) ≤ (X 95 6) then
    fn_Mod_ways_L43 (0 : Int32) y0 X
  else
    fn_Mod_ways_L43 ((1 : Int32) <<< ((X 95 7) &&& 31)) y0 X
def fn_Mod_ways (a1 : Int32) (a2 : Int32) (a3 : Int32) (X : IX) : Option (Int32 × IX) :=
  zu_b1 (fn_Mod_goes a1 a2 a3 X) fun X1 =>
  if (X1 95 6) ≤ 0 then
    fn_Mod_ways_L24 (0 : Int32) X1
  else
    fn_Mod_ways_L24 ((1 : Int32) <<< ((X1 95 5) &&& 31)) X1
/-! StonePostModel.stepped -/
def fn_Mod_stepped_L59 (k6 : Int32 → Int32 → Int32 → Int32 → Int32 → Int32 → IX → Option (Int32 × IX)) (x1 : Int32) (x2 : Int32) (x3 : Int32) (x4 : Int32) (x5 : Int32) (x6 : Int32) (X : IX) : Option (Int32 × IX) :=
  zu_nx (x6 + (1 : Int32)) fun v15 =>
  k6 x1 x2 x3 x4 x5 v15 X
def fn_Mod_stepped_L56 (k6 : Int32 → Int32 → Int32 → Int32 → Int32 → Int32 → IX → Option (Int32 × IX)) (x1 : Int32) (x2 : Int32) (x3 : Int32) (x4 : Int32) (x6 : Int32) (y0 : Int32) (y1 : Int32) (X : IX) : Option (Int32 × IX) :=
  zu_nx (y1 ||| y0) fun v16 =>
  fn_Mod_stepped_L59 k6 x1 x2 x3 x4 v16 x6 X
def fn_Mod_stepped_B6 (k6 : Int32 → Int32 → Int32 → Int32 → Int32 → Int32 → IX → Option (Int32 × IX)) (x1 : Int32) (x2 : Int32) (x3 : Int32) (x4 : Int32) (x5 : Int32) (x6 : Int32) (X : IX) : Option (Int32 × IX) :=
  if (24 : Int32) ≤ x6 then
    some (x5 &&& (x4 ^^^ (-1 : Int32)), X)
  else
    zu_b1 (fn_Mod_has x1 x6) fun v2 =>
    if v2 = 0 then
      fn_Mod_stepped_L59 k6 x1 x2 x3 x4 x5 x6 X
    else
      if x3 = 0 then
        zu_b2 (fn_Mod_ways x6 x2 (-1 : Int32) X) fun v6 X7 =>
        fn_Mod_stepped_L56 k6 x1 x2 x3 x4 x6 v6 x5 X7
      else
        zu_b2 (fn_Mod_ways x6 x2 (0 : Int32) X) fun v9 X10 =>
        zu_b2 (fn_Mod_ways x6 x2 (1 : Int32) X10) fun v12 X13 =>
        fn_Mod_stepped_L56 k6 x1 x2 x3 x4 x6 (v9 ||| v12) x5 X13
def fn_Mod_stepped_L6 : Nat → Int32 → Int32 → Int32 → Int32 → Int32 → Int32 → IX → Option (Int32 × IX)
  | 0, _, _, _, _, _, _, _ => none
  | n + 1, x1, x2, x3, x4, x5, x6, X => fn_Mod_stepped_B6 (fn_Mod_stepped_L6 n) x1 x2 x3 x4 x5 x6 X
def fn_Mod_stepped (a1 : Int32) (a2 : Int32) (a3 : Int32) (a4 : Int32) (X : IX) : Option (Int32 × IX) :=
  fn_Mod_stepped_L6 400 a1 a2 a3 a4 (0 : Int32) (0 : Int32) X
/-! StonePostModel.fewestOf -/
def fn_Mod_fewestOf_L65 (y0 : Int32) (X : IX) : Option (Int32 × IX) :=
  some (y0, X)
def fn_Mod_fewestOf_L47 (x4 : Int32) (X : IX) : Option (Int32 × IX) :=
  if x4 ≤ (60 : Int32) then
    fn_Mod_fewestOf_L65 x4 X
  else
    zu_b2 (fn_Mod_finds (-1000004 : Int32) X) fun v13 X14 =>
    fn_Mod_fewestOf_L65 v13 X14
def fn_Mod_fewestOf_B7 (k7 : Int32 → Int32 → Int32 → IX → Option (Int32 × IX)) (x2 : Int32) (x3 : Int32) (x4 : Int32) (X : IX) : Option (Int32 × IX) :=
  if (61 : Int32) ≤ x4 then
    fn_Mod_fewestOf_L47 x4 X
  else
    zu_b1 (fn_Mod_has x3 (X 96 3)) fun v3 =>
    if v3 = 0 then
      zu_nx (fn_Mod_clockIn X x4) fun v6 =>
      zu_b2 (fn_Mod_stepped x3 v6 x2 (0 : Int32) X) fun v8 X9 =>
      zu_nx (x4 + (1 : Int32)) fun v11 =>
      k7 x2 v8 v11 X9
    else
      fn_Mod_fewestOf_L47 x4 X
def fn_Mod_fewestOf_L7 : Nat → Int32 → Int32 → Int32 → IX → Option (Int32 × IX)
  | 0, _, _, _, _ => none
  | n + 1, x2, x3, x4, X => fn_Mod_fewestOf_B7 (fn_Mod_fewestOf_L7 n) x2 x3 x4 X
def fn_Mod_fewestOf (a1 : Int32) (a2 : Int32) (X : IX) : Option (Int32 × IX) :=
  zu_nx ((1 : Int32) <<< (a1 &&& 31)) fun v1 =>
  fn_Mod_fewestOf_L7 400 a2 v1 (0 : Int32) X
/-! StonePostModel.fewest -/
def fn_Mod_fewest_L22 (y0 : Int32) (X : IX) : Option (Int32 × IX) :=
  some (y0, X)
def fn_Mod_fewest (a1 : Int32) (X : IX) : Option (Int32 × IX) :=
  zu_b1 (fn_Mod_isCell a1) fun v1 =>
  if v1 = 0 then
    zu_b2 (fn_Mod_finds (-1000001 : Int32) X) fun v4 X5 =>
    fn_Mod_fewest_L22 v4 X5
  else
    zu_b2 (fn_Mod_fewestOf a1 (0 : Int32) X) fun v7 X8 =>
    fn_Mod_fewest_L22 v7 X8
/-! StonePostModel.free -/
def fn_Mod_free_L22 (y0 : Int32) (X : IX) : Option (Int32 × IX) :=
  some (y0, X)
def fn_Mod_free (a1 : Int32) (X : IX) : Option (Int32 × IX) :=
  zu_b1 (fn_Mod_isCell a1) fun v1 =>
  if v1 = 0 then
    zu_b2 (fn_Mod_finds (-1000001 : Int32) X) fun v4 X5 =>
    fn_Mod_free_L22 v4 X5
  else
    zu_b2 (fn_Mod_fewestOf a1 (1 : Int32) X) fun v7 X8 =>
    fn_Mod_free_L22 v7 X8
/-! StonePostModel.mayBe -/
def fn_Mod_mayBe_B8 (k8 : Int32 → Int32 → Int32 → Int32 → IX → Option (Int32 × IX)) (x2 : Int32) (x3 : Int32) (x4 : Int32) (x5 : Int32) (X : IX) : Option (Int32 × IX) :=
  if x2 ≤ x5 then
    some (x4, X)
  else
    zu_nx (fn_Mod_clockIn X x5) fun v3 =>
    zu_b2 (fn_Mod_stepped x4 v3 (0 : Int32) x3 X) fun v5 X6 =>
    zu_nx (x5 + (1 : Int32)) fun v8 =>
    k8 x2 x3 v5 v8 X6
def fn_Mod_mayBe_L8 : Nat → Int32 → Int32 → Int32 → Int32 → IX → Option (Int32 × IX)
  | 0, _, _, _, _, _ => none
  | n + 1, x2, x3, x4, x5, X => fn_Mod_mayBe_B8 (fn_Mod_mayBe_L8 n) x2 x3 x4 x5 X
def fn_Mod_mayBe (a1 : Int32) (a2 : Int32) (a3 : Int32) (X : IX) : Option (Int32 × IX) :=
  zu_nx ((1 : Int32) <<< (a1 &&& 31)) fun v1 =>
  fn_Mod_mayBe_L8 400 a2 a3 v1 (0 : Int32) X
/-! StonePostModel.may -/
def fn_Mod_may_L26 (y0 : Int32) (X : IX) : Option (Int32 × IX) :=
  some (y0, X)
def fn_Mod_may (a1 : Int32) (a2 : Int32) (X : IX) : Option (Int32 × IX) :=
  zu_b1 (fn_Mod_isOdds a1 a2 (60 : Int32)) fun v1 =>
  if v1 = 0 then
    zu_b2 (fn_Mod_finds (-1000001 : Int32) X) fun v4 X5 =>
    fn_Mod_may_L26 v4 X5
  else
    zu_b2 (fn_Mod_mayBe a1 a2 (0 : Int32) X) fun v7 X8 =>
    fn_Mod_may_L26 v7 X8
/-! StonePostModel.worthBy -/
def fn_Mod_worthBy (Y : LX) (a1 : Int32) (a2 : Int32) (a3 : Int32) (X : IX) : Option (Int64 × IX) :=
  zu_b1 (fn_Mod_goes a1 a2 a3 X) fun X1 =>
  zu_gd (zu_ib (X1 95 5) 24) <|
  zu_gd (zu_ib (X1 95 7) 24) <|
  some ((((X1 95 6).toInt64) * (Y 102 ((X1 95 5).toNatClampNeg))) + ((((12 : Int32) - (X1 95 6)).toInt64) * (Y 102 ((X1 95 7).toNatClampNeg))), X1)
/-! StonePostModel.findWorth -/
def fn_Mod_findWorth_B113 (k39 : Int32 → Int32 → IX → LX → Option (IX × LX)) (k113 : Int32 → Int32 → Int32 → IX → LX → Option (IX × LX)) (x1 : Int32) (x3 : Int32) (x4 : Int32) (X : IX) (Y : LX) : Option (IX × LX) :=
  if (24 : Int32) ≤ x4 then
    zu_nx (x3 + (-1 : Int32)) fun v21 =>
    k39 x1 v21 X Y
  else
    zu_gd (zu_ib x4 24) <|
    zu_gd (zu_ib x4 24) <|
    zu_nx (zu_stl Y 102 (x4.toNatClampNeg) (Y 101 (x4.toNatClampNeg))) fun Y24 =>
    zu_nx (x4 + (1 : Int32)) fun v25 =>
    k113 x1 x3 v25 X Y24
def fn_Mod_findWorth_L113 (k39 : Int32 → Int32 → IX → LX → Option (IX × LX)) : Nat → Int32 → Int32 → Int32 → IX → LX → Option (IX × LX)
  | 0, _, _, _, _, _ => none
  | n + 1, x1, x3, x4, X, Y => fn_Mod_findWorth_B113 k39 (fn_Mod_findWorth_L113 k39 n) x1 x3 x4 X Y
def fn_Mod_findWorth_L103 (k39 : Int32 → Int32 → IX → LX → Option (IX × LX)) (k47 : Int32 → Int32 → Int32 → IX → LX → Option (IX × LX)) (x1 : Int32) (x3 : Int32) (x4 : Int32) (y0 : Int64) (y1 : Int32) (X : IX) (Y : LX) : Option (IX × LX) :=
  zu_gd (zu_ib y1 24) <|
  zu_nx (zu_stl Y 101 (y1.toNatClampNeg) y0) fun Y27 =>
  zu_nx (x4 + (1 : Int32)) fun v28 =>
  k47 x1 x3 v28 X Y27
def fn_Mod_findWorth_B47 (k39 : Int32 → Int32 → IX → LX → Option (IX × LX)) (k47 : Int32 → Int32 → Int32 → IX → LX → Option (IX × LX)) (x1 : Int32) (x3 : Int32) (x4 : Int32) (X : IX) (Y : LX) : Option (IX × LX) :=
  if (24 : Int32) ≤ x4 then
    fn_Mod_findWorth_L113 k39 400 x1 x3 (0 : Int32) X Y
  else
    zu_nx (fn_Mod_clockIn X x3) fun v9 =>
    zu_b2 (fn_Mod_worthBy Y x4 v9 (0 : Int32) X) fun v11 X12 =>
    zu_nx (fn_Mod_clockIn X12 x3) fun v14 =>
    zu_b2 (fn_Mod_worthBy Y x4 v14 (1 : Int32) X12) fun v16 X17 =>
    if 0 ≤ (lg_cmp v11 v16) then
      fn_Mod_findWorth_L103 k39 k47 x1 x3 x4 v11 x4 X17 Y
    else
      fn_Mod_findWorth_L103 k39 k47 x1 x3 x4 v16 x4 X17 Y
def fn_Mod_findWorth_L47 (k39 : Int32 → Int32 → IX → LX → Option (IX × LX)) : Nat → Int32 → Int32 → Int32 → IX → LX → Option (IX × LX)
  | 0, _, _, _, _, _ => none
  | n + 1, x1, x3, x4, X, Y => fn_Mod_findWorth_B47 k39 (fn_Mod_findWorth_L47 k39 n) x1 x3 x4 X Y
def fn_Mod_findWorth_B39 (k39 : Int32 → Int32 → IX → LX → Option (IX × LX)) (x1 : Int32) (x3 : Int32) (X : IX) (Y : LX) : Option (IX × LX) :=
  if x3 < x1 then
    some (X, Y)
  else
    fn_Mod_findWorth_L47 k39 400 x1 x3 (0 : Int32) X Y
def fn_Mod_findWorth_L39 : Nat → Int32 → Int32 → IX → LX → Option (IX × LX)
  | 0, _, _, _, _ => none
  | n + 1, x1, x3, X, Y => fn_Mod_findWorth_B39 (fn_Mod_findWorth_L39 n) x1 x3 X Y
def fn_Mod_findWorth_L28 (k2 : Int32 → Int32 → Int32 → IX → LX → Option (IX × LX)) (x1 : Int32) (x2 : Int32) (x3 : Int32) (y0 : Int64) (y1 : Int32) (X : IX) (Y : LX) : Option (IX × LX) :=
  zu_gd (zu_ib y1 24) <|
  zu_nx (zu_stl Y 102 (y1.toNatClampNeg) y0) fun Y6 =>
  zu_nx (x3 + (1 : Int32)) fun v7 =>
  k2 x1 x2 v7 X Y6
def fn_Mod_findWorth_B2 (k2 : Int32 → Int32 → Int32 → IX → LX → Option (IX × LX)) (x1 : Int32) (x2 : Int32) (x3 : Int32) (X : IX) (Y : LX) : Option (IX × LX) :=
  if (24 : Int32) ≤ x3 then
    zu_nx (x2 - (1 : Int32)) fun v2 =>
    fn_Mod_findWorth_L39 400 x1 v2 X Y
  else
    if x3 = (X 96 3) then
      fn_Mod_findWorth_L28 k2 x1 x2 x3 (1 : Int64) x3 X Y
    else
      fn_Mod_findWorth_L28 k2 x1 x2 x3 (0 : Int64) x3 X Y
def fn_Mod_findWorth_L2 : Nat → Int32 → Int32 → Int32 → IX → LX → Option (IX × LX)
  | 0, _, _, _, _, _ => none
  | n + 1, x1, x2, x3, X, Y => fn_Mod_findWorth_B2 (fn_Mod_findWorth_L2 n) x1 x2 x3 X Y
def fn_Mod_findWorth (a1 : Int32) (a2 : Int32) (X : IX) (Y : LX) : Option (IX × LX) :=
  fn_Mod_findWorth_L2 400 a1 a2 (0 : Int32) X Y
/-! StonePostModel.best -/
def fn_Mod_best (a1 : Int32) (a2 : Int32) (X : IX) (Y : LX) : Option (Int64 × IX × LX) :=
  zu_b1 (fn_Mod_isOdds a1 a2 (15 : Int32)) fun v1 =>
  if v1 = 0 then
    zu_b2 (fn_Mod_finds (-1000001 : Int32) X) fun v8 X9 =>
    some (v8.toInt64, X9, Y)
  else
    zu_b2 (fn_Mod_findWorth (0 : Int32) a2 X Y) fun X4 Y5 =>
    zu_gd (zu_ib a1 24) <|
    some (Y5 102 (a1.toNatClampNeg), X4, Y5)
/-! StonePostModel.choose -/
def fn_Mod_choose_L97 (y0 : Int32) (X : IX) (Y : LX) : Option (Int32 × IX × LX) :=
  some (y0, X, Y)
def fn_Mod_choose_L53 (X : IX) (Y : LX) : Option (Int32 × IX × LX) :=
  zu_b2 (fn_Mod_finds (-1000005 : Int32) X) fun v32 X33 =>
  some (v32, X33, Y)
def fn_Mod_choose_L20 (X : IX) (Y : LX) : Option (Int32 × IX × LX) :=
  zu_b2 (fn_Mod_finds (-1000001 : Int32) X) fun v29 X30 =>
  some (v29, X30, Y)
def fn_Mod_choose (a1 : Int32) (a2 : Int32) (X : IX) (Y : LX) : Option (Int32 × IX × LX) :=
  zu_b1 (fn_Mod_isThrower X a1) fun v1 =>
  if v1 = 0 then
    fn_Mod_choose_L20 X Y
  else
    zu_b1 (fn_Mod_in (a2.toInt64) (1 : Int64) (15 : Int64)) fun v4 =>
    if v4 = 0 then
      fn_Mod_choose_L20 X Y
    else
      zu_b1 (fn_Mod_its X a1 (1 : Int32)) fun v7 =>
      zu_b1 (fn_Mod_its X a1 (7 : Int32)) fun v9 =>
      if v9 = (1 : Int32) then
        fn_Mod_choose_L53 X Y
      else
        zu_b1 (fn_Mod_isStaying X v7) fun v12 =>
        if v12 = 0 then
          zu_b2 (fn_Mod_findWorth (1 : Int32) a2 X Y) fun X15 Y16 =>
          zu_nx (fn_Mod_clockIn X15 (0 : Int32)) fun v18 =>
          zu_b2 (fn_Mod_worthBy Y16 v7 v18 (0 : Int32) X15) fun v20 X21 =>
          zu_nx (fn_Mod_clockIn X21 (0 : Int32)) fun v23 =>
          zu_b2 (fn_Mod_worthBy Y16 v7 v23 (1 : Int32) X21) fun v25 X26 =>
          if 0 ≤ (lg_cmp v20 v25) then
            fn_Mod_choose_L97 (0 : Int32) X26 Y16
          else
            fn_Mod_choose_L97 (1 : Int32) X26 Y16
        else
          fn_Mod_choose_L53 X Y
/-! StonePostModel.chooses -/
def fn_Mod_chooses_L35 (k2 : Int32 → Int32 → IX → Option IX) (x1 : Int32) (x2 : Int32) (y0 : Int32) (y1 : Int32) (X : IX) : Option IX :=
  zu_gd (zu_ib y1 142) <|
  zu_nx (zu_st X 96 (y1.toNatClampNeg) y0) fun X8 =>
  zu_nx (x2 + (1 : Int32)) fun v9 =>
  k2 x1 v9 X8
def fn_Mod_chooses_B2 (k2 : Int32 → Int32 → IX → Option IX) (x1 : Int32) (x2 : Int32) (X : IX) : Option IX :=
  if (X 96 1) ≤ x2 then
    some X
  else
    zu_nx (fn_Mod_at x2 (6 : Int32)) fun v2 =>
    zu_b1 (fn_Mod_has x1 x2) fun v4 =>
    if v4 = 0 then
      fn_Mod_chooses_L35 k2 x1 x2 (0 : Int32) v2 X
    else
      fn_Mod_chooses_L35 k2 x1 x2 (1 : Int32) v2 X
def fn_Mod_chooses_L2 : Nat → Int32 → Int32 → IX → Option IX
  | 0, _, _, _ => none
  | n + 1, x1, x2, X => fn_Mod_chooses_B2 (fn_Mod_chooses_L2 n) x1 x2 X
def fn_Mod_chooses (a1 : Int32) (X : IX) : Option IX :=
  fn_Mod_chooses_L2 400 a1 (0 : Int32) X
/-! StonePostModel.plan -/
def fn_Mod_plan_L102 (k56 : Int32 → Int32 → Int32 → Int64 → Int32 → IX → LX → Option (Int32 × IX × LX)) (x1 : Int32) (x2 : Int32) (x3 : Int32) (x4 : Int64) (x6 : Int32) (X : IX) (Y : LX) : Option (Int32 × IX × LX) :=
  zu_nx (x6 + (1 : Int32)) fun v27 =>
  k56 x1 x2 x3 x4 v27 X Y
def fn_Mod_plan_L95 (k56 : Int32 → Int32 → Int32 → Int64 → Int32 → IX → LX → Option (Int32 × IX × LX)) (x1 : Int32) (x2 : Int32) (x6 : Int32) (x7 : Int64) (X : IX) (Y : LX) : Option (Int32 × IX × LX) :=
  fn_Mod_plan_L102 k56 x1 x2 x6 x7 x6 X Y
def fn_Mod_plan_B56 (k56 : Int32 → Int32 → Int32 → Int64 → Int32 → IX → LX → Option (Int32 × IX × LX)) (x1 : Int32) (x2 : Int32) (x3 : Int32) (x4 : Int64) (x6 : Int32) (X : IX) (Y : LX) : Option (Int32 × IX × LX) :=
  if ((1 : Int32) <<< ((X 96 1) &&& 31)) ≤ x6 then
    zu_b1 (fn_Mod_putsBack X) fun X17 =>
    some (x3, X17, Y)
  else
    zu_b1 (fn_Mod_chooses x6 X) fun X19 =>
    zu_b3 (fn_Mod_homeParts x1 x2 X19 Y) fun v21 X22 Y23 =>
    if x3 < 0 then
      fn_Mod_plan_L95 k56 x1 x2 x6 v21 X22 Y23
    else
      if (lg_cmp v21 x4) ≤ 0 then
        fn_Mod_plan_L102 k56 x1 x2 x3 x4 x6 X22 Y23
      else
        fn_Mod_plan_L95 k56 x1 x2 x6 v21 X22 Y23
def fn_Mod_plan_L56 : Nat → Int32 → Int32 → Int32 → Int64 → Int32 → IX → LX → Option (Int32 × IX × LX)
  | 0, _, _, _, _, _, _, _ => none
  | n + 1, x1, x2, x3, x4, x6, X, Y => fn_Mod_plan_B56 (fn_Mod_plan_L56 n) x1 x2 x3 x4 x6 X Y
def fn_Mod_plan_L19 (X : IX) (Y : LX) : Option (Int32 × IX × LX) :=
  zu_b2 (fn_Mod_finds (-1000001 : Int32) X) fun v13 X14 =>
  some (v13, X14, Y)
def fn_Mod_plan (a1 : Int32) (a2 : Int32) (X : IX) (Y : LX) : Option (Int32 × IX × LX) :=
  zu_b1 (fn_Mod_isCell a1) fun v1 =>
  if v1 = 0 then
    fn_Mod_plan_L19 X Y
  else
    zu_b1 (fn_Mod_in (a2.toInt64) (1 : Int64) (8 : Int64)) fun v4 =>
    if v4 = 0 then
      fn_Mod_plan_L19 X Y
    else
      if (X 96 1) ≤ (8 : Int32) then
        zu_b1 (fn_Mod_puts X) fun X8 =>
        fn_Mod_plan_L56 400 a1 a2 (-1 : Int32) (0 : Int64) (0 : Int32) X8 Y
      else
        zu_b2 (fn_Mod_finds (-1000007 : Int32) X) fun v10 X11 =>
        some (v10, X11, Y)
/-! StonePostModel.set -/
def fn_Mod_set_L70 (k31 : Int32 → Int32 → Int32 → IX → Option (Int32 × IX)) (x1 : Int32) (x3 : Int32) (y0 : Int32) (y1 : Int32) (X : IX) : Option (Int32 × IX) :=
  zu_nx (y1 + y0) fun v16 =>
  zu_nx (x3 + (1 : Int32)) fun v17 =>
  k31 x1 v16 v17 X
def fn_Mod_set_L55 (k31 : Int32 → Int32 → Int32 → IX → Option (Int32 × IX)) (x1 : Int32) (x3 : Int32) (y0 : Int32) (y1 : Int32) (X : IX) : Option (Int32 × IX) :=
  zu_b1 (fn_Mod_its X x3 (6 : Int32)) fun v13 =>
  if y0 = v13 then
    fn_Mod_set_L70 k31 x1 x3 (0 : Int32) y1 X
  else
    fn_Mod_set_L70 k31 x1 x3 (1 : Int32) y1 X
def fn_Mod_set_B31 (k31 : Int32 → Int32 → Int32 → IX → Option (Int32 × IX)) (x1 : Int32) (x2 : Int32) (x3 : Int32) (X : IX) : Option (Int32 × IX) :=
  if (X 96 1) ≤ x3 then
    zu_b1 (fn_Mod_chooses x1 X) fun X8 =>
    some (x2, X8)
  else
    zu_b1 (fn_Mod_has x1 x3) fun v10 =>
    if v10 = 0 then
      fn_Mod_set_L55 k31 x1 x3 (0 : Int32) x2 X
    else
      fn_Mod_set_L55 k31 x1 x3 (1 : Int32) x2 X
def fn_Mod_set_L31 : Nat → Int32 → Int32 → Int32 → IX → Option (Int32 × IX)
  | 0, _, _, _, _ => none
  | n + 1, x1, x2, x3, X => fn_Mod_set_B31 (fn_Mod_set_L31 n) x1 x2 x3 X
def fn_Mod_set (a1 : Int32) (X : IX) : Option (Int32 × IX) :=
  zu_b1 (fn_Mod_in (a1.toInt64) (0 : Int64) ((((1 : Int32) <<< ((X 96 1) &&& 31)) - (1 : Int32)).toInt64)) fun v1 =>
  if v1 = 0 then
    zu_b2 (fn_Mod_finds (-1000001 : Int32) X) fun v4 X5 =>
    some (v4, X5)
  else
    fn_Mod_set_L31 400 a1 (0 : Int32) (0 : Int32) X
/-! StonePostModel.isTry -/
def fn_Mod_isTry_L24 (y0 : Int32) : Option Int32 :=
  zu_gd (zu_01 y0) <|
  some y0
def fn_Mod_isTry_L23 : Option Int32 :=
  fn_Mod_isTry_L24 (0 : Int32)
def fn_Mod_isTry (a0 : Int32) (a1 : Int32) : Option Int32 :=
  zu_b1 (fn_Mod_isCell a0) fun v1 =>
  if v1 = 0 then
    fn_Mod_isTry_L23
  else
    zu_b1 (fn_Mod_in (a1.toInt64) (1 : Int64) (10 : Int64)) fun v4 =>
    if v4 = 0 then
      fn_Mod_isTry_L23
    else
      fn_Mod_isTry_L24 (1 : Int32)
/-! StonePostModel.missed -/
def fn_Mod_missed_L118 (y0 : Int32) (X : IX) (Y : LX) : Option (Int32 × IX × LX) :=
  some (y0, X, Y)
def fn_Mod_missed_L98 (k23 : Int32 → Int32 → Int32 → Int64 → Int32 → IX → LX → Option (Int32 × IX × LX)) (x1 : Int32) (x2 : Int32) (x3 : Int32) (x4 : Int64) (x6 : Int32) (X : IX) (Y : LX) : Option (Int32 × IX × LX) :=
  zu_nx (x6 + (1 : Int32)) fun v29 =>
  k23 x1 x2 x3 x4 v29 X Y
def fn_Mod_missed_L91 (k23 : Int32 → Int32 → Int32 → Int64 → Int32 → IX → LX → Option (Int32 × IX × LX)) (x1 : Int32) (x2 : Int32) (x6 : Int32) (x7 : Int64) (X : IX) (Y : LX) : Option (Int32 × IX × LX) :=
  fn_Mod_missed_L98 k23 x1 x2 x6 x7 x6 X Y
def fn_Mod_missed_B23 (k23 : Int32 → Int32 → Int32 → Int64 → Int32 → IX → LX → Option (Int32 × IX × LX)) (x1 : Int32) (x2 : Int32) (x3 : Int32) (x4 : Int64) (x6 : Int32) (X : IX) (Y : LX) : Option (Int32 × IX × LX) :=
  if (X 96 1) ≤ x6 then
    if 0 ≤ x3 then
      fn_Mod_missed_L118 x3 X Y
    else
      zu_b2 (fn_Mod_finds (-1000004 : Int32) X) fun v9 X10 =>
      fn_Mod_missed_L118 v9 X10 Y
  else
    zu_b1 (fn_Mod_its X x6 (7 : Int32)) fun v12 =>
    if v12 = 0 then
      zu_nx (fn_Mod_at x6 (7 : Int32)) fun v15 =>
      zu_gd (zu_ib v15 142) <|
      zu_nx (zu_st X 96 (v15.toNatClampNeg) (1 : Int32)) fun X18 =>
      zu_b3 (fn_Mod_homeParts x1 x2 X18 Y) fun v19 X20 Y21 =>
      zu_nx (fn_Mod_at x6 (7 : Int32)) fun v23 =>
      zu_gd (zu_ib v23 142) <|
      zu_nx (zu_st X20 96 (v23.toNatClampNeg) (0 : Int32)) fun X26 =>
      if x3 < 0 then
        fn_Mod_missed_L91 k23 x1 x2 x6 v19 X26 Y21
      else
        if 0 ≤ (lg_cmp v19 x4) then
          fn_Mod_missed_L98 k23 x1 x2 x3 x4 x6 X26 Y21
        else
          fn_Mod_missed_L91 k23 x1 x2 x6 v19 X26 Y21
    else
      fn_Mod_missed_L98 k23 x1 x2 x3 x4 x6 X Y
def fn_Mod_missed_L23 : Nat → Int32 → Int32 → Int32 → Int64 → Int32 → IX → LX → Option (Int32 × IX × LX)
  | 0, _, _, _, _, _, _, _ => none
  | n + 1, x1, x2, x3, x4, x6, X, Y => fn_Mod_missed_B23 (fn_Mod_missed_L23 n) x1 x2 x3 x4 x6 X Y
def fn_Mod_missed (a1 : Int32) (a2 : Int32) (X : IX) (Y : LX) : Option (Int32 × IX × LX) :=
  zu_b1 (fn_Mod_isTry a1 a2) fun v1 =>
  if v1 = 0 then
    zu_b2 (fn_Mod_finds (-1000001 : Int32) X) fun v4 X5 =>
    some (v4, X5, Y)
  else
    fn_Mod_missed_L23 400 a1 a2 (-1 : Int32) (0 : Int64) (0 : Int32) X Y
/-! StonePostModel.stand -/
def fn_Mod_stand_L101 (k45 : Int32 → Int32 → Int32 → Int64 → Int32 → IX → LX → Option (Int32 × IX × LX)) (x1 : Int32) (x2 : Int32) (x3 : Int32) (x4 : Int64) (x6 : Int32) (X : IX) (Y : LX) : Option (Int32 × IX × LX) :=
  zu_nx (x6 + (1 : Int32)) fun v28 =>
  k45 x1 x2 x3 x4 v28 X Y
def fn_Mod_stand_L94 (k45 : Int32 → Int32 → Int32 → Int64 → Int32 → IX → LX → Option (Int32 × IX × LX)) (x1 : Int32) (x2 : Int32) (x6 : Int32) (x8 : Int64) (X : IX) (Y : LX) : Option (Int32 × IX × LX) :=
  fn_Mod_stand_L101 k45 x1 x2 x6 x8 x6 X Y
def fn_Mod_stand_B45 (k45 : Int32 → Int32 → Int32 → Int64 → Int32 → IX → LX → Option (Int32 × IX × LX)) (x1 : Int32) (x2 : Int32) (x3 : Int32) (x4 : Int64) (x6 : Int32) (X : IX) (Y : LX) : Option (Int32 × IX × LX) :=
  if (24 : Int32) ≤ x6 then
    some (x3, X, Y)
  else
    zu_b1 (fn_Mod_standing X x6) fun v14 =>
    if 0 ≤ v14 then
      fn_Mod_stand_L101 k45 x1 x2 x3 x4 x6 X Y
    else
      zu_b2 (fn_Mod_newThrower (0 : Int32) x6 X) fun v17 X18 =>
      zu_b3 (fn_Mod_homeParts x1 x2 X18 Y) fun v20 X21 Y22 =>
      zu_b1 (fn_Mod_putsBack X21) fun X24 =>
      if x3 < 0 then
        fn_Mod_stand_L94 k45 x1 x2 x6 v20 X24 Y22
      else
        if (lg_cmp v20 x4) ≤ 0 then
          fn_Mod_stand_L101 k45 x1 x2 x3 x4 x6 X24 Y22
        else
          fn_Mod_stand_L94 k45 x1 x2 x6 v20 X24 Y22
def fn_Mod_stand_L45 : Nat → Int32 → Int32 → Int32 → Int64 → Int32 → IX → LX → Option (Int32 × IX × LX)
  | 0, _, _, _, _, _, _, _ => none
  | n + 1, x1, x2, x3, x4, x6, X, Y => fn_Mod_stand_B45 (fn_Mod_stand_L45 n) x1 x2 x3 x4 x6 X Y
def fn_Mod_stand (a1 : Int32) (a2 : Int32) (X : IX) (Y : LX) : Option (Int32 × IX × LX) :=
  zu_b1 (fn_Mod_isTry a1 a2) fun v1 =>
  if v1 = 0 then
    zu_b2 (fn_Mod_finds (-1000001 : Int32) X) fun v10 X11 =>
    some (v10, X11, Y)
  else
    if (X 96 1) = (10 : Int32) then
      zu_b2 (fn_Mod_finds (-1000002 : Int32) X) fun v7 X8 =>
      some (v7, X8, Y)
    else
      zu_b1 (fn_Mod_puts X) fun X5 =>
      fn_Mod_stand_L45 400 a1 a2 (-1 : Int32) (0 : Int64) (0 : Int32) X5 Y
/-! StonePostModel.fetchFor -/
def fn_Mod_fetchFor_L75 (k31 : Int32 → Int32 → Int32 → Int32 → Int64 → Int32 → IX → LX → Option (Int32 × IX × LX)) (x1 : Int32) (x2 : Int32) (x3 : Int32) (x4 : Int32) (x5 : Int64) (x7 : Int32) (X : IX) (Y : LX) : Option (Int32 × IX × LX) :=
  zu_nx (x7 + (1 : Int32)) fun v17 =>
  k31 x1 x2 x3 x4 x5 v17 X Y
def fn_Mod_fetchFor_L67 (k31 : Int32 → Int32 → Int32 → Int32 → Int64 → Int32 → IX → LX → Option (Int32 × IX × LX)) (x1 : Int32) (x2 : Int32) (x3 : Int32) (x7 : Int32) (x8 : Int64) (X : IX) (Y : LX) : Option (Int32 × IX × LX) :=
  fn_Mod_fetchFor_L75 k31 x1 x2 x3 x7 x8 x7 X Y
def fn_Mod_fetchFor_B31 (k31 : Int32 → Int32 → Int32 → Int32 → Int64 → Int32 → IX → LX → Option (Int32 × IX × LX)) (x1 : Int32) (x2 : Int32) (x3 : Int32) (x4 : Int32) (x5 : Int64) (x7 : Int32) (X : IX) (Y : LX) : Option (Int32 × IX × LX) :=
  if (10 : Int32) ≤ x7 then
    zu_nx (zu_st X 96 4 x3) fun X9 =>
    some (x4, X9, Y)
  else
    zu_nx (zu_st X 96 4 x7) fun X10 =>
    zu_b3 (fn_Mod_homeParts x1 x2 X10 Y) fun v11 X12 Y13 =>
    if x4 < 0 then
      fn_Mod_fetchFor_L67 k31 x1 x2 x3 x7 v11 X12 Y13
    else
      if (lg_cmp v11 x5) ≤ 0 then
        fn_Mod_fetchFor_L75 k31 x1 x2 x3 x4 x5 x7 X12 Y13
      else
        fn_Mod_fetchFor_L67 k31 x1 x2 x3 x7 v11 X12 Y13
def fn_Mod_fetchFor_L31 : Nat → Int32 → Int32 → Int32 → Int32 → Int64 → Int32 → IX → LX → Option (Int32 × IX × LX)
  | 0, _, _, _, _, _, _, _, _ => none
  | n + 1, x1, x2, x3, x4, x5, x7, X, Y => fn_Mod_fetchFor_B31 (fn_Mod_fetchFor_L31 n) x1 x2 x3 x4 x5 x7 X Y
def fn_Mod_fetchFor (a1 : Int32) (a2 : Int32) (X : IX) (Y : LX) : Option (Int32 × IX × LX) :=
  zu_b1 (fn_Mod_isTry a1 a2) fun v1 =>
  if v1 = 0 then
    zu_b2 (fn_Mod_finds (-1000001 : Int32) X) fun v5 X6 =>
    some (v5, X6, Y)
  else
    zu_nx (X 96 4) fun v4 =>
    fn_Mod_fetchFor_L31 400 a1 a2 v4 (-1 : Int32) (0 : Int64) (0 : Int32) X Y
/-! StonePostModel.copies -/
def fn_Mod_copies (a1 : Int32) (a2 : Int32) (X : IX) (Y : LX) : Option (Int64 × IX × LX) :=
  zu_b1 (fn_Mod_isOdds a1 a2 (7 : Int32)) fun v1 =>
  if v1 = 0 then
    zu_b2 (fn_Mod_finds (-1000001 : Int32) X) fun v15 X16 =>
    some (v15.toInt64, X16, Y)
  else
    zu_b1 (fn_Mod_all a2) fun v4 =>
    zu_b3 (fn_Mod_homeParts a1 a2 X Y) fun v6 X7 Y8 =>
    zu_nx (v4 - v6) fun v10 =>
    zu_b1 (fn_Mod_all a2) fun v11 =>
    zu_b1 (fn_Mod_all a2) fun v13 =>
    some ((v11 * v13) - (v10 * v10), X7, Y8)
/-! StonePostModel.whose -/
def fn_Mod_whose_L138 (k31 : Int32 → Int32 → Int32 → Int32 → IX → Option (Int32 × IX)) (k45 : Int32 → Int32 → Int32 → Int32 → Int32 → IX → Option (Int32 × IX)) (x1 : Int32) (x2 : Int32) (x4 : Int32) (x5 : Int32) (y0 : Int32) (y1 : Int32) (X : IX) : Option (Int32 × IX) :=
  zu_nx (y1 ||| y0) fun v27 =>
  zu_nx (x5 + (1 : Int32)) fun v28 =>
  k45 x1 x2 v27 x4 v28 X
def fn_Mod_whose_L122 (k31 : Int32 → Int32 → Int32 → Int32 → IX → Option (Int32 × IX)) (k45 : Int32 → Int32 → Int32 → Int32 → Int32 → IX → Option (Int32 × IX)) (x1 : Int32) (x2 : Int32) (x3 : Int32) (x4 : Int32) (x5 : Int32) (y0 : Int32) (X : IX) : Option (Int32 × IX) :=
  if y0 = 0 then
    fn_Mod_whose_L138 k31 k45 x1 x2 x4 x5 (0 : Int32) x3 X
  else
    fn_Mod_whose_L138 k31 k45 x1 x2 x4 x5 ((1 : Int32) <<< (x4 &&& 31)) x3 X
def fn_Mod_whose_L121 (k31 : Int32 → Int32 → Int32 → Int32 → IX → Option (Int32 × IX)) (k45 : Int32 → Int32 → Int32 → Int32 → Int32 → IX → Option (Int32 × IX)) (x1 : Int32) (x2 : Int32) (x3 : Int32) (x4 : Int32) (x5 : Int32) (X : IX) : Option (Int32 × IX) :=
  fn_Mod_whose_L122 k31 k45 x1 x2 x3 x4 x5 (0 : Int32) X
def fn_Mod_whose_L117 (k31 : Int32 → Int32 → Int32 → Int32 → IX → Option (Int32 × IX)) (k45 : Int32 → Int32 → Int32 → Int32 → Int32 → IX → Option (Int32 × IX)) (x1 : Int32) (x2 : Int32) (x3 : Int32) (x4 : Int32) (x5 : Int32) (X : IX) : Option (Int32 × IX) :=
  fn_Mod_whose_L122 k31 k45 x1 x2 x3 x4 x5 (1 : Int32) X
def fn_Mod_whose_L82 (k31 : Int32 → Int32 → Int32 → Int32 → IX → Option (Int32 × IX)) (k45 : Int32 → Int32 → Int32 → Int32 → Int32 → IX → Option (Int32 × IX)) (x1 : Int32) (x2 : Int32) (x3 : Int32) (x4 : Int32) (x5 : Int32) (y0 : Int32) (X : IX) : Option (Int32 × IX) :=
  if y0 = 0 then
    zu_b1 (fn_Mod_sure X x4 x5 x2) fun v20 =>
    if (12 : Int32) ≤ v20 then
      fn_Mod_whose_L121 k31 k45 x1 x2 x3 x4 x5 X
    else
      zu_b1 (fn_Mod_landing X x4 x5 x2 (1 : Int32)) fun v23 =>
      if v23 = x1 then
        fn_Mod_whose_L117 k31 k45 x1 x2 x3 x4 x5 X
      else
        fn_Mod_whose_L121 k31 k45 x1 x2 x3 x4 x5 X
  else
    fn_Mod_whose_L117 k31 k45 x1 x2 x3 x4 x5 X
def fn_Mod_whose_L81 (k31 : Int32 → Int32 → Int32 → Int32 → IX → Option (Int32 × IX)) (k45 : Int32 → Int32 → Int32 → Int32 → Int32 → IX → Option (Int32 × IX)) (x1 : Int32) (x2 : Int32) (x3 : Int32) (x4 : Int32) (x5 : Int32) (X : IX) : Option (Int32 × IX) :=
  fn_Mod_whose_L82 k31 k45 x1 x2 x3 x4 x5 (0 : Int32) X
def fn_Mod_whose_B45 (k31 : Int32 → Int32 → Int32 → Int32 → IX → Option (Int32 × IX)) (k45 : Int32 → Int32 → Int32 → Int32 → Int32 → IX → Option (Int32 × IX)) (x1 : Int32) (x2 : Int32) (x3 : Int32) (x4 : Int32) (x5 : Int32) (X : IX) : Option (Int32 × IX) :=
  if (2 : Int32) ≤ x5 then
    zu_nx (x4 + (1 : Int32)) fun v12 =>
    k31 x1 x2 x3 v12 X
  else
    zu_b1 (fn_Mod_sure X x4 x5 x2) fun v13 =>
    if v13 ≤ 0 then
      fn_Mod_whose_L81 k31 k45 x1 x2 x3 x4 x5 X
    else
      zu_b1 (fn_Mod_landing X x4 x5 x2 (0 : Int32)) fun v16 =>
      if v16 = x1 then
        fn_Mod_whose_L82 k31 k45 x1 x2 x3 x4 x5 (1 : Int32) X
      else
        fn_Mod_whose_L81 k31 k45 x1 x2 x3 x4 x5 X
def fn_Mod_whose_L45 (k31 : Int32 → Int32 → Int32 → Int32 → IX → Option (Int32 × IX)) : Nat → Int32 → Int32 → Int32 → Int32 → Int32 → IX → Option (Int32 × IX)
  | 0, _, _, _, _, _, _ => none
  | n + 1, x1, x2, x3, x4, x5, X => fn_Mod_whose_B45 k31 (fn_Mod_whose_L45 k31 n) x1 x2 x3 x4 x5 X
def fn_Mod_whose_B31 (k31 : Int32 → Int32 → Int32 → Int32 → IX → Option (Int32 × IX)) (x1 : Int32) (x2 : Int32) (x3 : Int32) (x4 : Int32) (X : IX) : Option (Int32 × IX) :=
  if (X 96 1) ≤ x4 then
    some (x3, X)
  else
    fn_Mod_whose_L45 k31 400 x1 x2 x3 x4 (0 : Int32) X
def fn_Mod_whose_L31 : Nat → Int32 → Int32 → Int32 → Int32 → IX → Option (Int32 × IX)
  | 0, _, _, _, _, _ => none
  | n + 1, x1, x2, x3, x4, X => fn_Mod_whose_B31 (fn_Mod_whose_L31 n) x1 x2 x3 x4 X
def fn_Mod_whose_L19 (X : IX) : Option (Int32 × IX) :=
  zu_b2 (fn_Mod_finds (-1000001 : Int32) X) fun v7 X8 =>
  some (v7, X8)
def fn_Mod_whose (a1 : Int32) (a2 : Int32) (X : IX) : Option (Int32 × IX) :=
  zu_b1 (fn_Mod_isCell a1) fun v1 =>
  if v1 = 0 then
    fn_Mod_whose_L19 X
  else
    zu_b1 (fn_Mod_in (a2.toInt64) (0 : Int64) (23 : Int64)) fun v4 =>
    if v4 = 0 then
      fn_Mod_whose_L19 X
    else
      fn_Mod_whose_L31 400 a1 a2 (0 : Int32) (0 : Int32) X
/-! StonePostModel.from -/
def fn_Mod_from_L53 (k22 : Int32 → Int32 → Int32 → Int32 → IX → Option (Int32 × IX)) (x1 : Int32) (x2 : Int32) (x4 : Int32) (y0 : Int32) (y1 : Int32) (X : IX) : Option (Int32 × IX) :=
  zu_nx (y1 ||| y0) fun v14 =>
  zu_nx (x4 + (1 : Int32)) fun v15 =>
  k22 x1 x2 v14 v15 X
def fn_Mod_from_B22 (k22 : Int32 → Int32 → Int32 → Int32 → IX → Option (Int32 × IX)) (x1 : Int32) (x2 : Int32) (x3 : Int32) (x4 : Int32) (X : IX) : Option (Int32 × IX) :=
  if (24 : Int32) ≤ x4 then
    some (x3, X)
  else
    zu_b2 (fn_Mod_mayBe x4 x2 (0 : Int32) X) fun v8 X9 =>
    zu_b1 (fn_Mod_has v8 x1) fun v11 =>
    if v11 = 0 then
      fn_Mod_from_L53 k22 x1 x2 x4 (0 : Int32) x3 X9
    else
      fn_Mod_from_L53 k22 x1 x2 x4 ((1 : Int32) <<< (x4 &&& 31)) x3 X9
def fn_Mod_from_L22 : Nat → Int32 → Int32 → Int32 → Int32 → IX → Option (Int32 × IX)
  | 0, _, _, _, _, _ => none
  | n + 1, x1, x2, x3, x4, X => fn_Mod_from_B22 (fn_Mod_from_L22 n) x1 x2 x3 x4 X
def fn_Mod_from (a1 : Int32) (a2 : Int32) (X : IX) : Option (Int32 × IX) :=
  zu_b1 (fn_Mod_isOdds a1 a2 (20 : Int32)) fun v1 =>
  if v1 = 0 then
    zu_b2 (fn_Mod_finds (-1000001 : Int32) X) fun v4 X5 =>
    some (v4, X5)
  else
    fn_Mod_from_L22 400 a1 a2 (0 : Int32) (0 : Int32) X
/-! StonePostModel.thief -/
def fn_Mod_thief_L98 (k31 : Int32 → Int32 → Int32 → Int32 → IX → Option (Int32 × IX)) (x1 : Int32) (x2 : Int32) (x4 : Int32) (y0 : Int32) (y1 : Int32) (X : IX) : Option (Int32 × IX) :=
  zu_nx (y1 ||| y0) fun v20 =>
  zu_nx (x4 + (1 : Int32)) fun v21 =>
  k31 x1 x2 v20 v21 X
def fn_Mod_thief_L97 (k31 : Int32 → Int32 → Int32 → Int32 → IX → Option (Int32 × IX)) (x1 : Int32) (x2 : Int32) (x4 : Int32) (y0 : Int32) (X : IX) : Option (Int32 × IX) :=
  fn_Mod_thief_L98 k31 x1 x2 x4 (0 : Int32) y0 X
def fn_Mod_thief_L60 (k31 : Int32 → Int32 → Int32 → Int32 → IX → Option (Int32 × IX)) (x1 : Int32) (x2 : Int32) (x3 : Int32) (x4 : Int32) (y0 : Int32) (X : IX) : Option (Int32 × IX) :=
  if y0 = 0 then
    fn_Mod_thief_L97 k31 x1 x2 x4 x3 X
  else
    zu_b2 (fn_Mod_mayBe x1 x2 ((1 : Int32) <<< (x4 &&& 31)) X) fun v14 X15 =>
    zu_b1 (fn_Mod_has v14 (X15 96 3)) fun v17 =>
    if v17 = 0 then
      fn_Mod_thief_L98 k31 x1 x2 x4 ((1 : Int32) <<< (x4 &&& 31)) x3 X15
    else
      fn_Mod_thief_L97 k31 x1 x2 x4 x3 X15
def fn_Mod_thief_L59 (k31 : Int32 → Int32 → Int32 → Int32 → IX → Option (Int32 × IX)) (x1 : Int32) (x2 : Int32) (x3 : Int32) (x4 : Int32) (X : IX) : Option (Int32 × IX) :=
  fn_Mod_thief_L60 k31 x1 x2 x3 x4 (0 : Int32) X
def fn_Mod_thief_B31 (k31 : Int32 → Int32 → Int32 → Int32 → IX → Option (Int32 × IX)) (x1 : Int32) (x2 : Int32) (x3 : Int32) (x4 : Int32) (X : IX) : Option (Int32 × IX) :=
  if (24 : Int32) ≤ x4 then
    some (x3, X)
  else
    if x4 = (X 96 3) then
      fn_Mod_thief_L59 k31 x1 x2 x3 x4 X
    else
      if x4 = x1 then
        fn_Mod_thief_L59 k31 x1 x2 x3 x4 X
      else
        fn_Mod_thief_L60 k31 x1 x2 x3 x4 (1 : Int32) X
def fn_Mod_thief_L31 : Nat → Int32 → Int32 → Int32 → Int32 → IX → Option (Int32 × IX)
  | 0, _, _, _, _, _ => none
  | n + 1, x1, x2, x3, x4, X => fn_Mod_thief_B31 (fn_Mod_thief_L31 n) x1 x2 x3 x4 X
def fn_Mod_thief_L19 (X : IX) : Option (Int32 × IX) :=
  zu_b2 (fn_Mod_finds (-1000001 : Int32) X) fun v7 X8 =>
  some (v7, X8)
def fn_Mod_thief (a1 : Int32) (a2 : Int32) (X : IX) : Option (Int32 × IX) :=
  zu_b1 (fn_Mod_isCell a1) fun v1 =>
  if v1 = 0 then
    fn_Mod_thief_L19 X
  else
    zu_b1 (fn_Mod_in (a2.toInt64) (1 : Int64) (20 : Int64)) fun v4 =>
    if v4 = 0 then
      fn_Mod_thief_L19 X
    else
      fn_Mod_thief_L31 400 a1 a2 (0 : Int32) (0 : Int32) X
/-! StonePostModel.thanksOf -/
def fn_Mod_thanksOf_B4 (k4 : Int32 → Int32 → IX → Option (Int32 × IX)) (x1 : Int32) (x2 : Int32) (X : IX) : Option (Int32 × IX) :=
  if (X 96 1) ≤ x2 then
    some (x1, X)
  else
    zu_b1 (fn_Mod_its X x2 (8 : Int32)) fun v2 =>
    zu_gd (zu_ib x2 10) <|
    zu_nx (zu_st X 103 (x2.toNatClampNeg) v2) fun X5 =>
    zu_gd (zu_ib x2 10) <|
    zu_nx (x1 + (X5 103 (x2.toNatClampNeg))) fun v7 =>
    zu_nx (x2 + (1 : Int32)) fun v8 =>
    k4 v7 v8 X5
def fn_Mod_thanksOf_L4 : Nat → Int32 → Int32 → IX → Option (Int32 × IX)
  | 0, _, _, _ => none
  | n + 1, x1, x2, X => fn_Mod_thanksOf_B4 (fn_Mod_thanksOf_L4 n) x1 x2 X
def fn_Mod_thanksOf (X : IX) : Option (Int32 × IX) :=
  fn_Mod_thanksOf_L4 400 (0 : Int32) (0 : Int32) X
/-! StonePostModel.gifts -/
def fn_Mod_gifts_L215 (k45 : Int32 → Int32 → Int32 → IX → Option (Int32 × IX)) (x2 : Int32) (x3 : Int32) (x4 : Int32) (X : IX) : Option (Int32 × IX) :=
  k45 x2 x3 x4 X
def fn_Mod_gifts_L186 (k45 : Int32 → Int32 → Int32 → IX → Option (Int32 × IX)) (x2 : Int32) (x3 : Int32) (x4 : Int32) (x5 : Int32) (x6 : Int32) (y0 : Int32) (X : IX) : Option (Int32 × IX) :=
  zu_gd (zu_ib x5 10) <|
  zu_gd (zu_ib x5 10) <|
  zu_nx (zu_st X 103 (x5.toNatClampNeg) ((X 103 (x5.toNatClampNeg)) - y0)) fun X25 =>
  zu_gd (zu_ib x6 10) <|
  zu_gd (zu_ib x6 10) <|
  zu_nx (zu_st X25 103 (x6.toNatClampNeg) ((X25 103 (x6.toNatClampNeg)) + y0)) fun X28 =>
  zu_nx (x3 + (1 : Int32)) fun v29 =>
  fn_Mod_gifts_L215 k45 x2 v29 x4 X28
def fn_Mod_gifts_L165 (k45 : Int32 → Int32 → Int32 → IX → Option (Int32 × IX)) (x2 : Int32) (x3 : Int32) (x5 : Int32) (x6 : Int32) (x7 : Int32) (x8 : Int32) (y0 : Int32) (X : IX) : Option (Int32 × IX) :=
  if y0 = 0 then
    fn_Mod_gifts_L215 k45 x2 x3 y0 X
  else
    if x8 ≤ x7 then
      fn_Mod_gifts_L186 k45 x2 x3 y0 x5 x6 x8 X
    else
      fn_Mod_gifts_L186 k45 x2 x3 y0 x5 x6 x7 X
def fn_Mod_gifts_L164 (k45 : Int32 → Int32 → Int32 → IX → Option (Int32 × IX)) (x2 : Int32) (x3 : Int32) (x5 : Int32) (x6 : Int32) (x7 : Int32) (x8 : Int32) (X : IX) : Option (Int32 × IX) :=
  fn_Mod_gifts_L165 k45 x2 x3 x5 x6 x7 x8 (0 : Int32) X
def fn_Mod_gifts_L120 (k45 : Int32 → Int32 → Int32 → IX → Option (Int32 × IX)) (k59 : Int32 → Int32 → Int32 → Int32 → Int32 → IX → Option (Int32 × IX)) (x2 : Int32) (x3 : Int32) (x5 : Int32) (x7 : Int32) (y0 : Int32) (X : IX) : Option (Int32 × IX) :=
  zu_nx (x7 + (1 : Int32)) fun v30 =>
  k59 x2 x3 x5 y0 v30 X
def fn_Mod_gifts_L94 (k45 : Int32 → Int32 → Int32 → IX → Option (Int32 × IX)) (k59 : Int32 → Int32 → Int32 → Int32 → Int32 → IX → Option (Int32 × IX)) (x2 : Int32) (x3 : Int32) (x6 : Int32) (x7 : Int32) (y0 : Int32) (X : IX) : Option (Int32 × IX) :=
  zu_gd (zu_ib x7 10) <|
  zu_gd (zu_ib x6 10) <|
  if (X 103 (x6.toNatClampNeg)) ≤ (X 103 (x7.toNatClampNeg)) then
    fn_Mod_gifts_L120 k45 k59 x2 x3 y0 x7 x6 X
  else
    fn_Mod_gifts_L120 k45 k59 x2 x3 y0 x7 x7 X
def fn_Mod_gifts_B59 (k45 : Int32 → Int32 → Int32 → IX → Option (Int32 × IX)) (k59 : Int32 → Int32 → Int32 → Int32 → Int32 → IX → Option (Int32 × IX)) (x2 : Int32) (x3 : Int32) (x5 : Int32) (x6 : Int32) (x7 : Int32) (X : IX) : Option (Int32 × IX) :=
  if (X 96 1) ≤ x7 then
    zu_gd (zu_ib x5 10) <|
    zu_nx ((X 103 (x5.toNatClampNeg)) - x2) fun v10 =>
    zu_gd (zu_ib x6 10) <|
    zu_nx (x2 - (X 103 (x6.toNatClampNeg))) fun v12 =>
    if v10 ≤ 0 then
      fn_Mod_gifts_L164 k45 x2 x3 x5 x6 v10 v12 X
    else
      if v12 ≤ 0 then
        fn_Mod_gifts_L164 k45 x2 x3 x5 x6 v10 v12 X
      else
        fn_Mod_gifts_L165 k45 x2 x3 x5 x6 v10 v12 (1 : Int32) X
  else
    zu_gd (zu_ib x7 10) <|
    zu_gd (zu_ib x5 10) <|
    if (X 103 (x7.toNatClampNeg)) ≤ (X 103 (x5.toNatClampNeg)) then
      fn_Mod_gifts_L94 k45 k59 x2 x3 x6 x7 x5 X
    else
      fn_Mod_gifts_L94 k45 k59 x2 x3 x6 x7 x7 X
def fn_Mod_gifts_L59 (k45 : Int32 → Int32 → Int32 → IX → Option (Int32 × IX)) : Nat → Int32 → Int32 → Int32 → Int32 → Int32 → IX → Option (Int32 × IX)
  | 0, _, _, _, _, _, _ => none
  | n + 1, x2, x3, x5, x6, x7, X => fn_Mod_gifts_B59 k45 (fn_Mod_gifts_L59 k45 n) x2 x3 x5 x6 x7 X
def fn_Mod_gifts_B45 (k45 : Int32 → Int32 → Int32 → IX → Option (Int32 × IX)) (x2 : Int32) (x3 : Int32) (x4 : Int32) (X : IX) : Option (Int32 × IX) :=
  if x4 = 0 then
    some (x3, X)
  else
    fn_Mod_gifts_L59 k45 400 x2 x3 (0 : Int32) (0 : Int32) (1 : Int32) X
def fn_Mod_gifts_L45 : Nat → Int32 → Int32 → Int32 → IX → Option (Int32 × IX)
  | 0, _, _, _, _ => none
  | n + 1, x2, x3, x4, X => fn_Mod_gifts_B45 (fn_Mod_gifts_L45 n) x2 x3 x4 X
def fn_Mod_gifts_L43 (x2 : Int32) (x3 : Int32) (y0 : Int32) (X : IX) : Option (Int32 × IX) :=
  fn_Mod_gifts_L45 400 x2 x3 y0 X
def fn_Mod_gifts_L26 (y0 : Int32) (X : IX) : Option (Int32 × IX) :=
  if (X 96 1) ≤ 0 then
    fn_Mod_gifts_L43 y0 (0 : Int32) (0 : Int32) X
  else
    fn_Mod_gifts_L43 y0 (0 : Int32) (1 : Int32) X
def fn_Mod_gifts (X : IX) : Option (Int32 × IX) :=
  zu_b2 (fn_Mod_thanksOf X) fun v1 X2 =>
  if (X2 96 1) = 0 then
    fn_Mod_gifts_L26 (0 : Int32) X2
  else
    zu_gd (decide (¬ (X2 96 1) = 0)) <|
    fn_Mod_gifts_L26 (v1 / (X2 96 1)) X2
/-! StonePostModel.seed -/
def fn_Mod_seed (a1 : Int32) (X : IX) : Option (Int32 × IX) :=
  zu_nx (X 96 5) fun v1 =>
  zu_nx (zu_st X 96 5 a1) fun X2 =>
  some (v1, X2)
/-! StonePostModel.feed -/
def fn_Mod_feed_B41 (k41 : Int32 → Int32 → IX → Option (Int32 × IX)) (x1 : Int32) (x3 : Int32) (X : IX) : Option (Int32 × IX) :=
  if x3 < 0 then
    some (X 95 14, X)
  else
    zu_gd (zu_ib (X 95 14) 120) <|
    zu_nx (zu_st X 104 ((X 95 14).toNatClampNeg) ((x1 >>> (((8 : Int32) * x3) &&& 31)) &&& (255 : Int32))) fun X14 =>
    zu_nx (zu_st X14 95 14 ((X14 95 14) + (1 : Int32))) fun X15 =>
    zu_nx (x3 + (-1 : Int32)) fun v16 =>
    k41 x1 v16 X15
def fn_Mod_feed_L41 : Nat → Int32 → Int32 → IX → Option (Int32 × IX)
  | 0, _, _, _ => none
  | n + 1, x1, x3, X => fn_Mod_feed_B41 (fn_Mod_feed_L41 n) x1 x3 X
def fn_Mod_feed (a1 : Int32) (a2 : Int32) (X : IX) : Option (Int32 × IX) :=
  zu_b1 (fn_Mod_in (a2.toInt64) (1 : Int64) (4 : Int64)) fun v1 =>
  if v1 = 0 then
    zu_b2 (fn_Mod_finds (-1000001 : Int32) X) fun v9 X10 =>
    some (v9, X10)
  else
    if ((X 95 14) + a2) ≤ (120 : Int32) then
      zu_nx (a2 - (1 : Int32)) fun v5 =>
      fn_Mod_feed_L41 400 a1 v5 X
    else
      zu_b2 (fn_Mod_finds (-1000002 : Int32) X) fun v6 X7 =>
      some (v6, X7)
/-! StonePostModel.wipe -/
def fn_Mod_wipe (X : IX) : Option (Int32 × IX) :=
  zu_nx (X 95 14) fun v1 =>
  zu_nx (zu_st X 95 14 (0 : Int32)) fun X2 =>
  some (v1, X2)
/-! StonePostModel.byteAt -/
def fn_Mod_byteAt_L18 (X : IX) (y0 : Int32) : Option Int32 :=
  some y0
def fn_Mod_byteAt (X : IX) (a1 : Int32) : Option Int32 :=
  if (X 95 14) ≤ a1 then
    fn_Mod_byteAt_L18 X (-1 : Int32)
  else
    zu_gd (zu_ib a1 120) <|
    fn_Mod_byteAt_L18 X (X 104 (a1.toNatClampNeg))
/-! StonePostModel.isAlpha -/
def fn_Mod_isAlpha (a0 : Int32) : Option Int32 :=
  zu_b1 (fn_Mod_in (a0.toInt64) (97 : Int64) (122 : Int64)) fun v1 =>
  zu_gd (zu_01 v1) <|
  some v1
/-! StonePostModel.isDigit -/
def fn_Mod_isDigit (a0 : Int32) : Option Int32 :=
  zu_b1 (fn_Mod_in (a0.toInt64) (48 : Int64) (57 : Int64)) fun v1 =>
  zu_gd (zu_01 v1) <|
  some v1
/-! StonePostModel.token -/
def fn_Mod_token_L135 (X : IX) : Option IX :=
  some X
def fn_Mod_token_L122 (k86 : Int32 → Int32 → IX → Option IX) (x1 : Int32) (x2 : Int32) (X : IX) : Option IX :=
  zu_nx (zu_st X 95 16 ((X 95 16) + (1 : Int32))) fun X28 =>
  k86 x1 x2 X28
def fn_Mod_token_L104 (k86 : Int32 → Int32 → IX → Option IX) (x1 : Int32) (x2 : Int32) (X : IX) : Option IX :=
  if x2 = 0 then
    fn_Mod_token_L135 X
  else
    zu_b1 (fn_Mod_byteAt X (X 95 16)) fun v23 =>
    zu_b1 (fn_Mod_isDigit v23) fun v25 =>
    if v25 = 0 then
      fn_Mod_token_L135 X
    else
      fn_Mod_token_L122 k86 x1 x2 X
def fn_Mod_token_B86 (k86 : Int32 → Int32 → IX → Option IX) (x1 : Int32) (x2 : Int32) (X : IX) : Option IX :=
  if x1 = 0 then
    fn_Mod_token_L104 k86 x1 x2 X
  else
    zu_b1 (fn_Mod_byteAt X (X 95 16)) fun v17 =>
    zu_b1 (fn_Mod_isAlpha v17) fun v19 =>
    if v19 = 0 then
      fn_Mod_token_L104 k86 x1 x2 X
    else
      fn_Mod_token_L122 k86 x1 x2 X
def fn_Mod_token_L86 : Nat → Int32 → Int32 → IX → Option IX
  | 0, _, _, _ => none
  | n + 1, x1, x2, X => fn_Mod_token_B86 (fn_Mod_token_L86 n) x1 x2 X
def fn_Mod_token_L83 (x1 : Int32) (x2 : Int32) (y0 : Int32) (X : IX) : Option IX :=
  zu_nx (zu_st X 95 16 y0) fun X15 =>
  fn_Mod_token_L86 400 x1 x2 X15
def fn_Mod_token_B8 (k8 : IX → Option IX) (X : IX) : Option IX :=
  zu_b1 (fn_Mod_byteAt X (X 95 15)) fun v2 =>
  if v2 = (32 : Int32) then
    zu_nx (zu_st X 95 15 ((X 95 15) + (1 : Int32))) fun X14 =>
    k8 X14
  else
    zu_b1 (fn_Mod_byteAt X (X 95 15)) fun v5 =>
    zu_b1 (fn_Mod_isAlpha v5) fun v7 =>
    zu_b1 (fn_Mod_byteAt X (X 95 15)) fun v9 =>
    zu_b1 (fn_Mod_isDigit v9) fun v11 =>
    if (X 95 14) ≤ (X 95 15) then
      fn_Mod_token_L83 v7 v11 (X 95 15) X
    else
      fn_Mod_token_L83 v7 v11 ((X 95 15) + (1 : Int32)) X
def fn_Mod_token_L8 : Nat → IX → Option IX
  | 0, _ => none
  | n + 1, X => fn_Mod_token_B8 (fn_Mod_token_L8 n) X
def fn_Mod_token (X : IX) : Option IX :=
  zu_nx (zu_st X 95 15 (X 95 16)) fun X1 =>
  fn_Mod_token_L8 400 X1
/-! StonePostModel.needs -/
def fn_Mod_needs_L31 (X : IX) : Option IX :=
  some X
def fn_Mod_needs_L17 (y0 : Int32) (X : IX) : Option IX :=
  zu_gd (zu_01 y0) <|
  zu_nx (zu_st X 95 18 y0) fun X4 =>
  if (X4 95 18) = 0 then
    zu_b1 (fn_Mod_token X4) fun X6 =>
    fn_Mod_needs_L31 X6
  else
    fn_Mod_needs_L31 X4
def fn_Mod_needs_L12 (X : IX) : Option IX :=
  fn_Mod_needs_L17 (1 : Int32) X
def fn_Mod_needs (a1 : Int32) (X : IX) : Option IX :=
  if (X 95 18) = 0 then
    if a1 = 0 then
      fn_Mod_needs_L12 X
    else
      fn_Mod_needs_L17 (0 : Int32) X
  else
    fn_Mod_needs_L12 X
/-! StonePostModel.word -/
def fn_Mod_word_L76 (X : IX) (y0 : Int64) : Option Int64 :=
  some y0
def fn_Mod_word_L71 (X : IX) : Option Int64 :=
  fn_Mod_word_L76 X (0 : Int64)
def fn_Mod_word_L43 (X : IX) (k7 : Int64 → Int32 → Option Int64) (x3 : Int32) (y0 : Int64) : Option Int64 :=
  zu_nx (x3 + (1 : Int32)) fun v11 =>
  k7 y0 v11
def fn_Mod_word_B7 (X : IX) (k7 : Int64 → Int32 → Option Int64) (x1 : Int64) (x3 : Int32) : Option Int64 :=
  if (X 95 16) ≤ x3 then
    if (X 95 18) = 0 then
      zu_b1 (fn_Mod_byteAt X (X 95 15)) fun v4 =>
      zu_b1 (fn_Mod_isAlpha v4) fun v6 =>
      if v6 = 0 then
        fn_Mod_word_L71 X
      else
        fn_Mod_word_L76 X x1
    else
      fn_Mod_word_L71 X
  else
    if (lg_cmp x1 (36028797018963967 : Int64)) ≤ 0 then
      zu_gd (zu_ib x3 120) <|
      fn_Mod_word_L43 X k7 x3 (((32 : Int64) * x1) + (((X 104 (x3.toNatClampNeg)) - (96 : Int32)).toInt64))
    else
      fn_Mod_word_L43 X k7 x3 x1
def fn_Mod_word_L7 (X : IX) : Nat → Int64 → Int32 → Option Int64
  | 0, _, _ => none
  | n + 1, x1, x3 => fn_Mod_word_B7 X (fn_Mod_word_L7 X n) x1 x3
def fn_Mod_word (X : IX) : Option Int64 :=
  zu_nx (X 95 15) fun v1 =>
  fn_Mod_word_L7 X 400 (0 : Int64) v1
/-! StonePostModel.number -/
def fn_Mod_number_L108 (y0 : Int32) (X : IX) : Option IX :=
  zu_b1 (fn_Mod_needs y0 X) fun X17 =>
  some X17
def fn_Mod_number_L107 (X : IX) : Option IX :=
  fn_Mod_number_L108 (0 : Int32) X
def fn_Mod_number_L79 (x1 : Int32) (x2 : Int32) (x3 : Int32) (x4 : Int32) (X : IX) : Option IX :=
  zu_nx (zu_st X 95 17 x4) fun X11 =>
  if x3 = 0 then
    fn_Mod_number_L107 X11
  else
    zu_b1 (fn_Mod_in (x4.toInt64) (x1.toInt64) (x2.toInt64)) fun v13 =>
    if v13 = 0 then
      fn_Mod_number_L107 X11
    else
      fn_Mod_number_L108 (1 : Int32) X11
def fn_Mod_number_L71 (k29 : Int32 → Int32 → Int32 → Int32 → Int32 → IX → Option IX) (x1 : Int32) (x2 : Int32) (x3 : Int32) (x5 : Int32) (y0 : Int32) (X : IX) : Option IX :=
  zu_nx (x5 + (1 : Int32)) fun v16 =>
  k29 x1 x2 x3 y0 v16 X
def fn_Mod_number_B29 (k29 : Int32 → Int32 → Int32 → Int32 → Int32 → IX → Option IX) (x1 : Int32) (x2 : Int32) (x3 : Int32) (x4 : Int32) (x5 : Int32) (X : IX) : Option IX :=
  if (X 95 16) ≤ x5 then
    fn_Mod_number_L79 x1 x2 x3 x4 X
  else
    if x3 = 0 then
      fn_Mod_number_L79 x1 x2 x3 x4 X
    else
      if x4 ≤ (999 : Int32) then
        zu_gd (zu_ib x5 120) <|
        fn_Mod_number_L71 k29 x1 x2 x3 x5 ((((10 : Int32) * x4) + (X 104 (x5.toNatClampNeg))) - (48 : Int32)) X
      else
        fn_Mod_number_L71 k29 x1 x2 x3 x5 x4 X
def fn_Mod_number_L29 : Nat → Int32 → Int32 → Int32 → Int32 → Int32 → IX → Option IX
  | 0, _, _, _, _, _, _ => none
  | n + 1, x1, x2, x3, x4, x5, X => fn_Mod_number_B29 (fn_Mod_number_L29 n) x1 x2 x3 x4 x5 X
def fn_Mod_number (a1 : Int32) (a2 : Int32) (X : IX) : Option IX :=
  if (X 95 18) = 0 then
    zu_b1 (fn_Mod_byteAt X (X 95 15)) fun v2 =>
    zu_b1 (fn_Mod_isDigit v2) fun v4 =>
    zu_nx (X 95 15) fun v6 =>
    fn_Mod_number_L29 400 a1 a2 v4 (0 : Int32) v6 X
  else
    some X
/-! StonePostModel.stuffHere -/
def fn_Mod_stuffHere_L54 (X : IX) (y0 : Int32) : Option Int32 :=
  some y0
def fn_Mod_stuffHere (X : IX) : Option Int32 :=
  zu_b1 (fn_Mod_word X) fun v1 =>
  if (lg_cmp v1 (7931507 : Int64)) = 0 then
    fn_Mod_stuffHere_L54 X (0 : Int32)
  else
    if (lg_cmp v1 (2702827 : Int64)) = 0 then
      fn_Mod_stuffHere_L54 X (1 : Int32)
    else
      if (lg_cmp v1 (8556773 : Int64)) = 0 then
        fn_Mod_stuffHere_L54 X (2 : Int32)
      else
        if (lg_cmp v1 (605220 : Int64)) = 0 then
          fn_Mod_stuffHere_L54 X (3 : Int32)
        else
          fn_Mod_stuffHere_L54 X (-1 : Int32)
/-! StonePostModel.kindHere -/
def fn_Mod_kindHere_L91 (X : IX) (y0 : Int32) : Option Int32 :=
  some y0
def fn_Mod_kindHere (X : IX) : Option Int32 :=
  zu_b1 (fn_Mod_word X) fun v1 =>
  if (lg_cmp v1 (21762661554 : Int64)) = 0 then
    fn_Mod_kindHere_L91 X (0 : Int32)
  else
    if (lg_cmp v1 (659111367 : Int64)) = 0 then
      fn_Mod_kindHere_L91 X (1 : Int32)
    else
      if (lg_cmp v1 (20186489 : Int64)) = 0 then
        fn_Mod_kindHere_L91 X (2 : Int32)
      else
        if (lg_cmp v1 (7636436 : Int64)) = 0 then
          fn_Mod_kindHere_L91 X (3 : Int32)
        else
          if (lg_cmp v1 (2500036 : Int64)) = 0 then
            fn_Mod_kindHere_L91 X (4 : Int32)
          else
            if (lg_cmp v1 (15748 : Int64)) = 0 then
              fn_Mod_kindHere_L91 X (5 : Int32)
            else
              if (lg_cmp v1 (12324 : Int64)) = 0 then
                fn_Mod_kindHere_L91 X (6 : Int32)
              else
                fn_Mod_kindHere_L91 X (-1 : Int32)
/-! StonePostModel.perhaps -/
def fn_Mod_perhaps (a1 : Int32) (a2 : Int32) (a3 : Int32) (a4 : Int32) (X : IX) : Option (Int32 × IX) :=
  if a1 = 0 then
    some (a4, X)
  else
    zu_b1 (fn_Mod_needs (1 : Int32) X) fun X2 =>
    zu_b1 (fn_Mod_number a2 a3 X2) fun X4 =>
    some (X4 95 17, X4)
/-! StonePostModel.stuffItem -/
def fn_Mod_stuffItem_L75 (X : IX) : Option IX :=
  some X
def fn_Mod_stuffItem_B45 (k45 : Int32 → Int32 → Int32 → IX → Option IX) (x1 : Int32) (x3 : Int32) (x4 : Int32) (X : IX) : Option IX :=
  if x3 < x4 then
    fn_Mod_stuffItem_L75 X
  else
    if (X 95 18) = 0 then
      zu_gd (zu_ib ((6 : Int32) + x4) 142) <|
      zu_nx (zu_st X 96 (((6 : Int32) + x4).toNatClampNeg) x1) fun X15 =>
      zu_nx (x4 + (1 : Int32)) fun v16 =>
      k45 x1 x3 v16 X15
    else
      fn_Mod_stuffItem_L75 X
def fn_Mod_stuffItem_L45 : Nat → Int32 → Int32 → Int32 → IX → Option IX
  | 0, _, _, _, _ => none
  | n + 1, x1, x3, x4, X => fn_Mod_stuffItem_B45 (fn_Mod_stuffItem_L45 n) x1 x3 x4 X
def fn_Mod_stuffItem_L34 (x1 : Int32) (x2 : Int32) (y0 : Int32) (X : IX) : Option IX :=
  zu_b2 (fn_Mod_perhaps y0 x2 (23 : Int32) x2 X) fun v9 X10 =>
  fn_Mod_stuffItem_L45 400 x1 v9 x2 X10
def fn_Mod_stuffItem (a1 : Int32) (X : IX) : Option IX :=
  zu_b1 (fn_Mod_needs (1 : Int32) X) fun X1 =>
  zu_b1 (fn_Mod_number (0 : Int32) (23 : Int32) X1) fun X3 =>
  zu_nx (X3 95 17) fun v5 =>
  zu_b1 (fn_Mod_word X3) fun v6 =>
  if (lg_cmp v6 (655 : Int64)) = 0 then
    fn_Mod_stuffItem_L34 a1 v5 (1 : Int32) X3
  else
    fn_Mod_stuffItem_L34 a1 v5 (0 : Int32) X3
/-! StonePostModel.freeCell -/
def fn_Mod_freeCell_L101 (y0 : Int32) (X : IX) : Option IX :=
  zu_b1 (fn_Mod_needs y0 X) fun X23 =>
  some X23
def fn_Mod_freeCell_L100 (X : IX) : Option IX :=
  fn_Mod_freeCell_L101 (0 : Int32) X
def fn_Mod_freeCell_L61 (x1 : Int32) (X : IX) : Option IX :=
  zu_nx (zu_st X 95 17 x1) fun X10 =>
  zu_b1 (fn_Mod_byteAt X10 (X10 95 15)) fun v11 =>
  zu_b1 (fn_Mod_isDigit v11) fun v13 =>
  if v13 = 0 then
    fn_Mod_freeCell_L100 X10
  else
    zu_b1 (fn_Mod_isCell x1) fun v16 =>
    if v16 = 0 then
      fn_Mod_freeCell_L100 X10
    else
      zu_b1 (fn_Mod_standing X10 x1) fun v19 =>
      if 0 ≤ v19 then
        fn_Mod_freeCell_L100 X10
      else
        fn_Mod_freeCell_L101 (1 : Int32) X10
def fn_Mod_freeCell_L54 (k7 : Int32 → Int32 → IX → Option IX) (x2 : Int32) (y0 : Int32) (X : IX) : Option IX :=
  zu_nx (x2 + (1 : Int32)) fun v22 =>
  k7 y0 v22 X
def fn_Mod_freeCell_B7 (k7 : Int32 → Int32 → IX → Option IX) (x1 : Int32) (x2 : Int32) (X : IX) : Option IX :=
  if (X 95 16) ≤ x2 then
    fn_Mod_freeCell_L61 x1 X
  else
    zu_b1 (fn_Mod_byteAt X (X 95 15)) fun v3 =>
    zu_b1 (fn_Mod_isDigit v3) fun v5 =>
    if v5 = 0 then
      fn_Mod_freeCell_L61 x1 X
    else
      if x1 ≤ (999 : Int32) then
        zu_gd (zu_ib x2 120) <|
        fn_Mod_freeCell_L54 k7 x2 ((((10 : Int32) * x1) + (X 104 (x2.toNatClampNeg))) - (48 : Int32)) X
      else
        fn_Mod_freeCell_L54 k7 x2 x1 X
def fn_Mod_freeCell_L7 : Nat → Int32 → Int32 → IX → Option IX
  | 0, _, _, _ => none
  | n + 1, x1, x2, X => fn_Mod_freeCell_B7 (fn_Mod_freeCell_L7 n) x1 x2 X
def fn_Mod_freeCell (X : IX) : Option IX :=
  zu_nx (X 95 15) fun v1 =>
  fn_Mod_freeCell_L7 400 (0 : Int32) v1 X
/-! StonePostModel.throwerItem -/
def fn_Mod_throwerItem_L229 (X : IX) : Option IX :=
  some X
def fn_Mod_throwerItem_L228 (y0 : Int32) (y1 : Int32) (X : IX) : Option IX :=
  zu_gd (zu_ib y1 142) <|
  zu_nx (zu_st X 96 (y1.toNatClampNeg) y0) fun X56 =>
  fn_Mod_throwerItem_L229 X56
def fn_Mod_throwerItem_L155 (x1 : Int32) (x2 : Int32) (x3 : Int32) (x4 : Int32) (x5 : Int32) (x6 : Int32) (X : IX) : Option IX :=
  if (X 95 18) = 0 then
    zu_b2 (fn_Mod_newThrower x1 x2 X) fun v37 X38 =>
    zu_nx (fn_Mod_at v37 (2 : Int32)) fun v40 =>
    zu_gd (zu_ib v40 142) <|
    zu_nx (zu_st X38 96 (v40.toNatClampNeg) x3) fun X43 =>
    zu_nx (fn_Mod_at v37 (3 : Int32)) fun v44 =>
    zu_gd (zu_ib v44 142) <|
    zu_nx (zu_st X43 96 (v44.toNatClampNeg) x4) fun X47 =>
    zu_nx (fn_Mod_at v37 (5 : Int32)) fun v48 =>
    zu_gd (zu_ib v48 142) <|
    zu_nx (zu_st X47 96 (v48.toNatClampNeg) x5) fun X51 =>
    zu_nx (fn_Mod_at v37 (4 : Int32)) fun v52 =>
    if x6 = 0 then
      fn_Mod_throwerItem_L228 (1 : Int32) v52 X51
    else
      fn_Mod_throwerItem_L228 (0 : Int32) v52 X51
  else
    fn_Mod_throwerItem_L229 X
def fn_Mod_throwerItem_L143 (x1 : Int32) (x2 : Int32) (x3 : Int32) (x4 : Int32) (x5 : Int32) (y0 : Int32) (X : IX) : Option IX :=
  if y0 = 0 then
    fn_Mod_throwerItem_L155 x1 x2 x3 x4 x5 y0 X
  else
    zu_b1 (fn_Mod_needs (1 : Int32) X) fun X34 =>
    fn_Mod_throwerItem_L155 x1 x2 x3 x4 x5 y0 X34
def fn_Mod_throwerItem_L117 (x1 : Int32) (x2 : Int32) (x3 : Int32) (x4 : Int32) (y0 : Int32) (X : IX) : Option IX :=
  zu_b2 (fn_Mod_perhaps y0 (0 : Int32) (12 : Int32) (8 : Int32) X) fun v27 X28 =>
  zu_b1 (fn_Mod_word X28) fun v30 =>
  if (lg_cmp v30 (759412 : Int64)) = 0 then
    fn_Mod_throwerItem_L143 x1 x2 x3 x4 v27 (1 : Int32) X28
  else
    fn_Mod_throwerItem_L143 x1 x2 x3 x4 v27 (0 : Int32) X28
def fn_Mod_throwerItem_L91 (x1 : Int32) (x2 : Int32) (x3 : Int32) (y0 : Int32) (X : IX) : Option IX :=
  zu_b2 (fn_Mod_perhaps y0 (1 : Int32) (12 : Int32) (5 : Int32) X) fun v21 X22 =>
  zu_b1 (fn_Mod_word X22) fun v24 =>
  if (lg_cmp v24 (495763 : Int64)) = 0 then
    fn_Mod_throwerItem_L117 x1 x2 x3 v21 (1 : Int32) X22
  else
    fn_Mod_throwerItem_L117 x1 x2 x3 v21 (0 : Int32) X22
def fn_Mod_throwerItem_L66 (x1 : Int32) (x2 : Int32) (y0 : Int32) (X : IX) : Option IX :=
  zu_b2 (fn_Mod_perhaps y0 (1 : Int32) (9 : Int32) (2 : Int32) X) fun v15 X16 =>
  zu_b1 (fn_Mod_word X16) fun v18 =>
  if (lg_cmp v18 (6194 : Int64)) = 0 then
    fn_Mod_throwerItem_L91 x1 x2 v15 (1 : Int32) X16
  else
    fn_Mod_throwerItem_L91 x1 x2 v15 (0 : Int32) X16
def fn_Mod_throwerItem_L37 (x1 : Int32) (y0 : Int32) (X : IX) : Option IX :=
  zu_b1 (fn_Mod_needs y0 X) fun X7 =>
  zu_b1 (fn_Mod_freeCell X7) fun X9 =>
  zu_nx (X9 95 17) fun v11 =>
  zu_b1 (fn_Mod_word X9) fun v12 =>
  if (lg_cmp v12 (463922 : Int64)) = 0 then
    fn_Mod_throwerItem_L66 x1 v11 (1 : Int32) X9
  else
    fn_Mod_throwerItem_L66 x1 v11 (0 : Int32) X9
def fn_Mod_throwerItem_L17 (x1 : Int32) (y0 : Int32) (X : IX) : Option IX :=
  zu_b1 (fn_Mod_needs y0 X) fun X2 =>
  zu_b1 (fn_Mod_word X2) fun v4 =>
  if (lg_cmp v4 (52 : Int64)) = 0 then
    fn_Mod_throwerItem_L37 x1 (1 : Int32) X2
  else
    fn_Mod_throwerItem_L37 x1 (0 : Int32) X2
def fn_Mod_throwerItem (a1 : Int32) (X : IX) : Option IX :=
  if (10 : Int32) ≤ (X 96 1) then
    fn_Mod_throwerItem_L17 a1 (0 : Int32) X
  else
    fn_Mod_throwerItem_L17 a1 (1 : Int32) X
/-! StonePostModel.letterItem -/
def fn_Mod_letterItem_L69 (X : IX) : Option IX :=
  some X
def fn_Mod_letterItem_L34 (X : IX) : Option IX :=
  if (X 95 18) = 0 then
    zu_gd (zu_ib ((120 : Int32) + (X 96 2)) 142) <|
    zu_nx (zu_st X 96 (((120 : Int32) + (X 96 2)).toNatClampNeg) (X 95 17)) fun X11 =>
    zu_nx (zu_st X11 96 2 ((X11 96 2) + (1 : Int32))) fun X12 =>
    fn_Mod_letterItem_L69 X12
  else
    fn_Mod_letterItem_L69 X
def fn_Mod_letterItem_L17 (y0 : Int32) (X : IX) : Option IX :=
  zu_b1 (fn_Mod_needs y0 X) fun X4 =>
  if (X4 95 18) = 0 then
    zu_b1 (fn_Mod_number (0 : Int32) (23 : Int32) X4) fun X7 =>
    fn_Mod_letterItem_L34 X7
  else
    fn_Mod_letterItem_L34 X4
def fn_Mod_letterItem (X : IX) : Option IX :=
  zu_b1 (fn_Mod_word X) fun v1 =>
  if (lg_cmp v1 (408572082 : Int64)) = 0 then
    fn_Mod_letterItem_L17 (1 : Int32) X
  else
    fn_Mod_letterItem_L17 (0 : Int32) X
/-! StonePostModel.item -/
def fn_Mod_item_L115 (X : IX) : Option IX :=
  some X
def fn_Mod_item (X : IX) : Option IX :=
  zu_b1 (fn_Mod_stuffHere X) fun v1 =>
  zu_b1 (fn_Mod_kindHere X) fun v3 =>
  if v1 < 0 then
    if v3 < 0 then
      zu_b1 (fn_Mod_word X) fun v7 =>
      if (lg_cmp v7 (277925 : Int64)) = 0 then
        zu_b2 (fn_Mod_perhaps (1 : Int32) (0 : Int32) (23 : Int32) (0 : Int32) X) fun v22 X23 =>
        zu_nx (zu_st X23 96 3 v22) fun X25 =>
        fn_Mod_item_L115 X25
      else
        zu_b1 (fn_Mod_word X) fun v10 =>
        if (lg_cmp v10 (6475880 : Int64)) = 0 then
          zu_b2 (fn_Mod_perhaps (1 : Int32) (0 : Int32) (9 : Int32) (0 : Int32) X) fun v18 X19 =>
          zu_nx (zu_st X19 96 4 v18) fun X21 =>
          fn_Mod_item_L115 X21
        else
          if (X 96 2) = (12 : Int32) then
            zu_b1 (fn_Mod_needs (0 : Int32) X) fun X16 =>
            fn_Mod_item_L115 X16
          else
            zu_b1 (fn_Mod_letterItem X) fun X14 =>
            fn_Mod_item_L115 X14
    else
      zu_b1 (fn_Mod_throwerItem v3 X) fun X26 =>
      fn_Mod_item_L115 X26
  else
    zu_b1 (fn_Mod_stuffItem v1 X) fun X28 =>
    fn_Mod_item_L115 X28
/-! StonePostModel.text -/
def fn_Mod_text_L74 (x1 : Int32) (X : IX) : Option (Int32 × IX) :=
  zu_nx (zu_st X 95 14 (0 : Int32)) fun X14 =>
  if (X14 95 18) = 0 then
    some (x1, X14)
  else
    zu_b1 (fn_Mod_putsBack X14) fun X16 =>
    some ((-1 : Int32) - (X16 95 15), X16)
def fn_Mod_text_L61 (k24 : Int32 → IX → Option (Int32 × IX)) (x1 : Int32) (y0 : Int32) (X : IX) : Option (Int32 × IX) :=
  zu_b1 (fn_Mod_needs y0 X) fun X18 =>
  zu_b1 (fn_Mod_item X18) fun X20 =>
  zu_nx (x1 + (1 : Int32)) fun v22 =>
  k24 v22 X20
def fn_Mod_text_B24 (k24 : Int32 → IX → Option (Int32 × IX)) (x1 : Int32) (X : IX) : Option (Int32 × IX) :=
  if (X 95 18) = 0 then
    if (X 95 14) ≤ (X 95 15) then
      fn_Mod_text_L74 x1 X
    else
      zu_b1 (fn_Mod_byteAt X (X 95 15)) fun v11 =>
      if v11 = (59 : Int32) then
        fn_Mod_text_L61 k24 x1 (1 : Int32) X
      else
        fn_Mod_text_L61 k24 x1 (0 : Int32) X
  else
    fn_Mod_text_L74 x1 X
def fn_Mod_text_L24 : Nat → Int32 → IX → Option (Int32 × IX)
  | 0, _, _ => none
  | n + 1, x1, X => fn_Mod_text_B24 (fn_Mod_text_L24 n) x1 X
def fn_Mod_text (X : IX) : Option (Int32 × IX) :=
  zu_b1 (fn_Mod_puts X) fun X1 =>
  zu_nx (zu_st X1 95 16 (0 : Int32)) fun X3 =>
  zu_nx (zu_st X3 95 18 (0 : Int32)) fun X4 =>
  zu_b1 (fn_Mod_token X4) fun X5 =>
  zu_b1 (fn_Mod_item X5) fun X7 =>
  fn_Mod_text_L24 400 (1 : Int32) X7
/-! StonePostModel.hold -/
def fn_Mod_hold_L32 (x1 : Int32) (x2 : Int32) (X : IX) : Option (Int32 × IX) :=
  zu_gd (zu_ib ((132 : Int32) + x1) 142) <|
  zu_nx (zu_st X 96 (((132 : Int32) + x1).toNatClampNeg) x2) fun X12 =>
  some ((1 : Int32), X12)
def fn_Mod_hold_L25 (X : IX) : Option (Int32 × IX) :=
  zu_b2 (fn_Mod_finds (-1000001 : Int32) X) fun v8 X9 =>
  some (v8, X9)
def fn_Mod_hold (a1 : Int32) (a2 : Int32) (X : IX) : Option (Int32 × IX) :=
  zu_b1 (fn_Mod_in (a1.toInt64) (0 : Int64) (9 : Int64)) fun v1 =>
  if v1 = 0 then
    fn_Mod_hold_L25 X
  else
    if a2 = (-1 : Int32) then
      fn_Mod_hold_L32 a1 a2 X
    else
      zu_b1 (fn_Mod_isThrower X a2) fun v5 =>
      if v5 = 0 then
        fn_Mod_hold_L25 X
      else
        fn_Mod_hold_L32 a1 a2 X
/-! StonePostModel.as -/
def fn_Mod_as_L117 (y0 : Int32) (X : IX) : Option (Int32 × IX) :=
  some (y0, X)
def fn_Mod_as_L99 (x3 : Int32) (y0 : Int32) (X : IX) : Option (Int32 × IX) :=
  if y0 = 0 then
    zu_b2 (fn_Mod_finds (-1000003 : Int32) X) fun v25 X26 =>
    fn_Mod_as_L117 v25 X26
  else
    fn_Mod_as_L117 x3 X
def fn_Mod_as_L98 (x3 : Int32) (X : IX) : Option (Int32 × IX) :=
  fn_Mod_as_L99 x3 (0 : Int32) X
def fn_Mod_as_L94 (x3 : Int32) (X : IX) : Option (Int32 × IX) :=
  fn_Mod_as_L99 x3 (1 : Int32) X
def fn_Mod_as_L83 (x2 : Int32) (x3 : Int32) (x4 : Int32) (X : IX) : Option (Int32 × IX) :=
  if x2 = (2 : Int32) then
    if x4 = (4 : Int32) then
      fn_Mod_as_L94 x3 X
    else
      fn_Mod_as_L98 x3 X
  else
    fn_Mod_as_L98 x3 X
def fn_Mod_as_L24 (X : IX) : Option (Int32 × IX) :=
  zu_b2 (fn_Mod_finds (-1000001 : Int32) X) fun v19 X20 =>
  some (v19, X20)
def fn_Mod_as (a1 : Int32) (a2 : Int32) (X : IX) : Option (Int32 × IX) :=
  zu_b1 (fn_Mod_in (a1.toInt64) (0 : Int64) (9 : Int64)) fun v1 =>
  if v1 = 0 then
    fn_Mod_as_L24 X
  else
    zu_b1 (fn_Mod_in (a2.toInt64) (0 : Int64) (6 : Int64)) fun v4 =>
    if v4 = 0 then
      fn_Mod_as_L24 X
    else
      zu_gd (zu_ib ((132 : Int32) + a1) 142) <|
      zu_nx (X 96 (((132 : Int32) + a1).toNatClampNeg)) fun v8 =>
      if 0 ≤ v8 then
        zu_b1 (fn_Mod_its X v8 (0 : Int32)) fun v10 =>
        if a2 = 0 then
          fn_Mod_as_L94 v8 X
        else
          if v10 = a2 then
            fn_Mod_as_L94 v8 X
          else
            if a2 = (1 : Int32) then
              if v10 = (3 : Int32) then
                fn_Mod_as_L94 v8 X
              else
                fn_Mod_as_L83 a2 v8 v10 X
            else
              fn_Mod_as_L83 a2 v8 v10 X
      else
        zu_b2 (fn_Mod_finds (-1000006 : Int32) X) fun v16 X17 =>
        some (v16, X17)
/-! StonePostModel.isOne -/
def fn_Mod_isOne (a0 : Int32) : Option Int32 :=
  zu_b1 (fn_Mod_in (a0.toInt64) (0 : Int64) (3 : Int64)) fun v1 =>
  zu_gd (zu_01 v1) <|
  some v1
/-! StonePostModel.sheet -/
def fn_Mod_sheet_B85 (k85 : Int32 → Int32 → IX → Option (Int32 × IX)) (x1 : Int32) (x4 : Int32) (X : IX) : Option (Int32 × IX) :=
  if (40 : Int32) ≤ x4 then
    zu_gd (zu_ib x1 4) <|
    some (X 106 (x1.toNatClampNeg), X)
  else
    zu_gd (zu_ib (((40 : Int32) * x1) + x4) 160) <|
    zu_nx (zu_st X 107 ((((40 : Int32) * x1) + x4).toNatClampNeg) (0 : Int32)) fun X27 =>
    zu_nx (x4 + (1 : Int32)) fun v28 =>
    k85 x1 v28 X27
def fn_Mod_sheet_L85 : Nat → Int32 → Int32 → IX → Option (Int32 × IX)
  | 0, _, _, _ => none
  | n + 1, x1, x4, X => fn_Mod_sheet_B85 (fn_Mod_sheet_L85 n) x1 x4 X
def fn_Mod_sheet_L81 (x1 : Int32) (y0 : Int32) (y1 : Int32) (X : IX) : Option (Int32 × IX) :=
  zu_gd (zu_ib y1 4) <|
  zu_nx (zu_st X 106 (y1.toNatClampNeg) y0) fun X23 =>
  fn_Mod_sheet_L85 400 x1 (0 : Int32) X23
def fn_Mod_sheet_L36 (x1 : Int32) (x2 : Int32) (x3 : Int32) (X : IX) : Option (Int32 × IX) :=
  if 0 ≤ x3 then
    if x3 ≤ (40 : Int32) then
      zu_gd (zu_ib x1 4) <|
      zu_nx (zu_st X 105 (x1.toNatClampNeg) x2) fun X14 =>
      if x2 = 0 then
        fn_Mod_sheet_L81 x1 (0 : Int32) x1 X14
      else
        fn_Mod_sheet_L81 x1 x3 x1 X14
    else
      zu_b2 (fn_Mod_finds (-1000001 : Int32) X) fun v16 X17 =>
      some (v16, X17)
  else
    zu_b2 (fn_Mod_finds (-1000007 : Int32) X) fun v19 X20 =>
    some (v19, X20)
def fn_Mod_sheet_L29 (X : IX) : Option (Int32 × IX) :=
  zu_b2 (fn_Mod_finds (-1000001 : Int32) X) fun v8 X9 =>
  some (v8, X9)
def fn_Mod_sheet (a1 : Int32) (a2 : Int32) (a3 : Int32) (X : IX) : Option (Int32 × IX) :=
  zu_b1 (fn_Mod_isOne a1) fun v1 =>
  if v1 = 0 then
    fn_Mod_sheet_L29 X
  else
    if a2 = 0 then
      fn_Mod_sheet_L36 a1 a2 a3 X
    else
      if a2 = (8 : Int32) then
        fn_Mod_sheet_L36 a1 a2 a3 X
      else
        if a2 = (16 : Int32) then
          fn_Mod_sheet_L36 a1 a2 a3 X
        else
          if a2 = (32 : Int32) then
            fn_Mod_sheet_L36 a1 a2 a3 X
          else
            fn_Mod_sheet_L29 X
/-! StonePostModel.narrowed -/
def fn_Mod_narrowed_L23 (y0 : Int32) : Int32 :=
  y0
def fn_Mod_narrowed (a0 : Int32) (a1 : Int32) : Int32 :=
  if a0 = (8 : Int32) then
    fn_Mod_narrowed_L23 (a1.toInt8.toInt32)
  else
    if a0 = (16 : Int32) then
      fn_Mod_narrowed_L23 (a1.toInt16.toInt32)
    else
      fn_Mod_narrowed_L23 a1
/-! StonePostModel.wrong -/
def fn_Mod_wrong_L28 (X : IX) (y0 : Int32) : Option Int32 :=
  some y0
def fn_Mod_wrong (X : IX) (a1 : Int32) : Option Int32 :=
  zu_b1 (fn_Mod_isOne a1) fun v1 =>
  if v1 = 0 then
    fn_Mod_wrong_L28 X (-1000001 : Int32)
  else
    zu_gd (zu_ib a1 4) <|
    if (X 105 (a1.toNatClampNeg)) = 0 then
      fn_Mod_wrong_L28 X (-1000006 : Int32)
    else
      fn_Mod_wrong_L28 X (0 : Int32)
/-! StonePostModel.write -/
def fn_Mod_write (a1 : Int32) (a2 : Int32) (a3 : Int32) (X : IX) : Option (Int32 × IX) :=
  zu_b1 (fn_Mod_wrong X a1) fun v1 =>
  if v1 = 0 then
    zu_gd (zu_ib a1 4) <|
    zu_b1 (fn_Mod_in (a2.toInt64) (0 : Int64) (((X 106 (a1.toNatClampNeg)) - (1 : Int32)).toInt64)) fun v5 =>
    if v5 = 0 then
      zu_b2 (fn_Mod_finds (-1000001 : Int32) X) fun v13 X14 =>
      some (v13, X14)
    else
      zu_gd (zu_ib a1 4) <|
      zu_nx (fn_Mod_narrowed (X 105 (a1.toNatClampNeg)) a3) fun v9 =>
      zu_gd (zu_ib (((40 : Int32) * a1) + a2) 160) <|
      zu_nx (zu_st X 107 ((((40 : Int32) * a1) + a2).toNatClampNeg) v9) fun X12 =>
      some ((1 : Int32), X12)
  else
    zu_b2 (fn_Mod_finds v1 X) fun v16 X17 =>
    some (v16, X17)
/-! StonePostModel.copy -/
def fn_Mod_copy_B158 (k158 : Int32 → Int32 → Int32 → Int32 → IX → Option (Int32 × IX)) (x3 : Int32) (x4 : Int32) (x5 : Int32) (x6 : Int32) (X : IX) : Option (Int32 × IX) :=
  if x5 ≤ x6 then
    some (x5, X)
  else
    zu_gd (zu_ib x6 40) <|
    zu_gd (zu_ib ((((40 : Int32) * x3) + x4) + x6) 160) <|
    zu_nx (zu_st X 107 (((((40 : Int32) * x3) + x4) + x6).toNatClampNeg) (X 108 (x6.toNatClampNeg))) fun X41 =>
    zu_nx (x6 + (1 : Int32)) fun v42 =>
    k158 x3 x4 x5 v42 X41
def fn_Mod_copy_L158 : Nat → Int32 → Int32 → Int32 → Int32 → IX → Option (Int32 × IX)
  | 0, _, _, _, _, _ => none
  | n + 1, x3, x4, x5, x6, X => fn_Mod_copy_B158 (fn_Mod_copy_L158 n) x3 x4 x5 x6 X
def fn_Mod_copy_B121 (k121 : Int32 → Int32 → Int32 → Int32 → Int32 → Int32 → IX → Option (Int32 × IX)) (x1 : Int32) (x2 : Int32) (x3 : Int32) (x4 : Int32) (x5 : Int32) (x6 : Int32) (X : IX) : Option (Int32 × IX) :=
  if x5 ≤ x6 then
    fn_Mod_copy_L158 400 x3 x4 x5 (0 : Int32) X
  else
    zu_gd (zu_ib ((((40 : Int32) * x1) + x2) + x6) 160) <|
    zu_gd (zu_ib x6 40) <|
    zu_nx (zu_st X 108 (x6.toNatClampNeg) (X 107 (((((40 : Int32) * x1) + x2) + x6).toNatClampNeg))) fun X36 =>
    zu_nx (x6 + (1 : Int32)) fun v37 =>
    k121 x1 x2 x3 x4 x5 v37 X36
def fn_Mod_copy_L121 : Nat → Int32 → Int32 → Int32 → Int32 → Int32 → Int32 → IX → Option (Int32 × IX)
  | 0, _, _, _, _, _, _, _ => none
  | n + 1, x1, x2, x3, x4, x5, x6, X => fn_Mod_copy_B121 (fn_Mod_copy_L121 n) x1 x2 x3 x4 x5 x6 X
def fn_Mod_copy_L111 (X : IX) : Option (Int32 × IX) :=
  zu_b2 (fn_Mod_finds (-1000001 : Int32) X) fun v30 X31 =>
  some (v30, X31)
def fn_Mod_copy_L39 (X : IX) : Option (Int32 × IX) :=
  zu_b2 (fn_Mod_finds (-1000006 : Int32) X) fun v27 X28 =>
  some (v27, X28)
def fn_Mod_copy_L14 (X : IX) : Option (Int32 × IX) :=
  zu_b2 (fn_Mod_finds (-1000001 : Int32) X) fun v24 X25 =>
  some (v24, X25)
def fn_Mod_copy (a1 : Int32) (a2 : Int32) (a3 : Int32) (a4 : Int32) (a5 : Int32) (X : IX) : Option (Int32 × IX) :=
  zu_b1 (fn_Mod_isOne a1) fun v1 =>
  if v1 = 0 then
    fn_Mod_copy_L14 X
  else
    zu_b1 (fn_Mod_isOne a3) fun v4 =>
    if v4 = 0 then
      fn_Mod_copy_L14 X
    else
      zu_gd (zu_ib a1 4) <|
      if (X 105 (a1.toNatClampNeg)) = 0 then
        fn_Mod_copy_L39 X
      else
        zu_gd (zu_ib a3 4) <|
        if (X 105 (a3.toNatClampNeg)) = 0 then
          fn_Mod_copy_L39 X
        else
          zu_gd (zu_ib a1 4) <|
          zu_gd (zu_ib a3 4) <|
          if (X 105 (a1.toNatClampNeg)) = (X 105 (a3.toNatClampNeg)) then
            if a2 < 0 then
              fn_Mod_copy_L111 X
            else
              if a4 < 0 then
                fn_Mod_copy_L111 X
              else
                if a5 < 0 then
                  fn_Mod_copy_L111 X
                else
                  zu_gd (zu_ib a1 4) <|
                  if ((X 106 (a1.toNatClampNeg)) - a2) < a5 then
                    fn_Mod_copy_L111 X
                  else
                    zu_gd (zu_ib a3 4) <|
                    if a5 ≤ ((X 106 (a3.toNatClampNeg)) - a4) then
                      fn_Mod_copy_L121 400 a1 a2 a3 a4 a5 (0 : Int32) X
                    else
                      fn_Mod_copy_L111 X
          else
            zu_b2 (fn_Mod_finds (-1000003 : Int32) X) fun v21 X22 =>
            some (v21, X22)
/-! StonePostModel.load -/
def fn_Mod_load_L82 (x3 : Int32) (X : IX) : Option (Int32 × IX) :=
  some (x3, X)
def fn_Mod_load_B18 (k18 : Int32 → Int32 → IX → Option (Int32 × IX)) (x1 : Int32) (x3 : Int32) (X : IX) : Option (Int32 × IX) :=
  zu_gd (zu_ib x1 4) <|
  if (X 106 (x1.toNatClampNeg)) ≤ x3 then
    fn_Mod_load_L82 x3 X
  else
    if (24 : Int32) ≤ x3 then
      fn_Mod_load_L82 x3 X
    else
      zu_gd (zu_ib (((40 : Int32) * x1) + x3) 160) <|
      zu_b1 (fn_Mod_in ((X 107 ((((40 : Int32) * x1) + x3).toNatClampNeg)).toInt64) (0 : Int64) (3 : Int64)) fun v11 =>
      if v11 = 0 then
        fn_Mod_load_L82 x3 X
      else
        zu_gd (zu_ib (((40 : Int32) * x1) + x3) 160) <|
        zu_gd (zu_ib ((6 : Int32) + x3) 142) <|
        zu_nx (zu_st X 96 (((6 : Int32) + x3).toNatClampNeg) (X 107 ((((40 : Int32) * x1) + x3).toNatClampNeg))) fun X16 =>
        zu_nx (x3 + (1 : Int32)) fun v17 =>
        k18 x1 v17 X16
def fn_Mod_load_L18 : Nat → Int32 → Int32 → IX → Option (Int32 × IX)
  | 0, _, _, _ => none
  | n + 1, x1, x3, X => fn_Mod_load_B18 (fn_Mod_load_L18 n) x1 x3 X
def fn_Mod_load (a1 : Int32) (X : IX) : Option (Int32 × IX) :=
  zu_b1 (fn_Mod_wrong X a1) fun v1 =>
  if v1 = 0 then
    fn_Mod_load_L18 400 a1 (0 : Int32) X
  else
    zu_b2 (fn_Mod_finds v1 X) fun v4 X5 =>
    some (v4, X5)
/-! StonePostModel.judge -/
def fn_Mod_judge_L146 (y0 : Int32) (X : IX) : Option (Int32 × IX) :=
  some (y0, X)
def fn_Mod_judge_L127 (x1 : Int32) (x5 : Int32) (X : IX) : Option (Int32 × IX) :=
  zu_gd (zu_ib x1 4) <|
  if x5 = (X 106 (x1.toNatClampNeg)) then
    fn_Mod_judge_L146 (0 : Int32) X
  else
    fn_Mod_judge_L146 ((1 : Int32) + x5) X
def fn_Mod_judge_B47 (k47 : Int32 → Int32 → Int32 → IX → Option (Int32 × IX)) (x1 : Int32) (x4 : Int32) (x5 : Int32) (X : IX) : Option (Int32 × IX) :=
  zu_gd (zu_ib x1 4) <|
  if (X 106 (x1.toNatClampNeg)) ≤ x5 then
    fn_Mod_judge_L127 x1 x5 X
  else
    zu_gd (zu_ib (((40 : Int32) * x1) + x5) 160) <|
    zu_b1 (fn_Mod_isCell (X 107 ((((40 : Int32) * x1) + x5).toNatClampNeg))) fun v18 =>
    if v18 = 0 then
      fn_Mod_judge_L127 x1 x5 X
    else
      zu_gd (zu_ib (((40 : Int32) * x1) + x5) 160) <|
      zu_b1 (fn_Mod_has x4 (X 107 ((((40 : Int32) * x1) + x5).toNatClampNeg))) fun v22 =>
      if v22 = 0 then
        fn_Mod_judge_L127 x1 x5 X
      else
        zu_gd (zu_ib (((40 : Int32) * x1) + x5) 160) <|
        zu_nx (fn_Mod_clockIn X x5) fun v26 =>
        zu_b2 (fn_Mod_ways (X 107 ((((40 : Int32) * x1) + x5).toNatClampNeg)) v26 (-1 : Int32) X) fun v28 X29 =>
        zu_nx (x5 + (1 : Int32)) fun v31 =>
        k47 x1 v28 v31 X29
def fn_Mod_judge_L47 : Nat → Int32 → Int32 → Int32 → IX → Option (Int32 × IX)
  | 0, _, _, _, _ => none
  | n + 1, x1, x4, x5, X => fn_Mod_judge_B47 (fn_Mod_judge_L47 n) x1 x4 x5 X
def fn_Mod_judge (a1 : Int32) (a2 : Int32) (X : IX) : Option (Int32 × IX) :=
  zu_b1 (fn_Mod_wrong X a1) fun v1 =>
  if v1 = 0 then
    zu_b1 (fn_Mod_isLetter X a2) fun v4 =>
    if v4 = 0 then
      zu_b2 (fn_Mod_finds (-1000001 : Int32) X) fun v9 X10 =>
      some (v9, X10)
    else
      zu_gd (zu_ib ((120 : Int32) + a2) 142) <|
      zu_nx ((1 : Int32) <<< ((X 96 (((120 : Int32) + a2).toNatClampNeg)) &&& 31)) fun v8 =>
      fn_Mod_judge_L47 400 a1 v8 (0 : Int32) X
  else
    zu_b2 (fn_Mod_finds v1 X) fun v12 X13 =>
    some (v12, X13)
/-! StonePostModel.image -/
def fn_Mod_image_B2 (k2 : Int32 → IX → Option (Int32 × IX)) (x1 : Int32) (X : IX) : Option (Int32 × IX) :=
  if (142 : Int32) ≤ x1 then
    zu_nx (zu_st X 95 4 (1 : Int32)) fun X2 =>
    some ((1 : Int32), X2)
  else
    zu_gd (zu_ib x1 142) <|
    zu_gd (zu_ib x1 142) <|
    zu_nx (zu_st X 97 (x1.toNatClampNeg) (X 96 (x1.toNatClampNeg))) fun X5 =>
    zu_nx (x1 + (1 : Int32)) fun v6 =>
    k2 v6 X5
def fn_Mod_image_L2 : Nat → Int32 → IX → Option (Int32 × IX)
  | 0, _, _ => none
  | n + 1, x1, X => fn_Mod_image_B2 (fn_Mod_image_L2 n) x1 X
def fn_Mod_image (X : IX) : Option (Int32 × IX) :=
  fn_Mod_image_L2 400 (0 : Int32) X
/-! StonePostModel.undo -/
def fn_Mod_undo_B16 (k16 : Int32 → IX → Option (Int32 × IX)) (x1 : Int32) (X : IX) : Option (Int32 × IX) :=
  if (142 : Int32) ≤ x1 then
    some (X 96 0, X)
  else
    zu_gd (zu_ib x1 142) <|
    zu_gd (zu_ib x1 142) <|
    zu_nx (zu_st X 96 (x1.toNatClampNeg) (X 97 (x1.toNatClampNeg))) fun X8 =>
    zu_nx (x1 + (1 : Int32)) fun v9 =>
    k16 v9 X8
def fn_Mod_undo_L16 : Nat → Int32 → IX → Option (Int32 × IX)
  | 0, _, _ => none
  | n + 1, x1, X => fn_Mod_undo_B16 (fn_Mod_undo_L16 n) x1 X
def fn_Mod_undo (X : IX) : Option (Int32 × IX) :=
  if (X 95 4) = 0 then
    zu_b2 (fn_Mod_finds (-1000004 : Int32) X) fun v2 X3 =>
    some (v2, X3)
  else
    fn_Mod_undo_L16 400 (0 : Int32) X
/-! StonePostModel.tear -/
def fn_Mod_tear_L12 (y0 : Int32) (X : IX) : Option (Int32 × IX) :=
  zu_nx (zu_st X 95 4 (0 : Int32)) fun X2 =>
  some (y0, X2)
def fn_Mod_tear (X : IX) : Option (Int32 × IX) :=
  if (X 95 4) = 0 then
    fn_Mod_tear_L12 (0 : Int32) X
  else
    fn_Mod_tear_L12 (1 : Int32) X
/-! StonePostModel.ills -/
def fn_Mod_ills_B4 (X : IX) (k4 : Int32 → Int32 → Option Int32) (x1 : Int32) (x2 : Int32) : Option Int32 :=
  if (X 96 1) ≤ x2 then
    some x1
  else
    zu_b1 (fn_Mod_its X x2 (7 : Int32)) fun v2 =>
    zu_nx (x1 + v2) fun v4 =>
    zu_nx (x2 + (1 : Int32)) fun v5 =>
    k4 v4 v5
def fn_Mod_ills_L4 (X : IX) : Nat → Int32 → Int32 → Option Int32
  | 0, _, _ => none
  | n + 1, x1, x2 => fn_Mod_ills_B4 X (fn_Mod_ills_L4 X n) x1 x2
def fn_Mod_ills (X : IX) : Option Int32 :=
  fn_Mod_ills_L4 X 400 (0 : Int32) (0 : Int32)
/-! StonePostModel.held -/
def fn_Mod_held_L29 (X : IX) (k4 : Int32 → Int32 → Option Int32) (x2 : Int32) (y0 : Int32) (y1 : Int32) : Option Int32 :=
  zu_nx (y1 + y0) fun v4 =>
  zu_nx (x2 + (1 : Int32)) fun v5 =>
  k4 v4 v5
def fn_Mod_held_B4 (X : IX) (k4 : Int32 → Int32 → Option Int32) (x1 : Int32) (x2 : Int32) : Option Int32 :=
  if (10 : Int32) ≤ x2 then
    some x1
  else
    zu_gd (zu_ib ((132 : Int32) + x2) 142) <|
    if 0 ≤ (X 96 (((132 : Int32) + x2).toNatClampNeg)) then
      fn_Mod_held_L29 X k4 x2 (1 : Int32) x1
    else
      fn_Mod_held_L29 X k4 x2 (0 : Int32) x1
def fn_Mod_held_L4 (X : IX) : Nat → Int32 → Int32 → Option Int32
  | 0, _, _ => none
  | n + 1, x1, x2 => fn_Mod_held_B4 X (fn_Mod_held_L4 X n) x1 x2
def fn_Mod_held (X : IX) : Option Int32 :=
  fn_Mod_held_L4 X 400 (0 : Int32) (0 : Int32)
/-! StonePostModel.count -/
def fn_Mod_count (a1 : Int32) (X : IX) : Option (Int32 × IX) :=
  if a1 = (0 : Int32) then
    some (X 96 0, X)
  else
    if a1 = (1 : Int32) then
      some (X 96 1, X)
    else
      if a1 = (2 : Int32) then
        some (X 96 2, X)
      else
        if a1 = (3 : Int32) then
          zu_b2 (fn_Mod_thanksOf X) fun v1 X2 =>
          some (v1, X2)
        else
          if a1 = (4 : Int32) then
            zu_b1 (fn_Mod_ills X) fun v4 =>
            some (v4, X)
          else
            if a1 = (5 : Int32) then
              some (X 95 14, X)
            else
              if a1 = (6 : Int32) then
                some (X 96 5, X)
              else
                if a1 = (7 : Int32) then
                  zu_b1 (fn_Mod_held X) fun v6 =>
                  some (v6, X)
                else
                  zu_b2 (fn_Mod_finds (-1000001 : Int32) X) fun v8 X9 =>
                  some (v8, X9)
/-! StonePostModel.status -/
def fn_Mod_status_L51 (k25 : Int32 → Int32 → Int32 → IX → Option (Int32 × IX)) (x1 : Int32) (x3 : Int32) (y0 : Int32) (y1 : Int32) (X : IX) : Option (Int32 × IX) :=
  zu_nx (y1 + y0) fun v11 =>
  zu_nx (x3 + (1 : Int32)) fun v12 =>
  k25 x1 v11 v12 X
def fn_Mod_status_L41 (k25 : Int32 → Int32 → Int32 → IX → Option (Int32 × IX)) (x1 : Int32) (x3 : Int32) (y0 : Int32) (X : IX) : Option (Int32 × IX) :=
  zu_gd (zu_ib x3 7) <|
  fn_Mod_status_L51 k25 x1 x3 (X 99 (x3.toNatClampNeg)) y0 X
def fn_Mod_status_B25 (k25 : Int32 → Int32 → Int32 → IX → Option (Int32 × IX)) (x1 : Int32) (x2 : Int32) (x3 : Int32) (X : IX) : Option (Int32 × IX) :=
  if (7 : Int32) ≤ x3 then
    some (x2, X)
  else
    if x1 < 0 then
      fn_Mod_status_L41 k25 x1 x3 x2 X
    else
      if x3 = x1 then
        fn_Mod_status_L41 k25 x1 x3 x2 X
      else
        fn_Mod_status_L51 k25 x1 x3 (0 : Int32) x2 X
def fn_Mod_status_L25 : Nat → Int32 → Int32 → Int32 → IX → Option (Int32 × IX)
  | 0, _, _, _, _ => none
  | n + 1, x1, x2, x3, X => fn_Mod_status_B25 (fn_Mod_status_L25 n) x1 x2 x3 X
def fn_Mod_status (a1 : Int32) (X : IX) : Option (Int32 × IX) :=
  zu_b1 (fn_Mod_in (a1.toInt64) (-1 : Int64) (6 : Int64)) fun v1 =>
  if v1 = 0 then
    zu_b2 (fn_Mod_finds (-1000001 : Int32) X) fun v4 X5 =>
    some (v4, X5)
  else
    fn_Mod_status_L25 400 a1 (0 : Int32) (0 : Int32) X
