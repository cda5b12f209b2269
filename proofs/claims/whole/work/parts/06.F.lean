def F_Floor_makeEmpty (t_farSquare : Nat → Int32) : Option (Int64 × Int32 × (Nat → Int32)) :=
  some ((0 : Int64), (0 : Int32), (upd (upd t_farSquare 0 (18 : Int32)) 1 (50 : Int32)))
def Lexicon_makeEmpty_L17  : Nat → Int32 → (Nat → Int32) → Option ((Nat → Int32))
  | 0, _, _ => none
  | k0 + 1, x1, t_leastLike'_3 =>
  if (6 : Int32) ≤ x1 then
    some t_leastLike'_3
  else
    gd (ixb x1 6) (
    Lexicon_makeEmpty_L17 k0 (x1 + (1 : Int32)) (upd t_leastLike'_3 x1.toNatClampNeg x1))
def F_Lexicon_makeEmpty (N : Nat) (t_leastLike : Nat → Int32) : Option (Int32 × Int32 × Int32 × (Nat → Int32)) :=
  bO (Lexicon_makeEmpty_L17 N (0 : Int32) t_leastLike) ((fun (t_leastLike'_4 : Nat → Int32) =>
  some ((0 : Int32), (0 : Int32), (0 : Int32), t_leastLike'_4)))
def F_Natural_put (p1 : Int32) (t_limb : Nat → Int32) : Option (Int32 × (Nat → Int32)) :=
  if p1 = (0 : Int32) then
    some ((0 : Int32), (upd t_limb 0 p1))
  else
    some ((1 : Int32), (upd t_limb 0 p1))
def F_S_within (p1 : Int32) (p2 : Int32) (p3 : Int32) : Int32 :=
  if p1 < p2 then
    (0 : Int32)
  else
    if p3 < p1 then
      (0 : Int32)
    else
      (1 : Int32)
def Floor_hasWeaver_L2 (t_weavers : Int32) (t_place : Nat → Int32) (p1 : Int32) : Nat → Int32 → Option ((Int32) ⊕ Unit)
  | 0, _ => none
  | k0 + 1, x2 =>
  if t_weavers ≤ x2 then
    some (.inr ())
  else
    gd (ixb x2 8) (
    if (t_place x2.toNatClampNeg) = p1 then
      some (.inl (1 : Int32))
    else
      Floor_hasWeaver_L2 t_weavers t_place p1 k0 (x2 + (1 : Int32)))
def F_Floor_hasWeaver (N : Nat) (p1 : Int32) (t_weavers : Int32) (t_place : Nat → Int32) : Option (Int32) :=
  bT (Floor_hasWeaver_L2 t_weavers t_place p1 N (0 : Int32)) (u0 (
  some (0 : Int32)))
def F_Floor_hasPillar (p1 : Int32) (t_pillars : Int64) : Int32 :=
  if (lg_cmp ((jushrL t_pillars p1) &&& (1 : Int64)) (0 : Int64)) = (0 : Int32) then
    (0 : Int32)
  else
    (1 : Int32)
def F_Floor_putPillar (N : Nat) (p1 : Int32) (t_pillars : Int64) (t_weavers : Int32) (t_place : Nat → Int32) : Option (Int32 × Int64) :=
  if (F_S_within p1 (0 : Int32) (63 : Int32)) = (0 : Int32) then
    some ((-2 : Int32), t_pillars)
  else
    bO (F_Floor_hasWeaver N p1 t_weavers t_place) ((fun (r12 : Int32) =>
    if r12 = (0 : Int32) then
      if (F_Floor_hasPillar p1 t_pillars) = (0 : Int32) then
        some ((1 : Int32), (t_pillars ||| (jshlL (1 : Int64) p1)))
      else
        some ((-3 : Int32), t_pillars)
    else
      some ((-2 : Int32), t_pillars)))
def F_S_pillar (N : Nat) (p1 : Int32) (t_now_floor_pillars : Int64) (t_now_floor_weavers : Int32) (t_now_floor_place : Nat → Int32) : Option (Int32 × Int64) :=
  bO (F_Floor_putPillar N p1 t_now_floor_pillars t_now_floor_weavers t_now_floor_place) (u2 (fun (r8 : Int32) (t_now_floor_pillars'_2 : Int64) =>
  some (r8, t_now_floor_pillars'_2)))
def F_Floor_putWeaver (N : Nat) (p1 : Int32) (p2 : Int32) (t_pillars : Int64) (t_weavers : Int32) (t_place : Nat → Int32) (t_way : Nat → Int32) (t_tell : Nat → Int32) (t_look : Nat → Int32) : Option (Int32 × Int32 × (Nat → Int32) × (Nat → Int32) × (Nat → Int32) × (Nat → Int32)) :=
  if (F_S_within p1 (0 : Int32) (63 : Int32)) = (0 : Int32) then
    some ((-2 : Int32), t_weavers, t_place, t_way, t_tell, t_look)
  else
    if (F_S_within p2 (0 : Int32) (3 : Int32)) = (0 : Int32) then
      some ((-2 : Int32), t_weavers, t_place, t_way, t_tell, t_look)
    else
      if (F_Floor_hasPillar p1 t_pillars) = (0 : Int32) then
        bO (F_Floor_hasWeaver N p1 t_weavers t_place) ((fun (r29 : Int32) =>
        if r29 = (0 : Int32) then
          if t_weavers < (8 : Int32) then
            gd (ixb t_weavers 8) (
            some (((t_weavers + (1 : Int32)) - (1 : Int32)), (t_weavers + (1 : Int32)), (upd t_place t_weavers.toNatClampNeg p1), (upd t_way t_weavers.toNatClampNeg p2), (upd t_tell t_weavers.toNatClampNeg (4095 : Int32)), (upd t_look t_weavers.toNatClampNeg (4095 : Int32))))
          else
            some ((-4 : Int32), t_weavers, t_place, t_way, t_tell, t_look)
        else
          some ((-2 : Int32), t_weavers, t_place, t_way, t_tell, t_look)))
      else
        some ((-2 : Int32), t_weavers, t_place, t_way, t_tell, t_look)
def F_S_weaver (N : Nat) (p1 : Int32) (p2 : Int32) (t_now_floor_pillars : Int64) (t_now_floor_weavers : Int32) (t_now_floor_place : Nat → Int32) (t_now_floor_way : Nat → Int32) (t_now_floor_tell : Nat → Int32) (t_now_floor_look : Nat → Int32) : Option (Int32 × Int32 × (Nat → Int32) × (Nat → Int32) × (Nat → Int32) × (Nat → Int32)) :=
  bO (F_Floor_putWeaver N p1 p2 t_now_floor_pillars t_now_floor_weavers t_now_floor_place t_now_floor_way t_now_floor_tell t_now_floor_look) (u6 (fun (r9 : Int32) (t_now_floor_weavers'_2 : Int32) (t_now_floor_place'_2 : Nat → Int32) (t_now_floor_way'_2 : Nat → Int32) (t_now_floor_tell'_2 : Nat → Int32) (t_now_floor_look'_2 : Nat → Int32) =>
  some (r9, t_now_floor_weavers'_2, t_now_floor_place'_2, t_now_floor_way'_2, t_now_floor_tell'_2, t_now_floor_look'_2)))
def F_Floor_isWeaver (p1 : Int32) (t_weavers : Int32) : Int32 :=
  (vp_nar .boolean (F_S_within p1 (0 : Int32) (t_weavers - (1 : Int32))))
def F_Floor_turn (p1 : Int32) (p2 : Int32) (t_weavers : Int32) (t_way : Nat → Int32) : Option (Int32 × (Nat → Int32)) :=
  if (F_Floor_isWeaver p1 t_weavers) = (0 : Int32) then
    some ((-2 : Int32), t_way)
  else
    if (F_S_within p2 (0 : Int32) (3 : Int32)) = (0 : Int32) then
      some ((-2 : Int32), t_way)
    else
      gd (ixb p1 8) (
      some ((t_way p1.toNatClampNeg), (upd t_way p1.toNatClampNeg p2)))
def F_S_face (p1 : Int32) (p2 : Int32) (t_now_floor_weavers : Int32) (t_now_floor_way : Nat → Int32) : Option (Int32 × (Nat → Int32)) :=
  bO (F_Floor_turn p1 p2 t_now_floor_weavers t_now_floor_way) (u2 (fun (r9 : Int32) (t_now_floor_way'_2 : Nat → Int32) =>
  some (r9, t_now_floor_way'_2)))
def F_Floor_setFree (p1 : Int32) (p2 : Int32) (p3 : Int32) (p4 : Int32) (t_weavers : Int32) (t_tell : Nat → Int32) (t_look : Nat → Int32) : Option (Int32 × (Nat → Int32) × (Nat → Int32)) :=
  if (F_Floor_isWeaver p1 t_weavers) = (0 : Int32) then
    some ((-2 : Int32), t_tell, t_look)
  else
    if (F_S_within p2 (0 : Int32) (1 : Int32)) = (0 : Int32) then
      some ((-2 : Int32), t_tell, t_look)
    else
      if (F_S_within p3 (0 : Int32) (11 : Int32)) = (0 : Int32) then
        some ((-2 : Int32), t_tell, t_look)
      else
        if (F_S_within p4 p3 (11 : Int32)) = (0 : Int32) then
          some ((-2 : Int32), t_tell, t_look)
        else
          if p2 = (0 : Int32) then
            gd (ixb p1 8) (
            some ((1 : Int32), (upd t_tell p1.toNatClampNeg ((jshl (1 : Int32) (p4 + (1 : Int32))) - (jshl (1 : Int32) p3))), t_look))
          else
            gd (ixb p1 8) (
            some ((1 : Int32), t_tell, (upd t_look p1.toNatClampNeg ((jshl (1 : Int32) (p4 + (1 : Int32))) - (jshl (1 : Int32) p3)))))
def F_S_free (p1 : Int32) (p2 : Int32) (p3 : Int32) (p4 : Int32) (t_now_floor_weavers : Int32) (t_now_floor_tell : Nat → Int32) (t_now_floor_look : Nat → Int32) : Option (Int32 × (Nat → Int32) × (Nat → Int32)) :=
  bO (F_Floor_setFree p1 p2 p3 p4 t_now_floor_weavers t_now_floor_tell t_now_floor_look) (u3 (fun (r12 : Int32) (t_now_floor_tell'_2 : Nat → Int32) (t_now_floor_look'_2 : Nat → Int32) =>
  some (r12, t_now_floor_tell'_2, t_now_floor_look'_2)))
def F_Floor_setFar (p1 : Int32) (p2 : Int32) (t_farSquare : Nat → Int32) : Option (Int32 × (Nat → Int32)) :=
  if (F_S_within p1 (0 : Int32) (1 : Int32)) = (0 : Int32) then
    some ((-2 : Int32), t_farSquare)
  else
    if (F_S_within p2 (1 : Int32) (98 : Int32)) = (0 : Int32) then
      some ((-2 : Int32), t_farSquare)
    else
      gd (ixb p1 2) (
      some ((t_farSquare p1.toNatClampNeg), (upd t_farSquare p1.toNatClampNeg p2)))
def F_S_far (p1 : Int32) (p2 : Int32) (t_now_floor_farSquare : Nat → Int32) : Option (Int32 × (Nat → Int32)) :=
  bO (F_Floor_setFar p1 p2 t_now_floor_farSquare) (u2 (fun (r9 : Int32) (t_now_floor_farSquare'_2 : Nat → Int32) =>
  some (r9, t_now_floor_farSquare'_2)))
def F_Floor_areTwo (p1 : Int32) (p2 : Int32) (t_weavers : Int32) : Int32 :=
  if (F_Floor_isWeaver p1 t_weavers) = (0 : Int32) then
    (0 : Int32)
  else
    if (F_Floor_isWeaver p2 t_weavers) = (0 : Int32) then
      (0 : Int32)
    else
      if p1 = p2 then
        (0 : Int32)
      else
        (1 : Int32)
def F_Floor_goesBy (p1 : Int32) (p2 : Int32) (p3 : Int32) : Int32 :=
  if p3 = (0 : Int32) then
    (-((p2 / (8 : Int32)) - (p1 / (8 : Int32))))
  else if p3 = (1 : Int32) then
    ((jrem p2 (8 : Int32)) - (jrem p1 (8 : Int32)))
  else if p3 = (2 : Int32) then
    ((p2 / (8 : Int32)) - (p1 / (8 : Int32)))
  else 
    (-((jrem p2 (8 : Int32)) - (jrem p1 (8 : Int32))))
def F_Floor_faceEachOther (p1 : Int32) (p2 : Int32) (p3 : Int32) (p4 : Int32) (t_place : Nat → Int32) : Option (Int32) :=
  gd (ixb p1 8) (
  gd (ixb p3 8) (
  if (F_Floor_goesBy (t_place p1.toNatClampNeg) (t_place p3.toNatClampNeg) p2) ≤ (0 : Int32) then
    some (0 : Int32)
  else
    if (F_Floor_goesBy (t_place p3.toNatClampNeg) (t_place p1.toNatClampNeg) p4) ≤ (0 : Int32) then
      some (0 : Int32)
    else
      some (1 : Int32)))
def F_Floor_squareOfWay (p1 : Int32) (p2 : Int32) (t_place : Nat → Int32) : Option (Int32) :=
  gd (ixb p1 8) (
  gd (ixb p2 8) (
  some (((F_Floor_goesBy (t_place p1.toNatClampNeg) (t_place p2.toNatClampNeg) (2 : Int32)) * (F_Floor_goesBy (t_place p1.toNatClampNeg) (t_place p2.toNatClampNeg) (2 : Int32))) + ((F_Floor_goesBy (t_place p1.toNatClampNeg) (t_place p2.toNatClampNeg) (1 : Int32)) * (F_Floor_goesBy (t_place p1.toNatClampNeg) (t_place p2.toNatClampNeg) (1 : Int32))))))
def F_Floor_isBlockedBy (p1 : Int32) (p2 : Int32) (p3 : Int32) : Int32 :=
  if ((((p3 / (8 : Int32)) - (p2 / (8 : Int32))) * ((p1 / (8 : Int32)) - (p2 / (8 : Int32)))) + (((jrem p3 (8 : Int32)) - (jrem p2 (8 : Int32))) * ((jrem p1 (8 : Int32)) - (jrem p2 (8 : Int32))))) ≤ (0 : Int32) then
    (0 : Int32)
  else
    if ((((p3 / (8 : Int32)) - (p2 / (8 : Int32))) * ((p1 / (8 : Int32)) - (p2 / (8 : Int32)))) + (((jrem p3 (8 : Int32)) - (jrem p2 (8 : Int32))) * ((jrem p1 (8 : Int32)) - (jrem p2 (8 : Int32))))) < ((((p3 / (8 : Int32)) - (p2 / (8 : Int32))) * ((p3 / (8 : Int32)) - (p2 / (8 : Int32)))) + (((jrem p3 (8 : Int32)) - (jrem p2 (8 : Int32))) * ((jrem p3 (8 : Int32)) - (jrem p2 (8 : Int32))))) then
      if ((((p3 / (8 : Int32)) - (p2 / (8 : Int32))) * ((p3 / (8 : Int32)) - (p2 / (8 : Int32)))) + (((jrem p3 (8 : Int32)) - (jrem p2 (8 : Int32))) * ((jrem p3 (8 : Int32)) - (jrem p2 (8 : Int32))))) ≤ (((4 : Int32) * ((((p3 / (8 : Int32)) - (p2 / (8 : Int32))) * ((jrem p1 (8 : Int32)) - (jrem p2 (8 : Int32)))) - (((jrem p3 (8 : Int32)) - (jrem p2 (8 : Int32))) * ((p1 / (8 : Int32)) - (p2 / (8 : Int32)))))) * ((((p3 / (8 : Int32)) - (p2 / (8 : Int32))) * ((jrem p1 (8 : Int32)) - (jrem p2 (8 : Int32)))) - (((jrem p3 (8 : Int32)) - (jrem p2 (8 : Int32))) * ((p1 / (8 : Int32)) - (p2 / (8 : Int32)))))) then
        (0 : Int32)
      else
        (1 : Int32)
    else
      (0 : Int32)
def Floor_isClear_L13 (t_pillars : Int64) (p1 : Int32) (p2 : Int32) (t_place : Nat → Int32) : Nat → Int32 → Option ((Int32) ⊕ Unit)
  | 0, _ => none
  | k0 + 1, x3 =>
  if (64 : Int32) ≤ x3 then
    some (.inr ())
  else
    if (F_Floor_hasPillar x3 t_pillars) = (0 : Int32) then
      Floor_isClear_L13 t_pillars p1 p2 t_place k0 (x3 + (1 : Int32))
    else
      gd (ixb p1 8) (
      gd (ixb p2 8) (
      if (F_Floor_isBlockedBy x3 (t_place p1.toNatClampNeg) (t_place p2.toNatClampNeg)) = (0 : Int32) then
        Floor_isClear_L13 t_pillars p1 p2 t_place k0 (x3 + (1 : Int32))
      else
        some (.inl (0 : Int32))))
def F_Floor_isClear (N : Nat) (p1 : Int32) (p2 : Int32) (t_pillars : Int64) (t_place : Nat → Int32) : Option (Int32) :=
  if (lg_cmp t_pillars (0 : Int64)) = (0 : Int32) then
    some (1 : Int32)
  else
    bT (Floor_isClear_L13 t_pillars p1 p2 t_place N (0 : Int32)) (u0 (
    some (1 : Int32)))
def F_Floor_mayRead (N : Nat) (p1 : Int32) (p2 : Int32) (t_pillars : Int64) (t_place : Nat → Int32) (t_farSquare : Nat → Int32) : Option (Int32) :=
  bO (F_Floor_squareOfWay p1 p2 t_place) ((fun (r3 : Int32) =>
  if (t_farSquare 0) < r3 then
    some (0 : Int32)
  else
    bO (F_Floor_isClear N p1 p2 t_pillars t_place) ((fun (r18 : Int32) =>
    if r18 = (0 : Int32) then
      some (0 : Int32)
    else
      some (1 : Int32)))))
def F_Floor_watches (N : Nat) (p1 : Int32) (p2 : Int32) (t_pillars : Int64) (t_place : Nat → Int32) (t_way : Nat → Int32) (t_farSquare : Nat → Int32) : Option (Int32) :=
  gd (ixb p1 8) (
  gd (ixb p2 8) (
  if (F_Floor_goesBy (t_place p1.toNatClampNeg) (t_place p2.toNatClampNeg) (t_way p1.toNatClampNeg)) ≤ (0 : Int32) then
    some (0 : Int32)
  else
    if (F_Floor_goesBy (t_place p2.toNatClampNeg) (t_place p1.toNatClampNeg) (t_way p2.toNatClampNeg)) < (0 : Int32) then
      some (0 : Int32)
    else
      bO (F_Floor_squareOfWay p1 p2 t_place) ((fun (r51 : Int32) =>
      if (t_farSquare 1) < r51 then
        some (0 : Int32)
      else
        bO (F_Floor_isClear N p1 p2 t_pillars t_place) ((fun (r66 : Int32) =>
        if r66 = (0 : Int32) then
          some (0 : Int32)
        else
          some (1 : Int32)))))))
def F_Floor_perceives (N : Nat) (p1 : Int32) (p2 : Int32) (p3 : Int32) (t_pillars : Int64) (t_place : Nat → Int32) (t_way : Nat → Int32) (t_farSquare : Nat → Int32) : Option (Int32) :=
  if p3 = (0 : Int32) then
    gd (ixb p1 8) (
    gd (ixb p2 8) (
    bO (F_Floor_faceEachOther p1 (t_way p1.toNatClampNeg) p2 (t_way p2.toNatClampNeg) t_place) ((fun (r19 : Int32) =>
    if r19 = (0 : Int32) then
      some (0 : Int32)
    else
      bO (F_Floor_mayRead N p1 p2 t_pillars t_place t_farSquare) ((fun (r28 : Int32) =>
      if r28 = (0 : Int32) then
        some (0 : Int32)
      else
        some (1 : Int32)))))))
  else
    bO (F_Floor_watches N p1 p2 t_pillars t_place t_way t_farSquare) ((fun (r43 : Int32) =>
    some (vp_nar .boolean r43)))
def F_S_oneIf (p1 : Int32) : Int32 :=
  if p1 = (0 : Int32) then
    (0 : Int32)
  else
    (1 : Int32)
def F_S_sees (N : Nat) (p1 : Int32) (p2 : Int32) (p3 : Int32) (t_now_floor_pillars : Int64) (t_now_floor_weavers : Int32) (t_now_floor_place : Nat → Int32) (t_now_floor_way : Nat → Int32) (t_now_floor_farSquare : Nat → Int32) : Option (Int32) :=
  if (F_Floor_areTwo p1 p2 t_now_floor_weavers) = (0 : Int32) then
    some (-2 : Int32)
  else
    if (F_S_within p3 (0 : Int32) (1 : Int32)) = (0 : Int32) then
      some (-2 : Int32)
    else
      bO (F_Floor_perceives N p1 p2 p3 t_now_floor_pillars t_now_floor_place t_now_floor_way t_now_floor_farSquare) ((fun (r37 : Int32) =>
      some (F_S_oneIf r37)))
def F_S_clear (N : Nat) (p1 : Int32) (p2 : Int32) (t_now_floor_pillars : Int64) (t_now_floor_weavers : Int32) (t_now_floor_place : Nat → Int32) : Option (Int32) :=
  if (F_Floor_areTwo p1 p2 t_now_floor_weavers) = (0 : Int32) then
    some (-2 : Int32)
  else
    bO (F_Floor_isClear N p1 p2 t_now_floor_pillars t_now_floor_place) ((fun (r27 : Int32) =>
    some (F_S_oneIf r27)))
def F_S_canAskNews (p1 : Int32) (p2 : Int32) (p3 : Int32) (p4 : Int32) (t_now_floor_weavers : Int32) : Int32 :=
  if (F_Floor_isWeaver p1 t_now_floor_weavers) = (0 : Int32) then
    (0 : Int32)
  else
    if (F_Floor_isWeaver p2 t_now_floor_weavers) = (0 : Int32) then
      (0 : Int32)
    else
      if (F_S_within p3 (0 : Int32) (1 : Int32)) = (0 : Int32) then
        (0 : Int32)
      else
        if p4 = (-1 : Int32) then
          (1 : Int32)
        else
          if (F_Floor_isWeaver p4 t_now_floor_weavers) = (0 : Int32) then
            (0 : Int32)
          else
            if p4 = p1 then
              (0 : Int32)
            else
              (1 : Int32)
def Floor_perceiversOf_L15 (N : Nat) (t_weavers : Int32) (p1 : Int32) (p2 : Int32) (t_pillars : Int64) (t_place : Nat → Int32) (t_way : Nat → Int32) (t_farSquare : Nat → Int32) : Nat → Int32 → Int32 → Option (Int32)
  | 0, _, _ => none
  | k0 + 1, x3, x4 =>
  if t_weavers ≤ x4 then
    some x3
  else
    if x4 = p1 then
      Floor_perceiversOf_L15 N t_weavers p1 p2 t_pillars t_place t_way t_farSquare k0 x3 (x4 + (1 : Int32))
    else
      bO (F_Floor_perceives N x4 p1 p2 t_pillars t_place t_way t_farSquare) ((fun (r35 : Int32) =>
      if r35 = (0 : Int32) then
        Floor_perceiversOf_L15 N t_weavers p1 p2 t_pillars t_place t_way t_farSquare k0 x3 (x4 + (1 : Int32))
      else
        Floor_perceiversOf_L15 N t_weavers p1 p2 t_pillars t_place t_way t_farSquare k0 (x3 ||| (jshl (1 : Int32) x4)) (x4 + (1 : Int32))))
def F_Floor_perceiversOf (N : Nat) (p1 : Int32) (p2 : Int32) (t_pillars : Int64) (t_weavers : Int32) (t_place : Nat → Int32) (t_way : Nat → Int32) (t_farSquare : Nat → Int32) : Option (Int32) :=
  if (F_Floor_isWeaver p1 t_weavers) = (0 : Int32) then
    some (0 : Int32)
  else
    bO (Floor_perceiversOf_L15 N t_weavers p1 p2 t_pillars t_place t_way t_farSquare N (0 : Int32) (0 : Int32)) ((fun (x3_2 : Int32) =>
    some x3_2))
def Floor_seenBy_L14 (N : Nat) (t_weavers : Int32) (p1 : Int32) (t_pillars : Int64) (t_place : Nat → Int32) (t_way : Nat → Int32) (t_farSquare : Nat → Int32) : Nat → Int32 → Int32 → Option (Int32)
  | 0, _, _ => none
  | k0 + 1, x2, x3 =>
  if t_weavers ≤ x3 then
    some x2
  else
    if p1 = x3 then
      Floor_seenBy_L14 N t_weavers p1 t_pillars t_place t_way t_farSquare k0 x2 (x3 + (1 : Int32))
    else
      bO (F_Floor_perceives N p1 x3 (0 : Int32) t_pillars t_place t_way t_farSquare) ((fun (r31 : Int32) =>
      if r31 = (0 : Int32) then
        bO (F_Floor_perceives N p1 x3 (1 : Int32) t_pillars t_place t_way t_farSquare) ((fun (r41 : Int32) =>
        if r41 = (0 : Int32) then
          Floor_seenBy_L14 N t_weavers p1 t_pillars t_place t_way t_farSquare k0 x2 (x3 + (1 : Int32))
        else
          Floor_seenBy_L14 N t_weavers p1 t_pillars t_place t_way t_farSquare k0 (x2 ||| (jshl (1 : Int32) x3)) (x3 + (1 : Int32))))
      else
        Floor_seenBy_L14 N t_weavers p1 t_pillars t_place t_way t_farSquare k0 (x2 ||| (jshl (1 : Int32) x3)) (x3 + (1 : Int32))))
def F_Floor_seenBy (N : Nat) (p1 : Int32) (t_pillars : Int64) (t_weavers : Int32) (t_place : Nat → Int32) (t_way : Nat → Int32) (t_farSquare : Nat → Int32) : Option (Int32) :=
  if (F_Floor_isWeaver p1 t_weavers) = (0 : Int32) then
    some (0 : Int32)
  else
    bO (Floor_seenBy_L14 N t_weavers p1 t_pillars t_place t_way t_farSquare N (0 : Int32) (0 : Int32)) ((fun (x2_2 : Int32) =>
    some x2_2))
def Floor_lookersIn_L4 (t_weavers : Int32) (t_look : Nat → Int32) (p1 : Int32) : Nat → Int32 → Int32 → Option (Int32)
  | 0, _, _ => none
  | k0 + 1, x2, x3 =>
  if t_weavers ≤ x3 then
    some x2
  else
    gd (ixb x3 8) (
    Floor_lookersIn_L4 t_weavers t_look p1 k0 (x2 ||| (jshl ((jushr (t_look x3.toNatClampNeg) (jrem p1 (12 : Int32))) &&& (1 : Int32)) x3)) (x3 + (1 : Int32)))
def F_Floor_lookersIn (N : Nat) (p1 : Int32) (t_weavers : Int32) (t_look : Nat → Int32) : Option (Int32) :=
  bO (Floor_lookersIn_L4 t_weavers t_look p1 N (0 : Int32) (0 : Int32)) ((fun (x2_2 : Int32) =>
  some x2_2))
def F_S_hasBit (p1 : Int32) (p2 : Int32) : Int32 :=
  if ((jushr p1 p2) &&& (1 : Int32)) = (0 : Int32) then
    (0 : Int32)
  else
    (1 : Int32)
def Floor_tellersIn_L4 (t_weavers : Int32) (t_tell : Nat → Int32) (p1 : Int32) : Nat → Int32 → Int32 → Option (Int32)
  | 0, _, _ => none
  | k0 + 1, x2, x3 =>
  if t_weavers ≤ x3 then
    some x2
  else
    gd (ixb x3 8) (
    Floor_tellersIn_L4 t_weavers t_tell p1 k0 (x2 ||| (jshl ((jushr (t_tell x3.toNatClampNeg) (jrem p1 (12 : Int32))) &&& (1 : Int32)) x3)) (x3 + (1 : Int32)))
def F_Floor_tellersIn (N : Nat) (p1 : Int32) (t_weavers : Int32) (t_tell : Nat → Int32) : Option (Int32) :=
  bO (Floor_tellersIn_L4 t_weavers t_tell p1 N (0 : Int32) (0 : Int32)) ((fun (x2_2 : Int32) =>
  some x2_2))
def News_write_L3 (p1 : Int32) (p2 : Int32) (p3 : Int32) : Nat → Int32 → (Nat → Int32) → (Nat → Int32) → Option ((Nat → Int32) × (Nat → Int32))
  | 0, _, _, _ => none
  | k0 + 1, x4, t_since'_3, t_toldBy'_3 =>
  if (8 : Int32) ≤ x4 then
    some (t_since'_3, t_toldBy'_3)
  else
    if (F_S_hasBit p1 x4) = (0 : Int32) then
      News_write_L3 p1 p2 p3 k0 (x4 + (1 : Int32)) t_since'_3 t_toldBy'_3
    else
      gd (ixb x4 8) (
      News_write_L3 p1 p2 p3 k0 (x4 + (1 : Int32)) (upd t_since'_3 x4.toNatClampNeg p2) (upd t_toldBy'_3 x4.toNatClampNeg p3))
def F_News_write (N : Nat) (p1 : Int32) (p2 : Int32) (p3 : Int32) (t_since : Nat → Int32) (t_toldBy : Nat → Int32) : Option ((Nat → Int32) × (Nat → Int32)) :=
  bO (News_write_L3 p1 p2 p3 N (0 : Int32) t_since t_toldBy) (u2 (fun (t_since'_4 : Nat → Int32) (t_toldBy'_4 : Nat → Int32) =>
  some (t_since'_4, t_toldBy'_4)))
def News_tellInSecond_L6 (N : Nat) (p2 : Int32) (t_audience : Nat → Int32) (p3 : Int32) (p1 : Int32) : Nat → Int32 → Int32 → (Nat → Int32) → (Nat → Int32) → Option (Int32 × (Nat → Int32) × (Nat → Int32))
  | 0, _, _, _, _ => none
  | k0 + 1, x4, x5, t_since'_4, t_toldBy'_4 =>
  if (8 : Int32) ≤ x5 then
    some (x4, t_since'_4, t_toldBy'_4)
  else
    if (F_S_hasBit p2 x5) = (0 : Int32) then
      News_tellInSecond_L6 N p2 t_audience p3 p1 k0 x4 (x5 + (1 : Int32)) t_since'_4 t_toldBy'_4
    else
      gd (ixb x5 8) (
      bO (F_News_write N (((t_audience x5.toNatClampNeg) &&& p3) &&& (x4 ^^^ (-1 : Int32))) (p1 + (1 : Int32)) x5 t_since'_4 t_toldBy'_4) (u2 (fun (t_since'_5 : Nat → Int32) (t_toldBy'_5 : Nat → Int32) =>
      News_tellInSecond_L6 N p2 t_audience p3 p1 k0 (x4 ||| (((t_audience x5.toNatClampNeg) &&& p3) &&& (x4 ^^^ (-1 : Int32)))) (x5 + (1 : Int32)) t_since'_5 t_toldBy'_5)))
def F_News_tellInSecond (N : Nat) (p1 : Int32) (p2 : Int32) (p3 : Int32) (t_since : Nat → Int32) (t_toldBy : Nat → Int32) (t_audience : Nat → Int32) : Option (Int32 × (Nat → Int32) × (Nat → Int32)) :=
  bO (News_tellInSecond_L6 N p2 t_audience p3 p1 N (0 : Int32) (0 : Int32) t_since t_toldBy) (u3 (fun (x4_2 : Int32) (t_since'_6 : Nat → Int32) (t_toldBy'_6 : Nat → Int32) =>
  some (x4_2, t_since'_6, t_toldBy'_6)))
def News_spread_L3 (N : Nat) (p4 : Int32) (p1_pillars : Int64) (p1_weavers : Int32) (p1_place : Nat → Int32) (p1_way : Nat → Int32) (p1_farSquare : Nat → Int32) : Nat → Int32 → (Nat → Int32) → (Nat → Int32) → (Nat → Int32) → Option ((Nat → Int32) × (Nat → Int32) × (Nat → Int32))
  | 0, _, _, _, _ => none
  | k0 + 1, x6, t_since'_6, t_toldBy'_6, t_audience'_3 =>
  if (8 : Int32) ≤ x6 then
    some (t_since'_6, t_toldBy'_6, t_audience'_3)
  else
    bO (F_Floor_perceiversOf N x6 p4 p1_pillars p1_weavers p1_place p1_way p1_farSquare) ((fun (r21 : Int32) =>
    gd (ixb x6 8) (
    News_spread_L3 N p4 p1_pillars p1_weavers p1_place p1_way p1_farSquare k0 (x6 + (1 : Int32)) (upd t_since'_6 x6.toNatClampNeg (-1 : Int32)) (upd t_toldBy'_6 x6.toNatClampNeg (-1 : Int32)) (upd t_audience'_3 x6.toNatClampNeg r21))))
def News_spread_L80 (N : Nat) (c8 : Int32) (p1_weavers : Int32) (p1_look : Nat → Int32) (p5 : Int32) (r57 : Int32) (p1_tell : Nat → Int32) (t_audience'_4 : Nat → Int32) : Nat → Int32 → Int32 → (Nat → Int32) → (Nat → Int32) → Option ((Nat → Int32) × (Nat → Int32))
  | 0, _, _, _, _ => none
  | k0 + 1, x7, x9, t_since'_8, t_toldBy'_8 =>
  if (240 : Int32) ≤ x9 then
    some (t_since'_8, t_toldBy'_8)
  else
    if x7 = c8 then
      some (t_since'_8, t_toldBy'_8)
    else
      bO (F_Floor_lookersIn N x9 p1_weavers p1_look) ((fun (r98 : Int32) =>
      bO (
        if p5 = (-1 : Int32) then
          some (0 : Int32)
        else
          if (F_S_hasBit r98 p5) = (0 : Int32) then
            some (0 : Int32)
          else
            some r57) ((fun (y0 : Int32) =>
      bO (F_Floor_tellersIn N x9 p1_weavers p1_tell) ((fun (r132 : Int32) =>
      bO (F_News_tellInSecond N x9 ((x7 &&& r132) &&& (y0 ^^^ (-1 : Int32))) (r98 &&& (x7 ^^^ (-1 : Int32))) t_since'_8 t_toldBy'_8 t_audience'_4) (u3 (fun (r157 : Int32) (t_since'_9 : Nat → Int32) (t_toldBy'_9 : Nat → Int32) =>
      News_spread_L80 N c8 p1_weavers p1_look p5 r57 p1_tell t_audience'_4 k0 (x7 ||| r157) (x9 + (1 : Int32)) t_since'_9 t_toldBy'_9))))))))
def F_News_spread (N : Nat) (p2 : Int32) (p3 : Int32) (p4 : Int32) (p5 : Int32) (t_since : Nat → Int32) (t_toldBy : Nat → Int32) (t_audience : Nat → Int32) (p1_pillars : Int64) (p1_weavers : Int32) (p1_place : Nat → Int32) (p1_way : Nat → Int32) (p1_tell : Nat → Int32) (p1_look : Nat → Int32) (p1_farSquare : Nat → Int32) : Option ((Nat → Int32) × (Nat → Int32) × (Nat → Int32)) :=
  bO (News_spread_L3 N p4 p1_pillars p1_weavers p1_place p1_way p1_farSquare N (0 : Int32) t_since t_toldBy t_audience) (u3 (fun (t_since'_7 : Nat → Int32) (t_toldBy'_7 : Nat → Int32) (t_audience'_4 : Nat → Int32) =>
  gd (ixb p2 8) (
  bO (F_Floor_seenBy N p5 p1_pillars p1_weavers p1_place p1_way p1_farSquare) ((fun (r57 : Int32) =>
  bO (News_spread_L80 N ((jshl (1 : Int32) p1_weavers) - (1 : Int32)) p1_weavers p1_look p5 r57 p1_tell t_audience'_4 N (jshl (1 : Int32) p2) p3 (upd t_since'_7 p2.toNatClampNeg p3) t_toldBy'_7) (u2 (fun (t_since'_10 : Nat → Int32) (t_toldBy'_10 : Nat → Int32) =>
  some (t_since'_10, t_toldBy'_10, t_audience'_4))))))))
def F_S_knows (N : Nat) (p1 : Int32) (p2 : Int32) (p3 : Int32) (p4 : Int32) (t_now_floor_pillars : Int64) (t_now_floor_weavers : Int32) (t_now_floor_place : Nat → Int32) (t_now_floor_way : Nat → Int32) (t_now_floor_tell : Nat → Int32) (t_now_floor_look : Nat → Int32) (t_now_floor_farSquare : Nat → Int32) (t_news_since : Nat → Int32) (t_news_toldBy : Nat → Int32) (t_news_audience : Nat → Int32) : Option (Int32 × (Nat → Int32) × (Nat → Int32) × (Nat → Int32)) :=
  if (F_S_canAskNews p1 p2 p3 p4 t_now_floor_weavers) = (0 : Int32) then
    some ((-10 : Int32), t_news_since, t_news_toldBy, t_news_audience)
  else
    bO (F_News_spread N p1 (0 : Int32) p3 p4 t_news_since t_news_toldBy t_news_audience t_now_floor_pillars t_now_floor_weavers t_now_floor_place t_now_floor_way t_now_floor_tell t_now_floor_look t_now_floor_farSquare) (u3 (fun (t_news_since'_2 : Nat → Int32) (t_news_toldBy'_2 : Nat → Int32) (t_news_audience'_2 : Nat → Int32) =>
    gd (ixb p2 8) (
    some ((t_news_since'_2 p2.toNatClampNeg), t_news_since'_2, t_news_toldBy'_2, t_news_audience'_2))))
def F_S_teller (N : Nat) (p1 : Int32) (p2 : Int32) (p3 : Int32) (p4 : Int32) (t_now_floor_pillars : Int64) (t_now_floor_weavers : Int32) (t_now_floor_place : Nat → Int32) (t_now_floor_way : Nat → Int32) (t_now_floor_tell : Nat → Int32) (t_now_floor_look : Nat → Int32) (t_now_floor_farSquare : Nat → Int32) (t_news_since : Nat → Int32) (t_news_toldBy : Nat → Int32) (t_news_audience : Nat → Int32) : Option (Int32 × (Nat → Int32) × (Nat → Int32) × (Nat → Int32)) :=
  if (F_S_canAskNews p1 p2 p3 p4 t_now_floor_weavers) = (0 : Int32) then
    some ((-10 : Int32), t_news_since, t_news_toldBy, t_news_audience)
  else
    bO (F_News_spread N p1 (0 : Int32) p3 p4 t_news_since t_news_toldBy t_news_audience t_now_floor_pillars t_now_floor_weavers t_now_floor_place t_now_floor_way t_now_floor_tell t_now_floor_look t_now_floor_farSquare) (u3 (fun (t_news_since'_2 : Nat → Int32) (t_news_toldBy'_2 : Nat → Int32) (t_news_audience'_2 : Nat → Int32) =>
    gd (ixb p2 8) (
    some ((t_news_toldBy'_2 p2.toNatClampNeg), t_news_since'_2, t_news_toldBy'_2, t_news_audience'_2))))
def F_S_firstOf (p1 : Int32) (p2 : Int32) : Option (Int32) :=
  bT (
    if p1 = (-1 : Int32) then
      if p2 = (-1 : Int32) then
        some (.inl (-1 : Int32))
      else
        some (.inr ())
    else
      some (.inr ())) (u0 (
  if p2 = (-1 : Int32) then
    some (0 : Int32)
  else
    if p1 = (-1 : Int32) then
      some (1 : Int32)
    else
      if p1 = p2 then
        some (2 : Int32)
      else
        if p2 ≤ p1 then
          some (1 : Int32)
        else
          some (0 : Int32)))
def F_S_meet (N : Nat) (p1 : Int32) (p2 : Int32) (p3 : Int32) (p4 : Int32) (t_now_floor_pillars : Int64) (t_now_floor_weavers : Int32) (t_now_floor_place : Nat → Int32) (t_now_floor_way : Nat → Int32) (t_now_floor_tell : Nat → Int32) (t_now_floor_look : Nat → Int32) (t_now_floor_farSquare : Nat → Int32) (t_news_since : Nat → Int32) (t_news_toldBy : Nat → Int32) (t_news_audience : Nat → Int32) (t_otherNews_since : Nat → Int32) (t_otherNews_toldBy : Nat → Int32) (t_otherNews_audience : Nat → Int32) : Option (Int32 × (Nat → Int32) × (Nat → Int32) × (Nat → Int32) × (Nat → Int32) × (Nat → Int32) × (Nat → Int32)) :=
  if (F_Floor_areTwo p1 p2 t_now_floor_weavers) = (0 : Int32) then
    some ((-10 : Int32), t_news_since, t_news_toldBy, t_news_audience, t_otherNews_since, t_otherNews_toldBy, t_otherNews_audience)
  else
    if (F_S_within p3 (0 : Int32) (240 : Int32)) = (0 : Int32) then
      some ((-10 : Int32), t_news_since, t_news_toldBy, t_news_audience, t_otherNews_since, t_otherNews_toldBy, t_otherNews_audience)
    else
      if (F_Floor_isWeaver p4 t_now_floor_weavers) = (0 : Int32) then
        some ((-10 : Int32), t_news_since, t_news_toldBy, t_news_audience, t_otherNews_since, t_otherNews_toldBy, t_otherNews_audience)
      else
        bO (F_News_spread N p1 (0 : Int32) (0 : Int32) (-1 : Int32) t_news_since t_news_toldBy t_news_audience t_now_floor_pillars t_now_floor_weavers t_now_floor_place t_now_floor_way t_now_floor_tell t_now_floor_look t_now_floor_farSquare) (u3 (fun (t_news_since'_2 : Nat → Int32) (t_news_toldBy'_2 : Nat → Int32) (t_news_audience'_2 : Nat → Int32) =>
        bO (F_News_spread N p2 p3 (0 : Int32) (-1 : Int32) t_otherNews_since t_otherNews_toldBy t_otherNews_audience t_now_floor_pillars t_now_floor_weavers t_now_floor_place t_now_floor_way t_now_floor_tell t_now_floor_look t_now_floor_farSquare) (u3 (fun (t_otherNews_since'_2 : Nat → Int32) (t_otherNews_toldBy'_2 : Nat → Int32) (t_otherNews_audience'_2 : Nat → Int32) =>
        gd (ixb p4 8) (
        bO (F_S_firstOf (t_news_since'_2 p4.toNatClampNeg) (t_otherNews_since'_2 p4.toNatClampNeg)) ((fun (r89 : Int32) =>
        some (r89, t_news_since'_2, t_news_toldBy'_2, t_news_audience'_2, t_otherNews_since'_2, t_otherNews_toldBy'_2, t_otherNews_audience'_2))))))))
def F_Sightings_add (p1 : Int32) (p2 : Int32) (p3 : Int32) (t_many : Int32) (t_weaver : Nat → Int32) (t_second : Nat → Int32) (t_knew : Nat → Int32) : Option (Int32 × Int32 × (Nat → Int32) × (Nat → Int32) × (Nat → Int32)) :=
  if (F_S_within p2 (0 : Int32) (240 : Int32)) = (0 : Int32) then
    some ((-2 : Int32), t_many, t_weaver, t_second, t_knew)
  else
    if t_many < (10 : Int32) then
      gd (ixb t_many 10) (
      some ((t_many + (1 : Int32)), (t_many + (1 : Int32)), (upd t_weaver t_many.toNatClampNeg p1), (upd t_second t_many.toNatClampNeg p2), (upd t_knew t_many.toNatClampNeg (F_S_oneIf p3))))
    else
      some ((-4 : Int32), t_many, t_weaver, t_second, t_knew)
def F_S_seen (p1 : Int32) (p2 : Int32) (p3 : Int32) (t_now_floor_weavers : Int32) (t_now_sightings_many : Int32) (t_now_sightings_weaver : Nat → Int32) (t_now_sightings_second : Nat → Int32) (t_now_sightings_knew : Nat → Int32) : Option (Int32 × Int32 × (Nat → Int32) × (Nat → Int32) × (Nat → Int32)) :=
  if (F_Floor_isWeaver p1 t_now_floor_weavers) = (0 : Int32) then
    some ((-2 : Int32), t_now_sightings_many, t_now_sightings_weaver, t_now_sightings_second, t_now_sightings_knew)
  else
    bO (F_Sightings_add p1 p2 p3 t_now_sightings_many t_now_sightings_weaver t_now_sightings_second t_now_sightings_knew) (u5 (fun (r27 : Int32) (t_now_sightings_many'_2 : Int32) (t_now_sightings_weaver'_2 : Nat → Int32) (t_now_sightings_second'_2 : Nat → Int32) (t_now_sightings_knew'_2 : Nat → Int32) =>
    some (r27, t_now_sightings_many'_2, t_now_sightings_weaver'_2, t_now_sightings_second'_2, t_now_sightings_knew'_2)))
def Sightings_areBorneBy_L2 (t_many : Int32) (t_weaver : Nat → Int32) (p1_since : Nat → Int32) (t_second : Nat → Int32) (t_knew : Nat → Int32) : Nat → Int32 → Option ((Int32) ⊕ Unit)
  | 0, _ => none
  | k0 + 1, x2 =>
  if t_many ≤ x2 then
    some (.inr ())
  else
    gd (ixb x2 10) (
    gd (ixb (t_weaver x2.toNatClampNeg) 8) (
    bO (
      if (p1_since (t_weaver x2.toNatClampNeg).toNatClampNeg) = (-1 : Int32) then
        some (0 : Int32)
      else
        if (t_second x2.toNatClampNeg) < (p1_since (t_weaver x2.toNatClampNeg).toNatClampNeg) then
          some (0 : Int32)
        else
          some (1 : Int32)) ((fun (y0 : Int32) =>
    if (F_S_oneIf y0) = (t_knew x2.toNatClampNeg) then
      Sightings_areBorneBy_L2 t_many t_weaver p1_since t_second t_knew k0 (x2 + (1 : Int32))
    else
      some (.inl (0 : Int32))))))
def F_Sightings_areBorneBy (N : Nat) (t_many : Int32) (t_weaver : Nat → Int32) (t_second : Nat → Int32) (t_knew : Nat → Int32) (p1_since : Nat → Int32) : Option (Int32) :=
  bT (Sightings_areBorneBy_L2 t_many t_weaver p1_since t_second t_knew N (0 : Int32)) (u0 (
  some (1 : Int32)))
def S_source_L4 (N : Nat) (t_now_floor_weavers : Int32) (t_now_floor_pillars : Int64) (t_now_floor_place : Nat → Int32) (t_now_floor_way : Nat → Int32) (t_now_floor_tell : Nat → Int32) (t_now_floor_look : Nat → Int32) (t_now_floor_farSquare : Nat → Int32) (t_now_sightings_many : Int32) (t_now_sightings_weaver : Nat → Int32) (t_now_sightings_second : Nat → Int32) (t_now_sightings_knew : Nat → Int32) : Nat → Int32 → Int32 → (Nat → Int32) → (Nat → Int32) → (Nat → Int32) → Option (Int32 × (Nat → Int32) × (Nat → Int32) × (Nat → Int32))
  | 0, _, _, _, _, _ => none
  | k0 + 1, x1, x2, t_news_since'_4, t_news_toldBy'_4, t_news_audience'_4 =>
  if t_now_floor_weavers ≤ x2 then
    some (x1, t_news_since'_4, t_news_toldBy'_4, t_news_audience'_4)
  else
    bO (F_News_spread N x2 (0 : Int32) (0 : Int32) (-1 : Int32) t_news_since'_4 t_news_toldBy'_4 t_news_audience'_4 t_now_floor_pillars t_now_floor_weavers t_now_floor_place t_now_floor_way t_now_floor_tell t_now_floor_look t_now_floor_farSquare) (u3 (fun (t_news_since'_5 : Nat → Int32) (t_news_toldBy'_5 : Nat → Int32) (t_news_audience'_5 : Nat → Int32) =>
    bO (F_Sightings_areBorneBy N t_now_sightings_many t_now_sightings_weaver t_now_sightings_second t_now_sightings_knew t_news_since'_5) ((fun (r47 : Int32) =>
    if r47 = (0 : Int32) then
      S_source_L4 N t_now_floor_weavers t_now_floor_pillars t_now_floor_place t_now_floor_way t_now_floor_tell t_now_floor_look t_now_floor_farSquare t_now_sightings_many t_now_sightings_weaver t_now_sightings_second t_now_sightings_knew k0 x1 (x2 + (1 : Int32)) t_news_since'_5 t_news_toldBy'_5 t_news_audience'_5
    else
      S_source_L4 N t_now_floor_weavers t_now_floor_pillars t_now_floor_place t_now_floor_way t_now_floor_tell t_now_floor_look t_now_floor_farSquare t_now_sightings_many t_now_sightings_weaver t_now_sightings_second t_now_sightings_knew k0 (x1 ||| (jshl (1 : Int32) x2)) (x2 + (1 : Int32)) t_news_since'_5 t_news_toldBy'_5 t_news_audience'_5))))
def F_S_source (N : Nat) (t_now_floor_pillars : Int64) (t_now_floor_weavers : Int32) (t_now_floor_place : Nat → Int32) (t_now_floor_way : Nat → Int32) (t_now_floor_tell : Nat → Int32) (t_now_floor_look : Nat → Int32) (t_now_floor_farSquare : Nat → Int32) (t_now_sightings_many : Int32) (t_now_sightings_weaver : Nat → Int32) (t_now_sightings_second : Nat → Int32) (t_now_sightings_knew : Nat → Int32) (t_news_since : Nat → Int32) (t_news_toldBy : Nat → Int32) (t_news_audience : Nat → Int32) : Option (Int32 × (Nat → Int32) × (Nat → Int32) × (Nat → Int32)) :=
  bO (S_source_L4 N t_now_floor_weavers t_now_floor_pillars t_now_floor_place t_now_floor_way t_now_floor_tell t_now_floor_look t_now_floor_farSquare t_now_sightings_many t_now_sightings_weaver t_now_sightings_second t_now_sightings_knew N (0 : Int32) (0 : Int32) t_news_since t_news_toldBy t_news_audience) (u4 (fun (x1_2 : Int32) (t_news_since'_6 : Nat → Int32) (t_news_toldBy'_6 : Nat → Int32) (t_news_audience'_6 : Nat → Int32) =>
  some (x1_2, t_news_since'_6, t_news_toldBy'_6, t_news_audience'_6)))
def News_isReached_L20 (p1_weavers : Int32) (t_audience : Nat → Int32) (p4 : Int32) : Nat → Int32 → Int32 → Option (Int32)
  | 0, _, _ => none
  | k0 + 1, x5_2, x7 =>
  if p1_weavers ≤ x7 then
    some x5_2
  else
    if (F_S_hasBit x5_2 x7) = (0 : Int32) then
      News_isReached_L20 p1_weavers t_audience p4 k0 x5_2 (x7 + (1 : Int32))
    else
      gd (ixb x7 8) (
      News_isReached_L20 p1_weavers t_audience p4 k0 (x5_2 ||| ((t_audience x7.toNatClampNeg) &&& (p4 ^^^ (-1 : Int32)))) (x7 + (1 : Int32)))
def News_isReached_L8 (N : Nat) (p1_weavers : Int32) (t_audience : Nat → Int32) (p4 : Int32) : Nat → Int32 → Int32 → Option (Int32)
  | 0, _, _ => none
  | k0 + 1, x5, x6 =>
  if p1_weavers ≤ x6 then
    some x5
  else
    bO (News_isReached_L20 p1_weavers t_audience p4 N x5 (0 : Int32)) ((fun (x5_3 : Int32) =>
    News_isReached_L8 N p1_weavers t_audience p4 k0 x5_3 (x6 + (1 : Int32))))
def F_News_isReached (N : Nat) (p2 : Int32) (p3 : Int32) (p4 : Int32) (t_audience : Nat → Int32) (p1_weavers : Int32) : Option (Int32) :=
  bO (News_isReached_L8 N p1_weavers t_audience p4 N (jshl (1 : Int32) p2) (0 : Int32)) ((fun (x5_4 : Int32) =>
  some (vp_nar .boolean (F_S_hasBit x5_4 p3))))
def F_Integer_bitCount (p1 : Int32) : Int32 :=
  ((((((((p1 - ((jushr p1 (1 : Int32)) &&& (1431655765 : Int32))) &&& (858993459 : Int32)) + ((jushr (p1 - ((jushr p1 (1 : Int32)) &&& (1431655765 : Int32))) (2 : Int32)) &&& (858993459 : Int32))) + (jushr (((p1 - ((jushr p1 (1 : Int32)) &&& (1431655765 : Int32))) &&& (858993459 : Int32)) + ((jushr (p1 - ((jushr p1 (1 : Int32)) &&& (1431655765 : Int32))) (2 : Int32)) &&& (858993459 : Int32))) (4 : Int32))) &&& (252645135 : Int32)) + (jushr (((((p1 - ((jushr p1 (1 : Int32)) &&& (1431655765 : Int32))) &&& (858993459 : Int32)) + ((jushr (p1 - ((jushr p1 (1 : Int32)) &&& (1431655765 : Int32))) (2 : Int32)) &&& (858993459 : Int32))) + (jushr (((p1 - ((jushr p1 (1 : Int32)) &&& (1431655765 : Int32))) &&& (858993459 : Int32)) + ((jushr (p1 - ((jushr p1 (1 : Int32)) &&& (1431655765 : Int32))) (2 : Int32)) &&& (858993459 : Int32))) (4 : Int32))) &&& (252645135 : Int32)) (8 : Int32))) + (jushr ((((((p1 - ((jushr p1 (1 : Int32)) &&& (1431655765 : Int32))) &&& (858993459 : Int32)) + ((jushr (p1 - ((jushr p1 (1 : Int32)) &&& (1431655765 : Int32))) (2 : Int32)) &&& (858993459 : Int32))) + (jushr (((p1 - ((jushr p1 (1 : Int32)) &&& (1431655765 : Int32))) &&& (858993459 : Int32)) + ((jushr (p1 - ((jushr p1 (1 : Int32)) &&& (1431655765 : Int32))) (2 : Int32)) &&& (858993459 : Int32))) (4 : Int32))) &&& (252645135 : Int32)) + (jushr (((((p1 - ((jushr p1 (1 : Int32)) &&& (1431655765 : Int32))) &&& (858993459 : Int32)) + ((jushr (p1 - ((jushr p1 (1 : Int32)) &&& (1431655765 : Int32))) (2 : Int32)) &&& (858993459 : Int32))) + (jushr (((p1 - ((jushr p1 (1 : Int32)) &&& (1431655765 : Int32))) &&& (858993459 : Int32)) + ((jushr (p1 - ((jushr p1 (1 : Int32)) &&& (1431655765 : Int32))) (2 : Int32)) &&& (858993459 : Int32))) (4 : Int32))) &&& (252645135 : Int32)) (8 : Int32))) (16 : Int32))) &&& (63 : Int32))
def News_waysApart_L3 (N : Nat) (p1_weavers : Int32) (p1_pillars : Int64) (p1_place : Nat → Int32) (p1_way : Nat → Int32) (p1_farSquare : Nat → Int32) : Nat → Int32 → (Nat → Int32) → Option ((Nat → Int32))
  | 0, _, _ => none
  | k0 + 1, x4, t_audience'_4 =>
  if p1_weavers ≤ x4 then
    some t_audience'_4
  else
    bO (F_Floor_perceiversOf N x4 (0 : Int32) p1_pillars p1_weavers p1_place p1_way p1_farSquare) ((fun (r22 : Int32) =>
    gd (ixb x4 8) (
    News_waysApart_L3 N p1_weavers p1_pillars p1_place p1_way p1_farSquare k0 (x4 + (1 : Int32)) (upd t_audience'_4 x4.toNatClampNeg r22))))
def News_waysApart_L77 (N : Nat) (p1_weavers : Int32) (c4 : Int32) (p2 : Int32) (p3 : Int32) (t_audience'_6 : Nat → Int32) : Nat → Int32 → Int32 → Option (Int32)
  | 0, _, _ => none
  | k0 + 1, x6, x7 =>
  if (jshl (1 : Int32) p1_weavers) ≤ x7 then
    some x6
  else
    if (x7 &&& c4) = (0 : Int32) then
      bO (F_News_isReached N p2 p3 x7 t_audience'_6 p1_weavers) ((fun (r102 : Int32) =>
      if r102 = (0 : Int32) then
        News_waysApart_L77 N p1_weavers c4 p2 p3 t_audience'_6 k0 (jmin x6 (F_Integer_bitCount x7)) (x7 + (1 : Int32))
      else
        News_waysApart_L77 N p1_weavers c4 p2 p3 t_audience'_6 k0 x6 (x7 + (1 : Int32))))
    else
      News_waysApart_L77 N p1_weavers c4 p2 p3 t_audience'_6 k0 x6 (x7 + (1 : Int32))
def F_News_waysApart (N : Nat) (p2 : Int32) (p3 : Int32) (t_audience : Nat → Int32) (p1_pillars : Int64) (p1_weavers : Int32) (p1_place : Nat → Int32) (p1_way : Nat → Int32) (p1_farSquare : Nat → Int32) : Option (Int32 × (Nat → Int32)) :=
  bO (News_waysApart_L3 N p1_weavers p1_pillars p1_place p1_way p1_farSquare N (0 : Int32) t_audience) ((fun (t_audience'_5 : Nat → Int32) =>
  gd (ixb p2 8) (
  bO (News_waysApart_L77 N p1_weavers ((jshl (1 : Int32) p2) ||| (jshl (1 : Int32) p3)) p2 p3 (upd t_audience'_5 p2.toNatClampNeg ((t_audience'_5 p2.toNatClampNeg) &&& ((jshl (1 : Int32) p3) ^^^ (-1 : Int32)))) N (8 : Int32) (0 : Int32)) ((fun (x6_2 : Int32) =>
  some (((F_S_oneIf (F_S_hasBit (t_audience'_5 p2.toNatClampNeg) p3)) + x6_2), (upd t_audience'_5 p2.toNatClampNeg ((t_audience'_5 p2.toNatClampNeg) &&& ((jshl (1 : Int32) p3) ^^^ (-1 : Int32))))))))))
def F_S_apart (N : Nat) (p1 : Int32) (p2 : Int32) (t_now_floor_pillars : Int64) (t_now_floor_weavers : Int32) (t_now_floor_place : Nat → Int32) (t_now_floor_way : Nat → Int32) (t_now_floor_farSquare : Nat → Int32) (t_news_audience : Nat → Int32) : Option (Int32 × (Nat → Int32)) :=
  if (F_Floor_areTwo p1 p2 t_now_floor_weavers) = (0 : Int32) then
    some ((-2 : Int32), t_news_audience)
  else
    bO (F_News_waysApart N p1 p2 t_news_audience t_now_floor_pillars t_now_floor_weavers t_now_floor_place t_now_floor_way t_now_floor_farSquare) (u2 (fun (r31 : Int32) (t_news_audience'_2 : Nat → Int32) =>
    some (r31, t_news_audience'_2)))
def Lexicon_makeAlike_L66 (c4 : Int32) (c3 : Int32) : Nat → Int32 → (Nat → Int32) → Option ((Nat → Int32))
  | 0, _, _ => none
  | k0 + 1, x5, t_leastLike'_3 =>
  if (6 : Int32) ≤ x5 then
    some t_leastLike'_3
  else
    gd (ixb x5 6) (
    if (t_leastLike'_3 x5.toNatClampNeg) = c4 then
      Lexicon_makeAlike_L66 c4 c3 k0 (x5 + (1 : Int32)) (upd t_leastLike'_3 x5.toNatClampNeg c3)
    else
      Lexicon_makeAlike_L66 c4 c3 k0 (x5 + (1 : Int32)) t_leastLike'_3)
def F_Lexicon_makeAlike (N : Nat) (p1 : Int32) (p2 : Int32) (t_leastLike : Nat → Int32) : Option (Int32 × (Nat → Int32)) :=
  if (F_S_within p1 (0 : Int32) (5 : Int32)) = (0 : Int32) then
    some ((-2 : Int32), t_leastLike)
  else
    if (F_S_within p2 (0 : Int32) (5 : Int32)) = (0 : Int32) then
      some ((-2 : Int32), t_leastLike)
    else
      gd (ixb p1 6) (
      gd (ixb p2 6) (
      if (jmin (t_leastLike p1.toNatClampNeg) (t_leastLike p2.toNatClampNeg)) = (jmax (t_leastLike p1.toNatClampNeg) (t_leastLike p2.toNatClampNeg)) then
        some ((-3 : Int32), t_leastLike)
      else
        bO (Lexicon_makeAlike_L66 (jmax (t_leastLike p1.toNatClampNeg) (t_leastLike p2.toNatClampNeg)) (jmin (t_leastLike p1.toNatClampNeg) (t_leastLike p2.toNatClampNeg)) N (0 : Int32) t_leastLike) ((fun (t_leastLike'_4 : Nat → Int32) =>
        some ((1 : Int32), t_leastLike'_4)))))
def F_S_like (N : Nat) (p1 : Int32) (p2 : Int32) (t_now_lexicon_leastLike : Nat → Int32) : Option (Int32 × (Nat → Int32)) :=
  bO (F_Lexicon_makeAlike N p1 p2 t_now_lexicon_leastLike) (u2 (fun (r9 : Int32) (t_now_lexicon_leastLike'_2 : Nat → Int32) =>
  some (r9, t_now_lexicon_leastLike'_2)))
def Lexicon_addWord_L33 (p1 : Int32) : Nat → Int32 → Int32 → Option (Int32)
  | 0, _, _ => none
  | k0 + 1, x4, x5 =>
  if p1 ≤ x5 then
    some x4
  else
    Lexicon_addWord_L33 p1 k0 (x4 / (6 : Int32)) (x5 + (1 : Int32))
def Lexicon_addWord_L110 (t_words : Int32) : Nat → Int32 → Int32 → (Nat → Int32) → Option ((Nat → Int32))
  | 0, _, _, _ => none
  | k0 + 1, x4_3, x5_2, t_lipsOf'_3 =>
  if x5_2 < (0 : Int32) then
    some t_lipsOf'_3
  else
    gd (ixb ((t_words * (6 : Int32)) + x5_2) 60) (
    Lexicon_addWord_L110 t_words k0 (x4_3 / (6 : Int32)) (x5_2 + (-1 : Int32)) (upd t_lipsOf'_3 ((t_words * (6 : Int32)) + x5_2).toNatClampNeg (jrem x4_3 (6 : Int32))))
def F_Lexicon_addWord (N : Nat) (p1 : Int32) (p2 : Int32) (p3 : Int32) (t_words : Int32) (t_length : Nat → Int32) (t_number : Nat → Int32) (t_weight : Nat → Int32) (t_lipsOf : Nat → Int32) : Option (Int32 × Int32 × (Nat → Int32) × (Nat → Int32) × (Nat → Int32) × (Nat → Int32)) :=
  if (F_S_within p1 (1 : Int32) (6 : Int32)) = (0 : Int32) then
    some ((-2 : Int32), t_words, t_length, t_number, t_weight, t_lipsOf)
  else
    if (F_S_within p3 (1 : Int32) (9 : Int32)) = (0 : Int32) then
      some ((-2 : Int32), t_words, t_length, t_number, t_weight, t_lipsOf)
    else
      if (0 : Int32) ≤ p2 then
        bO (Lexicon_addWord_L33 p1 N p2 (0 : Int32)) ((fun (x4_2 : Int32) =>
        if x4_2 = (0 : Int32) then
          if t_words < (10 : Int32) then
            gd (ixb t_words 10) (
            bO (Lexicon_addWord_L110 t_words N p2 (p1 - (1 : Int32)) t_lipsOf) ((fun (t_lipsOf'_4 : Nat → Int32) =>
            some (((t_words + (1 : Int32)) - (1 : Int32)), (t_words + (1 : Int32)), (upd t_length t_words.toNatClampNeg p1), (upd t_number t_words.toNatClampNeg p2), (upd t_weight t_words.toNatClampNeg p3), t_lipsOf'_4))))
          else
            some ((-4 : Int32), t_words, t_length, t_number, t_weight, t_lipsOf)
        else
          some ((-2 : Int32), t_words, t_length, t_number, t_weight, t_lipsOf)))
      else
        some ((-2 : Int32), t_words, t_length, t_number, t_weight, t_lipsOf)
def F_S_word (N : Nat) (p1 : Int32) (p2 : Int32) (p3 : Int32) (t_now_lexicon_words : Int32) (t_now_lexicon_length : Nat → Int32) (t_now_lexicon_number : Nat → Int32) (t_now_lexicon_weight : Nat → Int32) (t_now_lexicon_lipsOf : Nat → Int32) : Option (Int32 × Int32 × (Nat → Int32) × (Nat → Int32) × (Nat → Int32) × (Nat → Int32)) :=
  bO (F_Lexicon_addWord N p1 p2 p3 t_now_lexicon_words t_now_lexicon_length t_now_lexicon_number t_now_lexicon_weight t_now_lexicon_lipsOf) (u6 (fun (r10 : Int32) (t_now_lexicon_words'_2 : Int32) (t_now_lexicon_length'_2 : Nat → Int32) (t_now_lexicon_number'_2 : Nat → Int32) (t_now_lexicon_weight'_2 : Nat → Int32) (t_now_lexicon_lipsOf'_2 : Nat → Int32) =>
  some (r10, t_now_lexicon_words'_2, t_now_lexicon_length'_2, t_now_lexicon_number'_2, t_now_lexicon_weight'_2, t_now_lexicon_lipsOf'_2)))
def F_Lexicon_isWord (p1 : Int32) (t_words : Int32) : Int32 :=
  (vp_nar .boolean (F_S_within p1 (0 : Int32) (t_words - (1 : Int32))))
def F_Lexicon_lookAlike (p1 : Int32) (p2 : Int32) (t_leastLike : Nat → Int32) : Option (Int32) :=
  gd (ixb p1 6) (
  gd (ixb p2 6) (
  if (t_leastLike p1.toNatClampNeg) = (t_leastLike p2.toNatClampNeg) then
    some (1 : Int32)
  else
    some (0 : Int32)))
def Lexicon_unlikeLips_L5 (p1 : Int32) (t_length : Nat → Int32) (p2 : Int32) (t_lipsOf : Nat → Int32) (t_leastLike : Nat → Int32) : Nat → Int32 → Int32 → Option (Int32)
  | 0, _, _ => none
  | k0 + 1, x3, x4 =>
  gd (ixb p1 10) (
  if (t_length p1.toNatClampNeg) ≤ x4 then
    some x3
  else
    gd (ixb ((p1 * (6 : Int32)) + x4) 60) (
    gd (ixb ((p2 * (6 : Int32)) + x4) 60) (
    bO (F_Lexicon_lookAlike (t_lipsOf ((p1 * (6 : Int32)) + x4).toNatClampNeg) (t_lipsOf ((p2 * (6 : Int32)) + x4).toNatClampNeg) t_leastLike) ((fun (r41 : Int32) =>
    if r41 = (0 : Int32) then
      Lexicon_unlikeLips_L5 p1 t_length p2 t_lipsOf t_leastLike k0 (x3 + (1 : Int32)) (x4 + (1 : Int32))
    else
      Lexicon_unlikeLips_L5 p1 t_length p2 t_lipsOf t_leastLike k0 x3 (x4 + (1 : Int32)))))))
def F_Lexicon_unlikeLips (N : Nat) (p1 : Int32) (p2 : Int32) (t_length : Nat → Int32) (t_leastLike : Nat → Int32) (t_lipsOf : Nat → Int32) : Option (Int32) :=
  bO (Lexicon_unlikeLips_L5 p1 t_length p2 t_lipsOf t_leastLike N (0 : Int32) (0 : Int32)) ((fun (x3_2 : Int32) =>
  some x3_2))
def F_Lexicon_areAlike (N : Nat) (p1 : Int32) (p2 : Int32) (t_length : Nat → Int32) (t_leastLike : Nat → Int32) (t_lipsOf : Nat → Int32) : Option (Int32) :=
  gd (ixb p1 10) (
  gd (ixb p2 10) (
  if (t_length p1.toNatClampNeg) = (t_length p2.toNatClampNeg) then
    bO (F_Lexicon_unlikeLips N p1 p2 t_length t_leastLike t_lipsOf) ((fun (r18 : Int32) =>
    if r18 = (0 : Int32) then
      some (1 : Int32)
    else
      some (0 : Int32)))
  else
    some (0 : Int32)))
def F_S_alike (N : Nat) (p1 : Int32) (p2 : Int32) (t_now_lexicon_words : Int32) (t_now_lexicon_length : Nat → Int32) (t_now_lexicon_leastLike : Nat → Int32) (t_now_lexicon_lipsOf : Nat → Int32) : Option (Int32) :=
  if (F_Lexicon_isWord p1 t_now_lexicon_words) = (0 : Int32) then
    some (-2 : Int32)
  else
    if (F_Lexicon_isWord p2 t_now_lexicon_words) = (0 : Int32) then
      some (-2 : Int32)
    else
      bO (F_Lexicon_areAlike N p1 p2 t_now_lexicon_length t_now_lexicon_leastLike t_now_lexicon_lipsOf) ((fun (r40 : Int32) =>
      some (F_S_oneIf r40)))
def F_Lexicon_addLip (p1 : Int32) (t_rowLips : Int32) (t_row : Nat → Int32) : Option (Int32 × Int32 × (Nat → Int32)) :=
  if (F_S_within p1 (0 : Int32) (5 : Int32)) = (0 : Int32) then
    some ((-2 : Int32), t_rowLips, t_row)
  else
    if t_rowLips < (24 : Int32) then
      gd (ixb t_rowLips 24) (
      some ((t_rowLips + (1 : Int32)), (t_rowLips + (1 : Int32)), (upd t_row t_rowLips.toNatClampNeg p1)))
    else
      some ((-4 : Int32), t_rowLips, t_row)
def F_S_lip (p1 : Int32) (t_now_lexicon_rowLips : Int32) (t_now_lexicon_row : Nat → Int32) : Option (Int32 × Int32 × (Nat → Int32)) :=
  bO (F_Lexicon_addLip p1 t_now_lexicon_rowLips t_now_lexicon_row) (u3 (fun (r8 : Int32) (t_now_lexicon_rowLips'_2 : Int32) (t_now_lexicon_row'_2 : Nat → Int32) =>
  some (r8, t_now_lexicon_rowLips'_2, t_now_lexicon_row'_2)))
def F_S_hush (t_now_lexicon_rowLips : Int32) : Option (Int32 × Int32) :=
  some (t_now_lexicon_rowLips, (0 : Int32))
def Lexicon_fitsRow_L19 (t_length : Nat → Int32) (p1 : Int32) (p2 : Int32) (t_lipsOf : Nat → Int32) (t_row : Nat → Int32) (t_leastLike : Nat → Int32) : Nat → Int32 → Option ((Int32) ⊕ Unit)
  | 0, _ => none
  | k0 + 1, x3 =>
  if (t_length p1.toNatClampNeg) ≤ x3 then
    some (.inr ())
  else
    gd (ixb ((p1 * (6 : Int32)) + x3) 60) (
    gd (ixb (p2 + x3) 24) (
    bO (F_Lexicon_lookAlike (t_lipsOf ((p1 * (6 : Int32)) + x3).toNatClampNeg) (t_row (p2 + x3).toNatClampNeg) t_leastLike) ((fun (r49 : Int32) =>
    if r49 = (0 : Int32) then
      some (.inl (0 : Int32))
    else
      Lexicon_fitsRow_L19 t_length p1 p2 t_lipsOf t_row t_leastLike k0 (x3 + (1 : Int32))))))
def F_Lexicon_fitsRow (N : Nat) (p1 : Int32) (p2 : Int32) (t_rowLips : Int32) (t_length : Nat → Int32) (t_leastLike : Nat → Int32) (t_row : Nat → Int32) (t_lipsOf : Nat → Int32) : Option (Int32) :=
  gd (ixb p1 10) (
  if (p2 + (t_length p1.toNatClampNeg)) ≤ t_rowLips then
    bT (Lexicon_fitsRow_L19 t_length p1 p2 t_lipsOf t_row t_leastLike N (0 : Int32)) (u0 (
    some (1 : Int32)))
  else
    some (0 : Int32))
def F_Readings_begin (p1 : Int32) (p2 : Int32) (p3 : Int32) (p4 : Int32) (t_ways : Nat → Int32) (t_fewest : Nat → Int32) (t_weights : Nat → Int32) (t_first : Nat → Int32) : Option ((Nat → Int32) × (Nat → Int32) × (Nat → Int32) × (Nat → Int32)) :=
  gd (ixb p1 25) (
  gd (ixb p3 25) (
  if (t_fewest p3.toNatClampNeg) = (-1 : Int32) then
    some ((upd t_ways p1.toNatClampNeg (jrem ((t_ways p1.toNatClampNeg) + (t_ways p3.toNatClampNeg)) (1000000007 : Int32))), t_fewest, t_weights, t_first)
  else
    bT (
      if (t_fewest p1.toNatClampNeg) = (-1 : Int32) then
        some (.inr ())
      else
        if ((t_fewest p3.toNatClampNeg) + (1 : Int32)) < (t_fewest p1.toNatClampNeg) then
          some (.inr ())
        else
          if ((t_fewest p3.toNatClampNeg) + (1 : Int32)) = (t_fewest p1.toNatClampNeg) then
            if ((t_weights p3.toNatClampNeg) + p4) ≤ (t_weights p1.toNatClampNeg) then
              some (.inl ((upd t_ways p1.toNatClampNeg (jrem ((t_ways p1.toNatClampNeg) + (t_ways p3.toNatClampNeg)) (1000000007 : Int32))), t_fewest, t_weights, t_first))
            else
              some (.inr ())
          else
            some (.inl ((upd t_ways p1.toNatClampNeg (jrem ((t_ways p1.toNatClampNeg) + (t_ways p3.toNatClampNeg)) (1000000007 : Int32))), t_fewest, t_weights, t_first))) (u0 (
    some ((upd t_ways p1.toNatClampNeg (jrem ((t_ways p1.toNatClampNeg) + (t_ways p3.toNatClampNeg)) (1000000007 : Int32))), (upd t_fewest p1.toNatClampNeg ((t_fewest p3.toNatClampNeg) + (1 : Int32))), (upd t_weights p1.toNatClampNeg ((t_weights p3.toNatClampNeg) + p4)), (upd t_first p1.toNatClampNeg p2))))))
def Readings_reckon_L72 (N : Nat) (p1_words : Int32) (x3 : Int32) (p1_rowLips : Int32) (p1_length : Nat → Int32) (p1_leastLike : Nat → Int32) (p1_row : Nat → Int32) (p1_lipsOf : Nat → Int32) (p1_weight : Nat → Int32) : Nat → Int32 → (Nat → Int32) → (Nat → Int32) → (Nat → Int32) → (Nat → Int32) → Option ((Nat → Int32) × (Nat → Int32) × (Nat → Int32) × (Nat → Int32))
  | 0, _, _, _, _, _ => none
  | k0 + 1, x4, t_ways'_7, t_fewest'_7, t_weights'_7, t_first'_7 =>
  if p1_words ≤ x4 then
    some (t_ways'_7, t_fewest'_7, t_weights'_7, t_first'_7)
  else
    bO (F_Lexicon_fitsRow N x4 x3 p1_rowLips p1_length p1_leastLike p1_row p1_lipsOf) ((fun (r85 : Int32) =>
    if r85 = (0 : Int32) then
      Readings_reckon_L72 N p1_words x3 p1_rowLips p1_length p1_leastLike p1_row p1_lipsOf p1_weight k0 (x4 + (1 : Int32)) t_ways'_7 t_fewest'_7 t_weights'_7 t_first'_7
    else
      gd (ixb x4 10) (
      bO (F_Readings_begin x3 x4 (x3 + (p1_length x4.toNatClampNeg)) (p1_weight x4.toNatClampNeg) t_ways'_7 t_fewest'_7 t_weights'_7 t_first'_7) (u4 (fun (t_ways'_8 : Nat → Int32) (t_fewest'_8 : Nat → Int32) (t_weights'_8 : Nat → Int32) (t_first'_8 : Nat → Int32) =>
      Readings_reckon_L72 N p1_words x3 p1_rowLips p1_length p1_leastLike p1_row p1_lipsOf p1_weight k0 (x4 + (1 : Int32)) t_ways'_8 t_fewest'_8 t_weights'_8 t_first'_8)))))
def Readings_reckon_L37 (N : Nat) (p1_words : Int32) (p1_rowLips : Int32) (p1_length : Nat → Int32) (p1_leastLike : Nat → Int32) (p1_row : Nat → Int32) (p1_lipsOf : Nat → Int32) (p1_weight : Nat → Int32) : Nat → Int32 → (Nat → Int32) → (Nat → Int32) → (Nat → Int32) → (Nat → Int32) → Option ((Nat → Int32) × (Nat → Int32) × (Nat → Int32) × (Nat → Int32))
  | 0, _, _, _, _, _ => none
  | k0 + 1, x3, t_ways'_6, t_fewest'_6, t_weights'_6, t_first'_6 =>
  if x3 < (0 : Int32) then
    some (t_ways'_6, t_fewest'_6, t_weights'_6, t_first'_6)
  else
    gd (ixb x3 25) (
    bO (Readings_reckon_L72 N p1_words x3 p1_rowLips p1_length p1_leastLike p1_row p1_lipsOf p1_weight N (0 : Int32) (upd t_ways'_6 x3.toNatClampNeg (0 : Int32)) (upd t_fewest'_6 x3.toNatClampNeg (-1 : Int32)) (upd t_weights'_6 x3.toNatClampNeg (0 : Int32)) (upd t_first'_6 x3.toNatClampNeg (-1 : Int32))) (u4 (fun (t_ways'_9 : Nat → Int32) (t_fewest'_9 : Nat → Int32) (t_weights'_9 : Nat → Int32) (t_first'_9 : Nat → Int32) =>
    Readings_reckon_L37 N p1_words p1_rowLips p1_length p1_leastLike p1_row p1_lipsOf p1_weight k0 (x3 + (-1 : Int32)) t_ways'_9 t_fewest'_9 t_weights'_9 t_first'_9)))
def F_Readings_reckon (N : Nat) (t_ways : Nat → Int32) (t_fewest : Nat → Int32) (t_weights : Nat → Int32) (t_first : Nat → Int32) (p1_words : Int32) (p1_rowLips : Int32) (p1_length : Nat → Int32) (p1_weight : Nat → Int32) (p1_leastLike : Nat → Int32) (p1_row : Nat → Int32) (p1_lipsOf : Nat → Int32) : Option ((Nat → Int32) × (Nat → Int32) × (Nat → Int32) × (Nat → Int32)) :=
  gd (ixb p1_rowLips 25) (
  bO (Readings_reckon_L37 N p1_words p1_rowLips p1_length p1_leastLike p1_row p1_lipsOf p1_weight N (p1_rowLips - (1 : Int32)) (upd t_ways p1_rowLips.toNatClampNeg (1 : Int32)) (upd t_fewest p1_rowLips.toNatClampNeg (0 : Int32)) (upd t_weights p1_rowLips.toNatClampNeg (0 : Int32)) (upd t_first p1_rowLips.toNatClampNeg (-1 : Int32))) (u4 (fun (t_ways'_10 : Nat → Int32) (t_fewest'_10 : Nat → Int32) (t_weights'_10 : Nat → Int32) (t_first'_10 : Nat → Int32) =>
  some (t_ways'_10, t_fewest'_10, t_weights'_10, t_first'_10))))
def F_Readings_number (t_ways : Nat → Int32) : Int32 :=
  (t_ways 0)
def F_Readings_fewestWords (t_fewest : Nat → Int32) : Int32 :=
  (t_fewest 0)
def Readings_wordInPlace_L5 (p2 : Int32) (t_first : Nat → Int32) (p1_length : Nat → Int32) : Nat → Int32 → Int32 → Option (Int32)
  | 0, _, _ => none
  | k0 + 1, x3, x4 =>
  if p2 ≤ x4 then
    some x3
  else
    gd (ixb x3 25) (
    if (t_first x3.toNatClampNeg) = (-1 : Int32) then
      some x3
    else
      gd (ixb (t_first x3.toNatClampNeg) 10) (
      Readings_wordInPlace_L5 p2 t_first p1_length k0 (x3 + (p1_length (t_first x3.toNatClampNeg).toNatClampNeg)) (x4 + (1 : Int32))))
def F_Readings_wordInPlace (N : Nat) (p2 : Int32) (t_first : Nat → Int32) (p1_length : Nat → Int32) : Option (Int32) :=
  bO (Readings_wordInPlace_L5 p2 t_first p1_length N (0 : Int32) (0 : Int32)) ((fun (x3_2 : Int32) =>
  gd (ixb x3_2 25) (
  some (t_first x3_2.toNatClampNeg))))
def F_S_reads (N : Nat) (p1 : Int32) (t_now_lexicon_words : Int32) (t_now_lexicon_rowLips : Int32) (t_now_lexicon_length : Nat → Int32) (t_now_lexicon_weight : Nat → Int32) (t_now_lexicon_leastLike : Nat → Int32) (t_now_lexicon_row : Nat → Int32) (t_now_lexicon_lipsOf : Nat → Int32) (t_readings_ways : Nat → Int32) (t_readings_fewest : Nat → Int32) (t_readings_weights : Nat → Int32) (t_readings_first : Nat → Int32) : Option (Int32 × (Nat → Int32) × (Nat → Int32) × (Nat → Int32) × (Nat → Int32)) :=
  if (F_S_within p1 (-1 : Int32) (24 : Int32)) = (0 : Int32) then
    some ((-10 : Int32), t_readings_ways, t_readings_fewest, t_readings_weights, t_readings_first)
  else
    bO (F_Readings_reckon N t_readings_ways t_readings_fewest t_readings_weights t_readings_first t_now_lexicon_words t_now_lexicon_rowLips t_now_lexicon_length t_now_lexicon_weight t_now_lexicon_leastLike t_now_lexicon_row t_now_lexicon_lipsOf) (u4 (fun (t_readings_ways'_2 : Nat → Int32) (t_readings_fewest'_2 : Nat → Int32) (t_readings_weights'_2 : Nat → Int32) (t_readings_first'_2 : Nat → Int32) =>
    if p1 = (-1 : Int32) then
      some ((F_Readings_number t_readings_ways'_2), t_readings_ways'_2, t_readings_fewest'_2, t_readings_weights'_2, t_readings_first'_2)
    else
      bO (
        if p1 = (24 : Int32) then
          some (F_Readings_fewestWords t_readings_fewest'_2)
        else
          bO (F_Readings_wordInPlace N p1 t_readings_first'_2 t_now_lexicon_length) ((fun (r68 : Int32) =>
          some r68))) ((fun (y0 : Int32) =>
      if y0 = (-1 : Int32) then
        some ((-5 : Int32), t_readings_ways'_2, t_readings_fewest'_2, t_readings_weights'_2, t_readings_first'_2)
      else
        some (y0, t_readings_ways'_2, t_readings_fewest'_2, t_readings_weights'_2, t_readings_first'_2)))))
def F_Lexicon_allWords (t_words : Int32) : Int32 :=
  ((jshl (1 : Int32) t_words) - (1 : Int32))
def F_Lexicon_areWords (p1 : Int32) (t_words : Int32) : Int32 :=
  (vp_nar .boolean (F_S_within p1 (0 : Int32) (F_Lexicon_allWords t_words)))
def Lexicon_findLaterAlike_L21 (N : Nat) (t_words : Int32) (x1 : Int32) (t_length : Nat → Int32) (t_leastLike : Nat → Int32) (t_lipsOf : Nat → Int32) : Nat → Int32 → (Nat → Int32) → Option ((Nat → Int32))
  | 0, _, _ => none
  | k0 + 1, x2, t_others'_6 =>
  if t_words ≤ x2 then
    some t_others'_6
  else
    bO (F_Lexicon_areAlike N x1 x2 t_length t_leastLike t_lipsOf) ((fun (r32 : Int32) =>
    if r32 = (0 : Int32) then
      Lexicon_findLaterAlike_L21 N t_words x1 t_length t_leastLike t_lipsOf k0 (x2 + (1 : Int32)) t_others'_6
    else
      Lexicon_findLaterAlike_L21 N t_words x1 t_length t_leastLike t_lipsOf k0 (x2 + (1 : Int32)) (upd t_others'_6 x1.toNatClampNeg ((t_others'_6 x1.toNatClampNeg) ||| (jshl (1 : Int32) x2)))))
def Lexicon_findLaterAlike_L2 (N : Nat) (t_words : Int32) (t_length : Nat → Int32) (t_leastLike : Nat → Int32) (t_lipsOf : Nat → Int32) : Nat → Int32 → (Nat → Int32) → Option ((Nat → Int32))
  | 0, _, _ => none
  | k0 + 1, x1, t_others'_5 =>
  if t_words ≤ x1 then
    some t_others'_5
  else
    gd (ixb x1 10) (
    bO (Lexicon_findLaterAlike_L21 N t_words x1 t_length t_leastLike t_lipsOf N (x1 + (1 : Int32)) (upd t_others'_5 x1.toNatClampNeg (0 : Int32))) ((fun (t_others'_7 : Nat → Int32) =>
    Lexicon_findLaterAlike_L2 N t_words t_length t_leastLike t_lipsOf k0 (x1 + (1 : Int32)) t_others'_7)))
def F_Lexicon_findLaterAlike (N : Nat) (t_words : Int32) (t_length : Nat → Int32) (t_leastLike : Nat → Int32) (t_lipsOf : Nat → Int32) (t_others : Nat → Int32) : Option ((Nat → Int32)) :=
  bO (Lexicon_findLaterAlike_L2 N t_words t_length t_leastLike t_lipsOf N (0 : Int32) t_others) ((fun (t_others'_8 : Nat → Int32) =>
  some t_others'_8))
def Lexicon_weightOf_L4 (t_words : Int32) (p1 : Int32) (t_weight : Nat → Int32) : Nat → Int32 → Int32 → Option (Int32)
  | 0, _, _ => none
  | k0 + 1, x2, x3 =>
  if t_words ≤ x3 then
    some x2
  else
    if (F_S_hasBit p1 x3) = (0 : Int32) then
      Lexicon_weightOf_L4 t_words p1 t_weight k0 x2 (x3 + (1 : Int32))
    else
      gd (ixb x3 10) (
      Lexicon_weightOf_L4 t_words p1 t_weight k0 (x2 + (t_weight x3.toNatClampNeg)) (x3 + (1 : Int32)))
def F_Lexicon_weightOf (N : Nat) (p1 : Int32) (t_words : Int32) (t_weight : Nat → Int32) : Option (Int32) :=
  bO (Lexicon_weightOf_L4 t_words p1 t_weight N (0 : Int32) (0 : Int32)) ((fun (x2_2 : Int32) =>
  some x2_2))
def Lexicon_mistakenBy_L4 (N : Nat) (t_words : Int32) (p1 : Int32) (t_others : Nat → Int32) (t_weight : Nat → Int32) : Nat → Int32 → Int32 → Option (Int32)
  | 0, _, _ => none
  | k0 + 1, x2, x3 =>
  if t_words ≤ x3 then
    some x2
  else
    if (F_S_hasBit p1 x3) = (0 : Int32) then
      gd (ixb x3 10) (
      bO (F_Lexicon_weightOf N ((t_others x3.toNatClampNeg) &&& (p1 ^^^ (-1 : Int32))) t_words t_weight) ((fun (r38 : Int32) =>
      Lexicon_mistakenBy_L4 N t_words p1 t_others t_weight k0 (x2 + ((t_weight x3.toNatClampNeg) * r38)) (x3 + (1 : Int32)))))
    else
      Lexicon_mistakenBy_L4 N t_words p1 t_others t_weight k0 x2 (x3 + (1 : Int32))
def F_Lexicon_mistakenBy (N : Nat) (p1 : Int32) (t_words : Int32) (t_weight : Nat → Int32) (t_others : Nat → Int32) : Option (Int32) :=
  bO (Lexicon_mistakenBy_L4 N t_words p1 t_others t_weight N (0 : Int32) (0 : Int32)) ((fun (x2_2 : Int32) =>
  some x2_2))
def F_Lexicon_mistakenWith (N : Nat) (p1 : Int32) (t_words : Int32) (t_length : Nat → Int32) (t_weight : Nat → Int32) (t_leastLike : Nat → Int32) (t_lipsOf : Nat → Int32) (t_others : Nat → Int32) : Option (Int32 × (Nat → Int32)) :=
  bO (F_Lexicon_findLaterAlike N t_words t_length t_leastLike t_lipsOf t_others) ((fun (t_others'_2 : Nat → Int32) =>
  bO (F_Lexicon_mistakenBy N p1 t_words t_weight t_others'_2) ((fun (r6 : Int32) =>
  some (r6, t_others'_2)))))
def F_S_mistaken (N : Nat) (p1 : Int32) (t_now_lexicon_words : Int32) (t_now_lexicon_length : Nat → Int32) (t_now_lexicon_weight : Nat → Int32) (t_now_lexicon_leastLike : Nat → Int32) (t_now_lexicon_lipsOf : Nat → Int32) (t_now_lexicon_others : Nat → Int32) : Option (Int32 × (Nat → Int32)) :=
  if (F_Lexicon_areWords p1 t_now_lexicon_words) = (0 : Int32) then
    some ((-2 : Int32), t_now_lexicon_others)
  else
    bO (F_Lexicon_mistakenWith N p1 t_now_lexicon_words t_now_lexicon_length t_now_lexicon_weight t_now_lexicon_leastLike t_now_lexicon_lipsOf t_now_lexicon_others) (u2 (fun (r25 : Int32) (t_now_lexicon_others'_2 : Nat → Int32) =>
    some (r25, t_now_lexicon_others'_2)))
def Lexicon_bestSigns_L11 (N : Nat) (t_words : Int32) (p1 : Int32) (t_weight : Nat → Int32) (t_others'_2 : Nat → Int32) : Nat → Int32 → Int32 → Int32 → Option (Int32)
  | 0, _, _, _ => none
  | k0 + 1, x2, x3, x4 =>
  if (F_Lexicon_allWords t_words) < x4 then
    some x2
  else
    if (F_Integer_bitCount x4) = p1 then
      bO (F_Lexicon_mistakenBy N x4 t_words t_weight t_others'_2) ((fun (r35 : Int32) =>
      if x2 = (-1 : Int32) then
        Lexicon_bestSigns_L11 N t_words p1 t_weight t_others'_2 k0 x4 r35 (x4 + (1 : Int32))
      else
        if x3 ≤ r35 then
          Lexicon_bestSigns_L11 N t_words p1 t_weight t_others'_2 k0 x2 x3 (x4 + (1 : Int32))
        else
          Lexicon_bestSigns_L11 N t_words p1 t_weight t_others'_2 k0 x4 r35 (x4 + (1 : Int32))))
    else
      Lexicon_bestSigns_L11 N t_words p1 t_weight t_others'_2 k0 x2 x3 (x4 + (1 : Int32))
def F_Lexicon_bestSigns (N : Nat) (p1 : Int32) (t_words : Int32) (t_length : Nat → Int32) (t_weight : Nat → Int32) (t_leastLike : Nat → Int32) (t_lipsOf : Nat → Int32) (t_others : Nat → Int32) : Option (Int32 × (Nat → Int32)) :=
  bO (F_Lexicon_findLaterAlike N t_words t_length t_leastLike t_lipsOf t_others) ((fun (t_others'_2 : Nat → Int32) =>
  bO (Lexicon_bestSigns_L11 N t_words p1 t_weight t_others'_2 N (-1 : Int32) (0 : Int32) (0 : Int32)) ((fun (x2_2 : Int32) =>
  some (x2_2, t_others'_2)))))
def F_S_signs (N : Nat) (p1 : Int32) (t_now_lexicon_words : Int32) (t_now_lexicon_length : Nat → Int32) (t_now_lexicon_weight : Nat → Int32) (t_now_lexicon_leastLike : Nat → Int32) (t_now_lexicon_lipsOf : Nat → Int32) (t_now_lexicon_others : Nat → Int32) : Option (Int32 × (Nat → Int32)) :=
  if (F_S_within p1 (0 : Int32) t_now_lexicon_words) = (0 : Int32) then
    some ((-2 : Int32), t_now_lexicon_others)
  else
    bO (F_Lexicon_bestSigns N p1 t_now_lexicon_words t_now_lexicon_length t_now_lexicon_weight t_now_lexicon_leastLike t_now_lexicon_lipsOf t_now_lexicon_others) (u2 (fun (r29 : Int32) (t_now_lexicon_others'_2 : Nat → Int32) =>
    some (r29, t_now_lexicon_others'_2)))
def F_S_plain (p1 : Int32) (t_now_clearness : Int32) : Option (Int32 × Int32) :=
  if (F_S_within p1 (1 : Int32) (99 : Int32)) = (0 : Int32) then
    some ((-2 : Int32), t_now_clearness)
  else
    some (t_now_clearness, p1)
def S_commonDivisor_L7  : Nat → Int32 → Int32 → Int32 → Option (Int32)
  | 0, _, _, _ => none
  | k0 + 1, x2, x3, x4 =>
  if (100 : Int32) ≤ x4 then
    some x2
  else
    if x3 ≤ (0 : Int32) then
      some x2
    else
      gd (nz x3) (
      S_commonDivisor_L7 k0 x3 (jrem x2 x3) (x4 + (1 : Int32)))
def F_S_commonDivisor (N : Nat) (p1 : Int32) (p2 : Int32) : Option (Int32) :=
  bO (S_commonDivisor_L7 N p1 p2 (0 : Int32)) ((fun (x2_2 : Int32) =>
  some x2_2))
def Chances_findParts_L24 (N : Nat) (x1 : Int32) : Nat → Int32 → (Nat → Int32) → Option ((Nat → Int32))
  | 0, _, _ => none
  | k0 + 1, x2, t_part'_6 =>
  if x1 ≤ x2 then
    some t_part'_6
  else
    gd (ixb x2 10) (
    bO (F_S_commonDivisor N (t_part'_6 x1.toNatClampNeg) (t_part'_6 x2.toNatClampNeg)) ((fun (r41 : Int32) =>
    if r41 ≤ (1 : Int32) then
      Chances_findParts_L24 N x1 k0 (x2 + (1 : Int32)) t_part'_6
    else
      gd (nz r41) (
      Chances_findParts_L24 N x1 k0 (x2 + (1 : Int32)) (upd t_part'_6 x1.toNatClampNeg ((t_part'_6 x1.toNatClampNeg) / r41))))))
def Chances_findParts_L2 (N : Nat) (t_words : Int32) (t_total : Nat → Int32) : Nat → Int32 → (Nat → Int32) → Option ((Nat → Int32))
  | 0, _, _ => none
  | k0 + 1, x1, t_part'_5 =>
  if t_words ≤ x1 then
    some t_part'_5
  else
    gd (ixb x1 10) (
    bO (Chances_findParts_L24 N x1 N (0 : Int32) (upd t_part'_5 x1.toNatClampNeg (t_total x1.toNatClampNeg))) ((fun (t_part'_7 : Nat → Int32) =>
    Chances_findParts_L2 N t_words t_total k0 (x1 + (1 : Int32)) t_part'_7)))
def F_Chances_findParts (N : Nat) (t_words : Int32) (t_total : Nat → Int32) (t_part : Nat → Int32) : Option ((Nat → Int32)) :=
  bO (Chances_findParts_L2 N t_words t_total N (0 : Int32) t_part) ((fun (t_part'_8 : Nat → Int32) =>
  some t_part'_8))
def Chances_say_L31 (N : Nat) (p1_words : Int32) (p1_length : Nat → Int32) (x4 : Int32) (p1_leastLike : Nat → Int32) (p1_lipsOf : Nat → Int32) (p1_weight : Nat → Int32) (p2 : Int32) : Nat → Int32 → (Nat → Nat → Int32) → (Nat → Int32) → Option ((Nat → Nat → Int32) × (Nat → Int32))
  | 0, _, _, _ => none
  | k0 + 1, x5, t_heardAs'_7, t_total'_7 =>
  if p1_words ≤ x5 then
    some (t_heardAs'_7, t_total'_7)
  else
    gd (ixb x5 10) (
    bO (
      if (p1_length x4.toNatClampNeg) = (p1_length x5.toNatClampNeg) then
        some (1 : Int32)
      else
        some (0 : Int32)) ((fun (y0 : Int32) =>
    bO (
      if y0 = (0 : Int32) then
        some (0 : Int32)
      else
        bO (F_Lexicon_unlikeLips N x4 x5 p1_length p1_leastLike p1_lipsOf) ((fun (r90 : Int32) =>
        some (jshr (p1_weight x5.toNatClampNeg) r90)))) ((fun (y2 : Int32) =>
    bO (
      if x5 = x4 then
        some (va_up (va_up t_heardAs'_7 x4.toNatClampNeg (upd (t_heardAs'_7 x4.toNatClampNeg) x5.toNatClampNeg y2)) x4.toNatClampNeg (upd ((va_up t_heardAs'_7 x4.toNatClampNeg (upd (t_heardAs'_7 x4.toNatClampNeg) x5.toNatClampNeg y2)) x4.toNatClampNeg) x5.toNatClampNeg p2))
      else
        some (va_up t_heardAs'_7 x4.toNatClampNeg (upd (t_heardAs'_7 x4.toNatClampNeg) x5.toNatClampNeg y2))) ((fun (t_heardAs'_8 : Nat → Nat → Int32) =>
    Chances_say_L31 N p1_words p1_length x4 p1_leastLike p1_lipsOf p1_weight p2 k0 (x5 + (1 : Int32)) t_heardAs'_8 (upd t_total'_7 x4.toNatClampNeg ((t_total'_7 x4.toNatClampNeg) + ((t_heardAs'_8 x4.toNatClampNeg) x5.toNatClampNeg))))))))))
def Chances_say_L11 (N : Nat) (p1_words : Int32) (p1_length : Nat → Int32) (p1_leastLike : Nat → Int32) (p1_lipsOf : Nat → Int32) (p1_weight : Nat → Int32) (p2 : Int32) (p3 : Int32) : Nat → Int32 → (Nat → Nat → Int32) → (Nat → Int32) → (Nat → Int32) → (Nat → Nat → Int32) → Option ((Nat → Nat → Int32) × (Nat → Int32) × (Nat → Int32) × (Nat → Nat → Int32))
  | 0, _, _, _, _, _ => none
  | k0 + 1, x4, t_heardAs'_6, t_total'_6, t_chance_limbs'_4, t_chance_limb'_4 =>
  if p1_words ≤ x4 then
    some (t_heardAs'_6, t_total'_6, t_chance_limbs'_4, t_chance_limb'_4)
  else
    gd (ixb x4 10) (
    bO (Chances_say_L31 N p1_words p1_length x4 p1_leastLike p1_lipsOf p1_weight p2 N (0 : Int32) t_heardAs'_6 (upd t_total'_6 x4.toNatClampNeg (0 : Int32))) (u2 (fun (t_heardAs'_9 : Nat → Nat → Int32) (t_total'_8 : Nat → Int32) =>
    gd (ixb p3 10) (
    bO (
      if (p1_length x4.toNatClampNeg) = (p1_length p3.toNatClampNeg) then
        some t_total'_8
      else
        some (upd t_total'_8 x4.toNatClampNeg (1 : Int32))) ((fun (t_total'_9 : Nat → Int32) =>
    bO (
      if x4 = p3 then
        some (1 : Int32)
      else
        some (0 : Int32)) ((fun (y1 : Int32) =>
    bO (F_Natural_put (F_S_oneIf y1) (t_chance_limb'_4 x4.toNatClampNeg)) (u2 (fun (t_chance_limbs'_5 : Int32) (t_chance_limb'_5 : Nat → Int32) =>
    Chances_say_L11 N p1_words p1_length p1_leastLike p1_lipsOf p1_weight p2 p3 k0 (x4 + (1 : Int32)) t_heardAs'_9 t_total'_9 (va_up t_chance_limbs'_4 x4.toNatClampNeg t_chance_limbs'_5) (va_up t_chance_limb'_4 x4.toNatClampNeg t_chance_limb'_5)))))))))))
def F_Chances_say (N : Nat) (p2 : Int32) (p3 : Int32) (t_heardAs : Nat → Nat → Int32) (t_total : Nat → Int32) (t_part : Nat → Int32) (t_chance_limb : Nat → Nat → Int32) (t_chance_limbs : Nat → Int32) (t_below_limb : Nat → Int32) (p1_words : Int32) (p1_length : Nat → Int32) (p1_weight : Nat → Int32) (p1_leastLike : Nat → Int32) (p1_lipsOf : Nat → Int32) : Option (Int32 × (Nat → Nat → Int32) × (Nat → Int32) × (Nat → Int32) × (Nat → Nat → Int32) × (Nat → Int32) × Int32 × (Nat → Int32)) :=
  bO (Chances_say_L11 N p1_words p1_length p1_leastLike p1_lipsOf p1_weight p2 p3 N (0 : Int32) t_heardAs t_total t_chance_limbs t_chance_limb) (u4 (fun (t_heardAs'_10 : Nat → Nat → Int32) (t_total'_10 : Nat → Int32) (t_chance_limbs'_6 : Nat → Int32) (t_chance_limb'_6 : Nat → Nat → Int32) =>
  bO (F_Natural_put (1 : Int32) t_below_limb) (u2 (fun (t_below_limbs'_2 : Int32) (t_below_limb'_2 : Nat → Int32) =>
  bO (F_Chances_findParts N p1_words t_total'_10 t_part) ((fun (t_part'_2 : Nat → Int32) =>
  some (p1_words, t_heardAs'_10, t_total'_10, t_part'_2, t_chance_limb'_6, t_chance_limbs'_6, t_below_limbs'_2, t_below_limb'_2)))))))
def F_Natural_copyFrom (t_limb : Nat → Int32) (p1_limbs : Int32) (p1_limb : Nat → Int32) : Option (Int32 × (Nat → Int32)) :=
  gd (cpb (0 : Int32) (0 : Int32) p1_limbs 40 40) (
  some (p1_limbs, (va_cpy p1_limb t_limb 0 0 p1_limbs.toNatClampNeg)))
def Natural_multiply_L5 (t_limbs : Int32) (p1 : Int32) : Nat → Int64 → Int32 → (Nat → Int32) → Option (Int64 × (Nat → Int32))
  | 0, _, _, _ => none
  | k0 + 1, x2, x4, t_limb'_3 =>
  if t_limbs ≤ x4 then
    some (x2, t_limb'_3)
  else
    gd (ixb x4 40) (
    Natural_multiply_L5 t_limbs p1 k0 (jshrL (x2 + ((t_limb'_3 x4.toNatClampNeg).toInt64 * p1.toInt64)) (30 : Int32)) (x4 + (1 : Int32)) (upd t_limb'_3 x4.toNatClampNeg ((x2 + ((t_limb'_3 x4.toNatClampNeg).toInt64 * p1.toInt64)) &&& (1073741823 : Int64)).toInt32))
def F_Natural_multiply (N : Nat) (p1 : Int32) (t_limbs : Int32) (t_limb : Nat → Int32) : Option (Int32 × (Nat → Int32)) :=
  bO (Natural_multiply_L5 t_limbs p1 N (0 : Int64) (0 : Int32) t_limb) (u2 (fun (x2_2 : Int64) (t_limb'_4 : Nat → Int32) =>
  if (lg_cmp x2_2 (0 : Int64)) ≤ (0 : Int32) then
    some (t_limbs, t_limb'_4)
  else
    if (40 : Int32) ≤ t_limbs then
      some (t_limbs, t_limb'_4)
    else
      gd (ixb t_limbs 40) (
      some ((t_limbs + (1 : Int32)), (upd t_limb'_4 t_limbs.toNatClampNeg x2_2.toInt32)))))
def Chances_multiplyByParts_L2 (N : Nat) (t_words : Int32) (t_part : Nat → Int32) : Nat → Int32 → (Nat → Int32) → Int32 → Option ((Nat → Int32) × Int32)
  | 0, _, _, _ => none
  | k0 + 1, x2, p1_limb'_4, p1_limbs'_4 =>
  if t_words ≤ x2 then
    some (p1_limb'_4, p1_limbs'_4)
  else
    gd (ixb x2 10) (
    if (t_part x2.toNatClampNeg) ≤ (1 : Int32) then
      Chances_multiplyByParts_L2 N t_words t_part k0 (x2 + (1 : Int32)) p1_limb'_4 p1_limbs'_4
    else
      bO (F_Natural_multiply N (t_part x2.toNatClampNeg) p1_limbs'_4 p1_limb'_4) (u2 (fun (p1_limbs'_5 : Int32) (p1_limb'_5 : Nat → Int32) =>
      Chances_multiplyByParts_L2 N t_words t_part k0 (x2 + (1 : Int32)) p1_limb'_5 p1_limbs'_5)))
def F_Chances_multiplyByParts (N : Nat) (t_words : Int32) (t_part : Nat → Int32) (p1_limbs : Int32) (p1_limb : Nat → Int32) : Option (Int32 × (Nat → Int32)) :=
  bO (Chances_multiplyByParts_L2 N t_words t_part N (0 : Int32) p1_limb p1_limbs) (u2 (fun (p1_limb'_6 : Nat → Int32) (p1_limbs'_6 : Int32) =>
  some (p1_limbs'_6, p1_limb'_6)))
def Natural_trim_L7 (t_limb : Nat → Int32) : Nat → Int32 → Int32 → Option (Int32)
  | 0, _, _ => none
  | k0 + 1, x1, t_limbs'_3 =>
  if x1 < (0 : Int32) then
    some t_limbs'_3
  else
    gd (ixb x1 40) (
    if (t_limb x1.toNatClampNeg) = (0 : Int32) then
      Natural_trim_L7 t_limb k0 (x1 + (-1 : Int32)) x1
    else
      some t_limbs'_3)
def F_Natural_trim (N : Nat) (t_limbs : Int32) (t_limb : Nat → Int32) : Option (Int32) :=
  bO (Natural_trim_L7 t_limb N (t_limbs - (1 : Int32)) t_limbs) ((fun (t_limbs'_4 : Int32) =>
  some t_limbs'_4))
def Natural_divide_L15 (p1 : Int32) : Nat → Int64 → Int32 → (Nat → Int32) → Option ((Nat → Int32))
  | 0, _, _, _ => none
  | k0 + 1, x2, x4, t_limb'_3 =>
  if x4 < (0 : Int32) then
    some t_limb'_3
  else
    gd (ixb x4 40) (
    gd (nzL p1.toInt64) (
    Natural_divide_L15 p1 k0 (jremL ((jshlL x2 (30 : Int32)) + (t_limb'_3 x4.toNatClampNeg).toInt64) p1.toInt64) (x4 + (-1 : Int32)) (upd t_limb'_3 x4.toNatClampNeg (((jshlL x2 (30 : Int32)) + (t_limb'_3 x4.toNatClampNeg).toInt64) / p1.toInt64).toInt32)))
def F_Natural_divide (N : Nat) (p1 : Int32) (t_limbs : Int32) (t_limb : Nat → Int32) : Option (Int32 × (Nat → Int32)) :=
  if (0 : Int32) < p1 then
    bO (Natural_divide_L15 p1 N (0 : Int64) (t_limbs - (1 : Int32)) t_limb) ((fun (t_limb'_4 : Nat → Int32) =>
    bO (F_Natural_trim N t_limbs t_limb'_4) ((fun (t_limbs'_2 : Int32) =>
    some (t_limbs'_2, t_limb'_4)))))
  else
    some (t_limbs, t_limb)
def Natural_addTimes_L5 (p1_limbs : Int32) (p1_limb : Nat → Int32) (p2 : Int32) : Nat → Int64 → Int32 → (Nat → Int32) → Int32 → Option ((Nat → Int32) × Int32)
  | 0, _, _, _, _ => none
  | k0 + 1, x3, x5, t_limb'_3, t_limbs'_4 =>
  if (40 : Int32) ≤ x5 then
    some (t_limb'_3, t_limbs'_4)
  else
    if x5 < p1_limbs then
      bO (
        if t_limbs'_4 ≤ x5 then
          some (0 : Int32)
        else
          gd (ixb x5 40) (
          some (t_limb'_3 x5.toNatClampNeg))) ((fun (y1 : Int32) =>
      bO (
        if p1_limbs ≤ x5 then
          some (x3 + y1.toInt64)
        else
          gd (ixb x5 40) (
          some ((x3 + y1.toInt64) + ((p1_limb x5.toNatClampNeg).toInt64 * p2.toInt64)))) ((fun (x6 : Int64) =>
      gd (ixb x5 40) (
      Natural_addTimes_L5 p1_limbs p1_limb p2 k0 (jshrL x6 (30 : Int32)) (x5 + (1 : Int32)) (upd t_limb'_3 x5.toNatClampNeg (x6 &&& (1073741823 : Int64)).toInt32) (jmax t_limbs'_4 (x5 + (1 : Int32))))))))
    else
      if (lg_cmp x3 (0 : Int64)) ≤ (0 : Int32) then
        some (t_limb'_3, t_limbs'_4)
      else
        bO (
          if t_limbs'_4 ≤ x5 then
            some (0 : Int32)
          else
            gd (ixb x5 40) (
            some (t_limb'_3 x5.toNatClampNeg))) ((fun (y1_2 : Int32) =>
        bO (
          if p1_limbs ≤ x5 then
            some (x3 + y1_2.toInt64)
          else
            gd (ixb x5 40) (
            some ((x3 + y1_2.toInt64) + ((p1_limb x5.toNatClampNeg).toInt64 * p2.toInt64)))) ((fun (x6_2 : Int64) =>
        gd (ixb x5 40) (
        Natural_addTimes_L5 p1_limbs p1_limb p2 k0 (jshrL x6_2 (30 : Int32)) (x5 + (1 : Int32)) (upd t_limb'_3 x5.toNatClampNeg (x6_2 &&& (1073741823 : Int64)).toInt32) (jmax t_limbs'_4 (x5 + (1 : Int32))))))))
def F_Natural_addTimes (N : Nat) (p2 : Int32) (t_limbs : Int32) (t_limb : Nat → Int32) (p1_limbs : Int32) (p1_limb : Nat → Int32) : Option (Int32 × (Nat → Int32)) :=
  bO (Natural_addTimes_L5 p1_limbs p1_limb p2 N (0 : Int64) (0 : Int32) t_limb t_limbs) (u2 (fun (t_limb'_4 : Nat → Int32) (t_limbs'_5 : Int32) =>
  bO (F_Natural_trim N t_limbs'_5 t_limb'_4) ((fun (t_limbs'_6 : Int32) =>
  some (t_limbs'_6, t_limb'_4)))))
def Chances_hear_L27 (N : Nat) (t_words : Int32) (t_heardAs : Nat → Nat → Int32) (p1 : Int32) (t_before_limbs'_6 : Nat → Int32) (t_before_limb'_6 : Nat → Nat → Int32) : Nat → Int32 → (Nat → Int32) → (Nat → Nat → Int32) → Option ((Nat → Int32) × (Nat → Nat → Int32))
  | 0, _, _, _ => none
  | k0 + 1, x2, t_chance_limbs'_4, t_chance_limb'_4 =>
  if t_words ≤ x2 then
    some (t_chance_limbs'_4, t_chance_limb'_4)
  else
    gd (ixb x2 10) (
    if ((t_heardAs p1.toNatClampNeg) x2.toNatClampNeg) ≤ (0 : Int32) then
      Chances_hear_L27 N t_words t_heardAs p1 t_before_limbs'_6 t_before_limb'_6 k0 (x2 + (1 : Int32)) t_chance_limbs'_4 t_chance_limb'_4
    else
      bO (F_Natural_addTimes N ((t_heardAs p1.toNatClampNeg) x2.toNatClampNeg) (t_chance_limbs'_4 x2.toNatClampNeg) (t_chance_limb'_4 x2.toNatClampNeg) (t_before_limbs'_6 p1.toNatClampNeg) (t_before_limb'_6 p1.toNatClampNeg)) (u2 (fun (t_chance_limbs'_5 : Int32) (t_chance_limb'_5 : Nat → Int32) =>
      Chances_hear_L27 N t_words t_heardAs p1 t_before_limbs'_6 t_before_limb'_6 k0 (x2 + (1 : Int32)) (va_up t_chance_limbs'_4 x2.toNatClampNeg t_chance_limbs'_5) (va_up t_chance_limb'_4 x2.toNatClampNeg t_chance_limb'_5))))
def F_Chances_hear (N : Nat) (p1 : Int32) (t_words : Int32) (t_heardAs : Nat → Nat → Int32) (t_total : Nat → Int32) (t_part : Nat → Int32) (t_chance_limb : Nat → Nat → Int32) (t_chance_limbs : Nat → Int32) (t_before_limb : Nat → Nat → Int32) (t_before_limbs : Nat → Int32) : Option ((Nat → Nat → Int32) × (Nat → Int32) × (Nat → Nat → Int32) × (Nat → Int32)) :=
  gd (ixb p1 10) (
  bO (F_Chances_multiplyByParts N t_words t_part (t_before_limbs p1.toNatClampNeg) (t_before_limb p1.toNatClampNeg)) (u2 (fun (t_before_limbs'_4 : Int32) (t_before_limb'_4 : Nat → Int32) =>
  bO (F_Natural_divide N (t_total p1.toNatClampNeg) ((va_up t_before_limbs p1.toNatClampNeg t_before_limbs'_4) p1.toNatClampNeg) ((va_up t_before_limb p1.toNatClampNeg t_before_limb'_4) p1.toNatClampNeg)) (u2 (fun (t_before_limbs'_5 : Int32) (t_before_limb'_5 : Nat → Int32) =>
  bO (Chances_hear_L27 N t_words t_heardAs p1 (va_up (va_up t_before_limbs p1.toNatClampNeg t_before_limbs'_4) p1.toNatClampNeg t_before_limbs'_5) (va_up (va_up t_before_limb p1.toNatClampNeg t_before_limb'_4) p1.toNatClampNeg t_before_limb'_5) N (0 : Int32) t_chance_limbs t_chance_limb) (u2 (fun (t_chance_limbs'_6 : Nat → Int32) (t_chance_limb'_6 : Nat → Nat → Int32) =>
  some (t_chance_limb'_6, t_chance_limbs'_6, (va_up (va_up t_before_limb p1.toNatClampNeg t_before_limb'_4) p1.toNatClampNeg t_before_limb'_5), (va_up (va_up t_before_limbs p1.toNatClampNeg t_before_limbs'_4) p1.toNatClampNeg t_before_limbs'_5)))))))))
def Chances_passOn_L2 (t_words : Int32) : Nat → Int32 → (Nat → Int32) → (Nat → Nat → Int32) → (Nat → Int32) → (Nat → Nat → Int32) → Option ((Nat → Int32) × (Nat → Nat → Int32) × (Nat → Int32) × (Nat → Nat → Int32))
  | 0, _, _, _, _, _ => none
  | k0 + 1, x1, t_chance_limbs'_7, t_chance_limb'_7, t_before_limbs'_7, t_before_limb'_7 =>
  if t_words ≤ x1 then
    some (t_chance_limbs'_7, t_chance_limb'_7, t_before_limbs'_7, t_before_limb'_7)
  else
    gd (ixb x1 10) (
    bO (F_Natural_copyFrom (t_before_limb'_7 x1.toNatClampNeg) (t_chance_limbs'_7 x1.toNatClampNeg) (t_chance_limb'_7 x1.toNatClampNeg)) (u2 (fun (t_before_limbs'_8 : Int32) (t_before_limb'_8 : Nat → Int32) =>
    bO (F_Natural_put (0 : Int32) (t_chance_limb'_7 x1.toNatClampNeg)) (u2 (fun (t_chance_limbs'_8 : Int32) (t_chance_limb'_8 : Nat → Int32) =>
    Chances_passOn_L2 t_words k0 (x1 + (1 : Int32)) (va_up t_chance_limbs'_7 x1.toNatClampNeg t_chance_limbs'_8) (va_up t_chance_limb'_7 x1.toNatClampNeg t_chance_limb'_8) (va_up t_before_limbs'_7 x1.toNatClampNeg t_before_limbs'_8) (va_up t_before_limb'_7 x1.toNatClampNeg t_before_limb'_8))))))
def Chances_passOn_L43 (N : Nat) (t_words : Int32) (t_heardAs : Nat → Nat → Int32) (t_total : Nat → Int32) (t_part : Nat → Int32) : Nat → Int32 → (Nat → Int32) → (Nat → Nat → Int32) → (Nat → Int32) → (Nat → Nat → Int32) → Option ((Nat → Int32) × (Nat → Nat → Int32) × (Nat → Int32) × (Nat → Nat → Int32))
  | 0, _, _, _, _, _ => none
  | k0 + 1, x1_2, t_chance_limbs'_10, t_chance_limb'_10, t_before_limbs'_10, t_before_limb'_10 =>
  if t_words ≤ x1_2 then
    some (t_chance_limbs'_10, t_chance_limb'_10, t_before_limbs'_10, t_before_limb'_10)
  else
    gd (ixb x1_2 10) (
    if (t_before_limbs'_10 x1_2.toNatClampNeg) ≤ (0 : Int32) then
      Chances_passOn_L43 N t_words t_heardAs t_total t_part k0 (x1_2 + (1 : Int32)) t_chance_limbs'_10 t_chance_limb'_10 t_before_limbs'_10 t_before_limb'_10
    else
      bO (F_Chances_hear N x1_2 t_words t_heardAs t_total t_part t_chance_limb'_10 t_chance_limbs'_10 t_before_limb'_10 t_before_limbs'_10) (u4 (fun (t_chance_limb'_11 : Nat → Nat → Int32) (t_chance_limbs'_11 : Nat → Int32) (t_before_limb'_11 : Nat → Nat → Int32) (t_before_limbs'_11 : Nat → Int32) =>
      Chances_passOn_L43 N t_words t_heardAs t_total t_part k0 (x1_2 + (1 : Int32)) t_chance_limbs'_11 t_chance_limb'_11 t_before_limbs'_11 t_before_limb'_11)))
def F_Chances_passOn (N : Nat) (t_words : Int32) (t_heardAs : Nat → Nat → Int32) (t_total : Nat → Int32) (t_part : Nat → Int32) (t_chance_limb : Nat → Nat → Int32) (t_chance_limbs : Nat → Int32) (t_before_limb : Nat → Nat → Int32) (t_before_limbs : Nat → Int32) (t_below_limbs : Int32) (t_below_limb : Nat → Int32) : Option ((Nat → Nat → Int32) × (Nat → Int32) × (Nat → Nat → Int32) × (Nat → Int32) × Int32 × (Nat → Int32)) :=
  bO (Chances_passOn_L2 t_words N (0 : Int32) t_chance_limbs t_chance_limb t_before_limbs t_before_limb) (u4 (fun (t_chance_limbs'_9 : Nat → Int32) (t_chance_limb'_9 : Nat → Nat → Int32) (t_before_limbs'_9 : Nat → Int32) (t_before_limb'_9 : Nat → Nat → Int32) =>
  bO (Chances_passOn_L43 N t_words t_heardAs t_total t_part N (0 : Int32) t_chance_limbs'_9 t_chance_limb'_9 t_before_limbs'_9 t_before_limb'_9) (u4 (fun (t_chance_limbs'_12 : Nat → Int32) (t_chance_limb'_12 : Nat → Nat → Int32) (t_before_limbs'_12 : Nat → Int32) (t_before_limb'_12 : Nat → Nat → Int32) =>
  bO (F_Chances_multiplyByParts N t_words t_part t_below_limbs t_below_limb) (u2 (fun (t_below_limbs'_2 : Int32) (t_below_limb'_2 : Nat → Int32) =>
  some (t_chance_limb'_12, t_chance_limbs'_12, t_before_limb'_12, t_before_limbs'_12, t_below_limbs'_2, t_below_limb'_2)))))))
def Natural_remainder_L16 (p1 : Int32) (t_limb : Nat → Int32) : Nat → Int64 → Int32 → Option (Int64)
  | 0, _, _ => none
  | k0 + 1, x2, x4 =>
  if x4 < (0 : Int32) then
    some x2
  else
    gd (ixb x4 40) (
    gd (nzL p1.toInt64) (
    Natural_remainder_L16 p1 t_limb k0 (jremL ((jshlL x2 (30 : Int32)) + (t_limb x4.toNatClampNeg).toInt64) p1.toInt64) (x4 + (-1 : Int32))))
def F_Natural_remainder (N : Nat) (p1 : Int32) (t_limbs : Int32) (t_limb : Nat → Int32) : Option (Int32) :=
  if (0 : Int32) < p1 then
    bO (Natural_remainder_L16 p1 t_limb N (0 : Int64) (t_limbs - (1 : Int32))) ((fun (x2_2 : Int64) =>
    some x2_2.toInt32))
  else
    some (0 : Int32)
def F_Fraction_isDividedBy (N : Nat) (p1 : Int32) (t_above_limbs : Int32) (t_above_limb : Nat → Int32) (t_below_limbs : Int32) (t_below_limb : Nat → Int32) : Option (Int32) :=
  bO (F_Natural_remainder N p1 t_below_limbs t_below_limb) ((fun (r5 : Int32) =>
  if r5 = (0 : Int32) then
    bO (F_Natural_remainder N p1 t_above_limbs t_above_limb) ((fun (r16 : Int32) =>
    if r16 = (0 : Int32) then
      some (1 : Int32)
    else
      some (0 : Int32)))
  else
    some (0 : Int32)))
def Fraction_toLowestTerms_L30 (N : Nat) (x1 : Int32) : Nat → Int32 → (Nat → Int32) → Int32 → (Nat → Int32) → Int32 → Option ((Nat → Int32) × Int32 × (Nat → Int32) × Int32)
  | 0, _, _, _, _, _ => none
  | k0 + 1, x2, t_above_limb'_7, t_above_limbs'_7, t_below_limb'_9, t_below_limbs'_9 =>
  if (1200 : Int32) ≤ x2 then
    some (t_above_limb'_7, t_above_limbs'_7, t_below_limb'_9, t_below_limbs'_9)
  else
    bO (F_Fraction_isDividedBy N x1 t_above_limbs'_7 t_above_limb'_7 t_below_limbs'_9 t_below_limb'_9) ((fun (r39 : Int32) =>
    if r39 = (0 : Int32) then
      some (t_above_limb'_7, t_above_limbs'_7, t_below_limb'_9, t_below_limbs'_9)
    else
      bO (F_Natural_divide N x1 t_above_limbs'_7 t_above_limb'_7) (u2 (fun (t_above_limbs'_8 : Int32) (t_above_limb'_8 : Nat → Int32) =>
      bO (F_Natural_divide N x1 t_below_limbs'_9 t_below_limb'_9) (u2 (fun (t_below_limbs'_10 : Int32) (t_below_limb'_10 : Nat → Int32) =>
      Fraction_toLowestTerms_L30 N x1 k0 (x2 + (1 : Int32)) t_above_limb'_8 t_above_limbs'_8 t_below_limb'_10 t_below_limbs'_10))))))
def Fraction_toLowestTerms_L21 (N : Nat) : Nat → Int32 → (Nat → Int32) → Int32 → (Nat → Int32) → Int32 → Option ((Nat → Int32) × Int32 × (Nat → Int32) × Int32)
  | 0, _, _, _, _, _ => none
  | k0 + 1, x1, t_above_limb'_6, t_above_limbs'_6, t_below_limb'_8, t_below_limbs'_8 =>
  if (180 : Int32) < x1 then
    some (t_above_limb'_6, t_above_limbs'_6, t_below_limb'_8, t_below_limbs'_8)
  else
    bO (Fraction_toLowestTerms_L30 N x1 N (0 : Int32) t_above_limb'_6 t_above_limbs'_6 t_below_limb'_8 t_below_limbs'_8) (u4 (fun (t_above_limb'_9 : Nat → Int32) (t_above_limbs'_9 : Int32) (t_below_limb'_11 : Nat → Int32) (t_below_limbs'_11 : Int32) =>
    Fraction_toLowestTerms_L21 N k0 (x1 + (1 : Int32)) t_above_limb'_9 t_above_limbs'_9 t_below_limb'_11 t_below_limbs'_11))
def F_Fraction_toLowestTerms (N : Nat) (t_above_limbs : Int32) (t_above_limb : Nat → Int32) (t_below_limbs : Int32) (t_below_limb : Nat → Int32) : Option (Int32 × (Nat → Int32) × Int32 × (Nat → Int32)) :=
  if t_above_limbs = (0 : Int32) then
    bO (F_Natural_put (1 : Int32) t_below_limb) (u2 (fun (t_below_limbs'_7 : Int32) (t_below_limb'_7 : Nat → Int32) =>
    some (t_above_limbs, t_above_limb, t_below_limbs'_7, t_below_limb'_7)))
  else
    bO (Fraction_toLowestTerms_L21 N N (2 : Int32) t_above_limb t_above_limbs t_below_limb t_below_limbs) (u4 (fun (t_above_limb'_10 : Nat → Int32) (t_above_limbs'_10 : Int32) (t_below_limb'_12 : Nat → Int32) (t_below_limbs'_12 : Int32) =>
    some (t_above_limbs'_10, t_above_limb'_10, t_below_limbs'_12, t_below_limb'_12)))
def F_Fraction_put1 (N : Nat) (t_above_limb : Nat → Int32) (t_below_limb : Nat → Int32) (p1_limbs : Int32) (p1_limb : Nat → Int32) (p2_limbs : Int32) (p2_limb : Nat → Int32) : Option (Int32 × (Nat → Int32) × Int32 × (Nat → Int32)) :=
  bO (F_Natural_copyFrom t_above_limb p1_limbs p1_limb) (u2 (fun (t_above_limbs'_3 : Int32) (t_above_limb'_3 : Nat → Int32) =>
  bO (F_Natural_copyFrom t_below_limb p2_limbs p2_limb) (u2 (fun (t_below_limbs'_3 : Int32) (t_below_limb'_3 : Nat → Int32) =>
  bO (F_Fraction_toLowestTerms N t_above_limbs'_3 t_above_limb'_3 t_below_limbs'_3 t_below_limb'_3) (u4 (fun (t_above_limbs'_4 : Int32) (t_above_limb'_4 : Nat → Int32) (t_below_limbs'_4 : Int32) (t_below_limb'_4 : Nat → Int32) =>
  some (t_above_limbs'_4, t_above_limb'_4, t_below_limbs'_4, t_below_limb'_4)))))))
def F_Chances_tellAs (N : Nat) (p1 : Int32) (t_chance_limb : Nat → Nat → Int32) (t_chance_limbs : Nat → Int32) (t_below_limbs : Int32) (t_below_limb : Nat → Int32) (p2_above_limb : Nat → Int32) (p2_below_limb : Nat → Int32) : Option (Int32 × (Nat → Int32) × Int32 × (Nat → Int32)) :=
  gd (ixb p1 10) (
  bO (F_Fraction_put1 N p2_above_limb p2_below_limb (t_chance_limbs p1.toNatClampNeg) (t_chance_limb p1.toNatClampNeg) t_below_limbs t_below_limb) (u4 (fun (p2_above_limbs'_2 : Int32) (p2_above_limb'_2 : Nat → Int32) (p2_below_limbs'_2 : Int32) (p2_below_limb'_2 : Nat → Int32) =>
  some (p2_above_limbs'_2, p2_above_limb'_2, p2_below_limbs'_2, p2_below_limb'_2))))
def S_arrives_L60 (N : Nat) (p3 : Int32) (t_chances_words'_2 : Int32) (t_chances_heardAs'_2 : Nat → Nat → Int32) (t_chances_total'_2 : Nat → Int32) (t_chances_part'_2 : Nat → Int32) : Nat → Int32 → (Nat → Int32) → (Nat → Nat → Int32) → (Nat → Int32) → (Nat → Nat → Int32) → (Nat → Int32) → Int32 → Option ((Nat → Int32) × (Nat → Nat → Int32) × (Nat → Int32) × (Nat → Nat → Int32) × (Nat → Int32) × Int32)
  | 0, _, _, _, _, _, _, _ => none
  | k0 + 1, x5, t_chances_chance_limbs'_6, t_chances_chance_limb'_6, t_chances_before_limbs'_4, t_chances_before_limb'_4, t_chances_below_limb'_6, t_chances_below_limbs'_6 =>
  if p3 ≤ x5 then
    some (t_chances_chance_limbs'_6, t_chances_chance_limb'_6, t_chances_before_limbs'_4, t_chances_before_limb'_4, t_chances_below_limb'_6, t_chances_below_limbs'_6)
  else
    bO (F_Chances_passOn N t_chances_words'_2 t_chances_heardAs'_2 t_chances_total'_2 t_chances_part'_2 t_chances_chance_limb'_6 t_chances_chance_limbs'_6 t_chances_before_limb'_4 t_chances_before_limbs'_4 t_chances_below_limbs'_6 t_chances_below_limb'_6) (u6 (fun (t_chances_chance_limb'_7 : Nat → Nat → Int32) (t_chances_chance_limbs'_7 : Nat → Int32) (t_chances_before_limb'_5 : Nat → Nat → Int32) (t_chances_before_limbs'_5 : Nat → Int32) (t_chances_below_limbs'_7 : Int32) (t_chances_below_limb'_7 : Nat → Int32) =>
    S_arrives_L60 N p3 t_chances_words'_2 t_chances_heardAs'_2 t_chances_total'_2 t_chances_part'_2 k0 (x5 + (1 : Int32)) t_chances_chance_limbs'_7 t_chances_chance_limb'_7 t_chances_before_limbs'_5 t_chances_before_limb'_5 t_chances_below_limb'_7 t_chances_below_limbs'_7))
def F_S_arrives (N : Nat) (p1 : Int32) (p2 : Int32) (p3 : Int32) (t_now_clearness : Int32) (t_now_lexicon_words : Int32) (t_now_lexicon_length : Nat → Int32) (t_now_lexicon_weight : Nat → Int32) (t_now_lexicon_leastLike : Nat → Int32) (t_now_lexicon_lipsOf : Nat → Int32) (t_chances_words : Int32) (t_chances_heardAs : Nat → Nat → Int32) (t_chances_total : Nat → Int32) (t_chances_part : Nat → Int32) (t_chances_chance_limb : Nat → Nat → Int32) (t_chances_chance_limbs : Nat → Int32) (t_chances_before_limb : Nat → Nat → Int32) (t_chances_before_limbs : Nat → Int32) (t_chances_below_limbs : Int32) (t_chances_below_limb : Nat → Int32) (t_fraction_above_limbs : Int32) (t_fraction_above_limb : Nat → Int32) (t_fraction_below_limbs : Int32) (t_fraction_below_limb : Nat → Int32) : Option (Int32 × Int32 × (Nat → Nat → Int32) × (Nat → Int32) × (Nat → Int32) × (Nat → Nat → Int32) × (Nat → Int32) × (Nat → Nat → Int32) × (Nat → Int32) × Int32 × (Nat → Int32) × Int32 × (Nat → Int32) × Int32 × (Nat → Int32)) :=
  if (F_Lexicon_isWord p1 t_now_lexicon_words) = (0 : Int32) then
    some ((-2 : Int32), t_chances_words, t_chances_heardAs, t_chances_total, t_chances_part, t_chances_chance_limb, t_chances_chance_limbs, t_chances_before_limb, t_chances_before_limbs, t_chances_below_limbs, t_chances_below_limb, t_fraction_above_limbs, t_fraction_above_limb, t_fraction_below_limbs, t_fraction_below_limb)
  else
    if (F_Lexicon_isWord p2 t_now_lexicon_words) = (0 : Int32) then
      some ((-2 : Int32), t_chances_words, t_chances_heardAs, t_chances_total, t_chances_part, t_chances_chance_limb, t_chances_chance_limbs, t_chances_before_limb, t_chances_before_limbs, t_chances_below_limbs, t_chances_below_limb, t_fraction_above_limbs, t_fraction_above_limb, t_fraction_below_limbs, t_fraction_below_limb)
    else
      if (F_S_within p3 (1 : Int32) (12 : Int32)) = (0 : Int32) then
        some ((-2 : Int32), t_chances_words, t_chances_heardAs, t_chances_total, t_chances_part, t_chances_chance_limb, t_chances_chance_limbs, t_chances_before_limb, t_chances_before_limbs, t_chances_below_limbs, t_chances_below_limb, t_fraction_above_limbs, t_fraction_above_limb, t_fraction_below_limbs, t_fraction_below_limb)
      else
        bO (F_Chances_say N t_now_clearness p1 t_chances_heardAs t_chances_total t_chances_part t_chances_chance_limb t_chances_chance_limbs t_chances_below_limb t_now_lexicon_words t_now_lexicon_length t_now_lexicon_weight t_now_lexicon_leastLike t_now_lexicon_lipsOf) (u8 (fun (t_chances_words'_2 : Int32) (t_chances_heardAs'_2 : Nat → Nat → Int32) (t_chances_total'_2 : Nat → Int32) (t_chances_part'_2 : Nat → Int32) (t_chances_chance_limb'_5 : Nat → Nat → Int32) (t_chances_chance_limbs'_5 : Nat → Int32) (t_chances_below_limbs'_5 : Int32) (t_chances_below_limb'_5 : Nat → Int32) =>
        bO (S_arrives_L60 N p3 t_chances_words'_2 t_chances_heardAs'_2 t_chances_total'_2 t_chances_part'_2 N (0 : Int32) t_chances_chance_limbs'_5 t_chances_chance_limb'_5 t_chances_before_limbs t_chances_before_limb t_chances_below_limb'_5 t_chances_below_limbs'_5) (u6 (fun (t_chances_chance_limbs'_8 : Nat → Int32) (t_chances_chance_limb'_8 : Nat → Nat → Int32) (t_chances_before_limbs'_6 : Nat → Int32) (t_chances_before_limb'_6 : Nat → Nat → Int32) (t_chances_below_limb'_8 : Nat → Int32) (t_chances_below_limbs'_8 : Int32) =>
        bO (F_Chances_tellAs N p2 t_chances_chance_limb'_8 t_chances_chance_limbs'_8 t_chances_below_limbs'_8 t_chances_below_limb'_8 t_fraction_above_limb t_fraction_below_limb) (u4 (fun (t_fraction_above_limbs'_2 : Int32) (t_fraction_above_limb'_2 : Nat → Int32) (t_fraction_below_limbs'_2 : Int32) (t_fraction_below_limb'_2 : Nat → Int32) =>
        some ((1 : Int32), t_chances_words'_2, t_chances_heardAs'_2, t_chances_total'_2, t_chances_part'_2, t_chances_chance_limb'_8, t_chances_chance_limbs'_8, t_chances_before_limb'_6, t_chances_before_limbs'_6, t_chances_below_limbs'_8, t_chances_below_limb'_8, t_fraction_above_limbs'_2, t_fraction_above_limb'_2, t_fraction_below_limbs'_2, t_fraction_below_limb'_2)))))))
def Natural_isLessThan_L35 (t_limb : Nat → Int32) (p1_limb : Nat → Int32) : Nat → Int32 → Option ((Int32) ⊕ Unit)
  | 0, _ => none
  | k0 + 1, x2 =>
  if x2 < (0 : Int32) then
    some (.inr ())
  else
    gd (ixb x2 40) (
    if (t_limb x2.toNatClampNeg) = (p1_limb x2.toNatClampNeg) then
      Natural_isLessThan_L35 t_limb p1_limb k0 (x2 + (-1 : Int32))
    else
      if (p1_limb x2.toNatClampNeg) ≤ (t_limb x2.toNatClampNeg) then
        some (.inl (0 : Int32))
      else
        some (.inl (1 : Int32)))
def F_Natural_isLessThan (N : Nat) (t_limbs : Int32) (t_limb : Nat → Int32) (p1_limbs : Int32) (p1_limb : Nat → Int32) : Option (Int32) :=
  if t_limbs = p1_limbs then
    bT (Natural_isLessThan_L35 t_limb p1_limb N (t_limbs - (1 : Int32))) (u0 (
    some (0 : Int32)))
  else
    if p1_limbs ≤ t_limbs then
      some (0 : Int32)
    else
      some (1 : Int32)
def F_Chances_isBelow (N : Nat) (p1 : Int32) (p2 : Int32) (p3 : Int32) (t_chance_limb : Nat → Nat → Int32) (t_chance_limbs : Nat → Int32) (t_below_limbs : Int32) (t_below_limb : Nat → Int32) (t_scaled_limb : Nat → Int32) (t_scaledBelow_limb : Nat → Int32) : Option (Int32 × Int32 × (Nat → Int32) × Int32 × (Nat → Int32)) :=
  gd (ixb p1 10) (
  bO (F_Natural_copyFrom t_scaled_limb (t_chance_limbs p1.toNatClampNeg) (t_chance_limb p1.toNatClampNeg)) (u2 (fun (t_scaled_limbs'_3 : Int32) (t_scaled_limb'_3 : Nat → Int32) =>
  bO (F_Natural_multiply N p3 t_scaled_limbs'_3 t_scaled_limb'_3) (u2 (fun (t_scaled_limbs'_4 : Int32) (t_scaled_limb'_4 : Nat → Int32) =>
  bO (F_Natural_put (0 : Int32) t_scaledBelow_limb) (u2 (fun (t_scaledBelow_limbs'_3 : Int32) (t_scaledBelow_limb'_3 : Nat → Int32) =>
  bO (F_Natural_addTimes N p2 t_scaledBelow_limbs'_3 t_scaledBelow_limb'_3 t_below_limbs t_below_limb) (u2 (fun (t_scaledBelow_limbs'_4 : Int32) (t_scaledBelow_limb'_4 : Nat → Int32) =>
  bO (F_Natural_isLessThan N t_scaled_limbs'_4 t_scaled_limb'_4 t_scaledBelow_limbs'_4 t_scaledBelow_limb'_4) ((fun (r49 : Int32) =>
  some ((vp_nar .boolean r49), t_scaled_limbs'_4, t_scaled_limb'_4, t_scaledBelow_limbs'_4, t_scaledBelow_limb'_4))))))))))))
def S_turns_L62 (N : Nat) (t_chances_words'_2 : Int32) (t_chances_heardAs'_2 : Nat → Nat → Int32) (t_chances_total'_2 : Nat → Int32) (t_chances_part'_2 : Nat → Int32) (p1 : Int32) (p2 : Int32) (p3 : Int32) : Nat → Int32 → (Nat → Int32) → (Nat → Nat → Int32) → (Nat → Int32) → (Nat → Nat → Int32) → (Nat → Int32) → Int32 → (Nat → Int32) → Int32 → (Nat → Int32) → Int32 → Option ((Int32 × Int32 × (Nat → Nat → Int32) × (Nat → Int32) × (Nat → Int32) × (Nat → Nat → Int32) × (Nat → Int32) × (Nat → Nat → Int32) × (Nat → Int32) × Int32 × (Nat → Int32) × Int32 × (Nat → Int32) × Int32 × (Nat → Int32)) ⊕ ((Nat → Int32) × (Nat → Nat → Int32) × (Nat → Int32) × (Nat → Nat → Int32) × (Nat → Int32) × Int32 × (Nat → Int32) × Int32 × (Nat → Int32) × Int32))
  | 0, _, _, _, _, _, _, _, _, _, _, _ => none
  | k0 + 1, x4, t_chances_chance_limbs'_6, t_chances_chance_limb'_6, t_chances_before_limbs'_4, t_chances_before_limb'_4, t_chances_below_limb'_6, t_chances_below_limbs'_6, t_chances_scaled_limb'_4, t_chances_scaled_limbs'_4, t_chances_scaledBelow_limb'_4, t_chances_scaledBelow_limbs'_4 =>
  if (12 : Int32) < x4 then
    some (.inr (t_chances_chance_limbs'_6, t_chances_chance_limb'_6, t_chances_before_limbs'_4, t_chances_before_limb'_4, t_chances_below_limb'_6, t_chances_below_limbs'_6, t_chances_scaled_limb'_4, t_chances_scaled_limbs'_4, t_chances_scaledBelow_limb'_4, t_chances_scaledBelow_limbs'_4))
  else
    bO (F_Chances_passOn N t_chances_words'_2 t_chances_heardAs'_2 t_chances_total'_2 t_chances_part'_2 t_chances_chance_limb'_6 t_chances_chance_limbs'_6 t_chances_before_limb'_4 t_chances_before_limbs'_4 t_chances_below_limbs'_6 t_chances_below_limb'_6) (u6 (fun (t_chances_chance_limb'_7 : Nat → Nat → Int32) (t_chances_chance_limbs'_7 : Nat → Int32) (t_chances_before_limb'_5 : Nat → Nat → Int32) (t_chances_before_limbs'_5 : Nat → Int32) (t_chances_below_limbs'_7 : Int32) (t_chances_below_limb'_7 : Nat → Int32) =>
    bO (F_Chances_isBelow N p1 p2 p3 t_chances_chance_limb'_7 t_chances_chance_limbs'_7 t_chances_below_limbs'_7 t_chances_below_limb'_7 t_chances_scaled_limb'_4 t_chances_scaledBelow_limb'_4) (u5 (fun (r83 : Int32) (t_chances_scaled_limbs'_5 : Int32) (t_chances_scaled_limb'_5 : Nat → Int32) (t_chances_scaledBelow_limbs'_5 : Int32) (t_chances_scaledBelow_limb'_5 : Nat → Int32) =>
    if r83 = (0 : Int32) then
      S_turns_L62 N t_chances_words'_2 t_chances_heardAs'_2 t_chances_total'_2 t_chances_part'_2 p1 p2 p3 k0 (x4 + (1 : Int32)) t_chances_chance_limbs'_7 t_chances_chance_limb'_7 t_chances_before_limbs'_5 t_chances_before_limb'_5 t_chances_below_limb'_7 t_chances_below_limbs'_7 t_chances_scaled_limb'_5 t_chances_scaled_limbs'_5 t_chances_scaledBelow_limb'_5 t_chances_scaledBelow_limbs'_5
    else
      some (.inl (x4, t_chances_words'_2, t_chances_heardAs'_2, t_chances_total'_2, t_chances_part'_2, t_chances_chance_limb'_7, t_chances_chance_limbs'_7, t_chances_before_limb'_5, t_chances_before_limbs'_5, t_chances_below_limbs'_7, t_chances_below_limb'_7, t_chances_scaled_limbs'_5, t_chances_scaled_limb'_5, t_chances_scaledBelow_limbs'_5, t_chances_scaledBelow_limb'_5))))))
def F_S_turns (N : Nat) (p1 : Int32) (p2 : Int32) (p3 : Int32) (t_now_clearness : Int32) (t_now_lexicon_words : Int32) (t_now_lexicon_length : Nat → Int32) (t_now_lexicon_weight : Nat → Int32) (t_now_lexicon_leastLike : Nat → Int32) (t_now_lexicon_lipsOf : Nat → Int32) (t_chances_words : Int32) (t_chances_heardAs : Nat → Nat → Int32) (t_chances_total : Nat → Int32) (t_chances_part : Nat → Int32) (t_chances_chance_limb : Nat → Nat → Int32) (t_chances_chance_limbs : Nat → Int32) (t_chances_before_limb : Nat → Nat → Int32) (t_chances_before_limbs : Nat → Int32) (t_chances_below_limbs : Int32) (t_chances_below_limb : Nat → Int32) (t_chances_scaled_limbs : Int32) (t_chances_scaled_limb : Nat → Int32) (t_chances_scaledBelow_limbs : Int32) (t_chances_scaledBelow_limb : Nat → Int32) : Option (Int32 × Int32 × (Nat → Nat → Int32) × (Nat → Int32) × (Nat → Int32) × (Nat → Nat → Int32) × (Nat → Int32) × (Nat → Nat → Int32) × (Nat → Int32) × Int32 × (Nat → Int32) × Int32 × (Nat → Int32) × Int32 × (Nat → Int32)) :=
  if (F_Lexicon_isWord p1 t_now_lexicon_words) = (0 : Int32) then
    some ((-10 : Int32), t_chances_words, t_chances_heardAs, t_chances_total, t_chances_part, t_chances_chance_limb, t_chances_chance_limbs, t_chances_before_limb, t_chances_before_limbs, t_chances_below_limbs, t_chances_below_limb, t_chances_scaled_limbs, t_chances_scaled_limb, t_chances_scaledBelow_limbs, t_chances_scaledBelow_limb)
  else
    if (F_S_within p2 (0 : Int32) (99 : Int32)) = (0 : Int32) then
      some ((-10 : Int32), t_chances_words, t_chances_heardAs, t_chances_total, t_chances_part, t_chances_chance_limb, t_chances_chance_limbs, t_chances_before_limb, t_chances_before_limbs, t_chances_below_limbs, t_chances_below_limb, t_chances_scaled_limbs, t_chances_scaled_limb, t_chances_scaledBelow_limbs, t_chances_scaledBelow_limb)
    else
      if (F_S_within p3 (1 : Int32) (99 : Int32)) = (0 : Int32) then
        some ((-10 : Int32), t_chances_words, t_chances_heardAs, t_chances_total, t_chances_part, t_chances_chance_limb, t_chances_chance_limbs, t_chances_before_limb, t_chances_before_limbs, t_chances_below_limbs, t_chances_below_limb, t_chances_scaled_limbs, t_chances_scaled_limb, t_chances_scaledBelow_limbs, t_chances_scaledBelow_limb)
      else
        bO (F_Chances_say N t_now_clearness p1 t_chances_heardAs t_chances_total t_chances_part t_chances_chance_limb t_chances_chance_limbs t_chances_below_limb t_now_lexicon_words t_now_lexicon_length t_now_lexicon_weight t_now_lexicon_leastLike t_now_lexicon_lipsOf) (u8 (fun (t_chances_words'_2 : Int32) (t_chances_heardAs'_2 : Nat → Nat → Int32) (t_chances_total'_2 : Nat → Int32) (t_chances_part'_2 : Nat → Int32) (t_chances_chance_limb'_5 : Nat → Nat → Int32) (t_chances_chance_limbs'_5 : Nat → Int32) (t_chances_below_limbs'_5 : Int32) (t_chances_below_limb'_5 : Nat → Int32) =>
        bT (S_turns_L62 N t_chances_words'_2 t_chances_heardAs'_2 t_chances_total'_2 t_chances_part'_2 p1 p2 p3 N (1 : Int32) t_chances_chance_limbs'_5 t_chances_chance_limb'_5 t_chances_before_limbs t_chances_before_limb t_chances_below_limb'_5 t_chances_below_limbs'_5 t_chances_scaled_limb t_chances_scaled_limbs t_chances_scaledBelow_limb t_chances_scaledBelow_limbs) (u10 (fun (t_chances_chance_limbs'_8 : Nat → Int32) (t_chances_chance_limb'_8 : Nat → Nat → Int32) (t_chances_before_limbs'_6 : Nat → Int32) (t_chances_before_limb'_6 : Nat → Nat → Int32) (t_chances_below_limb'_8 : Nat → Int32) (t_chances_below_limbs'_8 : Int32) (t_chances_scaled_limb'_6 : Nat → Int32) (t_chances_scaled_limbs'_6 : Int32) (t_chances_scaledBelow_limb'_6 : Nat → Int32) (t_chances_scaledBelow_limbs'_6 : Int32) =>
        some ((-1 : Int32), t_chances_words'_2, t_chances_heardAs'_2, t_chances_total'_2, t_chances_part'_2, t_chances_chance_limb'_8, t_chances_chance_limbs'_8, t_chances_before_limb'_6, t_chances_before_limbs'_6, t_chances_below_limbs'_8, t_chances_below_limb'_8, t_chances_scaled_limbs'_6, t_chances_scaled_limb'_6, t_chances_scaledBelow_limbs'_6, t_chances_scaledBelow_limb'_6)))))
def F_S_girl (p1 : Int32) (t_now_lexicon_words : Int32) (t_now_lexicon_girlKnows : Int32) : Option (Int32 × Int32) :=
  if (F_Lexicon_areWords p1 t_now_lexicon_words) = (0 : Int32) then
    some ((-2 : Int32), t_now_lexicon_girlKnows)
  else
    some (t_now_lexicon_girlKnows, p1)
def Lexicon_findBetterAlike_L19 (N : Nat) (t_words : Int32) (t_weight : Nat → Int32) (x1 : Int32) (t_length : Nat → Int32) (t_leastLike : Nat → Int32) (t_lipsOf : Nat → Int32) : Nat → Int32 → (Nat → Int32) → Option ((Nat → Int32))
  | 0, _, _ => none
  | k0 + 1, x2, t_others'_6 =>
  if t_words ≤ x2 then
    some t_others'_6
  else
    gd (ixb x2 10) (
    bO (
      if (t_weight x1.toNatClampNeg) < (t_weight x2.toNatClampNeg) then
        some (1 : Int32)
      else
        if (t_weight x2.toNatClampNeg) = (t_weight x1.toNatClampNeg) then
          if x1 ≤ x2 then
            some (0 : Int32)
          else
            some (1 : Int32)
        else
          some (0 : Int32)) ((fun (y0 : Int32) =>
    if y0 = (0 : Int32) then
      Lexicon_findBetterAlike_L19 N t_words t_weight x1 t_length t_leastLike t_lipsOf k0 (x2 + (1 : Int32)) t_others'_6
    else
      bO (F_Lexicon_areAlike N x1 x2 t_length t_leastLike t_lipsOf) ((fun (r75 : Int32) =>
      if r75 = (0 : Int32) then
        Lexicon_findBetterAlike_L19 N t_words t_weight x1 t_length t_leastLike t_lipsOf k0 (x2 + (1 : Int32)) t_others'_6
      else
        Lexicon_findBetterAlike_L19 N t_words t_weight x1 t_length t_leastLike t_lipsOf k0 (x2 + (1 : Int32)) (upd t_others'_6 x1.toNatClampNeg ((t_others'_6 x1.toNatClampNeg) ||| (jshl (1 : Int32) x2))))))))
def Lexicon_findBetterAlike_L2 (N : Nat) (t_words : Int32) (t_weight : Nat → Int32) (t_length : Nat → Int32) (t_leastLike : Nat → Int32) (t_lipsOf : Nat → Int32) : Nat → Int32 → (Nat → Int32) → Option ((Nat → Int32))
  | 0, _, _ => none
  | k0 + 1, x1, t_others'_5 =>
  if t_words ≤ x1 then
    some t_others'_5
  else
    gd (ixb x1 10) (
    bO (Lexicon_findBetterAlike_L19 N t_words t_weight x1 t_length t_leastLike t_lipsOf N (0 : Int32) (upd t_others'_5 x1.toNatClampNeg (0 : Int32))) ((fun (t_others'_7 : Nat → Int32) =>
    Lexicon_findBetterAlike_L2 N t_words t_weight t_length t_leastLike t_lipsOf k0 (x1 + (1 : Int32)) t_others'_7)))
def F_Lexicon_findBetterAlike (N : Nat) (t_words : Int32) (t_length : Nat → Int32) (t_weight : Nat → Int32) (t_leastLike : Nat → Int32) (t_lipsOf : Nat → Int32) (t_others : Nat → Int32) : Option ((Nat → Int32)) :=
  bO (Lexicon_findBetterAlike_L2 N t_words t_weight t_length t_leastLike t_lipsOf N (0 : Int32) t_others) ((fun (t_others'_8 : Nat → Int32) =>
  some t_others'_8))
def Lexicon_gottenOf_L4 (t_words : Int32) (p1 : Int32) (t_others : Nat → Int32) : Nat → Int32 → Int32 → Option (Int32)
  | 0, _, _ => none
  | k0 + 1, x2, x3 =>
  if t_words ≤ x3 then
    some x2
  else
    if (F_S_hasBit p1 x3) = (0 : Int32) then
      Lexicon_gottenOf_L4 t_words p1 t_others k0 x2 (x3 + (1 : Int32))
    else
      gd (ixb x3 10) (
      if ((t_others x3.toNatClampNeg) &&& p1) = (0 : Int32) then
        Lexicon_gottenOf_L4 t_words p1 t_others k0 (x2 ||| (jshl (1 : Int32) x3)) (x3 + (1 : Int32))
      else
        Lexicon_gottenOf_L4 t_words p1 t_others k0 x2 (x3 + (1 : Int32)))
def F_Lexicon_gottenOf (N : Nat) (p1 : Int32) (t_words : Int32) (t_others : Nat → Int32) : Option (Int32) :=
  bO (Lexicon_gottenOf_L4 t_words p1 t_others N (0 : Int32) (0 : Int32)) ((fun (x2_2 : Int32) =>
  some x2_2))
def F_Lexicon_gotten (N : Nat) (p1 : Int32) (t_words : Int32) (t_length : Nat → Int32) (t_weight : Nat → Int32) (t_leastLike : Nat → Int32) (t_lipsOf : Nat → Int32) (t_others : Nat → Int32) : Option (Int32 × (Nat → Int32)) :=
  bO (F_Lexicon_findBetterAlike N t_words t_length t_weight t_leastLike t_lipsOf t_others) ((fun (t_others'_2 : Nat → Int32) =>
  bO (F_Lexicon_gottenOf N p1 t_words t_others'_2) ((fun (r6 : Int32) =>
  some (r6, t_others'_2)))))
def F_S_gets (N : Nat) (t_now_lexicon_words : Int32) (t_now_lexicon_girlKnows : Int32) (t_now_lexicon_length : Nat → Int32) (t_now_lexicon_weight : Nat → Int32) (t_now_lexicon_leastLike : Nat → Int32) (t_now_lexicon_lipsOf : Nat → Int32) (t_now_lexicon_others : Nat → Int32) : Option (Int32 × (Nat → Int32)) :=
  bO (F_Lexicon_gotten N t_now_lexicon_girlKnows t_now_lexicon_words t_now_lexicon_length t_now_lexicon_weight t_now_lexicon_leastLike t_now_lexicon_lipsOf t_now_lexicon_others) (u2 (fun (r17 : Int32) (t_now_lexicon_others'_2 : Nat → Int32) =>
  some (r17, t_now_lexicon_others'_2)))
def F_Fraction_put0 (N : Nat) (p1 : Int32) (p2 : Int32) (t_above_limb : Nat → Int32) (t_below_limb : Nat → Int32) : Option (Int32 × (Nat → Int32) × Int32 × (Nat → Int32)) :=
  bO (F_Natural_put p1 t_above_limb) (u2 (fun (t_above_limbs'_3 : Int32) (t_above_limb'_3 : Nat → Int32) =>
  bO (F_Natural_put p2 t_below_limb) (u2 (fun (t_below_limbs'_3 : Int32) (t_below_limb'_3 : Nat → Int32) =>
  bO (F_Fraction_toLowestTerms N t_above_limbs'_3 t_above_limb'_3 t_below_limbs'_3 t_below_limb'_3) (u4 (fun (t_above_limbs'_4 : Int32) (t_above_limb'_4 : Nat → Int32) (t_below_limbs'_4 : Int32) (t_below_limb'_4 : Nat → Int32) =>
  some (t_above_limbs'_4, t_above_limb'_4, t_below_limbs'_4, t_below_limb'_4)))))))
def F_S_share (N : Nat) (t_now_lexicon_words : Int32) (t_now_lexicon_girlKnows : Int32) (t_now_lexicon_length : Nat → Int32) (t_now_lexicon_weight : Nat → Int32) (t_now_lexicon_leastLike : Nat → Int32) (t_now_lexicon_lipsOf : Nat → Int32) (t_now_lexicon_others : Nat → Int32) (t_fraction_above_limbs : Int32) (t_fraction_above_limb : Nat → Int32) (t_fraction_below_limbs : Int32) (t_fraction_below_limb : Nat → Int32) : Option (Int32 × (Nat → Int32) × Int32 × (Nat → Int32) × Int32 × (Nat → Int32)) :=
  if t_now_lexicon_words = (0 : Int32) then
    some ((-3 : Int32), t_now_lexicon_others, t_fraction_above_limbs, t_fraction_above_limb, t_fraction_below_limbs, t_fraction_below_limb)
  else
    bO (F_Lexicon_gotten N t_now_lexicon_girlKnows t_now_lexicon_words t_now_lexicon_length t_now_lexicon_weight t_now_lexicon_leastLike t_now_lexicon_lipsOf t_now_lexicon_others) (u2 (fun (r28 : Int32) (t_now_lexicon_others'_2 : Nat → Int32) =>
    bO (F_Lexicon_weightOf N r28 t_now_lexicon_words t_now_lexicon_weight) ((fun (r31 : Int32) =>
    bO (F_Lexicon_weightOf N (F_Lexicon_allWords t_now_lexicon_words) t_now_lexicon_words t_now_lexicon_weight) ((fun (r39 : Int32) =>
    bO (F_Fraction_put0 N r31 r39 t_fraction_above_limb t_fraction_below_limb) (u4 (fun (t_fraction_above_limbs'_2 : Int32) (t_fraction_above_limb'_2 : Nat → Int32) (t_fraction_below_limbs'_2 : Int32) (t_fraction_below_limb'_2 : Nat → Int32) =>
    some ((1 : Int32), t_now_lexicon_others'_2, t_fraction_above_limbs'_2, t_fraction_above_limb'_2, t_fraction_below_limbs'_2, t_fraction_below_limb'_2)))))))))
def Lexicon_bestTaught_L11 (N : Nat) (t_words : Int32) (t_girlKnows : Int32) (p1 : Int32) (t_others'_2 : Nat → Int32) (t_weight : Nat → Int32) : Nat → Int32 → Int32 → Int32 → Option (Int32)
  | 0, _, _, _ => none
  | k0 + 1, x2, x3, x4 =>
  if (F_Lexicon_allWords t_words) < x4 then
    some x2
  else
    if (x4 &&& t_girlKnows) = (0 : Int32) then
      if (F_Integer_bitCount x4) = p1 then
        bO (F_Lexicon_gottenOf N (t_girlKnows ||| x4) t_words t_others'_2) ((fun (r51 : Int32) =>
        bO (F_Lexicon_weightOf N r51 t_words t_weight) ((fun (r54 : Int32) =>
        if x2 = (-1 : Int32) then
          Lexicon_bestTaught_L11 N t_words t_girlKnows p1 t_others'_2 t_weight k0 x4 r54 (x4 + (1 : Int32))
        else
          if r54 ≤ x3 then
            Lexicon_bestTaught_L11 N t_words t_girlKnows p1 t_others'_2 t_weight k0 x2 x3 (x4 + (1 : Int32))
          else
            Lexicon_bestTaught_L11 N t_words t_girlKnows p1 t_others'_2 t_weight k0 x4 r54 (x4 + (1 : Int32))))))
      else
        Lexicon_bestTaught_L11 N t_words t_girlKnows p1 t_others'_2 t_weight k0 x2 x3 (x4 + (1 : Int32))
    else
      Lexicon_bestTaught_L11 N t_words t_girlKnows p1 t_others'_2 t_weight k0 x2 x3 (x4 + (1 : Int32))
def F_Lexicon_bestTaught (N : Nat) (p1 : Int32) (t_words : Int32) (t_girlKnows : Int32) (t_length : Nat → Int32) (t_weight : Nat → Int32) (t_leastLike : Nat → Int32) (t_lipsOf : Nat → Int32) (t_others : Nat → Int32) : Option (Int32 × (Nat → Int32)) :=
  bO (F_Lexicon_findBetterAlike N t_words t_length t_weight t_leastLike t_lipsOf t_others) ((fun (t_others'_2 : Nat → Int32) =>
  bO (Lexicon_bestTaught_L11 N t_words t_girlKnows p1 t_others'_2 t_weight N (-1 : Int32) (0 : Int32) (0 : Int32)) ((fun (x2_2 : Int32) =>
  some (x2_2, t_others'_2)))))
def F_S_teach (N : Nat) (p1 : Int32) (t_now_lexicon_words : Int32) (t_now_lexicon_girlKnows : Int32) (t_now_lexicon_length : Nat → Int32) (t_now_lexicon_weight : Nat → Int32) (t_now_lexicon_leastLike : Nat → Int32) (t_now_lexicon_lipsOf : Nat → Int32) (t_now_lexicon_others : Nat → Int32) : Option (Int32 × (Nat → Int32)) :=
  if (F_S_within p1 (0 : Int32) (t_now_lexicon_words - (F_Integer_bitCount t_now_lexicon_girlKnows))) = (0 : Int32) then
    some ((-2 : Int32), t_now_lexicon_others)
  else
    bO (F_Lexicon_bestTaught N p1 t_now_lexicon_words t_now_lexicon_girlKnows t_now_lexicon_length t_now_lexicon_weight t_now_lexicon_leastLike t_now_lexicon_lipsOf t_now_lexicon_others) (u2 (fun (r43 : Int32) (t_now_lexicon_others'_2 : Nat → Int32) =>
    some (r43, t_now_lexicon_others'_2)))
def F_S_band (p1 : Int32) (p2 : Int32) (p3 : Int32) (t_now_level : Nat → Int32) (t_now_loss : Nat → Int32) : Option (Int32 × (Nat → Int32) × (Nat → Int32)) :=
  if (F_S_within p1 (0 : Int32) (5 : Int32)) = (0 : Int32) then
    some ((-2 : Int32), t_now_level, t_now_loss)
  else
    if (F_S_within p2 (0 : Int32) (99 : Int32)) = (0 : Int32) then
      some ((-2 : Int32), t_now_level, t_now_loss)
    else
      if (F_S_within p3 (0 : Int32) (9 : Int32)) = (0 : Int32) then
        some ((-2 : Int32), t_now_level, t_now_loss)
      else
        gd (ixb p1 6) (
        some ((1 : Int32), (upd t_now_level p1.toNatClampNeg p2), (upd t_now_loss p1.toNatClampNeg p3)))
def S_heard_L28 (t_now_level : Nat → Int32) (t_now_loss : Nat → Int32) (p1 : Int32) (p2 : Int32) : Nat → Int32 → Int32 → Option (Int32)
  | 0, _, _ => none
  | k0 + 1, x3, x4 =>
  if (6 : Int32) ≤ x4 then
    some x3
  else
    gd (ixb x4 6) (
    if ((t_now_level x4.toNatClampNeg) - ((t_now_loss x4.toNatClampNeg) * p1)) ≤ p2 then
      S_heard_L28 t_now_level t_now_loss p1 p2 k0 x3 (x4 + (1 : Int32))
    else
      S_heard_L28 t_now_level t_now_loss p1 p2 k0 (x3 ||| (jshl (1 : Int32) x4)) (x4 + (1 : Int32)))
def F_S_heard (N : Nat) (p1 : Int32) (p2 : Int32) (t_now_level : Nat → Int32) (t_now_loss : Nat → Int32) : Option (Int32) :=
  if (F_S_within p1 (0 : Int32) (60 : Int32)) = (0 : Int32) then
    some (-2 : Int32)
  else
    if (F_S_within p2 (0 : Int32) (99 : Int32)) = (0 : Int32) then
      some (-2 : Int32)
    else
      bO (S_heard_L28 t_now_level t_now_loss p1 p2 N (0 : Int32) (0 : Int32)) ((fun (x3_2 : Int32) =>
      some x3_2))
def Turning_joinWays_L12 (p2 : Int32) (x4 : Int32) (p3 : Int32) (p1_place : Nat → Int32) : Nat → Int32 → (Nat → Int32) → Option ((Nat → Int32))
  | 0, _, _ => none
  | k0 + 1, x5, t_readers'_6 =>
  if (4 : Int32) ≤ x5 then
    some t_readers'_6
  else
    bO (F_Floor_faceEachOther p2 x4 p3 x5 p1_place) ((fun (r25 : Int32) =>
    if r25 = (0 : Int32) then
      Turning_joinWays_L12 p2 x4 p3 p1_place k0 (x5 + (1 : Int32)) t_readers'_6
    else
      gd (ixb ((p2 * (4 : Int32)) + x4) 24) (
      Turning_joinWays_L12 p2 x4 p3 p1_place k0 (x5 + (1 : Int32)) (upd t_readers'_6 ((p2 * (4 : Int32)) + x4).toNatClampNeg ((t_readers'_6 ((p2 * (4 : Int32)) + x4).toNatClampNeg) ||| (jshl (1 : Int32) ((p3 * (4 : Int32)) + x5)))))))
def Turning_joinWays_L3 (N : Nat) (p2 : Int32) (p3 : Int32) (p1_place : Nat → Int32) : Nat → Int32 → (Nat → Int32) → Option ((Nat → Int32))
  | 0, _, _ => none
  | k0 + 1, x4, t_readers'_5 =>
  if (4 : Int32) ≤ x4 then
    some t_readers'_5
  else
    bO (Turning_joinWays_L12 p2 x4 p3 p1_place N (0 : Int32) t_readers'_5) ((fun (t_readers'_7 : Nat → Int32) =>
    Turning_joinWays_L3 N p2 p3 p1_place k0 (x4 + (1 : Int32)) t_readers'_7))
def F_Turning_joinWays (N : Nat) (p2 : Int32) (p3 : Int32) (t_readers : Nat → Int32) (p1_place : Nat → Int32) : Option ((Nat → Int32)) :=
  bO (Turning_joinWays_L3 N p2 p3 p1_place N (0 : Int32) t_readers) ((fun (t_readers'_8 : Nat → Int32) =>
  some t_readers'_8))
def Turning_findReaders_L2  : Nat → Int32 → (Nat → Int32) → Option ((Nat → Int32))
  | 0, _, _ => none
  | k0 + 1, x3, t_readers'_8 =>
  if (24 : Int32) ≤ x3 then
    some t_readers'_8
  else
    gd (ixb x3 24) (
    Turning_findReaders_L2 k0 (x3 + (1 : Int32)) (upd t_readers'_8 x3.toNatClampNeg (0 : Int32)))
def Turning_findReaders_L31 (N : Nat) (x3_2 : Int32) (p1_pillars : Int64) (p1_place : Nat → Int32) (p1_farSquare : Nat → Int32) : Nat → Int32 → (Nat → Int32) → Option ((Nat → Int32))
  | 0, _, _ => none
  | k0 + 1, x4, t_readers'_11 =>
  if x3_2 ≤ x4 then
    some t_readers'_11
  else
    bO (F_Floor_mayRead N x3_2 x4 p1_pillars p1_place p1_farSquare) ((fun (r41 : Int32) =>
    if r41 = (0 : Int32) then
      Turning_findReaders_L31 N x3_2 p1_pillars p1_place p1_farSquare k0 (x4 + (1 : Int32)) t_readers'_11
    else
      bO (F_Turning_joinWays N x3_2 x4 t_readers'_11 p1_place) ((fun (t_readers'_12 : Nat → Int32) =>
      Turning_findReaders_L31 N x3_2 p1_pillars p1_place p1_farSquare k0 (x4 + (1 : Int32)) t_readers'_12))))
def Turning_findReaders_L23 (N : Nat) (p2 : Int32) (p1_pillars : Int64) (p1_place : Nat → Int32) (p1_farSquare : Nat → Int32) : Nat → Int32 → (Nat → Int32) → Option ((Nat → Int32))
  | 0, _, _ => none
  | k0 + 1, x3_2, t_readers'_10 =>
  if p2 ≤ x3_2 then
    some t_readers'_10
  else
    bO (Turning_findReaders_L31 N x3_2 p1_pillars p1_place p1_farSquare N (0 : Int32) t_readers'_10) ((fun (t_readers'_13 : Nat → Int32) =>
    Turning_findReaders_L23 N p2 p1_pillars p1_place p1_farSquare k0 (x3_2 + (1 : Int32)) t_readers'_13))
def F_Turning_findReaders (N : Nat) (p2 : Int32) (t_readers : Nat → Int32) (p1_pillars : Int64) (p1_place : Nat → Int32) (p1_farSquare : Nat → Int32) : Option ((Nat → Int32)) :=
  bO (Turning_findReaders_L2 N (0 : Int32) t_readers) ((fun (t_readers'_9 : Nat → Int32) =>
  bO (Turning_findReaders_L23 N p2 p1_pillars p1_place p1_farSquare N (0 : Int32) t_readers'_9) ((fun (t_readers'_14 : Nat → Int32) =>
  some t_readers'_14))))
def Turning_countPairs_L2 (p2 : Int32) (t_way : Nat → Int32) (t_readers : Nat → Int32) : Nat → Int32 → (Nat → Int32) → (Nat → Int32) → Option ((Nat → Int32) × (Nat → Int32))
  | 0, _, _, _ => none
  | k0 + 1, x3, t_chosen'_3, t_pairs'_3 =>
  if p2 ≤ x3 then
    some (t_chosen'_3, t_pairs'_3)
  else
    gd (ixb x3 7) (
    gd (ixb x3 6) (
    gd (ixb (x3 + (1 : Int32)) 7) (
    gd (ixb ((x3 * (4 : Int32)) + (t_way x3.toNatClampNeg)) 24) (
    Turning_countPairs_L2 p2 t_way t_readers k0 (x3 + (1 : Int32)) (upd t_chosen'_3 (x3 + (1 : Int32)).toNatClampNeg ((t_chosen'_3 x3.toNatClampNeg) ||| (jshl (1 : Int32) ((x3 * (4 : Int32)) + (t_way x3.toNatClampNeg))))) (upd t_pairs'_3 (x3 + (1 : Int32)).toNatClampNeg ((t_pairs'_3 x3.toNatClampNeg) + (F_Integer_bitCount ((t_readers ((x3 * (4 : Int32)) + (t_way x3.toNatClampNeg)).toNatClampNeg) &&& ((upd t_chosen'_3 (x3 + (1 : Int32)).toNatClampNeg ((t_chosen'_3 x3.toNatClampNeg) ||| (jshl (1 : Int32) ((x3 * (4 : Int32)) + (t_way x3.toNatClampNeg))))) x3.toNatClampNeg)))))))))
def F_Turning_countPairs (N : Nat) (p1 : Int32) (p2 : Int32) (t_way : Nat → Int32) (t_readers : Nat → Int32) (t_chosen : Nat → Int32) (t_pairs : Nat → Int32) : Option ((Nat → Int32) × (Nat → Int32)) :=
  bO (Turning_countPairs_L2 p2 t_way t_readers N p1 t_chosen t_pairs) (u2 (fun (t_chosen'_4 : Nat → Int32) (t_pairs'_4 : Nat → Int32) =>
  some (t_chosen'_4, t_pairs'_4)))
def Turning_turnToNext_L4  : Nat → Int32 → (Nat → Int32) → Option ((Int32 × (Nat → Int32)) ⊕ ((Nat → Int32)))
  | 0, _, _ => none
  | k0 + 1, x2, t_way'_3 =>
  if x2 < (0 : Int32) then
    some (.inr t_way'_3)
  else
    gd (ixb x2 6) (
    if (3 : Int32) ≤ (t_way'_3 x2.toNatClampNeg) then
      Turning_turnToNext_L4 k0 (x2 + (-1 : Int32)) (upd t_way'_3 x2.toNatClampNeg (0 : Int32))
    else
      some (.inl (x2, (upd t_way'_3 x2.toNatClampNeg ((t_way'_3 x2.toNatClampNeg) + (1 : Int32))))))
def F_Turning_turnToNext (N : Nat) (p1 : Int32) (t_way : Nat → Int32) : Option (Int32 × (Nat → Int32)) :=
  bT (Turning_turnToNext_L4 N (p1 - (1 : Int32)) t_way) ((fun (t_way'_4 : Nat → Int32) =>
  some ((0 : Int32), t_way'_4)))
def Turning_search_L19  : Nat → Int32 → (Nat → Int32) → Option ((Nat → Int32))
  | 0, _, _ => none
  | k0 + 1, x4, t_way'_6 =>
  if (6 : Int32) ≤ x4 then
    some t_way'_6
  else
    gd (ixb x4 6) (
    Turning_search_L19 k0 (x4 + (1 : Int32)) (upd t_way'_6 x4.toNatClampNeg (0 : Int32)))
def Turning_search_L46 (N : Nat) (c3_2 : Int32) (t_readers'_2 : Nat → Int32) (p2 : Int32) : Nat → Int32 → Int32 → (Nat → Int32) → (Nat → Int32) → (Nat → Int32) → (Nat → Int32) → Int32 → Option ((Nat → Int32) × (Nat → Int32) × (Nat → Int32) × (Nat → Int32) × Int32)
  | 0, _, _, _, _, _, _, _ => none
  | k0 + 1, x4_2, x5, t_way'_8, t_bestWay'_4, t_chosen'_4, t_pairs'_4, t_bestPairs'_4 =>
  if (jshl (1 : Int32) ((2 : Int32) * c3_2)) ≤ x5 then
    some (t_way'_8, t_bestWay'_4, t_chosen'_4, t_pairs'_4, t_bestPairs'_4)
  else
    bO (F_Turning_countPairs N x4_2 c3_2 t_way'_8 t_readers'_2 t_chosen'_4 t_pairs'_4) (u2 (fun (t_chosen'_5 : Nat → Int32) (t_pairs'_5 : Nat → Int32) =>
    gd (ixb c3_2 7) (
    bO (
      if x5 = (0 : Int32) then
        some ((t_pairs'_5 c3_2.toNatClampNeg), (va_cpy t_way'_8 t_bestWay'_4 0 0 6))
      else
        if p2 = (0 : Int32) then
          if (t_pairs'_5 c3_2.toNatClampNeg) ≤ t_bestPairs'_4 then
            some (t_bestPairs'_4, t_bestWay'_4)
          else
            some ((t_pairs'_5 c3_2.toNatClampNeg), (va_cpy t_way'_8 t_bestWay'_4 0 0 6))
        else
          if t_bestPairs'_4 ≤ (t_pairs'_5 c3_2.toNatClampNeg) then
            some (t_bestPairs'_4, t_bestWay'_4)
          else
            some ((t_pairs'_5 c3_2.toNatClampNeg), (va_cpy t_way'_8 t_bestWay'_4 0 0 6))) (u2 (fun (t_bestPairs'_5 : Int32) (t_bestWay'_5 : Nat → Int32) =>
    bO (F_Turning_turnToNext N c3_2 t_way'_8) (u2 (fun (r124 : Int32) (t_way'_9 : Nat → Int32) =>
    Turning_search_L46 N c3_2 t_readers'_2 p2 k0 r124 (x5 + (1 : Int32)) t_way'_9 t_bestWay'_5 t_chosen'_5 t_pairs'_5 t_bestPairs'_5)))))))
def F_Turning_search (N : Nat) (p2 : Int32) (t_bestPairs : Int32) (t_way : Nat → Int32) (t_bestWay : Nat → Int32) (t_readers : Nat → Int32) (t_chosen : Nat → Int32) (t_pairs : Nat → Int32) (p1_pillars : Int64) (p1_weavers : Int32) (p1_place : Nat → Int32) (p1_farSquare : Nat → Int32) : Option (Int32 × (Nat → Int32) × (Nat → Int32) × (Nat → Int32) × (Nat → Int32) × (Nat → Int32)) :=
  bO (F_Turning_findReaders N (jmin p1_weavers (6 : Int32)) t_readers p1_pillars p1_place p1_farSquare) ((fun (t_readers'_2 : Nat → Int32) =>
  bO (Turning_search_L19 N (0 : Int32) t_way) ((fun (t_way'_7 : Nat → Int32) =>
  bO (Turning_search_L46 N (jmin p1_weavers (6 : Int32)) t_readers'_2 p2 N (0 : Int32) (0 : Int32) t_way'_7 t_bestWay t_chosen t_pairs t_bestPairs) (u5 (fun (t_way'_10 : Nat → Int32) (t_bestWay'_6 : Nat → Int32) (t_chosen'_6 : Nat → Int32) (t_pairs'_6 : Nat → Int32) (t_bestPairs'_6 : Int32) =>
  some (t_bestPairs'_6, t_way'_10, t_bestWay'_6, t_readers'_2, t_chosen'_6, t_pairs'_6)))))))
def F_Turning_bestWayOf (p1 : Int32) (t_bestWay : Nat → Int32) : Option (Int32) :=
  if (F_S_within p1 (0 : Int32) (5 : Int32)) = (0 : Int32) then
    some (-1 : Int32)
  else
    gd (ixb p1 6) (
    some (t_bestWay p1.toNatClampNeg))
def F_S_anew (N : Nat) (p1 : Int32) (p2 : Int32) (t_now_floor_pillars : Int64) (t_now_floor_weavers : Int32) (t_now_floor_place : Nat → Int32) (t_now_floor_farSquare : Nat → Int32) (t_turning_bestPairs : Int32) (t_turning_way : Nat → Int32) (t_turning_bestWay : Nat → Int32) (t_turning_readers : Nat → Int32) (t_turning_chosen : Nat → Int32) (t_turning_pairs : Nat → Int32) : Option (Int32 × Int32 × (Nat → Int32) × (Nat → Int32) × (Nat → Int32) × (Nat → Int32) × (Nat → Int32)) :=
  if (F_S_within p1 (0 : Int32) (1 : Int32)) = (0 : Int32) then
    some ((-10 : Int32), t_turning_bestPairs, t_turning_way, t_turning_bestWay, t_turning_readers, t_turning_chosen, t_turning_pairs)
  else
    if (F_S_within p2 (-1 : Int32) (t_now_floor_weavers - (1 : Int32))) = (0 : Int32) then
      some ((-10 : Int32), t_turning_bestPairs, t_turning_way, t_turning_bestWay, t_turning_readers, t_turning_chosen, t_turning_pairs)
    else
      if t_now_floor_weavers ≤ (6 : Int32) then
        bO (
          if p1 = (1 : Int32) then
            some (1 : Int32)
          else
            some (0 : Int32)) ((fun (y2 : Int32) =>
        bO (F_Turning_search N y2 t_turning_bestPairs t_turning_way t_turning_bestWay t_turning_readers t_turning_chosen t_turning_pairs t_now_floor_pillars t_now_floor_weavers t_now_floor_place t_now_floor_farSquare) (u6 (fun (t_turning_bestPairs'_2 : Int32) (t_turning_way'_2 : Nat → Int32) (t_turning_bestWay'_2 : Nat → Int32) (t_turning_readers'_2 : Nat → Int32) (t_turning_chosen'_2 : Nat → Int32) (t_turning_pairs'_2 : Nat → Int32) =>
        if p2 = (-1 : Int32) then
          some (t_turning_bestPairs'_2, t_turning_bestPairs'_2, t_turning_way'_2, t_turning_bestWay'_2, t_turning_readers'_2, t_turning_chosen'_2, t_turning_pairs'_2)
        else
          bO (F_Turning_bestWayOf p2 t_turning_bestWay'_2) ((fun (r94 : Int32) =>
          some (r94, t_turning_bestPairs'_2, t_turning_way'_2, t_turning_bestWay'_2, t_turning_readers'_2, t_turning_chosen'_2, t_turning_pairs'_2)))))))
      else
        some ((-20 : Int32), t_turning_bestPairs, t_turning_way, t_turning_bestWay, t_turning_readers, t_turning_chosen, t_turning_pairs)
def Text_add_L33 (p1 : Int64) : Nat → Int32 → (Nat → Int32) → Int32 → Option ((Nat → Int32) × Int32)
  | 0, _, _, _ => none
  | k0 + 1, x4, t_row'_3, t_bytes'_3 =>
  if x4 < (0 : Int32) then
    some (t_row'_3, t_bytes'_3)
  else
    gd (ixb t_bytes'_3 240) (
    Text_add_L33 p1 k0 (x4 + (-1 : Int32)) (upd t_row'_3 t_bytes'_3.toNatClampNeg ((jushrL p1 ((8 : Int32) * x4)) &&& (255 : Int64)).toInt32) (t_bytes'_3 + (1 : Int32)))
def F_Text_add (N : Nat) (p1 : Int64) (p2 : Int32) (t_bytes : Int32) (t_row : Nat → Int32) : Option (Int32 × Int32 × (Nat → Int32)) :=
  if (F_S_within p2 (1 : Int32) (8 : Int32)) = (0 : Int32) then
    some ((-2 : Int32), t_bytes, t_row)
  else
    if (t_bytes + p2) ≤ (240 : Int32) then
      bO (Text_add_L33 p1 N (p2 - (1 : Int32)) t_row t_bytes) (u2 (fun (t_row'_4 : Nat → Int32) (t_bytes'_4 : Int32) =>
      some (t_bytes'_4, t_bytes'_4, t_row'_4)))
    else
      some ((-4 : Int32), t_bytes, t_row)
def F_S_type (N : Nat) (p1 : Int64) (p2 : Int32) (t_text_bytes : Int32) (t_text_row : Nat → Int32) : Option (Int32 × Int32 × (Nat → Int32)) :=
  bO (F_Text_add N p1 p2 t_text_bytes t_text_row) (u3 (fun (r6 : Int32) (t_text_bytes'_2 : Int32) (t_text_row'_2 : Nat → Int32) =>
  some (r6, t_text_bytes'_2, t_text_row'_2)))
def F_S_erase (t_text_bytes : Int32) : Option (Int32 × Int32) :=
  some (t_text_bytes, (0 : Int32))
def F_Text_byteAt (p1 : Int32) (t_bytes : Int32) (t_row : Nat → Int32) : Option (Int32) :=
  if p1 < (0 : Int32) then
    some (-1 : Int32)
  else
    if t_bytes ≤ p1 then
      some (-1 : Int32)
    else
      gd (ixb p1 240) (
      some (t_row p1.toNatClampNeg))
def Text_endOfRun_L6 (t_bytes : Int32) (t_row : Nat → Int32) (p2 : Int32) (p3 : Int32) : Nat → Int32 → Int32 → Option (Int32)
  | 0, _, _ => none
  | k0 + 1, x4, x5 =>
  if t_bytes ≤ x5 then
    some x4
  else
    bO (F_Text_byteAt x5 t_bytes t_row) ((fun (r18 : Int32) =>
    if (F_S_within r18 p2 p3) = (0 : Int32) then
      some x4
    else
      Text_endOfRun_L6 t_bytes t_row p2 p3 k0 (x5 + (1 : Int32)) (x5 + (1 : Int32))))
def F_Text_endOfRun (N : Nat) (p1 : Int32) (p2 : Int32) (p3 : Int32) (t_bytes : Int32) (t_row : Nat → Int32) : Option (Int32) :=
  bO (Text_endOfRun_L6 t_bytes t_row p2 p3 N p1 p1) ((fun (x4_2 : Int32) =>
  some x4_2))
def Text_readNumber_L10 (t_at : Int32) (t_token : Int32) (t_bytes : Int32) (t_row : Nat → Int32) : Nat → Int32 → Int32 → Option (Int32)
  | 0, _, _ => none
  | k0 + 1, x1, t_tokenNumber'_3 =>
  if t_at ≤ x1 then
    some t_tokenNumber'_3
  else
    if t_token = (-3 : Int32) then
      bO (F_Text_byteAt x1 t_bytes t_row) ((fun (r37 : Int32) =>
      Text_readNumber_L10 t_at t_token t_bytes t_row k0 (x1 + (1 : Int32)) ((((10 : Int32) * t_tokenNumber'_3) + r37) - (48 : Int32))))
    else
      some t_tokenNumber'_3
def F_Text_readNumber (N : Nat) (t_bytes : Int32) (t_at : Int32) (t_token : Int32) (t_tokenAt : Int32) (t_row : Nat → Int32) : Option (Int32) :=
  bO (Text_readNumber_L10 t_at t_token t_bytes t_row N t_tokenAt (0 : Int32)) ((fun (t_tokenNumber'_4 : Int32) =>
  some t_tokenNumber'_4))
def F_Text_nameOf (p1 : Int32) : Nat :=
  if p1 = (0 : Int32) then
    (0 : Nat)
  else if p1 = (1 : Int32) then
    (1 : Nat)
  else if p1 = (2 : Int32) then
    (2 : Nat)
  else if p1 = (3 : Int32) then
    (3 : Nat)
  else if p1 = (4 : Int32) then
    (4 : Nat)
  else if p1 = (5 : Int32) then
    (5 : Nat)
  else 
    (6 : Nat)
def Text_tokenSpells_L20 (p1 : Nat) (t_tokenAt : Int32) (t_bytes : Int32) (t_row : Nat → Int32) : Nat → Int32 → Option ((Int32) ⊕ Unit)
  | 0, _ => none
  | k0 + 1, x2 =>
  if (nI (sLen p1)) ≤ x2 then
    some (.inr ())
  else
    bO (F_Text_byteAt (t_tokenAt + x2) t_bytes t_row) ((fun (r35 : Int32) =>
    gd (ixb x2 (sLen p1)) (
    if r35 = (sChar p1 x2.toNatClampNeg) then
      Text_tokenSpells_L20 p1 t_tokenAt t_bytes t_row k0 (x2 + (1 : Int32))
    else
      some (.inl (0 : Int32)))))
def F_Text_tokenSpells (N : Nat) (p1 : Nat) (t_bytes : Int32) (t_at : Int32) (t_tokenAt : Int32) (t_row : Nat → Int32) : Option (Int32) :=
  if (t_at - t_tokenAt) = (nI (sLen p1)) then
    bT (Text_tokenSpells_L20 p1 t_tokenAt t_bytes t_row N (0 : Int32)) (u0 (
    some (1 : Int32)))
  else
    some (0 : Int32)
def Text_kindNamed_L2 (N : Nat) (t_bytes : Int32) (t_at : Int32) (t_tokenAt : Int32) (t_row : Nat → Int32) : Nat → Int32 → Option ((Int32) ⊕ Unit)
  | 0, _ => none
  | k0 + 1, x1 =>
  if (6 : Int32) < x1 then
    some (.inr ())
  else
    bO (F_Text_tokenSpells N (F_Text_nameOf x1) t_bytes t_at t_tokenAt t_row) ((fun (r13 : Int32) =>
    if r13 = (0 : Int32) then
      Text_kindNamed_L2 N t_bytes t_at t_tokenAt t_row k0 (x1 + (1 : Int32))
    else
      some (.inl x1)))
def F_Text_kindNamed (N : Nat) (t_bytes : Int32) (t_at : Int32) (t_tokenAt : Int32) (t_row : Nat → Int32) : Option (Int32) :=
  bT (Text_kindNamed_L2 N t_bytes t_at t_tokenAt t_row N (0 : Int32)) (u0 (
  some (-4 : Int32)))
def F_Text_nextToken (N : Nat) (t_bytes : Int32) (t_at : Int32) (t_tokenNumber : Int32) (t_row : Nat → Int32) : Option (Int32 × Int32 × Int32 × Int32) :=
  bO (F_Text_endOfRun N t_at (32 : Int32) (32 : Int32) t_bytes t_row) ((fun (r10 : Int32) =>
  bO (F_Text_byteAt r10 t_bytes t_row) ((fun (r21 : Int32) =>
  if r21 = (-1 : Int32) then
    some ((r10 + (1 : Int32)), (-1 : Int32), r10, t_tokenNumber)
  else
    if r21 = (59 : Int32) then
      some ((r10 + (1 : Int32)), (-2 : Int32), r10, t_tokenNumber)
    else
      if (F_S_within r21 (48 : Int32) (57 : Int32)) = (0 : Int32) then
        if (F_S_within r21 (97 : Int32) (122 : Int32)) = (0 : Int32) then
          some ((r10 + (1 : Int32)), (-4 : Int32), r10, t_tokenNumber)
        else
          bO (F_Text_endOfRun N r10 (97 : Int32) (122 : Int32) t_bytes t_row) ((fun (r142 : Int32) =>
          bO (F_Text_kindNamed N t_bytes r142 r10 t_row) ((fun (r150 : Int32) =>
          some (r142, r150, r10, t_tokenNumber)))))
      else
        bO (F_Text_endOfRun N r10 (48 : Int32) (57 : Int32) t_bytes t_row) ((fun (r84 : Int32) =>
        bO (
          if (3 : Int32) < (r84 - r10) then
            some (-4 : Int32)
          else
            some (-3 : Int32)) ((fun (y1 : Int32) =>
        bO (F_Text_readNumber N t_bytes r84 y1 r10 t_row) ((fun (t_tokenNumber'_2 : Int32) =>
        some (r84, y1, r10, t_tokenNumber'_2)))))))))))
def Text_readNumbers_L9 (N : Nat) (t_bytes : Int32) (t_row : Nat → Int32) (p1 : Int32) (t_itemKind'_2 : Nat → Int32) (t_numbersOf : Nat → Int32) (p2 : Int32) : Nat → Int32 → (Nat → Nat → Int32) → Int32 → Int32 → Int32 → Int32 → Option ((Int32 × Int32 × Int32 × Int32 × Int32 × (Nat → Int32) × (Nat → Int32) × (Nat → Nat → Int32)) ⊕ ((Nat → Nat → Int32) × Int32 × Int32 × Int32 × Int32))
  | 0, _, _, _, _, _, _ => none
  | k0 + 1, x3, t_number'_3, t_at'_4, t_token'_4, t_tokenAt'_4, t_tokenNumber'_4 =>
  if (7 : Int32) < x3 then
    some (.inr (t_number'_3, t_at'_4, t_token'_4, t_tokenAt'_4, t_tokenNumber'_4))
  else
    bO (F_Text_nextToken N t_bytes t_at'_4 t_tokenNumber'_4 t_row) (u4 (fun (t_at'_5 : Int32) (t_token'_5 : Int32) (t_tokenAt'_5 : Int32) (t_tokenNumber'_5 : Int32) =>
    bL (
      if t_token'_5 = (-2 : Int32) then
        gd (ixb p1 7) (
        if x3 < (g_LEAST_NUMBERS_OF p1.toNatClampNeg) then
          some (.inr ())
        else
          some (.inl ((-1 : Int32), t_at'_5, t_token'_5, t_tokenAt'_5, t_tokenNumber'_5, t_itemKind'_2, (upd t_numbersOf p2.toNatClampNeg x3), t_number'_3)))
      else
        some (.inr ())) (u0 (
    if t_token'_5 = (-3 : Int32) then
      gd (ixb p1 7) (
      if x3 < (g_MOST_NUMBERS_OF p1.toNatClampNeg) then
        gd (ixb x3 7) (
        Text_readNumbers_L9 N t_bytes t_row p1 t_itemKind'_2 t_numbersOf p2 k0 (x3 + (1 : Int32)) (va_up t_number'_3 p2.toNatClampNeg (upd (t_number'_3 p2.toNatClampNeg) x3.toNatClampNeg t_tokenNumber'_5)) t_at'_5 t_token'_5 t_tokenAt'_5 t_tokenNumber'_5)
      else
        some (.inl (t_tokenAt'_5, t_at'_5, t_token'_5, t_tokenAt'_5, t_tokenNumber'_5, t_itemKind'_2, t_numbersOf, t_number'_3)))
    else
      some (.inl (t_tokenAt'_5, t_at'_5, t_token'_5, t_tokenAt'_5, t_tokenNumber'_5, t_itemKind'_2, t_numbersOf, t_number'_3))))))
def F_Text_readNumbers (N : Nat) (p1 : Int32) (p2 : Int32) (t_bytes : Int32) (t_at : Int32) (t_token : Int32) (t_tokenAt : Int32) (t_tokenNumber : Int32) (t_row : Nat → Int32) (t_itemKind : Nat → Int32) (t_numbersOf : Nat → Int32) (t_number : Nat → Nat → Int32) : Option (Int32 × Int32 × Int32 × Int32 × Int32 × (Nat → Int32) × (Nat → Int32) × (Nat → Nat → Int32)) :=
  gd (ixb p2 34) (
  bT (Text_readNumbers_L9 N t_bytes t_row p1 (upd t_itemKind p2.toNatClampNeg p1) t_numbersOf p2 N (0 : Int32) t_number t_at t_token t_tokenAt t_tokenNumber) (u5 (fun (t_number'_4 : Nat → Nat → Int32) (t_at'_6 : Int32) (t_token'_6 : Int32) (t_tokenAt'_6 : Int32) (t_tokenNumber'_6 : Int32) =>
  some (t_tokenAt'_6, t_at'_6, t_token'_6, t_tokenAt'_6, t_tokenNumber'_6, (upd t_itemKind p2.toNatClampNeg p1), t_numbersOf, t_number'_4))))
def Text_readItems_L12 (N : Nat) (t_bytes : Int32) (t_row : Nat → Int32) : Nat → Int32 → (Nat → Int32) → (Nat → Int32) → (Nat → Nat → Int32) → Int32 → Int32 → Int32 → Int32 → Int32 → Option ((Int32 × Int32 × Int32 × Int32 × Int32 × Int32 × (Nat → Int32) × (Nat → Int32) × (Nat → Nat → Int32)) ⊕ ((Nat → Int32) × (Nat → Int32) × (Nat → Nat → Int32) × Int32 × Int32 × Int32 × Int32 × Int32))
  | 0, _, _, _, _, _, _, _, _, _ => none
  | k0 + 1, x1, t_itemKind'_4, t_numbersOf'_4, t_number'_4, t_at'_5, t_items'_3, t_token'_5, t_tokenAt'_5, t_tokenNumber'_5 =>
  if (34 : Int32) < x1 then
    some (.inr (t_itemKind'_4, t_numbersOf'_4, t_number'_4, t_at'_5, t_items'_3, t_token'_5, t_tokenAt'_5, t_tokenNumber'_5))
  else
    bO (F_Text_nextToken N t_bytes t_at'_5 t_tokenNumber'_5 t_row) (u4 (fun (t_at'_6 : Int32) (t_token'_6 : Int32) (t_tokenAt'_6 : Int32) (t_tokenNumber'_6 : Int32) =>
    if t_token'_6 = (-1 : Int32) then
      some (.inl ((-1 : Int32), t_items'_3, t_at'_6, t_token'_6, t_tokenAt'_6, t_tokenNumber'_6, t_itemKind'_4, t_numbersOf'_4, t_number'_4))
    else
      if t_token'_6 < (0 : Int32) then
        some (.inl (t_tokenAt'_6, t_items'_3, t_at'_6, t_token'_6, t_tokenAt'_6, t_tokenNumber'_6, t_itemKind'_4, t_numbersOf'_4, t_number'_4))
      else
        if x1 = (34 : Int32) then
          some (.inl (t_tokenAt'_6, t_items'_3, t_at'_6, t_token'_6, t_tokenAt'_6, t_tokenNumber'_6, t_itemKind'_4, t_numbersOf'_4, t_number'_4))
        else
          bO (F_Text_readNumbers N t_token'_6 x1 t_bytes t_at'_6 t_token'_6 t_tokenAt'_6 t_tokenNumber'_6 t_row t_itemKind'_4 t_numbersOf'_4 t_number'_4) (u8 (fun (r56 : Int32) (t_at'_7 : Int32) (t_token'_7 : Int32) (t_tokenAt'_7 : Int32) (t_tokenNumber'_7 : Int32) (t_itemKind'_5 : Nat → Int32) (t_numbersOf'_5 : Nat → Int32) (t_number'_5 : Nat → Nat → Int32) =>
          if r56 = (-1 : Int32) then
            Text_readItems_L12 N t_bytes t_row k0 (x1 + (1 : Int32)) t_itemKind'_5 t_numbersOf'_5 t_number'_5 t_at'_7 (t_items'_3 + (1 : Int32)) t_token'_7 t_tokenAt'_7 t_tokenNumber'_7
          else
            some (.inl (r56, t_items'_3, t_at'_7, t_token'_7, t_tokenAt'_7, t_tokenNumber'_7, t_itemKind'_5, t_numbersOf'_5, t_number'_5))))))
def F_Text_readItems (N : Nat) (t_bytes : Int32) (t_token : Int32) (t_tokenAt : Int32) (t_tokenNumber : Int32) (t_row : Nat → Int32) (t_itemKind : Nat → Int32) (t_numbersOf : Nat → Int32) (t_number : Nat → Nat → Int32) : Option (Int32 × Int32 × Int32 × Int32 × Int32 × Int32 × (Nat → Int32) × (Nat → Int32) × (Nat → Nat → Int32)) :=
  bT (Text_readItems_L12 N t_bytes t_row N (0 : Int32) t_itemKind t_numbersOf t_number (0 : Int32) (0 : Int32) t_token t_tokenAt t_tokenNumber) (u8 (fun (t_itemKind'_6 : Nat → Int32) (t_numbersOf'_6 : Nat → Int32) (t_number'_6 : Nat → Nat → Int32) (t_at'_8 : Int32) (t_items'_4 : Int32) (t_token'_8 : Int32) (t_tokenAt'_8 : Int32) (t_tokenNumber'_8 : Int32) =>
  some ((-1 : Int32), t_items'_4, t_at'_8, t_token'_8, t_tokenAt'_8, t_tokenNumber'_8, t_itemKind'_6, t_numbersOf'_6, t_number'_6)))
def F_Floor_copyFrom (t_place : Nat → Int32) (t_way : Nat → Int32) (t_tell : Nat → Int32) (t_look : Nat → Int32) (t_farSquare : Nat → Int32) (p1_pillars : Int64) (p1_weavers : Int32) (p1_place : Nat → Int32) (p1_way : Nat → Int32) (p1_tell : Nat → Int32) (p1_look : Nat → Int32) (p1_farSquare : Nat → Int32) : Option (Int64 × Int32 × (Nat → Int32) × (Nat → Int32) × (Nat → Int32) × (Nat → Int32) × (Nat → Int32)) :=
  some (p1_pillars, p1_weavers, (va_cpy p1_place t_place 0 0 8), (va_cpy p1_way t_way 0 0 8), (va_cpy p1_tell t_tell 0 0 8), (va_cpy p1_look t_look 0 0 8), (va_cpy p1_farSquare t_farSquare 0 0 2))
def F_Sightings_copyFrom (t_weaver : Nat → Int32) (t_second : Nat → Int32) (t_knew : Nat → Int32) (p1_many : Int32) (p1_weaver : Nat → Int32) (p1_second : Nat → Int32) (p1_knew : Nat → Int32) : Option (Int32 × (Nat → Int32) × (Nat → Int32) × (Nat → Int32)) :=
  some (p1_many, (va_cpy p1_weaver t_weaver 0 0 10), (va_cpy p1_second t_second 0 0 10), (va_cpy p1_knew t_knew 0 0 10))
def F_Lexicon_copyFrom (t_length : Nat → Int32) (t_number : Nat → Int32) (t_weight : Nat → Int32) (t_leastLike : Nat → Int32) (t_row : Nat → Int32) (t_lipsOf : Nat → Int32) (p1_words : Int32) (p1_rowLips : Int32) (p1_girlKnows : Int32) (p1_length : Nat → Int32) (p1_number : Nat → Int32) (p1_weight : Nat → Int32) (p1_leastLike : Nat → Int32) (p1_row : Nat → Int32) (p1_lipsOf : Nat → Int32) : Option (Int32 × Int32 × Int32 × (Nat → Int32) × (Nat → Int32) × (Nat → Int32) × (Nat → Int32) × (Nat → Int32) × (Nat → Int32)) :=
  some (p1_words, p1_rowLips, p1_girlKnows, (va_cpy p1_length t_length 0 0 10), (va_cpy p1_number t_number 0 0 10), (va_cpy p1_weight t_weight 0 0 10), (va_cpy p1_leastLike t_leastLike 0 0 6), (va_cpy p1_row t_row 0 0 24), (va_cpy p1_lipsOf t_lipsOf 0 0 60))
def F_Shed_copyFrom (t_floor_place : Nat → Int32) (t_floor_way : Nat → Int32) (t_floor_tell : Nat → Int32) (t_floor_look : Nat → Int32) (t_floor_farSquare : Nat → Int32) (t_sightings_weaver : Nat → Int32) (t_sightings_second : Nat → Int32) (t_sightings_knew : Nat → Int32) (t_lexicon_length : Nat → Int32) (t_lexicon_number : Nat → Int32) (t_lexicon_weight : Nat → Int32) (t_lexicon_leastLike : Nat → Int32) (t_lexicon_row : Nat → Int32) (t_lexicon_lipsOf : Nat → Int32) (t_level : Nat → Int32) (t_loss : Nat → Int32) (p1_clearness : Int32) (p1_floor_pillars : Int64) (p1_floor_weavers : Int32) (p1_floor_place : Nat → Int32) (p1_floor_way : Nat → Int32) (p1_floor_tell : Nat → Int32) (p1_floor_look : Nat → Int32) (p1_floor_farSquare : Nat → Int32) (p1_sightings_many : Int32) (p1_sightings_weaver : Nat → Int32) (p1_sightings_second : Nat → Int32) (p1_sightings_knew : Nat → Int32) (p1_lexicon_words : Int32) (p1_lexicon_rowLips : Int32) (p1_lexicon_girlKnows : Int32) (p1_lexicon_length : Nat → Int32) (p1_lexicon_number : Nat → Int32) (p1_lexicon_weight : Nat → Int32) (p1_lexicon_leastLike : Nat → Int32) (p1_lexicon_row : Nat → Int32) (p1_lexicon_lipsOf : Nat → Int32) (p1_level : Nat → Int32) (p1_loss : Nat → Int32) : Option (Int32 × Int64 × Int32 × (Nat → Int32) × (Nat → Int32) × (Nat → Int32) × (Nat → Int32) × (Nat → Int32) × Int32 × (Nat → Int32) × (Nat → Int32) × (Nat → Int32) × Int32 × Int32 × Int32 × (Nat → Int32) × (Nat → Int32) × (Nat → Int32) × (Nat → Int32) × (Nat → Int32) × (Nat → Int32) × (Nat → Int32) × (Nat → Int32)) :=
  bO (F_Floor_copyFrom t_floor_place t_floor_way t_floor_tell t_floor_look t_floor_farSquare p1_floor_pillars p1_floor_weavers p1_floor_place p1_floor_way p1_floor_tell p1_floor_look p1_floor_farSquare) (u7 (fun (t_floor_pillars'_2 : Int64) (t_floor_weavers'_2 : Int32) (t_floor_place'_2 : Nat → Int32) (t_floor_way'_2 : Nat → Int32) (t_floor_tell'_2 : Nat → Int32) (t_floor_look'_2 : Nat → Int32) (t_floor_farSquare'_2 : Nat → Int32) =>
  bO (F_Sightings_copyFrom t_sightings_weaver t_sightings_second t_sightings_knew p1_sightings_many p1_sightings_weaver p1_sightings_second p1_sightings_knew) (u4 (fun (t_sightings_many'_2 : Int32) (t_sightings_weaver'_2 : Nat → Int32) (t_sightings_second'_2 : Nat → Int32) (t_sightings_knew'_2 : Nat → Int32) =>
  bO (F_Lexicon_copyFrom t_lexicon_length t_lexicon_number t_lexicon_weight t_lexicon_leastLike t_lexicon_row t_lexicon_lipsOf p1_lexicon_words p1_lexicon_rowLips p1_lexicon_girlKnows p1_lexicon_length p1_lexicon_number p1_lexicon_weight p1_lexicon_leastLike p1_lexicon_row p1_lexicon_lipsOf) (u9 (fun (t_lexicon_words'_2 : Int32) (t_lexicon_rowLips'_2 : Int32) (t_lexicon_girlKnows'_2 : Int32) (t_lexicon_length'_2 : Nat → Int32) (t_lexicon_number'_2 : Nat → Int32) (t_lexicon_weight'_2 : Nat → Int32) (t_lexicon_leastLike'_2 : Nat → Int32) (t_lexicon_row'_2 : Nat → Int32) (t_lexicon_lipsOf'_2 : Nat → Int32) =>
  some (p1_clearness, t_floor_pillars'_2, t_floor_weavers'_2, t_floor_place'_2, t_floor_way'_2, t_floor_tell'_2, t_floor_look'_2, t_floor_farSquare'_2, t_sightings_many'_2, t_sightings_weaver'_2, t_sightings_second'_2, t_sightings_knew'_2, t_lexicon_words'_2, t_lexicon_rowLips'_2, t_lexicon_girlKnows'_2, t_lexicon_length'_2, t_lexicon_number'_2, t_lexicon_weight'_2, t_lexicon_leastLike'_2, t_lexicon_row'_2, t_lexicon_lipsOf'_2, (va_cpy p1_level t_level 0 0 6), (va_cpy p1_loss t_loss 0 0 6))))))))
def F_Shed_beginAnew (N : Nat) (t_floor_farSquare : Nat → Int32) (t_lexicon_leastLike : Nat → Int32) : Option (Int64 × Int32 × (Nat → Int32) × Int32 × Int32 × Int32 × Int32 × (Nat → Int32)) :=
  bO (F_Floor_makeEmpty t_floor_farSquare) (u3 (fun (t_floor_pillars'_2 : Int64) (t_floor_weavers'_2 : Int32) (t_floor_farSquare'_2 : Nat → Int32) =>
  bO (F_Lexicon_makeEmpty N t_lexicon_leastLike) (u4 (fun (t_lexicon_words'_2 : Int32) (t_lexicon_rowLips'_2 : Int32) (t_lexicon_girlKnows'_2 : Int32) (t_lexicon_leastLike'_2 : Nat → Int32) =>
  some (t_floor_pillars'_2, t_floor_weavers'_2, t_floor_farSquare'_2, (0 : Int32), t_lexicon_words'_2, t_lexicon_rowLips'_2, t_lexicon_girlKnows'_2, t_lexicon_leastLike'_2)))))
def Text_tellWord_L5 (p2 : Int32) (p1_len : Nat) (p1 : Nat → Int32) (p3_words : Int32) (p3_length : Nat → Int32) (p3_number : Nat → Int32) (p3_weight : Nat → Int32) (p3_lipsOf : Nat → Int32) : Nat → Int32 → Int32 → Option ((Int32 × Int32 × (Nat → Int32) × (Nat → Int32) × (Nat → Int32) × (Nat → Int32)) ⊕ (Int32))
  | 0, _, _ => none
  | k0 + 1, x3, x4 =>
  if p2 < x4 then
    some (.inr x3)
  else
    gd (ixb x4 p1_len) (
    if (p1 x4.toNatClampNeg) < (6 : Int32) then
      Text_tellWord_L5 p2 p1_len p1 p3_words p3_length p3_number p3_weight p3_lipsOf k0 ((x3 * (6 : Int32)) + (p1 x4.toNatClampNeg)) (x4 + (1 : Int32))
    else
      some (.inl ((-2 : Int32), p3_words, p3_length, p3_number, p3_weight, p3_lipsOf)))
def F_Text_tellWord (N : Nat) (p2 : Int32) (p1 : Nat → Int32) (p1_len : Nat) (p3_words : Int32) (p3_length : Nat → Int32) (p3_number : Nat → Int32) (p3_weight : Nat → Int32) (p3_lipsOf : Nat → Int32) : Option (Int32 × Int32 × (Nat → Int32) × (Nat → Int32) × (Nat → Int32) × (Nat → Int32)) :=
  bT (Text_tellWord_L5 p2 p1_len p1 p3_words p3_length p3_number p3_weight p3_lipsOf N (0 : Int32) (1 : Int32)) ((fun (x3_2 : Int32) =>
  gd (ixb (0 : Int32) p1_len) (
  bO (F_Lexicon_addWord N p2 x3_2 (p1 0) p3_words p3_length p3_number p3_weight p3_lipsOf) (u6 (fun (r45 : Int32) (p3_words'_2 : Int32) (p3_length'_2 : Nat → Int32) (p3_number'_2 : Nat → Int32) (p3_weight'_2 : Nat → Int32) (p3_lipsOf'_2 : Nat → Int32) =>
  some (r45, p3_words'_2, p3_length'_2, p3_number'_2, p3_weight'_2, p3_lipsOf'_2))))))
def F_Text_tellItem (N : Nat) (p1 : Int32) (t_items : Int32) (t_itemKind : Nat → Int32) (t_numbersOf : Nat → Int32) (t_number : Nat → Nat → Int32) (p2_floor_pillars : Int64) (p2_floor_weavers : Int32) (p2_floor_place : Nat → Int32) (p2_floor_way : Nat → Int32) (p2_floor_tell : Nat → Int32) (p2_floor_look : Nat → Int32) (p2_floor_farSquare : Nat → Int32) (p2_lexicon_words : Int32) (p2_lexicon_length : Nat → Int32) (p2_lexicon_number : Nat → Int32) (p2_lexicon_weight : Nat → Int32) (p2_lexicon_leastLike : Nat → Int32) (p2_lexicon_lipsOf : Nat → Int32) : Option (Int32 × Int64 × Int32 × (Nat → Int32) × (Nat → Int32) × (Nat → Int32) × (Nat → Int32) × (Nat → Int32) × Int32 × (Nat → Int32) × (Nat → Int32) × (Nat → Int32) × (Nat → Int32) × (Nat → Int32)) :=
  if (F_S_within p1 (0 : Int32) (t_items - (1 : Int32))) = (0 : Int32) then
    some ((-2 : Int32), p2_floor_pillars, p2_floor_weavers, p2_floor_place, p2_floor_way, p2_floor_tell, p2_floor_look, p2_floor_farSquare, p2_lexicon_words, p2_lexicon_length, p2_lexicon_number, p2_lexicon_weight, p2_lexicon_leastLike, p2_lexicon_lipsOf)
  else
    gd (ixb p1 34) (
    if (t_itemKind p1.toNatClampNeg) = (0 : Int32) then
      bO (F_Floor_putPillar N ((t_number p1.toNatClampNeg) 0) p2_floor_pillars p2_floor_weavers p2_floor_place) (u2 (fun (r81 : Int32) (p2_floor_pillars'_2 : Int64) =>
      some (r81, p2_floor_pillars'_2, p2_floor_weavers, p2_floor_place, p2_floor_way, p2_floor_tell, p2_floor_look, p2_floor_farSquare, p2_lexicon_words, p2_lexicon_length, p2_lexicon_number, p2_lexicon_weight, p2_lexicon_leastLike, p2_lexicon_lipsOf)))
    else if (t_itemKind p1.toNatClampNeg) = (1 : Int32) then
      bO (F_Floor_putWeaver N ((t_number p1.toNatClampNeg) 0) ((t_number p1.toNatClampNeg) 1) p2_floor_pillars p2_floor_weavers p2_floor_place p2_floor_way p2_floor_tell p2_floor_look) (u6 (fun (r93 : Int32) (p2_floor_weavers'_2 : Int32) (p2_floor_place'_2 : Nat → Int32) (p2_floor_way'_2 : Nat → Int32) (p2_floor_tell'_4 : Nat → Int32) (p2_floor_look'_4 : Nat → Int32) =>
      some (r93, p2_floor_pillars, p2_floor_weavers'_2, p2_floor_place'_2, p2_floor_way'_2, p2_floor_tell'_4, p2_floor_look'_4, p2_floor_farSquare, p2_lexicon_words, p2_lexicon_length, p2_lexicon_number, p2_lexicon_weight, p2_lexicon_leastLike, p2_lexicon_lipsOf)))
    else if (t_itemKind p1.toNatClampNeg) = (2 : Int32) then
      bO (F_Floor_setFree ((t_number p1.toNatClampNeg) 0) (0 : Int32) ((t_number p1.toNatClampNeg) 1) ((t_number p1.toNatClampNeg) 2) p2_floor_weavers p2_floor_tell p2_floor_look) (u3 (fun (r109 : Int32) (p2_floor_tell'_5 : Nat → Int32) (p2_floor_look'_5 : Nat → Int32) =>
      some (r109, p2_floor_pillars, p2_floor_weavers, p2_floor_place, p2_floor_way, p2_floor_tell'_5, p2_floor_look'_5, p2_floor_farSquare, p2_lexicon_words, p2_lexicon_length, p2_lexicon_number, p2_lexicon_weight, p2_lexicon_leastLike, p2_lexicon_lipsOf)))
    else if (t_itemKind p1.toNatClampNeg) = (3 : Int32) then
      bO (F_Floor_setFree ((t_number p1.toNatClampNeg) 0) (1 : Int32) ((t_number p1.toNatClampNeg) 1) ((t_number p1.toNatClampNeg) 2) p2_floor_weavers p2_floor_tell p2_floor_look) (u3 (fun (r125 : Int32) (p2_floor_tell'_6 : Nat → Int32) (p2_floor_look'_6 : Nat → Int32) =>
      some (r125, p2_floor_pillars, p2_floor_weavers, p2_floor_place, p2_floor_way, p2_floor_tell'_6, p2_floor_look'_6, p2_floor_farSquare, p2_lexicon_words, p2_lexicon_length, p2_lexicon_number, p2_lexicon_weight, p2_lexicon_leastLike, p2_lexicon_lipsOf)))
    else if (t_itemKind p1.toNatClampNeg) = (4 : Int32) then
      bO (F_Floor_setFar (0 : Int32) ((t_number p1.toNatClampNeg) 0) p2_floor_farSquare) (u2 (fun (r135 : Int32) (p2_floor_farSquare'_3 : Nat → Int32) =>
      bO (F_Floor_setFar (1 : Int32) ((t_number p1.toNatClampNeg) 1) p2_floor_farSquare'_3) (u2 (fun (r144 : Int32) (p2_floor_farSquare'_4 : Nat → Int32) =>
      some ((jmin r135 r144), p2_floor_pillars, p2_floor_weavers, p2_floor_place, p2_floor_way, p2_floor_tell, p2_floor_look, p2_floor_farSquare'_4, p2_lexicon_words, p2_lexicon_length, p2_lexicon_number, p2_lexicon_weight, p2_lexicon_leastLike, p2_lexicon_lipsOf)))))
    else if (t_itemKind p1.toNatClampNeg) = (5 : Int32) then
      bO (F_Text_tellWord N ((t_numbersOf p1.toNatClampNeg) - (1 : Int32)) (t_number p1.toNatClampNeg) 7 p2_lexicon_words p2_lexicon_length p2_lexicon_number p2_lexicon_weight p2_lexicon_lipsOf) (u6 (fun (r164 : Int32) (p2_lexicon_words'_2 : Int32) (p2_lexicon_length'_2 : Nat → Int32) (p2_lexicon_number'_2 : Nat → Int32) (p2_lexicon_weight'_2 : Nat → Int32) (p2_lexicon_lipsOf'_2 : Nat → Int32) =>
      some (r164, p2_floor_pillars, p2_floor_weavers, p2_floor_place, p2_floor_way, p2_floor_tell, p2_floor_look, p2_floor_farSquare, p2_lexicon_words'_2, p2_lexicon_length'_2, p2_lexicon_number'_2, p2_lexicon_weight'_2, p2_lexicon_leastLike, p2_lexicon_lipsOf'_2)))
    else 
      bO (F_Lexicon_makeAlike N ((t_number p1.toNatClampNeg) 0) ((t_number p1.toNatClampNeg) 1) p2_lexicon_leastLike) (u2 (fun (r178 : Int32) (p2_lexicon_leastLike'_2 : Nat → Int32) =>
      some (r178, p2_floor_pillars, p2_floor_weavers, p2_floor_place, p2_floor_way, p2_floor_tell, p2_floor_look, p2_floor_farSquare, p2_lexicon_words, p2_lexicon_length, p2_lexicon_number, p2_lexicon_weight, p2_lexicon_leastLike'_2, p2_lexicon_lipsOf))))
def S_shed_L38 (N : Nat) (t_text_items'_2 : Int32) (t_text_itemKind'_2 : Nat → Int32) (t_text_numbersOf'_2 : Nat → Int32) (t_text_number'_2 : Nat → Nat → Int32) (t_now_clearness : Int32) (t_now_floor_pillars : Int64) (t_now_floor_weavers : Int32) (t_now_floor_place : Nat → Int32) (t_now_floor_way : Nat → Int32) (t_now_floor_tell : Nat → Int32) (t_now_floor_look : Nat → Int32) (t_now_floor_farSquare : Nat → Int32) (t_now_sightings_many : Int32) (t_now_sightings_weaver : Nat → Int32) (t_now_sightings_second : Nat → Int32) (t_now_sightings_knew : Nat → Int32) (t_now_lexicon_words : Int32) (t_now_lexicon_rowLips : Int32) (t_now_lexicon_girlKnows : Int32) (t_now_lexicon_length : Nat → Int32) (t_now_lexicon_number : Nat → Int32) (t_now_lexicon_weight : Nat → Int32) (t_now_lexicon_leastLike : Nat → Int32) (t_now_lexicon_row : Nat → Int32) (t_now_lexicon_lipsOf : Nat → Int32) (t_now_level : Nat → Int32) (t_now_loss : Nat → Int32) (t_draft_clearness'_2 : Int32) (t_draft_sightings_many'_4 : Int32) (t_draft_sightings_weaver'_2 : Nat → Int32) (t_draft_sightings_second'_2 : Nat → Int32) (t_draft_sightings_knew'_2 : Nat → Int32) (t_draft_lexicon_rowLips'_4 : Int32) (t_draft_lexicon_girlKnows'_4 : Int32) (t_draft_lexicon_row'_2 : Nat → Int32) (t_draft_level'_2 : Nat → Int32) (t_draft_loss'_2 : Nat → Int32) (t_text_at'_2 : Int32) (t_text_token'_2 : Int32) (t_text_tokenAt'_2 : Int32) (t_text_tokenNumber'_2 : Int32) : Nat → Int32 → (Nat → Int32) → (Nat → Int32) → (Nat → Int32) → (Nat → Int32) → (Nat → Int32) → Int64 → Int32 → (Nat → Int32) → (Nat → Int32) → (Nat → Int32) → (Nat → Int32) → (Nat → Int32) → Int32 → Option ((Int32 × Int32 × Int64 × Int32 × (Nat → Int32) × (Nat → Int32) × (Nat → Int32) × (Nat → Int32) × (Nat → Int32) × Int32 × (Nat → Int32) × (Nat → Int32) × (Nat → Int32) × Int32 × Int32 × Int32 × (Nat → Int32) × (Nat → Int32) × (Nat → Int32) × (Nat → Int32) × (Nat → Int32) × (Nat → Int32) × (Nat → Int32) × (Nat → Int32) × Int32 × Int64 × Int32 × (Nat → Int32) × (Nat → Int32) × (Nat → Int32) × (Nat → Int32) × (Nat → Int32) × Int32 × (Nat → Int32) × (Nat → Int32) × (Nat → Int32) × Int32 × Int32 × Int32 × (Nat → Int32) × (Nat → Int32) × (Nat → Int32) × (Nat → Int32) × (Nat → Int32) × (Nat → Int32) × (Nat → Int32) × (Nat → Int32) × Int32 × Int32 × Int32 × Int32 × Int32 × (Nat → Int32) × (Nat → Int32) × (Nat → Nat → Int32)) ⊕ ((Nat → Int32) × (Nat → Int32) × (Nat → Int32) × (Nat → Int32) × (Nat → Int32) × Int64 × Int32 × (Nat → Int32) × (Nat → Int32) × (Nat → Int32) × (Nat → Int32) × (Nat → Int32) × Int32))
  | 0, _, _, _, _, _, _, _, _, _, _, _, _, _, _ => none
  | k0 + 1, x2, t_draft_floor_place'_6, t_draft_floor_way'_6, t_draft_floor_tell'_6, t_draft_floor_look'_6, t_draft_floor_farSquare'_8, t_draft_floor_pillars'_8, t_draft_floor_weavers'_8, t_draft_lexicon_length'_6, t_draft_lexicon_number'_6, t_draft_lexicon_weight'_6, t_draft_lexicon_leastLike'_8, t_draft_lexicon_lipsOf'_6, t_draft_lexicon_words'_8 =>
  if t_text_items'_2 ≤ x2 then
    some (.inr (t_draft_floor_place'_6, t_draft_floor_way'_6, t_draft_floor_tell'_6, t_draft_floor_look'_6, t_draft_floor_farSquare'_8, t_draft_floor_pillars'_8, t_draft_floor_weavers'_8, t_draft_lexicon_length'_6, t_draft_lexicon_number'_6, t_draft_lexicon_weight'_6, t_draft_lexicon_leastLike'_8, t_draft_lexicon_lipsOf'_6, t_draft_lexicon_words'_8))
  else
    bO (F_Text_tellItem N x2 t_text_items'_2 t_text_itemKind'_2 t_text_numbersOf'_2 t_text_number'_2 t_draft_floor_pillars'_8 t_draft_floor_weavers'_8 t_draft_floor_place'_6 t_draft_floor_way'_6 t_draft_floor_tell'_6 t_draft_floor_look'_6 t_draft_floor_farSquare'_8 t_draft_lexicon_words'_8 t_draft_lexicon_length'_6 t_draft_lexicon_number'_6 t_draft_lexicon_weight'_6 t_draft_lexicon_leastLike'_8 t_draft_lexicon_lipsOf'_6) (u14 (fun (r58 : Int32) (t_draft_floor_pillars'_9 : Int64) (t_draft_floor_weavers'_9 : Int32) (t_draft_floor_place'_7 : Nat → Int32) (t_draft_floor_way'_7 : Nat → Int32) (t_draft_floor_tell'_7 : Nat → Int32) (t_draft_floor_look'_7 : Nat → Int32) (t_draft_floor_farSquare'_9 : Nat → Int32) (t_draft_lexicon_words'_9 : Int32) (t_draft_lexicon_length'_7 : Nat → Int32) (t_draft_lexicon_number'_7 : Nat → Int32) (t_draft_lexicon_weight'_7 : Nat → Int32) (t_draft_lexicon_leastLike'_9 : Nat → Int32) (t_draft_lexicon_lipsOf'_7 : Nat → Int32) =>
    if (0 : Int32) ≤ r58 then
      S_shed_L38 N t_text_items'_2 t_text_itemKind'_2 t_text_numbersOf'_2 t_text_number'_2 t_now_clearness t_now_floor_pillars t_now_floor_weavers t_now_floor_place t_now_floor_way t_now_floor_tell t_now_floor_look t_now_floor_farSquare t_now_sightings_many t_now_sightings_weaver t_now_sightings_second t_now_sightings_knew t_now_lexicon_words t_now_lexicon_rowLips t_now_lexicon_girlKnows t_now_lexicon_length t_now_lexicon_number t_now_lexicon_weight t_now_lexicon_leastLike t_now_lexicon_row t_now_lexicon_lipsOf t_now_level t_now_loss t_draft_clearness'_2 t_draft_sightings_many'_4 t_draft_sightings_weaver'_2 t_draft_sightings_second'_2 t_draft_sightings_knew'_2 t_draft_lexicon_rowLips'_4 t_draft_lexicon_girlKnows'_4 t_draft_lexicon_row'_2 t_draft_level'_2 t_draft_loss'_2 t_text_at'_2 t_text_token'_2 t_text_tokenAt'_2 t_text_tokenNumber'_2 k0 (x2 + (1 : Int32)) t_draft_floor_place'_7 t_draft_floor_way'_7 t_draft_floor_tell'_7 t_draft_floor_look'_7 t_draft_floor_farSquare'_9 t_draft_floor_pillars'_9 t_draft_floor_weavers'_9 t_draft_lexicon_length'_7 t_draft_lexicon_number'_7 t_draft_lexicon_weight'_7 t_draft_lexicon_leastLike'_9 t_draft_lexicon_lipsOf'_7 t_draft_lexicon_words'_9
    else
      some (.inl (((-1000 : Int32) - x2), t_now_clearness, t_now_floor_pillars, t_now_floor_weavers, t_now_floor_place, t_now_floor_way, t_now_floor_tell, t_now_floor_look, t_now_floor_farSquare, t_now_sightings_many, t_now_sightings_weaver, t_now_sightings_second, t_now_sightings_knew, t_now_lexicon_words, t_now_lexicon_rowLips, t_now_lexicon_girlKnows, t_now_lexicon_length, t_now_lexicon_number, t_now_lexicon_weight, t_now_lexicon_leastLike, t_now_lexicon_row, t_now_lexicon_lipsOf, t_now_level, t_now_loss, t_draft_clearness'_2, t_draft_floor_pillars'_9, t_draft_floor_weavers'_9, t_draft_floor_place'_7, t_draft_floor_way'_7, t_draft_floor_tell'_7, t_draft_floor_look'_7, t_draft_floor_farSquare'_9, t_draft_sightings_many'_4, t_draft_sightings_weaver'_2, t_draft_sightings_second'_2, t_draft_sightings_knew'_2, t_draft_lexicon_words'_9, t_draft_lexicon_rowLips'_4, t_draft_lexicon_girlKnows'_4, t_draft_lexicon_length'_7, t_draft_lexicon_number'_7, t_draft_lexicon_weight'_7, t_draft_lexicon_leastLike'_9, t_draft_lexicon_row'_2, t_draft_lexicon_lipsOf'_7, t_draft_level'_2, t_draft_loss'_2, t_text_items'_2, t_text_at'_2, t_text_token'_2, t_text_tokenAt'_2, t_text_tokenNumber'_2, t_text_itemKind'_2, t_text_numbersOf'_2, t_text_number'_2))))
def F_S_shed (N : Nat) (t_now_clearness : Int32) (t_now_floor_pillars : Int64) (t_now_floor_weavers : Int32) (t_now_floor_place : Nat → Int32) (t_now_floor_way : Nat → Int32) (t_now_floor_tell : Nat → Int32) (t_now_floor_look : Nat → Int32) (t_now_floor_farSquare : Nat → Int32) (t_now_sightings_many : Int32) (t_now_sightings_weaver : Nat → Int32) (t_now_sightings_second : Nat → Int32) (t_now_sightings_knew : Nat → Int32) (t_now_lexicon_words : Int32) (t_now_lexicon_rowLips : Int32) (t_now_lexicon_girlKnows : Int32) (t_now_lexicon_length : Nat → Int32) (t_now_lexicon_number : Nat → Int32) (t_now_lexicon_weight : Nat → Int32) (t_now_lexicon_leastLike : Nat → Int32) (t_now_lexicon_row : Nat → Int32) (t_now_lexicon_lipsOf : Nat → Int32) (t_now_level : Nat → Int32) (t_now_loss : Nat → Int32) (t_draft_clearness : Int32) (t_draft_floor_pillars : Int64) (t_draft_floor_weavers : Int32) (t_draft_floor_place : Nat → Int32) (t_draft_floor_way : Nat → Int32) (t_draft_floor_tell : Nat → Int32) (t_draft_floor_look : Nat → Int32) (t_draft_floor_farSquare : Nat → Int32) (t_draft_sightings_many : Int32) (t_draft_sightings_weaver : Nat → Int32) (t_draft_sightings_second : Nat → Int32) (t_draft_sightings_knew : Nat → Int32) (t_draft_lexicon_words : Int32) (t_draft_lexicon_rowLips : Int32) (t_draft_lexicon_girlKnows : Int32) (t_draft_lexicon_length : Nat → Int32) (t_draft_lexicon_number : Nat → Int32) (t_draft_lexicon_weight : Nat → Int32) (t_draft_lexicon_leastLike : Nat → Int32) (t_draft_lexicon_row : Nat → Int32) (t_draft_lexicon_lipsOf : Nat → Int32) (t_draft_level : Nat → Int32) (t_draft_loss : Nat → Int32) (t_text_bytes : Int32) (t_text_token : Int32) (t_text_tokenAt : Int32) (t_text_tokenNumber : Int32) (t_text_row : Nat → Int32) (t_text_itemKind : Nat → Int32) (t_text_numbersOf : Nat → Int32) (t_text_number : Nat → Nat → Int32) : Option (Int32 × Int32 × Int64 × Int32 × (Nat → Int32) × (Nat → Int32) × (Nat → Int32) × (Nat → Int32) × (Nat → Int32) × Int32 × (Nat → Int32) × (Nat → Int32) × (Nat → Int32) × Int32 × Int32 × Int32 × (Nat → Int32) × (Nat → Int32) × (Nat → Int32) × (Nat → Int32) × (Nat → Int32) × (Nat → Int32) × (Nat → Int32) × (Nat → Int32) × Int32 × Int64 × Int32 × (Nat → Int32) × (Nat → Int32) × (Nat → Int32) × (Nat → Int32) × (Nat → Int32) × Int32 × (Nat → Int32) × (Nat → Int32) × (Nat → Int32) × Int32 × Int32 × Int32 × (Nat → Int32) × (Nat → Int32) × (Nat → Int32) × (Nat → Int32) × (Nat → Int32) × (Nat → Int32) × (Nat → Int32) × (Nat → Int32) × Int32 × Int32 × Int32 × Int32 × Int32 × (Nat → Int32) × (Nat → Int32) × (Nat → Nat → Int32)) :=
  bO (F_Text_readItems N t_text_bytes t_text_token t_text_tokenAt t_text_tokenNumber t_text_row t_text_itemKind t_text_numbersOf t_text_number) (u9 (fun (r4 : Int32) (t_text_items'_2 : Int32) (t_text_at'_2 : Int32) (t_text_token'_2 : Int32) (t_text_tokenAt'_2 : Int32) (t_text_tokenNumber'_2 : Int32) (t_text_itemKind'_2 : Nat → Int32) (t_text_numbersOf'_2 : Nat → Int32) (t_text_number'_2 : Nat → Nat → Int32) =>
  if r4 = (-1 : Int32) then
    bO (F_Shed_copyFrom t_draft_floor_place t_draft_floor_way t_draft_floor_tell t_draft_floor_look t_draft_floor_farSquare t_draft_sightings_weaver t_draft_sightings_second t_draft_sightings_knew t_draft_lexicon_length t_draft_lexicon_number t_draft_lexicon_weight t_draft_lexicon_leastLike t_draft_lexicon_row t_draft_lexicon_lipsOf t_draft_level t_draft_loss t_now_clearness t_now_floor_pillars t_now_floor_weavers t_now_floor_place t_now_floor_way t_now_floor_tell t_now_floor_look t_now_floor_farSquare t_now_sightings_many t_now_sightings_weaver t_now_sightings_second t_now_sightings_knew t_now_lexicon_words t_now_lexicon_rowLips t_now_lexicon_girlKnows t_now_lexicon_length t_now_lexicon_number t_now_lexicon_weight t_now_lexicon_leastLike t_now_lexicon_row t_now_lexicon_lipsOf t_now_level t_now_loss) (u23 (fun (t_draft_clearness'_2 : Int32) (t_draft_floor_pillars'_6 : Int64) (t_draft_floor_weavers'_6 : Int32) (t_draft_floor_place'_5 : Nat → Int32) (t_draft_floor_way'_5 : Nat → Int32) (t_draft_floor_tell'_5 : Nat → Int32) (t_draft_floor_look'_5 : Nat → Int32) (t_draft_floor_farSquare'_6 : Nat → Int32) (t_draft_sightings_many'_3 : Int32) (t_draft_sightings_weaver'_2 : Nat → Int32) (t_draft_sightings_second'_2 : Nat → Int32) (t_draft_sightings_knew'_2 : Nat → Int32) (t_draft_lexicon_words'_6 : Int32) (t_draft_lexicon_rowLips'_3 : Int32) (t_draft_lexicon_girlKnows'_3 : Int32) (t_draft_lexicon_length'_5 : Nat → Int32) (t_draft_lexicon_number'_5 : Nat → Int32) (t_draft_lexicon_weight'_5 : Nat → Int32) (t_draft_lexicon_leastLike'_6 : Nat → Int32) (t_draft_lexicon_row'_2 : Nat → Int32) (t_draft_lexicon_lipsOf'_5 : Nat → Int32) (t_draft_level'_2 : Nat → Int32) (t_draft_loss'_2 : Nat → Int32) =>
    bO (F_Shed_beginAnew N t_draft_floor_farSquare'_6 t_draft_lexicon_leastLike'_6) (u8 (fun (t_draft_floor_pillars'_7 : Int64) (t_draft_floor_weavers'_7 : Int32) (t_draft_floor_farSquare'_7 : Nat → Int32) (t_draft_sightings_many'_4 : Int32) (t_draft_lexicon_words'_7 : Int32) (t_draft_lexicon_rowLips'_4 : Int32) (t_draft_lexicon_girlKnows'_4 : Int32) (t_draft_lexicon_leastLike'_7 : Nat → Int32) =>
    bT (S_shed_L38 N t_text_items'_2 t_text_itemKind'_2 t_text_numbersOf'_2 t_text_number'_2 t_now_clearness t_now_floor_pillars t_now_floor_weavers t_now_floor_place t_now_floor_way t_now_floor_tell t_now_floor_look t_now_floor_farSquare t_now_sightings_many t_now_sightings_weaver t_now_sightings_second t_now_sightings_knew t_now_lexicon_words t_now_lexicon_rowLips t_now_lexicon_girlKnows t_now_lexicon_length t_now_lexicon_number t_now_lexicon_weight t_now_lexicon_leastLike t_now_lexicon_row t_now_lexicon_lipsOf t_now_level t_now_loss t_draft_clearness'_2 t_draft_sightings_many'_4 t_draft_sightings_weaver'_2 t_draft_sightings_second'_2 t_draft_sightings_knew'_2 t_draft_lexicon_rowLips'_4 t_draft_lexicon_girlKnows'_4 t_draft_lexicon_row'_2 t_draft_level'_2 t_draft_loss'_2 t_text_at'_2 t_text_token'_2 t_text_tokenAt'_2 t_text_tokenNumber'_2 N (0 : Int32) t_draft_floor_place'_5 t_draft_floor_way'_5 t_draft_floor_tell'_5 t_draft_floor_look'_5 t_draft_floor_farSquare'_7 t_draft_floor_pillars'_7 t_draft_floor_weavers'_7 t_draft_lexicon_length'_5 t_draft_lexicon_number'_5 t_draft_lexicon_weight'_5 t_draft_lexicon_leastLike'_7 t_draft_lexicon_lipsOf'_5 t_draft_lexicon_words'_7) (u13 (fun (t_draft_floor_place'_8 : Nat → Int32) (t_draft_floor_way'_8 : Nat → Int32) (t_draft_floor_tell'_8 : Nat → Int32) (t_draft_floor_look'_8 : Nat → Int32) (t_draft_floor_farSquare'_10 : Nat → Int32) (t_draft_floor_pillars'_10 : Int64) (t_draft_floor_weavers'_10 : Int32) (t_draft_lexicon_length'_8 : Nat → Int32) (t_draft_lexicon_number'_8 : Nat → Int32) (t_draft_lexicon_weight'_8 : Nat → Int32) (t_draft_lexicon_leastLike'_10 : Nat → Int32) (t_draft_lexicon_lipsOf'_8 : Nat → Int32) (t_draft_lexicon_words'_10 : Int32) =>
    bO (F_Shed_copyFrom t_now_floor_place t_now_floor_way t_now_floor_tell t_now_floor_look t_now_floor_farSquare t_now_sightings_weaver t_now_sightings_second t_now_sightings_knew t_now_lexicon_length t_now_lexicon_number t_now_lexicon_weight t_now_lexicon_leastLike t_now_lexicon_row t_now_lexicon_lipsOf t_now_level t_now_loss t_draft_clearness'_2 t_draft_floor_pillars'_10 t_draft_floor_weavers'_10 t_draft_floor_place'_8 t_draft_floor_way'_8 t_draft_floor_tell'_8 t_draft_floor_look'_8 t_draft_floor_farSquare'_10 t_draft_sightings_many'_4 t_draft_sightings_weaver'_2 t_draft_sightings_second'_2 t_draft_sightings_knew'_2 t_draft_lexicon_words'_10 t_draft_lexicon_rowLips'_4 t_draft_lexicon_girlKnows'_4 t_draft_lexicon_length'_8 t_draft_lexicon_number'_8 t_draft_lexicon_weight'_8 t_draft_lexicon_leastLike'_10 t_draft_lexicon_row'_2 t_draft_lexicon_lipsOf'_8 t_draft_level'_2 t_draft_loss'_2) (u23 (fun (t_now_clearness'_2 : Int32) (t_now_floor_pillars'_2 : Int64) (t_now_floor_weavers'_2 : Int32) (t_now_floor_place'_2 : Nat → Int32) (t_now_floor_way'_2 : Nat → Int32) (t_now_floor_tell'_2 : Nat → Int32) (t_now_floor_look'_2 : Nat → Int32) (t_now_floor_farSquare'_2 : Nat → Int32) (t_now_sightings_many'_2 : Int32) (t_now_sightings_weaver'_2 : Nat → Int32) (t_now_sightings_second'_2 : Nat → Int32) (t_now_sightings_knew'_2 : Nat → Int32) (t_now_lexicon_words'_2 : Int32) (t_now_lexicon_rowLips'_2 : Int32) (t_now_lexicon_girlKnows'_2 : Int32) (t_now_lexicon_length'_2 : Nat → Int32) (t_now_lexicon_number'_2 : Nat → Int32) (t_now_lexicon_weight'_2 : Nat → Int32) (t_now_lexicon_leastLike'_2 : Nat → Int32) (t_now_lexicon_row'_2 : Nat → Int32) (t_now_lexicon_lipsOf'_2 : Nat → Int32) (t_now_level'_2 : Nat → Int32) (t_now_loss'_2 : Nat → Int32) =>
    some (t_text_items'_2, t_now_clearness'_2, t_now_floor_pillars'_2, t_now_floor_weavers'_2, t_now_floor_place'_2, t_now_floor_way'_2, t_now_floor_tell'_2, t_now_floor_look'_2, t_now_floor_farSquare'_2, t_now_sightings_many'_2, t_now_sightings_weaver'_2, t_now_sightings_second'_2, t_now_sightings_knew'_2, t_now_lexicon_words'_2, t_now_lexicon_rowLips'_2, t_now_lexicon_girlKnows'_2, t_now_lexicon_length'_2, t_now_lexicon_number'_2, t_now_lexicon_weight'_2, t_now_lexicon_leastLike'_2, t_now_lexicon_row'_2, t_now_lexicon_lipsOf'_2, t_now_level'_2, t_now_loss'_2, t_draft_clearness'_2, t_draft_floor_pillars'_10, t_draft_floor_weavers'_10, t_draft_floor_place'_8, t_draft_floor_way'_8, t_draft_floor_tell'_8, t_draft_floor_look'_8, t_draft_floor_farSquare'_10, t_draft_sightings_many'_4, t_draft_sightings_weaver'_2, t_draft_sightings_second'_2, t_draft_sightings_knew'_2, t_draft_lexicon_words'_10, t_draft_lexicon_rowLips'_4, t_draft_lexicon_girlKnows'_4, t_draft_lexicon_length'_8, t_draft_lexicon_number'_8, t_draft_lexicon_weight'_8, t_draft_lexicon_leastLike'_10, t_draft_lexicon_row'_2, t_draft_lexicon_lipsOf'_8, t_draft_level'_2, t_draft_loss'_2, t_text_items'_2, t_text_at'_2, t_text_token'_2, t_text_tokenAt'_2, t_text_tokenNumber'_2, t_text_itemKind'_2, t_text_numbersOf'_2, t_text_number'_2)))))))))
  else
    some (((-10 : Int32) - r4), t_now_clearness, t_now_floor_pillars, t_now_floor_weavers, t_now_floor_place, t_now_floor_way, t_now_floor_tell, t_now_floor_look, t_now_floor_farSquare, t_now_sightings_many, t_now_sightings_weaver, t_now_sightings_second, t_now_sightings_knew, t_now_lexicon_words, t_now_lexicon_rowLips, t_now_lexicon_girlKnows, t_now_lexicon_length, t_now_lexicon_number, t_now_lexicon_weight, t_now_lexicon_leastLike, t_now_lexicon_row, t_now_lexicon_lipsOf, t_now_level, t_now_loss, t_draft_clearness, t_draft_floor_pillars, t_draft_floor_weavers, t_draft_floor_place, t_draft_floor_way, t_draft_floor_tell, t_draft_floor_look, t_draft_floor_farSquare, t_draft_sightings_many, t_draft_sightings_weaver, t_draft_sightings_second, t_draft_sightings_knew, t_draft_lexicon_words, t_draft_lexicon_rowLips, t_draft_lexicon_girlKnows, t_draft_lexicon_length, t_draft_lexicon_number, t_draft_lexicon_weight, t_draft_lexicon_leastLike, t_draft_lexicon_row, t_draft_lexicon_lipsOf, t_draft_level, t_draft_loss, t_text_items'_2, t_text_at'_2, t_text_token'_2, t_text_tokenAt'_2, t_text_tokenNumber'_2, t_text_itemKind'_2, t_text_numbersOf'_2, t_text_number'_2)))
def F_Fraction_signNumber (t_above_limbs : Int32) : Int32 :=
  if t_above_limbs = (0 : Int32) then
    (0 : Int32)
  else
    (1 : Int32)
def F_S_sign (p1 : Int32) (t_fraction_above_limbs : Int32) (t_fraction_below_limbs : Int32) : Int32 :=
  if p1 = (0 : Int32) then
    (F_Fraction_signNumber t_fraction_above_limbs)
  else if p1 = (1 : Int32) then
    t_fraction_above_limbs
  else if p1 = (2 : Int32) then
    t_fraction_below_limbs
  else 
    (-2 : Int32)
def F_Natural_limbAt (p1 : Int32) (t_limbs : Int32) (t_limb : Nat → Int32) : Option (Int32) :=
  if (F_S_within p1 (0 : Int32) (t_limbs - (1 : Int32))) = (0 : Int32) then
    some (-1 : Int32)
  else
    gd (ixb p1 40) (
    some (t_limb p1.toNatClampNeg))
def F_S_limb (p1 : Int32) (p2 : Int32) (t_fraction_above_limbs : Int32) (t_fraction_above_limb : Nat → Int32) (t_fraction_below_limbs : Int32) (t_fraction_below_limb : Nat → Int32) : Option (Int32) :=
  if (F_S_within p1 (0 : Int32) (1 : Int32)) = (0 : Int32) then
    some (-2 : Int32)
  else
    if (0 : Int32) ≤ p2 then
      if p1 = (0 : Int32) then
        bO (F_Natural_limbAt p2 t_fraction_above_limbs t_fraction_above_limb) ((fun (r28 : Int32) =>
        some r28))
      else
        bO (F_Natural_limbAt p2 t_fraction_below_limbs t_fraction_below_limb) ((fun (r42 : Int32) =>
        some r42))
    else
      some (-2 : Int32)
def F_S_image (p1 : Int32) (t_now_clearness : Int32) (t_now_floor_pillars : Int64) (t_now_floor_weavers : Int32) (t_now_floor_place : Nat → Int32) (t_now_floor_way : Nat → Int32) (t_now_floor_tell : Nat → Int32) (t_now_floor_look : Nat → Int32) (t_now_floor_farSquare : Nat → Int32) (t_now_sightings_many : Int32) (t_now_sightings_weaver : Nat → Int32) (t_now_sightings_second : Nat → Int32) (t_now_sightings_knew : Nat → Int32) (t_now_lexicon_words : Int32) (t_now_lexicon_rowLips : Int32) (t_now_lexicon_girlKnows : Int32) (t_now_lexicon_length : Nat → Int32) (t_now_lexicon_number : Nat → Int32) (t_now_lexicon_weight : Nat → Int32) (t_now_lexicon_leastLike : Nat → Int32) (t_now_lexicon_row : Nat → Int32) (t_now_lexicon_lipsOf : Nat → Int32) (t_now_level : Nat → Int32) (t_now_loss : Nat → Int32) (t_firstImage_clearness : Int32) (t_firstImage_isKept : Int32) (t_firstImage_floor_pillars : Int64) (t_firstImage_floor_weavers : Int32) (t_firstImage_floor_place : Nat → Int32) (t_firstImage_floor_way : Nat → Int32) (t_firstImage_floor_tell : Nat → Int32) (t_firstImage_floor_look : Nat → Int32) (t_firstImage_floor_farSquare : Nat → Int32) (t_firstImage_sightings_many : Int32) (t_firstImage_sightings_weaver : Nat → Int32) (t_firstImage_sightings_second : Nat → Int32) (t_firstImage_sightings_knew : Nat → Int32) (t_firstImage_lexicon_words : Int32) (t_firstImage_lexicon_rowLips : Int32) (t_firstImage_lexicon_girlKnows : Int32) (t_firstImage_lexicon_length : Nat → Int32) (t_firstImage_lexicon_number : Nat → Int32) (t_firstImage_lexicon_weight : Nat → Int32) (t_firstImage_lexicon_leastLike : Nat → Int32) (t_firstImage_lexicon_row : Nat → Int32) (t_firstImage_lexicon_lipsOf : Nat → Int32) (t_firstImage_level : Nat → Int32) (t_firstImage_loss : Nat → Int32) (t_secondImage_clearness : Int32) (t_secondImage_isKept : Int32) (t_secondImage_floor_pillars : Int64) (t_secondImage_floor_weavers : Int32) (t_secondImage_floor_place : Nat → Int32) (t_secondImage_floor_way : Nat → Int32) (t_secondImage_floor_tell : Nat → Int32) (t_secondImage_floor_look : Nat → Int32) (t_secondImage_floor_farSquare : Nat → Int32) (t_secondImage_sightings_many : Int32) (t_secondImage_sightings_weaver : Nat → Int32) (t_secondImage_sightings_second : Nat → Int32) (t_secondImage_sightings_knew : Nat → Int32) (t_secondImage_lexicon_words : Int32) (t_secondImage_lexicon_rowLips : Int32) (t_secondImage_lexicon_girlKnows : Int32) (t_secondImage_lexicon_length : Nat → Int32) (t_secondImage_lexicon_number : Nat → Int32) (t_secondImage_lexicon_weight : Nat → Int32) (t_secondImage_lexicon_leastLike : Nat → Int32) (t_secondImage_lexicon_row : Nat → Int32) (t_secondImage_lexicon_lipsOf : Nat → Int32) (t_secondImage_level : Nat → Int32) (t_secondImage_loss : Nat → Int32) : Option (Int32 × Int32 × Int32 × Int64 × Int32 × (Nat → Int32) × (Nat → Int32) × (Nat → Int32) × (Nat → Int32) × (Nat → Int32) × Int32 × (Nat → Int32) × (Nat → Int32) × (Nat → Int32) × Int32 × Int32 × Int32 × (Nat → Int32) × (Nat → Int32) × (Nat → Int32) × (Nat → Int32) × (Nat → Int32) × (Nat → Int32) × (Nat → Int32) × (Nat → Int32) × Int32 × Int32 × Int64 × Int32 × (Nat → Int32) × (Nat → Int32) × (Nat → Int32) × (Nat → Int32) × (Nat → Int32) × Int32 × (Nat → Int32) × (Nat → Int32) × (Nat → Int32) × Int32 × Int32 × Int32 × (Nat → Int32) × (Nat → Int32) × (Nat → Int32) × (Nat → Int32) × (Nat → Int32) × (Nat → Int32) × (Nat → Int32) × (Nat → Int32)) :=
  if (F_S_within p1 (0 : Int32) (1 : Int32)) = (0 : Int32) then
    some ((-2 : Int32), t_firstImage_clearness, t_firstImage_isKept, t_firstImage_floor_pillars, t_firstImage_floor_weavers, t_firstImage_floor_place, t_firstImage_floor_way, t_firstImage_floor_tell, t_firstImage_floor_look, t_firstImage_floor_farSquare, t_firstImage_sightings_many, t_firstImage_sightings_weaver, t_firstImage_sightings_second, t_firstImage_sightings_knew, t_firstImage_lexicon_words, t_firstImage_lexicon_rowLips, t_firstImage_lexicon_girlKnows, t_firstImage_lexicon_length, t_firstImage_lexicon_number, t_firstImage_lexicon_weight, t_firstImage_lexicon_leastLike, t_firstImage_lexicon_row, t_firstImage_lexicon_lipsOf, t_firstImage_level, t_firstImage_loss, t_secondImage_clearness, t_secondImage_isKept, t_secondImage_floor_pillars, t_secondImage_floor_weavers, t_secondImage_floor_place, t_secondImage_floor_way, t_secondImage_floor_tell, t_secondImage_floor_look, t_secondImage_floor_farSquare, t_secondImage_sightings_many, t_secondImage_sightings_weaver, t_secondImage_sightings_second, t_secondImage_sightings_knew, t_secondImage_lexicon_words, t_secondImage_lexicon_rowLips, t_secondImage_lexicon_girlKnows, t_secondImage_lexicon_length, t_secondImage_lexicon_number, t_secondImage_lexicon_weight, t_secondImage_lexicon_leastLike, t_secondImage_lexicon_row, t_secondImage_lexicon_lipsOf, t_secondImage_level, t_secondImage_loss)
  else
    if p1 = (0 : Int32) then
      bO (F_Shed_copyFrom t_firstImage_floor_place t_firstImage_floor_way t_firstImage_floor_tell t_firstImage_floor_look t_firstImage_floor_farSquare t_firstImage_sightings_weaver t_firstImage_sightings_second t_firstImage_sightings_knew t_firstImage_lexicon_length t_firstImage_lexicon_number t_firstImage_lexicon_weight t_firstImage_lexicon_leastLike t_firstImage_lexicon_row t_firstImage_lexicon_lipsOf t_firstImage_level t_firstImage_loss t_now_clearness t_now_floor_pillars t_now_floor_weavers t_now_floor_place t_now_floor_way t_now_floor_tell t_now_floor_look t_now_floor_farSquare t_now_sightings_many t_now_sightings_weaver t_now_sightings_second t_now_sightings_knew t_now_lexicon_words t_now_lexicon_rowLips t_now_lexicon_girlKnows t_now_lexicon_length t_now_lexicon_number t_now_lexicon_weight t_now_lexicon_leastLike t_now_lexicon_row t_now_lexicon_lipsOf t_now_level t_now_loss) (u23 (fun (t_firstImage_clearness'_2 : Int32) (t_firstImage_floor_pillars'_2 : Int64) (t_firstImage_floor_weavers'_2 : Int32) (t_firstImage_floor_place'_2 : Nat → Int32) (t_firstImage_floor_way'_2 : Nat → Int32) (t_firstImage_floor_tell'_2 : Nat → Int32) (t_firstImage_floor_look'_2 : Nat → Int32) (t_firstImage_floor_farSquare'_2 : Nat → Int32) (t_firstImage_sightings_many'_2 : Int32) (t_firstImage_sightings_weaver'_2 : Nat → Int32) (t_firstImage_sightings_second'_2 : Nat → Int32) (t_firstImage_sightings_knew'_2 : Nat → Int32) (t_firstImage_lexicon_words'_2 : Int32) (t_firstImage_lexicon_rowLips'_2 : Int32) (t_firstImage_lexicon_girlKnows'_2 : Int32) (t_firstImage_lexicon_length'_2 : Nat → Int32) (t_firstImage_lexicon_number'_2 : Nat → Int32) (t_firstImage_lexicon_weight'_2 : Nat → Int32) (t_firstImage_lexicon_leastLike'_2 : Nat → Int32) (t_firstImage_lexicon_row'_2 : Nat → Int32) (t_firstImage_lexicon_lipsOf'_2 : Nat → Int32) (t_firstImage_level'_2 : Nat → Int32) (t_firstImage_loss'_2 : Nat → Int32) =>
      some ((1 : Int32), t_firstImage_clearness'_2, (1 : Int32), t_firstImage_floor_pillars'_2, t_firstImage_floor_weavers'_2, t_firstImage_floor_place'_2, t_firstImage_floor_way'_2, t_firstImage_floor_tell'_2, t_firstImage_floor_look'_2, t_firstImage_floor_farSquare'_2, t_firstImage_sightings_many'_2, t_firstImage_sightings_weaver'_2, t_firstImage_sightings_second'_2, t_firstImage_sightings_knew'_2, t_firstImage_lexicon_words'_2, t_firstImage_lexicon_rowLips'_2, t_firstImage_lexicon_girlKnows'_2, t_firstImage_lexicon_length'_2, t_firstImage_lexicon_number'_2, t_firstImage_lexicon_weight'_2, t_firstImage_lexicon_leastLike'_2, t_firstImage_lexicon_row'_2, t_firstImage_lexicon_lipsOf'_2, t_firstImage_level'_2, t_firstImage_loss'_2, t_secondImage_clearness, t_secondImage_isKept, t_secondImage_floor_pillars, t_secondImage_floor_weavers, t_secondImage_floor_place, t_secondImage_floor_way, t_secondImage_floor_tell, t_secondImage_floor_look, t_secondImage_floor_farSquare, t_secondImage_sightings_many, t_secondImage_sightings_weaver, t_secondImage_sightings_second, t_secondImage_sightings_knew, t_secondImage_lexicon_words, t_secondImage_lexicon_rowLips, t_secondImage_lexicon_girlKnows, t_secondImage_lexicon_length, t_secondImage_lexicon_number, t_secondImage_lexicon_weight, t_secondImage_lexicon_leastLike, t_secondImage_lexicon_row, t_secondImage_lexicon_lipsOf, t_secondImage_level, t_secondImage_loss)))
    else
      bO (F_Shed_copyFrom t_secondImage_floor_place t_secondImage_floor_way t_secondImage_floor_tell t_secondImage_floor_look t_secondImage_floor_farSquare t_secondImage_sightings_weaver t_secondImage_sightings_second t_secondImage_sightings_knew t_secondImage_lexicon_length t_secondImage_lexicon_number t_secondImage_lexicon_weight t_secondImage_lexicon_leastLike t_secondImage_lexicon_row t_secondImage_lexicon_lipsOf t_secondImage_level t_secondImage_loss t_now_clearness t_now_floor_pillars t_now_floor_weavers t_now_floor_place t_now_floor_way t_now_floor_tell t_now_floor_look t_now_floor_farSquare t_now_sightings_many t_now_sightings_weaver t_now_sightings_second t_now_sightings_knew t_now_lexicon_words t_now_lexicon_rowLips t_now_lexicon_girlKnows t_now_lexicon_length t_now_lexicon_number t_now_lexicon_weight t_now_lexicon_leastLike t_now_lexicon_row t_now_lexicon_lipsOf t_now_level t_now_loss) (u23 (fun (t_secondImage_clearness'_2 : Int32) (t_secondImage_floor_pillars'_2 : Int64) (t_secondImage_floor_weavers'_2 : Int32) (t_secondImage_floor_place'_2 : Nat → Int32) (t_secondImage_floor_way'_2 : Nat → Int32) (t_secondImage_floor_tell'_2 : Nat → Int32) (t_secondImage_floor_look'_2 : Nat → Int32) (t_secondImage_floor_farSquare'_2 : Nat → Int32) (t_secondImage_sightings_many'_2 : Int32) (t_secondImage_sightings_weaver'_2 : Nat → Int32) (t_secondImage_sightings_second'_2 : Nat → Int32) (t_secondImage_sightings_knew'_2 : Nat → Int32) (t_secondImage_lexicon_words'_2 : Int32) (t_secondImage_lexicon_rowLips'_2 : Int32) (t_secondImage_lexicon_girlKnows'_2 : Int32) (t_secondImage_lexicon_length'_2 : Nat → Int32) (t_secondImage_lexicon_number'_2 : Nat → Int32) (t_secondImage_lexicon_weight'_2 : Nat → Int32) (t_secondImage_lexicon_leastLike'_2 : Nat → Int32) (t_secondImage_lexicon_row'_2 : Nat → Int32) (t_secondImage_lexicon_lipsOf'_2 : Nat → Int32) (t_secondImage_level'_2 : Nat → Int32) (t_secondImage_loss'_2 : Nat → Int32) =>
      some ((1 : Int32), t_firstImage_clearness, t_firstImage_isKept, t_firstImage_floor_pillars, t_firstImage_floor_weavers, t_firstImage_floor_place, t_firstImage_floor_way, t_firstImage_floor_tell, t_firstImage_floor_look, t_firstImage_floor_farSquare, t_firstImage_sightings_many, t_firstImage_sightings_weaver, t_firstImage_sightings_second, t_firstImage_sightings_knew, t_firstImage_lexicon_words, t_firstImage_lexicon_rowLips, t_firstImage_lexicon_girlKnows, t_firstImage_lexicon_length, t_firstImage_lexicon_number, t_firstImage_lexicon_weight, t_firstImage_lexicon_leastLike, t_firstImage_lexicon_row, t_firstImage_lexicon_lipsOf, t_firstImage_level, t_firstImage_loss, t_secondImage_clearness'_2, (1 : Int32), t_secondImage_floor_pillars'_2, t_secondImage_floor_weavers'_2, t_secondImage_floor_place'_2, t_secondImage_floor_way'_2, t_secondImage_floor_tell'_2, t_secondImage_floor_look'_2, t_secondImage_floor_farSquare'_2, t_secondImage_sightings_many'_2, t_secondImage_sightings_weaver'_2, t_secondImage_sightings_second'_2, t_secondImage_sightings_knew'_2, t_secondImage_lexicon_words'_2, t_secondImage_lexicon_rowLips'_2, t_secondImage_lexicon_girlKnows'_2, t_secondImage_lexicon_length'_2, t_secondImage_lexicon_number'_2, t_secondImage_lexicon_weight'_2, t_secondImage_lexicon_leastLike'_2, t_secondImage_lexicon_row'_2, t_secondImage_lexicon_lipsOf'_2, t_secondImage_level'_2, t_secondImage_loss'_2)))
def F_S_from (p1 : Int32) (t_now_clearness : Int32) (t_now_floor_pillars : Int64) (t_now_floor_weavers : Int32) (t_now_floor_place : Nat → Int32) (t_now_floor_way : Nat → Int32) (t_now_floor_tell : Nat → Int32) (t_now_floor_look : Nat → Int32) (t_now_floor_farSquare : Nat → Int32) (t_now_sightings_many : Int32) (t_now_sightings_weaver : Nat → Int32) (t_now_sightings_second : Nat → Int32) (t_now_sightings_knew : Nat → Int32) (t_now_lexicon_words : Int32) (t_now_lexicon_rowLips : Int32) (t_now_lexicon_girlKnows : Int32) (t_now_lexicon_length : Nat → Int32) (t_now_lexicon_number : Nat → Int32) (t_now_lexicon_weight : Nat → Int32) (t_now_lexicon_leastLike : Nat → Int32) (t_now_lexicon_row : Nat → Int32) (t_now_lexicon_lipsOf : Nat → Int32) (t_now_level : Nat → Int32) (t_now_loss : Nat → Int32) (t_firstImage_clearness : Int32) (t_firstImage_isKept : Int32) (t_firstImage_floor_pillars : Int64) (t_firstImage_floor_weavers : Int32) (t_firstImage_floor_place : Nat → Int32) (t_firstImage_floor_way : Nat → Int32) (t_firstImage_floor_tell : Nat → Int32) (t_firstImage_floor_look : Nat → Int32) (t_firstImage_floor_farSquare : Nat → Int32) (t_firstImage_sightings_many : Int32) (t_firstImage_sightings_weaver : Nat → Int32) (t_firstImage_sightings_second : Nat → Int32) (t_firstImage_sightings_knew : Nat → Int32) (t_firstImage_lexicon_words : Int32) (t_firstImage_lexicon_rowLips : Int32) (t_firstImage_lexicon_girlKnows : Int32) (t_firstImage_lexicon_length : Nat → Int32) (t_firstImage_lexicon_number : Nat → Int32) (t_firstImage_lexicon_weight : Nat → Int32) (t_firstImage_lexicon_leastLike : Nat → Int32) (t_firstImage_lexicon_row : Nat → Int32) (t_firstImage_lexicon_lipsOf : Nat → Int32) (t_firstImage_level : Nat → Int32) (t_firstImage_loss : Nat → Int32) (t_secondImage_clearness : Int32) (t_secondImage_isKept : Int32) (t_secondImage_floor_pillars : Int64) (t_secondImage_floor_weavers : Int32) (t_secondImage_floor_place : Nat → Int32) (t_secondImage_floor_way : Nat → Int32) (t_secondImage_floor_tell : Nat → Int32) (t_secondImage_floor_look : Nat → Int32) (t_secondImage_floor_farSquare : Nat → Int32) (t_secondImage_sightings_many : Int32) (t_secondImage_sightings_weaver : Nat → Int32) (t_secondImage_sightings_second : Nat → Int32) (t_secondImage_sightings_knew : Nat → Int32) (t_secondImage_lexicon_words : Int32) (t_secondImage_lexicon_rowLips : Int32) (t_secondImage_lexicon_girlKnows : Int32) (t_secondImage_lexicon_length : Nat → Int32) (t_secondImage_lexicon_number : Nat → Int32) (t_secondImage_lexicon_weight : Nat → Int32) (t_secondImage_lexicon_leastLike : Nat → Int32) (t_secondImage_lexicon_row : Nat → Int32) (t_secondImage_lexicon_lipsOf : Nat → Int32) (t_secondImage_level : Nat → Int32) (t_secondImage_loss : Nat → Int32) : Option (Int32 × Int32 × Int64 × Int32 × (Nat → Int32) × (Nat → Int32) × (Nat → Int32) × (Nat → Int32) × (Nat → Int32) × Int32 × (Nat → Int32) × (Nat → Int32) × (Nat → Int32) × Int32 × Int32 × Int32 × (Nat → Int32) × (Nat → Int32) × (Nat → Int32) × (Nat → Int32) × (Nat → Int32) × (Nat → Int32) × (Nat → Int32) × (Nat → Int32)) :=
  if (F_S_within p1 (0 : Int32) (1 : Int32)) = (0 : Int32) then
    some ((-2 : Int32), t_now_clearness, t_now_floor_pillars, t_now_floor_weavers, t_now_floor_place, t_now_floor_way, t_now_floor_tell, t_now_floor_look, t_now_floor_farSquare, t_now_sightings_many, t_now_sightings_weaver, t_now_sightings_second, t_now_sightings_knew, t_now_lexicon_words, t_now_lexicon_rowLips, t_now_lexicon_girlKnows, t_now_lexicon_length, t_now_lexicon_number, t_now_lexicon_weight, t_now_lexicon_leastLike, t_now_lexicon_row, t_now_lexicon_lipsOf, t_now_level, t_now_loss)
  else
    if p1 = (0 : Int32) then
      if t_firstImage_isKept = (0 : Int32) then
        some ((-3 : Int32), t_now_clearness, t_now_floor_pillars, t_now_floor_weavers, t_now_floor_place, t_now_floor_way, t_now_floor_tell, t_now_floor_look, t_now_floor_farSquare, t_now_sightings_many, t_now_sightings_weaver, t_now_sightings_second, t_now_sightings_knew, t_now_lexicon_words, t_now_lexicon_rowLips, t_now_lexicon_girlKnows, t_now_lexicon_length, t_now_lexicon_number, t_now_lexicon_weight, t_now_lexicon_leastLike, t_now_lexicon_row, t_now_lexicon_lipsOf, t_now_level, t_now_loss)
      else
        bO (F_Shed_copyFrom t_now_floor_place t_now_floor_way t_now_floor_tell t_now_floor_look t_now_floor_farSquare t_now_sightings_weaver t_now_sightings_second t_now_sightings_knew t_now_lexicon_length t_now_lexicon_number t_now_lexicon_weight t_now_lexicon_leastLike t_now_lexicon_row t_now_lexicon_lipsOf t_now_level t_now_loss t_firstImage_clearness t_firstImage_floor_pillars t_firstImage_floor_weavers t_firstImage_floor_place t_firstImage_floor_way t_firstImage_floor_tell t_firstImage_floor_look t_firstImage_floor_farSquare t_firstImage_sightings_many t_firstImage_sightings_weaver t_firstImage_sightings_second t_firstImage_sightings_knew t_firstImage_lexicon_words t_firstImage_lexicon_rowLips t_firstImage_lexicon_girlKnows t_firstImage_lexicon_length t_firstImage_lexicon_number t_firstImage_lexicon_weight t_firstImage_lexicon_leastLike t_firstImage_lexicon_row t_firstImage_lexicon_lipsOf t_firstImage_level t_firstImage_loss) (u23 (fun (t_now_clearness'_3 : Int32) (t_now_floor_pillars'_3 : Int64) (t_now_floor_weavers'_3 : Int32) (t_now_floor_place'_3 : Nat → Int32) (t_now_floor_way'_3 : Nat → Int32) (t_now_floor_tell'_3 : Nat → Int32) (t_now_floor_look'_3 : Nat → Int32) (t_now_floor_farSquare'_3 : Nat → Int32) (t_now_sightings_many'_3 : Int32) (t_now_sightings_weaver'_3 : Nat → Int32) (t_now_sightings_second'_3 : Nat → Int32) (t_now_sightings_knew'_3 : Nat → Int32) (t_now_lexicon_words'_3 : Int32) (t_now_lexicon_rowLips'_3 : Int32) (t_now_lexicon_girlKnows'_3 : Int32) (t_now_lexicon_length'_3 : Nat → Int32) (t_now_lexicon_number'_3 : Nat → Int32) (t_now_lexicon_weight'_3 : Nat → Int32) (t_now_lexicon_leastLike'_3 : Nat → Int32) (t_now_lexicon_row'_3 : Nat → Int32) (t_now_lexicon_lipsOf'_3 : Nat → Int32) (t_now_level'_3 : Nat → Int32) (t_now_loss'_3 : Nat → Int32) =>
        some ((1 : Int32), t_now_clearness'_3, t_now_floor_pillars'_3, t_now_floor_weavers'_3, t_now_floor_place'_3, t_now_floor_way'_3, t_now_floor_tell'_3, t_now_floor_look'_3, t_now_floor_farSquare'_3, t_now_sightings_many'_3, t_now_sightings_weaver'_3, t_now_sightings_second'_3, t_now_sightings_knew'_3, t_now_lexicon_words'_3, t_now_lexicon_rowLips'_3, t_now_lexicon_girlKnows'_3, t_now_lexicon_length'_3, t_now_lexicon_number'_3, t_now_lexicon_weight'_3, t_now_lexicon_leastLike'_3, t_now_lexicon_row'_3, t_now_lexicon_lipsOf'_3, t_now_level'_3, t_now_loss'_3)))
    else
      if t_secondImage_isKept = (0 : Int32) then
        some ((-3 : Int32), t_now_clearness, t_now_floor_pillars, t_now_floor_weavers, t_now_floor_place, t_now_floor_way, t_now_floor_tell, t_now_floor_look, t_now_floor_farSquare, t_now_sightings_many, t_now_sightings_weaver, t_now_sightings_second, t_now_sightings_knew, t_now_lexicon_words, t_now_lexicon_rowLips, t_now_lexicon_girlKnows, t_now_lexicon_length, t_now_lexicon_number, t_now_lexicon_weight, t_now_lexicon_leastLike, t_now_lexicon_row, t_now_lexicon_lipsOf, t_now_level, t_now_loss)
      else
        bO (F_Shed_copyFrom t_now_floor_place t_now_floor_way t_now_floor_tell t_now_floor_look t_now_floor_farSquare t_now_sightings_weaver t_now_sightings_second t_now_sightings_knew t_now_lexicon_length t_now_lexicon_number t_now_lexicon_weight t_now_lexicon_leastLike t_now_lexicon_row t_now_lexicon_lipsOf t_now_level t_now_loss t_secondImage_clearness t_secondImage_floor_pillars t_secondImage_floor_weavers t_secondImage_floor_place t_secondImage_floor_way t_secondImage_floor_tell t_secondImage_floor_look t_secondImage_floor_farSquare t_secondImage_sightings_many t_secondImage_sightings_weaver t_secondImage_sightings_second t_secondImage_sightings_knew t_secondImage_lexicon_words t_secondImage_lexicon_rowLips t_secondImage_lexicon_girlKnows t_secondImage_lexicon_length t_secondImage_lexicon_number t_secondImage_lexicon_weight t_secondImage_lexicon_leastLike t_secondImage_lexicon_row t_secondImage_lexicon_lipsOf t_secondImage_level t_secondImage_loss) (u23 (fun (t_now_clearness'_4 : Int32) (t_now_floor_pillars'_4 : Int64) (t_now_floor_weavers'_4 : Int32) (t_now_floor_place'_4 : Nat → Int32) (t_now_floor_way'_4 : Nat → Int32) (t_now_floor_tell'_4 : Nat → Int32) (t_now_floor_look'_4 : Nat → Int32) (t_now_floor_farSquare'_4 : Nat → Int32) (t_now_sightings_many'_4 : Int32) (t_now_sightings_weaver'_4 : Nat → Int32) (t_now_sightings_second'_4 : Nat → Int32) (t_now_sightings_knew'_4 : Nat → Int32) (t_now_lexicon_words'_4 : Int32) (t_now_lexicon_rowLips'_4 : Int32) (t_now_lexicon_girlKnows'_4 : Int32) (t_now_lexicon_length'_4 : Nat → Int32) (t_now_lexicon_number'_4 : Nat → Int32) (t_now_lexicon_weight'_4 : Nat → Int32) (t_now_lexicon_leastLike'_4 : Nat → Int32) (t_now_lexicon_row'_4 : Nat → Int32) (t_now_lexicon_lipsOf'_4 : Nat → Int32) (t_now_level'_4 : Nat → Int32) (t_now_loss'_4 : Nat → Int32) =>
        some ((1 : Int32), t_now_clearness'_4, t_now_floor_pillars'_4, t_now_floor_weavers'_4, t_now_floor_place'_4, t_now_floor_way'_4, t_now_floor_tell'_4, t_now_floor_look'_4, t_now_floor_farSquare'_4, t_now_sightings_many'_4, t_now_sightings_weaver'_4, t_now_sightings_second'_4, t_now_sightings_knew'_4, t_now_lexicon_words'_4, t_now_lexicon_rowLips'_4, t_now_lexicon_girlKnows'_4, t_now_lexicon_length'_4, t_now_lexicon_number'_4, t_now_lexicon_weight'_4, t_now_lexicon_leastLike'_4, t_now_lexicon_row'_4, t_now_lexicon_lipsOf'_4, t_now_level'_4, t_now_loss'_4)))
def F_Long_bitCount (p1 : Int64) : Int32 :=
  (((((((((p1 - ((jushrL p1 (1 : Int32)) &&& (6148914691236517205 : Int64))) &&& (3689348814741910323 : Int64)) + ((jushrL (p1 - ((jushrL p1 (1 : Int32)) &&& (6148914691236517205 : Int64))) (2 : Int32)) &&& (3689348814741910323 : Int64))) + (jushrL (((p1 - ((jushrL p1 (1 : Int32)) &&& (6148914691236517205 : Int64))) &&& (3689348814741910323 : Int64)) + ((jushrL (p1 - ((jushrL p1 (1 : Int32)) &&& (6148914691236517205 : Int64))) (2 : Int32)) &&& (3689348814741910323 : Int64))) (4 : Int32))) &&& (1085102592571150095 : Int64)) + (jushrL (((((p1 - ((jushrL p1 (1 : Int32)) &&& (6148914691236517205 : Int64))) &&& (3689348814741910323 : Int64)) + ((jushrL (p1 - ((jushrL p1 (1 : Int32)) &&& (6148914691236517205 : Int64))) (2 : Int32)) &&& (3689348814741910323 : Int64))) + (jushrL (((p1 - ((jushrL p1 (1 : Int32)) &&& (6148914691236517205 : Int64))) &&& (3689348814741910323 : Int64)) + ((jushrL (p1 - ((jushrL p1 (1 : Int32)) &&& (6148914691236517205 : Int64))) (2 : Int32)) &&& (3689348814741910323 : Int64))) (4 : Int32))) &&& (1085102592571150095 : Int64)) (8 : Int32))) + (jushrL ((((((p1 - ((jushrL p1 (1 : Int32)) &&& (6148914691236517205 : Int64))) &&& (3689348814741910323 : Int64)) + ((jushrL (p1 - ((jushrL p1 (1 : Int32)) &&& (6148914691236517205 : Int64))) (2 : Int32)) &&& (3689348814741910323 : Int64))) + (jushrL (((p1 - ((jushrL p1 (1 : Int32)) &&& (6148914691236517205 : Int64))) &&& (3689348814741910323 : Int64)) + ((jushrL (p1 - ((jushrL p1 (1 : Int32)) &&& (6148914691236517205 : Int64))) (2 : Int32)) &&& (3689348814741910323 : Int64))) (4 : Int32))) &&& (1085102592571150095 : Int64)) + (jushrL (((((p1 - ((jushrL p1 (1 : Int32)) &&& (6148914691236517205 : Int64))) &&& (3689348814741910323 : Int64)) + ((jushrL (p1 - ((jushrL p1 (1 : Int32)) &&& (6148914691236517205 : Int64))) (2 : Int32)) &&& (3689348814741910323 : Int64))) + (jushrL (((p1 - ((jushrL p1 (1 : Int32)) &&& (6148914691236517205 : Int64))) &&& (3689348814741910323 : Int64)) + ((jushrL (p1 - ((jushrL p1 (1 : Int32)) &&& (6148914691236517205 : Int64))) (2 : Int32)) &&& (3689348814741910323 : Int64))) (4 : Int32))) &&& (1085102592571150095 : Int64)) (8 : Int32))) (16 : Int32))) + (jushrL (((((((p1 - ((jushrL p1 (1 : Int32)) &&& (6148914691236517205 : Int64))) &&& (3689348814741910323 : Int64)) + ((jushrL (p1 - ((jushrL p1 (1 : Int32)) &&& (6148914691236517205 : Int64))) (2 : Int32)) &&& (3689348814741910323 : Int64))) + (jushrL (((p1 - ((jushrL p1 (1 : Int32)) &&& (6148914691236517205 : Int64))) &&& (3689348814741910323 : Int64)) + ((jushrL (p1 - ((jushrL p1 (1 : Int32)) &&& (6148914691236517205 : Int64))) (2 : Int32)) &&& (3689348814741910323 : Int64))) (4 : Int32))) &&& (1085102592571150095 : Int64)) + (jushrL (((((p1 - ((jushrL p1 (1 : Int32)) &&& (6148914691236517205 : Int64))) &&& (3689348814741910323 : Int64)) + ((jushrL (p1 - ((jushrL p1 (1 : Int32)) &&& (6148914691236517205 : Int64))) (2 : Int32)) &&& (3689348814741910323 : Int64))) + (jushrL (((p1 - ((jushrL p1 (1 : Int32)) &&& (6148914691236517205 : Int64))) &&& (3689348814741910323 : Int64)) + ((jushrL (p1 - ((jushrL p1 (1 : Int32)) &&& (6148914691236517205 : Int64))) (2 : Int32)) &&& (3689348814741910323 : Int64))) (4 : Int32))) &&& (1085102592571150095 : Int64)) (8 : Int32))) + (jushrL ((((((p1 - ((jushrL p1 (1 : Int32)) &&& (6148914691236517205 : Int64))) &&& (3689348814741910323 : Int64)) + ((jushrL (p1 - ((jushrL p1 (1 : Int32)) &&& (6148914691236517205 : Int64))) (2 : Int32)) &&& (3689348814741910323 : Int64))) + (jushrL (((p1 - ((jushrL p1 (1 : Int32)) &&& (6148914691236517205 : Int64))) &&& (3689348814741910323 : Int64)) + ((jushrL (p1 - ((jushrL p1 (1 : Int32)) &&& (6148914691236517205 : Int64))) (2 : Int32)) &&& (3689348814741910323 : Int64))) (4 : Int32))) &&& (1085102592571150095 : Int64)) + (jushrL (((((p1 - ((jushrL p1 (1 : Int32)) &&& (6148914691236517205 : Int64))) &&& (3689348814741910323 : Int64)) + ((jushrL (p1 - ((jushrL p1 (1 : Int32)) &&& (6148914691236517205 : Int64))) (2 : Int32)) &&& (3689348814741910323 : Int64))) + (jushrL (((p1 - ((jushrL p1 (1 : Int32)) &&& (6148914691236517205 : Int64))) &&& (3689348814741910323 : Int64)) + ((jushrL (p1 - ((jushrL p1 (1 : Int32)) &&& (6148914691236517205 : Int64))) (2 : Int32)) &&& (3689348814741910323 : Int64))) (4 : Int32))) &&& (1085102592571150095 : Int64)) (8 : Int32))) (16 : Int32))) (32 : Int32))).toInt32 &&& (127 : Int32))
def F_S_count (p1 : Int32) (t_now_floor_pillars : Int64) (t_now_floor_weavers : Int32) (t_now_sightings_many : Int32) (t_now_lexicon_words : Int32) (t_now_lexicon_rowLips : Int32) (t_text_bytes : Int32) : Int32 :=
  if p1 = (0 : Int32) then
    (F_Long_bitCount t_now_floor_pillars)
  else if p1 = (1 : Int32) then
    t_now_floor_weavers
  else if p1 = (2 : Int32) then
    t_now_sightings_many
  else if p1 = (3 : Int32) then
    t_now_lexicon_words
  else if p1 = (4 : Int32) then
    t_now_lexicon_rowLips
  else if p1 = (5 : Int32) then
    t_text_bytes
  else 
    (-2 : Int32)
def F_S_mixed (p1 : Int64) (p2 : Int32) : Int64 :=
  (((31 : Int64) * p1) + p2.toInt64)
def Floor_digestOnto_L5 (t_pillars : Int64) : Nat → Int64 → Int32 → Option (Int64)
  | 0, _, _ => none
  | k0 + 1, x3, x5 =>
  if (64 : Int32) ≤ x5 then
    some x3
  else
    Floor_digestOnto_L5 t_pillars k0 (F_S_mixed x3 (F_S_oneIf (F_Floor_hasPillar x5 t_pillars))) (x5 + (1 : Int32))
def Floor_digestOnto_L35 (t_weavers : Int32) (t_place : Nat → Int32) (t_way : Nat → Int32) (t_tell : Nat → Int32) (t_look : Nat → Int32) : Nat → Int64 → Int32 → Option (Int64)
  | 0, _, _ => none
  | k0 + 1, x3_3, x5_2 =>
  if t_weavers ≤ x5_2 then
    some x3_3
  else
    gd (ixb x5_2 8) (
    Floor_digestOnto_L35 t_weavers t_place t_way t_tell t_look k0 (F_S_mixed (F_S_mixed (F_S_mixed (F_S_mixed x3_3 (t_place x5_2.toNatClampNeg)) (t_way x5_2.toNatClampNeg)) (t_tell x5_2.toNatClampNeg)) (t_look x5_2.toNatClampNeg)) (x5_2 + (1 : Int32)))
def F_Floor_digestOnto (N : Nat) (p1 : Int64) (t_pillars : Int64) (t_weavers : Int32) (t_place : Nat → Int32) (t_way : Nat → Int32) (t_tell : Nat → Int32) (t_look : Nat → Int32) (t_farSquare : Nat → Int32) : Option (Int64) :=
  bO (Floor_digestOnto_L5 t_pillars N p1 (0 : Int32)) ((fun (x3_2 : Int64) =>
  bO (Floor_digestOnto_L35 t_weavers t_place t_way t_tell t_look N x3_2 (0 : Int32)) ((fun (x3_4 : Int64) =>
  some (F_S_mixed (F_S_mixed x3_4 (t_farSquare 0)) (t_farSquare 1))))))
def Sightings_digestOnto_L5 (t_many : Int32) (t_weaver : Nat → Int32) (t_second : Nat → Int32) (t_knew : Nat → Int32) : Nat → Int64 → Int32 → Option (Int64)
  | 0, _, _ => none
  | k0 + 1, x3, x5 =>
  if t_many ≤ x5 then
    some x3
  else
    gd (ixb x5 10) (
    Sightings_digestOnto_L5 t_many t_weaver t_second t_knew k0 (F_S_mixed (F_S_mixed (F_S_mixed x3 (t_weaver x5.toNatClampNeg)) (t_second x5.toNatClampNeg)) (t_knew x5.toNatClampNeg)) (x5 + (1 : Int32)))
def F_Sightings_digestOnto (N : Nat) (p1 : Int64) (t_many : Int32) (t_weaver : Nat → Int32) (t_second : Nat → Int32) (t_knew : Nat → Int32) : Option (Int64) :=
  bO (Sightings_digestOnto_L5 t_many t_weaver t_second t_knew N p1 (0 : Int32)) ((fun (x3_2 : Int64) =>
  some x3_2))
def Lexicon_digestWordsOnto_L5 (t_leastLike : Nat → Int32) : Nat → Int64 → Int32 → Option (Int64)
  | 0, _, _ => none
  | k0 + 1, x3, x5 =>
  if (6 : Int32) ≤ x5 then
    some x3
  else
    gd (ixb x5 6) (
    Lexicon_digestWordsOnto_L5 t_leastLike k0 (F_S_mixed x3 (t_leastLike x5.toNatClampNeg)) (x5 + (1 : Int32)))
def Lexicon_digestWordsOnto_L33 (t_words : Int32) (t_length : Nat → Int32) (t_number : Nat → Int32) (t_weight : Nat → Int32) : Nat → Int64 → Int32 → Option (Int64)
  | 0, _, _ => none
  | k0 + 1, x3_3, x5_2 =>
  if t_words ≤ x5_2 then
    some x3_3
  else
    gd (ixb x5_2 10) (
    Lexicon_digestWordsOnto_L33 t_words t_length t_number t_weight k0 (F_S_mixed (F_S_mixed (F_S_mixed x3_3 (t_length x5_2.toNatClampNeg)) (t_number x5_2.toNatClampNeg)) (t_weight x5_2.toNatClampNeg)) (x5_2 + (1 : Int32)))
def Lexicon_digestWordsOnto_L83 (t_rowLips : Int32) (t_row : Nat → Int32) : Nat → Int64 → Int32 → Option (Int64)
  | 0, _, _ => none
  | k0 + 1, x3_5, x5_3 =>
  if t_rowLips ≤ x5_3 then
    some x3_5
  else
    gd (ixb x5_3 24) (
    Lexicon_digestWordsOnto_L83 t_rowLips t_row k0 (F_S_mixed x3_5 (t_row x5_3.toNatClampNeg)) (x5_3 + (1 : Int32)))
def F_Lexicon_digestWordsOnto (N : Nat) (p1 : Int64) (t_words : Int32) (t_rowLips : Int32) (t_length : Nat → Int32) (t_number : Nat → Int32) (t_weight : Nat → Int32) (t_leastLike : Nat → Int32) (t_row : Nat → Int32) : Option (Int64) :=
  bO (Lexicon_digestWordsOnto_L5 t_leastLike N p1 (0 : Int32)) ((fun (x3_2 : Int64) =>
  bO (Lexicon_digestWordsOnto_L33 t_words t_length t_number t_weight N x3_2 (0 : Int32)) ((fun (x3_4 : Int64) =>
  bO (Lexicon_digestWordsOnto_L83 t_rowLips t_row N x3_4 (0 : Int32)) ((fun (x3_6 : Int64) =>
  some x3_6))))))
def Natural_digestOnto_L5 (t_limbs : Int32) (t_limb : Nat → Int32) : Nat → Int64 → Int32 → Option (Int64)
  | 0, _, _ => none
  | k0 + 1, x3, x5 =>
  if t_limbs ≤ x5 then
    some x3
  else
    gd (ixb x5 40) (
    Natural_digestOnto_L5 t_limbs t_limb k0 (F_S_mixed x3 (t_limb x5.toNatClampNeg)) (x5 + (1 : Int32)))
def F_Natural_digestOnto (N : Nat) (p1 : Int64) (t_limbs : Int32) (t_limb : Nat → Int32) : Option (Int64) :=
  bO (Natural_digestOnto_L5 t_limbs t_limb N p1 (0 : Int32)) ((fun (x3_2 : Int64) =>
  some x3_2))
def F_Fraction_digestOnto (N : Nat) (p1 : Int64) (t_above_limbs : Int32) (t_above_limb : Nat → Int32) (t_below_limbs : Int32) (t_below_limb : Nat → Int32) : Option (Int64) :=
  bO (F_Natural_digestOnto N (F_S_mixed (F_S_mixed (F_S_mixed p1 (F_Fraction_signNumber t_above_limbs)) t_above_limbs) t_below_limbs) t_above_limbs t_above_limb) ((fun (r38 : Int64) =>
  bO (F_Natural_digestOnto N r38 t_below_limbs t_below_limb) ((fun (r41 : Int64) =>
  some r41))))
def S_digest_L6 (t_now_floor_pillars : Int64) (t_now_floor_weavers : Int32) (t_now_sightings_many : Int32) (t_now_lexicon_words : Int32) (t_now_lexicon_rowLips : Int32) (t_text_bytes : Int32) : Nat → Int64 → Int32 → Option (Int64)
  | 0, _, _ => none
  | k0 + 1, x1, x3 =>
  if (5 : Int32) < x3 then
    some x1
  else
    S_digest_L6 t_now_floor_pillars t_now_floor_weavers t_now_sightings_many t_now_lexicon_words t_now_lexicon_rowLips t_text_bytes k0 (F_S_mixed x1 (F_S_count x3 t_now_floor_pillars t_now_floor_weavers t_now_sightings_many t_now_lexicon_words t_now_lexicon_rowLips t_text_bytes)) (x3 + (1 : Int32))
def S_digest_L92 (t_now_level : Nat → Int32) (t_now_loss : Nat → Int32) : Nat → Int64 → Int32 → Option (Int64)
  | 0, _, _ => none
  | k0 + 1, x1_3, x3_2 =>
  if (6 : Int32) ≤ x3_2 then
    some x1_3
  else
    gd (ixb x3_2 6) (
    S_digest_L92 t_now_level t_now_loss k0 (F_S_mixed (F_S_mixed x1_3 (t_now_level x3_2.toNatClampNeg)) (t_now_loss x3_2.toNatClampNeg)) (x3_2 + (1 : Int32)))
def F_S_digest (N : Nat) (t_now_clearness : Int32) (t_now_floor_pillars : Int64) (t_now_floor_weavers : Int32) (t_now_floor_place : Nat → Int32) (t_now_floor_way : Nat → Int32) (t_now_floor_tell : Nat → Int32) (t_now_floor_look : Nat → Int32) (t_now_floor_farSquare : Nat → Int32) (t_now_sightings_many : Int32) (t_now_sightings_weaver : Nat → Int32) (t_now_sightings_second : Nat → Int32) (t_now_sightings_knew : Nat → Int32) (t_now_lexicon_words : Int32) (t_now_lexicon_rowLips : Int32) (t_now_lexicon_girlKnows : Int32) (t_now_lexicon_length : Nat → Int32) (t_now_lexicon_number : Nat → Int32) (t_now_lexicon_weight : Nat → Int32) (t_now_lexicon_leastLike : Nat → Int32) (t_now_lexicon_row : Nat → Int32) (t_now_level : Nat → Int32) (t_now_loss : Nat → Int32) (t_text_bytes : Int32) (t_fraction_above_limbs : Int32) (t_fraction_above_limb : Nat → Int32) (t_fraction_below_limbs : Int32) (t_fraction_below_limb : Nat → Int32) : Option (Int64) :=
  bO (S_digest_L6 t_now_floor_pillars t_now_floor_weavers t_now_sightings_many t_now_lexicon_words t_now_lexicon_rowLips t_text_bytes N (523 : Int64) (0 : Int32)) ((fun (x1_2 : Int64) =>
  bO (F_Floor_digestOnto N x1_2 t_now_floor_pillars t_now_floor_weavers t_now_floor_place t_now_floor_way t_now_floor_tell t_now_floor_look t_now_floor_farSquare) ((fun (r35 : Int64) =>
  bO (F_Sightings_digestOnto N r35 t_now_sightings_many t_now_sightings_weaver t_now_sightings_second t_now_sightings_knew) ((fun (r47 : Int64) =>
  bO (F_Lexicon_digestWordsOnto N r47 t_now_lexicon_words t_now_lexicon_rowLips t_now_lexicon_length t_now_lexicon_number t_now_lexicon_weight t_now_lexicon_leastLike t_now_lexicon_row) ((fun (r59 : Int64) =>
  bO (S_digest_L92 t_now_level t_now_loss N (F_S_mixed (F_S_mixed r59 t_now_clearness) t_now_lexicon_girlKnows) (0 : Int32)) ((fun (x1_4 : Int64) =>
  bO (F_Fraction_digestOnto N x1_4 t_fraction_above_limbs t_fraction_above_limb t_fraction_below_limbs t_fraction_below_limb) ((fun (r135 : Int64) =>
  some r135))))))))))))
def F_R_in (p1 : Int64) (p2 : Int64) (p3 : Int64) : Int32 :=
  if (lg_cmp p1 p2) < (0 : Int32) then
    (0 : Int32)
  else
    if (0 : Int32) < (lg_cmp p1 p3) then
      (0 : Int32)
    else
      (1 : Int32)
def R_begins_L2  : Nat → Int32 → (Nat → Int32) → Option ((Nat → Int32))
  | 0, _, _ => none
  | k0 + 1, x1, t_book'_7 =>
  if (5 : Int32) ≤ x1 then
    some t_book'_7
  else
    gd (ixb x1 240) (
    R_begins_L2 k0 (x1 + (1 : Int32)) (upd t_book'_7 x1.toNatClampNeg (0 : Int32)))
def R_begins_L48  : Nat → Int32 → (Nat → Int32) → Option ((Nat → Int32))
  | 0, _, _ => none
  | k0 + 1, x1_2, t_book'_9 =>
  if (64 : Int32) ≤ x1_2 then
    some t_book'_9
  else
    gd (ixb ((10 : Int32) + x1_2) 240) (
    R_begins_L48 k0 (x1_2 + (1 : Int32)) (upd t_book'_9 ((10 : Int32) + x1_2).toNatClampNeg (0 : Int32)))
def R_begins_L72  : Nat → Int32 → (Nat → Int32) → Option ((Nat → Int32))
  | 0, _, _ => none
  | k0 + 1, x1_3, t_book'_11 =>
  if (6 : Int32) ≤ x1_3 then
    some t_book'_11
  else
    gd (ixb ((150 : Int32) + x1_3) 240) (
    R_begins_L72 k0 (x1_3 + (1 : Int32)) (upd t_book'_11 ((150 : Int32) + x1_3).toNatClampNeg x1_3))
def F_R_begins (N : Nat) (t_book : Nat → Int32) : Option ((Nat → Int32)) :=
  bO (R_begins_L2 N (0 : Int32) t_book) ((fun (t_book'_8 : Nat → Int32) =>
  bO (R_begins_L48 N (0 : Int32) (upd (upd (upd t_book'_8 6 (18 : Int32)) 7 (50 : Int32)) 9 (0 : Int32))) ((fun (t_book'_10 : Nat → Int32) =>
  bO (R_begins_L72 N (0 : Int32) t_book'_10) ((fun (t_book'_12 : Nat → Int32) =>
  some t_book'_12))))))
def R_trims_L0 (p1 : Int32) (t_limbs : Nat → Int32) : Nat → (Nat → Int32) → Option ((Nat → Int32))
  | 0, _ => none
  | k0 + 1, t_wide'_3 =>
  gd (ixb p1 28) (
  if (t_wide'_3 p1.toNatClampNeg) ≤ (0 : Int32) then
    some t_wide'_3
  else
    gd (ixb ((((60 : Int32) * p1) + (t_wide'_3 p1.toNatClampNeg)) - (1 : Int32)) 1680) (
    if (t_limbs ((((60 : Int32) * p1) + (t_wide'_3 p1.toNatClampNeg)) - (1 : Int32)).toNatClampNeg) = (0 : Int32) then
      R_trims_L0 p1 t_limbs k0 (upd t_wide'_3 p1.toNatClampNeg ((t_wide'_3 p1.toNatClampNeg) - (1 : Int32)))
    else
      some t_wide'_3))
def F_R_trims (N : Nat) (p1 : Int32) (t_limbs : Nat → Int32) (t_wide : Nat → Int32) : Option ((Nat → Int32)) :=
  bO (R_trims_L0 p1 t_limbs N t_wide) ((fun (t_wide'_4 : Nat → Int32) =>
  some t_wide'_4))
def R_sets_L3 (p1 : Int32) (p2 : Int64) : Nat → Int32 → (Nat → Int32) → Option ((Nat → Int32))
  | 0, _, _ => none
  | k0 + 1, x4, t_limbs'_3 =>
  if (60 : Int32) ≤ x4 then
    some t_limbs'_3
  else
    if (3 : Int32) ≤ x4 then
      gd (ixb (((60 : Int32) * p1) + x4) 1680) (
      R_sets_L3 p1 p2 k0 (x4 + (1 : Int32)) (upd t_limbs'_3 (((60 : Int32) * p1) + x4).toNatClampNeg (0 : Int32)))
    else
      gd (ixb (((60 : Int32) * p1) + x4) 1680) (
      R_sets_L3 p1 p2 k0 (x4 + (1 : Int32)) (upd t_limbs'_3 (((60 : Int32) * p1) + x4).toNatClampNeg ((jshrL p2 ((30 : Int32) * x4)) &&& (1073741823 : Int64)).toInt32))
def F_R_sets (N : Nat) (p1 : Int32) (p2 : Int64) (t_limbs : Nat → Int32) (t_wide : Nat → Int32) : Option ((Nat → Int32) × (Nat → Int32)) :=
  bO (R_sets_L3 p1 p2 N (0 : Int32) t_limbs) ((fun (t_limbs'_4 : Nat → Int32) =>
  gd (ixb p1 28) (
  bO (F_R_trims N p1 t_limbs'_4 (upd t_wide p1.toNatClampNeg (3 : Int32))) ((fun (t_wide'_2 : Nat → Int32) =>
  some (t_limbs'_4, t_wide'_2))))))
def R_takes_L2 (p2 : Int32) (p1 : Int32) : Nat → Int32 → (Nat → Int32) → Option ((Nat → Int32))
  | 0, _, _ => none
  | k0 + 1, x3, t_limbs'_3 =>
  if (60 : Int32) ≤ x3 then
    some t_limbs'_3
  else
    gd (ixb (((60 : Int32) * p2) + x3) 1680) (
    gd (ixb (((60 : Int32) * p1) + x3) 1680) (
    R_takes_L2 p2 p1 k0 (x3 + (1 : Int32)) (upd t_limbs'_3 (((60 : Int32) * p1) + x3).toNatClampNeg (t_limbs'_3 (((60 : Int32) * p2) + x3).toNatClampNeg))))
def F_R_takes (N : Nat) (p1 : Int32) (p2 : Int32) (t_limbs : Nat → Int32) (t_wide : Nat → Int32) : Option ((Nat → Int32) × (Nat → Int32)) :=
  bO (R_takes_L2 p2 p1 N (0 : Int32) t_limbs) ((fun (t_limbs'_4 : Nat → Int32) =>
  gd (ixb p2 28) (
  gd (ixb p1 28) (
  some (t_limbs'_4, (upd t_wide p1.toNatClampNeg (t_wide p2.toNatClampNeg)))))))
def R_times_L5 (p1 : Int32) (t_wide : Nat → Int32) (p2 : Int32) : Nat → Int64 → Int32 → (Nat → Int32) → Option (Int64 × (Nat → Int32))
  | 0, _, _, _ => none
  | k0 + 1, x3, x5, t_limbs'_4 =>
  gd (ixb p1 28) (
  if (t_wide p1.toNatClampNeg) ≤ x5 then
    some (x3, t_limbs'_4)
  else
    gd (ixb (((60 : Int32) * p1) + x5) 1680) (
    R_times_L5 p1 t_wide p2 k0 (jshrL (((t_limbs'_4 (((60 : Int32) * p1) + x5).toNatClampNeg).toInt64 * p2.toInt64) + x3) (30 : Int32)) (x5 + (1 : Int32)) (upd t_limbs'_4 (((60 : Int32) * p1) + x5).toNatClampNeg ((((t_limbs'_4 (((60 : Int32) * p1) + x5).toNatClampNeg).toInt64 * p2.toInt64) + x3) &&& (1073741823 : Int64)).toInt32)))
def F_R_times (N : Nat) (p1 : Int32) (p2 : Int32) (t_limbs : Nat → Int32) (t_wide : Nat → Int32) : Option ((Nat → Int32) × (Nat → Int32)) :=
  bO (R_times_L5 p1 t_wide p2 N (0 : Int64) (0 : Int32) t_limbs) (u2 (fun (x3_2 : Int64) (t_limbs'_5 : Nat → Int32) =>
  bO (
    if (lg_cmp x3_2 (0 : Int64)) ≤ (0 : Int32) then
      some (t_limbs'_5, t_wide)
    else
      gd (ixb p1 28) (
      gd (ixb (((60 : Int32) * p1) + (t_wide p1.toNatClampNeg)) 1680) (
      some ((upd t_limbs'_5 (((60 : Int32) * p1) + (t_wide p1.toNatClampNeg)).toNatClampNeg x3_2.toInt32), (upd t_wide p1.toNatClampNeg ((t_wide p1.toNatClampNeg) + (1 : Int32))))))) (u2 (fun (t_limbs'_6 : Nat → Int32) (t_wide'_3 : Nat → Int32) =>
  bO (F_R_trims N p1 t_limbs'_6 t_wide'_3) ((fun (t_wide'_4 : Nat → Int32) =>
  some (t_limbs'_6, t_wide'_4)))))))
def R_adds_L37 (y0 : Int32) (p1 : Int32) (p2 : Int32) : Nat → Int32 → Int32 → (Nat → Int32) → Option (Int32 × (Nat → Int32))
  | 0, _, _, _ => none
  | k0 + 1, x3, x5, t_limbs'_3 =>
  if y0 ≤ x5 then
    some (x3, t_limbs'_3)
  else
    gd (ixb (((60 : Int32) * p1) + x5) 1680) (
    gd (ixb (((60 : Int32) * p2) + x5) 1680) (
    R_adds_L37 y0 p1 p2 k0 (jushr (((t_limbs'_3 (((60 : Int32) * p1) + x5).toNatClampNeg) + (t_limbs'_3 (((60 : Int32) * p2) + x5).toNatClampNeg)) + x3) (30 : Int32)) (x5 + (1 : Int32)) (upd t_limbs'_3 (((60 : Int32) * p1) + x5).toNatClampNeg ((((t_limbs'_3 (((60 : Int32) * p1) + x5).toNatClampNeg) + (t_limbs'_3 (((60 : Int32) * p2) + x5).toNatClampNeg)) + x3) &&& (1073741823 : Int32)))))
def F_R_adds (N : Nat) (p1 : Int32) (p2 : Int32) (t_limbs : Nat → Int32) (t_wide : Nat → Int32) : Option ((Nat → Int32) × (Nat → Int32)) :=
  gd (ixb p1 28) (
  gd (ixb p2 28) (
  bO (
    if (t_wide p1.toNatClampNeg) ≤ (t_wide p2.toNatClampNeg) then
      some (t_wide p2.toNatClampNeg)
    else
      some (t_wide p1.toNatClampNeg)) ((fun (y0 : Int32) =>
  bO (R_adds_L37 y0 p1 p2 N (0 : Int32) (0 : Int32) t_limbs) (u2 (fun (x3_2 : Int32) (t_limbs'_4 : Nat → Int32) =>
  gd (ixb (((60 : Int32) * p1) + y0) 1680) (
  bO (F_R_trims N p1 (upd t_limbs'_4 (((60 : Int32) * p1) + y0).toNatClampNeg x3_2) (upd t_wide p1.toNatClampNeg (y0 + x3_2))) ((fun (t_wide'_2 : Nat → Int32) =>
  some ((upd t_limbs'_4 (((60 : Int32) * p1) + y0).toNatClampNeg x3_2), t_wide'_2))))))))))
def R_lessens_L5 (p1 : Int32) (t_wide : Nat → Int32) (p2 : Int32) : Nat → Int32 → Int32 → (Nat → Int32) → Option ((Nat → Int32))
  | 0, _, _, _ => none
  | k0 + 1, x3, x4, t_limbs'_3 =>
  gd (ixb p1 28) (
  if (t_wide p1.toNatClampNeg) ≤ x4 then
    some t_limbs'_3
  else
    gd (ixb (((60 : Int32) * p1) + x4) 1680) (
    gd (ixb (((60 : Int32) * p2) + x4) 1680) (
    if (0 : Int32) ≤ (((t_limbs'_3 (((60 : Int32) * p1) + x4).toNatClampNeg) - (t_limbs'_3 (((60 : Int32) * p2) + x4).toNatClampNeg)) - x3) then
      R_lessens_L5 p1 t_wide p2 k0 (0 : Int32) (x4 + (1 : Int32)) (upd t_limbs'_3 (((60 : Int32) * p1) + x4).toNatClampNeg ((((t_limbs'_3 (((60 : Int32) * p1) + x4).toNatClampNeg) - (t_limbs'_3 (((60 : Int32) * p2) + x4).toNatClampNeg)) - x3) &&& (1073741823 : Int32)))
    else
      R_lessens_L5 p1 t_wide p2 k0 (1 : Int32) (x4 + (1 : Int32)) (upd t_limbs'_3 (((60 : Int32) * p1) + x4).toNatClampNeg ((((t_limbs'_3 (((60 : Int32) * p1) + x4).toNatClampNeg) - (t_limbs'_3 (((60 : Int32) * p2) + x4).toNatClampNeg)) - x3) &&& (1073741823 : Int32))))))
def F_R_lessens (N : Nat) (p1 : Int32) (p2 : Int32) (t_limbs : Nat → Int32) (t_wide : Nat → Int32) : Option ((Nat → Int32) × (Nat → Int32)) :=
  bO (R_lessens_L5 p1 t_wide p2 N (0 : Int32) (0 : Int32) t_limbs) ((fun (t_limbs'_4 : Nat → Int32) =>
  bO (F_R_trims N p1 t_limbs'_4 t_wide) ((fun (t_wide'_2 : Nat → Int32) =>
  some (t_limbs'_4, t_wide'_2)))))
def R_against_L45 (p1 : Int32) (p2 : Int32) (t_limbs : Nat → Int32) : Nat → Int32 → Option ((Int32) ⊕ Unit)
  | 0, _ => none
  | k0 + 1, x3 =>
  if x3 < (0 : Int32) then
    some (.inr ())
  else
    gd (ixb (((60 : Int32) * p1) + x3) 1680) (
    gd (ixb (((60 : Int32) * p2) + x3) 1680) (
    if (t_limbs (((60 : Int32) * p1) + x3).toNatClampNeg) = (t_limbs (((60 : Int32) * p2) + x3).toNatClampNeg) then
      R_against_L45 p1 p2 t_limbs k0 (x3 + (-1 : Int32))
    else
      if (t_limbs (((60 : Int32) * p2) + x3).toNatClampNeg) ≤ (t_limbs (((60 : Int32) * p1) + x3).toNatClampNeg) then
        some (.inl (1 : Int32))
      else
        some (.inl (-1 : Int32))))
def F_R_against (N : Nat) (p1 : Int32) (p2 : Int32) (t_limbs : Nat → Int32) (t_wide : Nat → Int32) : Option (Int32) :=
  gd (ixb p1 28) (
  gd (ixb p2 28) (
  if (t_wide p1.toNatClampNeg) = (t_wide p2.toNatClampNeg) then
    bT (R_against_L45 p1 p2 t_limbs N ((t_wide p1.toNatClampNeg) - (1 : Int32))) (u0 (
    some (0 : Int32)))
  else
    if (t_wide p2.toNatClampNeg) ≤ (t_wide p1.toNatClampNeg) then
      some (1 : Int32)
    else
      some (-1 : Int32)))
def F_R_isEven (p1 : Int32) (t_limbs : Nat → Int32) : Option (Int32) :=
  gd (ixb ((60 : Int32) * p1) 1680) (
  if ((t_limbs ((60 : Int32) * p1).toNatClampNeg) &&& (1 : Int32)) = (0 : Int32) then
    some (1 : Int32)
  else
    some (0 : Int32))
def R_halves_L2 (p1 : Int32) (t_wide : Nat → Int32) : Nat → Int32 → (Nat → Int32) → Option ((Nat → Int32))
  | 0, _, _ => none
  | k0 + 1, x2, t_limbs'_3 =>
  gd (ixb p1 28) (
  if (t_wide p1.toNatClampNeg) ≤ x2 then
    some t_limbs'_3
  else
    bO (
      if (t_wide p1.toNatClampNeg) ≤ (x2 + (1 : Int32)) then
        some (0 : Int32)
      else
        gd (ixb ((((60 : Int32) * p1) + x2) + (1 : Int32)) 1680) (
        some ((t_limbs'_3 ((((60 : Int32) * p1) + x2) + (1 : Int32)).toNatClampNeg) &&& (1 : Int32)))) ((fun (y0 : Int32) =>
    gd (ixb (((60 : Int32) * p1) + x2) 1680) (
    R_halves_L2 p1 t_wide k0 (x2 + (1 : Int32)) (upd t_limbs'_3 (((60 : Int32) * p1) + x2).toNatClampNeg ((jshr (t_limbs'_3 (((60 : Int32) * p1) + x2).toNatClampNeg) (1 : Int32)) ||| (jshl y0 (29 : Int32))))))))
def F_R_halves (N : Nat) (p1 : Int32) (t_limbs : Nat → Int32) (t_wide : Nat → Int32) : Option ((Nat → Int32) × (Nat → Int32)) :=
  bO (R_halves_L2 p1 t_wide N (0 : Int32) t_limbs) ((fun (t_limbs'_4 : Nat → Int32) =>
  bO (F_R_trims N p1 t_limbs'_4 t_wide) ((fun (t_wide'_2 : Nat → Int32) =>
  some (t_limbs'_4, t_wide'_2)))))
def R_parts_L4 (t_limbs : Nat → Int32) : Nat → Int32 → Int32 → Option (Int32)
  | 0, _, _ => none
  | k0 + 1, x2, x3 =>
  if (5 : Int32) ≤ x3 then
    some x2
  else
    R_parts_L4 t_limbs k0 (x2 * ((2 : Int32) - ((t_limbs 180) * x2))) (x3 + (1 : Int32))
def R_parts_L71 (c3 : Int32) (x4 : Int32) (t_wide : Nat → Int32) (c5 : Int32) (p1 : Int32) : Nat → Int64 → Int32 → (Nat → Int32) → Option ((Nat → Int32))
  | 0, _, _, _ => none
  | k0 + 1, x6, x8, t_limbs'_8 =>
  if c3 ≤ (x4 + x8) then
    some t_limbs'_8
  else
    bO (
      if (t_wide 3) ≤ x8 then
        some (0 : Int64)
      else
        gd (ixb ((180 : Int32) + x8) 1680) (
        some (c5.toInt64 * (t_limbs'_8 ((180 : Int32) + x8).toNatClampNeg).toInt64))) ((fun (y0 : Int64) =>
    gd (ixb ((((60 : Int32) * p1) + x4) + x8) 1680) (
    R_parts_L71 c3 x4 t_wide c5 p1 k0 (-(jshrL (((t_limbs'_8 ((((60 : Int32) * p1) + x4) + x8).toNatClampNeg).toInt64 - y0) - x6) (30 : Int32))) (x8 + (1 : Int32)) (upd t_limbs'_8 ((((60 : Int32) * p1) + x4) + x8).toNatClampNeg ((((t_limbs'_8 ((((60 : Int32) * p1) + x4) + x8).toNatClampNeg).toInt64 - y0) - x6) &&& (1073741823 : Int64)).toInt32))))
def R_parts_L40 (N : Nat) (c3 : Int32) (p1 : Int32) (t_wide : Nat → Int32) (x2_2 : Int32) : Nat → Int32 → (Nat → Int32) → Option ((Nat → Int32))
  | 0, _, _ => none
  | k0 + 1, x4, t_limbs'_7 =>
  if c3 ≤ x4 then
    some t_limbs'_7
  else
    gd (ixb (((60 : Int32) * p1) + x4) 1680) (
    bO (R_parts_L71 c3 x4 t_wide (((t_limbs'_7 (((60 : Int32) * p1) + x4).toNatClampNeg) * x2_2) &&& (1073741823 : Int32)) p1 N (0 : Int64) (0 : Int32) t_limbs'_7) ((fun (t_limbs'_9 : Nat → Int32) =>
    gd (ixb ((240 : Int32) + x4) 1680) (
    R_parts_L40 N c3 p1 t_wide x2_2 k0 (x4 + (1 : Int32)) (upd t_limbs'_9 ((240 : Int32) + x4).toNatClampNeg (((t_limbs'_7 (((60 : Int32) * p1) + x4).toNatClampNeg) * x2_2) &&& (1073741823 : Int32)))))))
def R_parts_L195 (c3_2 : Int32) (p1 : Int32) : Nat → Int32 → (Nat → Int32) → Option ((Nat → Int32))
  | 0, _, _ => none
  | k0 + 1, x4_2, t_limbs'_11 =>
  if c3_2 ≤ x4_2 then
    some t_limbs'_11
  else
    gd (ixb ((240 : Int32) + x4_2) 1680) (
    gd (ixb (((60 : Int32) * p1) + x4_2) 1680) (
    R_parts_L195 c3_2 p1 k0 (x4_2 + (1 : Int32)) (upd t_limbs'_11 (((60 : Int32) * p1) + x4_2).toNatClampNeg (t_limbs'_11 ((240 : Int32) + x4_2).toNatClampNeg))))
def F_R_parts (N : Nat) (p1 : Int32) (t_limbs : Nat → Int32) (t_wide : Nat → Int32) : Option ((Nat → Int32) × (Nat → Int32)) :=
  bO (R_parts_L4 t_limbs N (1 : Int32) (0 : Int32)) ((fun (x2_2 : Int32) =>
  gd (ixb p1 28) (
  bO (R_parts_L40 N (t_wide p1.toNatClampNeg) p1 t_wide x2_2 N (0 : Int32) t_limbs) ((fun (t_limbs'_10 : Nat → Int32) =>
  bO (R_parts_L195 (t_wide p1.toNatClampNeg) p1 N (0 : Int32) t_limbs'_10) ((fun (t_limbs'_12 : Nat → Int32) =>
  bO (F_R_trims N p1 t_limbs'_12 t_wide) ((fun (t_wide'_2 : Nat → Int32) =>
  some (t_limbs'_12, t_wide'_2))))))))))
def R_lowers_L16 (N : Nat) : Nat → (Nat → Int32) → (Nat → Int32) → Option ((Nat → Int32) × (Nat → Int32))
  | 0, _, _ => none
  | k0 + 1, t_limbs'_22, t_wide'_22 =>
  bO (F_R_isEven (0 : Int32) t_limbs'_22) ((fun (r18 : Int32) =>
  if r18 = (0 : Int32) then
    some (t_limbs'_22, t_wide'_22)
  else
    bO (F_R_isEven (1 : Int32) t_limbs'_22) ((fun (r26 : Int32) =>
    if r26 = (0 : Int32) then
      some (t_limbs'_22, t_wide'_22)
    else
      bO (F_R_halves N (0 : Int32) t_limbs'_22 t_wide'_22) (u2 (fun (t_limbs'_23 : Nat → Int32) (t_wide'_23 : Nat → Int32) =>
      bO (F_R_halves N (1 : Int32) t_limbs'_23 t_wide'_23) (u2 (fun (t_limbs'_24 : Nat → Int32) (t_wide'_24 : Nat → Int32) =>
      R_lowers_L16 N k0 t_limbs'_24 t_wide'_24))))))))
def R_lowers_L66 (N : Nat) : Nat → (Nat → Int32) → (Nat → Int32) → Option ((Nat → Int32) × (Nat → Int32))
  | 0, _, _ => none
  | k0 + 1, t_limbs'_29, t_wide'_29 =>
  bO (F_R_isEven (2 : Int32) t_limbs'_29) ((fun (r68 : Int32) =>
  if r68 = (0 : Int32) then
    some (t_limbs'_29, t_wide'_29)
  else
    bO (F_R_halves N (2 : Int32) t_limbs'_29 t_wide'_29) (u2 (fun (t_limbs'_30 : Nat → Int32) (t_wide'_30 : Nat → Int32) =>
    R_lowers_L66 N k0 t_limbs'_30 t_wide'_30))))
def R_lowers_L82 (N : Nat) : Nat → (Nat → Int32) → (Nat → Int32) → Option ((Nat → Int32) × (Nat → Int32))
  | 0, _, _ => none
  | k0 + 1, t_limbs'_32, t_wide'_32 =>
  bO (F_R_isEven (3 : Int32) t_limbs'_32) ((fun (r84 : Int32) =>
  if r84 = (0 : Int32) then
    some (t_limbs'_32, t_wide'_32)
  else
    bO (F_R_halves N (3 : Int32) t_limbs'_32 t_wide'_32) (u2 (fun (t_limbs'_33 : Nat → Int32) (t_wide'_33 : Nat → Int32) =>
    R_lowers_L82 N k0 t_limbs'_33 t_wide'_33))))
def R_lowers_L57 (N : Nat) : Nat → (Nat → Int32) → (Nat → Int32) → Option ((Nat → Int32) × (Nat → Int32))
  | 0, _, _ => none
  | k0 + 1, t_limbs'_28, t_wide'_28 =>
  if (t_wide'_28 2) ≤ (0 : Int32) then
    some (t_limbs'_28, t_wide'_28)
  else
    bO (R_lowers_L66 N N t_limbs'_28 t_wide'_28) (u2 (fun (t_limbs'_31 : Nat → Int32) (t_wide'_31 : Nat → Int32) =>
    bO (R_lowers_L82 N N t_limbs'_31 t_wide'_31) (u2 (fun (t_limbs'_34 : Nat → Int32) (t_wide'_34 : Nat → Int32) =>
    bO (F_R_against N (2 : Int32) (3 : Int32) t_limbs'_34 t_wide'_34) ((fun (r101 : Int32) =>
    bO (
      if r101 < (0 : Int32) then
        some (3 : Int32)
      else
        some (2 : Int32)) ((fun (y0 : Int32) =>
    bO (F_R_lessens N y0 ((5 : Int32) - y0) t_limbs'_34 t_wide'_34) (u2 (fun (t_limbs'_35 : Nat → Int32) (t_wide'_35 : Nat → Int32) =>
    if (t_wide'_35 3) = (0 : Int32) then
      bO (F_R_takes N (3 : Int32) (2 : Int32) t_limbs'_35 t_wide'_35) (u2 (fun (t_limbs'_36 : Nat → Int32) (t_wide'_36 : Nat → Int32) =>
      bO (F_R_sets N (2 : Int32) (0 : Int64) t_limbs'_36 t_wide'_36) (u2 (fun (t_limbs'_37 : Nat → Int32) (t_wide'_37 : Nat → Int32) =>
      R_lowers_L57 N k0 t_limbs'_37 t_wide'_37))))
    else
      R_lowers_L57 N k0 t_limbs'_35 t_wide'_35))))))))))
def F_R_lowers (N : Nat) (t_limbs : Nat → Int32) (t_wide : Nat → Int32) : Option ((Nat → Int32) × (Nat → Int32)) :=
  if (t_wide 0) = (0 : Int32) then
    bO (F_R_sets N (1 : Int32) (1 : Int64) t_limbs t_wide) (u2 (fun (t_limbs'_21 : Nat → Int32) (t_wide'_21 : Nat → Int32) =>
    some (t_limbs'_21, t_wide'_21)))
  else
    bO (R_lowers_L16 N N t_limbs t_wide) (u2 (fun (t_limbs'_25 : Nat → Int32) (t_wide'_25 : Nat → Int32) =>
    bO (F_R_takes N (2 : Int32) (0 : Int32) t_limbs'_25 t_wide'_25) (u2 (fun (t_limbs'_26 : Nat → Int32) (t_wide'_26 : Nat → Int32) =>
    bO (F_R_takes N (3 : Int32) (1 : Int32) t_limbs'_26 t_wide'_26) (u2 (fun (t_limbs'_27 : Nat → Int32) (t_wide'_27 : Nat → Int32) =>
    bO (R_lowers_L57 N N t_limbs'_27 t_wide'_27) (u2 (fun (t_limbs'_38 : Nat → Int32) (t_wide'_38 : Nat → Int32) =>
    bO (F_R_parts N (0 : Int32) t_limbs'_38 t_wide'_38) (u2 (fun (t_limbs'_39 : Nat → Int32) (t_wide'_39 : Nat → Int32) =>
    bO (F_R_parts N (1 : Int32) t_limbs'_39 t_wide'_39) (u2 (fun (t_limbs'_40 : Nat → Int32) (t_wide'_40 : Nat → Int32) =>
    some (t_limbs'_40, t_wide'_40)))))))))))))
def F_R_told (N : Nat) (p1 : Int64) (p2 : Int64) (t_limbs : Nat → Int32) (t_wide : Nat → Int32) : Option (Int32 × (Nat → Int32) × (Nat → Int32)) :=
  bO (F_R_sets N (0 : Int32) p1 t_limbs t_wide) (u2 (fun (t_limbs'_4 : Nat → Int32) (t_wide'_4 : Nat → Int32) =>
  bO (F_R_sets N (1 : Int32) p2 t_limbs'_4 t_wide'_4) (u2 (fun (t_limbs'_5 : Nat → Int32) (t_wide'_5 : Nat → Int32) =>
  bO (F_R_lowers N t_limbs'_5 t_wide'_5) (u2 (fun (t_limbs'_6 : Nat → Int32) (t_wide'_6 : Nat → Int32) =>
  some ((1 : Int32), t_limbs'_6, t_wide'_6)))))))
def F_R_sign (p1 : Int32) (t_wide : Nat → Int32) : Int32 :=
  if p1 = (0 : Int32) then
    if (t_wide 0) ≤ (0 : Int32) then
      (0 : Int32)
    else
      (1 : Int32)
  else
    if p1 = (1 : Int32) then
      (t_wide 0)
    else
      if p1 = (2 : Int32) then
        (t_wide 1)
      else
        (-2 : Int32)
def F_R_limb (p1 : Int32) (p2 : Int32) (t_limbs : Nat → Int32) (t_wide : Nat → Int32) : Option (Int32) :=
  if (F_R_in p1.toInt64 (0 : Int64) (1 : Int64)) = (0 : Int32) then
    some (-2 : Int32)
  else
    if (0 : Int32) ≤ p2 then
      gd (ixb p1 28) (
      if (t_wide p1.toNatClampNeg) ≤ p2 then
        some (-1 : Int32)
      else
        gd (ixb (((60 : Int32) * p1) + p2) 1680) (
        some (t_limbs (((60 : Int32) * p1) + p2).toNatClampNeg)))
    else
      some (-2 : Int32)
def F_R_puts (p1 : Int32) (p2 : Int32) (t_book : Nat → Int32) : Option (Int32 × (Nat → Int32)) :=
  gd (ixb p1 240) (
  some ((t_book p1.toNatClampNeg), (upd t_book p1.toNatClampNeg p2)))
def F_R_isPlace (p1 : Int32) : Int32 :=
  (vp_nar .boolean (F_R_in p1.toInt64 (0 : Int64) (63 : Int64)))
def F_R_isWeaver (p1 : Int32) (t_book : Nat → Int32) : Int32 :=
  (vp_nar .boolean (F_R_in p1.toInt64 (0 : Int64) ((t_book 1) - (1 : Int32)).toInt64))
def F_R_placeOf (p1 : Int32) (t_book : Nat → Int32) : Option (Int32) :=
  gd (ixb ((80 : Int32) + ((4 : Int32) * p1)) 240) (
  some (t_book ((80 : Int32) + ((4 : Int32) * p1)).toNatClampNeg))
def F_R_faceOf (p1 : Int32) (t_book : Nat → Int32) : Option (Int32) :=
  gd (ixb (((80 : Int32) + ((4 : Int32) * p1)) + (1 : Int32)) 240) (
  some (t_book (((80 : Int32) + ((4 : Int32) * p1)) + (1 : Int32)).toNatClampNeg))
def R_stands_L4 (t_book : Nat → Int32) (p1 : Int32) : Nat → Int32 → Int32 → Option (Int32)
  | 0, _, _ => none
  | k0 + 1, x2, x3 =>
  if (t_book 1) ≤ x3 then
    some x2
  else
    if x2 = (0 : Int32) then
      bO (F_R_placeOf x3 t_book) ((fun (r20 : Int32) =>
      if r20 = p1 then
        R_stands_L4 t_book p1 k0 (1 : Int32) (x3 + (1 : Int32))
      else
        R_stands_L4 t_book p1 k0 (0 : Int32) (x3 + (1 : Int32))))
    else
      R_stands_L4 t_book p1 k0 (1 : Int32) (x3 + (1 : Int32))
def F_R_stands (N : Nat) (p1 : Int32) (t_book : Nat → Int32) : Option (Int32) :=
  bO (R_stands_L4 t_book p1 N (0 : Int32) (0 : Int32)) ((fun (x2_2 : Int32) =>
  some (vp_nar .boolean x2_2)))
def F_R_pillar (N : Nat) (p1 : Int32) (t_book : Nat → Int32) : Option (Int32 × (Nat → Int32)) :=
  if (F_R_isPlace p1) = (0 : Int32) then
    some ((-2 : Int32), t_book)
  else
    bO (F_R_stands N p1 t_book) ((fun (r9 : Int32) =>
    if r9 = (0 : Int32) then
      gd (ixb ((10 : Int32) + p1) 240) (
      if (t_book ((10 : Int32) + p1).toNatClampNeg) = (1 : Int32) then
        some ((-3 : Int32), t_book)
      else
        some ((1 : Int32), (upd (upd t_book ((10 : Int32) + p1).toNatClampNeg (1 : Int32)) 0 (((upd t_book ((10 : Int32) + p1).toNatClampNeg (1 : Int32)) 0) + (1 : Int32)))))
    else
      some ((-2 : Int32), t_book)))
def F_R_weaver (N : Nat) (p1 : Int32) (p2 : Int32) (t_book : Nat → Int32) : Option (Int32 × (Nat → Int32)) :=
  if (F_R_isPlace p1) = (0 : Int32) then
    some ((-2 : Int32), t_book)
  else
    bO (F_R_stands N p1 t_book) ((fun (r9 : Int32) =>
    if r9 = (0 : Int32) then
      gd (ixb ((10 : Int32) + p1) 240) (
      if (t_book ((10 : Int32) + p1).toNatClampNeg) = (1 : Int32) then
        some ((-2 : Int32), t_book)
      else
        if (F_R_in p2.toInt64 (0 : Int64) (3 : Int64)) = (0 : Int32) then
          some ((-2 : Int32), t_book)
        else
          if (t_book 1) = (8 : Int32) then
            some ((-4 : Int32), t_book)
          else
            gd (ixb ((80 : Int32) + ((4 : Int32) * (t_book 1))) 240) (
            gd (ixb (((80 : Int32) + ((4 : Int32) * (t_book 1))) + (1 : Int32)) 240) (
            gd (ixb (((80 : Int32) + ((4 : Int32) * (t_book 1))) + (2 : Int32)) 240) (
            gd (ixb (((80 : Int32) + ((4 : Int32) * (t_book 1))) + (3 : Int32)) 240) (
            some ((((upd (upd (upd (upd (upd t_book ((80 : Int32) + ((4 : Int32) * (t_book 1))).toNatClampNeg p1) (((80 : Int32) + ((4 : Int32) * (t_book 1))) + (1 : Int32)).toNatClampNeg p2) (((80 : Int32) + ((4 : Int32) * (t_book 1))) + (2 : Int32)).toNatClampNeg (4095 : Int32)) (((80 : Int32) + ((4 : Int32) * (t_book 1))) + (3 : Int32)).toNatClampNeg (4095 : Int32)) 1 (((upd (upd (upd (upd t_book ((80 : Int32) + ((4 : Int32) * (t_book 1))).toNatClampNeg p1) (((80 : Int32) + ((4 : Int32) * (t_book 1))) + (1 : Int32)).toNatClampNeg p2) (((80 : Int32) + ((4 : Int32) * (t_book 1))) + (2 : Int32)).toNatClampNeg (4095 : Int32)) (((80 : Int32) + ((4 : Int32) * (t_book 1))) + (3 : Int32)).toNatClampNeg (4095 : Int32)) 1) + (1 : Int32))) 1) - (1 : Int32)), (upd (upd (upd (upd (upd t_book ((80 : Int32) + ((4 : Int32) * (t_book 1))).toNatClampNeg p1) (((80 : Int32) + ((4 : Int32) * (t_book 1))) + (1 : Int32)).toNatClampNeg p2) (((80 : Int32) + ((4 : Int32) * (t_book 1))) + (2 : Int32)).toNatClampNeg (4095 : Int32)) (((80 : Int32) + ((4 : Int32) * (t_book 1))) + (3 : Int32)).toNatClampNeg (4095 : Int32)) 1 (((upd (upd (upd (upd t_book ((80 : Int32) + ((4 : Int32) * (t_book 1))).toNatClampNeg p1) (((80 : Int32) + ((4 : Int32) * (t_book 1))) + (1 : Int32)).toNatClampNeg p2) (((80 : Int32) + ((4 : Int32) * (t_book 1))) + (2 : Int32)).toNatClampNeg (4095 : Int32)) (((80 : Int32) + ((4 : Int32) * (t_book 1))) + (3 : Int32)).toNatClampNeg (4095 : Int32)) 1) + (1 : Int32)))))))))
    else
      some ((-2 : Int32), t_book)))
def F_R_face (p1 : Int32) (p2 : Int32) (t_book : Nat → Int32) : Option (Int32 × (Nat → Int32)) :=
  if (F_R_isWeaver p1 t_book) = (0 : Int32) then
    some ((-2 : Int32), t_book)
  else
    if (F_R_in p2.toInt64 (0 : Int64) (3 : Int64)) = (0 : Int32) then
      some ((-2 : Int32), t_book)
    else
      bO (F_R_puts (((80 : Int32) + ((4 : Int32) * p1)) + (1 : Int32)) p2 t_book) (u2 (fun (r30 : Int32) (t_book'_2 : Nat → Int32) =>
      some (r30, t_book'_2)))
def R_free_L52 (p4 : Int32) : Nat → Int32 → Int32 → Option (Int32)
  | 0, _, _ => none
  | k0 + 1, x5, x6 =>
  if p4 < x6 then
    some x5
  else
    R_free_L52 p4 k0 (x5 ||| (jshl (1 : Int32) x6)) (x6 + (1 : Int32))
def F_R_free (N : Nat) (p1 : Int32) (p2 : Int32) (p3 : Int32) (p4 : Int32) (t_book : Nat → Int32) : Option (Int32 × (Nat → Int32)) :=
  if (F_R_isWeaver p1 t_book) = (0 : Int32) then
    some ((-2 : Int32), t_book)
  else
    if (F_R_in p2.toInt64 (0 : Int64) (1 : Int64)) = (0 : Int32) then
      some ((-2 : Int32), t_book)
    else
      if (F_R_in p4.toInt64 (0 : Int64) (11 : Int64)) = (0 : Int32) then
        some ((-2 : Int32), t_book)
      else
        if (F_R_in p3.toInt64 (0 : Int64) p4.toInt64) = (0 : Int32) then
          some ((-2 : Int32), t_book)
        else
          bO (R_free_L52 p4 N (0 : Int32) p3) ((fun (x5_2 : Int32) =>
          gd (ixb ((((80 : Int32) + ((4 : Int32) * p1)) + (2 : Int32)) + p2) 240) (
          some ((1 : Int32), (upd t_book ((((80 : Int32) + ((4 : Int32) * p1)) + (2 : Int32)) + p2).toNatClampNeg x5_2)))))
def F_R_far (p1 : Int32) (p2 : Int32) (t_book : Nat → Int32) : Option (Int32 × (Nat → Int32)) :=
  if (F_R_in p1.toInt64 (0 : Int64) (1 : Int64)) = (0 : Int32) then
    some ((-2 : Int32), t_book)
  else
    if (F_R_in p2.toInt64 (1 : Int64) (98 : Int64)) = (0 : Int32) then
      some ((-2 : Int32), t_book)
    else
      bO (F_R_puts ((6 : Int32) + p1) p2 t_book) (u2 (fun (r28 : Int32) (t_book'_2 : Nat → Int32) =>
      some (r28, t_book'_2)))
def F_R_toward (p1 : Int32) (p2 : Int32) (p3 : Int32) : Int32 :=
  if p3 = (0 : Int32) then
    (-((p2 / (8 : Int32)) - (p1 / (8 : Int32))))
  else
    if p3 = (1 : Int32) then
      ((jrem p2 (8 : Int32)) - (jrem p1 (8 : Int32)))
    else
      if p3 = (2 : Int32) then
        ((p2 / (8 : Int32)) - (p1 / (8 : Int32)))
      else
        (-((jrem p2 (8 : Int32)) - (jrem p1 (8 : Int32))))
def F_R_square (p1 : Int32) (p2 : Int32) : Int32 :=
  ((((p1 / (8 : Int32)) - (p2 / (8 : Int32))) * ((p1 / (8 : Int32)) - (p2 / (8 : Int32)))) + (((jrem p1 (8 : Int32)) - (jrem p2 (8 : Int32))) * ((jrem p1 (8 : Int32)) - (jrem p2 (8 : Int32)))))
def R_isClear_L12 (t_book : Nat → Int32) (p2 : Int32) (p1 : Int32) (c4 : Int32) : Nat → Int32 → Int32 → Option (Int32)
  | 0, _, _ => none
  | k0 + 1, x3, x5 =>
  if (64 : Int32) ≤ x5 then
    some x3
  else
    if x3 = (0 : Int32) then
      some x3
    else
      gd (ixb ((10 : Int32) + x5) 240) (
      if (t_book ((10 : Int32) + x5).toNatClampNeg) = (1 : Int32) then
        if ((((p2 / (8 : Int32)) - (p1 / (8 : Int32))) * ((x5 / (8 : Int32)) - (p1 / (8 : Int32)))) + (((jrem p2 (8 : Int32)) - (jrem p1 (8 : Int32))) * ((jrem x5 (8 : Int32)) - (jrem p1 (8 : Int32))))) ≤ (0 : Int32) then
          R_isClear_L12 t_book p2 p1 c4 k0 (1 : Int32) (x5 + (1 : Int32))
        else
          if c4 ≤ ((((p2 / (8 : Int32)) - (p1 / (8 : Int32))) * ((x5 / (8 : Int32)) - (p1 / (8 : Int32)))) + (((jrem p2 (8 : Int32)) - (jrem p1 (8 : Int32))) * ((jrem x5 (8 : Int32)) - (jrem p1 (8 : Int32))))) then
            R_isClear_L12 t_book p2 p1 c4 k0 (1 : Int32) (x5 + (1 : Int32))
          else
            if (((4 : Int32) * ((((p2 / (8 : Int32)) - (p1 / (8 : Int32))) * ((jrem x5 (8 : Int32)) - (jrem p1 (8 : Int32)))) - (((jrem p2 (8 : Int32)) - (jrem p1 (8 : Int32))) * ((x5 / (8 : Int32)) - (p1 / (8 : Int32)))))) * ((((p2 / (8 : Int32)) - (p1 / (8 : Int32))) * ((jrem x5 (8 : Int32)) - (jrem p1 (8 : Int32)))) - (((jrem p2 (8 : Int32)) - (jrem p1 (8 : Int32))) * ((x5 / (8 : Int32)) - (p1 / (8 : Int32)))))) < c4 then
              R_isClear_L12 t_book p2 p1 c4 k0 (0 : Int32) (x5 + (1 : Int32))
            else
              R_isClear_L12 t_book p2 p1 c4 k0 (1 : Int32) (x5 + (1 : Int32))
      else
        R_isClear_L12 t_book p2 p1 c4 k0 x3 (x5 + (1 : Int32)))
def F_R_isClear (N : Nat) (p1 : Int32) (p2 : Int32) (t_book : Nat → Int32) : Option (Int32) :=
  bO (R_isClear_L12 t_book p2 p1 (F_R_square p1 p2) N (1 : Int32) (0 : Int32)) ((fun (x3_2 : Int32) =>
  some (vp_nar .boolean x3_2)))
def F_R_areReading (N : Nat) (p1 : Int32) (p2 : Int32) (p3 : Int32) (p4 : Int32) (t_book : Nat → Int32) : Option (Int32) :=
  if (F_R_toward p1 p3 p2) ≤ (0 : Int32) then
    some (0 : Int32)
  else
    if (F_R_toward p3 p1 p4) ≤ (0 : Int32) then
      some (0 : Int32)
    else
      if (t_book 6) < (F_R_square p1 p3) then
        some (0 : Int32)
      else
        bO (F_R_isClear N p1 p3 t_book) ((fun (r37 : Int32) =>
        if r37 = (0 : Int32) then
          some (0 : Int32)
        else
          some (1 : Int32)))
def F_R_areFacing (N : Nat) (p1 : Int32) (p2 : Int32) (t_book : Nat → Int32) : Option (Int32) :=
  bO (F_R_placeOf p1 t_book) ((fun (r3 : Int32) =>
  bO (F_R_faceOf p1 t_book) ((fun (r8 : Int32) =>
  bO (F_R_placeOf p2 t_book) ((fun (r13 : Int32) =>
  bO (F_R_faceOf p2 t_book) ((fun (r18 : Int32) =>
  bO (F_R_areReading N r3 r8 r13 r18 t_book) ((fun (r21 : Int32) =>
  some (vp_nar .boolean r21)))))))))))
def F_R_watches (N : Nat) (p1 : Int32) (p2 : Int32) (t_book : Nat → Int32) : Option (Int32) :=
  bO (F_R_placeOf p1 t_book) ((fun (r2 : Int32) =>
  bO (F_R_placeOf p2 t_book) ((fun (r8 : Int32) =>
  bO (F_R_faceOf p1 t_book) ((fun (r18 : Int32) =>
  if (F_R_toward r2 r8 r18) ≤ (0 : Int32) then
    some (0 : Int32)
  else
    bO (F_R_faceOf p2 t_book) ((fun (r32 : Int32) =>
    if (F_R_toward r8 r2 r32) < (0 : Int32) then
      some (0 : Int32)
    else
      if (t_book 7) < (F_R_square r2 r8) then
        some (0 : Int32)
      else
        bO (F_R_isClear N r2 r8 t_book) ((fun (r61 : Int32) =>
        if r61 = (0 : Int32) then
          some (0 : Int32)
        else
          some (1 : Int32)))))))))))
def F_R_areTwo (p1 : Int32) (p2 : Int32) (t_book : Nat → Int32) : Int32 :=
  if (F_R_isWeaver p1 t_book) = (0 : Int32) then
    (0 : Int32)
  else
    if (F_R_isWeaver p2 t_book) = (0 : Int32) then
      (0 : Int32)
    else
      if p1 = p2 then
        (0 : Int32)
      else
        (1 : Int32)
def F_R_sees (N : Nat) (p1 : Int32) (p2 : Int32) (p3 : Int32) (t_book : Nat → Int32) : Option (Int32) :=
  if (F_R_areTwo p1 p2 t_book) = (0 : Int32) then
    some (-2 : Int32)
  else
    if (F_R_in p3.toInt64 (0 : Int64) (1 : Int64)) = (0 : Int32) then
      some (-2 : Int32)
    else
      bO (
        if p3 = (0 : Int32) then
          bO (F_R_areFacing N p1 p2 t_book) ((fun (r29 : Int32) =>
          some r29))
        else
          bO (F_R_watches N p1 p2 t_book) ((fun (r38 : Int32) =>
          some r38))) ((fun (y0 : Int32) =>
      if y0 = (0 : Int32) then
        some (0 : Int32)
      else
        some (1 : Int32)))
def F_R_clear (N : Nat) (p1 : Int32) (p2 : Int32) (t_book : Nat → Int32) : Option (Int32) :=
  if (F_R_areTwo p1 p2 t_book) = (0 : Int32) then
    some (-2 : Int32)
  else
    bO (F_R_placeOf p1 t_book) ((fun (r17 : Int32) =>
    bO (F_R_placeOf p2 t_book) ((fun (r22 : Int32) =>
    bO (F_R_isClear N r17 r22 t_book) ((fun (r25 : Int32) =>
    if r25 = (0 : Int32) then
      some (0 : Int32)
    else
      some (1 : Int32)))))))
def R_looks_L14 (N : Nat) (t_book : Nat → Int32) (x2 : Int32) (p1 : Int32) : Nat → Int32 → (Nat → Int32) → (Nat → Int32) → Option ((Nat → Int32) × (Nat → Int32))
  | 0, _, _, _ => none
  | k0 + 1, x3, t_hears'_6, t_spies'_6 =>
  if (t_book 1) ≤ x3 then
    some (t_hears'_6, t_spies'_6)
  else
    bO (
      if x2 = x3 then
        some (0 : Int32)
      else
        bO (F_R_areFacing N x2 x3 t_book) ((fun (r32 : Int32) =>
        if r32 = (0 : Int32) then
          some (0 : Int32)
        else
          some (1 : Int32)))) ((fun (y0 : Int32) =>
    bO (
      if x2 = x3 then
        some (0 : Int32)
      else
        bO (F_R_watches N x2 x3 t_book) ((fun (r53 : Int32) =>
        if r53 = (0 : Int32) then
          some (0 : Int32)
        else
          some (1 : Int32)))) ((fun (y0_2 : Int32) =>
    bO (
      if p1 = (0 : Int32) then
        some y0
      else
        some y0_2) ((fun (y2 : Int32) =>
    gd (ixb (((8 : Int32) * x2) + x3) 64) (
    if y0 = (0 : Int32) then
      if y0_2 = (0 : Int32) then
        R_looks_L14 N t_book x2 p1 k0 (x3 + (1 : Int32)) (upd t_hears'_6 (((8 : Int32) * x2) + x3).toNatClampNeg (vp_nar .boolean y2)) (upd t_spies'_6 (((8 : Int32) * x2) + x3).toNatClampNeg (vp_nar .boolean (0 : Int32)))
      else
        R_looks_L14 N t_book x2 p1 k0 (x3 + (1 : Int32)) (upd t_hears'_6 (((8 : Int32) * x2) + x3).toNatClampNeg (vp_nar .boolean y2)) (upd t_spies'_6 (((8 : Int32) * x2) + x3).toNatClampNeg (vp_nar .boolean (1 : Int32)))
    else
      R_looks_L14 N t_book x2 p1 k0 (x3 + (1 : Int32)) (upd t_hears'_6 (((8 : Int32) * x2) + x3).toNatClampNeg (vp_nar .boolean y2)) (upd t_spies'_6 (((8 : Int32) * x2) + x3).toNatClampNeg (vp_nar .boolean (1 : Int32))))))))))
def R_looks_L2 (N : Nat) (t_book : Nat → Int32) (p1 : Int32) : Nat → Int32 → (Nat → Int32) → (Nat → Int32) → Option ((Nat → Int32) × (Nat → Int32))
  | 0, _, _, _ => none
  | k0 + 1, x2, t_hears'_5, t_spies'_5 =>
  if (t_book 1) ≤ x2 then
    some (t_hears'_5, t_spies'_5)
  else
    bO (R_looks_L14 N t_book x2 p1 N (0 : Int32) t_hears'_5 t_spies'_5) (u2 (fun (t_hears'_7 : Nat → Int32) (t_spies'_7 : Nat → Int32) =>
    R_looks_L2 N t_book p1 k0 (x2 + (1 : Int32)) t_hears'_7 t_spies'_7))
def F_R_looks (N : Nat) (p1 : Int32) (t_book : Nat → Int32) (t_hears : Nat → Int32) (t_spies : Nat → Int32) : Option ((Nat → Int32) × (Nat → Int32)) :=
  bO (R_looks_L2 N t_book p1 N (0 : Int32) t_hears t_spies) (u2 (fun (t_hears'_8 : Nat → Int32) (t_spies'_8 : Nat → Int32) =>
  some (t_hears'_8, t_spies'_8)))
def F_R_can (p1 : Int32) (p2 : Int32) (p3 : Int32) (t_book : Nat → Int32) : Option (Int32) :=
  gd (ixb ((((80 : Int32) + ((4 : Int32) * p1)) + (2 : Int32)) + p2) 240) (
  if ((jshr (t_book ((((80 : Int32) + ((4 : Int32) * p1)) + (2 : Int32)) + p2).toNatClampNeg) (jrem p3 (12 : Int32))) &&& (1 : Int32)) = (1 : Int32) then
    some (1 : Int32)
  else
    some (0 : Int32))
def R_spreads_L8 (p1 : Int32) (p2 : Int32) : Nat → Int32 → (Nat → Int32) → (Nat → Int32) → Option ((Nat → Int32) × (Nat → Int32))
  | 0, _, _, _ => none
  | k0 + 1, x5, t_known'_9, t_by'_9 =>
  if (8 : Int32) ≤ x5 then
    some (t_known'_9, t_by'_9)
  else
    if x5 = p1 then
      gd (ixb x5 8) (
      R_spreads_L8 p1 p2 k0 (x5 + (1 : Int32)) (upd t_known'_9 x5.toNatClampNeg p2) (upd t_by'_9 x5.toNatClampNeg (-1 : Int32)))
    else
      gd (ixb x5 8) (
      R_spreads_L8 p1 p2 k0 (x5 + (1 : Int32)) (upd t_known'_9 x5.toNatClampNeg (1000000 : Int32)) (upd t_by'_9 x5.toNatClampNeg (-1 : Int32)))
def R_spreads_L166 (t_book : Nat → Int32) (y0 : Int32) (y0_2 : Int32) (p4 : Int32) (x6 : Int32) (t_hears'_2 : Nat → Int32) (x5_2 : Int32) : Nat → Int32 → (Nat → Int32) → (Nat → Int32) → Option ((Nat → Int32) × (Nat → Int32))
  | 0, _, _, _ => none
  | k0 + 1, x9, t_known'_13, t_by'_13 =>
  if (t_book 1) ≤ x9 then
    some (t_known'_13, t_by'_13)
  else
    if y0 = (0 : Int32) then
      some (t_known'_13, t_by'_13)
    else
      if y0_2 = (0 : Int32) then
        gd (ixb x9 8) (
        if (t_known'_13 x9.toNatClampNeg) = (1000000 : Int32) then
          if x9 = p4 then
            R_spreads_L166 t_book y0 y0_2 p4 x6 t_hears'_2 x5_2 k0 (x9 + (1 : Int32)) t_known'_13 t_by'_13
          else
            gd (ixb (((8 : Int32) * x9) + x6) 64) (
            if (t_hears'_2 (((8 : Int32) * x9) + x6).toNatClampNeg) = (0 : Int32) then
              R_spreads_L166 t_book y0 y0_2 p4 x6 t_hears'_2 x5_2 k0 (x9 + (1 : Int32)) t_known'_13 t_by'_13
            else
              bO (F_R_can x9 (1 : Int32) x5_2 t_book) ((fun (r228 : Int32) =>
              if r228 = (0 : Int32) then
                R_spreads_L166 t_book y0 y0_2 p4 x6 t_hears'_2 x5_2 k0 (x9 + (1 : Int32)) t_known'_13 t_by'_13
              else
                R_spreads_L166 t_book y0 y0_2 p4 x6 t_hears'_2 x5_2 k0 (x9 + (1 : Int32)) (upd t_known'_13 x9.toNatClampNeg (x5_2 + (1 : Int32))) (upd t_by'_13 x9.toNatClampNeg x6))))
        else
          R_spreads_L166 t_book y0 y0_2 p4 x6 t_hears'_2 x5_2 k0 (x9 + (1 : Int32)) t_known'_13 t_by'_13)
      else
        some (t_known'_13, t_by'_13)
def R_spreads_L62 (N : Nat) (t_book : Nat → Int32) (x5_2 : Int32) (p4 : Int32) (t_spies'_2 : Nat → Int32) (t_hears'_2 : Nat → Int32) : Nat → Int32 → (Nat → Int32) → (Nat → Int32) → Option ((Nat → Int32) × (Nat → Int32))
  | 0, _, _, _ => none
  | k0 + 1, x6, t_known'_12, t_by'_12 =>
  if (t_book 1) ≤ x6 then
    some (t_known'_12, t_by'_12)
  else
    gd (ixb x6 8) (
    bO (
      if x5_2 < (t_known'_12 x6.toNatClampNeg) then
        some (0 : Int32)
      else
        bO (F_R_can x6 (0 : Int32) x5_2 t_book) ((fun (r91 : Int32) =>
        if r91 = (0 : Int32) then
          some (0 : Int32)
        else
          some (1 : Int32)))) ((fun (y0 : Int32) =>
    bO (
      if p4 = (-1 : Int32) then
        some (0 : Int32)
      else
        bO (
          if (0 : Int32) ≤ p4 then
            some p4
          else
            some (0 : Int32)) ((fun (y2 : Int32) =>
        gd (ixb (((8 : Int32) * y2) + x6) 64) (
        if (t_spies'_2 (((8 : Int32) * y2) + x6).toNatClampNeg) = (0 : Int32) then
          some (0 : Int32)
        else
          bO (
            if (0 : Int32) ≤ p4 then
              some p4
            else
              some (0 : Int32)) ((fun (y1 : Int32) =>
          bO (F_R_can y1 (1 : Int32) x5_2 t_book) ((fun (r150 : Int32) =>
          if r150 = (0 : Int32) then
            some (0 : Int32)
          else
            some (1 : Int32))))))))) ((fun (y0_2 : Int32) =>
    bO (R_spreads_L166 t_book y0 y0_2 p4 x6 t_hears'_2 x5_2 N (0 : Int32) t_known'_12 t_by'_12) (u2 (fun (t_known'_14 : Nat → Int32) (t_by'_14 : Nat → Int32) =>
    R_spreads_L62 N t_book x5_2 p4 t_spies'_2 t_hears'_2 k0 (x6 + (1 : Int32)) t_known'_14 t_by'_14)))))))
def R_spreads_L51 (N : Nat) (t_book : Nat → Int32) (p4 : Int32) (t_spies'_2 : Nat → Int32) (t_hears'_2 : Nat → Int32) : Nat → Int32 → (Nat → Int32) → (Nat → Int32) → Option ((Nat → Int32) × (Nat → Int32))
  | 0, _, _, _ => none
  | k0 + 1, x5_2, t_known'_11, t_by'_11 =>
  if (240 : Int32) ≤ x5_2 then
    some (t_known'_11, t_by'_11)
  else
    bO (R_spreads_L62 N t_book x5_2 p4 t_spies'_2 t_hears'_2 N (0 : Int32) t_known'_11 t_by'_11) (u2 (fun (t_known'_15 : Nat → Int32) (t_by'_15 : Nat → Int32) =>
    R_spreads_L51 N t_book p4 t_spies'_2 t_hears'_2 k0 (x5_2 + (1 : Int32)) t_known'_15 t_by'_15))
def F_R_spreads (N : Nat) (p1 : Int32) (p2 : Int32) (p3 : Int32) (p4 : Int32) (t_book : Nat → Int32) (t_hears : Nat → Int32) (t_spies : Nat → Int32) (t_known : Nat → Int32) (t_by : Nat → Int32) : Option ((Nat → Int32) × (Nat → Int32) × (Nat → Int32) × (Nat → Int32)) :=
  bO (F_R_looks N p3 t_book t_hears t_spies) (u2 (fun (t_hears'_2 : Nat → Int32) (t_spies'_2 : Nat → Int32) =>
  bO (R_spreads_L8 p1 p2 N (0 : Int32) t_known t_by) (u2 (fun (t_known'_10 : Nat → Int32) (t_by'_10 : Nat → Int32) =>
  bO (R_spreads_L51 N t_book p4 t_spies'_2 t_hears'_2 N p2 t_known'_10 t_by'_10) (u2 (fun (t_known'_16 : Nat → Int32) (t_by'_16 : Nat → Int32) =>
  some (t_hears'_2, t_spies'_2, t_known'_16, t_by'_16)))))))
def F_R_isNews (p1 : Int32) (p2 : Int32) (p3 : Int32) (p4 : Int32) (t_book : Nat → Int32) : Int32 :=
  if (F_R_isWeaver p1 t_book) = (0 : Int32) then
    (0 : Int32)
  else
    if (F_R_isWeaver p2 t_book) = (0 : Int32) then
      (0 : Int32)
    else
      if (F_R_in p3.toInt64 (0 : Int64) (1 : Int64)) = (0 : Int32) then
        (0 : Int32)
      else
        if p4 = (-1 : Int32) then
          (1 : Int32)
        else
          if (F_R_isWeaver p4 t_book) = (0 : Int32) then
            (0 : Int32)
          else
            if p4 = p1 then
              (0 : Int32)
            else
              (1 : Int32)
def F_R_knows (N : Nat) (p1 : Int32) (p2 : Int32) (p3 : Int32) (p4 : Int32) (t_book : Nat → Int32) (t_hears : Nat → Int32) (t_spies : Nat → Int32) (t_known : Nat → Int32) (t_by : Nat → Int32) : Option (Int32 × (Nat → Int32) × (Nat → Int32) × (Nat → Int32) × (Nat → Int32)) :=
  if (F_R_isNews p1 p2 p3 p4 t_book) = (0 : Int32) then
    some ((-10 : Int32), t_hears, t_spies, t_known, t_by)
  else
    bO (F_R_spreads N p1 (0 : Int32) p3 p4 t_book t_hears t_spies t_known t_by) (u4 (fun (t_hears'_2 : Nat → Int32) (t_spies'_2 : Nat → Int32) (t_known'_2 : Nat → Int32) (t_by'_2 : Nat → Int32) =>
    gd (ixb p2 8) (
    if (1000000 : Int32) ≤ (t_known'_2 p2.toNatClampNeg) then
      some ((-1 : Int32), t_hears'_2, t_spies'_2, t_known'_2, t_by'_2)
    else
      some ((t_known'_2 p2.toNatClampNeg), t_hears'_2, t_spies'_2, t_known'_2, t_by'_2))))
def F_R_teller (N : Nat) (p1 : Int32) (p2 : Int32) (p3 : Int32) (p4 : Int32) (t_book : Nat → Int32) (t_hears : Nat → Int32) (t_spies : Nat → Int32) (t_known : Nat → Int32) (t_by : Nat → Int32) : Option (Int32 × (Nat → Int32) × (Nat → Int32) × (Nat → Int32) × (Nat → Int32)) :=
  if (F_R_isNews p1 p2 p3 p4 t_book) = (0 : Int32) then
    some ((-10 : Int32), t_hears, t_spies, t_known, t_by)
  else
    bO (F_R_spreads N p1 (0 : Int32) p3 p4 t_book t_hears t_spies t_known t_by) (u4 (fun (t_hears'_2 : Nat → Int32) (t_spies'_2 : Nat → Int32) (t_known'_2 : Nat → Int32) (t_by'_2 : Nat → Int32) =>
    gd (ixb p2 8) (
    some ((t_by'_2 p2.toNatClampNeg), t_hears'_2, t_spies'_2, t_known'_2, t_by'_2))))
def F_R_meet (N : Nat) (p1 : Int32) (p2 : Int32) (p3 : Int32) (p4 : Int32) (t_book : Nat → Int32) (t_hears : Nat → Int32) (t_spies : Nat → Int32) (t_known : Nat → Int32) (t_by : Nat → Int32) : Option (Int32 × (Nat → Int32) × (Nat → Int32) × (Nat → Int32) × (Nat → Int32)) :=
  if (F_R_areTwo p1 p2 t_book) = (0 : Int32) then
    some ((-10 : Int32), t_hears, t_spies, t_known, t_by)
  else
    if (F_R_isWeaver p4 t_book) = (0 : Int32) then
      some ((-10 : Int32), t_hears, t_spies, t_known, t_by)
    else
      if (F_R_in p3.toInt64 (0 : Int64) (240 : Int64)) = (0 : Int32) then
        some ((-10 : Int32), t_hears, t_spies, t_known, t_by)
      else
        bO (F_R_spreads N p1 (0 : Int32) (0 : Int32) (-1 : Int32) t_book t_hears t_spies t_known t_by) (u4 (fun (t_hears'_3 : Nat → Int32) (t_spies'_3 : Nat → Int32) (t_known'_3 : Nat → Int32) (t_by'_3 : Nat → Int32) =>
        gd (ixb p4 8) (
        bO (F_R_spreads N p2 p3 (0 : Int32) (-1 : Int32) t_book t_hears'_3 t_spies'_3 t_known'_3 t_by'_3) (u4 (fun (t_hears'_4 : Nat → Int32) (t_spies'_4 : Nat → Int32) (t_known'_4 : Nat → Int32) (t_by'_4 : Nat → Int32) =>
        if (t_known'_3 p4.toNatClampNeg) = (t_known'_4 p4.toNatClampNeg) then
          if (t_known'_3 p4.toNatClampNeg) = (1000000 : Int32) then
            some ((-1 : Int32), t_hears'_4, t_spies'_4, t_known'_4, t_by'_4)
          else
            some ((2 : Int32), t_hears'_4, t_spies'_4, t_known'_4, t_by'_4)
        else
          if (t_known'_4 p4.toNatClampNeg) ≤ (t_known'_3 p4.toNatClampNeg) then
            some ((1 : Int32), t_hears'_4, t_spies'_4, t_known'_4, t_by'_4)
          else
            some ((0 : Int32), t_hears'_4, t_spies'_4, t_known'_4, t_by'_4))))))
def F_R_seen (p1 : Int32) (p2 : Int32) (p3 : Int32) (t_book : Nat → Int32) : Option (Int32 × (Nat → Int32)) :=
  if (F_R_isWeaver p1 t_book) = (0 : Int32) then
    some ((-2 : Int32), t_book)
  else
    if (F_R_in p2.toInt64 (0 : Int64) (240 : Int64)) = (0 : Int32) then
      some ((-2 : Int32), t_book)
    else
      if (t_book 2) = (10 : Int32) then
        some ((-4 : Int32), t_book)
      else
        gd (ixb ((120 : Int32) + ((3 : Int32) * (t_book 2))) 240) (
        gd (ixb (((120 : Int32) + ((3 : Int32) * (t_book 2))) + (1 : Int32)) 240) (
        bO (
          if p3 = (0 : Int32) then
            some (0 : Int32)
          else
            some (1 : Int32)) ((fun (y2 : Int32) =>
        gd (ixb (((120 : Int32) + ((3 : Int32) * (t_book 2))) + (2 : Int32)) 240) (
        some (((upd (upd (upd (upd t_book ((120 : Int32) + ((3 : Int32) * (t_book 2))).toNatClampNeg p1) (((120 : Int32) + ((3 : Int32) * (t_book 2))) + (1 : Int32)).toNatClampNeg p2) (((120 : Int32) + ((3 : Int32) * (t_book 2))) + (2 : Int32)).toNatClampNeg y2) 2 (((upd (upd (upd t_book ((120 : Int32) + ((3 : Int32) * (t_book 2))).toNatClampNeg p1) (((120 : Int32) + ((3 : Int32) * (t_book 2))) + (1 : Int32)).toNatClampNeg p2) (((120 : Int32) + ((3 : Int32) * (t_book 2))) + (2 : Int32)).toNatClampNeg y2) 2) + (1 : Int32))) 2), (upd (upd (upd (upd t_book ((120 : Int32) + ((3 : Int32) * (t_book 2))).toNatClampNeg p1) (((120 : Int32) + ((3 : Int32) * (t_book 2))) + (1 : Int32)).toNatClampNeg p2) (((120 : Int32) + ((3 : Int32) * (t_book 2))) + (2 : Int32)).toNatClampNeg y2) 2 (((upd (upd (upd t_book ((120 : Int32) + ((3 : Int32) * (t_book 2))).toNatClampNeg p1) (((120 : Int32) + ((3 : Int32) * (t_book 2))) + (1 : Int32)).toNatClampNeg p2) (((120 : Int32) + ((3 : Int32) * (t_book 2))) + (2 : Int32)).toNatClampNeg y2) 2) + (1 : Int32)))))))))
def R_source_L27 (t_book : Nat → Int32) (t_known'_5 : Nat → Int32) : Nat → Int32 → Int32 → Option (Int32)
  | 0, _, _ => none
  | k0 + 1, x3, x4 =>
  if (t_book 2) ≤ x4 then
    some x3
  else
    gd (ixb ((120 : Int32) + ((3 : Int32) * x4)) 240) (
    gd (ixb (t_book ((120 : Int32) + ((3 : Int32) * x4)).toNatClampNeg) 8) (
    gd (ixb (((120 : Int32) + ((3 : Int32) * x4)) + (1 : Int32)) 240) (
    bO (
      if (t_book (((120 : Int32) + ((3 : Int32) * x4)) + (1 : Int32)).toNatClampNeg) < (t_known'_5 (t_book ((120 : Int32) + ((3 : Int32) * x4)).toNatClampNeg).toNatClampNeg) then
        some (0 : Int32)
      else
        some (1 : Int32)) ((fun (y0 : Int32) =>
    if x3 = (0 : Int32) then
      R_source_L27 t_book t_known'_5 k0 (0 : Int32) (x4 + (1 : Int32))
    else
      gd (ixb (((120 : Int32) + ((3 : Int32) * x4)) + (2 : Int32)) 240) (
      bO (
        if (t_book (((120 : Int32) + ((3 : Int32) * x4)) + (2 : Int32)).toNatClampNeg) = (1 : Int32) then
          some (1 : Int32)
        else
          some (0 : Int32)) ((fun (y1 : Int32) =>
      if y0 = y1 then
        R_source_L27 t_book t_known'_5 k0 (1 : Int32) (x4 + (1 : Int32))
      else
        R_source_L27 t_book t_known'_5 k0 (0 : Int32) (x4 + (1 : Int32))))))))))
def R_source_L4 (N : Nat) (t_book : Nat → Int32) : Nat → Int32 → Int32 → (Nat → Int32) → (Nat → Int32) → (Nat → Int32) → (Nat → Int32) → Option (Int32 × (Nat → Int32) × (Nat → Int32) × (Nat → Int32) × (Nat → Int32))
  | 0, _, _, _, _, _, _ => none
  | k0 + 1, x1, x2, t_hears'_4, t_spies'_4, t_known'_4, t_by'_4 =>
  if (t_book 1) ≤ x2 then
    some (x1, t_hears'_4, t_spies'_4, t_known'_4, t_by'_4)
  else
    bO (F_R_spreads N x2 (0 : Int32) (0 : Int32) (-1 : Int32) t_book t_hears'_4 t_spies'_4 t_known'_4 t_by'_4) (u4 (fun (t_hears'_5 : Nat → Int32) (t_spies'_5 : Nat → Int32) (t_known'_5 : Nat → Int32) (t_by'_5 : Nat → Int32) =>
    bO (R_source_L27 t_book t_known'_5 N (1 : Int32) (0 : Int32)) ((fun (x3_2 : Int32) =>
    if x3_2 = (0 : Int32) then
      R_source_L4 N t_book k0 (x1 ||| (0 : Int32)) (x2 + (1 : Int32)) t_hears'_5 t_spies'_5 t_known'_5 t_by'_5
    else
      R_source_L4 N t_book k0 (x1 ||| (jshl (1 : Int32) x2)) (x2 + (1 : Int32)) t_hears'_5 t_spies'_5 t_known'_5 t_by'_5))))
def F_R_source (N : Nat) (t_book : Nat → Int32) (t_hears : Nat → Int32) (t_spies : Nat → Int32) (t_known : Nat → Int32) (t_by : Nat → Int32) : Option (Int32 × (Nat → Int32) × (Nat → Int32) × (Nat → Int32) × (Nat → Int32)) :=
  bO (R_source_L4 N t_book N (0 : Int32) (0 : Int32) t_hears t_spies t_known t_by) (u5 (fun (x1_2 : Int32) (t_hears'_6 : Nat → Int32) (t_spies'_6 : Nat → Int32) (t_known'_6 : Nat → Int32) (t_by'_6 : Nat → Int32) =>
  some (x1_2, t_hears'_6, t_spies'_6, t_known'_6, t_by'_6)))
def R_isJoined_L36 (t_book : Nat → Int32) (x6 : Int32) (p1 : Int32) (p2 : Int32) (t_hears : Nat → Int32) (p3 : Int32) : Nat → Int32 → Int32 → Option (Int32)
  | 0, _, _ => none
  | k0 + 1, x4_3, x7 =>
  if (t_book 1) ≤ x7 then
    some x4_3
  else
    bO (
      if x6 = p1 then
        if x7 = p2 then
          some (1 : Int32)
        else
          some (0 : Int32)
      else
        some (0 : Int32)) ((fun (y0 : Int32) =>
    if ((jshr x4_3 x6) &&& (1 : Int32)) = (1 : Int32) then
      if x6 = p2 then
        R_isJoined_L36 t_book x6 p1 p2 t_hears p3 k0 x4_3 (x7 + (1 : Int32))
      else
        gd (ixb (((8 : Int32) * x7) + x6) 64) (
        if (t_hears (((8 : Int32) * x7) + x6).toNatClampNeg) = (0 : Int32) then
          R_isJoined_L36 t_book x6 p1 p2 t_hears p3 k0 x4_3 (x7 + (1 : Int32))
        else
          if y0 = (0 : Int32) then
            if ((jshr p3 x7) &&& (1 : Int32)) = (0 : Int32) then
              R_isJoined_L36 t_book x6 p1 p2 t_hears p3 k0 (x4_3 ||| (jshl (1 : Int32) x7)) (x7 + (1 : Int32))
            else
              R_isJoined_L36 t_book x6 p1 p2 t_hears p3 k0 x4_3 (x7 + (1 : Int32))
          else
            R_isJoined_L36 t_book x6 p1 p2 t_hears p3 k0 x4_3 (x7 + (1 : Int32)))
    else
      R_isJoined_L36 t_book x6 p1 p2 t_hears p3 k0 x4_3 (x7 + (1 : Int32))))
def R_isJoined_L22 (N : Nat) (t_book : Nat → Int32) (p1 : Int32) (p2 : Int32) (t_hears : Nat → Int32) (p3 : Int32) : Nat → Int32 → Int32 → Option (Int32)
  | 0, _, _ => none
  | k0 + 1, x4_2, x6 =>
  if (t_book 1) ≤ x6 then
    some x4_2
  else
    bO (R_isJoined_L36 t_book x6 p1 p2 t_hears p3 N x4_2 (0 : Int32)) ((fun (x4_4 : Int32) =>
    R_isJoined_L22 N t_book p1 p2 t_hears p3 k0 x4_4 (x6 + (1 : Int32))))
def R_isJoined_L8 (N : Nat) (t_book : Nat → Int32) (p1 : Int32) (p2 : Int32) (t_hears : Nat → Int32) (p3 : Int32) : Nat → Int32 → Int32 → Option (Int32)
  | 0, _, _ => none
  | k0 + 1, x4, x5 =>
  if x4 = x5 then
    some x4
  else
    bO (R_isJoined_L22 N t_book p1 p2 t_hears p3 N x4 (0 : Int32)) ((fun (x4_5 : Int32) =>
    R_isJoined_L8 N t_book p1 p2 t_hears p3 k0 x4_5 x4))
def F_R_isJoined (N : Nat) (p1 : Int32) (p2 : Int32) (p3 : Int32) (t_book : Nat → Int32) (t_hears : Nat → Int32) : Option (Int32) :=
  bO (R_isJoined_L8 N t_book p1 p2 t_hears p3 N (jshl (1 : Int32) p1) (0 : Int32)) ((fun (x4_6 : Int32) =>
  if ((jshr x4_6 p2) &&& (1 : Int32)) = (1 : Int32) then
    some (1 : Int32)
  else
    some (0 : Int32)))
def R_sizeOf_L4  : Nat → Int32 → Int32 → Option (Int32)
  | 0, _, _ => none
  | k0 + 1, x1, x2 =>
  if x2 ≤ (0 : Int32) then
    some x1
  else
    R_sizeOf_L4 k0 (x1 + (x2 &&& (1 : Int32))) (jshr x2 (1 : Int32))
def F_R_sizeOf (N : Nat) (p1 : Int32) : Option (Int32) :=
  bO (R_sizeOf_L4 N (0 : Int32) p1) ((fun (x1_2 : Int32) =>
  some x1_2))
def R_apart_L23 (N : Nat) (t_book : Nat → Int32) (p1 : Int32) (p2 : Int32) (t_hears'_2 : Nat → Int32) : Nat → Int32 → Int32 → Option (Int32)
  | 0, _, _ => none
  | k0 + 1, x3, x4 =>
  if (jshl (1 : Int32) (t_book 1)) ≤ x4 then
    some x3
  else
    bO (
      if ((jshr x4 p1) &&& (1 : Int32)) = (0 : Int32) then
        if ((jshr x4 p2) &&& (1 : Int32)) = (0 : Int32) then
          some (1 : Int32)
        else
          some (0 : Int32)
      else
        some (0 : Int32)) ((fun (y0 : Int32) =>
    if y0 = (0 : Int32) then
      R_apart_L23 N t_book p1 p2 t_hears'_2 k0 x3 (x4 + (1 : Int32))
    else
      bO (F_R_sizeOf N x4) ((fun (r68 : Int32) =>
      if x3 ≤ r68 then
        R_apart_L23 N t_book p1 p2 t_hears'_2 k0 x3 (x4 + (1 : Int32))
      else
        bO (F_R_isJoined N p1 p2 x4 t_book t_hears'_2) ((fun (r80 : Int32) =>
        if r80 = (0 : Int32) then
          bO (F_R_sizeOf N x4) ((fun (r88 : Int32) =>
          R_apart_L23 N t_book p1 p2 t_hears'_2 k0 r88 (x4 + (1 : Int32))))
        else
          R_apart_L23 N t_book p1 p2 t_hears'_2 k0 x3 (x4 + (1 : Int32))))))))
def F_R_apart (N : Nat) (p1 : Int32) (p2 : Int32) (t_book : Nat → Int32) (t_hears : Nat → Int32) (t_spies : Nat → Int32) : Option (Int32 × (Nat → Int32) × (Nat → Int32)) :=
  if (F_R_areTwo p1 p2 t_book) = (0 : Int32) then
    some ((-2 : Int32), t_hears, t_spies)
  else
    bO (F_R_looks N (0 : Int32) t_book t_hears t_spies) (u2 (fun (t_hears'_2 : Nat → Int32) (t_spies'_2 : Nat → Int32) =>
    bO (R_apart_L23 N t_book p1 p2 t_hears'_2 N (1000000 : Int32) (0 : Int32)) ((fun (x3_2 : Int32) =>
    gd (ixb (((8 : Int32) * p2) + p1) 64) (
    if (t_hears'_2 (((8 : Int32) * p2) + p1).toNatClampNeg) = (0 : Int32) then
      some ((x3_2 + (0 : Int32)), t_hears'_2, t_spies'_2)
    else
      some ((x3_2 + (1 : Int32)), t_hears'_2, t_spies'_2))))))
def R_like_L62 (c3 : Int32) (c4 : Int32) : Nat → Int32 → (Nat → Int32) → Option ((Nat → Int32))
  | 0, _, _ => none
  | k0 + 1, x5, t_book'_3 =>
  if (6 : Int32) ≤ x5 then
    some t_book'_3
  else
    gd (ixb ((150 : Int32) + x5) 240) (
    if (t_book'_3 ((150 : Int32) + x5).toNatClampNeg) = c3 then
      if c4 ≤ c3 then
        R_like_L62 c3 c4 k0 (x5 + (1 : Int32)) (upd t_book'_3 ((150 : Int32) + x5).toNatClampNeg c4)
      else
        R_like_L62 c3 c4 k0 (x5 + (1 : Int32)) (upd t_book'_3 ((150 : Int32) + x5).toNatClampNeg c3)
    else
      if (t_book'_3 ((150 : Int32) + x5).toNatClampNeg) = c4 then
        if c4 ≤ c3 then
          R_like_L62 c3 c4 k0 (x5 + (1 : Int32)) (upd t_book'_3 ((150 : Int32) + x5).toNatClampNeg c4)
        else
          R_like_L62 c3 c4 k0 (x5 + (1 : Int32)) (upd t_book'_3 ((150 : Int32) + x5).toNatClampNeg c3)
      else
        R_like_L62 c3 c4 k0 (x5 + (1 : Int32)) t_book'_3)
def F_R_like (N : Nat) (p1 : Int32) (p2 : Int32) (t_book : Nat → Int32) : Option (Int32 × (Nat → Int32)) :=
  if (F_R_in p1.toInt64 (0 : Int64) (5 : Int64)) = (0 : Int32) then
    some ((-2 : Int32), t_book)
  else
    if (F_R_in p2.toInt64 (0 : Int64) (5 : Int64)) = (0 : Int32) then
      some ((-2 : Int32), t_book)
    else
      gd (ixb ((150 : Int32) + p1) 240) (
      gd (ixb ((150 : Int32) + p2) 240) (
      if (t_book ((150 : Int32) + p1).toNatClampNeg) = (t_book ((150 : Int32) + p2).toNatClampNeg) then
        some ((-3 : Int32), t_book)
      else
        bO (R_like_L62 (t_book ((150 : Int32) + p1).toNatClampNeg) (t_book ((150 : Int32) + p2).toNatClampNeg) N (0 : Int32) t_book) ((fun (t_book'_4 : Nat → Int32) =>
        some ((1 : Int32), t_book'_4)))))
def R_power_L4 (p1 : Int32) : Nat → Int32 → Int32 → Option (Int32)
  | 0, _, _ => none
  | k0 + 1, x1, x2 =>
  if p1 ≤ x2 then
    some x1
  else
    R_power_L4 p1 k0 (x1 * (6 : Int32)) (x2 + (1 : Int32))
def F_R_power (N : Nat) (p1 : Int32) : Option (Int32) :=
  bO (R_power_L4 p1 N (1 : Int32) (0 : Int32)) ((fun (x1_2 : Int32) =>
  some x1_2))
def F_R_word (N : Nat) (p1 : Int32) (p2 : Int32) (p3 : Int32) (t_book : Nat → Int32) : Option (Int32 × (Nat → Int32)) :=
  if (F_R_in p1.toInt64 (1 : Int64) (6 : Int64)) = (0 : Int32) then
    some ((-2 : Int32), t_book)
  else
    bO (F_R_power N p1) ((fun (r16 : Int32) =>
    if (F_R_in p2.toInt64 (0 : Int64) (r16 - (1 : Int32)).toInt64) = (0 : Int32) then
      some ((-2 : Int32), t_book)
    else
      if (F_R_in p3.toInt64 (1 : Int64) (9 : Int64)) = (0 : Int32) then
        some ((-2 : Int32), t_book)
      else
        if (t_book 3) = (10 : Int32) then
          some ((-4 : Int32), t_book)
        else
          gd (ixb ((160 : Int32) + ((3 : Int32) * (t_book 3))) 240) (
          gd (ixb (((160 : Int32) + ((3 : Int32) * (t_book 3))) + (1 : Int32)) 240) (
          gd (ixb (((160 : Int32) + ((3 : Int32) * (t_book 3))) + (2 : Int32)) 240) (
          some ((((upd (upd (upd (upd t_book ((160 : Int32) + ((3 : Int32) * (t_book 3))).toNatClampNeg p1) (((160 : Int32) + ((3 : Int32) * (t_book 3))) + (1 : Int32)).toNatClampNeg p2) (((160 : Int32) + ((3 : Int32) * (t_book 3))) + (2 : Int32)).toNatClampNeg p3) 3 (((upd (upd (upd t_book ((160 : Int32) + ((3 : Int32) * (t_book 3))).toNatClampNeg p1) (((160 : Int32) + ((3 : Int32) * (t_book 3))) + (1 : Int32)).toNatClampNeg p2) (((160 : Int32) + ((3 : Int32) * (t_book 3))) + (2 : Int32)).toNatClampNeg p3) 3) + (1 : Int32))) 3) - (1 : Int32)), (upd (upd (upd (upd t_book ((160 : Int32) + ((3 : Int32) * (t_book 3))).toNatClampNeg p1) (((160 : Int32) + ((3 : Int32) * (t_book 3))) + (1 : Int32)).toNatClampNeg p2) (((160 : Int32) + ((3 : Int32) * (t_book 3))) + (2 : Int32)).toNatClampNeg p3) 3 (((upd (upd (upd t_book ((160 : Int32) + ((3 : Int32) * (t_book 3))).toNatClampNeg p1) (((160 : Int32) + ((3 : Int32) * (t_book 3))) + (1 : Int32)).toNatClampNeg p2) (((160 : Int32) + ((3 : Int32) * (t_book 3))) + (2 : Int32)).toNatClampNeg p3) 3) + (1 : Int32)))))))))
def F_R_isWord (p1 : Int32) (t_book : Nat → Int32) : Int32 :=
  (vp_nar .boolean (F_R_in p1.toInt64 (0 : Int64) ((t_book 3) - (1 : Int32)).toInt64))
def F_R_lengthOf (p1 : Int32) (t_book : Nat → Int32) : Option (Int32) :=
  gd (ixb ((160 : Int32) + ((3 : Int32) * p1)) 240) (
  some (t_book ((160 : Int32) + ((3 : Int32) * p1)).toNatClampNeg))
def F_R_weightOf (p1 : Int32) (t_book : Nat → Int32) : Option (Int32) :=
  gd (ixb (((160 : Int32) + ((3 : Int32) * p1)) + (2 : Int32)) 240) (
  some (t_book (((160 : Int32) + ((3 : Int32) * p1)) + (2 : Int32)).toNatClampNeg))
def F_R_lipOf (N : Nat) (p1 : Int32) (p2 : Int32) (t_book : Nat → Int32) : Option (Int32) :=
  gd (ixb (((160 : Int32) + ((3 : Int32) * p1)) + (1 : Int32)) 240) (
  bO (F_R_lengthOf p1 t_book) ((fun (r23 : Int32) =>
  bO (F_R_power N ((r23 - (1 : Int32)) - p2)) ((fun (r30 : Int32) =>
  gd (nz r30) (
  gd (ixb ((150 : Int32) + (jrem ((t_book (((160 : Int32) + ((3 : Int32) * p1)) + (1 : Int32)).toNatClampNeg) / r30) (6 : Int32))) 240) (
  some (t_book ((150 : Int32) + (jrem ((t_book (((160 : Int32) + ((3 : Int32) * p1)) + (1 : Int32)).toNatClampNeg) / r30) (6 : Int32))).toNatClampNeg))))))))
def R_unlike_L5 (N : Nat) (p1 : Int32) (t_book : Nat → Int32) (p2 : Int32) : Nat → Int32 → Int32 → Option (Int32)
  | 0, _, _ => none
  | k0 + 1, x3, x4 =>
  bO (F_R_lengthOf p1 t_book) ((fun (r9 : Int32) =>
  if r9 ≤ x4 then
    some x3
  else
    bO (F_R_lipOf N p1 x4 t_book) ((fun (r20 : Int32) =>
    bO (F_R_lipOf N p2 x4 t_book) ((fun (r27 : Int32) =>
    if r20 = r27 then
      R_unlike_L5 N p1 t_book p2 k0 (x3 + (0 : Int32)) (x4 + (1 : Int32))
    else
      R_unlike_L5 N p1 t_book p2 k0 (x3 + (1 : Int32)) (x4 + (1 : Int32))))))))
def F_R_unlike (N : Nat) (p1 : Int32) (p2 : Int32) (t_book : Nat → Int32) : Option (Int32) :=
  bO (R_unlike_L5 N p1 t_book p2 N (0 : Int32) (0 : Int32)) ((fun (x3_2 : Int32) =>
  some x3_2))
def F_R_areAlike (N : Nat) (p1 : Int32) (p2 : Int32) (t_book : Nat → Int32) : Option (Int32) :=
  bO (F_R_lengthOf p1 t_book) ((fun (r2 : Int32) =>
  bO (F_R_lengthOf p2 t_book) ((fun (r7 : Int32) =>
  if r2 = r7 then
    bO (F_R_unlike N p1 p2 t_book) ((fun (r16 : Int32) =>
    if r16 = (0 : Int32) then
      some (1 : Int32)
    else
      some (0 : Int32)))
  else
    some (0 : Int32)))))
def F_R_alike (N : Nat) (p1 : Int32) (p2 : Int32) (t_book : Nat → Int32) : Option (Int32) :=
  if (F_R_isWord p1 t_book) = (0 : Int32) then
    some (-2 : Int32)
  else
    if (F_R_isWord p2 t_book) = (0 : Int32) then
      some (-2 : Int32)
    else
      bO (F_R_areAlike N p1 p2 t_book) ((fun (r24 : Int32) =>
      if r24 = (0 : Int32) then
        some (0 : Int32)
      else
        some (1 : Int32)))
def F_R_lip (p1 : Int32) (t_book : Nat → Int32) : Option (Int32 × (Nat → Int32)) :=
  if (F_R_in p1.toInt64 (0 : Int64) (5 : Int64)) = (0 : Int32) then
    some ((-2 : Int32), t_book)
  else
    if (t_book 4) = (24 : Int32) then
      some ((-4 : Int32), t_book)
    else
      gd (ixb ((190 : Int32) + (t_book 4)) 240) (
      some (((upd (upd t_book ((190 : Int32) + (t_book 4)).toNatClampNeg p1) 4 (((upd t_book ((190 : Int32) + (t_book 4)).toNatClampNeg p1) 4) + (1 : Int32))) 4), (upd (upd t_book ((190 : Int32) + (t_book 4)).toNatClampNeg p1) 4 (((upd t_book ((190 : Int32) + (t_book 4)).toNatClampNeg p1) 4) + (1 : Int32)))))
def F_R_hush (t_book : Nat → Int32) : Option (Int32 × (Nat → Int32)) :=
  bO (F_R_puts (4 : Int32) (0 : Int32) t_book) (u2 (fun (r3 : Int32) (t_book'_2 : Nat → Int32) =>
  some (r3, t_book'_2)))
def R_isAtRow_L25 (N : Nat) (p1 : Int32) (t_book : Nat → Int32) (p2 : Int32) : Nat → Int32 → Int32 → Option (Int32)
  | 0, _, _ => none
  | k0 + 1, x3, x4 =>
  bO (F_R_lengthOf p1 t_book) ((fun (r29 : Int32) =>
  if r29 ≤ x4 then
    some x3
  else
    if x3 = (0 : Int32) then
      some x3
    else
      bO (F_R_lipOf N p1 x4 t_book) ((fun (r43 : Int32) =>
      gd (ixb (((190 : Int32) + p2) + x4) 240) (
      gd (ixb ((150 : Int32) + (t_book (((190 : Int32) + p2) + x4).toNatClampNeg)) 240) (
      if r43 = (t_book ((150 : Int32) + (t_book (((190 : Int32) + p2) + x4).toNatClampNeg)).toNatClampNeg) then
        R_isAtRow_L25 N p1 t_book p2 k0 (1 : Int32) (x4 + (1 : Int32))
      else
        R_isAtRow_L25 N p1 t_book p2 k0 (0 : Int32) (x4 + (1 : Int32))))))))
def F_R_isAtRow (N : Nat) (p1 : Int32) (p2 : Int32) (t_book : Nat → Int32) : Option (Int32) :=
  bO (F_R_lengthOf p1 t_book) ((fun (r3 : Int32) =>
  bO (
    if (t_book 4) < (p2 + r3) then
      some (0 : Int32)
    else
      some (1 : Int32)) ((fun (y0 : Int32) =>
  bO (R_isAtRow_L25 N p1 t_book p2 N y0 (0 : Int32)) ((fun (x3_2 : Int32) =>
  some (vp_nar .boolean x3_2)))))))
def R_readsRow_L55 (N : Nat) (t_book : Nat → Int32) (c1 : Int32) (x2 : Int32) : Nat → Int32 → (Nat → Int32) → (Nat → Int32) → (Nat → Int32) → Option ((Nat → Int32) × (Nat → Int32) × (Nat → Int32))
  | 0, _, _, _, _ => none
  | k0 + 1, x3, t_ways'_6, t_fewest'_6, t_heavy'_6 =>
  if (t_book 3) ≤ x3 then
    some (t_ways'_6, t_fewest'_6, t_heavy'_6)
  else
    if c1 ≤ x2 then
      R_readsRow_L55 N t_book c1 x2 k0 (x3 + (1 : Int32)) t_ways'_6 t_fewest'_6 t_heavy'_6
    else
      bO (F_R_isAtRow N x3 x2 t_book) ((fun (r73 : Int32) =>
      if r73 = (0 : Int32) then
        R_readsRow_L55 N t_book c1 x2 k0 (x3 + (1 : Int32)) t_ways'_6 t_fewest'_6 t_heavy'_6
      else
        bO (F_R_lengthOf x3 t_book) ((fun (r82 : Int32) =>
        gd (ixb (x2 + r82) 25) (
        bO (F_R_weightOf x3 t_book) ((fun (r131 : Int32) =>
        if ((t_fewest'_6 (x2 + r82).toNatClampNeg) + (1 : Int32)) < (t_fewest'_6 x2.toNatClampNeg) then
          R_readsRow_L55 N t_book c1 x2 k0 (x3 + (1 : Int32)) (upd t_ways'_6 x2.toNatClampNeg (jrem ((t_ways'_6 x2.toNatClampNeg) + (t_ways'_6 (x2 + r82).toNatClampNeg)) (1000000007 : Int32))) (upd t_fewest'_6 x2.toNatClampNeg ((t_fewest'_6 (x2 + r82).toNatClampNeg) + (1 : Int32))) (upd t_heavy'_6 x2.toNatClampNeg ((t_heavy'_6 (x2 + r82).toNatClampNeg) + r131))
        else
          if ((t_fewest'_6 (x2 + r82).toNatClampNeg) + (1 : Int32)) = (t_fewest'_6 x2.toNatClampNeg) then
            if ((t_heavy'_6 (x2 + r82).toNatClampNeg) + r131) ≤ (t_heavy'_6 x2.toNatClampNeg) then
              R_readsRow_L55 N t_book c1 x2 k0 (x3 + (1 : Int32)) (upd t_ways'_6 x2.toNatClampNeg (jrem ((t_ways'_6 x2.toNatClampNeg) + (t_ways'_6 (x2 + r82).toNatClampNeg)) (1000000007 : Int32))) t_fewest'_6 t_heavy'_6
            else
              R_readsRow_L55 N t_book c1 x2 k0 (x3 + (1 : Int32)) (upd t_ways'_6 x2.toNatClampNeg (jrem ((t_ways'_6 x2.toNatClampNeg) + (t_ways'_6 (x2 + r82).toNatClampNeg)) (1000000007 : Int32))) (upd t_fewest'_6 x2.toNatClampNeg ((t_fewest'_6 (x2 + r82).toNatClampNeg) + (1 : Int32))) (upd t_heavy'_6 x2.toNatClampNeg ((t_heavy'_6 (x2 + r82).toNatClampNeg) + r131))
          else
            R_readsRow_L55 N t_book c1 x2 k0 (x3 + (1 : Int32)) (upd t_ways'_6 x2.toNatClampNeg (jrem ((t_ways'_6 x2.toNatClampNeg) + (t_ways'_6 (x2 + r82).toNatClampNeg)) (1000000007 : Int32))) t_fewest'_6 t_heavy'_6)))))))
def R_readsRow_L9 (N : Nat) (c1 : Int32) (t_book : Nat → Int32) : Nat → Int32 → (Nat → Int32) → (Nat → Int32) → (Nat → Int32) → Option ((Nat → Int32) × (Nat → Int32) × (Nat → Int32))
  | 0, _, _, _, _ => none
  | k0 + 1, x2, t_ways'_5, t_fewest'_5, t_heavy'_5 =>
  if x2 < (0 : Int32) then
    some (t_ways'_5, t_fewest'_5, t_heavy'_5)
  else
    bO (
      if x2 = c1 then
        some (1 : Int32)
      else
        some (0 : Int32)) ((fun (y2 : Int32) =>
    gd (ixb x2 25) (
    bO (
      if x2 = c1 then
        some (0 : Int32)
      else
        some (1000000 : Int32)) ((fun (y2_2 : Int32) =>
    bO (R_readsRow_L55 N t_book c1 x2 N (0 : Int32) (upd t_ways'_5 x2.toNatClampNeg y2) (upd t_fewest'_5 x2.toNatClampNeg y2_2) (upd t_heavy'_5 x2.toNatClampNeg (0 : Int32))) (u3 (fun (t_ways'_7 : Nat → Int32) (t_fewest'_7 : Nat → Int32) (t_heavy'_7 : Nat → Int32) =>
    R_readsRow_L9 N c1 t_book k0 (x2 + (-1 : Int32)) t_ways'_7 t_fewest'_7 t_heavy'_7)))))))
def F_R_readsRow (N : Nat) (t_book : Nat → Int32) (t_ways : Nat → Int32) (t_fewest : Nat → Int32) (t_heavy : Nat → Int32) : Option ((Nat → Int32) × (Nat → Int32) × (Nat → Int32)) :=
  bO (R_readsRow_L9 N (t_book 4) t_book N (t_book 4) t_ways t_fewest t_heavy) (u3 (fun (t_ways'_8 : Nat → Int32) (t_fewest'_8 : Nat → Int32) (t_heavy'_8 : Nat → Int32) =>
  some (t_ways'_8, t_fewest'_8, t_heavy'_8)))
def R_reads_L87 (N : Nat) (t_book : Nat → Int32) (x2 : Int32) (t_fewest'_2 : Nat → Int32) (t_heavy'_2 : Nat → Int32) : Nat → Int32 → Int32 → Option (Int32)
  | 0, _, _ => none
  | k0 + 1, x3_2, x5 =>
  if x5 < (0 : Int32) then
    some x3_2
  else
    if (t_book 4) ≤ x2 then
      some x3_2
    else
      bO (F_R_isAtRow N x5 x2 t_book) ((fun (r106 : Int32) =>
      bO (
        if r106 = (0 : Int32) then
          some (0 : Int32)
        else
          bO (F_R_lengthOf x5 t_book) ((fun (r120 : Int32) =>
          gd (ixb (x2 + r120) 25) (
          gd (ixb x2 25) (
          if ((t_fewest'_2 (x2 + r120).toNatClampNeg) + (1 : Int32)) = (t_fewest'_2 x2.toNatClampNeg) then
            bO (F_R_lengthOf x5 t_book) ((fun (r144 : Int32) =>
            gd (ixb (x2 + r144) 25) (
            bO (F_R_weightOf x5 t_book) ((fun (r152 : Int32) =>
            if ((t_heavy'_2 (x2 + r144).toNatClampNeg) + r152) = (t_heavy'_2 x2.toNatClampNeg) then
              some (1 : Int32)
            else
              some (0 : Int32))))))
          else
            some (0 : Int32)))))) ((fun (y0 : Int32) =>
      if y0 = (0 : Int32) then
        R_reads_L87 N t_book x2 t_fewest'_2 t_heavy'_2 k0 x3_2 (x5 + (-1 : Int32))
      else
        R_reads_L87 N t_book x2 t_fewest'_2 t_heavy'_2 k0 x5 (x5 + (-1 : Int32))))))
def R_reads_L68 (N : Nat) (p1 : Int32) (t_book : Nat → Int32) (t_fewest'_2 : Nat → Int32) (t_heavy'_2 : Nat → Int32) (t_ways'_2 : Nat → Int32) : Nat → Int32 → Int32 → Int32 → Option ((Int32 × (Nat → Int32) × (Nat → Int32) × (Nat → Int32)) ⊕ (Int32))
  | 0, _, _, _ => none
  | k0 + 1, x2, x3, x4 =>
  if p1 < x4 then
    some (.inr x3)
  else
    bO (R_reads_L87 N t_book x2 t_fewest'_2 t_heavy'_2 N (-5 : Int32) ((t_book 3) - (1 : Int32))) ((fun (x3_3 : Int32) =>
    if (0 : Int32) ≤ x3_3 then
      bO (F_R_lengthOf x3_3 t_book) ((fun (r200 : Int32) =>
      R_reads_L68 N p1 t_book t_fewest'_2 t_heavy'_2 t_ways'_2 k0 (x2 + r200) x3_3 (x4 + (1 : Int32))))
    else
      some (.inl ((-5 : Int32), t_ways'_2, t_fewest'_2, t_heavy'_2))))
def F_R_reads (N : Nat) (p1 : Int32) (t_book : Nat → Int32) (t_ways : Nat → Int32) (t_fewest : Nat → Int32) (t_heavy : Nat → Int32) : Option (Int32 × (Nat → Int32) × (Nat → Int32) × (Nat → Int32)) :=
  if (F_R_in p1.toInt64 (-1 : Int64) (24 : Int64)) = (0 : Int32) then
    some ((-10 : Int32), t_ways, t_fewest, t_heavy)
  else
    bO (F_R_readsRow N t_book t_ways t_fewest t_heavy) (u3 (fun (t_ways'_2 : Nat → Int32) (t_fewest'_2 : Nat → Int32) (t_heavy'_2 : Nat → Int32) =>
    if p1 = (-1 : Int32) then
      some ((t_ways'_2 0), t_ways'_2, t_fewest'_2, t_heavy'_2)
    else
      if (t_fewest'_2 0) < (1000000 : Int32) then
        if p1 = (24 : Int32) then
          some ((t_fewest'_2 0), t_ways'_2, t_fewest'_2, t_heavy'_2)
        else
          bT (R_reads_L68 N p1 t_book t_fewest'_2 t_heavy'_2 t_ways'_2 N (0 : Int32) (-5 : Int32) (0 : Int32)) ((fun (x3_4 : Int32) =>
          some (x3_4, t_ways'_2, t_fewest'_2, t_heavy'_2)))
      else
        some ((-5 : Int32), t_ways'_2, t_fewest'_2, t_heavy'_2)))
def F_R_allWords (t_book : Nat → Int32) : Int32 :=
  ((jshl (1 : Int32) (t_book 3)) - (1 : Int32))
def R_mistakes_L17 (N : Nat) (x3 : Int32) (p1 : Int32) (t_book : Nat → Int32) : Nat → Int32 → Int32 → Option (Int32)
  | 0, _, _ => none
  | k0 + 1, x2_2, x4 =>
  if x3 ≤ x4 then
    some x2_2
  else
    bO (
      if ((jshr p1 x3) &&& (1 : Int32)) = (0 : Int32) then
        if ((jshr p1 x4) &&& (1 : Int32)) = (0 : Int32) then
          some (1 : Int32)
        else
          some (0 : Int32)
      else
        some (0 : Int32)) ((fun (y0 : Int32) =>
    if y0 = (0 : Int32) then
      R_mistakes_L17 N x3 p1 t_book k0 (x2_2 + (0 : Int32)) (x4 + (1 : Int32))
    else
      bO (F_R_areAlike N x3 x4 t_book) ((fun (r57 : Int32) =>
      if r57 = (0 : Int32) then
        R_mistakes_L17 N x3 p1 t_book k0 (x2_2 + (0 : Int32)) (x4 + (1 : Int32))
      else
        bO (F_R_weightOf x3 t_book) ((fun (r65 : Int32) =>
        bO (F_R_weightOf x4 t_book) ((fun (r71 : Int32) =>
        R_mistakes_L17 N x3 p1 t_book k0 (x2_2 + (r65 * r71)) (x4 + (1 : Int32))))))))))
def R_mistakes_L4 (N : Nat) (t_book : Nat → Int32) (p1 : Int32) : Nat → Int32 → Int32 → Option (Int32)
  | 0, _, _ => none
  | k0 + 1, x2, x3 =>
  if (t_book 3) ≤ x3 then
    some x2
  else
    bO (R_mistakes_L17 N x3 p1 t_book N x2 (0 : Int32)) ((fun (x2_3 : Int32) =>
    R_mistakes_L4 N t_book p1 k0 x2_3 (x3 + (1 : Int32))))
def F_R_mistakes (N : Nat) (p1 : Int32) (t_book : Nat → Int32) : Option (Int32) :=
  bO (R_mistakes_L4 N t_book p1 N (0 : Int32) (0 : Int32)) ((fun (x2_4 : Int32) =>
  some x2_4))
def F_R_mistaken (N : Nat) (p1 : Int32) (t_book : Nat → Int32) : Option (Int32) :=
  if (F_R_in p1.toInt64 (0 : Int64) (F_R_allWords t_book).toInt64) = (0 : Int32) then
    some (-2 : Int32)
  else
    bO (F_R_mistakes N p1 t_book) ((fun (r16 : Int32) =>
    some r16))
def R_signs_L27 (N : Nat) (t_book : Nat → Int32) (p1 : Int32) : Nat → Int32 → Int32 → Int32 → Option (Int32)
  | 0, _, _, _ => none
  | k0 + 1, x2, x3, x4 =>
  if (F_R_allWords t_book) < x4 then
    some x2
  else
    bO (F_R_sizeOf N x4) ((fun (r38 : Int32) =>
    if r38 = p1 then
      bO (F_R_mistakes N x4 t_book) ((fun (r48 : Int32) =>
      if x3 ≤ r48 then
        R_signs_L27 N t_book p1 k0 x2 x3 (x4 + (1 : Int32))
      else
        bO (F_R_mistakes N x4 t_book) ((fun (r61 : Int32) =>
        R_signs_L27 N t_book p1 k0 x4 r61 (x4 + (1 : Int32))))))
    else
      R_signs_L27 N t_book p1 k0 x2 x3 (x4 + (1 : Int32))))
def F_R_signs (N : Nat) (p1 : Int32) (t_book : Nat → Int32) : Option (Int32) :=
  if (F_R_in p1.toInt64 (0 : Int64) (t_book 3).toInt64) = (0 : Int32) then
    some (-2 : Int32)
  else
    bO (R_signs_L27 N t_book p1 N (-1 : Int32) (1000000 : Int32) (0 : Int32)) ((fun (x2_2 : Int32) =>
    some x2_2))
def F_R_plain (p1 : Int32) (t_book : Nat → Int32) : Option (Int32 × (Nat → Int32)) :=
  if (F_R_in p1.toInt64 (1 : Int64) (99 : Int64)) = (0 : Int32) then
    some ((-2 : Int32), t_book)
  else
    bO (F_R_puts (8 : Int32) p1 t_book) (u2 (fun (r16 : Int32) (t_book'_2 : Nat → Int32) =>
    some (r16, t_book'_2)))
def F_R_hearing (N : Nat) (p1 : Int32) (p2 : Int32) (t_book : Nat → Int32) : Option (Int32) :=
  bO (F_R_lengthOf p1 t_book) ((fun (r2 : Int32) =>
  bO (F_R_lengthOf p2 t_book) ((fun (r7 : Int32) =>
  if r2 = r7 then
    if p1 = p2 then
      some (t_book 8)
    else
      bO (F_R_weightOf p2 t_book) ((fun (r32 : Int32) =>
      bO (F_R_unlike N p1 p2 t_book) ((fun (r38 : Int32) =>
      some (jshr r32 r38)))))
  else
    some (0 : Int32)))))
def R_beginHearing_L21 (N : Nat) (t_book : Nat → Int32) (x2 : Int32) : Nat → Int32 → (Nat → Int32) → Option ((Nat → Int32))
  | 0, _, _ => none
  | k0 + 1, x3, t_sums'_6 =>
  if (t_book 3) ≤ x3 then
    some t_sums'_6
  else
    bO (F_R_hearing N x2 x3 t_book) ((fun (r41 : Int32) =>
    R_beginHearing_L21 N t_book x2 k0 (x3 + (1 : Int32)) (upd t_sums'_6 x2.toNatClampNeg ((t_sums'_6 x2.toNatClampNeg) + r41))))
def R_beginHearing_L2 (N : Nat) (t_book : Nat → Int32) (p1 : Int32) : Nat → Int32 → (Nat → Int32) → (Nat → Int32) → (Nat → Int32) → Option ((Nat → Int32) × (Nat → Int32) × (Nat → Int32))
  | 0, _, _, _, _ => none
  | k0 + 1, x2, t_sums'_5, t_limbs'_5, t_wide'_5 =>
  if (t_book 3) ≤ x2 then
    some (t_sums'_5, t_limbs'_5, t_wide'_5)
  else
    gd (ixb x2 10) (
    bO (R_beginHearing_L21 N t_book x2 N (0 : Int32) (upd t_sums'_5 x2.toNatClampNeg (0 : Int32))) ((fun (t_sums'_7 : Nat → Int32) =>
    bO (
      if x2 = p1 then
        some (1 : Int64)
      else
        some (0 : Int64)) ((fun (y2 : Int64) =>
    bO (F_R_sets N ((7 : Int32) + x2) y2 t_limbs'_5 t_wide'_5) (u2 (fun (t_limbs'_6 : Nat → Int32) (t_wide'_6 : Nat → Int32) =>
    R_beginHearing_L2 N t_book p1 k0 (x2 + (1 : Int32)) t_sums'_7 t_limbs'_6 t_wide'_6)))))))
def F_R_beginHearing (N : Nat) (p1 : Int32) (t_book : Nat → Int32) (t_limbs : Nat → Int32) (t_wide : Nat → Int32) (t_sums : Nat → Int32) : Option ((Nat → Int32) × (Nat → Int32) × (Nat → Int32)) :=
  bO (R_beginHearing_L2 N t_book p1 N (0 : Int32) t_sums t_limbs t_wide) (u3 (fun (t_sums'_8 : Nat → Int32) (t_limbs'_7 : Nat → Int32) (t_wide'_7 : Nat → Int32) =>
  bO (F_R_sets N (6 : Int32) (1 : Int64) t_limbs'_7 t_wide'_7) (u2 (fun (t_limbs'_8 : Nat → Int32) (t_wide'_8 : Nat → Int32) =>
  some (t_limbs'_8, t_wide'_8, t_sums'_8)))))
def R_hearsOn_L77 (N : Nat) (t_book : Nat → Int32) (x3 : Int32) (p1 : Int32) (t_sums : Nat → Int32) : Nat → Int32 → (Nat → Int32) → (Nat → Int32) → Option ((Nat → Int32) × (Nat → Int32))
  | 0, _, _, _ => none
  | k0 + 1, x4, t_limbs'_21, t_wide'_21 =>
  if (t_book 3) ≤ x4 then
    some (t_limbs'_21, t_wide'_21)
  else
    if x4 = x3 then
      R_hearsOn_L77 N t_book x3 p1 t_sums k0 (x4 + (1 : Int32)) t_limbs'_21 t_wide'_21
    else
      bO (F_R_lengthOf x4 t_book) ((fun (r97 : Int32) =>
      bO (F_R_lengthOf p1 t_book) ((fun (r102 : Int32) =>
      if r97 = r102 then
        gd (ixb x4 10) (
        bO (F_R_times N (5 : Int32) (t_sums x4.toNatClampNeg) t_limbs'_21 t_wide'_21) (u2 (fun (t_limbs'_22 : Nat → Int32) (t_wide'_22 : Nat → Int32) =>
        R_hearsOn_L77 N t_book x3 p1 t_sums k0 (x4 + (1 : Int32)) t_limbs'_22 t_wide'_22)))
      else
        R_hearsOn_L77 N t_book x3 p1 t_sums k0 (x4 + (1 : Int32)) t_limbs'_21 t_wide'_21))))
def R_hearsOn_L23 (N : Nat) (t_book : Nat → Int32) (x2 : Int32) (p1 : Int32) (t_sums : Nat → Int32) : Nat → Int32 → (Nat → Int32) → (Nat → Int32) → Option ((Nat → Int32) × (Nat → Int32))
  | 0, _, _, _ => none
  | k0 + 1, x3, t_limbs'_18, t_wide'_18 =>
  if (t_book 3) ≤ x3 then
    some (t_limbs'_18, t_wide'_18)
  else
    gd (ixb ((7 : Int32) + x3) 28) (
    if (t_wide'_18 ((7 : Int32) + x3).toNatClampNeg) ≤ (0 : Int32) then
      R_hearsOn_L23 N t_book x2 p1 t_sums k0 (x3 + (1 : Int32)) t_limbs'_18 t_wide'_18
    else
      bO (F_R_hearing N x3 x2 t_book) ((fun (r48 : Int32) =>
      if r48 ≤ (0 : Int32) then
        R_hearsOn_L23 N t_book x2 p1 t_sums k0 (x3 + (1 : Int32)) t_limbs'_18 t_wide'_18
      else
        bO (F_R_takes N (5 : Int32) ((7 : Int32) + x3) t_limbs'_18 t_wide'_18) (u2 (fun (t_limbs'_19 : Nat → Int32) (t_wide'_19 : Nat → Int32) =>
        bO (F_R_hearing N x3 x2 t_book) ((fun (r68 : Int32) =>
        bO (F_R_times N (5 : Int32) r68 t_limbs'_19 t_wide'_19) (u2 (fun (t_limbs'_20 : Nat → Int32) (t_wide'_20 : Nat → Int32) =>
        bO (R_hearsOn_L77 N t_book x3 p1 t_sums N (0 : Int32) t_limbs'_20 t_wide'_20) (u2 (fun (t_limbs'_23 : Nat → Int32) (t_wide'_23 : Nat → Int32) =>
        bO (F_R_adds N ((17 : Int32) + x2) (5 : Int32) t_limbs'_23 t_wide'_23) (u2 (fun (t_limbs'_24 : Nat → Int32) (t_wide'_24 : Nat → Int32) =>
        R_hearsOn_L23 N t_book x2 p1 t_sums k0 (x3 + (1 : Int32)) t_limbs'_24 t_wide'_24)))))))))))))
def R_hearsOn_L2 (N : Nat) (t_book : Nat → Int32) (p1 : Int32) (t_sums : Nat → Int32) : Nat → Int32 → (Nat → Int32) → (Nat → Int32) → Option ((Nat → Int32) × (Nat → Int32))
  | 0, _, _, _ => none
  | k0 + 1, x2, t_limbs'_16, t_wide'_16 =>
  if (t_book 3) ≤ x2 then
    some (t_limbs'_16, t_wide'_16)
  else
    bO (F_R_sets N ((17 : Int32) + x2) (0 : Int64) t_limbs'_16 t_wide'_16) (u2 (fun (t_limbs'_17 : Nat → Int32) (t_wide'_17 : Nat → Int32) =>
    bO (R_hearsOn_L23 N t_book x2 p1 t_sums N (0 : Int32) t_limbs'_17 t_wide'_17) (u2 (fun (t_limbs'_25 : Nat → Int32) (t_wide'_25 : Nat → Int32) =>
    R_hearsOn_L2 N t_book p1 t_sums k0 (x2 + (1 : Int32)) t_limbs'_25 t_wide'_25))))
def R_hearsOn_L149 (N : Nat) (t_book : Nat → Int32) (p1 : Int32) (t_sums : Nat → Int32) : Nat → Int32 → (Nat → Int32) → (Nat → Int32) → Option ((Nat → Int32) × (Nat → Int32))
  | 0, _, _, _ => none
  | k0 + 1, x2_2, t_limbs'_27, t_wide'_27 =>
  if (t_book 3) ≤ x2_2 then
    some (t_limbs'_27, t_wide'_27)
  else
    bO (F_R_takes N ((7 : Int32) + x2_2) ((17 : Int32) + x2_2) t_limbs'_27 t_wide'_27) (u2 (fun (t_limbs'_28 : Nat → Int32) (t_wide'_28 : Nat → Int32) =>
    bO (F_R_lengthOf x2_2 t_book) ((fun (r173 : Int32) =>
    bO (F_R_lengthOf p1 t_book) ((fun (r178 : Int32) =>
    if r173 = r178 then
      gd (ixb x2_2 10) (
      bO (F_R_times N (6 : Int32) (t_sums x2_2.toNatClampNeg) t_limbs'_28 t_wide'_28) (u2 (fun (t_limbs'_29 : Nat → Int32) (t_wide'_29 : Nat → Int32) =>
      R_hearsOn_L149 N t_book p1 t_sums k0 (x2_2 + (1 : Int32)) t_limbs'_29 t_wide'_29)))
    else
      R_hearsOn_L149 N t_book p1 t_sums k0 (x2_2 + (1 : Int32)) t_limbs'_28 t_wide'_28))))))
def F_R_hearsOn (N : Nat) (p1 : Int32) (t_book : Nat → Int32) (t_limbs : Nat → Int32) (t_wide : Nat → Int32) (t_sums : Nat → Int32) : Option ((Nat → Int32) × (Nat → Int32)) :=
  bO (R_hearsOn_L2 N t_book p1 t_sums N (0 : Int32) t_limbs t_wide) (u2 (fun (t_limbs'_26 : Nat → Int32) (t_wide'_26 : Nat → Int32) =>
  bO (R_hearsOn_L149 N t_book p1 t_sums N (0 : Int32) t_limbs'_26 t_wide'_26) (u2 (fun (t_limbs'_30 : Nat → Int32) (t_wide'_30 : Nat → Int32) =>
  some (t_limbs'_30, t_wide'_30)))))
def R_arrives_L39 (N : Nat) (p3 : Int32) (p1 : Int32) (t_book : Nat → Int32) (t_sums'_2 : Nat → Int32) : Nat → Int32 → (Nat → Int32) → (Nat → Int32) → Option ((Nat → Int32) × (Nat → Int32))
  | 0, _, _, _ => none
  | k0 + 1, x4, t_limbs'_9, t_wide'_9 =>
  if p3 ≤ x4 then
    some (t_limbs'_9, t_wide'_9)
  else
    bO (F_R_hearsOn N p1 t_book t_limbs'_9 t_wide'_9 t_sums'_2) (u2 (fun (t_limbs'_10 : Nat → Int32) (t_wide'_10 : Nat → Int32) =>
    R_arrives_L39 N p3 p1 t_book t_sums'_2 k0 (x4 + (1 : Int32)) t_limbs'_10 t_wide'_10))
def F_R_arrives (N : Nat) (p1 : Int32) (p2 : Int32) (p3 : Int32) (t_book : Nat → Int32) (t_limbs : Nat → Int32) (t_wide : Nat → Int32) (t_sums : Nat → Int32) : Option (Int32 × (Nat → Int32) × (Nat → Int32) × (Nat → Int32)) :=
  if (F_R_isWord p1 t_book) = (0 : Int32) then
    some ((-2 : Int32), t_limbs, t_wide, t_sums)
  else
    if (F_R_isWord p2 t_book) = (0 : Int32) then
      some ((-2 : Int32), t_limbs, t_wide, t_sums)
    else
      if (F_R_in p3.toInt64 (1 : Int64) (12 : Int64)) = (0 : Int32) then
        some ((-2 : Int32), t_limbs, t_wide, t_sums)
      else
        bO (F_R_beginHearing N p1 t_book t_limbs t_wide t_sums) (u3 (fun (t_limbs'_8 : Nat → Int32) (t_wide'_8 : Nat → Int32) (t_sums'_2 : Nat → Int32) =>
        bO (R_arrives_L39 N p3 p1 t_book t_sums'_2 N (0 : Int32) t_limbs'_8 t_wide'_8) (u2 (fun (t_limbs'_11 : Nat → Int32) (t_wide'_11 : Nat → Int32) =>
        bO (F_R_takes N (0 : Int32) ((7 : Int32) + p2) t_limbs'_11 t_wide'_11) (u2 (fun (t_limbs'_12 : Nat → Int32) (t_wide'_12 : Nat → Int32) =>
        bO (F_R_takes N (1 : Int32) (6 : Int32) t_limbs'_12 t_wide'_12) (u2 (fun (t_limbs'_13 : Nat → Int32) (t_wide'_13 : Nat → Int32) =>
        bO (F_R_lowers N t_limbs'_13 t_wide'_13) (u2 (fun (t_limbs'_14 : Nat → Int32) (t_wide'_14 : Nat → Int32) =>
        some ((1 : Int32), t_limbs'_14, t_wide'_14, t_sums'_2)))))))))))
def R_turns_L43 (N : Nat) (p1 : Int32) (t_book : Nat → Int32) (t_sums'_2 : Nat → Int32) (p3 : Int32) (p2 : Int32) : Nat → Int32 → (Nat → Int32) → (Nat → Int32) → Option ((Int32 × (Nat → Int32) × (Nat → Int32) × (Nat → Int32)) ⊕ ((Nat → Int32) × (Nat → Int32)))
  | 0, _, _, _ => none
  | k0 + 1, x4, t_limbs'_10, t_wide'_10 =>
  if (13 : Int32) ≤ x4 then
    some (.inr (t_limbs'_10, t_wide'_10))
  else
    bO (F_R_hearsOn N p1 t_book t_limbs'_10 t_wide'_10 t_sums'_2) (u2 (fun (t_limbs'_11 : Nat → Int32) (t_wide'_11 : Nat → Int32) =>
    bO (F_R_takes N (2 : Int32) ((7 : Int32) + p1) t_limbs'_11 t_wide'_11) (u2 (fun (t_limbs'_12 : Nat → Int32) (t_wide'_12 : Nat → Int32) =>
    bO (F_R_times N (2 : Int32) p3 t_limbs'_12 t_wide'_12) (u2 (fun (t_limbs'_13 : Nat → Int32) (t_wide'_13 : Nat → Int32) =>
    bO (F_R_takes N (3 : Int32) (6 : Int32) t_limbs'_13 t_wide'_13) (u2 (fun (t_limbs'_14 : Nat → Int32) (t_wide'_14 : Nat → Int32) =>
    bO (F_R_times N (3 : Int32) p2 t_limbs'_14 t_wide'_14) (u2 (fun (t_limbs'_15 : Nat → Int32) (t_wide'_15 : Nat → Int32) =>
    bO (F_R_against N (2 : Int32) (3 : Int32) t_limbs'_15 t_wide'_15) ((fun (r86 : Int32) =>
    if (0 : Int32) ≤ r86 then
      R_turns_L43 N p1 t_book t_sums'_2 p3 p2 k0 (x4 + (1 : Int32)) t_limbs'_15 t_wide'_15
    else
      some (.inl (x4, t_limbs'_15, t_wide'_15, t_sums'_2))))))))))))))
def F_R_turns (N : Nat) (p1 : Int32) (p2 : Int32) (p3 : Int32) (t_book : Nat → Int32) (t_limbs : Nat → Int32) (t_wide : Nat → Int32) (t_sums : Nat → Int32) : Option (Int32 × (Nat → Int32) × (Nat → Int32) × (Nat → Int32)) :=
  if (F_R_isWord p1 t_book) = (0 : Int32) then
    some ((-10 : Int32), t_limbs, t_wide, t_sums)
  else
    if (F_R_in p2.toInt64 (0 : Int64) (99 : Int64)) = (0 : Int32) then
      some ((-10 : Int32), t_limbs, t_wide, t_sums)
    else
      if (F_R_in p3.toInt64 (1 : Int64) (99 : Int64)) = (0 : Int32) then
        some ((-10 : Int32), t_limbs, t_wide, t_sums)
      else
        bO (F_R_beginHearing N p1 t_book t_limbs t_wide t_sums) (u3 (fun (t_limbs'_9 : Nat → Int32) (t_wide'_9 : Nat → Int32) (t_sums'_2 : Nat → Int32) =>
        bT (R_turns_L43 N p1 t_book t_sums'_2 p3 p2 N (1 : Int32) t_limbs'_9 t_wide'_9) (u2 (fun (t_limbs'_16 : Nat → Int32) (t_wide'_16 : Nat → Int32) =>
        some ((-1 : Int32), t_limbs'_16, t_wide'_16, t_sums'_2)))))
def F_R_girl (p1 : Int32) (t_book : Nat → Int32) : Option (Int32 × (Nat → Int32)) :=
  if (F_R_in p1.toInt64 (0 : Int64) (F_R_allWords t_book).toInt64) = (0 : Int32) then
    some ((-2 : Int32), t_book)
  else
    bO (F_R_puts (9 : Int32) p1 t_book) (u2 (fun (r18 : Int32) (t_book'_2 : Nat → Int32) =>
    some (r18, t_book'_2)))
def R_getsOf_L33 (N : Nat) (t_book : Nat → Int32) (x3 : Int32) (p1 : Int32) : Nat → Int32 → Int32 → Option (Int32)
  | 0, _, _ => none
  | k0 + 1, x4, x5 =>
  if (t_book 3) ≤ x5 then
    some x4
  else
    if x4 = (0 : Int32) then
      some x4
    else
      bO (F_R_weightOf x5 t_book) ((fun (r52 : Int32) =>
      bO (F_R_weightOf x3 t_book) ((fun (r57 : Int32) =>
      bO (
        if r57 < r52 then
          some (1 : Int32)
        else
          bO (F_R_weightOf x5 t_book) ((fun (r66 : Int32) =>
          bO (F_R_weightOf x3 t_book) ((fun (r71 : Int32) =>
          if r66 = r71 then
            if x3 ≤ x5 then
              some (0 : Int32)
            else
              some (1 : Int32)
          else
            some (0 : Int32)))))) ((fun (y0_2 : Int32) =>
      if ((jshr p1 x5) &&& (1 : Int32)) = (0 : Int32) then
        R_getsOf_L33 N t_book x3 p1 k0 (1 : Int32) (x5 + (1 : Int32))
      else
        if y0_2 = (0 : Int32) then
          R_getsOf_L33 N t_book x3 p1 k0 (1 : Int32) (x5 + (1 : Int32))
        else
          bO (F_R_areAlike N x3 x5 t_book) ((fun (r108 : Int32) =>
          if r108 = (0 : Int32) then
            R_getsOf_L33 N t_book x3 p1 k0 (1 : Int32) (x5 + (1 : Int32))
          else
            R_getsOf_L33 N t_book x3 p1 k0 (0 : Int32) (x5 + (1 : Int32))))))))))
def R_getsOf_L4 (N : Nat) (t_book : Nat → Int32) (p1 : Int32) : Nat → Int32 → Int32 → Option (Int32)
  | 0, _, _ => none
  | k0 + 1, x2, x3 =>
  if (t_book 3) ≤ x3 then
    some x2
  else
    bO (
      if ((jshr p1 x3) &&& (1 : Int32)) = (1 : Int32) then
        some (1 : Int32)
      else
        some (0 : Int32)) ((fun (y0 : Int32) =>
    bO (R_getsOf_L33 N t_book x3 p1 N y0 (0 : Int32)) ((fun (x4_2 : Int32) =>
    if x4_2 = (0 : Int32) then
      R_getsOf_L4 N t_book p1 k0 (x2 ||| (0 : Int32)) (x3 + (1 : Int32))
    else
      R_getsOf_L4 N t_book p1 k0 (x2 ||| (jshl (1 : Int32) x3)) (x3 + (1 : Int32))))))
def F_R_getsOf (N : Nat) (p1 : Int32) (t_book : Nat → Int32) : Option (Int32) :=
  bO (R_getsOf_L4 N t_book p1 N (0 : Int32) (0 : Int32)) ((fun (x2_2 : Int32) =>
  some x2_2))
def F_R_gets (N : Nat) (t_book : Nat → Int32) : Option (Int32) :=
  bO (F_R_getsOf N (t_book 9) t_book) ((fun (r8 : Int32) =>
  some r8))
def R_weights_L4 (t_book : Nat → Int32) (p1 : Int32) : Nat → Int32 → Int32 → Option (Int32)
  | 0, _, _ => none
  | k0 + 1, x2, x3 =>
  if (t_book 3) ≤ x3 then
    some x2
  else
    if ((jshr p1 x3) &&& (1 : Int32)) = (1 : Int32) then
      bO (F_R_weightOf x3 t_book) ((fun (r26 : Int32) =>
      R_weights_L4 t_book p1 k0 (x2 + r26) (x3 + (1 : Int32))))
    else
      R_weights_L4 t_book p1 k0 (x2 + (0 : Int32)) (x3 + (1 : Int32))
def F_R_weights (N : Nat) (p1 : Int32) (t_book : Nat → Int32) : Option (Int32) :=
  bO (R_weights_L4 t_book p1 N (0 : Int32) (0 : Int32)) ((fun (x2_2 : Int32) =>
  some x2_2))
def F_R_share (N : Nat) (t_book : Nat → Int32) (t_limbs : Nat → Int32) (t_wide : Nat → Int32) : Option (Int32 × (Nat → Int32) × (Nat → Int32)) :=
  if (t_book 3) = (0 : Int32) then
    some ((-3 : Int32), t_limbs, t_wide)
  else
    bO (F_R_gets N t_book) ((fun (r17 : Int32) =>
    bO (F_R_weights N r17 t_book) ((fun (r20 : Int32) =>
    bO (F_R_weights N (F_R_allWords t_book) t_book) ((fun (r29 : Int32) =>
    bO (F_R_told N r20.toInt64 r29.toInt64 t_limbs t_wide) (u3 (fun (r33 : Int32) (t_limbs'_2 : Nat → Int32) (t_wide'_2 : Nat → Int32) =>
    some (r33, t_limbs'_2, t_wide'_2)))))))))
def R_teach_L37 (N : Nat) (t_book : Nat → Int32) (p1 : Int32) : Nat → Int32 → Int32 → Int32 → Option (Int32)
  | 0, _, _, _ => none
  | k0 + 1, x2, x3, x4 =>
  if (F_R_allWords t_book) < x4 then
    some x2
  else
    if (x4 &&& (t_book 9)) = (0 : Int32) then
      bO (F_R_sizeOf N x4) ((fun (r61 : Int32) =>
      if r61 = p1 then
        bO (F_R_getsOf N ((t_book 9) ||| x4) t_book) ((fun (r80 : Int32) =>
        bO (F_R_weights N r80 t_book) ((fun (r83 : Int32) =>
        if r83 ≤ x3 then
          R_teach_L37 N t_book p1 k0 x2 x3 (x4 + (1 : Int32))
        else
          R_teach_L37 N t_book p1 k0 x4 r83 (x4 + (1 : Int32))))))
      else
        R_teach_L37 N t_book p1 k0 x2 x3 (x4 + (1 : Int32))))
    else
      R_teach_L37 N t_book p1 k0 x2 x3 (x4 + (1 : Int32))
def F_R_teach (N : Nat) (p1 : Int32) (t_book : Nat → Int32) : Option (Int32) :=
  bO (F_R_sizeOf N ((F_R_allWords t_book) &&& ((t_book 9) ^^^ (-1 : Int32)))) ((fun (r17 : Int32) =>
  if (F_R_in p1.toInt64 (0 : Int64) r17.toInt64) = (0 : Int32) then
    some (-2 : Int32)
  else
    bO (R_teach_L37 N t_book p1 N (-1 : Int32) (-1 : Int32) (0 : Int32)) ((fun (x2_2 : Int32) =>
    some x2_2))))
def F_R_band (p1 : Int32) (p2 : Int32) (p3 : Int32) (t_book : Nat → Int32) : Option (Int32 × (Nat → Int32)) :=
  if (F_R_in p1.toInt64 (0 : Int64) (5 : Int64)) = (0 : Int32) then
    some ((-2 : Int32), t_book)
  else
    if (F_R_in p2.toInt64 (0 : Int64) (99 : Int64)) = (0 : Int32) then
      some ((-2 : Int32), t_book)
    else
      if (F_R_in p3.toInt64 (0 : Int64) (9 : Int64)) = (0 : Int32) then
        some ((-2 : Int32), t_book)
      else
        gd (ixb ((220 : Int32) + ((2 : Int32) * p1)) 240) (
        gd (ixb (((220 : Int32) + ((2 : Int32) * p1)) + (1 : Int32)) 240) (
        some ((1 : Int32), (upd (upd t_book ((220 : Int32) + ((2 : Int32) * p1)).toNatClampNeg p2) (((220 : Int32) + ((2 : Int32) * p1)) + (1 : Int32)).toNatClampNeg p3))))
def R_heard_L32 (t_book : Nat → Int32) (p1 : Int32) (p2 : Int32) : Nat → Int32 → Int32 → Option (Int32)
  | 0, _, _ => none
  | k0 + 1, x3, x4 =>
  if (6 : Int32) ≤ x4 then
    some x3
  else
    gd (ixb ((220 : Int32) + ((2 : Int32) * x4)) 240) (
    gd (ixb (((220 : Int32) + ((2 : Int32) * x4)) + (1 : Int32)) 240) (
    if ((t_book ((220 : Int32) + ((2 : Int32) * x4)).toNatClampNeg) - ((t_book (((220 : Int32) + ((2 : Int32) * x4)) + (1 : Int32)).toNatClampNeg) * p1)) ≤ p2 then
      R_heard_L32 t_book p1 p2 k0 (x3 ||| (0 : Int32)) (x4 + (1 : Int32))
    else
      R_heard_L32 t_book p1 p2 k0 (x3 ||| (jshl (1 : Int32) x4)) (x4 + (1 : Int32))))
def F_R_heard (N : Nat) (p1 : Int32) (p2 : Int32) (t_book : Nat → Int32) : Option (Int32) :=
  if (F_R_in p1.toInt64 (0 : Int64) (60 : Int64)) = (0 : Int32) then
    some (-2 : Int32)
  else
    if (F_R_in p2.toInt64 (0 : Int64) (99 : Int64)) = (0 : Int32) then
      some (-2 : Int32)
    else
      bO (R_heard_L32 t_book p1 p2 N (0 : Int32) (0 : Int32)) ((fun (x3_2 : Int32) =>
      some x3_2))
def R_pairs_L16 (N : Nat) (x2 : Int32) (t_book : Nat → Int32) (t_faces : Nat → Int32) : Nat → Int32 → Int32 → Option (Int32)
  | 0, _, _ => none
  | k0 + 1, x1_2, x3 =>
  if x2 ≤ x3 then
    some x1_2
  else
    bO (F_R_placeOf x2 t_book) ((fun (r25 : Int32) =>
    gd (ixb x2 8) (
    bO (F_R_placeOf x3 t_book) ((fun (r36 : Int32) =>
    gd (ixb x3 8) (
    bO (F_R_areReading N r25 (t_faces x2.toNatClampNeg) r36 (t_faces x3.toNatClampNeg) t_book) ((fun (r45 : Int32) =>
    if r45 = (0 : Int32) then
      R_pairs_L16 N x2 t_book t_faces k0 (x1_2 + (0 : Int32)) (x3 + (1 : Int32))
    else
      R_pairs_L16 N x2 t_book t_faces k0 (x1_2 + (1 : Int32)) (x3 + (1 : Int32))))))))))
def R_pairs_L4 (N : Nat) (t_book : Nat → Int32) (t_faces : Nat → Int32) : Nat → Int32 → Int32 → Option (Int32)
  | 0, _, _ => none
  | k0 + 1, x1, x2 =>
  if (t_book 1) ≤ x2 then
    some x1
  else
    bO (R_pairs_L16 N x2 t_book t_faces N x1 (0 : Int32)) ((fun (x1_3 : Int32) =>
    R_pairs_L4 N t_book t_faces k0 x1_3 (x2 + (1 : Int32))))
def F_R_pairs (N : Nat) (t_book : Nat → Int32) (t_faces : Nat → Int32) : Option (Int32) :=
  bO (R_pairs_L4 N t_book t_faces N (0 : Int32) (0 : Int32)) ((fun (x1_4 : Int32) =>
  some x1_4))
def R_anew_L63 (t_book : Nat → Int32) (x4 : Int32) : Nat → Int32 → (Nat → Int32) → Option ((Nat → Int32))
  | 0, _, _ => none
  | k0 + 1, x5, t_faces'_6 =>
  if (t_book 1) ≤ x5 then
    some t_faces'_6
  else
    gd (ixb x5 8) (
    R_anew_L63 t_book x4 k0 (x5 + (1 : Int32)) (upd t_faces'_6 x5.toNatClampNeg ((jshr x4 ((2 : Int32) * (((t_book 1) - (1 : Int32)) - x5))) &&& (3 : Int32))))
def R_anew_L141 (t_book : Nat → Int32) (t_faces'_7 : Nat → Int32) : Nat → Int32 → (Nat → Int32) → Option ((Nat → Int32))
  | 0, _, _ => none
  | k0 + 1, x6, t_bestFaces'_10 =>
  if (t_book 1) ≤ x6 then
    some t_bestFaces'_10
  else
    gd (ixb x6 8) (
    R_anew_L141 t_book t_faces'_7 k0 (x6 + (1 : Int32)) (upd t_bestFaces'_10 x6.toNatClampNeg (t_faces'_7 x6.toNatClampNeg)))
def R_anew_L141_2 (t_book : Nat → Int32) (t_faces'_7 : Nat → Int32) : Nat → Int32 → (Nat → Int32) → Option ((Nat → Int32))
  | 0, _, _ => none
  | k0 + 1, x6_2, t_bestFaces'_12 =>
  if (t_book 1) ≤ x6_2 then
    some t_bestFaces'_12
  else
    gd (ixb x6_2 8) (
    R_anew_L141_2 t_book t_faces'_7 k0 (x6_2 + (1 : Int32)) (upd t_bestFaces'_12 x6_2.toNatClampNeg (t_faces'_7 x6_2.toNatClampNeg)))
def R_anew_L141_3 (t_book : Nat → Int32) (t_faces'_7 : Nat → Int32) : Nat → Int32 → (Nat → Int32) → Option ((Nat → Int32))
  | 0, _, _ => none
  | k0 + 1, x6_3, t_bestFaces'_14 =>
  if (t_book 1) ≤ x6_3 then
    some t_bestFaces'_14
  else
    gd (ixb x6_3 8) (
    R_anew_L141_3 t_book t_faces'_7 k0 (x6_3 + (1 : Int32)) (upd t_bestFaces'_14 x6_3.toNatClampNeg (t_faces'_7 x6_3.toNatClampNeg)))
def R_anew_L45 (N : Nat) (t_book : Nat → Int32) (p1 : Int32) : Nat → Int32 → Int32 → (Nat → Int32) → (Nat → Int32) → Option (Int32 × (Nat → Int32) × (Nat → Int32))
  | 0, _, _, _, _ => none
  | k0 + 1, x3, x4, t_faces'_5, t_bestFaces'_9 =>
  if (jshl (1 : Int32) ((2 : Int32) * (t_book 1))) ≤ x4 then
    some (x3, t_faces'_5, t_bestFaces'_9)
  else
    bO (R_anew_L63 t_book x4 N (0 : Int32) t_faces'_5) ((fun (t_faces'_7 : Nat → Int32) =>
    bO (F_R_pairs N t_book t_faces'_7) ((fun (r106 : Int32) =>
    if x3 = (-1 : Int32) then
      bO (R_anew_L141 t_book t_faces'_7 N (0 : Int32) t_bestFaces'_9) ((fun (t_bestFaces'_11 : Nat → Int32) =>
      R_anew_L45 N t_book p1 k0 r106 (x4 + (1 : Int32)) t_faces'_7 t_bestFaces'_11))
    else
      if p1 = (0 : Int32) then
        if r106 ≤ x3 then
          R_anew_L45 N t_book p1 k0 x3 (x4 + (1 : Int32)) t_faces'_7 t_bestFaces'_9
        else
          bO (R_anew_L141_2 t_book t_faces'_7 N (0 : Int32) t_bestFaces'_9) ((fun (t_bestFaces'_13 : Nat → Int32) =>
          R_anew_L45 N t_book p1 k0 r106 (x4 + (1 : Int32)) t_faces'_7 t_bestFaces'_13))
      else
        if x3 ≤ r106 then
          R_anew_L45 N t_book p1 k0 x3 (x4 + (1 : Int32)) t_faces'_7 t_bestFaces'_9
        else
          bO (R_anew_L141_3 t_book t_faces'_7 N (0 : Int32) t_bestFaces'_9) ((fun (t_bestFaces'_15 : Nat → Int32) =>
          R_anew_L45 N t_book p1 k0 r106 (x4 + (1 : Int32)) t_faces'_7 t_bestFaces'_15))))))
def F_R_anew (N : Nat) (p1 : Int32) (p2 : Int32) (t_book : Nat → Int32) (t_faces : Nat → Int32) (t_bestFaces : Nat → Int32) : Option (Int32 × (Nat → Int32) × (Nat → Int32)) :=
  if (F_R_in p1.toInt64 (0 : Int64) (1 : Int64)) = (0 : Int32) then
    some ((-10 : Int32), t_faces, t_bestFaces)
  else
    bT (
      if p2 = (-1 : Int32) then
        some (.inr ())
      else
        if (F_R_isWeaver p2 t_book) = (0 : Int32) then
          some (.inl ((-10 : Int32), t_faces, t_bestFaces))
        else
          some (.inr ())) (u0 (
    if (t_book 1) ≤ (6 : Int32) then
      bO (R_anew_L45 N t_book p1 N (-1 : Int32) (0 : Int32) t_faces t_bestFaces) (u3 (fun (x3_2 : Int32) (t_faces'_8 : Nat → Int32) (t_bestFaces'_16 : Nat → Int32) =>
      if p2 = (-1 : Int32) then
        some (x3_2, t_faces'_8, t_bestFaces'_16)
      else
        gd (ixb p2 8) (
        some ((t_bestFaces'_16 p2.toNatClampNeg), t_faces'_8, t_bestFaces'_16))))
    else
      some ((-20 : Int32), t_faces, t_bestFaces)))
def R_type_L35 (p1 : Int64) : Nat → Int32 → (Nat → Int32) → Int32 → Option ((Nat → Int32) × Int32)
  | 0, _, _, _ => none
  | k0 + 1, x4, t_text'_3, t_typed'_3 =>
  if x4 < (0 : Int32) then
    some (t_text'_3, t_typed'_3)
  else
    gd (ixb t_typed'_3 240) (
    R_type_L35 p1 k0 (x4 + (-1 : Int32)) (upd t_text'_3 t_typed'_3.toNatClampNeg ((jshrL p1 ((8 : Int32) * x4)) &&& (255 : Int64)).toInt32) (t_typed'_3 + (1 : Int32)))
def F_R_type (N : Nat) (p1 : Int64) (p2 : Int32) (t_typed : Int32) (t_text : Nat → Int32) : Option (Int32 × Int32 × (Nat → Int32)) :=
  if (F_R_in p2.toInt64 (1 : Int64) (8 : Int64)) = (0 : Int32) then
    some ((-2 : Int32), t_typed, t_text)
  else
    if (t_typed + p2) ≤ (240 : Int32) then
      bO (R_type_L35 p1 N (p2 - (1 : Int32)) t_text t_typed) (u2 (fun (t_text'_4 : Nat → Int32) (t_typed'_4 : Int32) =>
      some (t_typed'_4, t_typed'_4, t_text'_4)))
    else
      some ((-4 : Int32), t_typed, t_text)
def F_R_erase (t_typed : Int32) : Option (Int32 × Int32) :=
  some (t_typed, (0 : Int32))
def F_R_isAt (p1 : Int32) (p2 : Int32) (t_typed : Int32) (t_at : Int32) (t_text : Nat → Int32) : Option (Int32) :=
  if t_typed ≤ t_at then
    some (0 : Int32)
  else
    gd (ixb t_at 240) (
    if (F_R_in (t_text t_at.toNatClampNeg).toInt64 p1.toInt64 p2.toInt64) = (0 : Int32) then
      some (0 : Int32)
    else
      some (1 : Int32))
def F_R_wordOf (p1 : Int64) : Int32 :=
  if (lg_cmp p1 (546713650 : Int64)) = (0 : Int32) then
    (10 : Int32)
  else
    if (lg_cmp p1 (777050290 : Int64)) = (0 : Int32) then
      (11 : Int32)
    else
      if (lg_cmp p1 (660876 : Int64)) = (0 : Int32) then
        (12 : Int32)
      else
        if (lg_cmp p1 (409067 : Int64)) = (0 : Int32) then
          (13 : Int32)
        else
          if (lg_cmp p1 (6194 : Int64)) = (0 : Int32) then
            (14 : Int32)
          else
            if (lg_cmp p1 (769604 : Int64)) = (0 : Int32) then
              (15 : Int32)
            else
              if (lg_cmp p1 (402789 : Int64)) = (0 : Int32) then
                (16 : Int32)
              else
                (1 : Int32)
def R_scans_L0 (t_typed : Int32) (t_text : Nat → Int32) : Nat → Int32 → Option (Int32)
  | 0, _ => none
  | k0 + 1, t_at'_7 =>
  bO (F_R_isAt (32 : Int32) (32 : Int32) t_typed t_at'_7 t_text) ((fun (r5 : Int32) =>
  if r5 = (0 : Int32) then
    some t_at'_7
  else
    R_scans_L0 t_typed t_text k0 (t_at'_7 + (1 : Int32))))
def R_scans_L170 (t_typed : Int32) (t_text : Nat → Int32) (t_at'_8 : Int32) : Nat → Int32 → Int32 → Option (Int32 × Int32)
  | 0, _, _ => none
  | k0 + 1, t_at'_9, t_value'_3 =>
  bO (F_R_isAt (48 : Int32) (57 : Int32) t_typed t_at'_9 t_text) ((fun (r175 : Int32) =>
  if r175 = (0 : Int32) then
    some (t_at'_9, t_value'_3)
  else
    if (3 : Int32) ≤ (t_at'_9 - t_at'_8) then
      R_scans_L170 t_typed t_text t_at'_8 k0 (t_at'_9 + (1 : Int32)) t_value'_3
    else
      gd (ixb t_at'_9 240) (
      R_scans_L170 t_typed t_text t_at'_8 k0 (t_at'_9 + (1 : Int32)) ((((10 : Int32) * t_value'_3) + (t_text t_at'_9.toNatClampNeg)) - (48 : Int32)))))
def R_scans_L62 (t_typed : Int32) (t_text : Nat → Int32) (t_at'_8 : Int32) : Nat → Int64 → Int32 → Option (Int64 × Int32)
  | 0, _, _ => none
  | k0 + 1, x1, t_at'_11 =>
  bO (F_R_isAt (97 : Int32) (122 : Int32) t_typed t_at'_11 t_text) ((fun (r67 : Int32) =>
  if r67 = (0 : Int32) then
    some (x1, t_at'_11)
  else
    if (t_at'_11 - t_at'_8) ≤ (6 : Int32) then
      gd (ixb t_at'_11 240) (
      R_scans_L62 t_typed t_text t_at'_8 k0 (((((32 : Int64) * x1) + (t_text t_at'_11.toNatClampNeg).toInt64) - (97 : Int64)) + (1 : Int64)) (t_at'_11 + (1 : Int32)))
    else
      R_scans_L62 t_typed t_text t_at'_8 k0 (0 : Int64) (t_at'_11 + (1 : Int32))))
def F_R_scans (N : Nat) (t_typed : Int32) (t_at : Int32) (t_value : Int32) (t_text : Nat → Int32) : Option (Int32 × Int32 × Int32 × Int32) :=
  bO (R_scans_L0 t_typed t_text N t_at) ((fun (t_at'_8 : Int32) =>
  if t_at'_8 = t_typed then
    some (t_at'_8, t_at'_8, (0 : Int32), t_value)
  else
    bO (F_R_isAt (97 : Int32) (122 : Int32) t_typed t_at'_8 t_text) ((fun (r54 : Int32) =>
    if r54 = (0 : Int32) then
      bO (F_R_isAt (48 : Int32) (57 : Int32) t_typed t_at'_8 t_text) ((fun (r159 : Int32) =>
      if r159 = (0 : Int32) then
        bO (F_R_isAt (59 : Int32) (59 : Int32) t_typed t_at'_8 t_text) ((fun (r267 : Int32) =>
        if r267 = (0 : Int32) then
          some ((t_at'_8 + (1 : Int32)), t_at'_8, (1 : Int32), t_value)
        else
          some ((t_at'_8 + (1 : Int32)), t_at'_8, (3 : Int32), t_value)))
      else
        bO (R_scans_L170 t_typed t_text t_at'_8 N t_at'_8 (0 : Int32)) (u2 (fun (t_at'_10 : Int32) (t_value'_4 : Int32) =>
        if (t_at'_10 - t_at'_8) ≤ (3 : Int32) then
          some (t_at'_10, t_at'_8, (2 : Int32), t_value'_4)
        else
          some (t_at'_10, t_at'_8, (1 : Int32), t_value'_4)))))
    else
      bO (R_scans_L62 t_typed t_text t_at'_8 N (0 : Int64) t_at'_8) (u2 (fun (x1_2 : Int64) (t_at'_12 : Int32) =>
      if (t_at'_12 - t_at'_8) ≤ (6 : Int32) then
        some (t_at'_12, t_at'_8, (F_R_wordOf x1_2), t_value)
      else
        some (t_at'_12, t_at'_8, (1 : Int32), t_value)))))))
def F_R_fewestOf (p1 : Int32) : Int32 :=
  if p1 = (10 : Int32) then
    (1 : Int32)
  else
    if p1 = (12 : Int32) then
      (3 : Int32)
    else
      if p1 = (13 : Int32) then
        (3 : Int32)
      else
        (2 : Int32)
def F_R_mostOf (p1 : Int32) : Int32 :=
  if p1 = (15 : Int32) then
    (7 : Int32)
  else
    (F_R_fewestOf p1)
def R_readsText_L40 (N : Nat) (t_token'_10 : Int32) (t_items'_3 : Int32) (t_typed : Int32) (t_text : Nat → Int32) : Nat → Int32 → (Nat → Int32) → Int32 → Int32 → Int32 → Int32 → Option (Int32 × (Nat → Int32) × Int32 × Int32 × Int32 × Int32)
  | 0, _, _, _, _, _, _ => none
  | k0 + 1, x2, t_nums'_6, t_at'_12, t_start'_12, t_token'_12, t_value'_12 =>
  if t_token'_12 = (2 : Int32) then
    if (F_R_mostOf t_token'_10) ≤ x2 then
      some (x2, t_nums'_6, t_at'_12, t_start'_12, t_token'_12, t_value'_12)
    else
      gd (ixb (((7 : Int32) * t_items'_3) + x2) 1680) (
      bO (F_R_scans N t_typed t_at'_12 t_value'_12 t_text) (u4 (fun (t_at'_13 : Int32) (t_start'_13 : Int32) (t_token'_13 : Int32) (t_value'_13 : Int32) =>
      R_readsText_L40 N t_token'_10 t_items'_3 t_typed t_text k0 (x2 + (1 : Int32)) (upd t_nums'_6 (((7 : Int32) * t_items'_3) + x2).toNatClampNeg t_value'_12) t_at'_13 t_start'_13 t_token'_13 t_value'_13)))
  else
    some (x2, t_nums'_6, t_at'_12, t_start'_12, t_token'_12, t_value'_12)
def R_readsText_L14 (N : Nat) (t_typed : Int32) (t_text : Nat → Int32) : Nat → (Nat → Int32) → (Nat → Int32) → (Nat → Int32) → Int32 → Int32 → Int32 → Int32 → Int32 → Option ((Int32 × Int32 × Int32 × Int32 × Int32 × Int32 × (Nat → Int32) × (Nat → Int32) × (Nat → Int32)) ⊕ ((Nat → Int32) × (Nat → Int32) × (Nat → Int32) × Int32 × Int32 × Int32 × Int32 × Int32))
  | 0, _, _, _, _, _, _, _, _ => none
  | k0 + 1, t_verbs'_3, t_many'_3, t_nums'_5, t_at'_10, t_items'_3, t_start'_10, t_token'_10, t_value'_10 =>
  if t_token'_10 = (0 : Int32) then
    some (.inr (t_verbs'_3, t_many'_3, t_nums'_5, t_at'_10, t_items'_3, t_start'_10, t_token'_10, t_value'_10))
  else
    if (10 : Int32) ≤ t_token'_10 then
      bO (F_R_scans N t_typed t_at'_10 t_value'_10 t_text) (u4 (fun (t_at'_11 : Int32) (t_start'_11 : Int32) (t_token'_11 : Int32) (t_value'_11 : Int32) =>
      bO (R_readsText_L40 N t_token'_10 t_items'_3 t_typed t_text N (0 : Int32) t_nums'_5 t_at'_11 t_start'_11 t_token'_11 t_value'_11) (u6 (fun (x2_2 : Int32) (t_nums'_7 : Nat → Int32) (t_at'_14 : Int32) (t_start'_14 : Int32) (t_token'_14 : Int32) (t_value'_14 : Int32) =>
      if x2_2 < (F_R_fewestOf t_token'_10) then
        some (.inl ((0 : Int32), t_at'_14, t_start'_14, t_token'_14, t_value'_14, t_items'_3, t_verbs'_3, t_many'_3, t_nums'_7))
      else
        if t_token'_14 = (3 : Int32) then
          gd (ixb t_items'_3 240) (
          bO (F_R_scans N t_typed t_at'_14 t_value'_14 t_text) (u4 (fun (t_at'_15 : Int32) (t_start'_15 : Int32) (t_token'_15 : Int32) (t_value'_15 : Int32) =>
          R_readsText_L14 N t_typed t_text k0 (upd t_verbs'_3 t_items'_3.toNatClampNeg t_token'_10) (upd t_many'_3 t_items'_3.toNatClampNeg x2_2) t_nums'_7 t_at'_15 (t_items'_3 + (1 : Int32)) t_start'_15 t_token'_15 t_value'_15)))
        else
          some (.inl ((0 : Int32), t_at'_14, t_start'_14, t_token'_14, t_value'_14, t_items'_3, t_verbs'_3, t_many'_3, t_nums'_7))))))
    else
      some (.inl ((0 : Int32), t_at'_10, t_start'_10, t_token'_10, t_value'_10, t_items'_3, t_verbs'_3, t_many'_3, t_nums'_5))
def F_R_readsText (N : Nat) (t_typed : Int32) (t_value : Int32) (t_text : Nat → Int32) (t_verbs : Nat → Int32) (t_many : Nat → Int32) (t_nums : Nat → Int32) : Option (Int32 × Int32 × Int32 × Int32 × Int32 × Int32 × (Nat → Int32) × (Nat → Int32) × (Nat → Int32)) :=
  bO (F_R_scans N t_typed (0 : Int32) t_value t_text) (u4 (fun (t_at'_9 : Int32) (t_start'_9 : Int32) (t_token'_9 : Int32) (t_value'_9 : Int32) =>
  bT (R_readsText_L14 N t_typed t_text N t_verbs t_many t_nums t_at'_9 (0 : Int32) t_start'_9 t_token'_9 t_value'_9) (u8 (fun (t_verbs'_4 : Nat → Int32) (t_many'_4 : Nat → Int32) (t_nums'_8 : Nat → Int32) (t_at'_16 : Int32) (t_items'_4 : Int32) (t_start'_16 : Int32) (t_token'_16 : Int32) (t_value'_16 : Int32) =>
  some ((1 : Int32), t_at'_16, t_start'_16, t_token'_16, t_value'_16, t_items'_4, t_verbs'_4, t_many'_4, t_nums'_8)))))
def R_tellsWord_L7 (p1 : Int32) (t_many : Nat → Int32) (t_nums : Nat → Int32) : Nat → Int32 → Int32 → Int32 → Option (Int32 × Int32)
  | 0, _, _, _ => none
  | k0 + 1, x2, x3, x4 =>
  gd (ixb p1 240) (
  if (t_many p1.toNatClampNeg) ≤ x4 then
    some (x2, x3)
  else
    bO (
      if x3 = (0 : Int32) then
        some (0 : Int32)
      else
        gd (ixb (((7 : Int32) * p1) + x4) 1680) (
        if (6 : Int32) ≤ (t_nums (((7 : Int32) * p1) + x4).toNatClampNeg) then
          some (0 : Int32)
        else
          some (1 : Int32))) ((fun (y0 : Int32) =>
    gd (ixb (((7 : Int32) * p1) + x4) 1680) (
    R_tellsWord_L7 p1 t_many t_nums k0 (((6 : Int32) * x2) + (t_nums (((7 : Int32) * p1) + x4).toNatClampNeg)) y0 (x4 + (1 : Int32))))))
def F_R_tellsWord (N : Nat) (p1 : Int32) (t_book : Nat → Int32) (t_many : Nat → Int32) (t_nums : Nat → Int32) : Option (Int32 × (Nat → Int32)) :=
  bO (R_tellsWord_L7 p1 t_many t_nums N (0 : Int32) (1 : Int32) (1 : Int32)) (u2 (fun (x2_2 : Int32) (x3_2 : Int32) =>
  if x3_2 = (0 : Int32) then
    some ((-2 : Int32), t_book)
  else
    gd (ixb p1 240) (
    gd (ixb ((7 : Int32) * p1) 1680) (
    bO (F_R_word N ((t_many p1.toNatClampNeg) - (1 : Int32)) x2_2 (t_nums ((7 : Int32) * p1).toNatClampNeg) t_book) (u2 (fun (r92 : Int32) (t_book'_2 : Nat → Int32) =>
    some (r92, t_book'_2)))))))
def F_R_tellsItem (N : Nat) (p1 : Int32) (t_book : Nat → Int32) (t_verbs : Nat → Int32) (t_many : Nat → Int32) (t_nums : Nat → Int32) : Option (Int32 × (Nat → Int32)) :=
  gd (ixb ((7 : Int32) * p1) 1680) (
  gd (ixb (((7 : Int32) * p1) + (1 : Int32)) 1680) (
  gd (ixb (((7 : Int32) * p1) + (2 : Int32)) 1680) (
  gd (ixb p1 240) (
  if (t_verbs p1.toNatClampNeg) = (10 : Int32) then
    bO (F_R_pillar N (t_nums ((7 : Int32) * p1).toNatClampNeg) t_book) (u2 (fun (r82 : Int32) (t_book'_9 : Nat → Int32) =>
    some (r82, t_book'_9)))
  else if (t_verbs p1.toNatClampNeg) = (11 : Int32) then
    bO (F_R_weaver N (t_nums ((7 : Int32) * p1).toNatClampNeg) (t_nums (((7 : Int32) * p1) + (1 : Int32)).toNatClampNeg) t_book) (u2 (fun (r89 : Int32) (t_book'_10 : Nat → Int32) =>
    some (r89, t_book'_10)))
  else if (t_verbs p1.toNatClampNeg) = (12 : Int32) then
    bO (F_R_free N (t_nums ((7 : Int32) * p1).toNatClampNeg) (0 : Int32) (t_nums (((7 : Int32) * p1) + (1 : Int32)).toNatClampNeg) (t_nums (((7 : Int32) * p1) + (2 : Int32)).toNatClampNeg) t_book) (u2 (fun (r99 : Int32) (t_book'_11 : Nat → Int32) =>
    some (r99, t_book'_11)))
  else if (t_verbs p1.toNatClampNeg) = (13 : Int32) then
    bO (F_R_free N (t_nums ((7 : Int32) * p1).toNatClampNeg) (1 : Int32) (t_nums (((7 : Int32) * p1) + (1 : Int32)).toNatClampNeg) (t_nums (((7 : Int32) * p1) + (2 : Int32)).toNatClampNeg) t_book) (u2 (fun (r109 : Int32) (t_book'_12 : Nat → Int32) =>
    some (r109, t_book'_12)))
  else if (t_verbs p1.toNatClampNeg) = (14 : Int32) then
    bO (F_R_far (0 : Int32) (t_nums ((7 : Int32) * p1).toNatClampNeg) t_book) (u2 (fun (r116 : Int32) (t_book'_13 : Nat → Int32) =>
    if r116 < (0 : Int32) then
      some ((-2 : Int32), t_book'_13)
    else
      bO (F_R_far (1 : Int32) (t_nums (((7 : Int32) * p1) + (1 : Int32)).toNatClampNeg) t_book'_13) (u2 (fun (r125 : Int32) (t_book'_14 : Nat → Int32) =>
      if (0 : Int32) ≤ r125 then
        some ((0 : Int32), t_book'_14)
      else
        some ((-2 : Int32), t_book'_14)))))
  else if (t_verbs p1.toNatClampNeg) = (15 : Int32) then
    bO (F_R_tellsWord N p1 t_book t_many t_nums) (u2 (fun (r140 : Int32) (t_book'_15 : Nat → Int32) =>
    some (r140, t_book'_15)))
  else 
    bO (F_R_like N (t_nums ((7 : Int32) * p1).toNatClampNeg) (t_nums (((7 : Int32) * p1) + (1 : Int32)).toNatClampNeg) t_book) (u2 (fun (r147 : Int32) (t_book'_16 : Nat → Int32) =>
    some (r147, t_book'_16)))))))
def R_shed_L17 (t_book : Nat → Int32) : Nat → Int32 → (Nat → Int32) → Option ((Nat → Int32))
  | 0, _, _ => none
  | k0 + 1, x1, t_aside'_3 =>
  if (240 : Int32) ≤ x1 then
    some t_aside'_3
  else
    gd (ixb x1 240) (
    R_shed_L17 t_book k0 (x1 + (1 : Int32)) (upd t_aside'_3 x1.toNatClampNeg (t_book x1.toNatClampNeg)))
def R_shed_L66 (t_aside'_4 : Nat → Int32) : Nat → Int32 → (Nat → Int32) → Option ((Nat → Int32))
  | 0, _, _ => none
  | k0 + 1, x2, t_book'_10 =>
  if (240 : Int32) ≤ x2 then
    some t_book'_10
  else
    gd (ixb x2 240) (
    R_shed_L66 t_aside'_4 k0 (x2 + (1 : Int32)) (upd t_book'_10 x2.toNatClampNeg (t_aside'_4 x2.toNatClampNeg)))
def R_shed_L48 (N : Nat) (t_items'_2 : Int32) (t_verbs'_2 : Nat → Int32) (t_many'_2 : Nat → Int32) (t_nums'_2 : Nat → Int32) (t_aside'_4 : Nat → Int32) (t_at'_2 : Int32) (t_start'_2 : Int32) (t_token'_2 : Int32) (t_value'_2 : Int32) : Nat → Int32 → (Nat → Int32) → Option ((Int32 × Int32 × Int32 × Int32 × Int32 × Int32 × (Nat → Int32) × (Nat → Int32) × (Nat → Int32) × (Nat → Int32) × (Nat → Int32)) ⊕ ((Nat → Int32)))
  | 0, _, _ => none
  | k0 + 1, x1_2, t_book'_8 =>
  if t_items'_2 ≤ x1_2 then
    some (.inr t_book'_8)
  else
    bO (F_R_tellsItem N x1_2 t_book'_8 t_verbs'_2 t_many'_2 t_nums'_2) (u2 (fun (r58 : Int32) (t_book'_9 : Nat → Int32) =>
    if (0 : Int32) ≤ r58 then
      R_shed_L48 N t_items'_2 t_verbs'_2 t_many'_2 t_nums'_2 t_aside'_4 t_at'_2 t_start'_2 t_token'_2 t_value'_2 k0 (x1_2 + (1 : Int32)) t_book'_9
    else
      bO (R_shed_L66 t_aside'_4 N (0 : Int32) t_book'_9) ((fun (t_book'_11 : Nat → Int32) =>
      some (.inl (((-1000 : Int32) - x1_2), t_at'_2, t_start'_2, t_token'_2, t_value'_2, t_items'_2, t_book'_11, t_aside'_4, t_verbs'_2, t_many'_2, t_nums'_2))))))
def F_R_shed (N : Nat) (t_typed : Int32) (t_value : Int32) (t_book : Nat → Int32) (t_aside : Nat → Int32) (t_text : Nat → Int32) (t_verbs : Nat → Int32) (t_many : Nat → Int32) (t_nums : Nat → Int32) : Option (Int32 × Int32 × Int32 × Int32 × Int32 × Int32 × (Nat → Int32) × (Nat → Int32) × (Nat → Int32) × (Nat → Int32) × (Nat → Int32)) :=
  bO (F_R_readsText N t_typed t_value t_text t_verbs t_many t_nums) (u9 (fun (r1 : Int32) (t_at'_2 : Int32) (t_start'_2 : Int32) (t_token'_2 : Int32) (t_value'_2 : Int32) (t_items'_2 : Int32) (t_verbs'_2 : Nat → Int32) (t_many'_2 : Nat → Int32) (t_nums'_2 : Nat → Int32) =>
  if r1 = (0 : Int32) then
    some (((-10 : Int32) - t_start'_2), t_at'_2, t_start'_2, t_token'_2, t_value'_2, t_items'_2, t_book, t_aside, t_verbs'_2, t_many'_2, t_nums'_2)
  else
    bO (R_shed_L17 t_book N (0 : Int32) t_aside) ((fun (t_aside'_4 : Nat → Int32) =>
    bO (F_R_begins N t_book) ((fun (t_book'_7 : Nat → Int32) =>
    bT (R_shed_L48 N t_items'_2 t_verbs'_2 t_many'_2 t_nums'_2 t_aside'_4 t_at'_2 t_start'_2 t_token'_2 t_value'_2 N (0 : Int32) t_book'_7) ((fun (t_book'_12 : Nat → Int32) =>
    some (t_items'_2, t_at'_2, t_start'_2, t_token'_2, t_value'_2, t_items'_2, t_book'_12, t_aside'_4, t_verbs'_2, t_many'_2, t_nums'_2)))))))))
def R_image_L15 (p1 : Int32) (t_book : Nat → Int32) : Nat → Int32 → (Nat → Int32) → Option ((Nat → Int32))
  | 0, _, _ => none
  | k0 + 1, x2, t_images'_3 =>
  if (240 : Int32) ≤ x2 then
    some t_images'_3
  else
    gd (ixb x2 240) (
    gd (ixb (((240 : Int32) * p1) + x2) 480) (
    R_image_L15 p1 t_book k0 (x2 + (1 : Int32)) (upd t_images'_3 (((240 : Int32) * p1) + x2).toNatClampNeg (t_book x2.toNatClampNeg))))
def F_R_image (N : Nat) (p1 : Int32) (t_book : Nat → Int32) (t_images : Nat → Int32) (t_kept : Nat → Int32) : Option (Int32 × (Nat → Int32) × (Nat → Int32)) :=
  if (F_R_in p1.toInt64 (0 : Int64) (1 : Int64)) = (0 : Int32) then
    some ((-2 : Int32), t_images, t_kept)
  else
    bO (R_image_L15 p1 t_book N (0 : Int32) t_images) ((fun (t_images'_4 : Nat → Int32) =>
    gd (ixb p1 2) (
    some ((1 : Int32), t_images'_4, (upd t_kept p1.toNatClampNeg (vp_nar .boolean (1 : Int32)))))))
def R_from_L27 (p1 : Int32) (t_images : Nat → Int32) : Nat → Int32 → (Nat → Int32) → Option ((Nat → Int32))
  | 0, _, _ => none
  | k0 + 1, x2, t_book'_3 =>
  if (240 : Int32) ≤ x2 then
    some t_book'_3
  else
    gd (ixb (((240 : Int32) * p1) + x2) 480) (
    gd (ixb x2 240) (
    R_from_L27 p1 t_images k0 (x2 + (1 : Int32)) (upd t_book'_3 x2.toNatClampNeg (t_images (((240 : Int32) * p1) + x2).toNatClampNeg))))
def F_R_from (N : Nat) (p1 : Int32) (t_book : Nat → Int32) (t_images : Nat → Int32) (t_kept : Nat → Int32) : Option (Int32 × (Nat → Int32)) :=
  if (F_R_in p1.toInt64 (0 : Int64) (1 : Int64)) = (0 : Int32) then
    some ((-2 : Int32), t_book)
  else
    gd (ixb p1 2) (
    if (t_kept p1.toNatClampNeg) = (0 : Int32) then
      some ((-3 : Int32), t_book)
    else
      bO (R_from_L27 p1 t_images N (0 : Int32) t_book) ((fun (t_book'_4 : Nat → Int32) =>
      some ((1 : Int32), t_book'_4))))
def F_R_countOf (p1 : Int32) (t_typed : Int32) (t_book : Nat → Int32) : Option (Int32) :=
  if (5 : Int32) ≤ p1 then
    some t_typed
  else
    gd (ixb p1 240) (
    some (t_book p1.toNatClampNeg))
def F_R_count (p1 : Int32) (t_typed : Int32) (t_book : Nat → Int32) : Option (Int32) :=
  if (F_R_in p1.toInt64 (0 : Int64) (5 : Int64)) = (0 : Int32) then
    some (-2 : Int32)
  else
    bO (F_R_countOf p1 t_typed t_book) ((fun (r14 : Int32) =>
    some r14))
def R_mixed_L6 (p4 : Int32) (p3 : Int32) (p2_len : Nat) (p2 : Nat → Int32) : Nat → Int64 → Int32 → Option (Int64)
  | 0, _, _ => none
  | k0 + 1, x5, x7 =>
  if p4 ≤ x7 then
    some x5
  else
    gd (ixb (p3 + x7) p2_len) (
    R_mixed_L6 p4 p3 p2_len p2 k0 (((31 : Int64) * x5) + (p2 (p3 + x7).toNatClampNeg).toInt64) (x7 + (1 : Int32)))
def F_R_mixed (N : Nat) (p1 : Int64) (p3 : Int32) (p4 : Int32) (p2 : Nat → Int32) (p2_len : Nat) : Option (Int64) :=
  bO (R_mixed_L6 p4 p3 p2_len p2 N p1 (0 : Int32)) ((fun (x5_2 : Int64) =>
  some x5_2))
def R_digest_L6 (t_typed : Int32) (t_book : Nat → Int32) : Nat → Int64 → Int32 → Option (Int64)
  | 0, _, _ => none
  | k0 + 1, x1, x3 =>
  if (6 : Int32) ≤ x3 then
    some x1
  else
    bO (F_R_countOf x3 t_typed t_book) ((fun (r19 : Int32) =>
    R_digest_L6 t_typed t_book k0 (((31 : Int64) * x1) + r19.toInt64) (x3 + (1 : Int32))))
def R_digest_L174 (t_wide : Nat → Int32) : Nat → Int64 → Int32 → Option (Int64)
  | 0, _, _ => none
  | k0 + 1, x1_3, x3_2 =>
  if (3 : Int32) ≤ x3_2 then
    some x1_3
  else
    R_digest_L174 t_wide k0 (((31 : Int64) * x1_3) + (F_R_sign x3_2 t_wide).toInt64) (x3_2 + (1 : Int32))
def F_R_digest (N : Nat) (t_typed : Int32) (t_book : Nat → Int32) (t_limbs : Nat → Int32) (t_wide : Nat → Int32) : Option (Int64) :=
  bO (R_digest_L6 t_typed t_book N (523 : Int64) (0 : Int32)) ((fun (x1_2 : Int64) =>
  bO (F_R_mixed N x1_2 (10 : Int32) (64 : Int32) t_book 240) ((fun (r40 : Int64) =>
  bO (F_R_mixed N r40 (80 : Int32) ((4 : Int32) * (t_book 1)) t_book 240) ((fun (r59 : Int64) =>
  bO (F_R_mixed N r59 (6 : Int32) (2 : Int32) t_book 240) ((fun (r71 : Int64) =>
  bO (F_R_mixed N r71 (120 : Int32) ((3 : Int32) * (t_book 2)) t_book 240) ((fun (r90 : Int64) =>
  bO (F_R_mixed N r90 (150 : Int32) (6 : Int32) t_book 240) ((fun (r104 : Int64) =>
  bO (F_R_mixed N r104 (160 : Int32) ((3 : Int32) * (t_book 3)) t_book 240) ((fun (r124 : Int64) =>
  bO (F_R_mixed N r124 (190 : Int32) (t_book 4) t_book 240) ((fun (r142 : Int64) =>
  bO (F_R_mixed N r142 (8 : Int32) (2 : Int32) t_book 240) ((fun (r154 : Int64) =>
  bO (F_R_mixed N r154 (220 : Int32) (12 : Int32) t_book 240) ((fun (r168 : Int64) =>
  bO (R_digest_L174 t_wide N r168 (0 : Int32)) ((fun (x1_4 : Int64) =>
  bO (F_R_mixed N x1_4 (0 : Int32) (t_wide 0) t_limbs 1680) ((fun (r210 : Int64) =>
  bO (F_R_mixed N r210 (60 : Int32) (t_wide 1) t_limbs 1680) ((fun (r227 : Int64) =>
  some r227))))))))))))))))))))))))))
