/-! printed by wip/whole/gen.py: what each method does, as a pure function -/
def jmax (x y : Int32) : Int32 := if x < y then y else x
def jmin (x y : Int32) : Int32 := if y < x then y else x
abbrev φI (M : Mem) : Int32 → Option Value × Mem := fun r => (some (.int r), M)
abbrev φL (M : Mem) : Int64 → Option Value × Mem := fun r => (some (.long r), M)
abbrev φIM : Int32 × Mem → Option Value × Mem := fun r => (some (.int r.1), r.2)
abbrev φV : Mem → Option Value × Mem := fun M => (none, M)
def bnd2 {β : Type} (o : Option (Int32 × Mem)) (f : Int32 → Mem → Option β) : Option β := Option.bind o fun q => f q.1 q.2
def SP_at (k0 : Nat) (v1 : Int32) (M : Mem) : Option Int32 :=
  if v1 < 0 then some 0 else if (Int32.ofNat (aln k0)) ≤ v1 then some 0 else if inb v1 (aln k0) then some (rd M k0 v1) else none
def SP_put (k0 : Nat) (v1 : Int32) (v2 : Int32) (M : Mem) : Option Mem :=
  if v1 < 0 then some M else if (Int32.ofNat (aln k0)) ≤ v1 then some M else if inb v1 (aln k0) then nm (wr M k0 v1 v2) fun (M1 : Mem) => some M1 else none
def SP_refuse (v1 : Int32) (M : Mem) : Option (Int32 × Mem) :=
  Option.bind (SP_at 32 (-v1) M) fun r_1 => Option.bind (SP_put 32 (-v1) (r_1 + 1) M) fun M1 => some (v1, M1)
def Td_drain (k0 : Nat) (M : Mem) : Option Mem :=
  nm (st2 M k0 1 0) fun (M1 : Mem) => some M1
def SP_wipe_L7 (k0 : Nat) (kx : Mem → Option Mem) (ag : (Int32 × Mem) → Option Mem) (v1_1 : Int32) (M1 : Mem) : Option Mem :=
  if (Int32.ofNat (aln k0)) ≤ v1_1 then kx M1 else if inb v1_1 (aln k0) then nm (wr M1 k0 v1_1 0) fun (M2 : Mem) => ag (v1_1 + 1, M2) else none
def SP_wipe (k0 : Nat) (M : Mem) : Option Mem :=
  LOOP (fun aq sq => SP_wipe_L7 k0 (fun (M3 : Mem) => some M3) aq sq.1 sq.2) FU (0, M)
def To_settle (v1 : Int32) (M : Mem) : Option Mem :=
  nm (st2 M 1 2 v1) fun (M1 : Mem) => Option.bind (SP_wipe 2 M1) fun M2 => some M2
def SP_persons (v1 : Int32) (M : Mem) : Option (Int32 × Mem) :=
  if 1 ≤ v1 then if v1 ≤ 7 then nm (M 1 2) fun (v2_1 : Int32) => Option.bind (To_settle v1 M) fun M1 => Option.bind (Td_drain 4 M1) fun M2 => nm (st2 M2 10 3 0) fun (M3 : Mem) => some (v2_1, M3) else bnd2 (SP_refuse (-6) M) fun r_1 M4 => some (r_1, M4) else bnd2 (SP_refuse (-4) M) fun r_2 M5 => some (r_2, M5)
def To_lives (v1 : Int32) (M : Mem) : Option Int32 :=
  if v1 < 0 then some 0 else if (M 1 2) ≤ v1 then some 0 else some 1
def SP_mark (v1 : Int32) (v2 : Int32) (M : Mem) : Option (Int32 × Mem) :=
  Option.bind (To_lives v1 M) fun r_1 => if r_1 = 0 then bnd2 (SP_refuse (-1) M) fun r_2 M1 => some (r_2, M1) else if 0 ≤ v2 then if v2 ≤ 3 then Option.bind (SP_at 2 v1 M) fun r_3 => Option.bind (SP_put 2 v1 v2 M) fun M2 => some (r_3, M2) else bnd2 (SP_refuse (-6) M) fun r_4 M3 => some (r_4, M3) else bnd2 (SP_refuse (-4) M) fun r_5 M4 => some (r_5, M4)
def SP_year (v1 : Int32) (M : Mem) : Option (Int32 × Mem) :=
  if 0 ≤ v1 then if v1 ≤ 100 then nm (M 0 12) fun (v2_1 : Int32) => nm (st2 M 0 12 v1) fun (M1 : Mem) => some (v2_1, M1) else bnd2 (SP_refuse (-6) M) fun r_1 M2 => some (r_1, M2) else bnd2 (SP_refuse (-4) M) fun r_2 M3 => some (r_2, M3)
def Ta_append (v1 : Int32) (M : Mem) : Option Mem :=
  if 60 ≤ (M 6 2) then some M else Option.bind (SP_put 7 (M 6 2) v1 M) fun M1 => nm (st2 M1 6 2 ((M1 6 2) + 1)) fun (M2 : Mem) => some M2
def SP_feed_L42 (v1_1 : Int32) (v2_1 : Int64) (kx : Mem → Option (Int32 × Mem)) (ag : (Int32 × Mem) → Option (Int32 × Mem)) (v4_1 : Int32) (M2 : Mem) : Option (Int32 × Mem) :=
  if v1_1 ≤ v4_1 then kx M2 else Option.bind (Ta_append ((((v2_1.toUInt64 >>> ((8 * v4_1).toInt64.toUInt64 &&& Int64.toUInt64 63)).toInt64).toInt32) &&& 255) M2) fun M3 => ag (v4_1 + 1, M3)
def SP_feed (v1 : Int32) (v2 : Int64) (M : Mem) : Option (Int32 × Mem) :=
  if 1 ≤ v1 then jp (bnd2 (SP_refuse (-6) M) fun r_1 M1 => some (r_1, M1)) fun (k_1 : Option (Int32 × Mem)) => if 8 < v1 then k_1 else if ((M 6 2) + v1) ≤ 60 then LOOP (fun aq sq => SP_feed_L42 v1 v2 (fun (M4 : Mem) => some (M4 6 2, M4)) aq sq.1 sq.2) FU (0, M) else k_1 else bnd2 (SP_refuse (-4) M) fun r_2 M5 => some (r_2, M5)
def Td_field (k0 : Nat) (v1 : Int32) (v2 : Int32) (M : Mem) : Option Int32 :=
  Option.bind (SP_at (k0 + 1) ((v1 * 6) + v2) M) fun r_1 => some r_1
def Ta_drafted (v1 : Int32) (M : Mem) : Option Int32 :=
  Option.bind (Td_field 8 (M 8 1) v1 M) fun r_1 => some r_1
def Ta_here (M : Mem) : Option Int32 :=
  if (M 6 2) ≤ (M 6 3) then some (-1) else Option.bind (SP_at 7 (M 6 3) M) fun r_1 => some r_1
def Td_draft (k0 : Nat) (v1 : Int32) (v2 : Int32) (M : Mem) : Option Mem :=
  Option.bind (SP_put (k0 + 1) (((M k0 1) * 6) + v1) v2 M) fun M1 => some M1
def Ta_readInto (v1 : Int32) (v2 : Int32) (v3 : Int32) (v4 : Int32) (M : Mem) : Option (Int32 × Mem) :=
  Option.bind (Ta_here M) fun r_1 => if r_1 < v2 then some (0, M) else if r_1 ≤ v3 then Option.bind (Td_draft 8 v1 (r_1 - v4) M) fun M1 => nm (st2 M1 6 3 ((M1 6 3) + 1)) fun (M2 : Mem) => some (1, M2) else some (0, M)
def Ta_readPerson (v1 : Int32) (M : Mem) : Option (Int32 × Mem) :=
  bnd2 (Ta_readInto v1 97 ((97 + (M 6 4)) - 1) 97 M) fun r_1 M1 => some (bz r_1, M1)
def Ta_skip (v1 : Int32) (M : Mem) : Option (Int32 × Mem) :=
  Option.bind (Ta_here M) fun r_1 => if r_1 = v1 then nm (st2 M 6 3 ((M 6 3) + 1)) fun (M1 : Mem) => some (1, M1) else some (0, M)
def Ta_readStrength (M : Mem) : Option (Int32 × Mem) :=
  bnd2 (Ta_skip 42 M) fun r_1 M1 => if r_1 = 0 then some (1, M1) else bnd2 (Ta_readInto 3 49 57 48 M1) fun r_2 M2 => if r_2 = 0 then some (0, M2) else some (1, M2)
def Ta_readYear_L8 (v3_2 : Int32) (kx : Int32 → Mem → Option (Int32 × Mem)) (ag : (Int32 × Mem) → Option (Int32 × Mem)) (v4_1 : Int32) (M1 : Mem) : Option (Int32 × Mem) :=
  if 3 ≤ ((M1 6 3) - v3_2) then kx v4_1 M1 else Option.bind (Ta_here M1) fun r_1 => if r_1 < 48 then kx v4_1 M1 else Option.bind (Ta_here M1) fun r_2 => if 57 < r_2 then kx v4_1 M1 else Option.bind (Ta_here M1) fun r_3 => nm (((v4_1 * 10) + r_3) - 48) fun (v4_2 : Int32) => nm (st2 M1 6 3 ((M1 6 3) + 1)) fun (M2 : Mem) => ag (v4_2, M2)
def Ta_readYear (v1 : Int32) (v2 : Int32) (M : Mem) : Option (Int32 × Mem) :=
  nm (M 6 3) fun (v3_1 : Int32) => LOOP (fun aq sq => Ta_readYear_L8 v3_1 (fun (v4_3 : Int32) (M3 : Mem) => if (M3 6 3) = v3_1 then some (0, M3) else if 100 < v4_3 then nm (st2 M3 6 3 v3_1) fun (M4 : Mem) => some (0, M4) else if v2 < v4_3 then Option.bind (Td_draft 8 v1 v4_3 M3) fun M5 => some (1, M5) else nm (st2 M3 6 3 v3_1) fun (M6 : Mem) => some (0, M6)) aq sq.1 sq.2) FU (0, M)
def Ta_readYears (M : Mem) : Option (Int32 × Mem) :=
  bnd2 (Ta_skip 64 M) fun r_1 M1 => if r_1 = 0 then some (1, M1) else bnd2 (Ta_readYear 4 (-1) M1) fun r_2 M2 => if r_2 = 0 then some (0, M2) else bnd2 (Ta_skip 45 M2) fun r_3 M3 => if r_3 = 0 then some (0, M3) else Option.bind (Ta_drafted 4 M3) fun r_4 => bnd2 (Ta_readYear 5 r_4 M3) fun r_5 M4 => if r_5 = 0 then some (0, M4) else some (1, M4)
def Ta_readTie (M : Mem) : Option (Int32 × Mem) :=
  Option.bind (Td_draft 8 3 1 M) fun M1 => Option.bind (Td_draft 8 4 0 M1) fun M2 => Option.bind (Td_draft 8 5 100 M2) fun M3 => bnd2 (Ta_readPerson 0 M3) fun r_1 M4 => if r_1 = 0 then some (0, M4) else bnd2 (Ta_skip 62 M4) fun r_2 M5 => if r_2 = 0 then some (0, M5) else Option.bind (Ta_here M5) fun r_3 => Option.bind (Ta_drafted 0 M5) fun r_4 => if r_3 = (97 + r_4) then some (0, M5) else bnd2 (Ta_readPerson 1 M5) fun r_5 M6 => if r_5 = 0 then some (0, M6) else bnd2 (Ta_readInto 2 48 50 48 M6) fun r_6 M7 => if r_6 = 0 then some (0, M7) else bnd2 (Ta_readStrength M7) fun r_7 M8 => if r_7 = 0 then some (0, M8) else bnd2 (Ta_readYears M8) fun r_8 M9 => if r_8 = 0 then some (0, M9) else some (1, M9)
def Td_endDraft (k0 : Nat) (M : Mem) : Option Mem :=
  if 60 ≤ (M k0 1) then some M else nm (st2 M k0 1 ((M k0 1) + 1)) fun (M1 : Mem) => some M1
def Ta_readAll_L21 (kx : Mem → Option (Int32 × Mem)) (ag : (Int32 × Int32 × Mem) → Option (Int32 × Mem)) (v2_1 : Int32) (v3_1 : Int32) (M4 : Mem) : Option (Int32 × Mem) :=
  if 60 < v3_1 then kx M4 else if v2_1 = 0 then kx M4 else bnd2 (Ta_readTie M4) fun r_1 M5 => if r_1 = 0 then some (0, M5) else Option.bind (Td_endDraft 8 M5) fun M6 => bnd2 (Ta_skip 59 M6) fun r_2 M7 => ag (r_2, v3_1 + 1, M7)
def Ta_readAll (v1 : Int32) (M : Mem) : Option (Int32 × Mem) :=
  nm (st2 M 6 4 v1) fun (M1 : Mem) => nm (st2 M1 6 3 0) fun (M2 : Mem) => Option.bind (Td_drain 8 M2) fun M3 => LOOP (fun aq sq => Ta_readAll_L21 (fun (M8 : Mem) => if (M8 6 3) = (M8 6 2) then some (1, M8) else some (0, M8)) aq sq.1 sq.2.1 sq.2.2) FU (1, 0, M3)
def Td_takeAll_L12 (v2_2 : Int32) (kx : Mem → Option Mem) (ag : (Int32 × Mem) → Option Mem) (v3_1 : Int32) (M2 : Mem) : Option Mem :=
  if 6 ≤ v3_1 then kx M2 else Option.bind (Td_field 8 v2_2 v3_1 M2) fun r_1 => Option.bind (Td_draft 4 v3_1 r_1 M2) fun M3 => ag (v3_1 + 1, M3)
def Td_takeAll_L2 (kx : Mem → Option Mem) (ag : (Int32 × Mem) → Option Mem) (v2_1 : Int32) (M1 : Mem) : Option Mem :=
  if (M1 8 1) ≤ v2_1 then kx M1 else LOOP (fun aq sq => Td_takeAll_L12 v2_1 (fun (M4 : Mem) => Option.bind (Td_endDraft 4 M4) fun M5 => ag (v2_1 + 1, M5)) aq sq.1 sq.2) FU (0, M1)
def Td_takeAll (M : Mem) : Option Mem :=
  LOOP (fun aq sq => Td_takeAll_L2 (fun (M6 : Mem) => some M6) aq sq.1 sq.2) FU (0, M)
def SP_ties (M : Mem) : Option (Int32 × Mem) :=
  bnd2 (Ta_readAll (M 1 2) M) fun r_1 M1 => nm (st2 M1 6 2 0) fun (M2 : Mem) => if r_1 = 0 then some ((-20) - (M2 6 3), M2) else if ((M2 4 1) + (M2 8 1)) ≤ 60 then Option.bind (Td_takeAll M2) fun M3 => some (M3 4 1, M3) else bnd2 (SP_refuse (-6) M2) fun r_2 M4 => some (r_2, M4)
def Td_drop_L5 (kx : Mem → Option Mem) (ag : (Int32 × Mem) → Option Mem) (v2_2 : Int32) (M1 : Mem) : Option Mem :=
  if (((M1 4 1) - 1) * 6) ≤ v2_2 then kx M1 else Option.bind (SP_at 5 (v2_2 + 6) M1) fun r_1 => Option.bind (SP_put 5 v2_2 r_1 M1) fun M2 => ag (v2_2 + 1, M2)
def Td_drop (v1 : Int32) (M : Mem) : Option Mem :=
  nm (v1 * 6) fun (v2_1 : Int32) => LOOP (fun aq sq => Td_drop_L5 (fun (M3 : Mem) => nm (st2 M3 4 1 ((M3 4 1) - 1)) fun (M4 : Mem) => some M4) aq sq.1 sq.2) FU (v2_1, M)
def SP_untie (v1 : Int32) (M : Mem) : Option (Int32 × Mem) :=
  jp (bnd2 (SP_refuse (-1) M) fun r_1 M1 => some (r_1, M1)) fun (k_1 : Option (Int32 × Mem)) => if v1 < 0 then k_1 else if v1 < (M 4 1) then Option.bind (Td_drop v1 M) fun M2 => some (1, M2) else k_1
def SP_isKind (v0 : Int32) : Option Int32 :=
  if v0 < 0 then some 0 else if 3 ≤ v0 then some 0 else some 1
def SP_cell (v0 : Int32) (v1 : Int32) (v2 : Int32) : Option Int32 :=
  some ((((v0 * 7) + v1) * 7) + v2)
def Td_draw_L9 (v2_1 : Int32) (kx : Mem → Option Mem) (ag : (Int32 × Mem) → Option Mem) (v3_1 : Int32) (M2 : Mem) : Option Mem :=
  if (M2 4 1) ≤ v3_1 then kx M2 else Option.bind (Td_field 4 v3_1 4 M2) fun r_1 => if v2_1 < r_1 then ag (v3_1 + 1, M2) else Option.bind (Td_field 4 v3_1 5 M2) fun r_2 => if r_2 ≤ v2_1 then ag (v3_1 + 1, M2) else Option.bind (Td_field 4 v3_1 2 M2) fun r_3 => Option.bind (Td_field 4 v3_1 0 M2) fun r_4 => Option.bind (Td_field 4 v3_1 1 M2) fun r_5 => Option.bind (SP_cell r_3 r_4 r_5) fun r_6 => Option.bind (Td_field 4 v3_1 3 M2) fun r_7 => Option.bind (SP_put 3 r_6 r_7 M2) fun M3 => ag (v3_1 + 1, M3)
def Td_draw (v2 : Int32) (M : Mem) : Option Mem :=
  Option.bind (SP_wipe 3 M) fun M1 => LOOP (fun aq sq => Td_draw_L9 v2 (fun (M4 : Mem) => some M4) aq sq.1 sq.2) FU (0, M1)
def SP_lookAt (v1 : Int32) (M : Mem) : Option Mem :=
  Option.bind (Td_draw v1 M) fun M1 => some M1
def To_strength (v1 : Int32) (v2 : Int32) (v3 : Int32) (M : Mem) : Option Int32 :=
  nm ((((v1 * 7) + v2) * 7) + v3) fun (v4_1 : Int32) => if v4_1 < 0 then some 0 else if (Int32.ofNat 147) ≤ v4_1 then some 0 else if inb v4_1 147 then some (rd M 3 v4_1) else none
def SP_tie (v1 : Int32) (v2 : Int32) (v3 : Int32) (M : Mem) : Option (Int32 × Mem) :=
  Option.bind (SP_isKind v1) fun r_1 => jp (bnd2 (SP_refuse (-1) M) fun r_2 M1 => some (r_2, M1)) fun (k_1 : Option (Int32 × Mem)) => if r_1 = 0 then k_1 else Option.bind (To_lives v2 M) fun r_3 => if r_3 = 0 then k_1 else Option.bind (To_lives v3 M) fun r_4 => if r_4 = 0 then k_1 else if v2 = v3 then k_1 else Option.bind (SP_lookAt (M 0 12) M) fun M2 => Option.bind (To_strength v1 v2 v3 M2) fun r_5 => some (r_5, M2)
def To_tied (v1 : Int32) (v2 : Int32) (v3 : Int32) (M : Mem) : Option Int32 :=
  Option.bind (To_strength v1 v2 v3 M) fun r_1 => if r_1 ≤ 0 then some 0 else some 1
def To_tiesOf_L6 (v1_1 : Int32) (v2_1 : Int32) (v3_1 : Int32) (M : Mem) (kx : Int32 → Option Int32) (ag : (Int32 × Int32) → Option Int32) (v4_1 : Int32) (v5_1 : Int32) : Option Int32 :=
  if (M 1 2) ≤ v5_1 then kx v4_1 else if v3_1 = 0 then Option.bind (To_tied v1_1 v2_1 v5_1 M) fun r_1 => if r_1 = 0 then ag (v4_1, v5_1 + 1) else ag (v4_1 + 1, v5_1 + 1) else Option.bind (To_tied v1_1 v5_1 v2_1 M) fun r_2 => if r_2 = 0 then ag (v4_1, v5_1 + 1) else ag (v4_1 + 1, v5_1 + 1)
def To_tiesOf (v1 : Int32) (v2 : Int32) (v3 : Int32) (M : Mem) : Option Int32 :=
  LOOP (fun aq sq => To_tiesOf_L6 v1 v2 v3 M (fun (v4_2 : Int32) => some v4_2) aq sq.1 sq.2) FU (0, 0)
def SP_degree (v1 : Int32) (v2 : Int32) (v3 : Int32) (M : Mem) : Option (Int32 × Mem) :=
  Option.bind (SP_isKind v1) fun r_1 => jp (bnd2 (SP_refuse (-1) M) fun r_2 M1 => some (r_2, M1)) fun (k_1 : Option (Int32 × Mem)) => if r_1 = 0 then k_1 else Option.bind (To_lives v2 M) fun r_3 => if r_3 = 0 then k_1 else Option.bind (SP_lookAt (M 0 12) M) fun M2 => Option.bind (To_tiesOf v1 v2 v3 M2) fun r_4 => some (r_4, M2)
def Pa_of (k0 : Nat) (v1 : Int32) (M : Mem) : Option Int32 :=
  Option.bind (SP_at (k0 + 1) v1 M) fun r_1 => some r_1
def Pa_readNumber_L17 (k0 : Nat) (kx : Int32 → Mem → Option (Int32 × Mem)) (ag : (Int32 × Int32 × Mem) → Option (Int32 × Mem)) (v3_1 : Int32) (v4_2 : Int32) (M3 : Mem) : Option (Int32 × Mem) :=
  if v4_2 < 0 then kx v3_1 M3 else Option.bind (SP_put (k0 + 1) v4_2 (jrem v3_1 10) M3) fun M4 => nm (v3_1 / 10) fun (v3_2 : Int32) => ag (v3_2, v4_2 + (-1), M4)
def Pa_readNumber_L59 (k0 : Nat) (v2_2 : Int32) (kx : Mem → Option (Int32 × Mem)) (ag : (Int32 × Mem) → Option (Int32 × Mem)) (v4_3 : Int32) (M6 : Mem) : Option (Int32 × Mem) :=
  if v2_2 ≤ v4_3 then kx M6 else Option.bind (Pa_of k0 v4_3 M6) fun r_1 => if r_1 ≤ (M6 k0 2) then Option.bind (Pa_of k0 v4_3 M6) fun r_2 => nm (st2 M6 k0 2 (jmax (M6 k0 2) (r_2 + 1))) fun (M7 : Mem) => ag (v4_3 + 1, M7) else some (0, M6)
def Pa_readNumber (k0 : Nat) (v1 : Int32) (v2 : Int32) (M : Mem) : Option (Int32 × Mem) :=
  nm (st2 M k0 1 v2) fun (M1 : Mem) => nm (st2 M1 k0 2 0) fun (M2 : Mem) => nm (v2 - 1) fun (v4_1 : Int32) => LOOP (fun aq sq => Pa_readNumber_L17 k0 (fun (v3_3 : Int32) (M5 : Mem) => if v1 < 0 then some (0, M5) else if v3_3 = 0 then LOOP (fun aq sq => Pa_readNumber_L59 k0 v2 (fun (M8 : Mem) => some (1, M8)) aq sq.1 sq.2) FU (0, M5) else some (0, M5)) aq sq.1 sq.2.1 sq.2.2) FU (v1, v4_1, M2)
def SP_parting (v1 : Int32) (M : Mem) : Option (Int32 × Mem) :=
  bnd2 (Pa_readNumber 26 v1 (M 1 2) M) fun r_1 M1 => if r_1 = 0 then bnd2 (SP_refuse (-1) M1) fun r_2 M2 => some (r_2, M2) else some (M1 26 2, M1)
def SP_isSameness (v0 : Int32) : Option Int32 :=
  if v0 < 0 then some 0 else if 5 ≤ v0 then some 0 else some 1
def Pa_together (k0 : Nat) (v1 : Int32) (v2 : Int32) (M : Mem) : Option Int32 :=
  Option.bind (Pa_of k0 v1 M) fun r_1 => Option.bind (Pa_of k0 v2 M) fun r_2 => if r_1 = r_2 then some 1 else some 0
def Sa_sameView_L2 (v1_1 : Int32) (v2_1 : Int32) (M : Mem) (kx : Option Int32) (ag : Int32 → Option Int32) (v3_1 : Int32) : Option Int32 :=
  if 6 ≤ v3_1 then kx else Option.bind (SP_at 15 ((v1_1 * 6) + v3_1) M) fun r_1 => Option.bind (SP_at 15 ((v2_1 * 6) + v3_1) M) fun r_2 => if r_1 = r_2 then ag (v3_1 + 1) else some 0
def Sa_sameView (v1 : Int32) (v2 : Int32) (M : Mem) : Option Int32 :=
  LOOP (fun aq sq => Sa_sameView_L2 v1 v2 M (some 1) aq sq) FU 0
def Sa_match (v0 : Int32) (v1 : Int32) (v2 : Int32) : Option Int32 :=
  if v2 = 0 then jp (fun (s_1 : Int32) => jp (fun (s_2 : Int32) => if s_1 = s_2 then some 1 else some 0) fun (k_2 : Int32 → Option Int32) => if v1 ≤ 0 then k_2 0 else k_2 1) fun (k_1 : Int32 → Option Int32) => if v0 ≤ 0 then k_1 0 else k_1 1 else if v0 = v1 then some 1 else some 0
def Sa_swappable_L34 (v1_2 : Int32) (v2_2 : Int32) (v3_2 : Int32) (v4_2 : Int32) (M : Mem) (kx : Int32 → Option Int32) (ag : (Int32 × Int32) → Option Int32) (v5_1 : Int32) (v6_1 : Int32) : Option Int32 :=
  if (M 1 2) ≤ v6_1 then kx v5_1 else if v5_1 = 0 then kx v5_1 else if v6_1 = v1_2 then ag (1, v6_1 + 1) else if v6_1 = v2_2 then ag (1, v6_1 + 1) else Option.bind (To_strength v4_2 v1_2 v6_1 M) fun r_4 => Option.bind (To_strength v4_2 v2_2 v6_1 M) fun r_5 => Option.bind (Sa_match r_4 r_5 v3_2) fun r_6 => if r_6 = 0 then ag (0, v6_1 + 1) else Option.bind (To_strength v4_2 v6_1 v1_2 M) fun r_7 => Option.bind (To_strength v4_2 v6_1 v2_2 M) fun r_8 => Option.bind (Sa_match r_7 r_8 v3_2) fun r_9 => if r_9 = 0 then ag (0, v6_1 + 1) else ag (1, v6_1 + 1)
def Sa_swappable_L3 (v1_1 : Int32) (v2_1 : Int32) (v3_1 : Int32) (M : Mem) (kx : Option Int32) (ag : Int32 → Option Int32) (v4_1 : Int32) : Option Int32 :=
  if 3 ≤ v4_1 then kx else Option.bind (To_strength v4_1 v1_1 v2_1 M) fun r_1 => Option.bind (To_strength v4_1 v2_1 v1_1 M) fun r_2 => Option.bind (Sa_match r_1 r_2 v3_1) fun r_3 => LOOP (fun aq sq => Sa_swappable_L34 v1_1 v2_1 v3_1 v4_1 M (fun (v5_2 : Int32) => if v5_2 = 0 then some 0 else ag (v4_1 + 1)) aq sq.1 sq.2) FU (r_3, 0)
def Sa_swappable (v1 : Int32) (v2 : Int32) (v3 : Int32) (M : Mem) : Option Int32 :=
  LOOP (fun aq sq => Sa_swappable_L3 v1 v2 v3 M (some 1) aq sq) FU 0
def To_sameMark (v1 : Int32) (v2 : Int32) (M : Mem) : Option Int32 :=
  Option.bind (SP_at 2 v1 M) fun r_1 => Option.bind (SP_at 2 v2 M) fun r_2 => if r_1 = r_2 then some 1 else some 0
def Sa_alike (v2 : Int32) (v3 : Int32) (v4 : Int32) (M : Mem) : Option Int32 :=
  Option.bind (To_sameMark v3 v4 M) fun r_1 => if r_1 = 0 then some 0 else if v2 = 0 then some 1 else if v2 = 1 then Option.bind (Sa_swappable v3 v4 0 M) fun r_2 => some (bz r_2) else if v2 = 2 then Option.bind (Sa_swappable v3 v4 1 M) fun r_3 => some (bz r_3) else Option.bind (Sa_sameView v3 v4 M) fun r_4 => some (bz r_4)
def Sa_note (v1 : Int32) (v2 : Int32) (v3 : Int32) (M : Mem) : Option Mem :=
  nm (1 <<< ((3 * v2) &&& 31)) fun (v4_1 : Int32) => jp (fun (s_1 : Int32) => Option.bind (SP_put 15 v1 s_1 M) fun M1 => some M1) fun (k_1 : Int32 → Option Mem) => if v3 = 0 then Option.bind (SP_at 15 v1 M) fun r_1 => k_1 (r_1 ||| v4_1) else Option.bind (SP_at 15 v1 M) fun r_2 => k_1 (r_2 + v4_1)
def Sa_look_L46 (k2 : Nat) (v3_3 : Int32) (v4_3 : Int32) (v5_2 : Int32) (kx : Mem → Option Mem) (ag : (Int32 × Mem) → Option Mem) (v6_1 : Int32) (M4 : Mem) : Option Mem :=
  if (M4 1 2) ≤ v6_1 then kx M4 else Option.bind (To_tied v4_3 v5_2 v6_1 M4) fun r_1 => if r_1 = 0 then ag (v6_1 + 1, M4) else Option.bind (Pa_of k2 v6_1 M4) fun r_2 => jp (fun (s_1 : Int32) => Option.bind (Sa_note ((v5_2 * 6) + v4_3) r_2 s_1 M4) fun M5 => Option.bind (Pa_of k2 v5_2 M5) fun r_3 => jp (fun (s_2 : Int32) => Option.bind (Sa_note (((v6_1 * 6) + 3) + v4_3) r_3 s_2 M5) fun M6 => ag (v6_1 + 1, M6)) fun (k_2 : Int32 → Option Mem) => if v3_3 = 4 then k_2 1 else k_2 0) fun (k_1 : Int32 → Option Mem) => if v3_3 = 4 then k_1 1 else k_1 0
def Sa_look_L34 (k2 : Nat) (v3_2 : Int32) (v4_2 : Int32) (kx : Mem → Option Mem) (ag : (Int32 × Mem) → Option Mem) (v5_1 : Int32) (M3 : Mem) : Option Mem :=
  if (M3 1 2) ≤ v5_1 then kx M3 else LOOP (fun aq sq => Sa_look_L46 k2 v3_2 v4_2 v5_1 (fun (M7 : Mem) => ag (v5_1 + 1, M7)) aq sq.1 sq.2) FU (0, M3)
def Sa_look_L25 (k2 : Nat) (v3_1 : Int32) (kx : Mem → Option Mem) (ag : (Int32 × Mem) → Option Mem) (v4_1 : Int32) (M2 : Mem) : Option Mem :=
  if 3 ≤ v4_1 then kx M2 else LOOP (fun aq sq => Sa_look_L34 k2 v3_1 v4_1 (fun (M8 : Mem) => ag (v4_1 + 1, M8)) aq sq.1 sq.2) FU (0, M2)
def Sa_look (k2 : Nat) (v3 : Int32) (M : Mem) : Option Mem :=
  if v3 = 0 then some M else if v3 = 1 then some M else if v3 = 2 then some M else Option.bind (SP_wipe 15 M) fun M1 => LOOP (fun aq sq => Sa_look_L25 k2 v3 (fun (M9 : Mem) => some M9) aq sq.1 sq.2) FU (0, M1)
def Sa_firstUnlike_L25 (v3_2 : Int32) (v4_2 : Int32) (M1 : Mem) (kx : Option (Int32 × Mem)) (ag : Int32 → Option (Int32 × Mem)) (v5_2 : Int32) : Option (Int32 × Mem) :=
  if (M1 1 2) ≤ v5_2 then kx else Option.bind (Pa_together 26 v4_2 v5_2 M1) fun r_1 => if r_1 = 0 then ag (v5_2 + 1) else Option.bind (Sa_alike v3_2 v4_2 v5_2 M1) fun r_2 => if r_2 = 0 then some ((10 * v4_2) + v5_2, M1) else ag (v5_2 + 1)
def Sa_firstUnlike_L10 (v3_1 : Int32) (M1 : Mem) (kx : Option (Int32 × Mem)) (ag : Int32 → Option (Int32 × Mem)) (v4_1 : Int32) : Option (Int32 × Mem) :=
  if (M1 1 2) ≤ v4_1 then kx else nm (v4_1 + 1) fun (v5_1 : Int32) => LOOP (fun aq sq => Sa_firstUnlike_L25 v3_1 v4_1 M1 (ag (v4_1 + 1)) aq sq) FU v5_1
def Sa_firstUnlike (v3 : Int32) (M : Mem) : Option (Int32 × Mem) :=
  Option.bind (Sa_look 26 v3 M) fun M1 => LOOP (fun aq sq => Sa_firstUnlike_L10 v3 M1 (some ((-9), M1)) aq sq) FU 0
def SP_judge (v1 : Int32) (v2 : Int32) (M : Mem) : Option (Int32 × Mem) :=
  bnd2 (Pa_readNumber 26 v1 (M 1 2) M) fun r_1 M1 => jp (bnd2 (SP_refuse (-1) M1) fun r_2 M2 => some (r_2, M2)) fun (k_1 : Option (Int32 × Mem)) => if r_1 = 0 then k_1 else Option.bind (SP_isSameness v2) fun r_3 => if r_3 = 0 then k_1 else Option.bind (SP_lookAt (M1 0 12) M1) fun M3 => bnd2 (Sa_firstUnlike v2 M3) fun r_4 M4 => some (r_4, M4)
def Pa_number_L4 (k0 : Nat) (M : Mem) (kx : Int32 → Option Int32) (ag : (Int32 × Int32) → Option Int32) (v1_1 : Int32) (v2_1 : Int32) : Option Int32 :=
  if (M k0 1) ≤ v2_1 then kx v1_1 else Option.bind (Pa_of k0 v2_1 M) fun r_1 => nm ((v1_1 * 10) + r_1) fun (v1_2 : Int32) => ag (v1_2, v2_1 + 1)
def Pa_number (k0 : Nat) (M : Mem) : Option Int32 :=
  LOOP (fun aq sq => Pa_number_L4 k0 M (fun (v1_3 : Int32) => some v1_3) aq sq.1 sq.2) FU (0, 0)
def Pa_copy_L18 (k0 : Nat) (k1 : Nat) (kx : Mem → Option Mem) (ag : (Int32 × Mem) → Option Mem) (v2_1 : Int32) (M3 : Mem) : Option Mem :=
  if (M3 k0 1) ≤ v2_1 then kx M3 else Option.bind (Pa_of k1 v2_1 M3) fun r_1 => Option.bind (SP_put (k0 + 1) v2_1 r_1 M3) fun M4 => ag (v2_1 + 1, M4)
def Pa_copy (k0 : Nat) (k1 : Nat) (M : Mem) : Option Mem :=
  nm (st2 M k0 1 (M k1 1)) fun (M1 : Mem) => nm (st2 M1 k0 2 (M1 k1 2)) fun (M2 : Mem) => LOOP (fun aq sq => Pa_copy_L18 k0 k1 (fun (M5 : Mem) => some M5) aq sq.1 sq.2) FU (0, M2)
def Pa_begin (k0 : Nat) (v1 : Int32) (M : Mem) : Option Mem :=
  nm (st2 M k0 1 v1) fun (M1 : Mem) => nm (st2 M1 k0 2 0) fun (M2 : Mem) => some M2
def Pa_place (k0 : Nat) (v1 : Int32) (v2 : Int32) (M : Mem) : Option Mem :=
  if 0 ≤ v2 then Option.bind (Pa_of k0 v2 M) fun r_1 => Option.bind (SP_put (k0 + 1) v1 r_1 M) fun M1 => some M1 else Option.bind (SP_put (k0 + 1) v1 (M k0 2) M) fun M2 => nm (st2 M2 k0 2 ((M2 k0 2) + 1)) fun (M3 : Mem) => some M3
def Sa_split_L34 (k2 : Nat) (v4_2 : Int32) (v5_2 : Int32) (M3 : Mem) (kx : Int32 → Option Mem) (ag : (Int32 × Int32) → Option Mem) (v6_1 : Int32) (v7_1 : Int32) : Option Mem :=
  if v5_2 ≤ v7_1 then kx v6_1 else if 0 ≤ v6_1 then kx v6_1 else Option.bind (Pa_together k2 v5_2 v7_1 M3) fun r_1 => if r_1 = 0 then ag (v6_1, v7_1 + 1) else Option.bind (Sa_alike v4_2 v7_1 v5_2 M3) fun r_2 => if r_2 = 0 then ag (v6_1, v7_1 + 1) else ag (v7_1, v7_1 + 1)
def Sa_split_L19 (k2 : Nat) (k3 : Nat) (v4_1 : Int32) (kx : Mem → Option Mem) (ag : (Int32 × Mem) → Option Mem) (v5_1 : Int32) (M3 : Mem) : Option Mem :=
  if (M3 1 2) ≤ v5_1 then kx M3 else LOOP (fun aq sq => Sa_split_L34 k2 v4_1 v5_1 M3 (fun (v6_2 : Int32) => Option.bind (Pa_place k3 v5_1 v6_2 M3) fun M4 => ag (v5_1 + 1, M4)) aq sq.1 sq.2) FU ((-1), 0)
def Sa_split (k2 : Nat) (k3 : Nat) (v4 : Int32) (M : Mem) : Option Mem :=
  Option.bind (Sa_look k2 v4 M) fun M1 => Option.bind (Pa_begin k3 (M1 1 2) M1) fun M2 => LOOP (fun aq sq => Sa_split_L19 k2 k3 v4 (fun (M5 : Mem) => some M5) aq sq.1 sq.2) FU (0, M2)
def Sa_refine_L3 (k2 : Nat) (k3 : Nat) (v4_1 : Int32) (kx : Mem → Option Mem) (ag : (Int32 × Mem) → Option Mem) (v5_1 : Int32) (M1 : Mem) : Option Mem :=
  if 7 ≤ v5_1 then kx M1 else Option.bind (Sa_split k2 k3 v4_1 M1) fun M2 => if (M2 k3 2) = (M2 k2 2) then some M2 else Option.bind (Pa_copy k2 k3 M2) fun M3 => ag (v5_1 + 1, M3)
def Sa_refine (k2 : Nat) (k3 : Nat) (v4 : Int32) (M : Mem) : Option Mem :=
  LOOP (fun aq sq => Sa_refine_L3 k2 k3 v4 (fun (M4 : Mem) => some M4) aq sq.1 sq.2) FU (0, M)
def SP_coarsest (v1 : Int32) (v2 : Int32) (M : Mem) : Option (Int32 × Mem) :=
  bnd2 (Pa_readNumber 26 v1 (M 1 2) M) fun r_1 M1 => jp (bnd2 (SP_refuse (-1) M1) fun r_2 M2 => some (r_2, M2)) fun (k_1 : Option (Int32 × Mem)) => if r_1 = 0 then k_1 else Option.bind (SP_isSameness v2) fun r_3 => if r_3 = 0 then k_1 else Option.bind (SP_lookAt (M1 0 12) M1) fun M3 => Option.bind (Sa_refine 26 28 v2 M3) fun M4 => Option.bind (Pa_number 26 M4) fun r_4 => some (r_4, M4)
def Tu_begin (M : Mem) : Option Mem :=
  nm (st2 M 16 3 0) fun (M1 : Mem) => nm (st2 M1 16 4 0) fun (M2 : Mem) => Option.bind (SP_put 17 0 (-1) M2) fun M3 => some M3
def SP_holds (v0 : Int32) (v1 : Int32) : Option Int32 :=
  if ((v0 >>> (v1 &&& 31)) &&& 1) = 0 then some 0 else some 1
def Tu_keeps_L3 (v1_1 : Int32) (v2_1 : Int32) (v3_1 : Int32) (v4_1 : Int32) (M : Mem) (kx : Option Int32) (ag : Int32 → Option Int32) (v5_1 : Int32) : Option Int32 :=
  if 3 ≤ v5_1 then kx else Option.bind (To_strength v5_1 v1_1 v2_1 M) fun r_1 => Option.bind (To_strength v5_1 v3_1 v4_1 M) fun r_2 => if r_1 = r_2 then Option.bind (To_strength v5_1 v2_1 v1_1 M) fun r_3 => Option.bind (To_strength v5_1 v4_1 v3_1 M) fun r_4 => if r_3 = r_4 then ag (v5_1 + 1) else some 0 else some 0
def Tu_keeps (v1 : Int32) (v2 : Int32) (v3 : Int32) (v4 : Int32) (M : Mem) : Option Int32 :=
  LOOP (fun aq sq => Tu_keeps_L3 v1 v2 v3 v4 M (some 1) aq sq) FU 0
def Tu_keepsAhead_L16 (v2_1 : Int32) (M : Mem) (kx : Option Int32) (ag : Int32 → Option Int32) (v3_1 : Int32) : Option Int32 :=
  if (M 16 3) ≤ v3_1 then kx else Option.bind (SP_at 17 v3_1 M) fun r_2 => Option.bind (Tu_keeps (M 16 3) v3_1 v2_1 r_2 M) fun r_3 => if r_3 = 0 then some 0 else ag (v3_1 + 1)
def Tu_keepsAhead (v2 : Int32) (M : Mem) : Option Int32 :=
  Option.bind (To_sameMark (M 16 3) v2 M) fun r_1 => if r_1 = 0 then some 0 else LOOP (fun aq sq => Tu_keepsAhead_L16 v2 M (some 1) aq sq) FU 0
def Tu_lift (M : Mem) : Option (Int32 × Mem) :=
  Option.bind (SP_at 17 (M 16 3) M) fun r_1 => if r_1 < 0 then some (r_1 + 1, M) else nm (st2 M 16 4 ((M 16 4) &&& ((1 <<< (r_1 &&& 31)) ^^^ (-1)))) fun (M1 : Mem) => some (r_1 + 1, M1)
def Tu_nextKeeping_L6 (v2_1 : Int32) (v3_1 : Int32) (v4_1 : Int32) (M1 : Mem) (kx : Option (Int32 × Mem)) (ag : Int32 → Option (Int32 × Mem)) (v5_1 : Int32) : Option (Int32 × Mem) :=
  if (M1 1 2) ≤ v5_1 then kx else jp (fun (s_1 : Int32) => if s_1 = 0 then ag (v5_1 + 1) else Option.bind (SP_holds (M1 16 4) v5_1) fun r_2 => if r_2 = 0 then Option.bind (Tu_keepsAhead v5_1 M1) fun r_3 => if r_3 = 0 then ag (v5_1 + 1) else Option.bind (Tu_keeps (M1 16 3) v3_1 v5_1 v4_1 M1) fun r_4 => if r_4 = 0 then ag (v5_1 + 1) else some (v5_1, M1) else ag (v5_1 + 1)) fun (k_1 : Int32 → Option (Int32 × Mem)) => if v2_1 ≤ (M1 16 3) then jp (fun (s_2 : Int32) => jp (fun (s_3 : Int32) => if s_2 = s_3 then k_1 1 else k_1 0) fun (k_3 : Int32 → Option (Int32 × Mem)) => if v5_1 = v4_1 then k_3 1 else k_3 0) fun (k_2 : Int32 → Option (Int32 × Mem)) => if (M1 16 3) = v3_1 then k_2 1 else k_2 0 else if v5_1 = (M1 16 3) then k_1 1 else k_1 0
def Tu_nextKeeping (v2 : Int32) (v3 : Int32) (v4 : Int32) (M : Mem) : Option (Int32 × Mem) :=
  bnd2 (Tu_lift M) fun r_1 M1 => LOOP (fun aq sq => Tu_nextKeeping_L6 v2 v3 v4 M1 (some ((-1), M1)) aq sq) FU r_1
def Tu_step (v1 : Int32) (M : Mem) : Option Mem :=
  if 0 ≤ v1 then Option.bind (SP_put 17 (M 16 3) v1 M) fun M1 => nm (st2 M1 16 4 ((M1 16 4) ||| (1 <<< (v1 &&& 31)))) fun (M2 : Mem) => nm (st2 M2 16 3 ((M2 16 3) + 1)) fun (M3 : Mem) => Option.bind (SP_put 17 (M3 16 3) (-1) M3) fun M4 => some M4 else nm (st2 M 16 3 ((M 16 3) - 1)) fun (M5 : Mem) => some M5
def Tu_brings_L19 (v2_1 : Int32) (v3_1 : Int32) (v4_1 : Int32) (kx : Mem → Option (Int32 × Mem)) (ag : (Int32 × Mem) → Option (Int32 × Mem)) (v5_1 : Int32) (M2 : Mem) : Option (Int32 × Mem) :=
  if 1000000 ≤ v5_1 then kx M2 else if (M2 16 3) < 0 then kx M2 else if (M2 1 2) ≤ (M2 16 3) then kx M2 else bnd2 (Tu_nextKeeping v2_1 v3_1 v4_1 M2) fun r_2 M3 => Option.bind (Tu_step r_2 M3) fun M4 => ag (v5_1 + 1, M4)
def Tu_brings (v2 : Int32) (v3 : Int32) (v4 : Int32) (M : Mem) : Option (Int32 × Mem) :=
  Option.bind (To_sameMark v3 v4 M) fun r_1 => if r_1 = 0 then some (0, M) else Option.bind (Tu_begin M) fun M1 => LOOP (fun aq sq => Tu_brings_L19 v2 v3 v4 (fun (M5 : Mem) => if (M5 16 3) < (M5 1 2) then some (0, M5) else some (1, M5)) aq sq.1 sq.2) FU (0, M1)
def Tu_howMany_L18 (v3_2 : Int32) (kx : Int32 → Mem → Option (Int32 × Mem)) (ag : (Int32 × Int32 × Mem) → Option (Int32 × Mem)) (v4_1 : Int32) (v5_1 : Int32) (M2 : Mem) : Option (Int32 × Mem) :=
  if (M2 1 2) ≤ v5_1 then kx v4_1 M2 else bnd2 (Tu_brings v3_2 v3_2 v5_1 M2) fun r_1 M3 => if r_1 = 0 then ag (v4_1, v5_1 + 1, M3) else ag (v4_1 + 1, v5_1 + 1, M3)
def Tu_howMany_L4 (kx : Int32 → Mem → Option (Int32 × Mem)) (ag : (Int32 × Int32 × Mem) → Option (Int32 × Mem)) (v2_1 : Int32) (v3_1 : Int32) (M1 : Mem) : Option (Int32 × Mem) :=
  if (M1 1 2) ≤ v3_1 then kx v2_1 M1 else LOOP (fun aq sq => Tu_howMany_L18 v3_1 (fun (v4_2 : Int32) (M4 : Mem) => nm (v2_1 * v4_2) fun (v2_3 : Int32) => ag (v2_3, v3_1 + 1, M4)) aq sq.1 sq.2.1 sq.2.2) FU (0, v3_1, M1)
def Tu_howMany (M : Mem) : Option (Int32 × Mem) :=
  LOOP (fun aq sq => Tu_howMany_L4 (fun (v2_4 : Int32) (M5 : Mem) => some (v2_4, M5)) aq sq.1 sq.2.1 sq.2.2) FU (1, 0, M)
def SP_renamings (M : Mem) : Option (Int32 × Mem) :=
  Option.bind (SP_lookAt (M 0 12) M) fun M1 => bnd2 (Tu_howMany M1) fun r_1 M2 => some (r_1, M2)
def SP_moves (v1 : Int32) (v2 : Int32) (M : Mem) : Option (Int32 × Mem) :=
  Option.bind (To_lives v1 M) fun r_1 => jp (bnd2 (SP_refuse (-1) M) fun r_2 M1 => some (r_2, M1)) fun (k_1 : Option (Int32 × Mem)) => if r_1 = 0 then k_1 else Option.bind (To_lives v2 M) fun r_3 => if r_3 = 0 then k_1 else Option.bind (SP_lookAt (M 0 12) M) fun M2 => bnd2 (Tu_brings 0 v1 v2 M2) fun r_4 M3 => if r_4 = 0 then some (0, M3) else some (1, M3)
def Tu_partByOrbit_L24 (v3_2 : Int32) (kx : Int32 → Mem → Option Mem) (ag : (Int32 × Int32 × Mem) → Option Mem) (v4_1 : Int32) (v5_1 : Int32) (M3 : Mem) : Option Mem :=
  if v3_2 ≤ v5_1 then kx v4_1 M3 else if 0 ≤ v4_1 then kx v4_1 M3 else bnd2 (Tu_brings 0 v5_1 v3_2 M3) fun r_1 M4 => if r_1 = 0 then ag (v4_1, v5_1 + 1, M4) else ag (v5_1, v5_1 + 1, M4)
def Tu_partByOrbit_L10 (kx : Mem → Option Mem) (ag : (Int32 × Mem) → Option Mem) (v3_1 : Int32) (M2 : Mem) : Option Mem :=
  if (M2 1 2) ≤ v3_1 then kx M2 else LOOP (fun aq sq => Tu_partByOrbit_L24 v3_1 (fun (v4_2 : Int32) (M5 : Mem) => Option.bind (Pa_place 30 v3_1 v4_2 M5) fun M6 => ag (v3_1 + 1, M6)) aq sq.1 sq.2.1 sq.2.2) FU ((-1), 0, M2)
def Tu_partByOrbit (M : Mem) : Option Mem :=
  Option.bind (Pa_begin 30 (M 1 2) M) fun M1 => LOOP (fun aq sq => Tu_partByOrbit_L10 (fun (M7 : Mem) => some M7) aq sq.1 sq.2) FU (0, M1)
def SP_orbits (M : Mem) : Option (Int32 × Mem) :=
  Option.bind (SP_lookAt (M 0 12) M) fun M1 => Option.bind (Tu_partByOrbit M1) fun M2 => Option.bind (Pa_number 30 M2) fun r_1 => some (r_1, M2)
def Tu_behind (v0 : Int64) (v2 : Int32) : Option Int64 :=
  some (jrml ((v0 * 10) + v2.toInt64) 1000000007)
def Tu_bestAsNumber_L5 (M : Mem) (kx : Int64 → Option Int32) (ag : (Int64 × Int32) → Option Int32) (v2_1 : Int64) (v4_1 : Int32) : Option Int32 :=
  if (M 1 2) ≤ v4_1 then kx v2_1 else Option.bind (SP_at 18 v4_1 M) fun r_1 => Option.bind (SP_at 2 r_1 M) fun r_2 => Option.bind (Tu_behind v2_1 r_2) fun r_3 => ag (r_3, v4_1 + 1)
def Tu_bestAsNumber_L65 (v4_4 : Int32) (v5_2 : Int32) (M : Mem) (kx : Int64 → Option Int32) (ag : (Int64 × Int32) → Option Int32) (v2_5 : Int64) (v6_1 : Int32) : Option Int32 :=
  if (M 1 2) ≤ v6_1 then kx v2_5 else Option.bind (SP_at 18 v5_2 M) fun r_4 => Option.bind (SP_at 18 v6_1 M) fun r_5 => Option.bind (To_strength v4_4 r_4 r_5 M) fun r_6 => Option.bind (Tu_behind v2_5 r_6) fun r_7 => ag (r_7, v6_1 + 1)
def Tu_bestAsNumber_L53 (v4_3 : Int32) (M : Mem) (kx : Int64 → Option Int32) (ag : (Int64 × Int32) → Option Int32) (v2_4 : Int64) (v5_1 : Int32) : Option Int32 :=
  if (M 1 2) ≤ v5_1 then kx v2_4 else LOOP (fun aq sq => Tu_bestAsNumber_L65 v4_3 v5_1 M (fun (v2_6 : Int64) => ag (v2_6, v5_1 + 1)) aq sq.1 sq.2) FU (v2_4, 0)
def Tu_bestAsNumber_L44 (M : Mem) (kx : Int64 → Option Int32) (ag : (Int64 × Int32) → Option Int32) (v2_3 : Int64) (v4_2 : Int32) : Option Int32 :=
  if 3 ≤ v4_2 then kx v2_3 else LOOP (fun aq sq => Tu_bestAsNumber_L53 v4_2 M (fun (v2_7 : Int64) => ag (v2_7, v4_2 + 1)) aq sq.1 sq.2) FU (v2_3, 0)
def Tu_bestAsNumber (M : Mem) : Option Int32 :=
  LOOP (fun aq sq => Tu_bestAsNumber_L5 M (fun (v2_2 : Int64) => LOOP (fun aq sq => Tu_bestAsNumber_L44 M (fun (v2_8 : Int64) => some v2_8.toInt32) aq sq.1 sq.2) FU (v2_2, 0)) aq sq.1 sq.2) FU (0, 0)
def Tu_findTwins_L15 (v2_2 : Int32) (M1 : Mem) (kx : Int32 → Option Mem) (ag : (Int32 × Int32) → Option Mem) (v3_1 : Int32) (v4_1 : Int32) : Option Mem :=
  if v2_2 ≤ v4_1 then kx v3_1 else Option.bind (To_sameMark v2_2 v4_1 M1) fun r_1 => if r_1 = 0 then ag (v3_1, v4_1 + 1) else Option.bind (Sa_swappable v2_2 v4_1 1 M1) fun r_2 => if r_2 = 0 then ag (v3_1, v4_1 + 1) else nm (v3_1 ||| (1 <<< (v4_1 &&& 31))) fun (v3_2 : Int32) => ag (v3_2, v4_1 + 1)
def Tu_findTwins_L2 (kx : Mem → Option Mem) (ag : (Int32 × Mem) → Option Mem) (v2_1 : Int32) (M1 : Mem) : Option Mem :=
  if (M1 1 2) ≤ v2_1 then kx M1 else LOOP (fun aq sq => Tu_findTwins_L15 v2_1 M1 (fun (v3_3 : Int32) => Option.bind (SP_put 19 v2_1 v3_3 M1) fun M2 => ag (v2_1 + 1, M2)) aq sq.1 sq.2) FU (0, 0)
def Tu_findTwins (M : Mem) : Option Mem :=
  LOOP (fun aq sq => Tu_findTwins_L2 (fun (M3 : Mem) => some M3) aq sq.1 sq.2) FU (0, M)
def To_tiesOfKind_L4 (v1_1 : Int32) (M : Mem) (kx : Int32 → Option Int32) (ag : (Int32 × Int32) → Option Int32) (v2_1 : Int32) (v3_1 : Int32) : Option Int32 :=
  if (M 1 2) ≤ v3_1 then kx v2_1 else Option.bind (To_tiesOf v1_1 v3_1 0 M) fun r_1 => nm (v2_1 + r_1) fun (v2_2 : Int32) => ag (v2_2, v3_1 + 1)
def To_tiesOfKind (v1 : Int32) (M : Mem) : Option Int32 :=
  LOOP (fun aq sq => To_tiesOfKind_L4 v1 M (fun (v2_3 : Int32) => some v2_3) aq sq.1 sq.2) FU (0, 0)
def Tu_firstKind_L2 (M : Mem) (kx : Option Int32) (ag : Int32 → Option Int32) (v1_1 : Int32) : Option Int32 :=
  if 3 ≤ v1_1 then kx else Option.bind (To_tiesOfKind v1_1 M) fun r_1 => if r_1 ≤ 0 then ag (v1_1 + 1) else some v1_1
def Tu_firstKind (M : Mem) : Option Int32 :=
  LOOP (fun aq sq => Tu_firstKind_L2 M (some 0) aq sq) FU 0
def Tu_keepBest_L2 (kx : Mem → Option Mem) (ag : (Int32 × Mem) → Option Mem) (v2_1 : Int32) (M1 : Mem) : Option Mem :=
  if (M1 1 2) ≤ v2_1 then kx M1 else Option.bind (SP_at 17 v2_1 M1) fun r_1 => Option.bind (SP_put 18 v2_1 r_1 M1) fun M2 => ag (v2_1 + 1, M2)
def Tu_keepBest (M : Mem) : Option Mem :=
  LOOP (fun aq sq => Tu_keepBest_L2 (fun (M3 : Mem) => some M3) aq sq.1 sq.2) FU (0, M)
def Tu_lessThanBest_L22 (v3_3 : Int32) (v4_2 : Int32) (M : Mem) (kx : Option Int32) (ag : Int32 → Option Int32) (v5_1 : Int32) : Option Int32 :=
  if (M 1 2) ≤ v5_1 then kx else Option.bind (SP_at 17 v4_2 M) fun r_1 => Option.bind (SP_at 17 v5_1 M) fun r_2 => Option.bind (To_strength v3_3 r_1 r_2 M) fun r_3 => Option.bind (SP_at 18 v4_2 M) fun r_4 => Option.bind (SP_at 18 v5_1 M) fun r_5 => Option.bind (To_strength v3_3 r_4 r_5 M) fun r_6 => if r_3 = r_6 then ag (v5_1 + 1) else if r_6 ≤ r_3 then some 0 else some 1
def Tu_lessThanBest_L10 (v3_2 : Int32) (M : Mem) (kx : Option Int32) (ag : Int32 → Option Int32) (v4_1 : Int32) : Option Int32 :=
  if (M 1 2) ≤ v4_1 then kx else LOOP (fun aq sq => Tu_lessThanBest_L22 v3_2 v4_1 M (ag (v4_1 + 1)) aq sq) FU 0
def Tu_lessThanBest_L2 (M : Mem) (kx : Option Int32) (ag : Int32 → Option Int32) (v3_1 : Int32) : Option Int32 :=
  if 3 ≤ v3_1 then kx else LOOP (fun aq sq => Tu_lessThanBest_L10 v3_1 M (ag (v3_1 + 1)) aq sq) FU 0
def Tu_lessThanBest (v2 : Int32) (M : Mem) : Option Int32 :=
  LOOP (fun aq sq => Tu_lessThanBest_L2 M (some 0) aq sq) FU v2
def Tu_behindBest_L3 (v2_1 : Int32) (v3_1 : Int32) (M : Mem) (kx : Option Int32) (ag : Int32 → Option Int32) (v4_1 : Int32) : Option Int32 :=
  if (M 16 3) < v4_1 then kx else Option.bind (SP_at 17 0 M) fun r_1 => jp (fun (s_1 : Int32) => Option.bind (To_strength v2_1 r_1 s_1 M) fun r_2 => Option.bind (SP_at 18 0 M) fun r_3 => Option.bind (SP_at 18 v4_1 M) fun r_4 => Option.bind (To_strength v2_1 r_3 r_4 M) fun r_5 => if r_2 = r_5 then ag (v4_1 + 1) else if r_2 ≤ r_5 then some 0 else some 1) fun (k_1 : Int32 → Option Int32) => if v4_1 = (M 16 3) then k_1 v3_1 else Option.bind (SP_at 17 v4_1 M) fun r_6 => k_1 r_6
def Tu_behindBest (v2 : Int32) (v3 : Int32) (M : Mem) : Option Int32 :=
  LOOP (fun aq sq => Tu_behindBest_L3 v2 v3 M (some 0) aq sq) FU 1
def Tu_hasLeastMark_L2 (v2_1 : Int32) (M : Mem) (kx : Option Int32) (ag : Int32 → Option Int32) (v3_1 : Int32) : Option Int32 :=
  if (M 1 2) ≤ v3_1 then kx else Option.bind (SP_holds (M 16 4) v3_1) fun r_1 => if r_1 = 0 then Option.bind (SP_at 2 v3_1 M) fun r_2 => Option.bind (SP_at 2 v2_1 M) fun r_3 => if r_3 ≤ r_2 then ag (v3_1 + 1) else some 0 else ag (v3_1 + 1)
def Tu_hasLeastMark (v2 : Int32) (M : Mem) : Option Int32 :=
  LOOP (fun aq sq => Tu_hasLeastMark_L2 v2 M (some 1) aq sq) FU 0
def Tu_nextInRow_L6 (v2_1 : Int32) (v3_1 : Int32) (M1 : Mem) (kx : Option (Int32 × Mem)) (ag : Int32 → Option (Int32 × Mem)) (v4_1 : Int32) : Option (Int32 × Mem) :=
  if (M1 1 2) ≤ v4_1 then kx else Option.bind (SP_holds (M1 16 4) v4_1) fun r_2 => jp (fun (s_1 : Int32) => if s_1 = 0 then ag (v4_1 + 1) else Option.bind (Tu_hasLeastMark v4_1 M1) fun r_3 => if r_3 = 0 then ag (v4_1 + 1) else if v3_1 = 0 then some (v4_1, M1) else Option.bind (Tu_behindBest v2_1 v4_1 M1) fun r_4 => if r_4 = 0 then some (v4_1, M1) else ag (v4_1 + 1)) fun (k_1 : Int32 → Option (Int32 × Mem)) => if r_2 = 0 then Option.bind (SP_at 19 v4_1 M1) fun r_5 => if (r_5 &&& ((M1 16 4) ^^^ (-1))) = 0 then k_1 1 else k_1 0 else k_1 0
def Tu_nextInRow (v2 : Int32) (v3 : Int32) (M : Mem) : Option (Int32 × Mem) :=
  bnd2 (Tu_lift M) fun r_1 M1 => LOOP (fun aq sq => Tu_nextInRow_L6 v2 v3 M1 (some ((-1), M1)) aq sq) FU r_1
def Tu_leastRow_L19 (v2_1 : Int32) (kx : Mem → Option (Int32 × Mem)) (ag : (Int32 × Int32 × Mem) → Option (Int32 × Mem)) (v3_1 : Int32) (v4_1 : Int32) (M3 : Mem) : Option (Int32 × Mem) :=
  if 1000000 ≤ v4_1 then kx M3 else if (M3 16 3) < 0 then kx M3 else if (M3 1 2) ≤ (M3 16 3) then jp (fun (M4 : Mem) => nm (st2 M4 16 3 ((M4 16 3) - 1)) fun (M5 : Mem) => ag (1, v4_1 + 1, M5)) fun (k_1 : Mem → Option (Int32 × Mem)) => jp (Option.bind (Tu_keepBest M3) fun M6 => k_1 M6) fun (k_2 : Option (Int32 × Mem)) => if v3_1 = 0 then k_2 else Option.bind (Tu_lessThanBest v2_1 M3) fun r_2 => if r_2 = 0 then k_1 M3 else k_2 else bnd2 (Tu_nextInRow v2_1 v3_1 M3) fun r_3 M7 => Option.bind (Tu_step r_3 M7) fun M8 => ag (v3_1, v4_1 + 1, M8)
def Tu_leastRow (M : Mem) : Option (Int32 × Mem) :=
  Option.bind (Tu_findTwins M) fun M1 => Option.bind (Tu_firstKind M1) fun r_1 => Option.bind (Tu_begin M1) fun M2 => LOOP (fun aq sq => Tu_leastRow_L19 r_1 (fun (M9 : Mem) => Option.bind (Tu_bestAsNumber M9) fun r_4 => some (r_4, M9)) aq sq.1 sq.2.1 sq.2.2) FU (0, 0, M2)
def SP_form (M : Mem) : Option (Int32 × Mem) :=
  Option.bind (SP_lookAt (M 0 12) M) fun M1 => bnd2 (Tu_leastRow M1) fun r_1 M2 => some (r_1, M2)
def Pa_allInOne (k0 : Nat) (v1 : Int32) (M : Mem) : Option Mem :=
  nm (st2 M k0 1 v1) fun (M1 : Mem) => nm (st2 M1 k0 2 1) fun (M2 : Mem) => Option.bind (SP_wipe (k0 + 1) M2) fun M3 => some M3
def SP_addTo (k0 : Nat) (v1 : Int32) (v2 : Int32) (M : Mem) : Option Mem :=
  Option.bind (SP_at k0 v1 M) fun r_1 => Option.bind (SP_put k0 v1 (r_1 + v2) M) fun M1 => some M1
def Pa_topAhead_L4 (v1_1 : Int32) (M : Mem) (kx : Int32 → Option Int32) (ag : (Int32 × Int32) → Option Int32) (v2_1 : Int32) (v3_1 : Int32) : Option Int32 :=
  if v1_1 ≤ v3_1 then kx v2_1 else Option.bind (Pa_of 26 v3_1 M) fun r_1 => nm (jmax v2_1 r_1) fun (v2_2 : Int32) => ag (v2_2, v3_1 + 1)
def Pa_topAhead (v1 : Int32) (M : Mem) : Option Int32 :=
  LOOP (fun aq sq => Pa_topAhead_L4 v1 M (fun (v2_3 : Int32) => some v2_3) aq sq.1 sq.2) FU (0, 0)
def Pa_forward_L37 (kx : Mem → Option (Int32 × Mem)) (ag : (Int32 × Mem) → Option (Int32 × Mem)) (v2_2 : Int32) (M2 : Mem) : Option (Int32 × Mem) :=
  if (M2 26 1) ≤ v2_2 then kx M2 else Option.bind (SP_put 27 v2_2 0 M2) fun M3 => ag (v2_2 + 1, M3)
def Pa_forward_L7 (M : Mem) (kx : Option (Int32 × Mem)) (ag : Int32 → Option (Int32 × Mem)) (v1_2 : Int32) : Option (Int32 × Mem) :=
  if v1_2 ≤ 0 then kx else Option.bind (Pa_of 26 v1_2 M) fun r_1 => Option.bind (Pa_topAhead v1_2 M) fun r_2 => if r_2 < r_1 then ag (v1_2 + (-1)) else Option.bind (SP_addTo 27 v1_2 1 M) fun M1 => nm (v1_2 + 1) fun (v2_1 : Int32) => LOOP (fun aq sq => Pa_forward_L37 (fun (M4 : Mem) => Option.bind (Pa_topAhead (M4 26 1) M4) fun r_3 => nm (st2 M4 26 2 (r_3 + 1)) fun (M5 : Mem) => some (1, M5)) aq sq.1 sq.2) FU (v2_1, M1)
def Pa_forward (M : Mem) : Option (Int32 × Mem) :=
  nm ((M 26 1) - 1) fun (v1_1 : Int32) => LOOP (fun aq sq => Pa_forward_L7 M (some (0, M)) aq sq) FU v1_1
def SP_next_L52 (v1_1 : Int32) (v2_1 : Int32) (kx : Mem → Option (Int32 × Mem)) (ag : (Int32 × Int32 × Mem) → Option (Int32 × Mem)) (v3_1 : Int32) (v4_1 : Int32) (M4 : Mem) : Option (Int32 × Mem) :=
  if 877 ≤ v4_1 then kx M4 else if v3_1 = 0 then kx M4 else Option.bind (Pa_number 26 M4) fun r_3 => jp (fun (M5 : Mem) => bnd2 (Pa_forward M5) fun r_4 M6 => ag (r_4, v4_1 + 1, M6)) fun (k_1 : Mem → Option (Int32 × Mem)) => if r_3 ≤ v2_1 then k_1 M4 else bnd2 (Sa_firstUnlike v1_1 M4) fun r_5 M7 => if r_5 = (-9) then some (r_3, M7) else k_1 M7
def SP_next (v1 : Int32) (v2 : Int32) (M : Mem) : Option (Int32 × Mem) :=
  Option.bind (SP_isSameness v1) fun r_1 => if r_1 = 0 then bnd2 (SP_refuse (-1) M) fun r_2 M1 => some (r_2, M1) else if (-1) ≤ v2 then Option.bind (SP_lookAt (M 0 12) M) fun M2 => Option.bind (Pa_allInOne 26 (M2 1 2) M2) fun M3 => LOOP (fun aq sq => SP_next_L52 v1 v2 (fun (M8 : Mem) => some ((-9), M8)) aq sq.1 sq.2.1 sq.2.2) FU (1, 0, M3) else bnd2 (SP_refuse (-4) M) fun r_6 M9 => some (r_6, M9)
def SP_all_L42 (v1_1 : Int32) (kx : Int32 → Mem → Option (Int32 × Mem)) (ag : (Int32 × Int32 × Int32 × Mem) → Option (Int32 × Mem)) (v2_1 : Int32) (v3_1 : Int32) (v4_1 : Int32) (M4 : Mem) : Option (Int32 × Mem) :=
  if 877 ≤ v4_1 then kx v2_1 M4 else if v3_1 = 0 then kx v2_1 M4 else bnd2 (Sa_firstUnlike v1_1 M4) fun r_3 M5 => jp (fun (v2_2 : Int32) => bnd2 (Pa_forward M5) fun r_4 M6 => ag (v2_2, r_4, v4_1 + 1, M6)) fun (k_1 : Int32 → Option (Int32 × Mem)) => if r_3 = (-9) then k_1 (v2_1 + 1) else k_1 v2_1
def SP_all (v1 : Int32) (M : Mem) : Option (Int32 × Mem) :=
  Option.bind (SP_isSameness v1) fun r_1 => if r_1 = 0 then bnd2 (SP_refuse (-1) M) fun r_2 M1 => some (r_2, M1) else Option.bind (SP_lookAt (M 0 12) M) fun M2 => Option.bind (Pa_allInOne 26 (M2 1 2) M2) fun M3 => LOOP (fun aq sq => SP_all_L42 v1 (fun (v2_3 : Int32) (M7 : Mem) => some (v2_3, M7)) aq sq.1 sq.2.1 sq.2.2.1 sq.2.2.2) FU (0, 1, 0, M3)
def Pa_cross_L24 (k2 : Nat) (v3_2 : Int32) (M2 : Mem) (kx : Int32 → Option Mem) (ag : (Int32 × Int32) → Option Mem) (v4_1 : Int32) (v5_1 : Int32) : Option Mem :=
  if v3_2 ≤ v5_1 then kx v4_1 else if 0 ≤ v4_1 then kx v4_1 else Option.bind (Pa_together 26 v3_2 v5_1 M2) fun r_1 => if r_1 = 0 then ag (v4_1, v5_1 + 1) else Option.bind (Pa_together k2 v3_2 v5_1 M2) fun r_2 => if r_2 = 0 then ag (v4_1, v5_1 + 1) else ag (v5_1, v5_1 + 1)
def Pa_cross_L10 (k2 : Nat) (kx : Mem → Option Mem) (ag : (Int32 × Mem) → Option Mem) (v3_1 : Int32) (M2 : Mem) : Option Mem :=
  if (M2 30 1) ≤ v3_1 then kx M2 else LOOP (fun aq sq => Pa_cross_L24 k2 v3_1 M2 (fun (v4_2 : Int32) => Option.bind (Pa_place 30 v3_1 v4_2 M2) fun M3 => ag (v3_1 + 1, M3)) aq sq.1 sq.2) FU ((-1), 0)
def Pa_cross (k2 : Nat) (M : Mem) : Option Mem :=
  Option.bind (Pa_begin 30 (M 26 1) M) fun M1 => LOOP (fun aq sq => Pa_cross_L10 k2 (fun (M4 : Mem) => some M4) aq sq.1 sq.2) FU (0, M1)
def Pa_copyRenumbered (M : Mem) : Option Mem :=
  Option.bind (Pa_cross 26 M) fun M1 => some M1
def Pa_rename_L2 (v1_1 : Int32) (v2_1 : Int32) (kx : Mem → Option Mem) (ag : (Int32 × Mem) → Option Mem) (v3_1 : Int32) (M1 : Mem) : Option Mem :=
  if (M1 26 1) ≤ v3_1 then kx M1 else Option.bind (Pa_of 26 v3_1 M1) fun r_1 => if r_1 = v1_1 then Option.bind (SP_put 27 v3_1 v2_1 M1) fun M2 => ag (v3_1 + 1, M2) else ag (v3_1 + 1, M1)
def Pa_rename (v1 : Int32) (v2 : Int32) (M : Mem) : Option Mem :=
  LOOP (fun aq sq => Pa_rename_L2 v1 v2 (fun (M3 : Mem) => some M3) aq sq.1 sq.2) FU (0, M)
def Pa_mergeBy_L14 (v2_2 : Int32) (kx : Mem → Option Mem) (ag : (Int32 × Mem) → Option Mem) (v3_2 : Int32) (M2 : Mem) : Option Mem :=
  if (M2 26 1) ≤ v3_2 then kx M2 else Option.bind (Pa_together 28 v2_2 v3_2 M2) fun r_1 => if r_1 = 0 then ag (v3_2 + 1, M2) else Option.bind (Pa_of 26 v3_2 M2) fun r_2 => Option.bind (Pa_of 26 v2_2 M2) fun r_3 => Option.bind (Pa_rename r_2 r_3 M2) fun M3 => ag (v3_2 + 1, M3)
def Pa_mergeBy_L2 (kx : Mem → Option Mem) (ag : (Int32 × Mem) → Option Mem) (v2_1 : Int32) (M1 : Mem) : Option Mem :=
  if (M1 26 1) ≤ v2_1 then kx M1 else nm (v2_1 + 1) fun (v3_1 : Int32) => LOOP (fun aq sq => Pa_mergeBy_L14 v2_1 (fun (M4 : Mem) => ag (v2_1 + 1, M4)) aq sq.1 sq.2) FU (v3_1, M1)
def Pa_mergeBy (M : Mem) : Option Mem :=
  LOOP (fun aq sq => Pa_mergeBy_L2 (fun (M5 : Mem) => some M5) aq sq.1 sq.2) FU (0, M)
def SP_join (v1 : Int32) (v2 : Int32) (M : Mem) : Option (Int32 × Mem) :=
  bnd2 (Pa_readNumber 26 v1 (M 1 2) M) fun r_1 M1 => jp (fun (M2 : Mem) => bnd2 (SP_refuse (-1) M2) fun r_2 M3 => some (r_2, M3)) fun (k_1 : Mem → Option (Int32 × Mem)) => if r_1 = 0 then k_1 M1 else bnd2 (Pa_readNumber 28 v2 (M1 1 2) M1) fun r_3 M4 => if r_3 = 0 then k_1 M4 else Option.bind (Pa_mergeBy M4) fun M5 => Option.bind (Pa_copyRenumbered M5) fun M6 => Option.bind (Pa_number 30 M6) fun r_4 => some (r_4, M6)
def SP_meet (v1 : Int32) (v2 : Int32) (M : Mem) : Option (Int32 × Mem) :=
  bnd2 (Pa_readNumber 26 v1 (M 1 2) M) fun r_1 M1 => jp (fun (M2 : Mem) => bnd2 (SP_refuse (-1) M2) fun r_2 M3 => some (r_2, M3)) fun (k_1 : Mem → Option (Int32 × Mem)) => if r_1 = 0 then k_1 M1 else bnd2 (Pa_readNumber 28 v2 (M1 1 2) M1) fun r_3 M4 => if r_3 = 0 then k_1 M4 else Option.bind (Pa_cross 28 M4) fun M5 => Option.bind (Pa_number 30 M5) fun r_4 => some (r_4, M5)
def Bl_tiesTo_L6 (v3_1 : Int32) (v4_1 : Int32) (v5_1 : Int32) (M : Mem) (kx : Int32 → Option Int32) (ag : (Int32 × Int32) → Option Int32) (v6_1 : Int32) (v7_1 : Int32) : Option Int32 :=
  if (M 1 2) ≤ v7_1 then kx v6_1 else Option.bind (Pa_of 26 v7_1 M) fun r_1 => if r_1 = v4_1 then Option.bind (To_tied v5_1 v3_1 v7_1 M) fun r_2 => if r_2 = 0 then ag (v6_1, v7_1 + 1) else ag (v6_1 + 1, v7_1 + 1) else ag (v6_1, v7_1 + 1)
def Bl_tiesTo (v3 : Int32) (v4 : Int32) (v5 : Int32) (M : Mem) : Option Int32 :=
  LOOP (fun aq sq => Bl_tiesTo_L6 v3 v4 v5 M (fun (v6_2 : Int32) => some v6_2) aq sq.1 sq.2) FU (0, 0)
def Pa_sizeOf_L4 (v1_1 : Int32) (M : Mem) (kx : Int32 → Option Int32) (ag : (Int32 × Int32) → Option Int32) (v2_1 : Int32) (v3_1 : Int32) : Option Int32 :=
  if (M 26 1) ≤ v3_1 then kx v2_1 else Option.bind (Pa_of 26 v3_1 M) fun r_1 => if r_1 = v1_1 then ag (v2_1 + 1, v3_1 + 1) else ag (v2_1, v3_1 + 1)
def Pa_sizeOf (v1 : Int32) (M : Mem) : Option Int32 :=
  LOOP (fun aq sq => Pa_sizeOf_L4 v1 M (fun (v2_2 : Int32) => some v2_2) aq sq.1 sq.2) FU (0, 0)
def Bl_image_L30 (v3_1 : Int32) (v4_1 : Int32) (v5_1 : Int32) (M : Mem) (kx : Int32 → Int32 → Option Int32) (ag : (Int32 × Int32 × Int32) → Option Int32) (v7_1 : Int32) (v8_1 : Int32) (v9_1 : Int32) : Option Int32 :=
  if (M 1 2) ≤ v9_1 then kx v7_1 v8_1 else Option.bind (Pa_of 26 v9_1 M) fun r_2 => if r_2 = v3_1 then Option.bind (Bl_tiesTo v9_1 v4_1 v5_1 M) fun r_3 => nm (jmin v7_1 r_3) fun (v7_2 : Int32) => nm (jmax v8_1 r_3) fun (v8_2 : Int32) => ag (v7_2, v8_2, v9_1 + 1) else ag (v7_1, v8_1, v9_1 + 1)
def Bl_image (v3 : Int32) (v4 : Int32) (v5 : Int32) (M : Mem) : Option Int32 :=
  Option.bind (Pa_sizeOf v4 M) fun r_1 => jp (fun (s_1 : Int32) => nm (r_1 - s_1) fun (v6_1 : Int32) => LOOP (fun aq sq => Bl_image_L30 v3 v4 v5 M (fun (v7_3 : Int32) (v8_3 : Int32) => if v8_3 = 0 then some 0 else if v7_3 = v6_1 then some 1 else if v7_3 = v8_3 then some 2 else if v7_3 ≤ 0 then some 4 else some 3) aq sq.1 sq.2.1 sq.2.2) FU (v6_1, 0, 0)) fun (k_1 : Int32 → Option Int32) => if v3 = v4 then k_1 1 else k_1 0
def Pa_has (v1 : Int32) (M : Mem) : Option Int32 :=
  if v1 < 0 then some 0 else if (M 26 2) ≤ v1 then some 0 else some 1
def SP_picture (v1 : Int32) (v2 : Int32) (v3 : Int32) (v4 : Int32) (M : Mem) : Option (Int32 × Mem) :=
  bnd2 (Pa_readNumber 26 v1 (M 1 2) M) fun r_1 M1 => jp (bnd2 (SP_refuse (-1) M1) fun r_2 M2 => some (r_2, M2)) fun (k_1 : Option (Int32 × Mem)) => if r_1 = 0 then k_1 else Option.bind (Pa_has v2 M1) fun r_3 => if r_3 = 0 then k_1 else Option.bind (Pa_has v3 M1) fun r_4 => if r_4 = 0 then k_1 else Option.bind (SP_isKind v4) fun r_5 => if r_5 = 0 then k_1 else Option.bind (SP_lookAt (M1 0 12) M1) fun M3 => Option.bind (Bl_image v2 v3 v4 M3) fun r_6 => some (r_6, M3)
def Bl_misfit (v1 : Int32) (v2 : Int32) (v3 : Int32) (v4 : Int32) (M : Mem) : Option Int32 :=
  Option.bind (SP_cell v1 v2 v3) fun r_1 => Option.bind (SP_at 21 r_1 M) fun r_2 => nm (r_2 + v4) fun (v5_1 : Int32) => Option.bind (SP_at 22 v2 M) fun r_3 => Option.bind (SP_at 22 v3 M) fun r_4 => jp (fun (s_1 : Int32) => nm (r_3 * (r_4 - s_1)) fun (v6_1 : Int32) => some (jmin v5_1 (v6_1 - v5_1))) fun (k_1 : Int32 → Option Int32) => if v2 = v3 then k_1 1 else k_1 0
def Bl_tallyTies_L52 (v3_3 : Int32) (v4_2 : Int32) (kx : Mem → Option Mem) (ag : (Int32 × Mem) → Option Mem) (v5_1 : Int32) (M6 : Mem) : Option Mem :=
  if 3 ≤ v5_1 then kx M6 else Option.bind (To_tied v5_1 v3_3 v4_2 M6) fun r_2 => if r_2 = 0 then ag (v5_1 + 1, M6) else Option.bind (Pa_of 26 v3_3 M6) fun r_3 => Option.bind (Pa_of 26 v4_2 M6) fun r_4 => Option.bind (SP_cell v5_1 r_3 r_4) fun r_5 => Option.bind (SP_addTo 21 r_5 1 M6) fun M7 => ag (v5_1 + 1, M7)
def Bl_tallyTies_L40 (v3_2 : Int32) (kx : Mem → Option Mem) (ag : (Int32 × Mem) → Option Mem) (v4_1 : Int32) (M5 : Mem) : Option Mem :=
  if (M5 1 2) ≤ v4_1 then kx M5 else LOOP (fun aq sq => Bl_tallyTies_L52 v3_2 v4_1 (fun (M8 : Mem) => ag (v4_1 + 1, M8)) aq sq.1 sq.2) FU (0, M5)
def Bl_tallyTies_L16 (kx : Mem → Option Mem) (ag : (Int32 × Mem) → Option Mem) (v3_1 : Int32) (M3 : Mem) : Option Mem :=
  if (M3 1 2) ≤ v3_1 then kx M3 else Option.bind (Pa_of 26 v3_1 M3) fun r_1 => Option.bind (SP_addTo 22 r_1 1 M3) fun M4 => LOOP (fun aq sq => Bl_tallyTies_L40 v3_1 (fun (M9 : Mem) => ag (v3_1 + 1, M9)) aq sq.1 sq.2) FU (0, M4)
def Bl_tallyTies (M : Mem) : Option Mem :=
  Option.bind (SP_wipe 21 M) fun M1 => Option.bind (SP_wipe 22 M1) fun M2 => LOOP (fun aq sq => Bl_tallyTies_L16 (fun (M10 : Mem) => some M10) aq sq.1 sq.2) FU (0, M2)
def Bl_misfits_L32 (v4_3 : Int32) (v5_2 : Int32) (M1 : Mem) (kx : Int32 → Option (Int32 × Mem)) (ag : (Int32 × Int32) → Option (Int32 × Mem)) (v3_3 : Int32) (v6_1 : Int32) : Option (Int32 × Mem) :=
  if (M1 26 2) ≤ v6_1 then kx v3_3 else Option.bind (Bl_misfit v4_3 v5_2 v6_1 0 M1) fun r_1 => nm (v3_3 + r_1) fun (v3_4 : Int32) => ag (v3_4, v6_1 + 1)
def Bl_misfits_L20 (v4_2 : Int32) (M1 : Mem) (kx : Int32 → Option (Int32 × Mem)) (ag : (Int32 × Int32) → Option (Int32 × Mem)) (v3_2 : Int32) (v5_1 : Int32) : Option (Int32 × Mem) :=
  if (M1 26 2) ≤ v5_1 then kx v3_2 else LOOP (fun aq sq => Bl_misfits_L32 v4_2 v5_1 M1 (fun (v3_5 : Int32) => ag (v3_5, v5_1 + 1)) aq sq.1 sq.2) FU (v3_2, 0)
def Bl_misfits_L11 (M1 : Mem) (kx : Int32 → Option (Int32 × Mem)) (ag : (Int32 × Int32) → Option (Int32 × Mem)) (v3_1 : Int32) (v4_1 : Int32) : Option (Int32 × Mem) :=
  if 3 ≤ v4_1 then kx v3_1 else LOOP (fun aq sq => Bl_misfits_L20 v4_1 M1 (fun (v3_6 : Int32) => ag (v3_6, v4_1 + 1)) aq sq.1 sq.2) FU (v3_1, 0)
def Bl_misfits (M : Mem) : Option (Int32 × Mem) :=
  Option.bind (Bl_tallyTies M) fun M1 => LOOP (fun aq sq => Bl_misfits_L11 M1 (fun (v3_7 : Int32) => some (v3_7, M1)) aq sq.1 sq.2) FU (0, 0)
def SP_wrong (v1 : Int32) (M : Mem) : Option (Int32 × Mem) :=
  bnd2 (Pa_readNumber 26 v1 (M 1 2) M) fun r_1 M1 => if r_1 = 0 then bnd2 (SP_refuse (-1) M1) fun r_2 M2 => some (r_2, M2) else Option.bind (SP_lookAt (M1 0 12) M1) fun M3 => bnd2 (Bl_misfits M3) fun r_3 M4 => some (r_3, M4)
def Bl_bestWith_L23 (v3_1 : Int32) (kx : Int32 → Int32 → Int32 → Mem → Option (Int32 × Mem)) (ag : (Int32 × Int32 × Int32 × Int32 × Int32 × Mem) → Option (Int32 × Mem)) (v5_1 : Int32) (v6_1 : Int32) (v7_1 : Int32) (v8_1 : Int32) (v9_1 : Int32) (M2 : Mem) : Option (Int32 × Mem) :=
  if 877 ≤ v9_1 then kx v5_1 v6_1 v7_1 M2 else if v8_1 = 0 then kx v5_1 v6_1 v7_1 M2 else jp (fun (s_1 : Int32) (M3 : Mem) => jp (fun (v5_2 : Int32) (v6_2 : Int32) (v7_2 : Int32) => bnd2 (Pa_forward M3) fun r_1 M4 => ag (v5_2, v6_2, v7_2, r_1, v9_1 + 1, M4)) fun (k_2 : Int32 → Int32 → Int32 → Option (Int32 × Mem)) => jp (if s_1 < 0 then k_2 v5_1 v6_1 v7_1 else if v7_1 < 0 then k_2 v5_1 v6_1 s_1 else if v7_1 ≤ s_1 then k_2 v5_1 v6_1 v7_1 else k_2 v5_1 v6_1 s_1) fun (k_3 : Option (Int32 × Mem)) => if s_1 < 0 then k_3 else jp (Option.bind (Pa_number 26 M3) fun r_2 => k_2 r_2 s_1 v6_1) fun (k_4 : Option (Int32 × Mem)) => if v6_1 < 0 then k_4 else if v6_1 ≤ s_1 then k_3 else k_4) fun (k_1 : Int32 → Mem → Option (Int32 × Mem)) => if (M2 26 2) = v3_1 then bnd2 (Bl_misfits M2) fun r_3 M5 => k_1 r_3 M5 else k_1 (-1) M2
def Bl_bestWith (v3 : Int32) (v4 : Int32) (M : Mem) : Option (Int32 × Mem) :=
  Option.bind (Pa_allInOne 26 (M 1 2) M) fun M1 => LOOP (fun aq sq => Bl_bestWith_L23 v3 (fun (v5_3 : Int32) (v6_3 : Int32) (v7_3 : Int32) (M6 : Mem) => if v4 = 0 then some (v5_3, M6) else if v4 = 1 then some (v6_3, M6) else if 0 ≤ v7_3 then some (v7_3 - v6_3, M6) else some ((-9), M6)) aq sq.1 sq.2.1 sq.2.2.1 sq.2.2.2.1 sq.2.2.2.2.1 sq.2.2.2.2.2) FU (0, (-1), (-1), 1, 0, M1)
def SP_least (v1 : Int32) (v2 : Int32) (M : Mem) : Option (Int32 × Mem) :=
  if 1 ≤ v1 then if v1 ≤ (M 1 2) then jp (bnd2 (SP_refuse (-2) M) fun r_1 M1 => some (r_1, M1)) fun (k_1 : Option (Int32 × Mem)) => if v2 < 0 then k_1 else if v2 ≤ 2 then Option.bind (SP_lookAt (M 0 12) M) fun M2 => bnd2 (Bl_bestWith v1 v2 M2) fun r_2 M3 => some (r_2, M3) else k_1 else bnd2 (SP_refuse (-6) M) fun r_3 M4 => some (r_3, M4) else bnd2 (SP_refuse (-4) M) fun r_4 M5 => some (r_4, M5)
def Bl_gainOf (v3 : Int32) (v4 : Int32) (v5 : Int32) (M : Mem) : Option Int32 :=
  Option.bind (Pa_of 26 v3 M) fun r_1 => Option.bind (Pa_of 26 v4 M) fun r_2 => Option.bind (Bl_misfit v5 r_1 r_2 0 M) fun r_3 => Option.bind (To_tied v5 v3 v4 M) fun r_4 => jp (fun (s_1 : Int32) => Option.bind (Bl_misfit v5 r_1 r_2 s_1 M) fun r_5 => some (r_3 - r_5)) fun (k_1 : Int32 → Option Int32) => if r_4 = 0 then k_1 1 else k_1 (-1)
def Bl_worstTie_L40 (v6_3 : Int32) (v7_2 : Int32) (M1 : Mem) (kx : Int32 → Int32 → Option (Int32 × Mem)) (ag : (Int32 × Int32 × Int32) → Option (Int32 × Mem)) (v4_3 : Int32) (v5_3 : Int32) (v8_1 : Int32) : Option (Int32 × Mem) :=
  if v6_3 = v7_2 then kx v4_3 v5_3 else if 3 ≤ v8_1 then kx v4_3 v5_3 else Option.bind (Bl_gainOf v6_3 v7_2 v8_1 M1) fun r_1 => jp (nm (((100 * v6_3) + (10 * v7_2)) + v8_1) fun (v4_4 : Int32) => ag (v4_4, r_1, v8_1 + 1)) fun (k_1 : Option (Int32 × Mem)) => if v4_3 < 0 then k_1 else if r_1 ≤ v5_3 then ag (v4_3, v5_3, v8_1 + 1) else k_1
def Bl_worstTie_L28 (v6_2 : Int32) (M1 : Mem) (kx : Int32 → Int32 → Option (Int32 × Mem)) (ag : (Int32 × Int32 × Int32) → Option (Int32 × Mem)) (v4_2 : Int32) (v5_2 : Int32) (v7_1 : Int32) : Option (Int32 × Mem) :=
  if (M1 1 2) ≤ v7_1 then kx v4_2 v5_2 else LOOP (fun aq sq => Bl_worstTie_L40 v6_2 v7_1 M1 (fun (v4_5 : Int32) (v5_4 : Int32) => ag (v4_5, v5_4, v7_1 + 1)) aq sq.1 sq.2.1 sq.2.2) FU (v4_2, v5_2, 0)
def Bl_worstTie_L16 (M1 : Mem) (kx : Int32 → Int32 → Option (Int32 × Mem)) (ag : (Int32 × Int32 × Int32) → Option (Int32 × Mem)) (v4_1 : Int32) (v5_1 : Int32) (v6_1 : Int32) : Option (Int32 × Mem) :=
  if (M1 1 2) ≤ v6_1 then kx v4_1 v5_1 else LOOP (fun aq sq => Bl_worstTie_L28 v6_1 M1 (fun (v4_6 : Int32) (v5_5 : Int32) => ag (v4_6, v5_5, v6_1 + 1)) aq sq.1 sq.2.1 sq.2.2) FU (v4_1, v5_1, 0)
def Bl_worstTie (v3 : Int32) (M : Mem) : Option (Int32 × Mem) :=
  Option.bind (Bl_tallyTies M) fun M1 => LOOP (fun aq sq => Bl_worstTie_L16 M1 (fun (v4_7 : Int32) (v5_6 : Int32) => if v3 = 0 then some (v5_6, M1) else some (v4_7, M1)) aq sq.1 sq.2.1 sq.2.2) FU ((-9), 0, 0)
def SP_spoils (v1 : Int32) (v2 : Int32) (M : Mem) : Option (Int32 × Mem) :=
  bnd2 (Pa_readNumber 26 v1 (M 1 2) M) fun r_1 M1 => if r_1 = 0 then bnd2 (SP_refuse (-1) M1) fun r_2 M2 => some (1000000000 - r_2, M2) else jp (bnd2 (SP_refuse (-2) M1) fun r_3 M3 => some (1000000000 - r_3, M3)) fun (k_1 : Option (Int32 × Mem)) => if v2 < 0 then k_1 else if v2 ≤ 1 then if 2 ≤ (M1 1 2) then Option.bind (SP_lookAt (M1 0 12) M1) fun M4 => jp (fun (s_1 : Int32) => bnd2 (Bl_worstTie s_1 M4) fun r_4 M5 => some (r_4, M5)) fun (k_2 : Int32 → Option (Int32 × Mem)) => if v2 = 0 then k_2 1 else k_2 0 else if v2 = 0 then some ((-9), M1) else bnd2 (SP_refuse (-3) M1) fun r_5 M6 => some (1000000000 - r_5, M6) else k_1
def Nc_append (v1 : Int32) (v2 : Int32) (v3 : Int32) (M : Mem) : Option Mem :=
  Option.bind (SP_put 11 (M 10 3) v1 M) fun M1 => Option.bind (SP_put 12 (M1 10 3) v2 M1) fun M2 => jp (fun (s_1 : Int32) => Option.bind (SP_put 13 (M2 10 3) s_1 M2) fun M3 => nm (st2 M3 10 3 ((M3 10 3) + 1)) fun (M4 : Mem) => some M4) fun (k_1 : Int32 → Option Mem) => if v3 = 0 then k_1 0 else k_1 1
def SP_newcomer (v1 : Int32) (v2 : Int32) (v3 : Int32) (M : Mem) : Option (Int32 × Mem) :=
  Option.bind (SP_isKind v1) fun r_1 => jp (bnd2 (SP_refuse (-1) M) fun r_2 M1 => some (r_2, M1)) fun (k_1 : Option (Int32 × Mem)) => if r_1 = 0 then k_1 else Option.bind (To_lives v2 M) fun r_3 => if r_3 = 0 then k_1 else if (M 10 3) < 6 then Option.bind (Nc_append v1 v2 v3 M) fun M2 => some (M2 10 3, M2) else bnd2 (SP_refuse (-6) M) fun r_4 M3 => some (r_4, M3)
def Nc_hasSuchTie_L50 (v3_2 : Int32) (v4_2 : Int32) (v5_2 : Int32) (v6_2 : Int32) (v7_2 : Int32) (M : Mem) (kx : Option Int32) (ag : Int32 → Option Int32) (v8_1 : Int32) : Option Int32 :=
  if (M 1 2) ≤ v8_1 then kx else Option.bind (Pa_of 26 v7_2 M) fun r_4 => jp (fun (s_2 : Int32) => if s_2 = 0 then ag (v8_1 + 1) else if v6_2 = 0 then Option.bind (SP_at 11 v4_2 M) fun r_5 => Option.bind (To_tied r_5 v8_1 v7_2 M) fun r_6 => if r_6 = 0 then ag (v8_1 + 1) else some 1 else Option.bind (SP_at 11 v4_2 M) fun r_7 => Option.bind (To_tied r_7 v7_2 v8_1 M) fun r_8 => if r_8 = 0 then ag (v8_1 + 1) else some 1) fun (k_2 : Int32 → Option Int32) => if r_4 = v3_2 then Option.bind (Pa_of 26 v8_1 M) fun r_9 => if r_9 = v5_2 then k_2 1 else k_2 0 else k_2 0
def Nc_hasSuchTie_L38 (v3_1 : Int32) (v4_1 : Int32) (v5_1 : Int32) (v6_1 : Int32) (M : Mem) (kx : Option Int32) (ag : Int32 → Option Int32) (v7_1 : Int32) : Option Int32 :=
  if (M 1 2) ≤ v7_1 then kx else LOOP (fun aq sq => Nc_hasSuchTie_L50 v3_1 v4_1 v5_1 v6_1 v7_1 M (ag (v7_1 + 1)) aq sq) FU 0
def Nc_hasSuchTie (v3 : Int32) (v4 : Int32) (M : Mem) : Option Int32 :=
  Option.bind (SP_at 12 v4 M) fun r_1 => Option.bind (Pa_of 26 r_1 M) fun r_2 => Option.bind (SP_at 13 v4 M) fun r_3 => jp (fun (s_1 : Int32) => LOOP (fun aq sq => Nc_hasSuchTie_L38 v3 v4 r_2 s_1 M (some 0) aq sq) FU 0) fun (k_1 : Int32 → Option Int32) => if r_3 = 1 then k_1 1 else k_1 0
def Nc_suitingParts_L20 (v4_2 : Int32) (M : Mem) (kx : Int32 → Option Int32) (ag : (Int32 × Int32) → Option Int32) (v5_1 : Int32) (v6_1 : Int32) : Option Int32 :=
  if (M 10 3) ≤ v6_1 then kx v5_1 else if v5_1 = 0 then kx v5_1 else Option.bind (Nc_hasSuchTie v4_2 v6_1 M) fun r_1 => ag (r_1, v6_1 + 1)
def Nc_suitingParts_L5 (M : Mem) (kx : Int32 → Option Int32) (ag : (Int32 × Int32) → Option Int32) (v3_1 : Int32) (v4_1 : Int32) : Option Int32 :=
  if (M 26 2) ≤ v4_1 then kx v3_1 else LOOP (fun aq sq => Nc_suitingParts_L20 v4_1 M (fun (v5_2 : Int32) => if v5_2 = 0 then ag (v3_1, v4_1 + 1) else nm (v3_1 ||| (1 <<< (v4_1 &&& 31))) fun (v3_3 : Int32) => ag (v3_3, v4_1 + 1)) aq sq.1 sq.2) FU (1, 0)
def Nc_suitingParts (M : Mem) : Option Int32 :=
  LOOP (fun aq sq => Nc_suitingParts_L5 M (fun (v3_4 : Int32) => some v3_4) aq sq.1 sq.2) FU (0, 0)
def SP_fits (v1 : Int32) (M : Mem) : Option (Int32 × Mem) :=
  bnd2 (Pa_readNumber 26 v1 (M 1 2) M) fun r_1 M1 => if r_1 = 0 then bnd2 (SP_refuse (-1) M1) fun r_2 M2 => some (r_2, M2) else Option.bind (SP_lookAt (M1 0 12) M1) fun M3 => Option.bind (Nc_suitingParts M3) fun r_3 => some (r_3, M3)
def SP_gone (M : Mem) : Option (Int32 × Mem) :=
  nm (M 10 3) fun (v1_1 : Int32) => nm (st2 M 10 3 0) fun (M1 : Mem) => some (v1_1, M1)
def SP_partOfYear (v1 : Int32) (v2 : Int32) (k3 : Nat) (M : Mem) : Option Mem :=
  Option.bind (SP_lookAt v1 M) fun M1 => Option.bind (Pa_allInOne k3 (M1 1 2) M1) fun M2 => Option.bind (Sa_refine k3 30 v2 M2) fun M3 => some M3
def Ma_bestFor_L13 (v1_1 : Int32) (v2_1 : Int32) (v3_1 : Int32) (M : Mem) (kx : Int32 → Option Int32) (ag : (Int32 × Int32) → Option Int32) (v4_1 : Int32) (v5_1 : Int32) : Option Int32 :=
  if v3_1 ≤ v5_1 then kx v4_1 else Option.bind (SP_holds v2_1 v5_1) fun r_2 => if r_2 = 0 then ag (v4_1, v5_1 + 1) else Option.bind (SP_at 25 (v2_1 &&& ((1 <<< (v5_1 &&& 31)) ^^^ (-1))) M) fun r_3 => Option.bind (SP_at 24 ((v1_1 * 7) + v5_1) M) fun r_4 => nm (jmax v4_1 (r_3 + r_4)) fun (v4_2 : Int32) => ag (v4_2, v5_1 + 1)
def Ma_bestFor (v1 : Int32) (v2 : Int32) (v3 : Int32) (M : Mem) : Option Int32 :=
  Option.bind (SP_at 25 v2 M) fun r_1 => LOOP (fun aq sq => Ma_bestFor_L13 v1 v2 v3 M (fun (v4_3 : Int32) => some v4_3) aq sq.1 sq.2) FU (r_1, 0)
def Ma_keepers_L9 (kx : Mem → Option (Int32 × Mem)) (ag : (Int32 × Mem) → Option (Int32 × Mem)) (v3_1 : Int32) (M2 : Mem) : Option (Int32 × Mem) :=
  if (M2 26 1) ≤ v3_1 then kx M2 else Option.bind (Pa_of 26 v3_1 M2) fun r_1 => Option.bind (Pa_of 28 v3_1 M2) fun r_2 => Option.bind (SP_addTo 24 ((r_1 * 7) + r_2) 1 M2) fun M3 => ag (v3_1 + 1, M3)
def Ma_keepers_L76 (v4_2 : Int32) (kx : Mem → Option (Int32 × Mem)) (ag : (Int32 × Mem) → Option (Int32 × Mem)) (v5_1 : Int32) (M7 : Mem) : Option (Int32 × Mem) :=
  if v5_1 ≤ 0 then kx M7 else Option.bind (Ma_bestFor v4_2 v5_1 (M7 28 2) M7) fun r_3 => Option.bind (SP_put 25 v5_1 r_3 M7) fun M8 => ag (v5_1 + (-1), M8)
def Ma_keepers_L64 (v3_3 : Int32) (kx : Mem → Option (Int32 × Mem)) (ag : (Int32 × Mem) → Option (Int32 × Mem)) (v4_1 : Int32) (M6 : Mem) : Option (Int32 × Mem) :=
  if (M6 26 2) ≤ v4_1 then kx M6 else LOOP (fun aq sq => Ma_keepers_L76 v4_1 (fun (M9 : Mem) => ag (v4_1 + 1, M9)) aq sq.1 sq.2) FU (v3_3, M6)
def Ma_keepers (M : Mem) : Option (Int32 × Mem) :=
  Option.bind (SP_wipe 24 M) fun M1 => LOOP (fun aq sq => Ma_keepers_L9 (fun (M4 : Mem) => Option.bind (SP_wipe 25 M4) fun M5 => nm ((1 <<< ((M5 28 2) &&& 31)) - 1) fun (v3_2 : Int32) => LOOP (fun aq sq => Ma_keepers_L64 v3_2 (fun (M10 : Mem) => Option.bind (SP_at 25 v3_2 M10) fun r_4 => some (r_4, M10)) aq sq.1 sq.2) FU (0, M5)) aq sq.1 sq.2) FU (0, M1)
def SP_shift (v1 : Int32) (v2 : Int32) (v3 : Int32) (M : Mem) : Option (Int32 × Mem) :=
  Option.bind (SP_isSameness v3) fun r_1 => if r_1 = 0 then bnd2 (SP_refuse (-1) M) fun r_2 M1 => some (r_2, M1) else jp (bnd2 (SP_refuse (-4) M) fun r_3 M2 => some (r_3, M2)) fun (k_1 : Option (Int32 × Mem)) => if v1 < 0 then k_1 else if 0 ≤ v2 then jp (bnd2 (SP_refuse (-6) M) fun r_4 M3 => some (r_4, M3)) fun (k_2 : Option (Int32 × Mem)) => if 100 < v1 then k_2 else if v2 ≤ 100 then Option.bind (SP_partOfYear v1 v3 26 M) fun M4 => Option.bind (SP_partOfYear v2 v3 28 M4) fun M5 => bnd2 (Ma_keepers M5) fun r_5 M6 => some ((M5 1 2) - r_5, M6) else k_2 else k_1
def Td_nextChange_L5 (v1_1 : Int32) (M : Mem) (kx : Int32 → Option Int32) (ag : (Int32 × Int32) → Option Int32) (v2_1 : Int32) (v3_1 : Int32) : Option Int32 :=
  if (M 4 1) ≤ v3_1 then kx v2_1 else Option.bind (Td_field 4 v3_1 4 M) fun r_1 => jp (fun (v2_2 : Int32) => Option.bind (Td_field 4 v3_1 5 M) fun r_2 => if r_2 ≤ v1_1 then ag (v2_2, v3_1 + 1) else Option.bind (Td_field 4 v3_1 5 M) fun r_3 => nm (jmin v2_2 r_3) fun (v2_3 : Int32) => ag (v2_3, v3_1 + 1)) fun (k_1 : Int32 → Option Int32) => if r_1 ≤ v1_1 then k_1 v2_1 else Option.bind (Td_field 4 v3_1 4 M) fun r_4 => nm (jmin v2_1 r_4) fun (v2_4 : Int32) => k_1 v2_4
def Td_nextChange (v1 : Int32) (M : Mem) : Option Int32 :=
  LOOP (fun aq sq => Td_nextChange_L5 v1 M (fun (v2_5 : Int32) => some v2_5) aq sq.1 sq.2) FU (101, 0)
def SP_stays_L68 (v2_1 : Int32) (v3_1 : Int32) (kx : Int32 → Mem → Option (Int32 × Mem)) (ag : (Int32 × Int32 × Mem) → Option (Int32 × Mem)) (v4_1 : Int32) (v5_1 : Int32) (M3 : Mem) : Option (Int32 × Mem) :=
  if 100 < v5_1 then kx v4_1 M3 else if 100 < v4_1 then kx v4_1 M3 else Option.bind (SP_partOfYear v4_1 v2_1 26 M3) fun M4 => Option.bind (Pa_number 26 M4) fun r_5 => if r_5 = v3_1 then Option.bind (Td_nextChange v4_1 M4) fun r_6 => ag (r_6, v5_1 + 1, M4) else kx v4_1 M4
def SP_stays (v1 : Int32) (v2 : Int32) (M : Mem) : Option (Int32 × Mem) :=
  Option.bind (SP_isSameness v2) fun r_1 => if r_1 = 0 then bnd2 (SP_refuse (-1) M) fun r_2 M1 => some (r_2, M1) else if 0 ≤ v1 then if v1 ≤ 100 then Option.bind (SP_partOfYear v1 v2 26 M) fun M2 => Option.bind (Pa_number 26 M2) fun r_3 => Option.bind (Td_nextChange v1 M2) fun r_4 => LOOP (fun aq sq => SP_stays_L68 v2 r_3 (fun (v4_2 : Int32) (M5 : Mem) => some (v4_2 - v1, M5)) aq sq.1 sq.2.1 sq.2.2) FU (r_4, 0, M2) else bnd2 (SP_refuse (-6) M) fun r_7 M6 => some (r_7, M6) else bnd2 (SP_refuse (-4) M) fun r_8 M7 => some (r_8, M7)
def To_tiesInAll_L4 (M : Mem) (kx : Int32 → Option Int32) (ag : (Int32 × Int32) → Option Int32) (v1_1 : Int32) (v2_1 : Int32) : Option Int32 :=
  if 3 ≤ v2_1 then kx v1_1 else Option.bind (To_tiesOfKind v2_1 M) fun r_1 => nm (v1_1 + r_1) fun (v1_2 : Int32) => ag (v1_2, v2_1 + 1)
def To_tiesInAll (M : Mem) : Option Int32 :=
  LOOP (fun aq sq => To_tiesInAll_L4 M (fun (v1_3 : Int32) => some v1_3) aq sq.1 sq.2) FU (0, 0)
def SP_count (v1 : Int32) (M : Mem) : Option (Int32 × Mem) :=
  if v1 = 0 then some (M 1 2, M) else if v1 = 1 then some (M 4 1, M) else if v1 = 2 then Option.bind (SP_lookAt (M 0 12) M) fun M1 => Option.bind (To_tiesInAll M1) fun r_1 => some (r_1, M1) else if v1 = 3 then some (M 0 12, M) else if v1 = 4 then some (M 6 2, M) else if v1 = 5 then some (M 10 3, M) else if v1 < 11 then some ((-9), M) else if 16 < v1 then some ((-9), M) else Option.bind (SP_at 32 (v1 - 10) M) fun r_2 => some (r_2, M)
def MD_no (v1 : Int32) (M : Mem) : Option (Int32 × Mem) :=
  if inb (-v1) 7 then if inb (-v1) 7 then nm (wr M 34 (-v1) ((rd M 34 (-v1)) + 1)) fun (M1 : Mem) => some (v1, M1) else none else none
def MD_less (v1 : Int32) (M : Mem) : Option (Int32 × Mem) :=
  if inb (-v1) 7 then if inb (-v1) 7 then nm (wr M 34 (-v1) ((rd M 34 (-v1)) + 1)) fun (M1 : Mem) => some (1000000000 - v1, M1) else none else none
def MD_isIn (v0 : Int64) (v2 : Int64) (v4 : Int64) : Option Int32 :=
  if (lg_cmp v0 v2) < 0 then some 0 else if 0 < (lg_cmp v0 v4) then some 0 else some 1
def MD_out (v0 : Int64) (v2 : Int64) (v4 : Int64) : Option Int32 :=
  if 0 ≤ (lg_cmp v0 v2) then if (lg_cmp v0 v4) ≤ 0 then some 0 else some (-6) else some (-4)
def MD_isPerson (v1 : Int32) (M : Mem) : Option Int32 :=
  if v1 < 0 then some 0 else if (M 33 8) ≤ v1 then some 0 else some 1
def MD_isKind (v0 : Int32) : Option Int32 :=
  if v0 < 0 then some 0 else if 3 ≤ v0 then some 0 else some 1
def MD_isSameness (v0 : Int32) : Option Int32 :=
  if v0 < 0 then some 0 else if 5 ≤ v0 then some 0 else some 1
def MD_persons_L43 (kx : Mem → Option (Int32 × Mem)) (ag : (Int32 × Mem) → Option (Int32 × Mem)) (v4_1 : Int32) (M4 : Mem) : Option (Int32 × Mem) :=
  if 7 ≤ v4_1 then kx M4 else if inb v4_1 7 then nm (wr M4 35 v4_1 0) fun (M5 : Mem) => ag (v4_1 + 1, M5) else none
def MD_persons (v1 : Int32) (M : Mem) : Option (Int32 × Mem) :=
  Option.bind (MD_out v1.toInt64 1 7) fun r_1 => if r_1 = 0 then nm (M 33 8) fun (v3_1 : Int32) => nm (st2 M 33 8 v1) fun (M1 : Mem) => nm (st2 M1 33 9 0) fun (M2 : Mem) => nm (st2 M2 33 33 0) fun (M3 : Mem) => LOOP (fun aq sq => MD_persons_L43 (fun (M6 : Mem) => some (v3_1, M6)) aq sq.1 sq.2) FU (0, M3) else bnd2 (MD_no r_1 M) fun r_2 M7 => some (r_2, M7)
def MD_mark (v1 : Int32) (v2 : Int32) (M : Mem) : Option (Int32 × Mem) :=
  Option.bind (MD_isPerson v1 M) fun r_1 => if r_1 = 0 then bnd2 (MD_no (-1) M) fun r_2 M1 => some (r_2, M1) else Option.bind (MD_out v2.toInt64 0 3) fun r_3 => if r_3 = 0 then if inb v1 7 then nm (rd M 35 v1) fun (v4_1 : Int32) => if inb v1 7 then nm (wr M 35 v1 v2) fun (M2 : Mem) => some (v4_1, M2) else none else none else bnd2 (MD_no r_3 M) fun r_4 M3 => some (r_4, M3)
def MD_year (v1 : Int32) (M : Mem) : Option (Int32 × Mem) :=
  Option.bind (MD_out v1.toInt64 0 100) fun r_1 => if r_1 = 0 then nm (M 33 10) fun (v3_1 : Int32) => nm (st2 M 33 10 v1) fun (M1 : Mem) => some (v3_1, M1) else bnd2 (MD_no r_1 M) fun r_2 M2 => some (r_2, M2)
def MD_feed_L46 (v1_1 : Int32) (v2_1 : Int64) (kx : Mem → Option (Int32 × Mem)) (ag : (Int32 × Mem) → Option (Int32 × Mem)) (v5_1 : Int32) (M1 : Mem) : Option (Int32 × Mem) :=
  if v1_1 ≤ v5_1 then kx M1 else if inb (M1 33 12) 60 then nm (wr M1 42 (M1 33 12) (((v2_1 >>> ((8 * v5_1).toInt64 &&& 63)) &&& 255).toInt32)) fun (M2 : Mem) => nm (st2 M2 33 12 ((M2 33 12) + 1)) fun (M3 : Mem) => ag (v5_1 + 1, M3) else none
def MD_feed (v1 : Int32) (v2 : Int64) (M : Mem) : Option (Int32 × Mem) :=
  Option.bind (MD_out v1.toInt64 1 8) fun r_1 => jp (fun (v4_1 : Int32) => if v4_1 = 0 then LOOP (fun aq sq => MD_feed_L46 v1 v2 (fun (M4 : Mem) => some (M4 33 12, M4)) aq sq.1 sq.2) FU (0, M) else bnd2 (MD_no v4_1 M) fun r_2 M5 => some (r_2, M5)) fun (k_1 : Int32 → Option (Int32 × Mem)) => if r_1 = 0 then if ((M 33 12) + v1) ≤ 60 then k_1 r_1 else k_1 (-6) else k_1 r_1
def MD_sign (M : Mem) : Option Int32 :=
  if (M 33 12) ≤ (M 33 13) then some (-1) else if inb (M 33 13) 60 then some (rd M 42 (M 33 13)) else none
def MD_takes (v1 : Int32) (M : Mem) : Option (Int32 × Mem) :=
  Option.bind (MD_sign M) fun r_1 => if r_1 = v1 then nm (st2 M 33 13 ((M 33 13) + 1)) fun (M1 : Mem) => some (1, M1) else some (0, M)
def MD_takesIn (v1 : Int32) (v2 : Int32) (v3 : Int32) (M : Mem) : Option (Int32 × Mem) :=
  Option.bind (MD_sign M) fun r_1 => nm (r_1 - v1) fun (v4_1 : Int32) => Option.bind (MD_isIn v4_1.toInt64 v2.toInt64 v3.toInt64) fun r_2 => if r_2 = 0 then some ((-1), M) else nm (st2 M 33 13 ((M 33 13) + 1)) fun (M1 : Mem) => some (v4_1, M1)
def MD_years_L24 (kx : Int32 → Mem → Option (Int32 × Mem)) (ag : (Int32 × Int32 × Mem) → Option (Int32 × Mem)) (v3_1 : Int32) (v4_1 : Int32) (M2 : Mem) : Option (Int32 × Mem) :=
  if 3 ≤ v4_1 then kx v3_1 M2 else Option.bind (MD_sign M2) fun r_2 => Option.bind (MD_isIn r_2.toInt64 48 57) fun r_3 => if r_3 = 0 then kx v3_1 M2 else bnd2 (MD_takesIn 48 0 9 M2) fun r_4 M3 => nm ((10 * v3_1) + r_4) fun (v3_2 : Int32) => ag (v3_2, v4_1 + 1, M3)
def MD_years (v1 : Int32) (M : Mem) : Option (Int32 × Mem) :=
  nm (M 33 13) fun (v2_1 : Int32) => bnd2 (MD_takesIn 48 0 9 M) fun r_1 M1 => if 0 ≤ r_1 then LOOP (fun aq sq => MD_years_L24 (fun (v3_3 : Int32) (M4 : Mem) => if 100 < v3_3 then nm (st2 M4 33 13 v2_1) fun (M5 : Mem) => some ((-1), M5) else if v3_3 ≤ v1 then nm (st2 M4 33 13 v2_1) fun (M6 : Mem) => some ((-1), M6) else some (v3_3, M4)) aq sq.1 sq.2.1 sq.2.2) FU (r_1, 1, M1) else some ((-1), M1)
def MD_oneTie (M : Mem) : Option (Int32 × Mem) :=
  bnd2 (MD_takesIn 97 0 ((M 33 8) - 1) M) fun r_1 M1 => if r_1 < 0 then some (0, M1) else bnd2 (MD_takes 62 M1) fun r_2 M2 => if r_2 = 0 then some (0, M2) else Option.bind (MD_sign M2) fun r_3 => if r_3 = (97 + r_1) then some (0, M2) else bnd2 (MD_takesIn 97 0 ((M2 33 8) - 1) M2) fun r_4 M3 => if 0 ≤ r_4 then bnd2 (MD_takesIn 48 0 2 M3) fun r_5 M4 => if 0 ≤ r_5 then if inb (M4 33 14) 20 then nm (wr M4 46 (M4 33 14) 1) fun (M5 : Mem) => if inb (M5 33 14) 20 then nm (wr M5 47 (M5 33 14) 0) fun (M6 : Mem) => if inb (M6 33 14) 20 then nm (wr M6 48 (M6 33 14) 100) fun (M7 : Mem) => bnd2 (MD_takes 42 M7) fun r_6 M8 => jp (fun (M9 : Mem) => bnd2 (MD_takes 64 M9) fun r_7 M10 => jp (fun (M11 : Mem) => if inb (M11 33 14) 20 then nm (wr M11 43 (M11 33 14) r_1) fun (M12 : Mem) => if inb (M12 33 14) 20 then nm (wr M12 44 (M12 33 14) r_4) fun (M13 : Mem) => if inb (M13 33 14) 20 then nm (wr M13 45 (M13 33 14) r_5) fun (M14 : Mem) => nm (st2 M14 33 14 ((M14 33 14) + 1)) fun (M15 : Mem) => some (1, M15) else none else none else none) fun (k_2 : Mem → Option (Int32 × Mem)) => if r_7 = 0 then k_2 M10 else bnd2 (MD_years (-1) M10) fun r_8 M16 => if inb (M10 33 14) 20 then nm (wr M16 47 (M10 33 14) r_8) fun (M17 : Mem) => if inb (M17 33 14) 20 then if (rd M17 47 (M17 33 14)) < 0 then some (0, M17) else bnd2 (MD_takes 45 M17) fun r_9 M18 => if r_9 = 0 then some (0, M18) else if inb (M18 33 14) 20 then bnd2 (MD_years (rd M18 47 (M18 33 14)) M18) fun r_10 M19 => if inb (M18 33 14) 20 then nm (wr M19 48 (M18 33 14) r_10) fun (M20 : Mem) => if inb (M20 33 14) 20 then if 0 ≤ (rd M20 48 (M20 33 14)) then k_2 M20 else some (0, M20) else none else none else none else none else none) fun (k_1 : Mem → Option (Int32 × Mem)) => if r_6 = 0 then k_1 M8 else bnd2 (MD_takesIn 48 1 9 M8) fun r_11 M21 => if inb (M8 33 14) 20 then nm (wr M21 46 (M8 33 14) r_11) fun (M22 : Mem) => if inb (M22 33 14) 20 then if 0 ≤ (rd M22 46 (M22 33 14)) then k_1 M22 else some (0, M22) else none else none else none else none else none else some (0, M4) else some (0, M3)
def MD_reads_L19 (kx : Mem → Option (Int32 × Mem)) (ag : Mem → Option (Int32 × Mem)) (M4 : Mem) : Option (Int32 × Mem) :=
  bnd2 (MD_takes 59 M4) fun r_2 M5 => if r_2 = 0 then if (M5 33 13) = (M5 33 12) then some (1, M5) else some (0, M5) else bnd2 (MD_oneTie M5) fun r_3 M6 => if r_3 = 0 then kx M6 else ag M6
def MD_reads (M : Mem) : Option (Int32 × Mem) :=
  nm (st2 M 33 13 0) fun (M1 : Mem) => nm (st2 M1 33 14 0) fun (M2 : Mem) => bnd2 (MD_oneTie M2) fun r_1 M3 => if r_1 = 0 then some (0, M3) else LOOP (fun aq sq => MD_reads_L19 (fun (M7 : Mem) => some (0, M7)) aq sq) FU M3
def MD_ties_L45 (kx : Mem → Option (Int32 × Mem)) (ag : (Int32 × Mem) → Option (Int32 × Mem)) (v2_1 : Int32) (M3 : Mem) : Option (Int32 × Mem) :=
  if (M3 33 14) ≤ v2_1 then kx M3 else if inb v2_1 20 then if inb (M3 33 9) 60 then nm (wr M3 36 (M3 33 9) (rd M3 43 v2_1)) fun (M4 : Mem) => if inb v2_1 20 then if inb (M4 33 9) 60 then nm (wr M4 37 (M4 33 9) (rd M4 44 v2_1)) fun (M5 : Mem) => if inb v2_1 20 then if inb (M5 33 9) 60 then nm (wr M5 38 (M5 33 9) (rd M5 45 v2_1)) fun (M6 : Mem) => if inb v2_1 20 then if inb (M6 33 9) 60 then nm (wr M6 39 (M6 33 9) (rd M6 46 v2_1)) fun (M7 : Mem) => if inb v2_1 20 then if inb (M7 33 9) 60 then nm (wr M7 40 (M7 33 9) (rd M7 47 v2_1)) fun (M8 : Mem) => if inb v2_1 20 then if inb (M8 33 9) 60 then nm (wr M8 41 (M8 33 9) (rd M8 48 v2_1)) fun (M9 : Mem) => nm (st2 M9 33 9 ((M9 33 9) + 1)) fun (M10 : Mem) => ag (v2_1 + 1, M10) else none else none else none else none else none else none else none else none else none else none else none else none
def MD_ties (M : Mem) : Option (Int32 × Mem) :=
  bnd2 (MD_reads M) fun r_1 M1 => nm (st2 M1 33 12 0) fun (M2 : Mem) => if r_1 = 0 then some ((-20) - (M2 33 13), M2) else if ((M2 33 9) + (M2 33 14)) ≤ 60 then LOOP (fun aq sq => MD_ties_L45 (fun (M11 : Mem) => some (M11 33 9, M11)) aq sq.1 sq.2) FU (0, M2) else bnd2 (MD_no (-6) M2) fun r_2 M12 => some (r_2, M12)
def MD_untie_L24 (kx : Mem → Option (Int32 × Mem)) (ag : (Int32 × Mem) → Option (Int32 × Mem)) (v2_1 : Int32) (M2 : Mem) : Option (Int32 × Mem) :=
  if ((M2 33 9) - 1) ≤ v2_1 then kx M2 else if inb (v2_1 + 1) 60 then if inb v2_1 60 then nm (wr M2 36 v2_1 (rd M2 36 (v2_1 + 1))) fun (M3 : Mem) => if inb (v2_1 + 1) 60 then if inb v2_1 60 then nm (wr M3 37 v2_1 (rd M3 37 (v2_1 + 1))) fun (M4 : Mem) => if inb (v2_1 + 1) 60 then if inb v2_1 60 then nm (wr M4 38 v2_1 (rd M4 38 (v2_1 + 1))) fun (M5 : Mem) => if inb (v2_1 + 1) 60 then if inb v2_1 60 then nm (wr M5 39 v2_1 (rd M5 39 (v2_1 + 1))) fun (M6 : Mem) => if inb (v2_1 + 1) 60 then if inb v2_1 60 then nm (wr M6 40 v2_1 (rd M6 40 (v2_1 + 1))) fun (M7 : Mem) => if inb (v2_1 + 1) 60 then if inb v2_1 60 then nm (wr M7 41 v2_1 (rd M7 41 (v2_1 + 1))) fun (M8 : Mem) => ag (v2_1 + 1, M8) else none else none else none else none else none else none else none else none else none else none else none else none
def MD_untie (v1 : Int32) (M : Mem) : Option (Int32 × Mem) :=
  Option.bind (MD_isIn v1.toInt64 0 (((M 33 9) - 1).toInt64)) fun r_1 => if r_1 = 0 then bnd2 (MD_no (-1) M) fun r_2 M1 => some (r_2, M1) else LOOP (fun aq sq => MD_untie_L24 (fun (M9 : Mem) => nm (st2 M9 33 9 ((M9 33 9) - 1)) fun (M10 : Mem) => some (1, M10)) aq sq.1 sq.2) FU (v1, M)
def MD_findTies_L2 (kx : Mem → Option Mem) (ag : (Int32 × Mem) → Option Mem) (v2_1 : Int32) (M1 : Mem) : Option Mem :=
  if 147 ≤ v2_1 then kx M1 else if inb v2_1 147 then nm (wr M1 49 v2_1 0) fun (M2 : Mem) => ag (v2_1 + 1, M2) else none
def MD_findTies_L24 (v1_2 : Int32) (kx : Mem → Option Mem) (ag : (Int32 × Mem) → Option Mem) (v2_2 : Int32) (M4 : Mem) : Option Mem :=
  if (M4 33 9) ≤ v2_2 then kx M4 else if inb v2_2 60 then if v1_2 < (rd M4 40 v2_2) then ag (v2_2 + 1, M4) else if inb v2_2 60 then if (rd M4 41 v2_2) ≤ v1_2 then ag (v2_2 + 1, M4) else if inb v2_2 60 then if inb v2_2 60 then if inb v2_2 60 then if inb v2_2 60 then if inb (((49 * (rd M4 38 v2_2)) + (7 * (rd M4 36 v2_2))) + (rd M4 37 v2_2)) 147 then nm (wr M4 49 (((49 * (rd M4 38 v2_2)) + (7 * (rd M4 36 v2_2))) + (rd M4 37 v2_2)) (rd M4 39 v2_2)) fun (M5 : Mem) => ag (v2_2 + 1, M5) else none else none else none else none else none else none else none
def MD_findTies (v1 : Int32) (M : Mem) : Option Mem :=
  LOOP (fun aq sq => MD_findTies_L2 (fun (M3 : Mem) => LOOP (fun aq sq => MD_findTies_L24 v1 (fun (M6 : Mem) => some M6) aq sq.1 sq.2) FU (0, M3)) aq sq.1 sq.2) FU (0, M)
def MD_strong (v1 : Int32) (v2 : Int32) (v3 : Int32) (M : Mem) : Option Int32 :=
  if inb (((49 * v1) + (7 * v2)) + v3) 147 then some (rd M 49 (((49 * v1) + (7 * v2)) + v3)) else none
def MD_has (v1 : Int32) (v2 : Int32) (v3 : Int32) (M : Mem) : Option Int32 :=
  Option.bind (MD_strong v1 v2 v3 M) fun r_1 => if r_1 ≤ 0 then some 0 else some 1
def MD_tie (v1 : Int32) (v2 : Int32) (v3 : Int32) (M : Mem) : Option (Int32 × Mem) :=
  Option.bind (MD_isKind v1) fun r_1 => jp (bnd2 (MD_no (-1) M) fun r_2 M1 => some (r_2, M1)) fun (k_1 : Option (Int32 × Mem)) => if r_1 = 0 then k_1 else Option.bind (MD_isPerson v2 M) fun r_3 => if r_3 = 0 then k_1 else Option.bind (MD_isPerson v3 M) fun r_4 => if r_4 = 0 then k_1 else if v2 = v3 then k_1 else Option.bind (MD_findTies (M 33 10) M) fun M2 => Option.bind (MD_strong v1 v2 v3 M2) fun r_5 => some (r_5, M2)
def MD_degree_L35 (v1_1 : Int32) (v2_1 : Int32) (v3_1 : Int32) (M2 : Mem) (kx : Int32 → Option (Int32 × Mem)) (ag : (Int32 × Int32) → Option (Int32 × Mem)) (v4_1 : Int32) (v5_1 : Int32) : Option (Int32 × Mem) :=
  if (M2 33 8) ≤ v5_1 then kx v4_1 else if v3_1 = 0 then Option.bind (MD_has v1_1 v2_1 v5_1 M2) fun r_4 => if r_4 = 0 then nm (v4_1 + 0) fun (v4_2 : Int32) => ag (v4_2, v5_1 + 1) else nm (v4_1 + 1) fun (v4_3 : Int32) => ag (v4_3, v5_1 + 1) else Option.bind (MD_has v1_1 v5_1 v2_1 M2) fun r_5 => if r_5 = 0 then nm (v4_1 + 0) fun (v4_4 : Int32) => ag (v4_4, v5_1 + 1) else nm (v4_1 + 1) fun (v4_5 : Int32) => ag (v4_5, v5_1 + 1)
def MD_degree (v1 : Int32) (v2 : Int32) (v3 : Int32) (M : Mem) : Option (Int32 × Mem) :=
  Option.bind (MD_isKind v1) fun r_1 => jp (bnd2 (MD_no (-1) M) fun r_2 M1 => some (r_2, M1)) fun (k_1 : Option (Int32 × Mem)) => if r_1 = 0 then k_1 else Option.bind (MD_isPerson v2 M) fun r_3 => if r_3 = 0 then k_1 else Option.bind (MD_findTies (M 33 10) M) fun M2 => LOOP (fun aq sq => MD_degree_L35 v1 v2 v3 M2 (fun (v4_6 : Int32) => some (v4_6, M2)) aq sq.1 sq.2) FU (0, 0)
def MD_opens_L16 (k2 : Nat) (kx : Int32 → Mem → Option (Int32 × Mem)) (ag : (Int32 × Int32 × Mem) → Option (Int32 × Mem)) (v3_1 : Int32) (v4_2 : Int32) (M1 : Mem) : Option (Int32 × Mem) :=
  if v4_2 < 0 then kx v3_1 M1 else if inb v4_2 (aln k2) then nm (wr M1 k2 v4_2 (jrem v3_1 10)) fun (M2 : Mem) => nm (v3_1 / 10) fun (v3_2 : Int32) => ag (v3_2, v4_2 + (-1), M2) else none
def MD_opens_L52 (k2 : Nat) (M3 : Mem) (kx : Int32 → Option (Int32 × Mem)) (ag : (Int32 × Int32) → Option (Int32 × Mem)) (v4_3 : Int32) (v5_1 : Int32) : Option (Int32 × Mem) :=
  if (M3 33 8) ≤ v5_1 then kx v4_3 else if inb v5_1 (aln k2) then if (rd M3 k2 v5_1) ≤ v4_3 then if inb v5_1 (aln k2) then if (rd M3 k2 v5_1) = v4_3 then ag (v4_3 + 1, v5_1 + 1) else ag (v4_3, v5_1 + 1) else none else some ((-1), M3) else none
def MD_opens (v1 : Int32) (k2 : Nat) (M : Mem) : Option (Int32 × Mem) :=
  if 0 ≤ v1 then nm ((M 33 8) - 1) fun (v4_1 : Int32) => LOOP (fun aq sq => MD_opens_L16 k2 (fun (v3_3 : Int32) (M3 : Mem) => if v3_3 = 0 then LOOP (fun aq sq => MD_opens_L52 k2 M3 (fun (v4_4 : Int32) => some (v4_4, M3)) aq sq.1 sq.2) FU (0, 0) else some ((-1), M3)) aq sq.1 sq.2.1 sq.2.2) FU (v1, v4_1, M) else some ((-1), M)
def MD_number_L26 (k1 : Nat) (v4_2 : Int32) (M1 : Mem) (kx : Int32 → Option (Int32 × Mem)) (ag : (Int32 × Int32) → Option (Int32 × Mem)) (v5_1 : Int32) (v6_2 : Int32) : Option (Int32 × Mem) :=
  if v6_2 < 0 then kx v5_1 else if inb v6_2 (aln k1) then if inb v4_2 (aln k1) then if (rd M1 k1 v6_2) = (rd M1 k1 v4_2) then ag (v6_2, v6_2 + (-1)) else ag (v5_1, v6_2 + (-1)) else none else none
def MD_number_L7 (k1 : Nat) (kx : Int32 → Mem → Option (Int32 × Mem)) (ag : (Int32 × Int32 × Int32 × Mem) → Option (Int32 × Mem)) (v2_1 : Int32) (v3_1 : Int32) (v4_1 : Int32) (M1 : Mem) : Option (Int32 × Mem) :=
  if (M1 33 8) ≤ v4_1 then kx v2_1 M1 else nm (v4_1 - 1) fun (v6_1 : Int32) => LOOP (fun aq sq => MD_number_L26 k1 v4_1 M1 (fun (v5_2 : Int32) => jp (fun (v3_3 : Int32) (M2 : Mem) => if inb v4_1 7 then nm ((10 * v2_1) + (rd M2 53 v4_1)) fun (v2_3 : Int32) => ag (v2_3, v3_3, v4_1 + 1, M2) else none) fun (k_1 : Int32 → Mem → Option (Int32 × Mem)) => if v5_2 = v4_1 then if inb v4_1 7 then nm (wr M1 53 v4_1 v3_1) fun (M3 : Mem) => k_1 (v3_1 + 1) M3 else none else if inb v5_2 7 then if inb v4_1 7 then nm (wr M1 53 v4_1 (rd M1 53 v5_2)) fun (M4 : Mem) => k_1 v3_1 M4 else none else none) aq sq.1 sq.2) FU (v4_1, v6_1)
def MD_number (k1 : Nat) (M : Mem) : Option (Int32 × Mem) :=
  LOOP (fun aq sq => MD_number_L7 k1 (fun (v2_4 : Int32) (M5 : Mem) => some (v2_4, M5)) aq sq.1 sq.2.1 sq.2.2.1 sq.2.2.2) FU (0, 0, 0, M)
def MD_parting (v1 : Int32) (M : Mem) : Option (Int32 × Mem) :=
  bnd2 (MD_opens v1 50 M) fun r_1 M1 => if 0 ≤ r_1 then some (r_1, M1) else bnd2 (MD_no (-1) M1) fun r_2 M2 => some (r_2, M2)
def MD_led_L6 (v1_1 : Int32) (v2_1 : Int32) (v3_1 : Int32) (v4_1 : Int32) (M : Mem) (kx : Int32 → Option Int32) (ag : (Int32 × Int32) → Option Int32) (v5_1 : Int32) (v6_1 : Int32) : Option Int32 :=
  if (M 33 8) ≤ v6_1 then kx v5_1 else if inb v6_1 7 then if (rd M 50 v6_1) = v3_1 then if v4_1 = 0 then Option.bind (MD_has v1_1 v2_1 v6_1 M) fun r_1 => if r_1 = 0 then nm (v5_1 + 0) fun (v5_2 : Int32) => ag (v5_2, v6_1 + 1) else nm (v5_1 + 1) fun (v5_3 : Int32) => ag (v5_3, v6_1 + 1) else Option.bind (MD_has v1_1 v6_1 v2_1 M) fun r_2 => if r_2 = 0 then nm (v5_1 + 0) fun (v5_4 : Int32) => ag (v5_4, v6_1 + 1) else nm (v5_1 + 1) fun (v5_5 : Int32) => ag (v5_5, v6_1 + 1) else nm (v5_1 + 0) fun (v5_6 : Int32) => ag (v5_6, v6_1 + 1) else none
def MD_led (v1 : Int32) (v2 : Int32) (v3 : Int32) (v4 : Int32) (M : Mem) : Option Int32 :=
  LOOP (fun aq sq => MD_led_L6 v1 v2 v3 v4 M (fun (v5_7 : Int32) => some v5_7) aq sq.1 sq.2) FU (0, 0)
def MD_seen (v0 : Int32) (v1 : Int32) : Option Int32 :=
  if v1 = 0 then if v0 ≤ 0 then some 0 else some 1 else some v0
def MD_areLed_L12 (v1_2 : Int32) (v2_2 : Int32) (v3_2 : Int32) (v4_2 : Int32) (M : Mem) (kx : Option Int32) (ag : Int32 → Option Int32) (v5_1 : Int32) : Option Int32 :=
  if (M 33 8) ≤ v5_1 then kx else Option.bind (MD_led v4_2 v1_2 v5_1 0 M) fun r_1 => Option.bind (MD_seen r_1 v3_2) fun r_2 => Option.bind (MD_led v4_2 v2_2 v5_1 0 M) fun r_3 => Option.bind (MD_seen r_3 v3_2) fun r_4 => if r_2 = r_4 then Option.bind (MD_led v4_2 v1_2 v5_1 1 M) fun r_5 => Option.bind (MD_seen r_5 v3_2) fun r_6 => Option.bind (MD_led v4_2 v2_2 v5_1 1 M) fun r_7 => Option.bind (MD_seen r_7 v3_2) fun r_8 => if r_6 = r_8 then ag (v5_1 + 1) else some 0 else some 0
def MD_areLed_L3 (v1_1 : Int32) (v2_1 : Int32) (v3_1 : Int32) (M : Mem) (kx : Option Int32) (ag : Int32 → Option Int32) (v4_1 : Int32) : Option Int32 :=
  if 3 ≤ v4_1 then kx else LOOP (fun aq sq => MD_areLed_L12 v1_1 v2_1 v3_1 v4_1 M (ag (v4_1 + 1)) aq sq) FU 0
def MD_areLed (v1 : Int32) (v2 : Int32) (v3 : Int32) (M : Mem) : Option Int32 :=
  LOOP (fun aq sq => MD_areLed_L3 v1 v2 v3 M (some 1) aq sq) FU 0
def MD_areTied_L41 (v1_2 : Int32) (v2_2 : Int32) (v3_2 : Int32) (v4_2 : Int32) (M : Mem) (kx : Option Int32) (ag : Int32 → Option Int32) (v5_1 : Int32) : Option Int32 :=
  if (M 33 8) ≤ v5_1 then kx else if v5_1 = v1_2 then ag (v5_1 + 1) else if v5_1 = v2_2 then ag (v5_1 + 1) else Option.bind (MD_strong v4_2 v1_2 v5_1 M) fun r_5 => Option.bind (MD_seen r_5 v3_2) fun r_6 => Option.bind (MD_strong v4_2 v2_2 v5_1 M) fun r_7 => Option.bind (MD_seen r_7 v3_2) fun r_8 => if r_6 = r_8 then Option.bind (MD_strong v4_2 v5_1 v1_2 M) fun r_9 => Option.bind (MD_seen r_9 v3_2) fun r_10 => Option.bind (MD_strong v4_2 v5_1 v2_2 M) fun r_11 => Option.bind (MD_seen r_11 v3_2) fun r_12 => if r_10 = r_12 then ag (v5_1 + 1) else some 0 else some 0
def MD_areTied_L3 (v1_1 : Int32) (v2_1 : Int32) (v3_1 : Int32) (M : Mem) (kx : Option Int32) (ag : Int32 → Option Int32) (v4_1 : Int32) : Option Int32 :=
  if 3 ≤ v4_1 then kx else Option.bind (MD_strong v4_1 v1_1 v2_1 M) fun r_1 => Option.bind (MD_seen r_1 v3_1) fun r_2 => Option.bind (MD_strong v4_1 v2_1 v1_1 M) fun r_3 => Option.bind (MD_seen r_3 v3_1) fun r_4 => if r_2 = r_4 then LOOP (fun aq sq => MD_areTied_L41 v1_1 v2_1 v3_1 v4_1 M (ag (v4_1 + 1)) aq sq) FU 0 else some 0
def MD_areTied (v1 : Int32) (v2 : Int32) (v3 : Int32) (M : Mem) : Option Int32 :=
  LOOP (fun aq sq => MD_areTied_L3 v1 v2 v3 M (some 1) aq sq) FU 0
def MD_areSo (v1 : Int32) (v2 : Int32) (v3 : Int32) (M : Mem) : Option Int32 :=
  if inb v1 7 then if inb v2 7 then if (rd M 35 v1) = (rd M 35 v2) then if v3 = 0 then some 1 else if 3 ≤ v3 then jp (fun (s_1 : Int32) => Option.bind (MD_areLed v1 v2 s_1 M) fun r_1 => some (bz r_1)) fun (k_1 : Int32 → Option Int32) => if v3 = 4 then k_1 1 else k_1 0 else jp (fun (s_2 : Int32) => Option.bind (MD_areTied v1 v2 s_2 M) fun r_2 => some (bz r_2)) fun (k_2 : Int32 → Option Int32) => if v3 = 2 then k_2 1 else k_2 0 else some 0 else none else none
def MD_judged_L14 (v1_2 : Int32) (v2_2 : Int32) (M : Mem) (kx : Option Int32) (ag : Int32 → Option Int32) (v3_2 : Int32) : Option Int32 :=
  if (M 33 8) ≤ v3_2 then kx else if inb v2_2 7 then if inb v3_2 7 then if (rd M 50 v2_2) = (rd M 50 v3_2) then Option.bind (MD_areSo v2_2 v3_2 v1_2 M) fun r_1 => if r_1 = 0 then some ((10 * v2_2) + v3_2) else ag (v3_2 + 1) else ag (v3_2 + 1) else none else none
def MD_judged_L2 (v1_1 : Int32) (M : Mem) (kx : Option Int32) (ag : Int32 → Option Int32) (v2_1 : Int32) : Option Int32 :=
  if (M 33 8) ≤ v2_1 then kx else nm (v2_1 + 1) fun (v3_1 : Int32) => LOOP (fun aq sq => MD_judged_L14 v1_1 v2_1 M (ag (v2_1 + 1)) aq sq) FU v3_1
def MD_judged (v1 : Int32) (M : Mem) : Option Int32 :=
  LOOP (fun aq sq => MD_judged_L2 v1 M (some (-9)) aq sq) FU 0
def MD_judge (v1 : Int32) (v2 : Int32) (M : Mem) : Option (Int32 × Mem) :=
  bnd2 (MD_opens v1 50 M) fun r_1 M1 => jp (bnd2 (MD_no (-1) M1) fun r_2 M2 => some (r_2, M2)) fun (k_1 : Option (Int32 × Mem)) => if r_1 < 0 then k_1 else Option.bind (MD_isSameness v2) fun r_3 => if r_3 = 0 then k_1 else Option.bind (MD_findTies (M1 33 10) M1) fun M3 => Option.bind (MD_judged v2 M3) fun r_4 => some (r_4, M3)
def MD_splits_L28 (v1_3 : Int32) (v3_2 : Int32) (kx : Mem → Option (Int32 × Mem)) (ag : (Int32 × Mem) → Option (Int32 × Mem)) (v4_2 : Int32) (M4 : Mem) : Option (Int32 × Mem) :=
  if v4_2 < 0 then kx M4 else if inb v3_2 7 then if inb v4_2 7 then if (rd M4 50 v3_2) = (rd M4 50 v4_2) then Option.bind (MD_areSo v4_2 v3_2 v1_3 M4) fun r_1 => if r_1 = 0 then if inb v3_2 7 then if inb v3_2 7 then nm (wr M4 52 v3_2 (rd M4 52 v3_2)) fun (M5 : Mem) => ag (v4_2 + (-1), M5) else none else none else if inb v4_2 7 then if inb v3_2 7 then nm (wr M4 52 v3_2 (rd M4 52 v4_2)) fun (M6 : Mem) => ag (v4_2 + (-1), M6) else none else none else if inb v3_2 7 then if inb v3_2 7 then nm (wr M4 52 v3_2 (rd M4 52 v3_2)) fun (M7 : Mem) => ag (v4_2 + (-1), M7) else none else none else none else none
def MD_splits_L8 (v1_2 : Int32) (kx : Mem → Option (Int32 × Mem)) (ag : (Int32 × Mem) → Option (Int32 × Mem)) (v3_1 : Int32) (M2 : Mem) : Option (Int32 × Mem) :=
  if (M2 33 8) ≤ v3_1 then kx M2 else if inb v3_1 7 then nm (wr M2 52 v3_1 v3_1) fun (M3 : Mem) => nm (v3_1 - 1) fun (v4_1 : Int32) => LOOP (fun aq sq => MD_splits_L28 v1_2 v3_1 (fun (M8 : Mem) => ag (v3_1 + 1, M8)) aq sq.1 sq.2) FU (v4_1, M3) else none
def MD_splits_L2 (v1_1 : Int32) (kx : Mem → Option (Int32 × Mem)) (ag : (Int32 × Mem) → Option (Int32 × Mem)) (v2_1 : Int32) (M1 : Mem) : Option (Int32 × Mem) :=
  if v2_1 = 0 then kx M1 else LOOP (fun aq sq => MD_splits_L8 v1_1 (fun (M9 : Mem) => bnd2 (MD_number 50 M9) fun r_2 M10 => bnd2 (MD_number 52 M10) fun r_3 M11 => jp (fun (s_1 : Int32) => bnd2 (MD_opens r_3 50 M11) fun r_4 M12 => ag (s_1, M12)) fun (k_1 : Int32 → Option (Int32 × Mem)) => if r_3 = r_2 then k_1 0 else k_1 1) aq sq.1 sq.2) FU (0, M1)
def MD_splits (v1 : Int32) (M : Mem) : Option (Int32 × Mem) :=
  LOOP (fun aq sq => MD_splits_L2 v1 (fun (M13 : Mem) => bnd2 (MD_number 50 M13) fun r_5 M14 => some (r_5, M14)) aq sq.1 sq.2) FU (1, M)
def MD_coarsest (v1 : Int32) (v2 : Int32) (M : Mem) : Option (Int32 × Mem) :=
  bnd2 (MD_opens v1 50 M) fun r_1 M1 => jp (bnd2 (MD_no (-1) M1) fun r_2 M2 => some (r_2, M2)) fun (k_1 : Option (Int32 × Mem)) => if r_1 < 0 then k_1 else Option.bind (MD_isSameness v2) fun r_3 => if r_3 = 0 then k_1 else Option.bind (MD_findTies (M1 33 10) M1) fun M3 => bnd2 (MD_splits v2 M3) fun r_4 M4 => some (r_4, M4)
def MD_firstNames_L2 (kx : Mem → Option Mem) (ag : (Int32 × Mem) → Option Mem) (v1_1 : Int32) (M1 : Mem) : Option Mem :=
  if 7 ≤ v1_1 then kx M1 else if inb v1_1 7 then nm (wr M1 54 v1_1 v1_1) fun (M2 : Mem) => ag (v1_1 + 1, M2) else none
def MD_firstNames (M : Mem) : Option Mem :=
  LOOP (fun aq sq => MD_firstNames_L2 (fun (M3 : Mem) => some M3) aq sq.1 sq.2) FU (0, M)
def MD_nextNames_L4 (M : Mem) (kx : Int32 → Option (Int32 × Mem)) (ag : Int32 → Option (Int32 × Mem)) (v2_2 : Int32) : Option (Int32 × Mem) :=
  if v2_2 < 0 then kx v2_2 else if inb v2_2 7 then if inb (v2_2 + 1) 7 then if (rd M 54 v2_2) ≤ (rd M 54 (v2_2 + 1)) then kx v2_2 else ag (v2_2 + (-1)) else none else none
def MD_nextNames_L41 (v2_4 : Int32) (M : Mem) (kx : Int32 → Option (Int32 × Mem)) (ag : Int32 → Option (Int32 × Mem)) (v3_2 : Int32) : Option (Int32 × Mem) :=
  if inb v3_2 7 then if inb v2_4 7 then if (rd M 54 v2_4) ≤ (rd M 54 v3_2) then kx v3_2 else ag (v3_2 + (-1)) else none else none
def MD_nextNames_L100 (kx : Mem → Option (Int32 × Mem)) (ag : (Int32 × Int32 × Mem) → Option (Int32 × Mem)) (v5_2 : Int32) (v6_2 : Int32) (M3 : Mem) : Option (Int32 × Mem) :=
  if v6_2 ≤ v5_2 then kx M3 else if inb v5_2 7 then nm (rd M3 54 v5_2) fun (v4_2 : Int32) => if inb v6_2 7 then if inb v5_2 7 then nm (wr M3 54 v5_2 (rd M3 54 v6_2)) fun (M4 : Mem) => if inb v6_2 7 then nm (wr M4 54 v6_2 v4_2) fun (M5 : Mem) => ag (v5_2 + 1, v6_2 + (-1), M5) else none else none else none else none
def MD_nextNames (v1 : Int32) (M : Mem) : Option (Int32 × Mem) :=
  nm (v1 - 2) fun (v2_1 : Int32) => LOOP (fun aq sq => MD_nextNames_L4 M (fun (v2_3 : Int32) => if 0 ≤ v2_3 then nm (v1 - 1) fun (v3_1 : Int32) => LOOP (fun aq sq => MD_nextNames_L41 v2_3 M (fun (v3_3 : Int32) => if inb v2_3 7 then nm (rd M 54 v2_3) fun (v4_1 : Int32) => if inb v3_3 7 then if inb v2_3 7 then nm (wr M 54 v2_3 (rd M 54 v3_3)) fun (M1 : Mem) => if inb v3_3 7 then nm (wr M1 54 v3_3 v4_1) fun (M2 : Mem) => nm (v2_3 + 1) fun (v5_1 : Int32) => nm (v1 - 1) fun (v6_1 : Int32) => LOOP (fun aq sq => MD_nextNames_L100 (fun (M6 : Mem) => some (1, M6)) aq sq.1 sq.2.1 sq.2.2) FU (v5_1, v6_1, M2) else none else none else none else none) aq sq) FU v3_1 else some (0, M)) aq sq) FU v2_1
def MD_isTurn_L44 (v1_3 : Int32) (v2_2 : Int32) (M : Mem) (kx : Option Int32) (ag : Int32 → Option Int32) (v3_1 : Int32) : Option Int32 :=
  if 3 ≤ v3_1 then kx else Option.bind (MD_strong v3_1 v1_3 v2_2 M) fun r_1 => if inb v1_3 7 then if inb v2_2 7 then Option.bind (MD_strong v3_1 (rd M 54 v1_3) (rd M 54 v2_2) M) fun r_2 => if r_1 = r_2 then ag (v3_1 + 1) else some 0 else none else none
def MD_isTurn_L34 (v1_2 : Int32) (M : Mem) (kx : Option Int32) (ag : Int32 → Option Int32) (v2_1 : Int32) : Option Int32 :=
  if (M 33 8) ≤ v2_1 then kx else LOOP (fun aq sq => MD_isTurn_L44 v1_2 v2_1 M (ag (v2_1 + 1)) aq sq) FU 0
def MD_isTurn_L2 (M : Mem) (kx : Option Int32) (ag : Int32 → Option Int32) (v1_1 : Int32) : Option Int32 :=
  if (M 33 8) ≤ v1_1 then kx else if inb v1_1 7 then if inb v1_1 7 then if inb (rd M 54 v1_1) 7 then if (rd M 35 v1_1) = (rd M 35 (rd M 54 v1_1)) then LOOP (fun aq sq => MD_isTurn_L34 v1_1 M (ag (v1_1 + 1)) aq sq) FU 0 else some 0 else none else none else none
def MD_isTurn (M : Mem) : Option Int32 :=
  LOOP (fun aq sq => MD_isTurn_L2 M (some 1) aq sq) FU 0
def MD_findTurns_L10 (kx : Mem → Option (Int32 × Mem)) (ag : (Int32 × Mem) → Option (Int32 × Mem)) (v1_1 : Int32) (M2 : Mem) : Option (Int32 × Mem) :=
  if 49 ≤ v1_1 then kx M2 else if inb v1_1 49 then nm (wr M2 57 v1_1 (bz 0)) fun (M3 : Mem) => ag (v1_1 + 1, M3) else none
def MD_findTurns_L53 (kx : Mem → Option (Int32 × Mem)) (ag : (Int32 × Mem) → Option (Int32 × Mem)) (v3_1 : Int32) (M9 : Mem) : Option (Int32 × Mem) :=
  if (M9 33 8) ≤ v3_1 then kx M9 else if inb v3_1 7 then if inb ((7 * v3_1) + (rd M9 54 v3_1)) 49 then nm (wr M9 57 ((7 * v3_1) + (rd M9 54 v3_1)) (bz 1)) fun (M10 : Mem) => ag (v3_1 + 1, M10) else none else none
def MD_findTurns_L37 (kx : Int32 → Mem → Option (Int32 × Mem)) (ag : (Int32 × Int32 × Mem) → Option (Int32 × Mem)) (v1_2 : Int32) (v2_1 : Int32) (M6 : Mem) : Option (Int32 × Mem) :=
  if v2_1 = 0 then kx v1_2 M6 else Option.bind (MD_isTurn M6) fun r_1 => jp (fun (v1_3 : Int32) (M7 : Mem) => bnd2 (MD_nextNames (M7 33 8) M7) fun r_2 M8 => ag (v1_3, r_2, M8)) fun (k_1 : Int32 → Mem → Option (Int32 × Mem)) => if r_1 = 0 then k_1 v1_2 M6 else LOOP (fun aq sq => MD_findTurns_L53 (fun (M11 : Mem) => k_1 (v1_2 + 1) M11) aq sq.1 sq.2) FU (0, M6)
def MD_findTurns (M : Mem) : Option (Int32 × Mem) :=
  Option.bind (MD_findTies (M 33 10) M) fun M1 => LOOP (fun aq sq => MD_findTurns_L10 (fun (M4 : Mem) => Option.bind (MD_firstNames M4) fun M5 => LOOP (fun aq sq => MD_findTurns_L37 (fun (v1_5 : Int32) (M12 : Mem) => some (v1_5, M12)) aq sq.1 sq.2.1 sq.2.2) FU (0, 1, M5)) aq sq.1 sq.2) FU (0, M1)
def MD_renamings (M : Mem) : Option (Int32 × Mem) :=
  bnd2 (MD_findTurns M) fun r_1 M1 => some (r_1, M1)
def MD_moves (v1 : Int32) (v2 : Int32) (M : Mem) : Option (Int32 × Mem) :=
  Option.bind (MD_isPerson v1 M) fun r_1 => jp (bnd2 (MD_no (-1) M) fun r_2 M1 => some (r_2, M1)) fun (k_1 : Option (Int32 × Mem)) => if r_1 = 0 then k_1 else Option.bind (MD_isPerson v2 M) fun r_3 => if r_3 = 0 then k_1 else bnd2 (MD_findTurns M) fun r_4 M2 => if inb ((7 * v1) + v2) 49 then if (rd M2 57 ((7 * v1) + v2)) = 0 then some (0, M2) else some (1, M2) else none
def MD_orbits_L26 (v1_2 : Int32) (kx : Mem → Option (Int32 × Mem)) (ag : (Int32 × Mem) → Option (Int32 × Mem)) (v2_2 : Int32) (M4 : Mem) : Option (Int32 × Mem) :=
  if v2_2 < 0 then kx M4 else if inb ((7 * v1_2) + v2_2) 49 then if (rd M4 57 ((7 * v1_2) + v2_2)) = 0 then if inb v1_2 7 then if inb v1_2 7 then nm (wr M4 52 v1_2 (rd M4 52 v1_2)) fun (M5 : Mem) => ag (v2_2 + (-1), M5) else none else none else if inb v1_2 7 then nm (wr M4 52 v1_2 v2_2) fun (M6 : Mem) => ag (v2_2 + (-1), M6) else none else none
def MD_orbits_L7 (kx : Mem → Option (Int32 × Mem)) (ag : (Int32 × Mem) → Option (Int32 × Mem)) (v1_1 : Int32) (M2 : Mem) : Option (Int32 × Mem) :=
  if (M2 33 8) ≤ v1_1 then kx M2 else if inb v1_1 7 then nm (wr M2 52 v1_1 v1_1) fun (M3 : Mem) => nm (v1_1 - 1) fun (v2_1 : Int32) => LOOP (fun aq sq => MD_orbits_L26 v1_1 (fun (M7 : Mem) => ag (v1_1 + 1, M7)) aq sq.1 sq.2) FU (v2_1, M3) else none
def MD_orbits (M : Mem) : Option (Int32 × Mem) :=
  bnd2 (MD_findTurns M) fun r_1 M1 => LOOP (fun aq sq => MD_orbits_L7 (fun (M8 : Mem) => bnd2 (MD_number 52 M8) fun r_2 M9 => some (r_2, M9)) aq sq.1 sq.2) FU (0, M1)
def MD_form_L43 (kx : Int32 → Mem → Option (Int32 × Mem)) (ag : (Int32 × Int32 × Mem) → Option (Int32 × Mem)) (v4_1 : Int32) (v5_1 : Int32) (M4 : Mem) : Option (Int32 × Mem) :=
  if (M4 33 8) ≤ v5_1 then kx v4_1 M4 else if inb v5_1 7 then if inb (rd M4 54 v5_1) 7 then if inb v4_1 154 then nm (wr M4 56 v4_1 (rd M4 35 (rd M4 54 v5_1))) fun (M5 : Mem) => ag (v4_1 + 1, v5_1 + 1, M5) else none else none else none
def MD_form_L104 (v5_4 : Int32) (v6_2 : Int32) (kx : Int32 → Mem → Option (Int32 × Mem)) (ag : (Int32 × Int32 × Mem) → Option (Int32 × Mem)) (v4_5 : Int32) (v7_1 : Int32) (M9 : Mem) : Option (Int32 × Mem) :=
  if (M9 33 8) ≤ v7_1 then kx v4_5 M9 else if inb v6_2 7 then if inb v7_1 7 then Option.bind (MD_strong v5_4 (rd M9 54 v6_2) (rd M9 54 v7_1) M9) fun r_1 => if inb v4_5 154 then nm (wr M9 56 v4_5 r_1) fun (M10 : Mem) => ag (v4_5 + 1, v7_1 + 1, M10) else none else none else none
def MD_form_L92 (v5_3 : Int32) (kx : Int32 → Mem → Option (Int32 × Mem)) (ag : (Int32 × Int32 × Mem) → Option (Int32 × Mem)) (v4_4 : Int32) (v6_1 : Int32) (M8 : Mem) : Option (Int32 × Mem) :=
  if (M8 33 8) ≤ v6_1 then kx v4_4 M8 else LOOP (fun aq sq => MD_form_L104 v5_3 v6_1 (fun (v4_6 : Int32) (M11 : Mem) => ag (v4_6, v6_1 + 1, M11)) aq sq.1 sq.2.1 sq.2.2) FU (v4_4, 0, M8)
def MD_form_L83 (kx : Mem → Option (Int32 × Mem)) (ag : (Int32 × Int32 × Mem) → Option (Int32 × Mem)) (v4_3 : Int32) (v5_2 : Int32) (M7 : Mem) : Option (Int32 × Mem) :=
  if 3 ≤ v5_2 then kx M7 else LOOP (fun aq sq => MD_form_L92 v5_2 (fun (v4_7 : Int32) (M12 : Mem) => ag (v4_7, v5_2 + 1, M12)) aq sq.1 sq.2.1 sq.2.2) FU (v4_3, 0, M7)
def MD_form_L164 (v1_7 : Int32) (v3_6 : Int32) (M13 : Mem) (kx : Int32 → Option (Int32 × Mem)) (ag : Int32 → Option (Int32 × Mem)) (v5_5 : Int32) : Option (Int32 × Mem) :=
  if v3_6 = 0 then if v1_7 ≤ v5_5 then kx v5_5 else if inb v5_5 154 then if inb v5_5 154 then if (rd M13 56 v5_5) = (rd M13 55 v5_5) then ag (v5_5 + 1) else kx v5_5 else none else none else kx v5_5
def MD_form_L227 (v1_8 : Int32) (kx : Mem → Option (Int32 × Mem)) (ag : (Int32 × Mem) → Option (Int32 × Mem)) (v6_3 : Int32) (M16 : Mem) : Option (Int32 × Mem) :=
  if v1_8 ≤ v6_3 then kx M16 else if inb v6_3 154 then if inb v6_3 154 then nm (wr M16 55 v6_3 (rd M16 56 v6_3)) fun (M17 : Mem) => ag (v6_3 + 1, M17) else none else none
def MD_form_L33 (v1_2 : Int32) (kx : Mem → Option (Int32 × Mem)) (ag : (Int32 × Int32 × Mem) → Option (Int32 × Mem)) (v2_1 : Int32) (v3_1 : Int32) (M3 : Mem) : Option (Int32 × Mem) :=
  if v2_1 = 0 then kx M3 else LOOP (fun aq sq => MD_form_L43 (fun (v4_2 : Int32) (M6 : Mem) => LOOP (fun aq sq => MD_form_L83 (fun (M13 : Mem) => LOOP (fun aq sq => MD_form_L164 v1_2 v3_1 M13 (fun (v5_6 : Int32) => jp (fun (M14 : Mem) => bnd2 (MD_nextNames (M14 33 8) M14) fun r_2 M15 => ag (r_2, 0, M15)) fun (k_1 : Mem → Option (Int32 × Mem)) => jp (LOOP (fun aq sq => MD_form_L227 v1_2 (fun (M18 : Mem) => k_1 M18) aq sq.1 sq.2) FU (0, M13)) fun (k_2 : Option (Int32 × Mem)) => if v3_1 = 0 then if v1_2 ≤ v5_6 then k_1 M13 else if inb v5_6 154 then if inb v5_6 154 then if (rd M13 55 v5_6) ≤ (rd M13 56 v5_6) then k_1 M13 else k_2 else none else none else k_2) aq sq) FU 0) aq sq.1 sq.2.1 sq.2.2) FU (v4_2, 0, M6)) aq sq.1 sq.2.1 sq.2.2) FU (0, 0, M3)
def MD_form_L273 (v1_9 : Int32) (M19 : Mem) (kx : Int64 → Option (Int32 × Mem)) (ag : (Int64 × Int32) → Option (Int32 × Mem)) (v4_8 : Int64) (v6_4 : Int32) : Option (Int32 × Mem) :=
  if v1_9 ≤ v6_4 then kx v4_8 else if inb v6_4 154 then nm (jrml ((10 * v4_8) + ((rd M19 55 v6_4).toInt64)) 1000000007) fun (v4_9 : Int64) => ag (v4_9, v6_4 + 1) else none
def MD_form (M : Mem) : Option (Int32 × Mem) :=
  Option.bind (MD_findTies (M 33 10) M) fun M1 => nm ((M1 33 8) + ((3 * (M1 33 8)) * (M1 33 8))) fun (v1_1 : Int32) => Option.bind (MD_firstNames M1) fun M2 => LOOP (fun aq sq => MD_form_L33 v1_1 (fun (M19 : Mem) => LOOP (fun aq sq => MD_form_L273 v1_1 M19 (fun (v4_10 : Int64) => some (v4_10.toInt32, M19)) aq sq.1 sq.2) FU (0, 0)) aq sq.1 sq.2.1 sq.2.2) FU (1, 1, M2)
def MD_firstParting_L2 (kx : Mem → Option Mem) (ag : (Int32 × Mem) → Option Mem) (v1_1 : Int32) (M1 : Mem) : Option Mem :=
  if (M1 33 8) ≤ v1_1 then kx M1 else if inb v1_1 7 then nm (wr M1 50 v1_1 0) fun (M2 : Mem) => ag (v1_1 + 1, M2) else none
def MD_firstParting (M : Mem) : Option Mem :=
  LOOP (fun aq sq => MD_firstParting_L2 (fun (M3 : Mem) => some M3) aq sq.1 sq.2) FU (0, M)
def MD_nextParting_L15 (v1_3 : Int32) (M : Mem) (kx : Int32 → Option (Int32 × Mem)) (ag : (Int32 × Int32) → Option (Int32 × Mem)) (v2_1 : Int32) (v3_1 : Int32) : Option (Int32 × Mem) :=
  if v1_3 ≤ v3_1 then kx v2_1 else if inb v3_1 7 then if ((rd M 50 v3_1) + 1) ≤ v2_1 then ag (v2_1, v3_1 + 1) else if inb v3_1 7 then nm ((rd M 50 v3_1) + 1) fun (v2_2 : Int32) => ag (v2_2, v3_1 + 1) else none else none
def MD_nextParting_L78 (kx : Mem → Option (Int32 × Mem)) (ag : (Int32 × Mem) → Option (Int32 × Mem)) (v3_3 : Int32) (M2 : Mem) : Option (Int32 × Mem) :=
  if (M2 33 8) ≤ v3_3 then kx M2 else if inb v3_3 7 then nm (wr M2 50 v3_3 0) fun (M3 : Mem) => ag (v3_3 + 1, M3) else none
def MD_nextParting_L7 (M : Mem) (kx : Option (Int32 × Mem)) (ag : Int32 → Option (Int32 × Mem)) (v1_2 : Int32) : Option (Int32 × Mem) :=
  if v1_2 ≤ 0 then kx else LOOP (fun aq sq => MD_nextParting_L15 v1_2 M (fun (v2_3 : Int32) => if inb v1_2 7 then if (rd M 50 v1_2) < v2_3 then if inb v1_2 7 then if inb v1_2 7 then nm (wr M 50 v1_2 ((rd M 50 v1_2) + 1)) fun (M1 : Mem) => nm (v1_2 + 1) fun (v3_2 : Int32) => LOOP (fun aq sq => MD_nextParting_L78 (fun (M4 : Mem) => some (1, M4)) aq sq.1 sq.2) FU (v3_2, M1) else none else none else ag (v1_2 + (-1)) else none) aq sq.1 sq.2) FU (0, 0)
def MD_nextParting (M : Mem) : Option (Int32 × Mem) :=
  nm ((M 33 8) - 1) fun (v1_1 : Int32) => LOOP (fun aq sq => MD_nextParting_L7 M (some (0, M)) aq sq) FU v1_1
def MD_parts_L4 (M : Mem) (kx : Int32 → Option Int32) (ag : (Int32 × Int32) → Option Int32) (v1_1 : Int32) (v2_1 : Int32) : Option Int32 :=
  if (M 33 8) ≤ v2_1 then kx v1_1 else if inb v2_1 7 then if ((rd M 50 v2_1) + 1) ≤ v1_1 then ag (v1_1, v2_1 + 1) else if inb v2_1 7 then nm ((rd M 50 v2_1) + 1) fun (v1_2 : Int32) => ag (v1_2, v2_1 + 1) else none else none
def MD_parts (M : Mem) : Option Int32 :=
  LOOP (fun aq sq => MD_parts_L4 M (fun (v1_3 : Int32) => some v1_3) aq sq.1 sq.2) FU (0, 0)
def MD_next_L39 (v1_1 : Int32) (v2_1 : Int32) (kx : Mem → Option (Int32 × Mem)) (ag : (Int32 × Mem) → Option (Int32 × Mem)) (v3_1 : Int32) (M4 : Mem) : Option (Int32 × Mem) :=
  if v3_1 = 0 then kx M4 else bnd2 (MD_number 50 M4) fun r_3 M5 => jp (bnd2 (MD_nextParting M5) fun r_4 M6 => ag (r_4, M6)) fun (k_1 : Option (Int32 × Mem)) => if r_3 ≤ v2_1 then k_1 else Option.bind (MD_judged v1_1 M5) fun r_5 => if r_5 = (-9) then some (r_3, M5) else k_1
def MD_next (v1 : Int32) (v2 : Int32) (M : Mem) : Option (Int32 × Mem) :=
  Option.bind (MD_isSameness v1) fun r_1 => if r_1 = 0 then bnd2 (MD_no (-1) M) fun r_2 M1 => some (r_2, M1) else if (-1) ≤ v2 then Option.bind (MD_findTies (M 33 10) M) fun M2 => Option.bind (MD_firstParting M2) fun M3 => LOOP (fun aq sq => MD_next_L39 v1 v2 (fun (M7 : Mem) => some ((-9), M7)) aq sq.1 sq.2) FU (1, M3) else bnd2 (MD_no (-4) M) fun r_6 M8 => some (r_6, M8)
def MD_all_L29 (v1_1 : Int32) (kx : Int32 → Mem → Option (Int32 × Mem)) (ag : (Int32 × Int32 × Mem) → Option (Int32 × Mem)) (v2_1 : Int32) (v3_1 : Int32) (M4 : Mem) : Option (Int32 × Mem) :=
  if v3_1 = 0 then kx v2_1 M4 else Option.bind (MD_judged v1_1 M4) fun r_3 => jp (fun (s_1 : Int32) => nm (v2_1 + s_1) fun (v2_2 : Int32) => bnd2 (MD_nextParting M4) fun r_4 M5 => ag (v2_2, r_4, M5)) fun (k_1 : Int32 → Option (Int32 × Mem)) => if r_3 = (-9) then k_1 1 else k_1 0
def MD_all (v1 : Int32) (M : Mem) : Option (Int32 × Mem) :=
  Option.bind (MD_isSameness v1) fun r_1 => if r_1 = 0 then bnd2 (MD_no (-1) M) fun r_2 M1 => some (r_2, M1) else Option.bind (MD_findTies (M 33 10) M) fun M2 => Option.bind (MD_firstParting M2) fun M3 => LOOP (fun aq sq => MD_all_L29 v1 (fun (v2_3 : Int32) (M6 : Mem) => some (v2_3, M6)) aq sq.1 sq.2.1 sq.2.2) FU (0, 1, M3)
def MD_join_L32 (kx : Mem → Option (Int32 × Mem)) (ag : (Int32 × Mem) → Option (Int32 × Mem)) (v3_1 : Int32) (M5 : Mem) : Option (Int32 × Mem) :=
  if (M5 33 8) ≤ v3_1 then kx M5 else if inb v3_1 7 then nm (wr M5 52 v3_1 v3_1) fun (M6 : Mem) => ag (v3_1 + 1, M6) else none
def MD_join_L78 (v4_2 : Int32) (kx : Mem → Option (Int32 × Mem)) (ag : (Int32 × Mem) → Option (Int32 × Mem)) (v5_1 : Int32) (M10 : Mem) : Option (Int32 × Mem) :=
  if (M10 33 8) ≤ v5_1 then kx M10 else if inb v4_2 7 then if inb v5_1 7 then jp (if inb v5_1 7 then if inb v4_2 7 then if (rd M10 52 v4_2) ≤ (rd M10 52 v5_1) then ag (v5_1 + 1, M10) else if inb v5_1 7 then if inb v4_2 7 then nm (wr M10 52 v4_2 (rd M10 52 v5_1)) fun (M11 : Mem) => ag (v5_1 + 1, M11) else none else none else none else none) fun (k_2 : Option (Int32 × Mem)) => if (rd M10 50 v4_2) = (rd M10 50 v5_1) then k_2 else if inb v4_2 7 then if inb v5_1 7 then if (rd M10 51 v4_2) = (rd M10 51 v5_1) then k_2 else ag (v5_1 + 1, M10) else none else none else none else none
def MD_join_L66 (kx : Mem → Option (Int32 × Mem)) (ag : (Int32 × Mem) → Option (Int32 × Mem)) (v4_1 : Int32) (M9 : Mem) : Option (Int32 × Mem) :=
  if (M9 33 8) ≤ v4_1 then kx M9 else LOOP (fun aq sq => MD_join_L78 v4_1 (fun (M12 : Mem) => ag (v4_1 + 1, M12)) aq sq.1 sq.2) FU (0, M9)
def MD_join_L55 (kx : Mem → Option (Int32 × Mem)) (ag : (Int32 × Mem) → Option (Int32 × Mem)) (v3_2 : Int32) (M8 : Mem) : Option (Int32 × Mem) :=
  if (M8 33 8) ≤ v3_2 then kx M8 else LOOP (fun aq sq => MD_join_L66 (fun (M13 : Mem) => ag (v3_2 + 1, M13)) aq sq.1 sq.2) FU (0, M8)
def MD_join (v1 : Int32) (v2 : Int32) (M : Mem) : Option (Int32 × Mem) :=
  bnd2 (MD_opens v1 50 M) fun r_1 M1 => jp (fun (M2 : Mem) => bnd2 (MD_no (-1) M2) fun r_2 M3 => some (r_2, M3)) fun (k_1 : Mem → Option (Int32 × Mem)) => if r_1 < 0 then k_1 M1 else bnd2 (MD_opens v2 51 M1) fun r_3 M4 => if 0 ≤ r_3 then LOOP (fun aq sq => MD_join_L32 (fun (M7 : Mem) => LOOP (fun aq sq => MD_join_L55 (fun (M14 : Mem) => bnd2 (MD_number 52 M14) fun r_4 M15 => some (r_4, M15)) aq sq.1 sq.2) FU (0, M7)) aq sq.1 sq.2) FU (0, M4) else k_1 M4
def MD_meet_L32 (kx : Mem → Option (Int32 × Mem)) (ag : (Int32 × Mem) → Option (Int32 × Mem)) (v3_1 : Int32) (M5 : Mem) : Option (Int32 × Mem) :=
  if (M5 33 8) ≤ v3_1 then kx M5 else if inb v3_1 7 then if inb v3_1 7 then if inb v3_1 7 then nm (wr M5 52 v3_1 ((10 * (rd M5 50 v3_1)) + (rd M5 51 v3_1))) fun (M6 : Mem) => ag (v3_1 + 1, M6) else none else none else none
def MD_meet (v1 : Int32) (v2 : Int32) (M : Mem) : Option (Int32 × Mem) :=
  bnd2 (MD_opens v1 50 M) fun r_1 M1 => jp (fun (M2 : Mem) => bnd2 (MD_no (-1) M2) fun r_2 M3 => some (r_2, M3)) fun (k_1 : Mem → Option (Int32 × Mem)) => if r_1 < 0 then k_1 M1 else bnd2 (MD_opens v2 51 M1) fun r_3 M4 => if 0 ≤ r_3 then LOOP (fun aq sq => MD_meet_L32 (fun (M7 : Mem) => bnd2 (MD_number 52 M7) fun r_4 M8 => some (r_4, M8)) aq sq.1 sq.2) FU (0, M4) else k_1 M4
def MD_picture_L111 (v3_2 : Int32) (v4_2 : Int32) (v10_2 : Int32) (M3 : Mem) (kx : Int32 → Int32 → Option (Int32 × Mem)) (ag : (Int32 × Int32 × Int32) → Option (Int32 × Mem)) (v8_2 : Int32) (v11_1 : Int32) (v12_1 : Int32) : Option (Int32 × Mem) :=
  if (M3 33 8) ≤ v12_1 then kx v8_2 v11_1 else if v12_1 = v10_2 then ag (v8_2, v11_1, v12_1 + 1) else if inb v12_1 7 then if (rd M3 50 v12_1) = v3_2 then Option.bind (MD_has v4_2 v10_2 v12_1 M3) fun r_6 => if r_6 = 0 then nm (v11_1 + 0) fun (v11_2 : Int32) => ag (v8_2 + 1, v11_2, v12_1 + 1) else nm (v11_1 + 1) fun (v11_3 : Int32) => ag (v8_2 + 1, v11_3, v12_1 + 1) else ag (v8_2, v11_1, v12_1 + 1) else none
def MD_picture_L82 (v2_1 : Int32) (v3_1 : Int32) (v4_1 : Int32) (M3 : Mem) (kx : Int32 → Int32 → Int32 → Int32 → Option (Int32 × Mem)) (ag : (Int32 × Int32 × Int32 × Int32 × Int32) → Option (Int32 × Mem)) (v6_1 : Int32) (v7_1 : Int32) (v8_1 : Int32) (v9_1 : Int32) (v10_1 : Int32) : Option (Int32 × Mem) :=
  if (M3 33 8) ≤ v10_1 then kx v6_1 v7_1 v8_1 v9_1 else if inb v10_1 7 then if (rd M3 50 v10_1) = v2_1 then LOOP (fun aq sq => MD_picture_L111 v3_1 v4_1 v10_1 M3 (fun (v8_3 : Int32) (v11_4 : Int32) => nm (v9_1 + v11_4) fun (v9_3 : Int32) => jp (fun (s_1 : Int32) => if v11_4 ≤ v7_1 then ag (s_1, v7_1, v8_3, v9_3, v10_1 + 1) else ag (s_1, v11_4, v8_3, v9_3, v10_1 + 1)) fun (k_2 : Int32 → Option (Int32 × Mem)) => if v6_1 ≤ v11_4 then k_2 v6_1 else k_2 v11_4) aq sq.1 sq.2.1 sq.2.2) FU (v8_1, 0, 0) else ag (v6_1, v7_1, v8_1, v9_1, v10_1 + 1) else none
def MD_picture (v1 : Int32) (v2 : Int32) (v3 : Int32) (v4 : Int32) (M : Mem) : Option (Int32 × Mem) :=
  bnd2 (MD_opens v1 50 M) fun r_1 M1 => jp (bnd2 (MD_no (-1) M1) fun r_2 M2 => some (r_2, M2)) fun (k_1 : Option (Int32 × Mem)) => if r_1 < 0 then k_1 else Option.bind (MD_isIn v2.toInt64 0 ((r_1 - 1).toInt64)) fun r_3 => if r_3 = 0 then k_1 else Option.bind (MD_isIn v3.toInt64 0 ((r_1 - 1).toInt64)) fun r_4 => if r_4 = 0 then k_1 else Option.bind (MD_isKind v4) fun r_5 => if r_5 = 0 then k_1 else Option.bind (MD_findTies (M1 33 10) M1) fun M3 => LOOP (fun aq sq => MD_picture_L82 v2 v3 v4 M3 (fun (v6_3 : Int32) (v7_3 : Int32) (v8_4 : Int32) (v9_4 : Int32) => if v9_4 = 0 then some (0, M3) else if v9_4 = v8_4 then some (1, M3) else if v6_3 = v7_3 then some (2, M3) else if v6_3 ≤ 0 then some (4, M3) else some (3, M3)) aq sq.1 sq.2.1 sq.2.2.1 sq.2.2.2.1 sq.2.2.2.2) FU (100, 0, 0, 0, 0)
def MD_wrongOf_L52 (v2_5 : Int32) (v3_4 : Int32) (v4_3 : Int32) (v7_2 : Int32) (M : Mem) (kx : Int32 → Int32 → Option Int32) (ag : (Int32 × Int32 × Int32) → Option Int32) (v5_2 : Int32) (v6_2 : Int32) (v8_1 : Int32) : Option Int32 :=
  if (M 33 8) ≤ v8_1 then kx v5_2 v6_2 else if inb v7_2 7 then if (rd M 50 v7_2) = v2_5 then if v8_1 = v7_2 then ag (v5_2, v6_2, v8_1 + 1) else if inb v8_1 7 then if (rd M 50 v8_1) = v3_4 then Option.bind (MD_has v4_3 v7_2 v8_1 M) fun r_1 => if r_1 = 0 then ag (v5_2, v6_2 + 1, v8_1 + 1) else ag (v5_2 + 1, v6_2, v8_1 + 1) else ag (v5_2, v6_2, v8_1 + 1) else none else kx v5_2 v6_2 else none
def MD_wrongOf_L40 (v2_4 : Int32) (v3_3 : Int32) (v4_2 : Int32) (M : Mem) (kx : Int32 → Int32 → Option Int32) (ag : (Int32 × Int32 × Int32) → Option Int32) (v5_1 : Int32) (v6_1 : Int32) (v7_1 : Int32) : Option Int32 :=
  if (M 33 8) ≤ v7_1 then kx v5_1 v6_1 else LOOP (fun aq sq => MD_wrongOf_L52 v2_4 v3_3 v4_2 v7_1 M (fun (v5_3 : Int32) (v6_3 : Int32) => ag (v5_3, v6_3, v7_1 + 1)) aq sq.1 sq.2.1 sq.2.2) FU (v5_1, v6_1, 0)
def MD_wrongOf_L25 (v2_3 : Int32) (v3_2 : Int32) (M : Mem) (kx : Int32 → Option Int32) (ag : (Int32 × Int32) → Option Int32) (v1_3 : Int32) (v4_1 : Int32) : Option Int32 :=
  if 3 ≤ v4_1 then kx v1_3 else LOOP (fun aq sq => MD_wrongOf_L40 v2_3 v3_2 v4_1 M (fun (v5_4 : Int32) (v6_4 : Int32) => if v6_4 ≤ v5_4 then nm (v1_3 + v6_4) fun (v1_6 : Int32) => ag (v1_6, v4_1 + 1) else nm (v1_3 + v5_4) fun (v1_7 : Int32) => ag (v1_7, v4_1 + 1)) aq sq.1 sq.2.1 sq.2.2) FU (0, 0, 0)
def MD_wrongOf_L14 (v2_2 : Int32) (M : Mem) (kx : Int32 → Option Int32) (ag : (Int32 × Int32) → Option Int32) (v1_2 : Int32) (v3_1 : Int32) : Option Int32 :=
  if (M 33 8) ≤ v3_1 then kx v1_2 else LOOP (fun aq sq => MD_wrongOf_L25 v2_2 v3_1 M (fun (v1_8 : Int32) => ag (v1_8, v3_1 + 1)) aq sq.1 sq.2) FU (v1_2, 0)
def MD_wrongOf_L4 (M : Mem) (kx : Int32 → Option Int32) (ag : (Int32 × Int32) → Option Int32) (v1_1 : Int32) (v2_1 : Int32) : Option Int32 :=
  if (M 33 8) ≤ v2_1 then kx v1_1 else LOOP (fun aq sq => MD_wrongOf_L14 v2_1 M (fun (v1_9 : Int32) => ag (v1_9, v2_1 + 1)) aq sq.1 sq.2) FU (v1_1, 0)
def MD_wrongOf (M : Mem) : Option Int32 :=
  LOOP (fun aq sq => MD_wrongOf_L4 M (fun (v1_10 : Int32) => some v1_10) aq sq.1 sq.2) FU (0, 0)
def MD_wrong (v1 : Int32) (M : Mem) : Option (Int32 × Mem) :=
  bnd2 (MD_opens v1 50 M) fun r_1 M1 => if 0 ≤ r_1 then Option.bind (MD_findTies (M1 33 10) M1) fun M2 => Option.bind (MD_wrongOf M2) fun r_2 => some (r_2, M2) else bnd2 (MD_no (-1) M1) fun r_3 M3 => some (r_3, M3)
def MD_least_L66 (v1_1 : Int32) (kx : Int32 → Int32 → Int32 → Mem → Option (Int32 × Mem)) (ag : (Int32 × Int32 × Int32 × Int32 × Mem) → Option (Int32 × Mem)) (v4_1 : Int32) (v5_1 : Int32) (v6_1 : Int32) (v7_1 : Int32) (M3 : Mem) : Option (Int32 × Mem) :=
  if v7_1 = 0 then kx v4_1 v5_1 v6_1 M3 else Option.bind (MD_parts M3) fun r_2 => jp (fun (v4_2 : Int32) (v5_2 : Int32) (v6_2 : Int32) (M4 : Mem) => bnd2 (MD_nextParting M4) fun r_3 M5 => ag (v4_2, v5_2, v6_2, r_3, M5)) fun (k_2 : Int32 → Int32 → Int32 → Mem → Option (Int32 × Mem)) => if r_2 = v1_1 then Option.bind (MD_wrongOf M3) fun r_4 => jp (jp (fun (s_1 : Int32) => bnd2 (MD_number 50 M3) fun r_5 M6 => k_2 r_5 r_4 s_1 M6) fun (k_4 : Int32 → Option (Int32 × Mem)) => if v4_1 = (-9) then k_4 (-1) else k_4 v5_1) fun (k_3 : Option (Int32 × Mem)) => if v4_1 = (-9) then k_3 else if v5_1 ≤ r_4 then if v6_1 < 0 then k_2 v4_1 v5_1 r_4 M3 else if v6_1 ≤ r_4 then k_2 v4_1 v5_1 v6_1 M3 else k_2 v4_1 v5_1 r_4 M3 else k_3 else k_2 v4_1 v5_1 v6_1 M3
def MD_least (v1 : Int32) (v2 : Int32) (M : Mem) : Option (Int32 × Mem) :=
  Option.bind (MD_out v1.toInt64 1 ((M 33 8).toInt64)) fun r_1 => jp (fun (v3_1 : Int32) => if v3_1 = 0 then Option.bind (MD_findTies (M 33 10) M) fun M1 => Option.bind (MD_firstParting M1) fun M2 => LOOP (fun aq sq => MD_least_L66 v1 (fun (v4_3 : Int32) (v5_3 : Int32) (v6_3 : Int32) (M7 : Mem) => if v2 = 0 then some (v4_3, M7) else if v2 = 1 then some (v5_3, M7) else if 0 ≤ v6_3 then some (v6_3 - v5_3, M7) else some ((-9), M7)) aq sq.1 sq.2.1 sq.2.2.1 sq.2.2.2.1 sq.2.2.2.2) FU ((-9), 0, (-1), 1, M2) else bnd2 (MD_no v3_1 M) fun r_6 M8 => some (r_6, M8)) fun (k_1 : Int32 → Option (Int32 × Mem)) => if r_1 = 0 then Option.bind (MD_isIn v2.toInt64 0 2) fun r_7 => if r_7 = 0 then k_1 (-2) else k_1 r_1 else k_1 r_1
def MD_spoils_L106 (v6_3 : Int32) (v7_2 : Int32) (kx : Int32 → Int32 → Mem → Option (Int32 × Mem)) (ag : (Int32 × Int32 × Int32 × Mem) → Option (Int32 × Mem)) (v4_3 : Int32) (v5_3 : Int32) (v8_1 : Int32) (M7 : Mem) : Option (Int32 × Mem) :=
  if 3 ≤ v8_1 then kx v4_3 v5_3 M7 else if v7_2 = v6_3 then kx v4_3 v5_3 M7 else nm (((49 * v8_1) + (7 * v6_3)) + v7_2) fun (v9_1 : Int32) => if inb v9_1 147 then nm (rd M7 49 v9_1) fun (v10_1 : Int32) => jp (fun (s_1 : Int32) => if inb v9_1 147 then nm (wr M7 49 v9_1 s_1) fun (M8 : Mem) => Option.bind (MD_wrongOf M8) fun r_6 => if inb v9_1 147 then nm (wr M8 49 v9_1 v10_1) fun (M9 : Mem) => jp (nm (((100 * v6_3) + (10 * v7_2)) + v8_1) fun (v4_4 : Int32) => ag (v4_4, r_6, v8_1 + 1, M9)) fun (k_2 : Option (Int32 × Mem)) => if v4_3 = (-9) then k_2 else if r_6 < v5_3 then k_2 else ag (v4_3, v5_3, v8_1 + 1, M9) else none else none) fun (k_1 : Int32 → Option (Int32 × Mem)) => if v10_1 ≤ 0 then k_1 1 else k_1 0 else none
def MD_spoils_L94 (v6_2 : Int32) (kx : Int32 → Int32 → Mem → Option (Int32 × Mem)) (ag : (Int32 × Int32 × Int32 × Mem) → Option (Int32 × Mem)) (v4_2 : Int32) (v5_2 : Int32) (v7_1 : Int32) (M6 : Mem) : Option (Int32 × Mem) :=
  if (M6 33 8) ≤ v7_1 then kx v4_2 v5_2 M6 else LOOP (fun aq sq => MD_spoils_L106 v6_2 v7_1 (fun (v4_5 : Int32) (v5_4 : Int32) (M10 : Mem) => ag (v4_5, v5_4, v7_1 + 1, M10)) aq sq.1 sq.2.1 sq.2.2.1 sq.2.2.2) FU (v4_2, v5_2, 0, M6)
def MD_spoils_L82 (kx : Int32 → Int32 → Mem → Option (Int32 × Mem)) (ag : (Int32 × Int32 × Int32 × Mem) → Option (Int32 × Mem)) (v4_1 : Int32) (v5_1 : Int32) (v6_1 : Int32) (M5 : Mem) : Option (Int32 × Mem) :=
  if (M5 33 8) ≤ v6_1 then kx v4_1 v5_1 M5 else LOOP (fun aq sq => MD_spoils_L94 v6_1 (fun (v4_6 : Int32) (v5_5 : Int32) (M11 : Mem) => ag (v4_6, v5_5, v6_1 + 1, M11)) aq sq.1 sq.2.1 sq.2.2.1 sq.2.2.2) FU (v4_1, v5_1, 0, M5)
def MD_spoils (v1 : Int32) (v2 : Int32) (M : Mem) : Option (Int32 × Mem) :=
  bnd2 (MD_opens v1 50 M) fun r_1 M1 => if 0 ≤ r_1 then Option.bind (MD_isIn v2.toInt64 0 1) fun r_2 => if r_2 = 0 then bnd2 (MD_less (-2) M1) fun r_3 M2 => some (r_3, M2) else if (M1 33 8) = 1 then if v2 = 0 then some ((-9), M1) else bnd2 (MD_less (-3) M1) fun r_4 M3 => some (r_4, M3) else Option.bind (MD_findTies (M1 33 10) M1) fun M4 => Option.bind (MD_wrongOf M4) fun r_5 => LOOP (fun aq sq => MD_spoils_L82 (fun (v4_7 : Int32) (v5_6 : Int32) (M12 : Mem) => if v2 = 0 then some (v4_7, M12) else some (r_5 - v5_6, M12)) aq sq.1 sq.2.1 sq.2.2.1 sq.2.2.2) FU ((-9), 0, 0, M4) else bnd2 (MD_less (-1) M1) fun r_7 M13 => some (r_7, M13)
def MD_newcomer (v1 : Int32) (v2 : Int32) (v3 : Int32) (M : Mem) : Option (Int32 × Mem) :=
  Option.bind (MD_isKind v1) fun r_1 => jp (bnd2 (MD_no (-1) M) fun r_2 M1 => some (r_2, M1)) fun (k_1 : Option (Int32 × Mem)) => if r_1 = 0 then k_1 else Option.bind (MD_isPerson v2 M) fun r_3 => if r_3 = 0 then k_1 else if (M 33 33) = 6 then bnd2 (MD_no (-6) M) fun r_4 M2 => some (r_4, M2) else if inb (M 33 33) 6 then nm (wr M 58 (M 33 33) v1) fun (M3 : Mem) => if inb (M3 33 33) 6 then nm (wr M3 59 (M3 33 33) v2) fun (M4 : Mem) => if inb (M4 33 33) 6 then nm (wr M4 60 (M4 33 33) (bz v3)) fun (M5 : Mem) => nm (st2 M5 33 33 ((M5 33 33) + 1)) fun (M6 : Mem) => some (M6 33 33, M6) else none else none else none
def MD_isFit_L13 (v1_2 : Int32) (v2_2 : Int32) (v3_2 : Int32) (M : Mem) (kx : Option Int32) (ag : Int32 → Option Int32) (v4_1 : Int32) : Option Int32 :=
  if (M 33 8) ≤ v4_1 then kx else if inb v3_2 7 then if (rd M 50 v3_2) = v1_2 then if v4_1 = v3_2 then ag (v4_1 + 1) else if inb v4_1 7 then if inb v2_2 6 then if inb (rd M 59 v2_2) 7 then if (rd M 50 v4_1) = (rd M 50 (rd M 59 v2_2)) then if inb v2_2 6 then if (rd M 60 v2_2) = 0 then if inb v2_2 6 then Option.bind (MD_has (rd M 58 v2_2) v4_1 v3_2 M) fun r_1 => if r_1 = 0 then ag (v4_1 + 1) else some 1 else none else if inb v2_2 6 then Option.bind (MD_has (rd M 58 v2_2) v3_2 v4_1 M) fun r_2 => if r_2 = 0 then ag (v4_1 + 1) else some 1 else none else none else ag (v4_1 + 1) else none else none else none else kx else none
def MD_isFit_L2 (v1_1 : Int32) (v2_1 : Int32) (M : Mem) (kx : Option Int32) (ag : Int32 → Option Int32) (v3_1 : Int32) : Option Int32 :=
  if (M 33 8) ≤ v3_1 then kx else LOOP (fun aq sq => MD_isFit_L13 v1_1 v2_1 v3_1 M (ag (v3_1 + 1)) aq sq) FU 0
def MD_isFit (v1 : Int32) (v2 : Int32) (M : Mem) : Option Int32 :=
  LOOP (fun aq sq => MD_isFit_L2 v1 v2 M (some 0) aq sq) FU 0
def MD_fits_L45 (v4_2 : Int32) (M2 : Mem) (kx : Int32 → Option (Int32 × Mem)) (ag : (Int32 × Int32) → Option (Int32 × Mem)) (v5_1 : Int32) (v6_1 : Int32) : Option (Int32 × Mem) :=
  if (M2 33 33) ≤ v6_1 then kx v5_1 else if v5_1 = 0 then ag (0, v6_1 + 1) else Option.bind (MD_isFit v4_2 v6_1 M2) fun r_2 => if r_2 = 0 then ag (0, v6_1 + 1) else ag (1, v6_1 + 1)
def MD_fits_L33 (v2_1 : Int32) (M2 : Mem) (kx : Int32 → Option (Int32 × Mem)) (ag : (Int32 × Int32) → Option (Int32 × Mem)) (v3_1 : Int32) (v4_1 : Int32) : Option (Int32 × Mem) :=
  if v2_1 ≤ v4_1 then kx v3_1 else LOOP (fun aq sq => MD_fits_L45 v4_1 M2 (fun (v5_2 : Int32) => if v5_2 = 0 then nm (v3_1 ||| 0) fun (v3_3 : Int32) => ag (v3_3, v4_1 + 1) else nm (v3_1 ||| (1 <<< (v4_1 &&& 31))) fun (v3_4 : Int32) => ag (v3_4, v4_1 + 1)) aq sq.1 sq.2) FU (1, 0)
def MD_fits (v1 : Int32) (M : Mem) : Option (Int32 × Mem) :=
  bnd2 (MD_opens v1 50 M) fun r_1 M1 => if 0 ≤ r_1 then Option.bind (MD_findTies (M1 33 10) M1) fun M2 => LOOP (fun aq sq => MD_fits_L33 r_1 M2 (fun (v3_5 : Int32) => some (v3_5, M2)) aq sq.1 sq.2) FU (0, 0) else bnd2 (MD_no (-1) M1) fun r_3 M3 => some (r_3, M3)
def MD_gone (M : Mem) : Option (Int32 × Mem) :=
  nm (M 33 33) fun (v1_1 : Int32) => nm (st2 M 33 33 0) fun (M1 : Mem) => some (v1_1, M1)
def MD_coarsestOn (v1 : Int32) (v2 : Int32) (M : Mem) : Option (Int32 × Mem) :=
  Option.bind (MD_findTies v1 M) fun M1 => Option.bind (MD_firstParting M1) fun M2 => bnd2 (MD_splits v2 M2) fun r_1 M3 => some (r_1, M3)
def MD_shift_L117 (M7 : Mem) (kx : Int32 → Option (Int32 × Mem)) (ag : (Int32 × Int32) → Option (Int32 × Mem)) (v9_1 : Int32) (v10_1 : Int32) : Option (Int32 × Mem) :=
  if (M7 33 8) ≤ v10_1 then kx v9_1 else if inb v10_1 7 then if inb (rd M7 50 v10_1) 7 then if inb v10_1 7 then if (rd M7 54 (rd M7 50 v10_1)) = (rd M7 51 v10_1) then nm (v9_1 + 1) fun (v9_2 : Int32) => ag (v9_2, v10_1 + 1) else nm (v9_1 + 0) fun (v9_3 : Int32) => ag (v9_3, v10_1 + 1) else none else none else none
def MD_shift_L106 (kx : Int32 → Mem → Option (Int32 × Mem)) (ag : (Int32 × Int32 × Mem) → Option (Int32 × Mem)) (v7_1 : Int32) (v8_1 : Int32) (M7 : Mem) : Option (Int32 × Mem) :=
  if v8_1 = 0 then kx v7_1 M7 else LOOP (fun aq sq => MD_shift_L117 M7 (fun (v9_4 : Int32) => jp (fun (s_2 : Int32) => bnd2 (MD_nextNames (M7 33 8) M7) fun r_7 M8 => ag (s_2, r_7, M8)) fun (k_2 : Int32 → Option (Int32 × Mem)) => if v9_4 ≤ v7_1 then k_2 v7_1 else k_2 v9_4) aq sq.1 sq.2) FU (0, 0)
def MD_shift (v1 : Int32) (v2 : Int32) (v3 : Int32) (M : Mem) : Option (Int32 × Mem) :=
  Option.bind (MD_isSameness v3) fun r_1 => if r_1 = 0 then bnd2 (MD_no (-1) M) fun r_2 M1 => some (r_2, M1) else jp (fun (s_1 : Int32) => if s_1 = 0 then bnd2 (MD_coarsestOn v1 v3 M) fun r_3 M2 => bnd2 (MD_coarsestOn v2 v3 M2) fun r_4 M3 => bnd2 (MD_opens r_3 50 M3) fun r_5 M4 => bnd2 (MD_opens r_4 51 M4) fun r_6 M5 => Option.bind (MD_firstNames M5) fun M6 => LOOP (fun aq sq => MD_shift_L106 (fun (v7_3 : Int32) (M9 : Mem) => some ((M9 33 8) - v7_3, M9)) aq sq.1 sq.2.1 sq.2.2) FU (0, 1, M6) else bnd2 (MD_no s_1 M) fun r_8 M10 => some (r_8, M10)) fun (k_1 : Int32 → Option (Int32 × Mem)) => if v1 < 0 then k_1 (-4) else if 0 ≤ v2 then if 100 < v1 then k_1 (-6) else if v2 ≤ 100 then k_1 0 else k_1 (-6) else k_1 (-4)
def MD_stays_L44 (v1_1 : Int32) (v2_1 : Int32) (v4_1 : Int32) (kx : Int32 → Mem → Option (Int32 × Mem)) (ag : (Int32 × Mem) → Option (Int32 × Mem)) (v5_1 : Int32) (M3 : Mem) : Option (Int32 × Mem) :=
  if 100 < (v1_1 + v5_1) then kx v5_1 M3 else bnd2 (MD_coarsestOn (v1_1 + v5_1) v2_1 M3) fun r_5 M4 => if r_5 = v4_1 then ag (v5_1 + 1, M4) else kx v5_1 M4
def MD_stays (v1 : Int32) (v2 : Int32) (M : Mem) : Option (Int32 × Mem) :=
  Option.bind (MD_isSameness v2) fun r_1 => if r_1 = 0 then bnd2 (MD_no (-1) M) fun r_2 M1 => some (r_2, M1) else Option.bind (MD_out v1.toInt64 0 100) fun r_3 => if r_3 = 0 then bnd2 (MD_coarsestOn v1 v2 M) fun r_4 M2 => LOOP (fun aq sq => MD_stays_L44 v1 v2 r_4 (fun (v5_2 : Int32) (M5 : Mem) => some (v5_2, M5)) aq sq.1 sq.2) FU (1, M2) else bnd2 (MD_no r_3 M) fun r_6 M6 => some (r_6, M6)
def MD_count_L84 (M1 : Mem) (kx : Int32 → Option (Int32 × Mem)) (ag : (Int32 × Int32) → Option (Int32 × Mem)) (v2_1 : Int32) (v3_1 : Int32) : Option (Int32 × Mem) :=
  if 147 ≤ v3_1 then kx v2_1 else if inb v3_1 147 then if (rd M1 49 v3_1) ≤ 0 then nm (v2_1 + 0) fun (v2_2 : Int32) => ag (v2_2, v3_1 + 1) else nm (v2_1 + 1) fun (v2_3 : Int32) => ag (v2_3, v3_1 + 1) else none
def MD_count (v1 : Int32) (M : Mem) : Option (Int32 × Mem) :=
  Option.bind (MD_isIn v1.toInt64 11 16) fun r_1 => if r_1 = 0 then if v1 = 0 then some (M 33 8, M) else if v1 = 1 then some (M 33 9, M) else if v1 = 2 then Option.bind (MD_findTies (M 33 10) M) fun M1 => LOOP (fun aq sq => MD_count_L84 M1 (fun (v2_4 : Int32) => some (v2_4, M1)) aq sq.1 sq.2) FU (0, 0) else if v1 = 3 then some (M 33 10, M) else if v1 = 4 then some (M 33 12, M) else if v1 = 5 then some (M 33 33, M) else some ((-9), M) else if inb (v1 - 10) 7 then some (rd M 34 (v1 - 10), M) else none
