/-! ===== the small machine: a heap is a list of cells, a reference is a place in it; places from 1000000 on are constants ===== -/
abbrev am_C : Type := (FieldType × vp_A) ⊕ (Nat × List Value)
abbrev am_H : Type := List am_C
abbrev am_L : Type := List (Option Value)
/-- what a run is given: the script, and a value that is never looked at -/
abbrev am_E : Type := (Nat × (Nat → Int32)) × Value
def am_get : am_L → Nat → Option Value
  | [], _ => none
  | o :: _, 0 => o
  | _ :: r, i + 1 => am_get r i
def am_c2 (o : Option Value) : Bool := match o with
  | some v => v.category == 2
  | none => false
def am_put1 : am_L → Nat → Value → Option am_L
  | [], _, _ => none
  | _ :: r, 0, v => some (some v :: r)
  | o :: r, i + 1, v => match am_put1 r i v with
    | some r' => some ((bif (i == 0 && am_c2 o) then none else o) :: r')
    | none => none
def am_put2 : am_L → Nat → Value → Option am_L
  | [], _, _ => none
  | _ :: r, 0, v => match r with
    | _ :: r' => some (some v :: none :: r')
    | [] => none
  | o :: r, i + 1, v => match am_put2 r i v with
    | some r' => some ((bif (i == 0 && am_c2 o) then none else o) :: r')
    | none => none
def am_sl (vs : List Value) : am_L := vs.flatMap fun v => if v.category = 2 then [some v, none] else [some v]
def am_entry (vs : List Value) (n : Nat) : am_L := am_sl vs ++ List.replicate (n - (am_sl vs).length) none
def am_sx (j : Nat) : Int32 := ([0, 1, 0, -1] : List Int32).getD j 0
def am_sy (j : Nat) : Int32 := ([-1, 0, 1, 0] : List Int32).getD j 0
/-- a constant row -/
def am_rd (E : am_E) (a : Nat) : Option (FieldType × vp_A) :=
  if a = 1002000 then some (.int, E.1.1, .inl E.1.2)
  else if a = 1001000 then some (.int, 4, .inl am_sx)
  else if a = 1001001 then some (.int, 4, .inl am_sy)
  else if a % 2 = 1 then (match am_txt[(a - 1000000) / 2]? with
    | some q => some (.byte, q.2.2.2.1.length, .inl (fun j => q.2.2.2.1.getD j 0))
    | none => none)
  else none
def am_arr (E : am_E) (h : am_H) (a : Nat) : Option (FieldType × vp_A) :=
  if a < 1000000 then (match h[a]? with
    | some (.inl x) => some x
    | _ => none)
  else am_rd E a
/-- the class of what a reference names -/
def am_clsOf (h : am_H) (a : Nat) : Option Nat :=
  if a < 1000000 then (match h[a]? with
    | some (.inr q) => some q.1
    | _ => none)
  else if a % 2 = 0 ∧ (a - 1000000) / 2 < 27 then some 11 else none
def am_own1 (M : Nat) : Nat := am_ows.getD M 0
def am_fld (o idx : Nat) : Option (Nat × Nat × Nat) := (am_fldT.getD o []).lookup idx
def am_mth (o idx : Nat) : Option (Nat × Nat × Nat) := (am_mthT.getD o []).lookup idx
def am_new (o idx : Nat) : Option (Nat × Nat × Nat × Nat) := (am_newT.getD o []).lookup idx
def am_mna (o idx : Nat) : Option (FieldType × Nat) := (am_mnaT.getD o []).lookup idx
def am_lng (o idx : Nat) : Option (Int64 × Nat) := (am_lngT.getD o []).lookup idx
def am_str (o idx : Nat) : Option Nat := (am_strT.getD o []).lookup idx
def am_code (M pc : Nat) : Option Instr := (am_codes.getD M []).lookup pc
/-- a static: the texts are of one byte a sign; a value that nobody looks at; the steps of a side -/
def am_sta (E : am_E) (o idx : Nat) : Option Value :=
  if o = 11 ∧ idx = 38 then some (.int 1)
  else if o = 11 ∧ idx = 1053 then some E.2
  else if o = 7 ∧ idx = 121 then some (.ref 1001000)
  else if o = 7 ∧ idx = 124 then some (.ref 1001001)
  else none
def am_dflt (ci : Nat) : List Value := match am_cls[ci]?, am_tys[ci]? with
  | some q, some t => (List.range q.2.2).map (fun k => defaultValue (t k))
  | _, _ => []
def am_cmp (c : ClassFile.Cond) (x y : Int32) : Bool := match c with
  | .eq => decide (x = y)
  | .ne => !decide (x = y)
  | .lt => decide (x < y)
  | .ge => decide (y ≤ x)
  | .gt => decide (y < x)
  | .le => decide (x ≤ y)
def am_tg (pc : Nat) (off : Int) : Option Nat := if 0 ≤ (pc : Int) + off then some ((pc : Int) + off).toNat else none
abbrev am_R : Type := Option (Nat × am_L × List Value × am_H)
def am_to (t : Option Nat) (L : am_L) (st : List Value) (h : am_H) : am_R := match t with
  | some pc => some (pc, L, st, h)
  | none => none
def am_br (b : Bool) (pc : Nat) (off : Int) (L : am_L) (st : List Value) (h : am_H) : am_R :=
  match am_tg pc off with
  | some t => some (bif b then t else pc + 3, L, st, h)
  | none => none
def am_ldi (L : am_L) (k pc : Nat) (st : List Value) (h : am_H) : am_R := match am_get L k with
  | some (.int x) => some (pc, L, .int x :: st, h)
  | _ => none
def am_ldl (L : am_L) (k pc : Nat) (st : List Value) (h : am_H) : am_R := match am_get L k with
  | some (.long x) => some (pc, L, .long x :: st, h)
  | _ => none
def am_lda (L : am_L) (k pc : Nat) (st : List Value) (h : am_H) : am_R := match am_get L k with
  | some (.ref x) => some (pc, L, .ref x :: st, h)
  | some .null => some (pc, L, .null :: st, h)
  | _ => none
def am_sto (L : Option am_L) (pc : Nat) (st : List Value) (h : am_H) : am_R := match L with
  | some L' => some (pc, L', st, h)
  | none => none
def am_sti (L : am_L) (k pc : Nat) (st : List Value) (h : am_H) : am_R := match st with
  | .int x :: r => am_sto (am_put1 L k (.int x)) pc r h
  | _ => none
def am_stl (L : am_L) (k pc : Nat) (st : List Value) (h : am_H) : am_R := match st with
  | .long x :: r => am_sto (am_put2 L k (.long x)) pc r h
  | _ => none
def am_sta1 (L : am_L) (k pc : Nat) (st : List Value) (h : am_H) : am_R := match st with
  | .ref x :: r => am_sto (am_put1 L k (.ref x)) pc r h
  | .null :: r => am_sto (am_put1 L k .null) pc r h
  | _ => none
def am_ii (f : Int32 → Int32 → Int32) (pc : Nat) (L : am_L) (st : List Value) (h : am_H) : am_R := match st with
  | .int y :: .int x :: r => some (pc + 1, L, .int (f x y) :: r, h)
  | _ => none
def am_dv (f : Int32 → Int32 → Int32) (pc : Nat) (L : am_L) (st : List Value) (h : am_H) : am_R := match st with
  | .int y :: .int x :: r => if y = 0 then none else some (pc + 1, L, .int (f x y) :: r, h)
  | _ => none
def am_ll (f : Int64 → Int64 → Int64) (pc : Nat) (L : am_L) (st : List Value) (h : am_H) : am_R := match st with
  | .long y :: .long x :: r => some (pc + 1, L, .long (f x y) :: r, h)
  | _ => none
def am_li (f : Int64 → Int32 → Int64) (pc : Nat) (L : am_L) (st : List Value) (h : am_H) : am_R := match st with
  | .int y :: .long x :: r => some (pc + 1, L, .long (f x y) :: r, h)
  | _ => none
def am_i1 (f : Int32 → Value) (pc : Nat) (L : am_L) (st : List Value) (h : am_H) : am_R := match st with
  | .int x :: r => some (pc + 1, L, f x :: r, h)
  | _ => none
/-- a place in a row -/
def am_inb (i : Int32) (n : Nat) : Bool := !(decide (i < 0) || decide (n ≤ i.toNatClampNeg))
def am_rdi (x : Option (FieldType × vp_A)) (i : Int32) (pc : Nat) (L : am_L) (r : List Value) (h : am_H) : am_R := match x with
  | some (.int, n, .inl f) => bif am_inb i n then some (pc + 1, L, .int (f i.toNatClampNeg) :: r, h) else none
  | _ => none
def am_rdb (x : Option (FieldType × vp_A)) (i : Int32) (pc : Nat) (L : am_L) (r : List Value) (h : am_H) : am_R := match x with
  | some (.byte, n, .inl f) => bif am_inb i n then some (pc + 1, L, .int (f i.toNatClampNeg) :: r, h) else none
  | some (.boolean, n, .inl f) => bif am_inb i n then some (pc + 1, L, .int (f i.toNatClampNeg) :: r, h) else none
  | _ => none
def am_rdl (x : Option (FieldType × vp_A)) (i : Int32) (pc : Nat) (L : am_L) (r : List Value) (h : am_H) : am_R := match x with
  | some (.long, n, .inr (.inl f)) => bif am_inb i n then some (pc + 1, L, .long (f i.toNatClampNeg) :: r, h) else none
  | _ => none
def am_rda (x : Option am_C) (i : Int32) (pc : Nat) (L : am_L) (r : List Value) (h : am_H) : am_R := match x with
  | some (.inl (.object _, n, .inr (.inr (.inr (.inr f))))) => bif am_inb i n then some (pc + 1, L, va_rf (f i.toNatClampNeg) :: r, h) else none
  | some (.inl (.array _, n, .inr (.inr (.inr (.inr f))))) => bif am_inb i n then some (pc + 1, L, va_rf (f i.toNatClampNeg) :: r, h) else none
  | _ => none
def am_wri (a : Nat) (i x : Int32) (pc : Nat) (L : am_L) (r : List Value) (h : am_H) : am_R := match h[a]? with
  | some (.inl (.int, n, .inl f)) => bif am_inb i n then some (pc + 1, L, r, h.set a (.inl (.int, n, .inl (upd f i.toNatClampNeg x)))) else none
  | _ => none
def am_wrb (a : Nat) (i x : Int32) (pc : Nat) (L : am_L) (r : List Value) (h : am_H) : am_R := match h[a]? with
  | some (.inl (.byte, n, .inl f)) => bif am_inb i n then some (pc + 1, L, r, h.set a (.inl (.byte, n, .inl (upd f i.toNatClampNeg (vp_nar .byte x))))) else none
  | some (.inl (.boolean, n, .inl f)) => bif am_inb i n then some (pc + 1, L, r, h.set a (.inl (.boolean, n, .inl (upd f i.toNatClampNeg (vp_nar .boolean x))))) else none
  | _ => none
def am_wrl (a : Nat) (i : Int32) (x : Int64) (pc : Nat) (L : am_L) (r : List Value) (h : am_H) : am_R := match h[a]? with
  | some (.inl (.long, n, .inr (.inl f))) => bif am_inb i n then some (pc + 1, L, r, h.set a (.inl (.long, n, .inr (.inl (vp_updL f i.toNatClampNeg x))))) else none
  | _ => none
def am_wra (a : Nat) (i : Int32) (v : Nat) (pc : Nat) (L : am_L) (r : List Value) (h : am_H) : am_R := match h[a]?, h[v]? with
  | some (.inl (.object C, n, .inr (.inr (.inr (.inr f))))), some (.inr (ci, _)) =>
    bif am_inb i n && decide ((am_cls[ci]?).map (fun q => q.1) = some C) then some (pc + 1, L, r, h.set a (.inl (.object C, n, .inr (.inr (.inr (.inr (va_up f i.toNatClampNeg (some v)))))))) else none
  | _, _ => none
/-- a field is read -/
def am_gf (o idx a : Nat) (h : am_H) : Option Value :=
  if a < 1000000 then (match am_fld o idx, h[a]? with
    | some q, some (.inr (ci, fs)) => if ci = q.1 then fs[q.2.1]? else none
    | _, _ => none)
  else if o = 11 ∧ a % 2 = 0 ∧ (a - 1000000) / 2 < 27 then (if idx = 9 then some (.ref (a + 1)) else if idx = 15 then some (.int 0) else none)
  else none
/-- may a method write this field, of this type, with this value? -/
def am_mayput (M ci k : Nat) (v : Value) : Bool := match am_cls[ci]?, am_tys[ci]? with
  | some q, some t => decide (k < q.2.2) && decide (narrow (t k) v = v) && fits (t k) v &&
    (!(q.2.1 k).2.2.2 || (decide (am_srts.getD M 0 = 2) && decide ((q.2.1 k).1 = am_own.getD (am_own1 M) "")))
  | _, _ => false
def am_pf (M idx a : Nat) (v : Value) (h : am_H) : Option am_H := match am_fld (am_own1 M) idx, h[a]? with
  | some q, some (.inr (ci, fs)) => if ci = q.1 ∧ q.2.1 < fs.length ∧ am_mayput M ci q.2.1 v = true then some (h.set a (.inr (ci, fs.set q.2.1 v))) else none
  | _, _ => none
def am_zero (ty : FieldType) : Option vp_A := match ty with
  | .int => some (0, .inl (fun _ => 0))
  | .byte => some (0, .inl (fun _ => 0))
  | .boolean => some (0, .inl (fun _ => 0))
  | .long => some (0, .inr (.inl (fun _ => 0)))
  | _ => none
/-- a row of n default values of a type -/
def am_blank (ty : FieldType) (n : Nat) : Option am_C := match am_zero ty with
  | some z => some (.inl (ty, n, z.2))
  | none => none
def am_grow (c : Option am_C) (pc : Nat) (L : am_L) (r : List Value) (h : am_H) : am_R := match c with
  | some c => if h.length < 1000000 then some (pc, L, .ref h.length :: r, h ++ [c]) else none
  | none => none
/-- the rows of new T[n][m] -/
def am_rows (ty : FieldType) (n m : Nat) (b : Nat) : Option am_H := match am_blank ty m with
  | some z => some (.inl (.array ty, n, .inr (.inr (.inr (.inr (fun i => if i < n then some (b + 1 + i) else none))))) :: List.replicate n z)
  | none => none
def am_mn (o idx : Nat) (n m : Int32) (pc : Nat) (L : am_L) (r : List Value) (h : am_H) : am_R := match am_mna o idx with
  | some q => if ¬ n < 0 ∧ ¬ m < 0 ∧ n.toNatClampNeg ≤ 1000 ∧ m.toNatClampNeg ≤ 1000 ∧ h.length + n.toNatClampNeg < 1000000 then (match am_rows q.1 n.toNatClampNeg m.toNatClampNeg h.length with
      | some z => some (pc + 4, L, .ref h.length :: r, h ++ z)
      | none => none) else none
  | none => none
/-- an instruction that is neither a call nor a return -/
def am_s (E : am_E) (M : Nat) (i : Instr) (pc : Nat) (L : am_L) (st : List Value) (h : am_H) : am_R :=
  match i with
  | .iconst n => some (pc + 1, L, .int (Int32.ofInt n) :: st, h)
  | .bipush n => some (pc + 2, L, .int (Int8.ofInt n).toInt32 :: st, h)
  | .sipush n => some (pc + 3, L, .int (Int16.ofInt n).toInt32 :: st, h)
  | .lconst n => some (pc + 1, L, .long (Int64.ofNat (n : Nat)) :: st, h)
  | .aconst_null => some (pc + 1, L, .null :: st, h)
  | .ldc idx => (match am_str (am_own1 M) idx with
    | some k => some (pc + 2, L, .ref (1000000 + 2 * k) :: st, h)
    | none => none)
  | .ldc_w idx => (match am_str (am_own1 M) idx with
    | some k => some (pc + 3, L, .ref (1000000 + 2 * k) :: st, h)
    | none => none)
  | .ldc2_w idx => (match am_lng (am_own1 M) idx with
    | some q => some (pc + 3, L, .long q.1 :: st, h)
    | none => none)
  | .iload_n k => am_ldi L k (pc + 1) st h
  | .iload k => am_ldi L k (pc + 2) st h
  | .lload_n k => am_ldl L k (pc + 1) st h
  | .lload k => am_ldl L k (pc + 2) st h
  | .aload_n k => am_lda L k (pc + 1) st h
  | .aload k => am_lda L k (pc + 2) st h
  | .istore_n k => am_sti L k (pc + 1) st h
  | .istore k => am_sti L k (pc + 2) st h
  | .lstore_n k => am_stl L k (pc + 1) st h
  | .lstore k => am_stl L k (pc + 2) st h
  | .astore_n k => am_sta1 L k (pc + 1) st h
  | .astore k => am_sta1 L k (pc + 2) st h
  | .iinc k n => (match am_get L k with
    | some (.int x) => am_sto (am_put1 L k (.int (x + Int32.ofInt n))) (pc + 3) st h
    | _ => none)
  | .dup => (match st with
    | v :: r => if v.category = 1 then some (pc + 1, L, v :: v :: r, h) else none
    | _ => none)
  | .dup2 => (match st with
    | v :: w :: r => if v.category = 1 ∧ w.category = 1 then some (pc + 1, L, v :: w :: v :: w :: r, h) else none
    | _ => none)
  | .pop => (match st with
    | v :: r => if v.category = 1 then some (pc + 1, L, r, h) else none
    | _ => none)
  | .iadd => am_ii (fun x y => x + y) pc L st h
  | .isub => am_ii (fun x y => x - y) pc L st h
  | .imul => am_ii (fun x y => x * y) pc L st h
  | .iand => am_ii (fun x y => x &&& y) pc L st h
  | .ior => am_ii (fun x y => x ||| y) pc L st h
  | .ixor => am_ii (fun x y => x ^^^ y) pc L st h
  | .ishl => am_ii (fun x y => x <<< (y &&& 31)) pc L st h
  | .ishr => am_ii (fun x y => x >>> (y &&& 31)) pc L st h
  | .iushr => am_ii (fun x y => (x.toUInt32 >>> (y.toUInt32 &&& Int32.toUInt32 31)).toInt32) pc L st h
  | .idiv => am_dv (fun x y => x / y) pc L st h
  | .irem => am_dv (fun x y => x - x / y * y) pc L st h
  | .ineg => am_i1 (fun x => .int (-x)) pc L st h
  | .i2l => am_i1 (fun x => .long x.toInt64) pc L st h
  | .i2b => am_i1 (fun x => .int x.toInt8.toInt32) pc L st h
  | .i2c => am_i1 (fun x => .int (x.toUInt32 % 65536).toInt32) pc L st h
  | .ladd => am_ll (fun x y => x + y) pc L st h
  | .lsub => am_ll (fun x y => x - y) pc L st h
  | .lmul => am_ll (fun x y => x * y) pc L st h
  | .land => am_ll (fun x y => x &&& y) pc L st h
  | .lor => am_ll (fun x y => x ||| y) pc L st h
  | .lshl => am_li (fun x y => x <<< (y.toInt64 &&& 63)) pc L st h
  | .lshr => am_li (fun x y => x >>> (y.toInt64 &&& 63)) pc L st h
  | .lushr => am_li (fun x y => (x.toUInt64 >>> (y.toInt64.toUInt64 &&& Int64.toUInt64 63)).toInt64) pc L st h
  | .ldiv => (match st with
    | .long y :: .long x :: r => if y = 0 then none else some (pc + 1, L, .long (x / y) :: r, h)
    | _ => none)
  | .lneg => (match st with
    | .long x :: r => some (pc + 1, L, .long (-x) :: r, h)
    | _ => none)
  | .lcmp => (match st with
    | .long y :: .long x :: r => some (pc + 1, L, .int (lg_cmp x y) :: r, h)
    | _ => none)
  | .ifCond c off => (match st with
    | .int x :: r => am_br (am_cmp c x 0) pc off L r h
    | _ => none)
  | .if_icmp c off => (match st with
    | .int y :: .int x :: r => am_br (am_cmp c x y) pc off L r h
    | _ => none)
  | .ifnull off => (match st with
    | .null :: r => am_br true pc off L r h
    | .ref _ :: r => am_br false pc off L r h
    | _ => none)
  | .ifnonnull off => (match st with
    | .null :: r => am_br false pc off L r h
    | .ref _ :: r => am_br true pc off L r h
    | _ => none)
  | .goto off => am_to (am_tg pc off) L st h
  | .tableswitch dflt lo hi offs => (match st with
    | .int x :: r => if x.toInt < lo ∨ hi < x.toInt then am_to (am_tg pc dflt) L r h else (match offs[(x.toInt - lo).toNat]? with
      | some off => am_to (am_tg pc off) L r h
      | none => none)
    | _ => none)
  | .getfield idx => (match st with
    | .ref a :: r => (match am_gf (am_own1 M) idx a h with
      | some v => some (pc + 3, L, v :: r, h)
      | none => none)
    | _ => none)
  | .putfield idx => (match st with
    | v :: .ref a :: r => (match am_pf M idx a v h with
      | some h' => some (pc + 3, L, r, h')
      | none => none)
    | _ => none)
  | .getstatic idx => (match am_sta E (am_own1 M) idx with
    | some v => some (pc + 3, L, v :: st, h)
    | none => none)
  | .iaload => (match st with
    | .int i :: .ref a :: r => am_rdi (am_arr E h a) i pc L r h
    | _ => none)
  | .baload => (match st with
    | .int i :: .ref a :: r => am_rdb (am_arr E h a) i pc L r h
    | _ => none)
  | .laload => (match st with
    | .int i :: .ref a :: r => am_rdl (am_arr E h a) i pc L r h
    | _ => none)
  | .aaload => (match st with
    | .int i :: .ref a :: r => am_rda h[a]? i pc L r h
    | _ => none)
  | .iastore => (match st with
    | .int x :: .int i :: .ref a :: r => am_wri a i x pc L r h
    | _ => none)
  | .bastore => (match st with
    | .int x :: .int i :: .ref a :: r => am_wrb a i x pc L r h
    | _ => none)
  | .lastore => (match st with
    | .long x :: .int i :: .ref a :: r => am_wrl a i x pc L r h
    | _ => none)
  | .aastore => (match st with
    | .ref v :: .int i :: .ref a :: r => am_wra a i v pc L r h
    | _ => none)
  | .arraylength => (match st with
    | .ref a :: r => (match am_arr E h a with
      | some q => some (pc + 1, L, .int (Int32.ofNat q.2.1) :: r, h)
      | none => none)
    | _ => none)
  | .newarray t => (match st with
    | .int n :: r => if n < 0 ∨ 10000 < n.toNatClampNeg then none else am_grow (am_blank (newarray.typeOf t) n.toNatClampNeg) (pc + 2) L r h
    | _ => none)
  | .anewarray idx => (match st with
    | .int n :: r => if n < 0 ∨ 10000 < n.toNatClampNeg then none else (match am_new (am_own1 M) idx with
      | some q => if q.1 = 3 then am_grow ((am_cls[q.1]?).map fun c => .inl (.object c.1, n.toNatClampNeg, .inr (.inr (.inr (.inr (fun _ => none)))))) (pc + 3) L r h else none
      | none => none)
    | _ => none)
  | .multianewarray idx dims => (match st with
    | .int m :: .int n :: r => if dims = 2 then am_mn (am_own1 M) idx n m pc L r h else none
    | _ => none)
  | .new idx => (match am_new (am_own1 M) idx with
    | some q => am_grow (some (.inr (q.1, am_dflt q.1))) (pc + 3) L st h
    | none => none)
  | .invokespecial idx => (match am_mth (am_own1 M) idx, st with
    | some q, .ref _ :: r => if q.1 = 9999 ∧ (r.map fun v => v.category).sum ≤ 8 then some (pc + 3, L, r, h) else none
    | _, _ => none)
  | _ => none
/-- a call: the method, its arguments, what stays on the stack -/
def am_cl (M : Nat) (i : Instr) (st : List Value) (h : am_H) : Option (Nat × List Value × List Value) :=
  match i with
  | .invokevirtual idx => (match am_mth (am_own1 M) idx with
    | some q => (match (st.drop (am_nps.getD q.1 0)) with
      | .ref b :: r => if am_srts.getD q.1 9 = 0 ∧ am_nps.getD q.1 0 ≤ st.length ∧ am_clsOf h b = some (am_own1 q.1) ∧ (r.map fun v => v.category).sum ≤ 8 ∧ (am_sl (.ref b :: (st.take (am_nps.getD q.1 0)).reverse)).length ≤ am_mls.getD q.1 0 then some (q.1, .ref b :: (st.take (am_nps.getD q.1 0)).reverse, r) else none
      | _ => none)
    | none => none)
  | .invokespecial idx => (match am_mth (am_own1 M) idx with
    | some q => (match (st.drop (am_nps.getD q.1 0)) with
      | .ref b :: r => if am_srts.getD q.1 9 = 2 ∧ am_nps.getD q.1 0 ≤ st.length ∧ (r.map fun v => v.category).sum ≤ 8 ∧ (am_sl (.ref b :: (st.take (am_nps.getD q.1 0)).reverse)).length ≤ am_mls.getD q.1 0 then some (q.1, .ref b :: (st.take (am_nps.getD q.1 0)).reverse, r) else none
      | _ => none)
    | none => none)
  | .invokestatic idx => (match am_mth (am_own1 M) idx with
    | some q => if am_srts.getD q.1 9 = 1 ∧ am_nps.getD q.1 0 ≤ st.length ∧ ((st.drop (am_nps.getD q.1 0)).map fun v => v.category).sum ≤ 8 ∧ (am_sl (st.take (am_nps.getD q.1 0)).reverse).length ≤ am_mls.getD q.1 0 then some (q.1, (st.take (am_nps.getD q.1 0)).reverse, st.drop (am_nps.getD q.1 0)) else none
    | none => none)
  | _ => none
/-- a return: its answer -/
def am_rt (M : Nat) (i : Instr) (st : List Value) : Option (Option Value) :=
  match i, st with
  | .ireturn, [.int v] => (match am_rets.getD M none with
    | some ty => if narrow ty (.int v) = .int v then some (some (.int v)) else none
    | none => none)
  | .lreturn, [.long v] => if am_rets.getD M none = some .long then some (some (.long v)) else none
  | .areturn, [.ref a] => (match am_rets.getD M none with
    | some (.object _) => some (some (.ref a))
    | _ => none)
  | .areturn, [.null] => (match am_rets.getD M none with
    | some (.object _) => some (some .null)
    | _ => none)
  | .return_, [] => if am_rets.getD M none = none then some none else none
  | _, _ => none
/-- n: how many steps, d: how many calls may stand open -/
def am_exec (E : am_E) : Nat → Nat → Nat → Nat → am_L → List Value → am_H → Option (Option Value × am_H)
  | 0, _, _, _, _, _, _ => none
  | n + 1, d, M, pc, L, st, h => match am_code M pc with
    | none => none
    | some i => (match am_s E M i pc L st h with
      | some q => am_exec E n d M q.1 q.2.1 q.2.2.1 q.2.2.2
      | none => (match am_rt M i st with
        | some r => some (r, h)
        | none => (match am_cl M i st h, d with
          | some q, d' + 1 => (match am_exec E n d' q.1 0 (am_entry q.2.1 (am_mls.getD q.1 0)) [] h with
            | some w => am_exec E n (d' + 1) M (pc + 3) L (w.1.toList ++ q.2.2) w.2
            | none => none)
          | _, _ => none)))
