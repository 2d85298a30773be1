/-! A RUN WITH NAMES FOR WHAT IS NOT KNOWN: a program over small data that goes through a method's rows and says 'true' only where every road ends well; what it says is proved of the machine behind. A value: (kind, constant, name); kinds 0 int, 1 long (both: the name's number plus the constant), 2 null, 3 a cell of the run's own, 4 one from before, 5 the float 0, 6 the double 0. A cell: (kind, class or type, length, contents). -/
abbrev sV : Type := Nat × Int × Nat
abbrev sE : Type := Nat × Nat × Nat × List (Nat × sV)
abbrev sI : Type := List (Int × Int)
abbrev sL : Type := List (Nat × sV)
abbrev sN : Type := Nat × Instr × Nat × List Nat
abbrev sM : Type := Nat × Nat × Nat × Nat × Nat × List (Nat × Nat × Nat × Nat)
abbrev sZ : Type := Nat × sV × List sE × sI
abbrev sP : Type := (Nat → List sN) × (Nat → sM) × (Nat → List (Nat × sV))
abbrev sF : Type := Nat → Nat → sL → List sV → List sE → sI → Nat → Nat → (sZ → Bool) → Bool
def s_pos (d : Int) : Bool := match d with
  | .ofNat (_ + 1) => true
  | _ => false
def s_ilt (a b : Int) : Bool := s_pos (b - a)
def s_ile (a b : Int) : Bool := !s_ilt b a
def s_lo (iv : sI) (x : sV) : Int := (iv.getD x.2.2 (0, 0)).1 + x.2.1
def s_hi (iv : sI) (x : sV) : Int := (iv.getD x.2.2 (0, 0)).2 + x.2.1
def s_isk (iv : sI) (x : sV) : Bool := s_ile (s_hi iv x) (s_lo iv x)
def s_not (b : Option Bool) : Option Bool := match b with
  | some true => some false
  | some false => some true
  | none => none
def s_dlt (iv : sI) (x y : sV) : Option Bool := match s_ilt (s_hi iv x) (s_lo iv y) with
  | true => some true
  | false => match s_ile (s_hi iv y) (s_lo iv x) with
    | true => some false
    | false => none
def s_deq (iv : sI) (x y : sV) : Option Bool := match s_ilt (s_hi iv x) (s_lo iv y) || s_ilt (s_hi iv y) (s_lo iv x) with
  | true => some false
  | false => match s_isk iv x && s_isk iv y with
    | true => some true
    | false => none
def s_dec (o : Jvm.ClassFile.Cond) (iv : sI) (x y : sV) : Option Bool := match o with
  | .eq => s_deq iv x y
  | .ne => s_not (s_deq iv x y)
  | .lt => s_dlt iv x y
  | .ge => s_not (s_dlt iv x y)
  | .gt => s_dlt iv y x
  | .le => s_not (s_dlt iv y x)
def s_cutl (iv : sI) (x y : sV) : Nat × Int := match s_isk iv y with
  | true => (x.2.2, s_lo iv y - x.2.1)
  | false => match s_isk iv x with
    | true => (y.2.2, s_lo iv x + 1 - y.2.1)
    | false => match s_ile (s_hi iv x - s_lo iv x) (s_hi iv y - s_lo iv y) with
      | true => (x.2.2, (iv.getD x.2.2 (0, 0)).1 + 1)
      | false => (y.2.2, (iv.getD y.2.2 (0, 0)).1 + 1)
def s_cute (iv : sI) (x y : sV) : Nat × Int := match s_isk iv y with
  | true => match s_ilt (iv.getD x.2.2 (0, 0)).1 (s_lo iv y - x.2.1) with
    | true => (x.2.2, s_lo iv y - x.2.1)
    | false => (x.2.2, s_lo iv y - x.2.1 + 1)
  | false => match s_isk iv x with
    | true => match s_ilt (iv.getD y.2.2 (0, 0)).1 (s_lo iv x - y.2.1) with
      | true => (y.2.2, s_lo iv x - y.2.1)
      | false => (y.2.2, s_lo iv x - y.2.1 + 1)
    | false => (x.2.2, (iv.getD x.2.2 (0, 0)).1 + 1)
def s_cut (o : Jvm.ClassFile.Cond) (iv : sI) (x y : sV) : Nat × Int := match o with
  | .eq => s_cute iv x y
  | .ne => s_cute iv x y
  | .lt => s_cutl iv x y
  | .ge => s_cutl iv x y
  | .gt => s_cutl iv y x
  | .le => s_cutl iv y x
def s_r32 (iv : sI) (x : sV) : Bool := s_ile (-2147483648) (s_lo iv x) && s_ile (s_hi iv x) 2147483647
def s_r64 (iv : sI) (x : sV) : Bool := s_ile (-9223372036854775808) (s_lo iv x) && s_ile (s_hi iv x) 9223372036854775807
def s_rg (a b : Int) (iv : sI) (x : sV) : Bool := s_ile a (s_lo iv x) && s_ile (s_hi iv x) b
def s_tag (t : Nat) (x : sV) : Bool := Nat.beq x.1 t
def s_find : List sN → Nat → Option sN
  | [], _ => none
  | e :: r, pc => match Nat.beq e.1 pc with
    | true => some e
    | false => s_find r pc
def s_get : sL → Nat → Option sV
  | [], _ => none
  | e :: r, i => match Nat.beq e.1 i with
    | true => some e.2
    | false => s_get r i
/-- a sum: one of the two is a number -/
def s_add (iv : sI) (x y : sV) : Option sV := match s_isk iv y with
  | true => some (x.1, x.2.1 + s_lo iv y, x.2.2)
  | false => match s_isk iv x with
    | true => some (x.1, y.2.1 + s_lo iv x, y.2.2)
    | false => none
def s_sub (iv : sI) (x y : sV) : Option sV := match s_isk iv y with
  | true => some (x.1, x.2.1 - s_lo iv y, x.2.2)
  | false => none
def s_mul (iv : sI) (x y : sV) : Option sV := match s_isk iv y && s_isk iv x with
  | true => some (x.1, s_lo iv x * s_lo iv y, 0)
  | false => none
def s_cat (x : sV) : Nat := match x.1 with
  | 1 => 2
  | 6 => 2
  | _ => 1
def s_put (l : sL) (i : Nat) (x : sV) : sL := (i, x) :: l.filter (fun q => !(q.1 == i) && !(q.1 + 1 == i && s_cat q.2 == 2))
def s_put2 (l : sL) (i : Nat) (x : sV) : sL := (i, x) :: l.filter (fun q => !(q.1 == i) && (!(q.1 == i + 1) && !(q.1 + 1 == i && s_cat q.2 == 2)))
def s_okV (b : Nat) (x : sV) : Bool := match x.1 with
  | 3 => Nat.blt x.2.2 b
  | _ => true
def s_ok (l : sL) (st : List sV) (h : List sE) : Bool := l.all (fun q => s_okV h.length q.2) && (st.all (s_okV h.length) && h.all (fun e => e.2.2.2.all (fun q => s_okV h.length q.2)))
def s_args : Nat → List sV → sL
  | _, [] => []
  | i, v :: vs => (i, v) :: s_args (i + s_cat v) vs
def s_words (st : List sV) : Nat := match st with
  | [] => 0
  | v :: r => s_cat v + s_words r
def s_hand : List (Nat × Nat × Nat × Nat) → Nat → Nat → Option Nat
  | [], _, _ => none
  | e :: r, pc, x => match Nat.ble e.1 pc && (Nat.blt pc e.2.1 && Nat.beq e.2.2.2 x) with
    | true => some e.2.2.1
    | false => s_hand r pc x
def s_spl (ih : sF) (mi pc : Nat) (l : sL) (st : List sV) (h : List sE) (iv : sI) (c n : Nat) (k : sZ → Bool) (v : Nat) (q : Int) : Bool :=
  ih mi pc l st h (iv.set v ((iv.getD v (0, 0)).1, q - 1)) c n k && ih mi pc l st h (iv.set v (q, (iv.getD v (0, 0)).2)) c n k
def s_cmp (ih : sF) (mi pc : Nat) (l : sL) (st : List sV) (h : List sE) (iv : sI) (c n : Nat) (k : sZ → Bool) (o : Jvm.ClassFile.Cond) (x y : sV) (rest : List sV) (tgt npc : Nat) : Bool :=
  match s_dec o iv x y with
  | some true => ih mi tgt l rest h iv c n k
  | some false => ih mi npc l rest h iv c n k
  | none => s_spl ih mi pc l st h iv c n k (s_cut o iv x y).1 (s_cut o iv x y).2
def s_load (ih : sF) (mi npc : Nat) (l : sL) (st : List sV) (h : List sE) (iv : sI) (c n : Nat) (k : sZ → Bool) (t : sV → Bool) (i : Nat) : Bool :=
  match s_get l i with
  | some v => t v && ih mi npc l (v :: st) h iv c n k
  | none => false
def s_isA (x : sV) : Bool := match x.1 with
  | 2 => true
  | 3 => true
  | 4 => true
  | _ => false
def s_sto (ih : sF) (P : sP) (mi npc : Nat) (l : sL) (st : List sV) (h : List sE) (iv : sI) (c n : Nat) (k : sZ → Bool) (t : sV → Bool) (i : Nat) : Bool :=
  match st with
  | v :: r => t v && (Nat.blt i (P.2.1 mi).1 && ih mi npc (s_put l i v) r h iv c n k)
  | [] => false
def s_sto2 (ih : sF) (P : sP) (mi npc : Nat) (l : sL) (st : List sV) (h : List sE) (iv : sI) (c n : Nat) (k : sZ → Bool) (t : sV → Bool) (i : Nat) : Bool :=
  match st with
  | v :: r => t v && (Nat.blt (i + 1) (P.2.1 mi).1 && ih mi npc (s_put2 l i v) r h iv c n k)
  | [] => false
def s_bin (ih : sF) (mi npc : Nat) (l : sL) (st : List sV) (h : List sE) (iv : sI) (c n : Nat) (k : sZ → Bool) (t : Nat) (f : sI → sV → sV → Option sV) : Bool :=
  match st with
  | y :: x :: r => s_tag t x && (s_tag t y && match f iv x y with
    | some z => ih mi npc l (z :: r) h iv c n k
    | none => false)
  | _ => false
/-- the field k of the object x of the class ci -/
def s_obj (h : List sE) (x : sV) (ci : Nat) : Option (List (Nat × sV)) := match x.1 with
  | 3 => match h[x.2.2]? with
    | some e => match Nat.beq e.1 0 && Nat.beq e.2.1 ci with
      | true => some e.2.2.2
      | false => none
    | none => none
  | _ => none
def s_arr (h : List sE) (x : sV) (kd : Nat) : Option sE := match x.1 with
  | 3 => match h[x.2.2]? with
    | some e => match Nat.beq e.1 kd with
      | true => some e
      | false => none
    | none => none
  | _ => none
def s_look : List (Nat × sV) → Nat → sV
  | [], _ => (0, 0, 0)
  | e :: r, j => match Nat.beq e.1 j with
    | true => e.2
    | false => s_look r j
/-- the number that x is, if it is one below b -/
def s_ix (iv : sI) (x : sV) (b : Nat) : Option Nat := match s_tag 0 x && s_isk iv x with
  | true => match s_lo iv x with
    | .ofNat i => match Nat.blt i b && Nat.blt i 1000000 with
      | true => some i
      | false => none
    | _ => none
  | false => none
def s_new (ih : sF) (P : sP) (mi npc : Nat) (l : sL) (st : List sV) (h : List sE) (iv : sI) (c n : Nat) (k : sZ → Bool) (e : sE) : Bool :=
  s_ok l st h && (e.2.2.2.all (fun q => s_okV h.length q.2) && (Nat.ble (c + 1) (P.2.1 mi).2.2.1 && (Nat.ble (n + e.2.2.1) (P.2.1 mi).2.2.2.1 && ih mi npc l ((3, 0, h.length) :: st) (h ++ [e]) iv (c + 1) (n + e.2.2.1) k)))
def s_back (ih : sF) (P : sP) (mi pc npc : Nat) (l : sL) (rest : List sV) (c n : Nat) (k : sZ → Bool) (z : sZ) : Bool := match z.1 with
  | 0 => ih mi npc l rest z.2.2.1 z.2.2.2 c n k
  | 1 => ih mi npc l (z.2.1 :: rest) z.2.2.1 z.2.2.2 c n k
  | e + 2 => match (P.2.1 mi).2.2.2.2.2 with
    | [] => k (e + 2, (2, 0, 0), z.2.2.1, z.2.2.2)
    | hh => match s_hand hh pc e with
      | some hp => Nat.blt e 6 && s_ok l [] z.2.2.1 && (Nat.ble z.2.2.1.length 1000000 && ih mi hp l [(3, 0, 1000000)] z.2.2.1 z.2.2.2 c n k)
      | none => false
/-- the receiver: none asked, a cell of the run's own, the four signs' text, or an object of a class -/
def s_rcv (h : List sE) (as : List sV) (ci : Nat) : Bool := match as.getLast? with
  | some x => match ci with
    | 0 => true
    | 1000 => s_tag 3 x
    | 1001 => s_tag 4 x && Nat.beq x.2.2 2
    | ci + 1 => match s_obj h x ci with
      | some _ => true
      | none => false
  | none => Nat.beq ci 0
/-- a call: info = callee, how many arguments (the receiver with them), the receiver's class and 1, or 0 -/
def s_call (ih : sF) (P : sP) (mi pc npc : Nat) (l : sL) (st : List sV) (h : List sE) (iv : sI) (c n : Nat) (k : sZ → Bool) (y na ci : Nat) : Bool :=
  Nat.ble na st.length && (s_ok l st h && (Nat.ble (s_words (st.drop na)) 8 && (s_rcv h (st.take na) ci && (Nat.ble (s_words (st.take na)) (P.2.1 y).1 && (Nat.ble ((P.2.1 y).2.1 + 1) (P.2.1 mi).2.1 && (Nat.ble (8 + ((P.2.1 y).1 + 11) + (P.2.1 y).2.2.2.2.1) (P.2.1 mi).2.2.2.2.1 && (Nat.ble (c + (P.2.1 y).2.2.1) (P.2.1 mi).2.2.1 && (Nat.ble (n + (P.2.1 y).2.2.2.1) (P.2.1 mi).2.2.2.1 &&
    ih y 0 (s_args 0 (st.take na).reverse) [] h iv 0 0 (s_back ih P mi pc npc l (st.drop na) (c + (P.2.1 y).2.2.1) (n + (P.2.1 y).2.2.2.1) k)))))))))
def s_lim (P : sP) (mi c n : Nat) : Bool := Nat.ble c (P.2.1 mi).2.2.1 && Nat.ble n (P.2.1 mi).2.2.2.1
def s_ret (P : sP) (mi c n : Nat) (k : sZ → Bool) (st : List sV) (h : List sE) (iv : sI) (t : sV → Bool) : Bool := match st with
  | [v] => t v && (s_lim P mi c n && k (1, v, h, iv))
  | _ => false
def s_int (info : List Nat) : Int := match info with
  | [0, v] => Int.ofNat v
  | [1, v] => Int.negSucc v
  | _ => 0
