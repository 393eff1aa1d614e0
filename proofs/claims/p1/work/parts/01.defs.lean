/-! THE WALKER: an interpreter of abstract states, run by the kernel. An abstract value is an int (two's complement, below 2^32), a reference (0: null; a + 1: the a-th cell), a long, or the k-th unknown int, of which zz_G tells the least and the greatest (each plus 2^31) and a mark. -/
abbrev zz_V : Type := Nat ⊕ (Nat ⊕ (Nat ⊕ Nat))
/-- a cell: an object (its place in zz_cl, its fields), or an array (its kind, length, default, and by 64 bits each what an element is besides) -/
abbrev zz_C : Type := (Nat × List zz_V) ⊕ (Nat × Nat × Nat × Nat)
abbrev zz_G : Type := List (Nat × Nat × Nat)
/-- stack, locals, cells, unknowns, cells made, slots made -/
abbrev zz_S : Type := List zz_V × List (Option zz_V) × List zz_C × zz_G × Nat × Nat
abbrev zz_O : Type := Option zz_V × List zz_C × zz_G × Nat × Nat
/-- on; to an instruction; to several; returned; a call; nothing known -/
abbrev zz_R : Type := zz_S ⊕ ((Nat × zz_S) ⊕ (List (Nat × zz_S) ⊕ ((Option zz_V × zz_S) ⊕ ((Nat × List zz_V × zz_S) ⊕ Unit))))
abbrev zz_Op : Type := zz_S → zz_R
noncomputable def zz_nth {α : Type} (l : List α) (k : Nat) : Option α := Nat.rec (motive := fun _ => List α → Option α) (fun l => l.head?) (fun _ ih l => ih l.tail) k l
noncomputable def zz_set {α : Type} (x : α) (l : List α) (k : Nat) : List α := Nat.rec (motive := fun _ => List α → List α) (fun l => List.casesOn l [] (fun _ t => x :: t)) (fun _ ih l => List.casesOn l [] (fun h t => h :: ih t)) k l
noncomputable def zz_drop {α : Type} (k : Nat) (l : List α) : List α := Nat.rec (motive := fun _ => List α → List α) (fun l => l) (fun _ ih l => ih l.tail) k l
def zz_fail : zz_R := .inr (.inr (.inr (.inr (.inr ()))))
def zz_next (st : zz_S) : zz_R := .inl st
/-- 0: on; t + 1: to the t-th instruction -/
noncomputable def zz_go (t : Nat) (st : zz_S) : zz_R := Nat.rec (motive := fun _ => zz_R) (.inl st) (fun t _ => .inr (.inl (t, st))) t
def zz_many (l : List (Nat × zz_S)) : zz_R := .inr (.inr (.inl l))
/-- an int and the same plus 2^31 -/
def zz_b (n : Nat) : Nat := (n + 2147483648) % 4294967296
def zz_withG (st : zz_S) (g : zz_G) : zz_S := match st with
  | (k, l, h, _, c, s) => (k, l, h, g, c, s)
noncomputable def zz_enum (self : Nat) (st : zz_S) (g : zz_G) (k lo tag n : Nat) : List (Nat × zz_S) := Nat.rec (motive := fun _ => List (Nat × zz_S)) [] (fun i ih => (self, zz_withG st (zz_set (lo + i, lo + i, tag) g k)) :: ih) n
/-- what needs a number: goes on with it; by cases, if it is one of few -/
noncomputable def zz_ci (self : Nat) (st : zz_S) (g : zz_G) (v : zz_V) (k : Nat → zz_R) : zz_R := match v with
  | .inl n => k n
  | .inr (.inr (.inr i)) => (match zz_nth g i with
    | some (lo, hi, tag) => bif Nat.beq lo hi then k (zz_b lo) else bif Nat.ble hi (lo + 64) then zz_many (zz_enum self st g i lo tag (hi + 1 - lo)) else zz_fail
    | none => zz_fail)
  | _ => zz_fail
/-- least and greatest of an int -/
noncomputable def zz_iv (g : zz_G) (v : zz_V) : Option (Nat × Nat) := match v with
  | .inl n => some (zz_b n, zz_b n)
  | .inr (.inr (.inr i)) => (match zz_nth g i with
    | some (lo, hi, _) => some (lo, hi)
    | none => none)
  | _ => none
noncomputable def zz_cut (g : zz_G) (v : zz_V) (lo hi : Nat) : zz_G := match v with
  | .inr (.inr (.inr i)) => (match zz_nth g i with
    | some (_, _, tag) => zz_set (lo, hi, tag) g i
    | none => g)
  | _ => g
def zz_max (a b : Nat) : Nat := bif Nat.ble a b then b else a
def zz_min (a b : Nat) : Nat := bif Nat.ble a b then a else b
noncomputable def zz_abs (self t : Nat) : Nat := Nat.rec (motive := fun _ => Nat) (self + 1) (fun t _ => t) t
def zz_isC (v : zz_V) : Bool := match v with
  | .inl _ => true
  | _ => false
def zz_num (v : zz_V) : Nat := match v with
  | .inl n => n
  | _ => 0
/-- x < y: where to if so, where to if not -/
noncomputable def zz_dltI (self tT tF : Nat) (st : zz_S) (g : zz_G) (x y : zz_V) (xl xh yl yh : Nat) : zz_R :=
  bif Nat.ble (xl + 1) yh then
    (bif Nat.ble yl xh then zz_many [(zz_abs self tT, zz_withG st (zz_cut (zz_cut g x xl (zz_min xh (yh - 1))) y (zz_max yl (xl + 1)) yh)), (zz_abs self tF, zz_withG st (zz_cut (zz_cut g x (zz_max xl yl) xh) y yl (zz_min yh xh)))]
     else zz_go tT st)
  else zz_go tF st
noncomputable def zz_dlt (self tT tF : Nat) (st : zz_S) (g : zz_G) (x y : zz_V) : zz_R :=
  bif zz_isC x && zz_isC y then (bif Nat.ble (zz_b (zz_num y)) (zz_b (zz_num x)) then zz_go tF st else zz_go tT st)
  else match zz_iv g x with
    | some (xl, xh) => (match zz_iv g y with
      | some (yl, yh) => zz_dltI self tT tF st g x y xl xh yl yh
      | none => zz_fail)
    | none => zz_fail
/-- x = y -/
noncomputable def zz_deqI (self tT tF : Nat) (st : zz_S) (g : zz_G) (x y : zz_V) (xl xh yl yh : Nat) : zz_R :=
  bif Nat.ble (zz_max xl yl) (zz_min xh yh) then
    (bif Nat.beq xl xh && Nat.beq yl yh then zz_go tT st else
      bif Nat.beq yl yh then
        zz_many [(zz_abs self tT, zz_withG st (zz_cut g x yl yl)), (zz_abs self tF, zz_withG st (zz_cut g x (bif Nat.beq xl yl then xl + 1 else xl) (bif Nat.beq xh yl then xh - 1 else xh)))]
      else bif Nat.beq xl xh then
        zz_many [(zz_abs self tT, zz_withG st (zz_cut g y xl xl)), (zz_abs self tF, zz_withG st (zz_cut g y (bif Nat.beq yl xl then yl + 1 else yl) (bif Nat.beq yh xl then yh - 1 else yh)))]
      else zz_many [(zz_abs self tT, st), (zz_abs self tF, st)])
  else zz_go tF st
noncomputable def zz_deq (self tT tF : Nat) (st : zz_S) (g : zz_G) (x y : zz_V) : zz_R :=
  bif zz_isC x && zz_isC y then (bif Nat.beq (zz_b (zz_num x)) (zz_b (zz_num y)) then zz_go tT st else zz_go tF st)
  else match zz_iv g x with
    | some (xl, xh) => (match zz_iv g y with
      | some (yl, yh) => zz_deqI self tT tF st g x y xl xh yl yh
      | none => zz_fail)
    | none => zz_fail
noncomputable def zz_icmp (f : zz_S → zz_G → zz_V → zz_V → zz_R) : zz_Op := fun st => match st with
  | (y :: x :: k, l, h, g, c, s) => f (k, l, h, g, c, s) g x y
  | _ => zz_fail
noncomputable def zz_if0 (f : zz_S → zz_G → zz_V → zz_V → zz_R) : zz_Op := fun st => match st with
  | (x :: k, l, h, g, c, s) => f (k, l, h, g, c, s) g x (.inl 0)
  | _ => zz_fail
noncomputable def zz_ilt (self tT tF : Nat) : zz_Op := zz_icmp (fun st g x y => zz_dlt self tT tF st g x y)
noncomputable def zz_igt (self tT tF : Nat) : zz_Op := zz_icmp (fun st g x y => zz_dlt self tT tF st g y x)
noncomputable def zz_ieq (self tT tF : Nat) : zz_Op := zz_icmp (fun st g x y => zz_deq self tT tF st g x y)
noncomputable def zz_lt0 (self tT tF : Nat) : zz_Op := zz_if0 (fun st g x y => zz_dlt self tT tF st g x y)
noncomputable def zz_gt0 (self tT tF : Nat) : zz_Op := zz_if0 (fun st g x y => zz_dlt self tT tF st g y x)
noncomputable def zz_eq0 (self tT tF : Nat) : zz_Op := zz_if0 (fun st g x y => zz_deq self tT tF st g x y)
def zz_push (v : zz_V) : zz_Op := fun st => match st with
  | (k, l, h, g, c, s) => .inl (v :: k, l, h, g, c, s)
def zz_isI (v : zz_V) : Bool := match v with
  | .inl _ => true
  | .inr (.inr (.inr _)) => true
  | _ => false
def zz_isA (v : zz_V) : Bool := match v with
  | .inr (.inl (_ + 1)) => true
  | _ => false
def zz_isJ (v : zz_V) : Bool := match v with
  | .inr (.inr (.inl _)) => true
  | _ => false
noncomputable def zz_load (ok : zz_V → Bool) (i : Nat) : zz_Op := fun st => match st with
  | (k, l, h, g, c, s) => (match zz_nth l i with
    | some (some v) => bif ok v then .inl (v :: k, l, h, g, c, s) else zz_fail
    | _ => zz_fail)
/-- a long below the place is lost -/
def zz_isLong (v : Option zz_V) : Bool := match v with
  | some v => zz_isJ v
  | none => false
noncomputable def zz_loose (l : List (Option zz_V)) (i : Nat) : List (Option zz_V) := Nat.rec (motive := fun _ => List (Option zz_V)) l (fun j _ => match zz_nth l j with
    | some v => bif zz_isLong v then zz_set none l j else l
    | none => l) i
noncomputable def zz_put1 (l : List (Option zz_V)) (i : Nat) (v : zz_V) : List (Option zz_V) := zz_set (some v) (zz_loose l i) i
noncomputable def zz_put2 (l : List (Option zz_V)) (i : Nat) (v : zz_V) : List (Option zz_V) := zz_set none (zz_set (some v) (zz_loose l i) i) (i + 1)
noncomputable def zz_store (ok : zz_V → Bool) (i : Nat) : zz_Op := fun st => match st with
  | (v :: k, l, h, g, c, s) => bif ok v then .inl (k, zz_put1 l i v, h, g, c, s) else zz_fail
  | _ => zz_fail
noncomputable def zz_lstore (i : Nat) : zz_Op := fun st => match st with
  | (v :: k, l, h, g, c, s) => bif zz_isJ v then .inl (k, zz_put2 l i v, h, g, c, s) else zz_fail
  | _ => zz_fail
noncomputable def zz_bin (self : Nat) (f : Nat → Nat → Option Nat) : zz_Op := fun st => match st with
  | (y :: x :: k, l, h, g, c, s) => zz_ci self st g y (fun b => zz_ci self st g x (fun a => match f a b with
    | some n => .inl (.inl n :: k, l, h, g, c, s)
    | none => zz_fail))
  | _ => zz_fail
def zz_add (a b : Nat) : Option Nat := some ((a + b) % 4294967296)
def zz_sub (a b : Nat) : Option Nat := some ((a + (4294967296 - b % 4294967296)) % 4294967296)
def zz_mul (a b : Nat) : Option Nat := some ((a * b) % 4294967296)
def zz_and (a b : Nat) : Option Nat := some (Nat.land a b)
def zz_or (a b : Nat) : Option Nat := some (Nat.lor a b)
def zz_xor (a b : Nat) : Option Nat := some (Nat.xor a b)
def zz_shl (a b : Nat) : Option Nat := some ((Nat.shiftLeft a (b % 32)) % 4294967296)
/-- of numbers that are not below 0 -/
def zz_shr (a b : Nat) : Option Nat := bif Nat.ble a 2147483647 then some (Nat.shiftRight a (b % 32)) else none
def zz_ushr (a b : Nat) : Option Nat := some (Nat.shiftRight (a % 4294967296) (b % 32))
def zz_divn (a b : Nat) : Option Nat := bif Nat.ble a 2147483647 && (Nat.ble b 2147483647 && Nat.ble 1 b) then some (a / b) else none
def zz_remn (a b : Nat) : Option Nat := bif Nat.ble a 2147483647 && (Nat.ble b 2147483647 && Nat.ble 1 b) then some (a % b) else none
/-- an unknown that may be much, divided by a number -/
noncomputable def zz_isWide (st : zz_S) : Bool := match st with
  | (.inl _ :: .inr (.inr (.inr i)) :: _, _, _, g, _, _) => (match zz_nth g i with
    | some (lo, hi, _) => Bool.not (Nat.ble hi (lo + 64))
    | none => false)
  | _ => false
noncomputable def zz_wideB (w : Nat → Nat → Nat → Nat × Nat) : zz_Op := fun st => match st with
  | (.inl b :: .inr (.inr (.inr i)) :: k, l, h, g, c, s) => (match zz_nth g i with
    | some (lo, hi, _) => bif Nat.ble 2147483648 lo && (Nat.ble b 2147483647 && Nat.ble 1 b) then .inl (.inr (.inr (.inr g.length)) :: k, l, h, g ++ [((w (lo - 2147483648) (hi - 2147483648) b).1 + 2147483648, (w (lo - 2147483648) (hi - 2147483648) b).2 + 2147483648, 0)], c, s) else zz_fail
    | none => zz_fail)
  | _ => zz_fail
noncomputable def zz_wide (self : Nat) (f : Nat → Nat → Option Nat) (w : Nat → Nat → Nat → Nat × Nat) : zz_Op := fun st => bif zz_isWide st then zz_wideB w st else zz_bin self f st
noncomputable def zz_div (self : Nat) : zz_Op := zz_wide self zz_divn (fun lo hi b => (lo / b, hi / b))
noncomputable def zz_rem (self : Nat) : zz_Op := zz_wide self zz_remn (fun _ _ b => (0, b - 1))
noncomputable def zz_neg (self : Nat) : zz_Op := fun st => match st with
  | (x :: k, l, h, g, c, s) => zz_ci self st g x (fun a => .inl (.inl ((4294967296 - a % 4294967296) % 4294967296) :: k, l, h, g, c, s))
  | _ => zz_fail
def zz_sx (a : Nat) : Nat := bif Nat.ble (a % 4294967296) 2147483647 then a % 4294967296 else a % 4294967296 + 18446744069414584320
noncomputable def zz_i2l (self : Nat) : zz_Op := fun st => match st with
  | (x :: k, l, h, g, c, s) => zz_ci self st g x (fun a => .inl (.inr (.inr (.inl (zz_sx a))) :: k, l, h, g, c, s))
  | _ => zz_fail
def zz_lbin (f : Nat → Nat → Nat) : zz_Op := fun st => match st with
  | (.inr (.inr (.inl b)) :: .inr (.inr (.inl a)) :: k, l, h, g, c, s) => .inl (.inr (.inr (.inl (f a b))) :: k, l, h, g, c, s)
  | _ => zz_fail
def zz_ladd (a b : Nat) : Nat := (a + b) % 18446744073709551616
def zz_lmul (a b : Nat) : Nat := (a * b) % 18446744073709551616
/-- iinc by n (two's complement) -/
noncomputable def zz_incW (i n : Nat) : zz_Op := fun st => match st with
  | (k, l, h, g, c, s) => (match zz_nth l i with
    | some (some (.inr (.inr (.inr j)))) => (match zz_nth g j with
      | some (lo, hi, _) => bif Nat.beq n 4294967295 && (Nat.ble 1 lo && Nat.ble hi 4294967295) then .inl (k, zz_put1 l i (.inr (.inr (.inr g.length))), h, g ++ [(lo - 1, hi - 1, 0)], c, s) else zz_fail
      | none => zz_fail)
    | _ => zz_fail)
noncomputable def zz_isIncW (st : zz_S) (i : Nat) : Bool := match st with
  | (_, l, _, g, _, _) => (match zz_nth l i with
    | some (some (.inr (.inr (.inr j)))) => (match zz_nth g j with
      | some (lo, hi, _) => Bool.not (Nat.ble hi (lo + 64))
      | none => false)
    | _ => false)
noncomputable def zz_inc (self i n : Nat) : zz_Op := fun st => bif zz_isIncW st i then zz_incW i n st else match st with
  | (k, l, h, g, c, s) => (match zz_nth l i with
    | some (some v) => zz_ci self (k, l, h, g, c, s) g v (fun a => .inl (k, zz_put1 l i (.inl ((a + n) % 4294967296)), h, g, c, s))
    | _ => zz_fail)
def zz_dup : zz_Op := fun st => match st with
  | (v :: k, l, h, g, c, s) => bif zz_isLong (some v) then zz_fail else .inl (v :: v :: k, l, h, g, c, s)
  | _ => zz_fail
def zz_dup2 : zz_Op := fun st => match st with
  | (v :: w :: k, l, h, g, c, s) => bif zz_isLong (some v) || zz_isLong (some w) then zz_fail else .inl (v :: w :: v :: w :: k, l, h, g, c, s)
  | _ => zz_fail
def zz_pop : zz_Op := fun st => match st with
  | (v :: k, l, h, g, c, s) => bif zz_isLong (some v) then zz_fail else .inl (k, l, h, g, c, s)
  | _ => zz_fail
def zz_goto (t : Nat) : zz_Op := fun st => .inr (.inl (t, st))
noncomputable def zz_ifnn (t : Nat) : zz_Op := fun st => match st with
  | (.inr (.inl a) :: k, l, h, g, c, s) => Nat.rec (motive := fun _ => zz_R) (.inl (k, l, h, g, c, s)) (fun _ _ => .inr (.inl (t, (k, l, h, g, c, s)))) a
  | _ => zz_fail
def zz_pred (a : Nat) (k : Nat → zz_R) : zz_R := match a with
  | 0 => zz_fail
  | a + 1 => k a
noncomputable def zz_get (ci j : Nat) : zz_Op := fun st => match st with
  | (.inr (.inl a) :: k, l, h, g, c, s) => zz_pred a (fun a => match zz_nth h a with
    | some (.inl (d, fs)) => bif Nat.beq d ci then (match zz_nth fs j with
      | some v => .inl (v :: k, l, h, g, c, s)
      | none => zz_fail) else zz_fail
    | _ => zz_fail)
  | _ => zz_fail
def zz_is01 (v : zz_V) : Bool := match v with
  | .inl n => Nat.ble n 1
  | _ => false
def zz_isR (v : zz_V) : Bool := match v with
  | .inr (.inl _) => true
  | _ => false
/-- what a field of a kind may hold: 0 an int, 1 a boolean, 2 a reference -/
def zz_fit (t : Nat) (v : zz_V) : Bool := match t with
  | 0 => zz_isI v
  | 1 => zz_is01 v
  | _ => zz_isR v
noncomputable def zz_putf (ci j t : Nat) : zz_Op := fun st => match st with
  | (v :: .inr (.inl a) :: k, l, h, g, c, s) => zz_pred a (fun a => match zz_nth h a with
    | some (.inl (d, fs)) => bif Nat.beq d ci && zz_fit t v then (match zz_nth fs j with
      | some _ => .inl (k, l, zz_set (.inl (ci, zz_set v fs j)) h a, g, c, s)
      | none => zz_fail) else zz_fail
    | _ => zz_fail)
  | _ => zz_fail
/-- the i-th element, and another one in its stead -/
def zz_el (d p i : Nat) : Nat := Nat.xor (Nat.shiftRight p (64 * i) % 18446744073709551616) d
def zz_up (d p i v : Nat) : Nat := Nat.xor p (Nat.shiftLeft (Nat.xor (zz_el d p i) v) (64 * i))
/-- an element of a kind: 0 ints, 1 booleans, 2 longs, 3 references -/
def zz_elv (kd n : Nat) : zz_V := match kd with
  | 0 => .inl n
  | 1 => .inl n
  | 2 => .inr (.inr (.inl n))
  | _ => .inr (.inl n)
noncomputable def zz_ald (self kd : Nat) : zz_Op := fun st => match st with
  | (i :: .inr (.inl a) :: k, l, h, g, c, s) => zz_ci self st g i (fun i => zz_pred a (fun a => match zz_nth h a with
    | some (.inr (kd2, n, d, p)) => bif Nat.beq kd kd2 && Nat.ble (i + 1) n then .inl (zz_elv kd (zz_el d p i) :: k, l, h, g, c, s) else zz_fail
    | _ => zz_fail))
  | _ => zz_fail
/-- what goes into an array of a kind -/
noncomputable def zz_ev (self kd : Nat) (st : zz_S) (g : zz_G) (v : zz_V) (k : Nat → zz_R) : zz_R := match kd with
  | 0 => zz_ci self st g v (fun n => bif Nat.ble n 4294967295 then k n else zz_fail)
  | 1 => zz_ci self st g v (fun n => bif Nat.ble n 1 then k n else zz_fail)
  | 2 => (match v with
    | .inr (.inr (.inl n)) => bif Nat.ble n 18446744073709551615 then k n else zz_fail
    | _ => zz_fail)
  | _ => zz_fail
noncomputable def zz_ast (self kd : Nat) : zz_Op := fun st => match st with
  | (v :: i :: .inr (.inl a) :: k, l, h, g, c, s) => zz_ci self st g i (fun i => zz_ev self kd st g v (fun v => zz_pred a (fun a => match zz_nth h a with
    | some (.inr (kd2, n, d, p)) => bif Nat.beq kd kd2 && Nat.ble (i + 1) n then .inl (k, l, zz_set (.inr (kd, n, d, zz_up d p i v)) h a, g, c, s) else zz_fail
    | _ => zz_fail)))
  | _ => zz_fail
/-- a reference to an object of a place in zz_cl into an array of them -/
noncomputable def zz_aast (ci : Nat) : zz_Op := fun st => match st with
  | (.inr (.inl v) :: .inl i :: .inr (.inl a) :: k, l, h, g, c, s) => zz_pred a (fun a => zz_pred v (fun v0 => match zz_nth h a, zz_nth h v0 with
    | some (.inr (kd2, n, d, p)), some (.inl (c2, _)) => bif Nat.beq 3 kd2 && (Nat.ble (i + 1) n && (Nat.beq ci c2 && Nat.ble v 4294967295)) then .inl (k, l, zz_set (.inr (3, n, d, zz_up d p i v)) h a, g, c, s) else zz_fail
    | _, _ => zz_fail))
  | _ => zz_fail
noncomputable def zz_alen : zz_Op := fun st => match st with
  | (.inr (.inl a) :: k, l, h, g, c, s) => zz_pred a (fun a => match zz_nth h a with
    | some (.inr (_, n, _, _)) => .inl (.inl n :: k, l, h, g, c, s)
    | _ => zz_fail)
  | _ => zz_fail
def zz_newa (kd : Nat) : zz_Op := fun st => match st with
  | (.inl n :: k, l, h, g, c, s) => bif Nat.ble n 1000000 then .inl (.inr (.inl (h.length + 1)) :: k, l, h ++ [.inr (kd, n, 0, 0)], g, c + 1, s + n) else zz_fail
  | _ => zz_fail
def zz_new (ci n : Nat) (fs : List zz_V) : zz_Op := fun st => match st with
  | (k, l, h, g, c, s) => .inl (.inr (.inl (h.length + 1)) :: k, l, h ++ [.inl (ci, fs)], g, c + 1, s + n)
/-- the first n of the stack, the last one first -/
noncomputable def zz_args (n : Nat) (k acc : List zz_V) : Option (List zz_V × List zz_V) := Nat.rec (motive := fun _ => List zz_V → List zz_V → Option (List zz_V × List zz_V)) (fun k acc => some (acc, k)) (fun _ ih k acc => List.casesOn k none (fun v k => ih k (v :: acc))) n k acc
/-- how many words -/
noncomputable def zz_wt (k : List zz_V) : Nat := List.rec (motive := fun _ => Nat) 0 (fun v _ ih => (bif zz_isJ v then 2 else 1) + ih) k
/-- a call of the method mi with n arguments; ok looks at them -/
noncomputable def zz_call (ok : List zz_C → List zz_V → Bool) (mi n : Nat) : zz_Op := fun st => match st with
  | (k, l, h, g, c, s) => (match zz_args n k [] with
    | some (as, k2) => bif ok h as && Nat.ble (zz_wt k2) 8 then .inr (.inr (.inr (.inr (.inl (mi, as, (k2, l, h, g, c, s)))))) else zz_fail
    | none => zz_fail)
/-- the first argument is an object of the place ci in zz_cl -/
noncomputable def zz_recv (ci : Nat) (h : List zz_C) (as : List zz_V) : Bool := match as with
  | .inr (.inl (a + 1)) :: _ => (match zz_nth h a with
    | some (.inl (d, _)) => Nat.beq d ci
    | _ => false)
  | _ => false
def zz_any (_ : List zz_C) (_ : List zz_V) : Bool := true
def zz_ret1 (ok : zz_V → Bool) : zz_Op := fun st => match st with
  | ([v], l, h, g, c, s) => bif ok v then .inr (.inr (.inr (.inl (some v, ([v], l, h, g, c, s))))) else zz_fail
  | _ => zz_fail
def zz_ret0 : zz_Op := fun st => match st with
  | ([], l, h, g, c, s) => .inr (.inr (.inr (.inl (none, ([], l, h, g, c, s)))))
  | _ => zz_fail
noncomputable def zz_obj : zz_Op := fun st => match st with
  | (v :: k, l, h, g, c, s) => bif zz_isA v && Nat.ble (zz_wt k) 8 then .inl (k, l, h, g, c, s) else zz_fail
  | _ => zz_fail
/-- the first m elements of p1, behind them those of p2 -/
def zz_cp (m p1 p2 : Nat) : Nat := Nat.xor (Nat.shiftLeft (Nat.shiftRight p2 (64 * m)) (64 * m)) (p1 % Nat.pow 2 (64 * m))
/-- System.arraycopy from the first element to the first, of arrays with one default -/
def zz_top5 (k : List zz_V) : Option (Nat × Nat × Nat × Nat × Nat × List zz_V) := match k with
  | .inl m :: .inl j :: .inr (.inl b) :: .inl i :: .inr (.inl a) :: k => some (m, j, b, i, a, k)
  | _ => none
noncomputable def zz_copy (kd : Nat) : zz_Op := fun st => match st with
  | (k, l, h, g, c, s) => (match zz_top5 k with
    | some (m, j, b, i, a, k) => zz_pred a (fun a => zz_pred b (fun b => match zz_nth h a, zz_nth h b with
      | some (.inr (k1, n1, d1, p1)), some (.inr (k2, n2, d2, p2)) => bif Nat.beq k1 kd && (Nat.beq k2 kd && (Nat.beq d1 d2 && (Nat.beq i 0 && (Nat.beq j 0 && (Nat.ble m n1 && (Nat.ble m n2 && (Nat.ble m 1000 && Nat.ble (zz_wt k) 8))))))) then
          .inl (k, l, zz_set (.inr (kd, n2, d2, zz_cp m p1 p2)) h b, g, c, s) else zz_fail
      | _, _ => zz_fail))
    | none => zz_fail)
/-- a loop that puts false into all N places of the j-th field's array of the reference, from its head with 0 in place 1 on; behind it: t -/
noncomputable def zz_hz (j N t : Nat) : zz_Op := fun st => match st with
  | ([], some (.inr (.inl a)) :: some (.inl i) :: lr, h, g, c, s) => zz_pred a (fun a => match zz_nth h a with
    | some (.inl (d, fs)) => (match zz_nth fs j with
      | some (.inr (.inl b)) => zz_pred b (fun b => match zz_nth h b with
        | some (.inr (kd, n, _, _)) => bif Nat.beq d 6 && (Nat.beq kd 1 && (Nat.beq n N && Nat.beq i 0)) then .inr (.inl (t, ([], some (.inr (.inl (a + 1))) :: some (.inl N) :: lr, zz_set (.inr (1, N, 0, 0)) h b, g, c, s))) else zz_fail
        | _ => zz_fail)
      | _ => zz_fail)
    | _ => zz_fail)
  | _ => zz_fail
/-- the loop of Arrays.fill, from its head on -/
noncomputable def zz_hfi (t : Nat) : zz_Op := fun st => match st with
  | ([], [some (.inr (.inl a)), some (.inl x), some (.inl i), some (.inl n)], h, g, c, s) => zz_pred a (fun a => match zz_nth h a with
    | some (.inr (kd, n2, _, _)) => bif Nat.beq kd 0 && (Nat.beq n2 n && (Nat.beq i 0 && (Nat.ble x 4294967295 && Nat.ble n 1000000))) then .inr (.inl (t, ([], [some (.inr (.inl (a + 1))), some (.inl x), some (.inl n), some (.inl n)], zz_set (.inr (0, n, x, 0)) h a, g, c, s))) else zz_fail
    | _ => zz_fail)
  | _ => zz_fail
noncomputable def zz_hfj (t : Nat) : zz_Op := fun st => match st with
  | ([], [some (.inr (.inl a)), some (.inr (.inr (.inl x))), none, some (.inl i), some (.inl n)], h, g, c, s) => zz_pred a (fun a => match zz_nth h a with
    | some (.inr (kd, n2, _, _)) => bif Nat.beq kd 2 && (Nat.beq n2 n && (Nat.beq i 0 && (Nat.ble x 18446744073709551615 && Nat.ble n 1000000))) then .inr (.inl (t, ([], [some (.inr (.inl (a + 1))), some (.inr (.inr (.inl x))), none, some (.inl n), some (.inl n)], zz_set (.inr (2, n, x, 0)) h a, g, c, s))) else zz_fail
    | _ => zz_fail)
  | _ => zz_fail
/-- whether the i-th unknown is marked -/
noncomputable def zz_tag (g : zz_G) (i : Nat) : Bool := match zz_nth g i with
  | some (_, _, tag) => Nat.beq tag 1
  | none => false
/-- the loop over a word's digits in the class: of a word that is marked the flag comes out 0; else the loop's first instruction -/
noncomputable def zz_hwc (t : Nat) : zz_Op := fun st => match st with
  | ([], [some (.inr (.inl a)), some (.inr (.inr (.inr w))), some (.inl 1), some (.inr (.inr (.inr i))), none], h, g, c, s) => bif zz_tag g i then zz_pred a (fun a => match zz_nth h a with
    | some (.inl (d, .inl 1 :: _)) => bif Nat.beq d 2 then .inr (.inl (t, ([], [some (.inr (.inl (a + 1))), some (.inr (.inr (.inr w))), some (.inl 0), none, none], h, g, c, s))) else zz_fail
    | _ => zz_fail) else zz_load zz_isI 3 st
  | _ => zz_load zz_isI 3 st
def zz_no : zz_Op := fun _ => zz_fail
/-- what each of a list tells, together; nothing, if the list is empty -/
noncomputable def zz_cat {α : Type} (f : α → Option (List zz_O)) (l : List α) : Option (List zz_O) := List.rec (motive := fun _ => Option (List zz_O)) (some []) (fun a _ ih => match f a with
  | none => none
  | some x => match ih with
    | none => none
    | some y => some (x ++ y)) l
def zz_pushO (v : Option zz_V) (k : List zz_V) : List zz_V := match v with
  | some v => v :: k
  | none => k
def zz_after (st : zz_S) (mc ms : Nat) (o : zz_O) : zz_S := (zz_pushO o.1 st.1, st.2.1, o.2.1, o.2.2.1, st.2.2.2.2.1 + mc, st.2.2.2.2.2 + ms)
noncomputable def zz_mc (l : List zz_O) : Nat := List.rec (motive := fun _ => Nat) 0 (fun o _ ih => zz_max o.2.2.2.1 ih) l
noncomputable def zz_ms (l : List zz_O) : Nat := List.rec (motive := fun _ => Nat) 0 (fun o _ ih => zz_max o.2.2.2.2 ih) l
noncomputable def zz_run (ev : Nat → List zz_V → List zz_C → zz_G → Option (List zz_O)) (code : List zz_Op) (n : Nat) : List zz_Op → zz_S → Option (List zz_O) :=
  Nat.rec (motive := fun _ => List zz_Op → zz_S → Option (List zz_O)) (fun _ _ => none) (fun _ ih ops st => List.casesOn ops none (fun op rest => match op st with
    | .inl st2 => ih rest st2
    | .inr (.inl (t, st2)) => ih (zz_drop t code) st2
    | .inr (.inr (.inl l)) => List.casesOn l none (fun q t => zz_cat (fun q => ih (zz_drop q.1 code) q.2) (q :: t))
    | .inr (.inr (.inr (.inl (v, (_, _, h, g, c, s))))) => some [(v, h, g, c, s)]
    | .inr (.inr (.inr (.inr (.inl (mi, as, (k, l, h, g, c, s)))))) => (match ev mi as h g with
      | none => none
      | some outs => zz_cat (fun o => ih rest (zz_after (k, l, h, g, c, s) (zz_mc outs) (zz_ms outs) o)) outs)
    | .inr (.inr (.inr (.inr (.inr _)))) => none)) n
/-- the locals at a method's entry -/
noncomputable def zz_locs (as : List zz_V) : List (Option zz_V) := List.rec (motive := fun _ => List (Option zz_V)) [] (fun a _ ih => bif zz_isLong (some a) then some a :: none :: ih else some a :: ih) as
noncomputable def zz_pad (n : Nat) (l : List (Option zz_V)) : List (Option zz_V) := Nat.rec (motive := fun _ => List (Option zz_V) → List (Option zz_V)) (fun _ => []) (fun _ ih l => List.casesOn l (none :: ih []) (fun h t => h :: ih t)) n l
/-- a method by its number: its instructions, how many locals -/
noncomputable def zz_eval (sm : Nat → Nat → List zz_V → List zz_C → zz_G → Option (List zz_O)) (mt : Nat → List zz_Op × Nat) (d : Nat) : Nat → List zz_V → List zz_C → zz_G → Option (List zz_O) :=
  Nat.rec (motive := fun _ => Nat → List zz_V → List zz_C → zz_G → Option (List zz_O)) (fun _ _ _ _ => none) (fun dd ih mi as h g => match sm dd mi as h g with
    | some o => some o
    | none => match mt mi with
      | (code, nL) => bif Nat.ble (zz_wt as) nL then zz_run ih code 100000 code ([], zz_pad nL (zz_locs as), h, g, 0, 0) else none) d
