noncomputable section XNC
/-- a value of the machine, its number computed -/
def xpv {α : Type} (t n : Nat) (k : xv → α) : α := xf n (fun m => k (t, m))
def xnth {α : Type} (l : List α) (n : Nat) : Option α := List.rec (motive := fun _ => Nat → Option α) (fun _ => none) (fun a _ ih n => Nat.rec (motive := fun _ => Option α) (some a) (fun m _ => ih m) n) l n
def xtake : Nat → List xv → List xv → Option (List xv × List xv)
  | 0, st, acc => some (acc, st)
  | _ + 1, [], _ => none
  | n + 1, v :: r, acc => xtake n r (v :: acc)
/-- the arguments as locals, from place i on; the place behind them -/
def xarg {α : Type} : List xv → Nat → (xl → Nat → α) → α
  | [], i, k => k [] i
  | v :: r, i, k => xf (i + xcat v) (fun j => xarg r j (fun l n => k ((i, v) :: l) n))
/-- the receiver is of the class that the row names -/
def xrcv (P : List (List xv)) (hp : xh) (f u : Nat) (as : List xv) : Bool := match f with
  | 0 => match as with
    | (2, a) :: _ => match xnth hp a with
      | some ((c, _), _, _) => Nat.beq c u && Nat.blt u 100
      | none => false
    | (6, a) :: _ => Nat.beq u 100 && (Nat.ble 1 a && (match xnth P a with
      | some _ => true
      | none => false))
    | _ => false
  | 2 => true
  | _ => match as with
    | (2, _) :: _ => true
    | _ => false
/-- int operations on numbers below 2^32 -/
def xb (u x y : Nat) : Option Nat := match u with
  | 0 => some ((x + y) % xM)
  | 1 => some ((x + (xM - y % xM)) % xM)
  | 2 => some (x * y % xM)
  | 3 => some (Nat.land x y)
  | 4 => some (Nat.lor x y)
  | 5 => some (Nat.xor x y)
  | 6 => cond (Nat.blt y 32 && Nat.blt (Nat.shiftLeft x y) xM) (some (Nat.shiftLeft x y)) none
  | 7 => cond (Nat.blt y 32 && Nat.blt x 2147483648) (some (Nat.shiftRight x y)) none
  | 8 => cond (Nat.blt y 32 && Nat.blt x xM) (some (Nat.shiftRight x y)) none
  | 9 => cond (Nat.blt x 2147483648 && (Nat.blt y 2147483648 && Nat.blt 0 y)) (some (x / y)) none
  | 10 => cond (Nat.blt x 2147483648 && (Nat.blt y 2147483648 && Nat.blt 0 y)) (some (x % y)) none
  | _ => none
/-- the order of ints: by adding 2^31 -/
def xbi (x : Nat) : Nat := (x + 2147483648) % xM
/-- the interval of an int, in that order: a number's, or a variable's by the list -/
def xiv (bd : List (Nat × Nat)) (v : xv) : Option (Nat × Nat) := match v.1 with
  | 0 => xf (xbi v.2) (fun b => some (b, b))
  | 4 => xnth bd v.2
  | _ => none
/-- a comparison of two intervals: eq, ne, lt, ge, gt, le -/
def xcmp (u : Nat) (p q : Nat × Nat) : Option Bool := match u with
  | 0 => cond (Nat.blt p.2 q.1 || Nat.blt q.2 p.1) (some false) (cond (Nat.beq p.1 p.2 && (Nat.beq q.1 q.2 && Nat.beq p.1 q.1)) (some true) none)
  | 1 => cond (Nat.blt p.2 q.1 || Nat.blt q.2 p.1) (some true) (cond (Nat.beq p.1 p.2 && (Nat.beq q.1 q.2 && Nat.beq p.1 q.1)) (some false) none)
  | 2 => cond (Nat.blt p.2 q.1) (some true) (cond (Nat.ble q.2 p.1) (some false) none)
  | 3 => cond (Nat.blt p.2 q.1) (some false) (cond (Nat.ble q.2 p.1) (some true) none)
  | 4 => cond (Nat.blt q.2 p.1) (some true) (cond (Nat.ble p.2 q.1) (some false) none)
  | _ => cond (Nat.blt q.2 p.1) (some false) (cond (Nat.ble p.2 q.1) (some true) none)
/-- what is known of the variables: the law's switch and the script's length; the ints' intervals; the one long's interval (by adding 2^63) -/
abbrev xk : Type := (Nat × Nat) × List (Nat × Nat) × (Nat × Nat)
def xL : Nat := 18446744073709551616
def xbl (x : Nat) : Nat := (x + 9223372036854775808) % xL
def xlv (G : xk) (v : xv) : Option (Nat × Nat) := match v.1 with
  | 1 => xf (xbl v.2) (fun b => some (b, b))
  | 5 => cond (Nat.beq v.2 291) (some G.2.2) (cond (Nat.blt v.2 16) (match xnth G.2.1 v.2 with
    | some p => some (p.1 + 9223372034707292160, p.2 + 9223372034707292160)
    | none => none) none)
  | _ => none
/-- int, long or reference -/
def xkd (v : xv) : Nat := match v.1 with
  | 0 => 0
  | 1 => 1
  | 4 => 0
  | 5 => 1
  | _ => 2
/-- operations on the stack alone -/
def xun {α : Type} (u : Nat) (v : xv) (k : xv → Option α) : Option α := match u, v.1 with
  | 0, 0 => xpv 0 ((xM - v.2 % xM) % xM) k
  | 1, 0 => cond (Nat.blt v.2 xM) (xpv 1 (cond (Nat.blt v.2 2147483648) v.2 (v.2 + 18446744069414584320)) k) none
  | 1, 4 => cond (Nat.blt v.2 16) (xpv 5 v.2 k) (cond (Nat.ble 8192 v.2 && Nat.blt v.2 8704) (xpv 5 (v.2 - 7680) k) none)
  | 2, 1 => xpv 0 (v.2 % xM) k
  | 2, 5 => xpv 4 (v.2 + 8192) k
  | 3, 0 => xpv 0 (cond (Nat.blt (v.2 % 256) 128) (v.2 % 256) (v.2 % 256 + 4294967040)) k
  | 4, 0 => xpv 0 (v.2 % 65536) k
  | _, _ => none
def xlb {α : Type} (G : xk) (u : Nat) (x y : xv) (k : xv → Option α) : Option α := match u, x.1, y.1 with
  | 0, 1, 1 => xpv 1 (Nat.land x.2 y.2) k
  | 0, 5, 1 => cond (Nat.beq y.2 4294967295 && Nat.blt x.2 16) (xpv 5 (x.2 + 32) k) (cond (Nat.beq y.2 1) (xpv 5 (x.2 + 1024) k) none)
  | 1, 5, 0 => cond (Nat.beq y.2 32 && Nat.blt x.2 16) (xpv 5 (x.2 + 16) k) none
  | 2, 5, 5 => cond (Nat.ble 16 x.2 && (Nat.blt x.2 32 && (Nat.ble 32 y.2 && Nat.blt y.2 48)))
      (cond (Nat.beq x.2 18 && (Nat.beq y.2 35 && Nat.beq G.2.2.1 G.2.2.2)) (xpv 1 ((G.2.2.1 + 9223372036854775808) % xL) k) (xpv 5 (256 + 16 * (x.2 - 16) + (y.2 - 32)) k)) none
  | 3, 1, 1 => xpv 1 ((x.2 + y.2) % xL) k
  | 4, 1, 1 => xpv 1 (x.2 * y.2 % xL) k
  | 5, 1, 1 => xpv 1 ((x.2 + (xL - y.2 % xL)) % xL) k
  | 1, 1, 0 => cond (Nat.beq y.2 32) (xpv 1 (x.2 * 4294967296 % xL) k) none
  | 2, 1, 1 => xpv 1 (Nat.lor x.2 y.2) k
  | _, _, _ => none
/-- a variable of which the number is known is that number -/
def xld {α : Type} (G : xk) (v : xv) (k : xv → α) : α := match v.1 with
  | 4 => match xnth G.2.1 v.2 with
    | some p => cond (Nat.beq p.1 p.2) (xpv 0 ((p.1 + 2147483648) % xM) k) (k v)
    | none => k v
  | _ => k v
abbrev xres : Type := Option ((Nat × xv) × xh × Nat × Nat)
abbrev xrec : Type := Nat → Nat → xl → List xv → xh → Nat → Nat → Nat → xres
abbrev xP : Type := List (Nat × Nat) × List (List xv) × List (List Nat) × List (Nat × List xv)
/-- a method's code is one number: a row of 144 bits for each instruction: operation 8, u 64, v 16, w 16, pool entry 16, form 8, pc 16 -/
def xrow (C i : Nat) : Nat := Nat.land (Nat.shiftRight C (144 * i)) (2 ^ 144 - 1)
def xrk (R : Nat) : Nat := Nat.land R 255
def xru (R : Nat) : Nat := Nat.land (Nat.shiftRight R 8) 18446744073709551615
def xrv (R : Nat) : Nat := Nat.land (Nat.shiftRight R 72) 65535
def xrw (R : Nat) : Nat := Nat.land (Nat.shiftRight R 88) 65535
def xra (R : Nat) : Nat := Nat.land (Nat.shiftRight R 104) 65535
def xrb (R : Nat) : Nat := Nat.land (Nat.shiftRight R 120) 255
def xrp (R : Nat) : Nat := Nat.shiftRight R 128
def xh0 (P : xP) (G : xk) (ih : xrec) (C R r : Nat) (lv : xl) (st : List xv) (hp : xh) (bc bs d : Nat) : xres := xf (xru R) (fun u => ih C r lv ((0, u) :: st) hp bc bs d)
def xh1 (P : xP) (G : xk) (ih : xrec) (C R r : Nat) (lv : xl) (st : List xv) (hp : xh) (bc bs d : Nat) : xres := xf (xru R) (fun u => match xat lv u with
  | some x => cond (Nat.beq (xkd x) (xrw R)) (ih C r lv (x :: st) hp bc bs d) none
  | none => none)
def xh2 (P : xP) (G : xk) (ih : xrec) (C R r : Nat) (lv : xl) (st : List xv) (hp : xh) (bc bs d : Nat) : xres := xf (xru R) (fun u => match st with
  | x :: s => cond (Nat.beq (xkd x) (xrw R)) (xflt lv u (xcat x) (fun l => ih C r ((u, x) :: l) s hp bc bs d)) none
  | [] => none)
def xh3 (P : xP) (G : xk) (ih : xrec) (C R r : Nat) (lv : xl) (st : List xv) (hp : xh) (bc bs d : Nat) : xres := xf (xru R) (fun u => xf (xrv R) (fun v => match xat lv v with
  | some (0, x) => xf ((x + u) % xM) (fun y => xflt lv v 1 (fun l => ih C r ((v, (0, y)) :: l) st hp bc bs d))
  | _ => none))
def xh4 (P : xP) (G : xk) (ih : xrec) (C R r : Nat) (lv : xl) (st : List xv) (hp : xh) (bc bs d : Nat) : xres := xf (xru R) (fun u => match st with
  | (0, y) :: (0, x) :: s => match xb u x y with
    | some z => xpv 0 z (fun q => ih C r lv (q :: s) hp bc bs d)
    | none => none
  | (0, y) :: (4, j) :: s => cond (Nat.beq u 3 && (Nat.beq y 31 && (Nat.beq j 0 && Nat.blt G.1.1 32))) (ih C r lv ((0, G.1.1) :: s) hp bc bs d) none
  | _ => none)
def xh5 (P : xP) (G : xk) (ih : xrec) (C R r : Nat) (lv : xl) (st : List xv) (hp : xh) (bc bs d : Nat) : xres := xf (xru R) (fun u => match st with
  | x :: s => xun u x (fun q => ih C r lv (q :: s) hp bc bs d)
  | [] => none)
def xh6 (P : xP) (G : xk) (ih : xrec) (C R r : Nat) (lv : xl) (st : List xv) (hp : xh) (bc bs d : Nat) : xres := xf (xru R) (fun u => match u, st with
  | 0, x :: s => cond (Nat.beq (xcat x) 1) (ih C r lv (x :: x :: s) hp bc bs d) none
  | 1, x :: s => cond (Nat.beq (xcat x) 1) (ih C r lv s hp bc bs d) none
  | 2, x :: y :: s => cond (Nat.beq (xcat x) 1 && Nat.beq (xcat y) 1) (ih C r lv (x :: y :: x :: y :: s) hp bc bs d) none
  | 3, x :: s => cond (Nat.beq (xcat x) 2) (ih C r lv s hp bc bs d) none
  | _, _ => none)
def xh7 (P : xP) (G : xk) (ih : xrec) (C R r : Nat) (lv : xl) (st : List xv) (hp : xh) (bc bs d : Nat) : xres := xf (xru R) (fun u => xf (xrv R) (fun v => match st with
  | x :: s => match xiv G.2.1 x with
    | some p => match xcmp u p (2147483648, 2147483648) with
      | some true => ih C v lv s hp bc bs d
      | some false => ih C r lv s hp bc bs d
      | none => none
    | none => none
  | [] => none))
def xh8 (P : xP) (G : xk) (ih : xrec) (C R r : Nat) (lv : xl) (st : List xv) (hp : xh) (bc bs d : Nat) : xres := xf (xru R) (fun u => xf (xrv R) (fun v => match st with
  | y :: x :: s => match xiv G.2.1 x, xiv G.2.1 y with
    | some p, some q => match xcmp u p q with
      | some true => ih C v lv s hp bc bs d
      | some false => ih C r lv s hp bc bs d
      | none => none
    | _, _ => none
  | _ => none))
def xh9 (P : xP) (G : xk) (ih : xrec) (C R r : Nat) (lv : xl) (st : List xv) (hp : xh) (bc bs d : Nat) : xres := xf (xrv R) (fun v => ih C v lv st hp bc bs d)
def xh10 (P : xP) (G : xk) (ih : xrec) (C R r : Nat) (lv : xl) (st : List xv) (hp : xh) (bc bs d : Nat) : xres := xf (xrv R) (fun v => xf (xrw R) (fun w => match st with
  | (2, a) :: s => match xnth hp a with
    | some ((c, _), _, fs) => cond (Nat.beq c w) (match xnth fs v with
      | some x => ih C r lv (x :: s) hp bc bs d
      | none => none) none
    | none => none
  | (6, a) :: s => cond (Nat.beq w 100 && Nat.ble 1 a) (match xnth P.2.1 a, v with
    | some _, 0 => ih C r lv ((7, a) :: s) hp bc bs d
    | some _, _ => ih C r lv ((0, 0) :: s) hp bc bs d
    | none, _ => none) none
  | _ => none))
/-- may x go to a field of the type u (0 int, 1 long, 2 reference, 3 boolean) -/
def xfit (u : Nat) (x : xv) : Bool := match u with
  | 3 => Nat.beq x.1 0 && Nat.blt x.2 2
  | _ => Nat.beq (xkd x) u
def xh11 (P : xP) (G : xk) (ih : xrec) (C R r : Nat) (lv : xl) (st : List xv) (hp : xh) (bc bs d : Nat) : xres := xf (xrv R) (fun v => xf (xrw R) (fun w => match st with
  | x :: (2, a) :: s => match xnth hp a with
    | some ((c, m), N, fs) => cond (Nat.beq c w && (xfit (xru R) x && Nat.blt v (List.length fs))) (xvset fs v x (fun f2 => xhset hp a ((c, m), N, f2) (fun h2 => ih C r lv s h2 bc bs d))) none
    | none => none
  | _ => none))
def xh12 (P : xP) (G : xk) (ih : xrec) (C R r : Nat) (lv : xl) (st : List xv) (hp : xh) (bc bs d : Nat) : xres := xf (xrw R) (fun w => match xnth P.2.2.2 w with
  | some (m, fs) => cond (Nat.ble 1 bc && Nat.ble m bs) (xf (List.length hp) (fun a => xf (bc - 1) (fun c2 => xf (bs - m) (fun s2 => xhpush hp ((w, m), 0, fs) (fun h2 => ih C r lv ((2, a) :: st) h2 c2 s2 d))))) none
  | none => none)
def xh13 (P : xP) (G : xk) (ih : xrec) (C R r : Nat) (lv : xl) (st : List xv) (hp : xh) (bc bs d : Nat) : xres := xf (xru R) (fun u => match st with
  | (0, m) :: s => cond (Nat.ble 1 bc && (Nat.ble m bs && Nat.blt m 1048576)) (xf (List.length hp) (fun a => xf (bc - 1) (fun c2 => xf (bs - m) (fun s2 => xhpush hp ((1000 + u, m), 0, []) (fun h2 => ih C r lv ((2, a) :: s) h2 c2 s2 d))))) none
  | _ => none)
def xh14 (P : xP) (G : xk) (ih : xrec) (C R r : Nat) (lv : xl) (st : List xv) (hp : xh) (bc bs d : Nat) : xres := xf (xru R) (fun u => match st with
  | (0, i) :: (2, a) :: s => match xnth hp a with
    | some ((c, m), N, _) => cond (Nat.blt i m && (Nat.beq c (1000 + u) && Nat.blt m 1048576)) (match u with
      | 11 => xpv 1 (xg 64 N i) (fun q => ih C r lv (q :: s) hp bc bs d)
      | _ => xpv 0 (xg 32 N i) (fun q => ih C r lv (q :: s) hp bc bs d)) none
    | none => none
  | (0, i) :: (6, 0) :: s => cond (Nat.blt i G.1.2 && Nat.beq u 10) (xld G (4, i) (fun q => ih C r lv (q :: s) hp bc bs d)) none
  | (0, i) :: (7, a) :: s => cond (Nat.beq u 8 && Nat.ble 1 a) (match xnth P.2.1 a with
    | some bs9 => match xnth bs9 i with
      | some x => ih C r lv (x :: s) hp bc bs d
      | none => none
    | none => none) none
  | _ => none)
def xh15 (P : xP) (G : xk) (ih : xrec) (C R r : Nat) (lv : xl) (st : List xv) (hp : xh) (bc bs d : Nat) : xres := xf (xru R) (fun u => match st with
  | (t, x) :: (0, i) :: (2, a) :: s => match xnth hp a with
    | some ((c, m), N, fs) => cond (Nat.blt i m && (Nat.beq c (1000 + u) && Nat.blt m 1048576)) (match u, t with
      | 11, 1 => xf (xs 64 N i (x % xL)) (fun N2 => xhset hp a ((c, m), N2, fs) (fun h2 => ih C r lv s h2 bc bs d))
      | 10, 0 => xf (xs 32 N i (x % xM)) (fun N2 => xhset hp a ((c, m), N2, fs) (fun h2 => ih C r lv s h2 bc bs d))
      | 8, 0 => xf (xs 32 N i (cond (Nat.blt (x % 256) 128) (x % 256) (x % 256 + 4294967040))) (fun N2 => xhset hp a ((c, m), N2, fs) (fun h2 => ih C r lv s h2 bc bs d))
      | 4, 0 => xf (xs 32 N i (x % 2)) (fun N2 => xhset hp a ((c, m), N2, fs) (fun h2 => ih C r lv s h2 bc bs d))
      | _, _ => none) none
    | none => none
  | _ => none)
def xh16 (P : xP) (G : xk) (ih : xrec) (C R r : Nat) (lv : xl) (st : List xv) (hp : xh) (bc bs d : Nat) : xres := match st with
  | (2, a) :: s => match xnth hp a with
    | some ((c, m), _, _) => cond (Nat.beq c 1010 || (Nat.beq c 1008 || (Nat.beq c 1004 || Nat.beq c 1011))) (ih C r lv ((0, m) :: s) hp bc bs d) none
    | none => none
  | (6, 0) :: s => cond (Nat.beq G.1.1 99) none (ih C r lv ((0, G.1.2) :: s) hp bc bs d)
  | (7, a) :: s => cond (Nat.ble 1 a) (match xnth P.2.1 a with
    | some l => xpv 0 (List.length l) (fun q => ih C r lv (q :: s) hp bc bs d)
    | none => none) none
  | _ => none
def xh17 (P : xP) (G : xk) (ih : xrec) (C R r : Nat) (lv : xl) (st : List xv) (hp : xh) (bc bs d : Nat) : xres := xf (xru R) (fun u => xf (xrv R) (fun v => match d with
  | 0 => none
  | d2 + 1 => match xnth P.1 v with
    | none => none
    | some (na, C2) => match xtake (na % 256) st [] with
      | none => none
      | some (as, s) => match cond (Nat.ble (List.length s) 8 && xrcv P.2.1 hp (xrb R) (u % 65536) as) (xarg as 0 (fun l n => cond (Nat.ble n (na / 256)) (ih C2 0 l [] hp bc bs d2) none)) none with
        | none => none
        | some ((o, x), h2, c2, s2) => match o with
          | 0 => ih C r lv s h2 c2 s2 d
          | 1 => ih C r lv (x :: s) h2 c2 s2 d
          | _ => match xnth h2 x.2 with
            | some ((k, _), _, _) => cond (Nat.beq k (u / 65536 % 65536) && (Nat.beq o 2 && Nat.ble 1 (xrw R))) (ih C (xrw R) lv [(2, x.2)] h2 c2 s2 d) (cond (Nat.beq k (u / 4294967296 % 65536) && (Nat.beq o 2 && Nat.ble 1 (u / 281474976710656))) (ih C (u / 281474976710656) lv [(2, x.2)] h2 c2 s2 d) none)
            | none => none))
def xh18 (P : xP) (G : xk) (ih : xrec) (C R r : Nat) (lv : xl) (st : List xv) (hp : xh) (bc bs d : Nat) : xres := xf (xru R) (fun u => match st with
  | [] => cond (Nat.beq u 0) (some ((0, (0, 0)), hp, bc, bs)) none
  | [x] => match u with
    | 1 => cond (Nat.beq (xkd x) 0) (some ((1, x), hp, bc, bs)) none
    | 2 => cond (Nat.beq (xkd x) 1) (some ((1, x), hp, bc, bs)) none
    | 3 => cond (Nat.beq (xkd x) 2) (some ((1, x), hp, bc, bs)) none
    | 4 => cond (Nat.beq x.1 0 && Nat.blt x.2 2) (some ((1, x), hp, bc, bs)) none
    | 5 => cond (Nat.beq x.1 0 && Nat.blt x.2 128) (some ((1, x), hp, bc, bs)) none
    | 6 => cond (Nat.beq x.1 0 && Nat.blt x.2 65536) (some ((1, x), hp, bc, bs)) none
    | _ => none
  | _ => none)
def xh19 (P : xP) (G : xk) (ih : xrec) (C R r : Nat) (lv : xl) (st : List xv) (hp : xh) (bc bs d : Nat) : xres := xf (xrv R) (fun v => cond (Nat.ble 1 bc && (Nat.ble 6 bs && (Nat.ble 6 d && Nat.ble (List.length st) 8))) (xf (List.length hp) (fun a => xf (bc - 1) (fun c2 => xf (bs - 6) (fun s2 => xhpush hp ((v, 0), 0, []) (fun h2 => some ((2, (v, a)), h2, c2, s2)))))) none)
def xh20 (P : xP) (G : xk) (ih : xrec) (C R r : Nat) (lv : xl) (st : List xv) (hp : xh) (bc bs d : Nat) : xres := xf (xrv R) (fun v => xf (xrw R) (fun w => ih C r lv ((v, w) :: st) hp bc bs d))
def xh21 (P : xP) (G : xk) (ih : xrec) (C R r : Nat) (lv : xl) (st : List xv) (hp : xh) (bc bs d : Nat) : xres := xf (xrv R) (fun v => ih C r lv ((6, v) :: st) hp bc bs d)
def xh22 (P : xP) (G : xk) (ih : xrec) (C R r : Nat) (lv : xl) (st : List xv) (hp : xh) (bc bs d : Nat) : xres := xf (xru R) (fun u => ih C r lv ((1, u) :: st) hp bc bs d)
def xh23 (P : xP) (G : xk) (ih : xrec) (C R r : Nat) (lv : xl) (st : List xv) (hp : xh) (bc bs d : Nat) : xres := xf (xru R) (fun u => match st with
  | y :: x :: s => match u with
    | 9 => match xlv G x, xlv G y with
      | some p, some q => cond (Nat.blt p.2 q.1) (ih C r lv ((0, 4294967295) :: s) hp bc bs d) (cond (Nat.blt q.2 p.1) (ih C r lv ((0, 1) :: s) hp bc bs d)
          (cond (Nat.beq p.1 p.2 && (Nat.beq q.1 q.2 && Nat.beq p.1 q.1)) (ih C r lv ((0, 0) :: s) hp bc bs d) none))
      | _, _ => none
    | _ => xlb G u x y (fun q => ih C r lv (q :: s) hp bc bs d)
  | _ => none)
def xh24 (P : xP) (G : xk) (ih : xrec) (C R r : Nat) (lv : xl) (st : List xv) (hp : xh) (bc bs d : Nat) : xres := match st with
  | (2, _) :: s => cond (Nat.ble 1 d && Nat.ble (List.length s) 8) (ih C r lv s hp bc bs d) none
  | _ => none
/-- n digits of N from i on, laid over those of M from j on -/
def xcp (N M i j : Nat) : Nat → Nat
  | 0 => M
  | n + 1 => xs 32 (xcp N M i j n) (j + n) (xg 32 N (i + n))
/-- they are bytes -/
def xby8 (N i : Nat) : Nat → Bool
  | 0 => true
  | n + 1 => (Nat.blt (xg 32 N (i + n)) 128 || Nat.ble 4294967168 (xg 32 N (i + n))) && xby8 N i n
def xh25 (P : xP) (G : xk) (ih : xrec) (C R r : Nat) (lv : xl) (st : List xv) (hp : xh) (bc bs d : Nat) : xres := match st with
  | (0, n) :: (0, j) :: (2, b) :: (0, i) :: (2, a) :: s => match xnth hp a, xnth hp b with
    | some ((c, m), N, _), some ((c2, m2), N2, f2) => cond (Nat.ble 2 d && (Nat.ble (List.length s) 8 && ((Nat.beq c 1008 && (Nat.beq c2 1008 && xby8 N i n) || Nat.beq c 1010 && Nat.beq c2 1010) && (Nat.ble (i + n) m && (Nat.ble (j + n) m2 && (Nat.blt m 1048576 && Nat.blt m2 1048576))))))
        (xf (xcp N N2 i j n) (fun N3 => xhset hp b ((c2, m2), N3, f2) (fun h2 => ih C r lv s h2 bc bs d))) none
    | _, _ => none
  | _ => none
def xh26 (P : xP) (G : xk) (ih : xrec) (C R r : Nat) (lv : xl) (st : List xv) (hp : xh) (bc bs d : Nat) : xres := xf (xru R) (fun u => xf (xrv R) (fun v => match st with
  | (0, x) :: s => match xnth P.2.2.1 u with
    | some l => match xnth l x with
      | some t => ih C t lv s hp bc bs d
      | none => cond (Nat.blt x 65536) (ih C v lv s hp bc bs d) none
    | none => none
  | _ => none))
def xhN : xP → xk → xrec → Nat → Nat → Nat → xl → List xv → xh → Nat → Nat → Nat → xres := fun _ _ _ _ _ _ _ _ _ _ _ _ => none
def xdisp (k : Nat) : xP → xk → xrec → Nat → Nat → Nat → xl → List xv → xh → Nat → Nat → Nat → xres := cond (Nat.ble k 14) (cond (Nat.ble k 7) (cond (Nat.ble k 3) (cond (Nat.ble k 1) (cond (Nat.ble k 0) (xhN) (xh1)) (cond (Nat.ble k 2) (xh2) (xh3))) (cond (Nat.ble k 5) (cond (Nat.ble k 4) (xh4) (xh5)) (cond (Nat.ble k 6) (xh6) (xh7)))) (cond (Nat.ble k 11) (cond (Nat.ble k 9) (cond (Nat.ble k 8) (xh8) (xh9)) (cond (Nat.ble k 10) (xh10) (xh11))) (cond (Nat.ble k 13) (cond (Nat.ble k 12) (xh12) (xh13)) (xh14)))) (cond (Nat.ble k 21) (cond (Nat.ble k 18) (cond (Nat.ble k 16) (cond (Nat.ble k 15) (xh15) (xh16)) (cond (Nat.ble k 17) (xh17) (xh18))) (cond (Nat.ble k 20) (cond (Nat.ble k 19) (xh19) (xh20)) (xh21))) (cond (Nat.ble k 25) (cond (Nat.ble k 23) (cond (Nat.ble k 22) (xh22) (xh23)) (cond (Nat.ble k 24) (xh24) (xh25))) (cond (Nat.ble k 27) (cond (Nat.ble k 26) (xh26) (xh0)) (xhN))))
def xstep (P : xP) (G : xk) (ih : xrec) : xrec := fun C i0 lv st hp bc bs d => xf (xrow C i0) (fun R => xf (i0 + 1) (fun r => xdisp (xrk R) P G ih C R r lv st hp bc bs d))
def xrun (P : xP) (G : xk) (n : Nat) : xrec := Nat.rec (motive := fun _ => xrec) (fun _ _ _ _ _ _ _ _ => none) (fun _ ih => xstep P G ih) n
theorem xrun_succ (P : xP) (G : xk) (n : Nat) : xrun P G (n + 1) = xstep P G (xrun P G n) := rfl
end XNC
