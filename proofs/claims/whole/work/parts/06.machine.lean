/-- what kind of thing each cell is: a class (0 to 12), an array (20 int, 21 long, 22 byte, 23 char, 24 boolean, 25 of sheets, 26 of int rows, 27 of long rows) -/
def K0 (c : Nat) : Nat := bif Nat.blt c 12 then nth [11, 9, 22, 7, 8, 23, 20, 20, 20, 20, 20, 20] c
  else bif Nat.blt c 15 then nth [6, 25, 25] (c - 12)
  else bif Nat.blt c 175 then (bif Nat.beq ((c - 15) % 8) 0 then 8 else bif Nat.beq ((c - 15) % 8) 1 then 23 else 20)
  else bif Nat.blt c 210 then nth [21, 21, 21, 21, 10, 20, 20, 20, 20, 20, 20, 26, 20, 20, 20, 20, 20, 20, 20, 20, 20, 20, 20, 20, 20, 20, 20, 20, 26, 20, 20, 20, 20, 20, 20] (c - 175)
  else bif Nat.blt c 244 then nth [2, 26, 20, 20, 20, 20, 20, 20, 20, 20, 20, 26, 20, 20, 20, 20, 20, 20, 20, 20, 20, 20, 20, 20, 20, 20, 20, 20, 0, 20, 20, 20, 20, 20] (c - 210)
  else bif Nat.blt c 280 then nth [5, 20, 27, 21, 21, 21, 21, 21, 21, 21, 21, 21, 21, 27, 21, 21, 21, 21, 21, 21, 21, 21, 21, 21, 21, 20, 4, 20, 20, 1, 21, 21, 21, 20, 3, 24] (c - 244)
  else bif Nat.blt c 336 then nth [12, 20, 20, 20, 20, 20, 20, 20, 20, 22, 20, 20, 20, 20, 20, 20, 20, 20, 20, 20, 20, 20, 20, 20, 20, 20, 24, 21, 21, 21, 20, 20, 20, 20, 20, 20, 20, 20, 20, 20, 20, 20, 20, 20, 20, 20, 20, 20, 21, 21, 20, 20, 21, 21, 20, 24] (c - 280)
  else 99
/-- how many fields or elements -/
def Z0 (c : Nat) : Nat := bif Nat.blt c 12 then nth [12, 2, 200, 6, 12, 0, 0, 10, 10, 10, 10, 10] c
  else bif Nat.blt c 15 then nth [9, 10, 10] (c - 12)
  else bif Nat.blt c 175 then (bif Nat.beq ((c - 15) % 8) 0 then 12 else bif Nat.blt ((c - 15) % 8) 3 then (bif Nat.beq ((c - 15) / 8 % 2) 0 then 200 else 60) else 10)
  else bif Nat.blt c 210 then nth [10, 26, 26, 200, 12, 6, 6, 12, 16, 16, 16, 16, 520, 520, 520, 520, 520, 520, 520, 520, 520, 520, 520, 520, 520, 520, 520, 520, 6, 520, 520, 520, 520, 520, 520] (c - 175)
  else bif Nat.blt c 244 then nth [4, 8, 300, 300, 300, 300, 300, 300, 300, 300, 300, 16, 520, 520, 520, 520, 520, 520, 520, 520, 520, 520, 520, 520, 520, 520, 520, 520, 6, 200, 200, 200, 200, 520] (c - 210)
  else bif Nat.blt c 280 then nth [12, 10, 10, 25, 25, 25, 25, 25, 25, 25, 25, 25, 25, 11, 61, 61, 61, 61, 61, 61, 61, 61, 61, 61, 61, 16, 3, 40, 40, 5, 18, 12, 4096, 4096, 3, 12] (c - 244)
  else bif Nat.blt c 336 then nth [89, 6, 12, 16, 16, 16, 6, 3120, 8320, 200, 220, 220, 10, 10, 11, 10, 2200, 10, 100, 100, 100, 800, 10, 10, 10, 10, 10, 10, 26, 220, 300, 300, 300, 300, 300, 300, 300, 300, 520, 520, 200, 200, 200, 200, 5200, 5200, 10, 16, 250, 671, 40, 40, 18, 4096, 4096, 12] (c - 280)
  else 99
def nthO : List (Option Nat) → Nat → Option Nat
  | [], _ => none
  | a :: _, 0 => a
  | _ :: r, n + 1 => nthO r n
/-- where a sheet's arrays lie behind it -/
def shO (k : Nat) : Nat := nth [1, 2, 0, 0, 3, 4, 5, 6, 7, 0, 0, 0] k
def shR (c i : Nat) : Option Nat := bif Nat.beq (shO i) 0 then none else bif Nat.blt (shO i) 8 then some (c + shO i) else none
/-- the references for ever -/
def R0 (c i : Nat) : Option Nat := bif Nat.beq c 0 then nthO [some 1, some 3, some 12, some 179, some 210, some 238, some 244, some 270, some 273, some 278, none, none] i
  else bif Nat.beq c 1 then nthO [some 2, none] i
  else bif Nat.beq c 3 then nthO [some 1, none, none, none, none, none] i
  else bif Nat.beq c 12 then nthO [some 13, some 14, none, none, some 175, some 176, some 177, some 178, none] i
  else bif Nat.beq c 179 then nthO [none, none, none, none, some 180, some 181, some 182, some 183, some 184, some 185, some 186, some 203] i
  else bif Nat.beq c 210 then nthO [none, some 211, some 220, some 221] i
  else bif Nat.beq c 238 then nthO [none, some 239, some 240, some 241, some 242, some 243] i
  else bif Nat.beq c 244 then nthO [none, none, none, none, none, none, none, none, some 245, some 246, some 257, some 269] i
  else bif Nat.beq c 270 then nthO [none, some 271, some 272] i
  else bif Nat.beq c 273 then nthO [none, some 274, some 275, some 276, some 277] i
  else bif Nat.beq c 278 then nthO [none, none, some 279] i
  else bif Nat.beq c 280 then nthO [none, none, none, none, some 281, some 282, some 283, some 284, some 285, some 286, some 287, some 288, some 289, none, none, none, none, none, none, none, none, some 290, some 291, some 292, some 293, some 294, some 295, none, none, some 296, some 297, some 298, some 299, some 300, some 301, some 302, some 303, some 304, some 305, some 306, some 307, some 308, some 309, none, some 310, some 311, some 312, some 313, some 314, some 315, some 316, some 317, some 318, some 319, none, none, none, none, none, none, none, none, some 320, some 321, some 322, some 323, some 324, some 325, none, none, none, none, none, none, none, none, some 326, some 327, some 328, some 329, none, some 330, some 331, none, some 332, some 333, some 334, none, some 335] i
  else bif Nat.beq c 13 then some (15 + 16 * i)
  else bif Nat.beq c 14 then some (23 + 16 * i)
  else bif Nat.beq c 186 then some (187 + i)
  else bif Nat.beq c 203 then some (204 + i)
  else bif Nat.beq c 211 then some (212 + i)
  else bif Nat.beq c 221 then some (222 + i)
  else bif Nat.beq c 246 then some (247 + i)
  else bif Nat.beq c 257 then some (258 + i)
  else bif Nat.beq (K0 c) 8 then shR c i
  else none
/-! the machine on cells by numbers: one step, without calls and returns -/
def lkf : List (Nat × LK) → Nat → LK
  | [], _ => (99, 0, 0, 0, 0, 0)
  | e :: r, i => bif Nat.beq e.1 i then e.2 else lkf r i
def ftc : List EN → Nat → EN
  | [], _ => (0, .nop, 0, 0, 0, [])
  | e :: r, pc => bif Nat.beq e.1 pc then e else ftc r pc
/-- the value of an unset local -/
abbrev UU : Value := .retAddr 0
def rv (o : Option Nat) : Value := match o with
  | none => .null
  | some a => .ref a
theorem beq_f {a b : Nat} (h : ¬ a = b) : Nat.beq a b = false := by
  cases q : Nat.beq a b
  · rfl
  · exact absurd (Nat.eq_of_beq_eq_true q) h
def upI (f : MI) (c i : Nat) (v : Int32) : MI := fun c' i' => bif Nat.beq c' c && Nat.beq i' i then v else f c' i'
theorem upI_e (f : MI) (c i : Nat) (v : Int32) (c' i' : Nat) : upI f c i v c' i' = if c' = c ∧ i' = i then v else f c' i' := by
  unfold upI
  by_cases h1 : c' = c
  · by_cases h2 : i' = i
    · simp [h1, h2]
    · simp [h1, h2, beq_f h2]
  · simp [h1, beq_f h1]
def upL (f : ML) (c i : Nat) (v : Int64) : ML := fun c' i' => bif Nat.beq c' c && Nat.beq i' i then v else f c' i'
theorem upL_e (f : ML) (c i : Nat) (v : Int64) (c' i' : Nat) : upL f c i v c' i' = if c' = c ∧ i' = i then v else f c' i' := by
  unfold upL
  by_cases h1 : c' = c
  · by_cases h2 : i' = i
    · simp [h1, h2]
    · simp [h1, h2, beq_f h2]
  · simp [h1, beq_f h1]
def upR (f : MR) (c i : Nat) (v : Option Nat) : MR := fun c' i' => bif Nat.beq c' c && Nat.beq i' i then v else f c' i'
theorem upR_e (f : MR) (c i : Nat) (v : Option Nat) (c' i' : Nat) : upR f c i v c' i' = if c' = c ∧ i' = i then v else f c' i' := by
  unfold upR
  by_cases h1 : c' = c
  · by_cases h2 : i' = i
    · simp [h1, h2]
    · simp [h1, h2, beq_f h2]
  · simp [h1, beq_f h1]
def clI (f : MI) (n : Nat) : MI := fun c i => if c = n then (if K0 n = 7 ∧ i = 1 then -1 else 0) else f c i
def clL (f : ML) (n : Nat) : ML := fun c i => if c = n then 0 else f c i
def clR (f : MR) (n : Nat) : MR := fun c i => if c = n then none else f c i
def sI (M : GM) (c i : Nat) (v : Int32) : GM := (M.1, M.2.1, upI M.2.2.1 c i v, M.2.2.2)
def sL (M : GM) (c i : Nat) (v : Int64) : GM := (M.1, M.2.1, M.2.2.1, upL M.2.2.2 c i v)
def sR (M : GM) (c i : Nat) (v : Option Nat) : GM := (M.1, upR M.2.1 c i v, M.2.2.1, M.2.2.2)
/-- the next cell is made -/
def nw (M : GM) : GM := (M.1 + 1, clR M.2.1 M.1, clI M.2.2.1 M.1, clL M.2.2.2 M.1)
def nws : Nat → GM → GM
  | 0, M => M
  | k + 1, M => nws k (nw M)
/-- an outer array and its rows are made -/
def nwm (n : Nat) (M : GM) : GM := ((nws (n + 1) M).1, (fun c i => if c = M.1 then (if i < n then some (M.1 + 1 + i) else none) else (nws (n + 1) M).2.1 c i), (nws (n + 1) M).2.2)
/-- a cell is there, and of a kind -/
def kc (n a k : Nat) : Bool := Nat.beq (K0 a) k && Nat.blt a n
def ib (n : Nat) (i : Int32) : Bool := decide (¬ (i < 0 ∨ n ≤ i.toNatClampNeg))
def av (n k a : Nat) (i : Int32) : Bool := kc n a k && ib (Z0 a) i
def cat2 (v : Value) : Bool := match v with
  | .long _ => true
  | .double _ => true
  | _ => false
def kill0 : List Value → List Value
  | [] => []
  | _ :: r => UU :: r
def lput : List Value → Nat → Value → List Value
  | [], _, _ => []
  | _ :: r, 0, v => v :: (bif cat2 v then kill0 r else r)
  | w :: r, n + 1, v => (match n with
    | 0 => (bif cat2 w then UU else w)
    | _ => w) :: lput r n v
def lget : List Value → Nat → Value
  | [], _ => UU
  | v :: _, 0 => v
  | _ :: r, n + 1 => lget r n
/-- ok, pc, locals, stack, memory -/
abbrev SR := Bool × Nat × List Value × List Value × GM
abbrev FS := Nat × List Value × List Value × GM
def swl : List (Int32 × Nat) → Nat → Int32 → Nat
  | [], d, _ => d
  | q :: r, d, x => if x = q.1 then q.2 else swl r d x
def i2c' (x : Int32) : Int32 := (x.toUInt32 % 65536).toInt32
def ushr (x y : Int32) : Int32 := (x.toUInt32 >>> (y.toUInt32 &&& Int32.toUInt32 31)).toInt32
def sh31 (y : Int32) : Int32 := y &&& 31
def imx (x y : Int32) : Int32 := if x < y then y else x
def imn (x y : Int32) : Int32 := if y < x then y else x
def lmx (x y : Int64) : Int64 := if y < x then x else y
def lmn (x y : Int64) : Int64 := if y < x then y else x
def idxL : List Int32 → Int32 → Int32 → Int32
  | [], _, _ => -1
  | a :: r, k, c => if c = a then k else idxL r (k + 1) c
/-- "gdsnyfhiow".indexOf -/
def fsi (c : Int32) : Int32 := idxL [103, 100, 115, 110, 121, 102, 104, 105, 111, 119] 0 c
def kAT (t : ArrayType) : Nat := match t with
  | .int => 20
  | .long => 21
  | .byte => 22
  | .char => 23
  | .boolean => 24
  | _ => 98
def xII (f : Int32 → Int32 → Int32) (nx : Nat) (ls st : List Value) (M : GM) : SR := match st with
  | .int y :: .int x :: r => (true, nx, ls, .int (f x y) :: r, M)
  | _ => (false, nx, ls, st, M)
def xLL (f : Int64 → Int64 → Int64) (nx : Nat) (ls st : List Value) (M : GM) : SR := match st with
  | .long y :: .long x :: r => (true, nx, ls, .long (f x y) :: r, M)
  | _ => (false, nx, ls, st, M)
def xI (f : Int32 → Int32) (nx : Nat) (ls st : List Value) (M : GM) : SR := match st with
  | .int x :: r => (true, nx, ls, .int (f x) :: r, M)
  | _ => (false, nx, ls, st, M)
def xCnd (f : Int32 → Prop) (d : ∀ x, Decidable (f x)) (t nx : Nat) (ls st : List Value) (M : GM) : SR := match st with
  | .int x :: r => (true, @ite _ (f x) (d x) t nx, ls, r, M)
  | _ => (false, nx, ls, st, M)
def xCmp (f : Int32 → Int32 → Prop) (d : ∀ x y, Decidable (f x y)) (t nx : Nat) (ls st : List Value) (M : GM) : SR := match st with
  | .int y :: .int x :: r => (true, @ite _ (f x y) (d x y) t nx, ls, r, M)
  | _ => (false, nx, ls, st, M)
def xIld (i nx : Nat) (ls st : List Value) (M : GM) : SR := match lget ls i with
  | .int x => (true, nx, ls, .int x :: st, M)
  | _ => (false, nx, ls, st, M)
def xLld (i nx : Nat) (ls st : List Value) (M : GM) : SR := match lget ls i with
  | .long x => (true, nx, ls, .long x :: st, M)
  | _ => (false, nx, ls, st, M)
def xAld (i nx : Nat) (ls st : List Value) (M : GM) : SR := match lget ls i with
  | .ref x => (true, nx, ls, .ref x :: st, M)
  | .null => (true, nx, ls, .null :: st, M)
  | .retAddr 1 => (true, nx, ls, .retAddr 1 :: st, M)
  | _ => (false, nx, ls, st, M)
def xIst (i nx : Nat) (ls st : List Value) (M : GM) : SR := match st with
  | .int x :: r => (Nat.blt i ls.length, nx, lput ls i (.int x), r, M)
  | _ => (false, nx, ls, st, M)
def xLst (i nx : Nat) (ls st : List Value) (M : GM) : SR := match st with
  | .long x :: r => (Nat.blt (i + 1) ls.length, nx, lput ls i (.long x), r, M)
  | _ => (false, nx, ls, st, M)
def xAst (i nx : Nat) (ls st : List Value) (M : GM) : SR := match st with
  | .ref x :: r => (Nat.blt i ls.length, nx, lput ls i (.ref x), r, M)
  | .null :: r => (Nat.blt i ls.length, nx, lput ls i .null, r, M)
  | _ => (false, nx, ls, st, M)
def xGet (l : LK) (nx : Nat) (ls st : List Value) (M : GM) : SR := match st with
  | .ref a :: r => bif Nat.blt l.1 2 then
      (match fk l.2.1 l.2.2.1 with
        | 0 => (kc M.1 a l.2.1, nx, ls, .int (M.2.2.1 a l.2.2.1) :: r, M)
        | 4 => (kc M.1 a l.2.1, nx, ls, .int (M.2.2.1 a l.2.2.1) :: r, M)
        | 1 => (kc M.1 a l.2.1, nx, ls, .long (M.2.2.2 a l.2.2.1) :: r, M)
        | 3 => (kc M.1 a l.2.1 && decide (¬ M.2.2.1 a l.2.2.1 < 0), nx, ls, .ref (M.2.2.1 a l.2.2.1).toNatClampNeg :: r, M)
        | 2 => bif Nat.beq l.2.1 8 then (kc M.1 a 8 && decide (M.2.1 a l.2.2.1 = some (a + shO l.2.2.1)), nx, ls, .ref (a + shO l.2.2.1) :: r, M)
          else (kc M.1 a l.2.1, nx, ls, rv (M.2.1 a l.2.2.1) :: r, M)
        | _ => (false, nx, ls, st, M))
      else (false, nx, ls, st, M)
  | _ => (false, nx, ls, st, M)
def xPut (l : LK) (nx : Nat) (ls st : List Value) (M : GM) : SR := match st with
  | v :: .ref a :: r => bif Nat.blt l.1 2 then
      (match fk l.2.1 l.2.2.1, v with
        | 0, .int x => (kc M.1 a l.2.1, nx, ls, r, sI M a l.2.2.1 x)
        | 4, .int x => (kc M.1 a l.2.1 && (decide (x = 0) || decide (x = 1)), nx, ls, r, sI M a l.2.2.1 x)
        | 1, .long x => (kc M.1 a l.2.1, nx, ls, r, sL M a l.2.2.1 x)
        | 3, .ref b => (kc M.1 a l.2.1 && Nat.blt b 1000, nx, ls, r, sI M a l.2.2.1 (Int32.ofNat b))
        | 2, .ref b => (kc M.1 a l.2.1, nx, ls, r, sR M a l.2.2.1 (some b))
        | _, _ => (false, nx, ls, st, M))
      else (false, nx, ls, st, M)
  | _ => (false, nx, ls, st, M)
def xAldI (k nx : Nat) (ls st : List Value) (M : GM) : SR := match st with
  | .int i :: .ref a :: r => (av M.1 k a i, nx, ls, .int (M.2.2.1 a i.toNatClampNeg) :: r, M)
  | _ => (false, nx, ls, st, M)
def xB (nx : Nat) (ls st : List Value) (M : GM) : SR := match st with
  | .int i :: .ref a :: r => (kc M.1 a (bif Nat.beq (K0 a) 24 then 24 else 22) && ib (Z0 a) i, nx, ls, .int (M.2.2.1 a i.toNatClampNeg) :: r, M)
  | _ => (false, nx, ls, st, M)
def xIal (nx : Nat) (ls st : List Value) (M : GM) : SR := match st with
  | .int i :: .ref a :: r => (av M.1 20 a i, nx, ls, .int (M.2.2.1 a i.toNatClampNeg) :: r, M)
  | .int i :: .retAddr 1 :: r => (ib (M.2.2.1 9998 0).toNatClampNeg i, nx, ls, .int (M.2.2.1 9999 i.toNatClampNeg) :: r, M)
  | _ => (false, nx, ls, st, M)
def xLal (nx : Nat) (ls st : List Value) (M : GM) : SR := match st with
  | .int i :: .ref a :: r => (av M.1 21 a i, nx, ls, .long (M.2.2.2 a i.toNatClampNeg) :: r, M)
  | _ => (false, nx, ls, st, M)
def xAal (nx : Nat) (ls st : List Value) (M : GM) : SR := match st with
  | .int i :: .ref a :: r => (Nat.blt 24 (K0 a) && Nat.blt (K0 a) 28 && Nat.blt a M.1 && ib (Z0 a) i, nx, ls, rv (M.2.1 a i.toNatClampNeg) :: r, M)
  | _ => (false, nx, ls, st, M)
def xIas (nx : Nat) (ls st : List Value) (M : GM) : SR := match st with
  | .int v :: .int i :: .ref a :: r => (av M.1 20 a i, nx, ls, r, sI M a i.toNatClampNeg v)
  | _ => (false, nx, ls, st, M)
def xCas (nx : Nat) (ls st : List Value) (M : GM) : SR := match st with
  | .int v :: .int i :: .ref a :: r => (av M.1 23 a i, nx, ls, r, sI M a i.toNatClampNeg (i2c' v))
  | _ => (false, nx, ls, st, M)
def xBas (nx : Nat) (ls st : List Value) (M : GM) : SR := match st with
  | .int v :: .int i :: .ref a :: r => (kc M.1 a (bif Nat.beq (K0 a) 24 then 24 else 22) && ib (Z0 a) i, nx, ls, r, sI M a i.toNatClampNeg (bif Nat.beq (K0 a) 24 then v &&& 1 else v.toInt8.toInt32))
  | _ => (false, nx, ls, st, M)
def xLas (nx : Nat) (ls st : List Value) (M : GM) : SR := match st with
  | .long v :: .int i :: .ref a :: r => (av M.1 21 a i, nx, ls, r, sL M a i.toNatClampNeg v)
  | _ => (false, nx, ls, st, M)
def xAas (nx : Nat) (ls st : List Value) (M : GM) : SR := match st with
  | .ref b :: .int i :: .ref a :: r => (av M.1 25 a i && kc M.1 b 8, nx, ls, r, sR M a i.toNatClampNeg (some b))
  | _ => (false, nx, ls, st, M)
def xAln (nx : Nat) (ls st : List Value) (M : GM) : SR := match st with
  | .ref a :: r => (Nat.blt 19 (K0 a) && Nat.blt (K0 a) 28 && Nat.blt a M.1, nx, ls, .int (Int32.ofNat (Z0 a)) :: r, M)
  | .retAddr 1 :: r => (true, nx, ls, .int (M.2.2.1 9998 0) :: r, M)
  | _ => (false, nx, ls, st, M)
def xNew (l : LK) (nx : Nat) (ls st : List Value) (M : GM) : SR :=
  (Nat.beq l.1 7 && Nat.beq (K0 M.1) l.2.1 && Nat.beq (Z0 M.1) (nf l.2.1), nx, ls, .ref M.1 :: st, nw M)
def xNwa (k nx : Nat) (ls st : List Value) (M : GM) : SR := match st with
  | .int v :: r => (Nat.beq (K0 M.1) k && decide (¬ v < 0) && Nat.beq v.toNatClampNeg (Z0 M.1), nx, ls, .ref M.1 :: r, nw M)
  | _ => (false, nx, ls, st, M)
def xMna (l : LK) (nx : Nat) (ls st : List Value) (M : GM) : SR := match st with
  | .int k :: .int n :: r => (Nat.beq l.1 15 && Nat.beq (K0 M.1) l.2.1 && decide (¬ n < 0) && decide (¬ k < 0) && Nat.beq n.toNatClampNeg (Z0 M.1) && (List.range (Z0 M.1)).all (fun j => Nat.beq (K0 (M.1 + 1 + j)) l.2.2.1 && Nat.beq (Z0 (M.1 + 1 + j)) k.toNatClampNeg), nx, ls, .ref M.1 :: r, nwm (Z0 M.1) M)
  | _ => (false, nx, ls, st, M)
def xNul (t1 t2 nx : Nat) (ls st : List Value) (M : GM) : SR := match st with
  | .null :: r => (true, t1, ls, r, M)
  | .ref _ :: r => (true, t2, ls, r, M)
  | _ => (false, nx, ls, st, M)
def xPrim (k nx : Nat) (ls st : List Value) (M : GM) : SR := match k, st with
  | 0, .int y :: .int x :: r => (Nat.ble (r.map fun v => v.category).sum 8, nx, ls, .int (imx x y) :: r, M)
  | 1, .int y :: .int x :: r => (Nat.ble (r.map fun v => v.category).sum 8, nx, ls, .int (imn x y) :: r, M)
  | 2, .long y :: .long x :: r => (Nat.ble (r.map fun v => v.category).sum 8, nx, ls, .long (lmx x y) :: r, M)
  | 3, .long y :: .long x :: r => (Nat.ble (r.map fun v => v.category).sum 8, nx, ls, .long (lmn x y) :: r, M)
  | _, _ => (false, nx, ls, st, M)
def xDup (nx : Nat) (ls st : List Value) (M : GM) : SR := match st with
  | v :: r => (!(cat2 v), nx, ls, v :: v :: r, M)
  | _ => (false, nx, ls, st, M)
def xDup2 (nx : Nat) (ls st : List Value) (M : GM) : SR := match st with
  | v :: w :: r => (!(cat2 v) && !(cat2 w), nx, ls, v :: w :: v :: w :: r, M)
  | _ => (false, nx, ls, st, M)
def xPop (nx : Nat) (ls st : List Value) (M : GM) : SR := match st with
  | v :: r => (!(cat2 v), nx, ls, r, M)
  | _ => (false, nx, ls, st, M)
def xDivI (f : Int32 → Int32 → Int32) (nx : Nat) (ls st : List Value) (M : GM) : SR := match st with
  | .int y :: .int x :: r => (decide (¬ y = 0), nx, ls, .int (f x y) :: r, M)
  | _ => (false, nx, ls, st, M)
def xDivL (f : Int64 → Int64 → Int64) (nx : Nat) (ls st : List Value) (M : GM) : SR := match st with
  | .long y :: .long x :: r => (decide (¬ y = 0), nx, ls, .long (f x y) :: r, M)
  | _ => (false, nx, ls, st, M)
def xSw (sw : List (Int32 × Nat)) (d nx : Nat) (ls st : List Value) (M : GM) : SR := match st with
  | .int x :: r => (true, swl sw d x, ls, r, M)
  | _ => (false, nx, ls, st, M)
def xLcmp (nx : Nat) (ls st : List Value) (M : GM) : SR := match st with
  | .long y :: .long x :: r => (true, nx, ls, .int (lg_cmp x y) :: r, M)
  | _ => (false, nx, ls, st, M)
def xI2l (nx : Nat) (ls st : List Value) (M : GM) : SR := match st with
  | .int x :: r => (true, nx, ls, .long x.toInt64 :: r, M)
  | _ => (false, nx, ls, st, M)
def xOb (l : LK) (nx : Nat) (ls st : List Value) (M : GM) : SR := match st with
  | .ref _ :: r => (Nat.beq l.1 11 && Nat.ble (r.map fun v => v.category).sum 8, nx, ls, r, M)
  | _ => (false, nx, ls, st, M)
def xIdx (l : LK) (nx : Nat) (ls st : List Value) (M : GM) : SR := match st with
  | .int c :: .retAddr 2 :: r => (Nat.beq l.1 13 && Nat.ble (r.map fun v => v.category).sum 8 && decide (¬ c < 0) && decide (c < 256), nx, ls, .int (fsi c) :: r, M)
  | _ => (false, nx, ls, st, M)
def xInc (i : Nat) (v : Int32) (nx : Nat) (ls st : List Value) (M : GM) : SR := match lget ls i with
  | .int x => (Nat.blt i ls.length, nx, lput ls i (.int (x + v)), st, M)
  | _ => (false, nx, ls, st, M)
def xLdc (l : LK) (nx : Nat) (ls st : List Value) (M : GM) : SR := match l.1 with
  | 8 => (true, nx, ls, .int l.2.2.2.2.1 :: st, M)
  | 10 => (true, nx, ls, .retAddr 2 :: st, M)
  | _ => (false, nx, ls, st, M)
def stp (lk : List (Nat × LK)) (e : EN) (ls st : List Value) (M : GM) : SR :=
  match e.2.1 with
  | .iconst _ => (true, e.1 + e.2.2.1, ls, .int e.2.2.2.2.1 :: st, M)
  | .bipush _ => (true, e.1 + e.2.2.1, ls, .int e.2.2.2.2.1 :: st, M)
  | .sipush _ => (true, e.1 + e.2.2.1, ls, .int e.2.2.2.2.1 :: st, M)
  | .lconst n => (true, e.1 + e.2.2.1, ls, .long (Int64.ofNat (n : Nat)) :: st, M)
  | .aconst_null => (true, e.1 + e.2.2.1, ls, .null :: st, M)
  | .ldc i => xLdc (lkf lk i) (e.1 + e.2.2.1) ls st M
  | .ldc_w i => (Nat.beq (lkf lk i).1 8, e.1 + e.2.2.1, ls, .int (lkf lk i).2.2.2.2.1 :: st, M)
  | .ldc2_w i => (Nat.beq (lkf lk i).1 9, e.1 + e.2.2.1, ls, .long (lkf lk i).2.2.2.2.2 :: st, M)
  | .iload_n i => xIld (i : Nat) (e.1 + e.2.2.1) ls st M
  | .iload i => xIld i (e.1 + e.2.2.1) ls st M
  | .lload_n i => xLld (i : Nat) (e.1 + e.2.2.1) ls st M
  | .lload i => xLld i (e.1 + e.2.2.1) ls st M
  | .aload_n i => xAld (i : Nat) (e.1 + e.2.2.1) ls st M
  | .aload i => xAld i (e.1 + e.2.2.1) ls st M
  | .istore_n i => xIst (i : Nat) (e.1 + e.2.2.1) ls st M
  | .istore i => xIst i (e.1 + e.2.2.1) ls st M
  | .lstore_n i => xLst (i : Nat) (e.1 + e.2.2.1) ls st M
  | .lstore i => xLst i (e.1 + e.2.2.1) ls st M
  | .astore_n i => xAst (i : Nat) (e.1 + e.2.2.1) ls st M
  | .astore i => xAst i (e.1 + e.2.2.1) ls st M
  | .iinc i _ => xInc i e.2.2.2.2.1 (e.1 + e.2.2.1) ls st M
  | .iadd => xII (fun x y => x + y) (e.1 + e.2.2.1) ls st M
  | .isub => xII (fun x y => x - y) (e.1 + e.2.2.1) ls st M
  | .imul => xII (fun x y => x * y) (e.1 + e.2.2.1) ls st M
  | .iand => xII (fun x y => x &&& y) (e.1 + e.2.2.1) ls st M
  | .ior => xII (fun x y => x ||| y) (e.1 + e.2.2.1) ls st M
  | .ixor => xII (fun x y => x ^^^ y) (e.1 + e.2.2.1) ls st M
  | .ishl => xII (fun x y => x <<< (y &&& 31)) (e.1 + e.2.2.1) ls st M
  | .ishr => xII (fun x y => x >>> (y &&& 31)) (e.1 + e.2.2.1) ls st M
  | .iushr => xII (fun x y => ushr x y) (e.1 + e.2.2.1) ls st M
  | .idiv => xDivI (fun x y => x / y) (e.1 + e.2.2.1) ls st M
  | .irem => xDivI (fun x y => x - x / y * y) (e.1 + e.2.2.1) ls st M
  | .ladd => xLL (fun x y => x + y) (e.1 + e.2.2.1) ls st M
  | .lsub => xLL (fun x y => x - y) (e.1 + e.2.2.1) ls st M
  | .lmul => xLL (fun x y => x * y) (e.1 + e.2.2.1) ls st M
  | .ldiv => xDivL (fun x y => x / y) (e.1 + e.2.2.1) ls st M
  | .lrem => xDivL (fun x y => x - x / y * y) (e.1 + e.2.2.1) ls st M
  | .lcmp => xLcmp (e.1 + e.2.2.1) ls st M
  | .i2l => xI2l (e.1 + e.2.2.1) ls st M
  | .i2b => xI (fun x => x.toInt8.toInt32) (e.1 + e.2.2.1) ls st M
  | .i2c => xI (fun x => i2c' x) (e.1 + e.2.2.1) ls st M
  | .dup => xDup (e.1 + e.2.2.1) ls st M
  | .dup2 => xDup2 (e.1 + e.2.2.1) ls st M
  | .pop => xPop (e.1 + e.2.2.1) ls st M
  | .goto _ => (true, e.2.2.2.1, ls, st, M)
  | .ifCond .eq _ => xCnd (fun x => x = 0) (fun _ => inferInstance) e.2.2.2.1 (e.1 + e.2.2.1) ls st M
  | .ifCond .ne _ => xCnd (fun x => x = 0) (fun _ => inferInstance) (e.1 + e.2.2.1) e.2.2.2.1 ls st M
  | .ifCond .lt _ => xCnd (fun x => x < 0) (fun _ => inferInstance) e.2.2.2.1 (e.1 + e.2.2.1) ls st M
  | .ifCond .ge _ => xCnd (fun x => x < 0) (fun _ => inferInstance) (e.1 + e.2.2.1) e.2.2.2.1 ls st M
  | .ifCond .gt _ => xCnd (fun x => 0 < x) (fun _ => inferInstance) e.2.2.2.1 (e.1 + e.2.2.1) ls st M
  | .ifCond .le _ => xCnd (fun x => 0 < x) (fun _ => inferInstance) (e.1 + e.2.2.1) e.2.2.2.1 ls st M
  | .if_icmp .eq _ => xCmp (fun x y => x = y) (fun _ _ => inferInstance) e.2.2.2.1 (e.1 + e.2.2.1) ls st M
  | .if_icmp .ne _ => xCmp (fun x y => x = y) (fun _ _ => inferInstance) (e.1 + e.2.2.1) e.2.2.2.1 ls st M
  | .if_icmp .lt _ => xCmp (fun x y => x < y) (fun _ _ => inferInstance) e.2.2.2.1 (e.1 + e.2.2.1) ls st M
  | .if_icmp .ge _ => xCmp (fun x y => x < y) (fun _ _ => inferInstance) (e.1 + e.2.2.1) e.2.2.2.1 ls st M
  | .if_icmp .gt _ => xCmp (fun x y => y < x) (fun _ _ => inferInstance) e.2.2.2.1 (e.1 + e.2.2.1) ls st M
  | .if_icmp .le _ => xCmp (fun x y => y < x) (fun _ _ => inferInstance) (e.1 + e.2.2.1) e.2.2.2.1 ls st M
  | .ifnull _ => xNul e.2.2.2.1 (e.1 + e.2.2.1) (e.1 + e.2.2.1) ls st M
  | .ifnonnull _ => xNul (e.1 + e.2.2.1) e.2.2.2.1 (e.1 + e.2.2.1) ls st M
  | .tableswitch _ _ _ _ => xSw e.2.2.2.2.2 e.2.2.2.1 (e.1 + e.2.2.1) ls st M
  | .lookupswitch _ _ => xSw e.2.2.2.2.2 e.2.2.2.1 (e.1 + e.2.2.1) ls st M
  | .getfield i => xGet (lkf lk i) (e.1 + e.2.2.1) ls st M
  | .putfield i => xPut (lkf lk i) (e.1 + e.2.2.1) ls st M
  | .iaload => xIal (e.1 + e.2.2.1) ls st M
  | .baload => xB (e.1 + e.2.2.1) ls st M
  | .caload => xAldI 23 (e.1 + e.2.2.1) ls st M
  | .laload => xLal (e.1 + e.2.2.1) ls st M
  | .aaload => xAal (e.1 + e.2.2.1) ls st M
  | .iastore => xIas (e.1 + e.2.2.1) ls st M
  | .bastore => xBas (e.1 + e.2.2.1) ls st M
  | .castore => xCas (e.1 + e.2.2.1) ls st M
  | .lastore => xLas (e.1 + e.2.2.1) ls st M
  | .aastore => xAas (e.1 + e.2.2.1) ls st M
  | .arraylength => xAln (e.1 + e.2.2.1) ls st M
  | .new i => xNew (lkf lk i) (e.1 + e.2.2.1) ls st M
  | .newarray t => xNwa (kAT t) (e.1 + e.2.2.1) ls st M
  | .anewarray i => bif Nat.beq (lkf lk i).1 7 && Nat.beq (lkf lk i).2.1 8 then xNwa 25 (e.1 + e.2.2.1) ls st M else (false, e.1 + e.2.2.1, ls, st, M)
  | .multianewarray i 2 => xMna (lkf lk i) (e.1 + e.2.2.1) ls st M
  | .invokestatic i => bif Nat.beq (lkf lk i).1 12 then xPrim (lkf lk i).2.1 (e.1 + e.2.2.1) ls st M else (false, e.1 + e.2.2.1, ls, st, M)
  | .invokespecial i => xOb (lkf lk i) (e.1 + e.2.2.1) ls st M
  | .invokevirtual i => xIdx (lkf lk i) (e.1 + e.2.2.1) ls st M
  | _ => (false, e.1 + e.2.2.1, ls, st, M)
/-- so many steps -/
def stps (cd : List EN) (lk : List (Nat × LK)) : Nat → FS → Bool × FS
  | 0, f => (true, f)
  | k + 1, f => ((stp lk (ftc cd f.1) f.2.1 f.2.2.1 f.2.2.2).1 && (stps cd lk k (stp lk (ftc cd f.1) f.2.1 f.2.2.1 f.2.2.2).2).1, (stps cd lk k (stp lk (ftc cd f.1) f.2.1 f.2.2.1 f.2.2.2).2).2)
