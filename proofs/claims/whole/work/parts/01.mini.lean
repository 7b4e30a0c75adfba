/-! THE SMALL MACHINE: blocks of resolved instructions over one clean memory of whole numbers (addresses from 1 on; 0 is null). All of this is pure: the tie to the Java machine is a later part. -/
abbrev mV : Type := Int ⊕ Int ⊕ (Nat × Int) ⊕ (Nat × Int) ⊕ Nat ⊕ Unit
/-- an int, a long, a reference of a kind that may be null, one that isn't, a standing array, nothing -/
abbrev vI (z : Int) : mV := .inl z
abbrev vL (z : Int) : mV := .inr (.inl z)
abbrev vR (t : Nat) (a : Int) : mV := .inr (.inr (.inl (t, a)))
abbrev vO (t : Nat) (a : Int) : mV := .inr (.inr (.inr (.inl (t, a))))
abbrev vS (j : Nat) : mV := .inr (.inr (.inr (.inr (.inl j))))
abbrev vU : mV := .inr (.inr (.inr (.inr (.inr ()))))
/-- memory: what lies at a place of an address; its kind; its length; how many addresses, how many slots were made; the script (its length at -1), only read -/
abbrev mH : Type := (Int → Int → Int) × (Int → Nat) × (Int → Int) × Nat × Nat × (Int → Int)
def mH.M (h : mH) : Int → Int → Int := h.1
def mH.T (h : mH) : Int → Nat := h.2.1
def mH.N (h : mH) : Int → Int := h.2.2.1
def mH.cnt (h : mH) : Nat := h.2.2.2.1
def mH.sl (h : mH) : Nat := h.2.2.2.2.1
def mH.X (h : mH) : Int → Int := h.2.2.2.2.2
def mH.set (h : mH) (a k v : Int) : mH := (fun b j => if b = a ∧ j = k then v else h.M b j, h.2)
def mH.top (h : mH) : Int := (h.cnt : Int) + 1
def mH.new (h : mH) (t : Nat) (n : Int) : mH := (fun b j => if b = h.top then 0 else h.M b j, fun b => if b = h.top then t else h.T b, fun b => if b = h.top then n else h.N b, h.cnt + 1, h.sl + n.toNat, h.X)
abbrev mR : Type := Option (Option mV × mH)
def gd {α : Type} (c : Prop) [Decidable c] (x : Option α) : Option α := if c then x else none
theorem gd_t {α : Type} {c : Prop} [Decidable c] {x : Option α} (h : c) : gd c x = x := if_pos h
theorem gd_f {α : Type} {c : Prop} [Decidable c] {x : Option α} (h : ¬ c) : gd c x = none := if_neg h
def bI (x : mR) (k : Int → mH → mR) : mR := match x with
  | some (some (.inl z), h) => k z h
  | _ => none
def bL (x : mR) (k : Int → mH → mR) : mR := match x with
  | some (some (.inr (.inl z)), h) => k z h
  | _ => none
def bV (x : mR) (k : mH → mR) : mR := match x with
  | some (none, h) => k h
  | _ => none
def bR (t : Nat) (x : mR) (k : Int → mH → mR) : mR := match x with
  | some (some (.inr (.inr (.inl (t', a)))), h) => if t' = t then k a h else none
  | _ => none
def wI (z : Int) : Int := Int.bmod z 4294967296
def wL (z : Int) : Int := Int.bmod z 18446744073709551616
def iand (x y : Int) : Int := (Int32.ofInt x &&& Int32.ofInt y).toInt
def ior (x y : Int) : Int := (Int32.ofInt x ||| Int32.ofInt y).toInt
def ixor (x y : Int) : Int := (Int32.ofInt x ^^^ Int32.ofInt y).toInt
def ishl (x y : Int) : Int := (Int32.ofInt x <<< (Int32.ofInt y &&& 31)).toInt
def ishr (x y : Int) : Int := (Int32.ofInt x >>> (Int32.ofInt y &&& 31)).toInt
def iushr (x y : Int) : Int := ((Int32.ofInt x).toUInt32 >>> ((Int32.ofInt y).toUInt32 &&& Int32.toUInt32 31)).toInt32.toInt
def land64 (x y : Int) : Int := (Int64.ofInt x &&& Int64.ofInt y).toInt
def lor64 (x y : Int) : Int := (Int64.ofInt x ||| Int64.ofInt y).toInt
def lshl64 (x y : Int) : Int := (Int64.ofInt x <<< ((Int32.ofInt y).toInt64 &&& 63)).toInt
def lushr64 (x y : Int) : Int := ((Int64.ofInt x).toUInt64 >>> ((Int32.ofInt y).toInt64.toUInt64 &&& Int64.toUInt64 63)).toInt64.toInt
def lcmp64 (x y : Int) : Int := if y < x then 1 else if x = y then 0 else -1
/-- the standing arrays: their lengths and what they hold -/
def fzM (j : Nat) (i : Int) : Int := match j with
  | 0 => if i = 0 then 0 else if i = 2 then 28 else if i = 4 then 30 else if i = 6 then 30 else if i = 9 then 30 else if i = 11 then 30 else 31
  | _ => if i = 0 then 0 else if i = 1 then 0 else if i = 2 then 31 else if i = 3 then 59 else if i = 4 then 90 else if i = 5 then 120 else if i = 6 then 151 else if i = 7 then 181 else if i = 8 then 212 else if i = 9 then 243 else if i = 10 then 273 else if i = 11 then 304 else 334
/-- an instruction, with what comes behind it -/
abbrev mI : Type := List mV → List mV → mH → (List mV → List mV → mH → mR) → mR
def mget : List mV → Nat → mV
  | [], _ => vU
  | v :: _, 0 => v
  | _ :: l, i + 1 => mget l i
def mput : List mV → Nat → mV → List mV
  | [], _, _ => []
  | _ :: l, 0, w => w :: l
  | v :: l, i + 1, w => v :: mput l i w
def weak (v : mV) : mV := match v with
  | .inr (.inr (.inr (.inl q))) => .inr (.inr (.inl q))
  | w => w
def s_c (z : Int) : mI := fun l s h k => k l (vI z :: s) h
def s_cl (z : Int) : mI := fun l s h k => k l (vL z :: s) h
def s_nul (t : Nat) : mI := fun l s h k => k l (vR t 0 :: s) h
def s_gs (j : Nat) : mI := fun l s h k => k l (vS j :: s) h
def s_il (i : Nat) : mI := fun l s h k => match mget l i with
  | .inl z => k l (.inl z :: s) h
  | _ => none
/-- a long is there as long as its second place is free -/
def s_ll (i : Nat) : mI := fun l s h k => match mget l i, mget l (i + 1) with
  | .inr (.inl z), .inr (.inr (.inr (.inr (.inr _)))) => k l (.inr (.inl z) :: s) h
  | _, _ => none
def s_al (i : Nat) : mI := fun l s h k => match mget l i with
  | .inr (.inr (.inl z)) => k l (.inr (.inr (.inl z)) :: s) h
  | .inr (.inr (.inr (.inl z))) => k l (.inr (.inr (.inr (.inl z))) :: s) h
  | .inr (.inr (.inr (.inr (.inl z)))) => k l (.inr (.inr (.inr (.inr (.inl z)))) :: s) h
  | _ => none
def s_is (i : Nat) : mI := fun l s h k => match s with
  | .inl z :: r => k (mput l i (.inl z)) r h
  | _ => none
def s_as (i : Nat) : mI := fun l s h k => match s with
  | .inr (.inr (.inl z)) :: r => k (mput l i (.inr (.inr (.inl z)))) r h
  | .inr (.inr (.inr (.inl z))) :: r => k (mput l i (.inr (.inr (.inl z)))) r h
  | _ => none
def s_ls (i : Nat) : mI := fun l s h k => match s with
  | .inr (.inl z) :: r => k (mput (mput l i (.inr (.inl z))) (i + 1) vU) r h
  | _ => none
def s_inc (i : Nat) (n : Int) : mI := fun l s h k => match mget l i with
  | .inl z => k (mput l i (.inl (wI (z + n)))) s h
  | _ => none
def isLong : mV → Bool
  | .inr (.inl _) => true
  | _ => false
def isU : mV → Bool
  | .inr (.inr (.inr (.inr (.inr _)))) => true
  | _ => false
def s_dup : mI := fun l s h k => match s with
  | .inl z :: r => k l (.inl z :: .inl z :: r) h
  | .inr (.inr (.inl z)) :: r => k l (.inr (.inr (.inl z)) :: .inr (.inr (.inl z)) :: r) h
  | .inr (.inr (.inr (.inl z))) :: r => k l (.inr (.inr (.inr (.inl z))) :: .inr (.inr (.inr (.inl z))) :: r) h
  | _ => none
def s_pop : mI := fun l s h k => match s with
  | .inl _ :: r => k l r h
  | .inr (.inr (.inl _)) :: r => k l r h
  | .inr (.inr (.inr (.inl _))) :: r => k l r h
  | _ => none
/-- two entries: an array and an index -/
def s_dup2 : mI := fun l s h k => match s with
  | .inl i :: .inr (.inr (.inl z)) :: r => k l (.inl i :: .inr (.inr (.inl z)) :: .inl i :: .inr (.inr (.inl z)) :: r) h
  | _ => none
def s_i2 (f : Int → Int → Int) : mI := fun l s h k => match s with
  | .inl y :: .inl x :: r => k l (.inl (f x y) :: r) h
  | _ => none
def s_iadd : mI := s_i2 fun x y => wI (x + y)
def s_isub : mI := s_i2 fun x y => wI (x - y)
def s_imul : mI := s_i2 fun x y => wI (x * y)
def s_iand : mI := s_i2 iand
def s_ior : mI := s_i2 ior
def s_ixor : mI := s_i2 ixor
def s_ishl : mI := s_i2 ishl
def s_ishr : mI := s_i2 ishr
def s_iushr : mI := s_i2 iushr
def s_idiv : mI := fun l s h k => match s with
  | .inl y :: .inl x :: r => gd (y ≠ 0) (k l (.inl (wI (x.tdiv y)) :: r) h)
  | _ => none
def s_irem : mI := fun l s h k => match s with
  | .inl y :: .inl x :: r => gd (y ≠ 0) (k l (.inl (x.tmod y) :: r) h)
  | _ => none
def s_ineg : mI := fun l s h k => match s with
  | .inl x :: r => k l (.inl (wI (-x)) :: r) h
  | _ => none
def s_l2 (f : Int → Int → Int) : mI := fun l s h k => match s with
  | .inr (.inl y) :: .inr (.inl x) :: r => k l (.inr (.inl (f x y)) :: r) h
  | _ => none
def s_ladd : mI := s_l2 fun x y => wL (x + y)
def s_lsub : mI := s_l2 fun x y => wL (x - y)
def s_lmul : mI := s_l2 fun x y => wL (x * y)
def s_land : mI := s_l2 land64
def s_lor : mI := s_l2 lor64
def s_ldiv : mI := fun l s h k => match s with
  | .inr (.inl y) :: .inr (.inl x) :: r => gd (y ≠ 0) (k l (.inr (.inl (wL (x.tdiv y))) :: r) h)
  | _ => none
def s_lrem : mI := fun l s h k => match s with
  | .inr (.inl y) :: .inr (.inl x) :: r => gd (y ≠ 0) (k l (.inr (.inl (x.tmod y)) :: r) h)
  | _ => none
def s_lshl : mI := fun l s h k => match s with
  | .inl y :: .inr (.inl x) :: r => k l (.inr (.inl (lshl64 x y)) :: r) h
  | _ => none
def s_lushr : mI := fun l s h k => match s with
  | .inl y :: .inr (.inl x) :: r => k l (.inr (.inl (lushr64 x y)) :: r) h
  | _ => none
def s_lcmp : mI := fun l s h k => match s with
  | .inr (.inl y) :: .inr (.inl x) :: r => k l (.inl (lcmp64 x y) :: r) h
  | _ => none
def s_i2l : mI := fun l s h k => match s with
  | .inl x :: r => k l (.inr (.inl x) :: r) h
  | _ => none
def s_l2i : mI := fun l s h k => match s with
  | .inr (.inl x) :: r => k l (.inl (wI x) :: r) h
  | _ => none
/-- kinds of what a field or a place holds: 0 int, 1 long, 2 + t a reference of kind t -/
def mk_v (kd : Nat) (z : Int) : mV := match kd with
  | 0 => .inl z
  | 1 => .inr (.inl z)
  | t + 2 => .inr (.inr (.inl (t, z)))
def s_get (ci : Nat) (f : Int) (kd : Nat) : mI := fun l s h k => match s with
  | .inr (.inr (.inl (t, a))) :: r => if t = ci then gd (a ≠ 0) (k l (mk_v kd (h.M a f) :: r) h) else none
  | .inr (.inr (.inr (.inl (t, a)))) :: r => if t = ci then k l (mk_v kd (h.M a f) :: r) h else none
  | _ => none
/-- the number that stands for a value of a kind -/
def un_v (kd : Nat) (v : mV) (k : Int → mR) : mR := match kd, v with
  | 0, .inl z => k z
  | 1, .inr (.inl z) => k z
  | t + 2, .inr (.inr (.inl (t', a))) => if t' = t then k a else none
  | t + 2, .inr (.inr (.inr (.inl (t', a)))) => if t' = t then k a else none
  | _, _ => none
def s_put (ci : Nat) (f : Int) (kd : Nat) : mI := fun l s h k => match s with
  | v :: .inr (.inr (.inl (t, a))) :: r => if t = ci then gd (a ≠ 0) (un_v kd v fun z => k l r (h.set a f z)) else none
  | v :: .inr (.inr (.inr (.inl (t, a)))) :: r => if t = ci then un_v kd v fun z => k l r (h.set a f z) else none
  | _ => none
/-- the kinds of arrays: 100 int, 101 long, 102 boolean, 200 + t references of kind t -/
def s_iald (ta : Nat) (kd : Nat) : mI := fun l s h k => match s with
  | .inl i :: .inr (.inr (.inl (t, a))) :: r => if t = ta then gd (0 ≤ i ∧ i < h.N a ∧ a ≠ 0) (k l (mk_v kd (h.M a i) :: r) h) else none
  | _ => none
def s_fald (j : Nat) (n : Int) : mI := fun l s h k => match s with
  | .inl i :: .inr (.inr (.inr (.inr (.inl j')))) :: r => if j' = j then gd (0 ≤ i ∧ i < n) (k l (.inl (fzM j i) :: r) h) else none
  | _ => none
def s_iast (ta : Nat) (kd : Nat) : mI := fun l s h k => match s with
  | v :: .inl i :: .inr (.inr (.inl (t, a))) :: r => if t = ta then gd (0 ≤ i ∧ i < h.N a ∧ a ≠ 0) (un_v kd v fun z => k l r (h.set a i z)) else none
  | _ => none
/-- a boolean's place takes 0 and 1 alone -/
def s_zast : mI := fun l s h k => match s with
  | .inl z :: .inl i :: .inr (.inr (.inl (t, a))) :: r => if t = 102 then gd (0 ≤ i ∧ i < h.N a ∧ a ≠ 0) (gd (z = 0 ∨ z = 1) (k l r (h.set a i z))) else none
  | _ => none
/-- a reference's place takes what isn't null -/
def s_aast (ta : Nat) (kd : Nat) : mI := fun l s h k => match s with
  | v :: .inl i :: .inr (.inr (.inl (t, a))) :: r => if t = ta then gd (0 ≤ i ∧ i < h.N a ∧ a ≠ 0) (un_v kd v fun z => gd (z ≠ 0) (k l r (h.set a i z))) else none
  | _ => none
def s_alen (ta : Nat) : mI := fun l s h k => match s with
  | .inr (.inr (.inl (t, a))) :: r => if t = ta then gd (a ≠ 0) (k l (.inl (h.N a) :: r) h) else none
  | _ => none
def s_new (ci : Nat) (n : Int) : mI := fun l s h k => k l (vO ci h.top :: s) (h.new ci n)
def s_newa (ta : Nat) : mI := fun l s h k => match s with
  | .inl n :: r => gd (0 ≤ n ∧ n ≤ 1000000) (k l (vR ta h.top :: r) (h.new ta n))
  | _ => none
def s_oi : mI := fun l s h k => match s with
  | [.inr (.inr (.inr (.inl _)))] => k l [] h
  | _ => none
/-- what isn't null may be taken as what may be -/
def s_wk : mI := fun l s h k => match s with
  | .inr (.inr (.inr (.inl z))) :: r => k l (.inr (.inr (.inl z)) :: r) h
  | _ => none
/-- the script's own array, at the law's level: its length, its numbers -/
def s_xlen : mI := fun l s h k => match s with
  | .inr (.inr (.inr (.inr (.inl j)))) :: r => if j = 2 then k l (.inl (h.X (-1)) :: r) h else none
  | _ => none
def s_xald : mI := fun l s h k => match s with
  | .inl i :: .inr (.inr (.inr (.inr (.inl j)))) :: r => if j = 2 then gd (0 ≤ i ∧ i < h.X (-1)) (k l (.inl (h.X i) :: r) h) else none
  | _ => none
/-- a block's end: where to go on, what to call -/
abbrev mT : Type := (Nat → List mV → List mV → mH → mR) → (Nat → List mV → mH → mR) → List mV → List mV → mH → mR
def t_go (b : Nat) : mT := fun X _ l s h => X b l s h
def t_ieq (b1 b2 : Nat) : mT := fun X _ l s h => match s with
  | .inl y :: .inl x :: r => if x = y then X b1 l r h else X b2 l r h
  | _ => none
def t_ine (b1 b2 : Nat) : mT := fun X _ l s h => match s with
  | .inl y :: .inl x :: r => if x = y then X b2 l r h else X b1 l r h
  | _ => none
def t_ilt (b1 b2 : Nat) : mT := fun X _ l s h => match s with
  | .inl y :: .inl x :: r => if x < y then X b1 l r h else X b2 l r h
  | _ => none
def t_ige (b1 b2 : Nat) : mT := fun X _ l s h => match s with
  | .inl y :: .inl x :: r => if x < y then X b2 l r h else X b1 l r h
  | _ => none
def t_igt (b1 b2 : Nat) : mT := fun X _ l s h => match s with
  | .inl y :: .inl x :: r => if x ≤ y then X b2 l r h else X b1 l r h
  | _ => none
def t_ile (b1 b2 : Nat) : mT := fun X _ l s h => match s with
  | .inl y :: .inl x :: r => if x ≤ y then X b1 l r h else X b2 l r h
  | _ => none
def t_zeq (b1 b2 : Nat) : mT := fun X _ l s h => match s with
  | .inl x :: r => if x = 0 then X b1 l r h else X b2 l r h
  | _ => none
def t_zne (b1 b2 : Nat) : mT := fun X _ l s h => match s with
  | .inl x :: r => if x = 0 then X b2 l r h else X b1 l r h
  | _ => none
def t_zlt (b1 b2 : Nat) : mT := fun X _ l s h => match s with
  | .inl x :: r => if x < 0 then X b1 l r h else X b2 l r h
  | _ => none
def t_zge (b1 b2 : Nat) : mT := fun X _ l s h => match s with
  | .inl x :: r => if x < 0 then X b2 l r h else X b1 l r h
  | _ => none
def t_zgt (b1 b2 : Nat) : mT := fun X _ l s h => match s with
  | .inl x :: r => if x ≤ 0 then X b2 l r h else X b1 l r h
  | _ => none
def t_zle (b1 b2 : Nat) : mT := fun X _ l s h => match s with
  | .inl x :: r => if x ≤ 0 then X b1 l r h else X b2 l r h
  | _ => none
def t_nul (b1 b2 : Nat) : mT := fun X _ l s h => match s with
  | .inr (.inr (.inl (_, a))) :: r => if a = 0 then X b1 l r h else X b2 l r h
  | _ => none
def t_nnul (b1 b2 : Nat) : mT := fun X _ l s h => match s with
  | .inr (.inr (.inl (_, a))) :: r => if a = 0 then X b2 l r h else X b1 l r h
  | _ => none
/-- a switch over a row of numbers, from lo on -/
def swf (bs : List Nat) (d : Nat) (lo : Int) (x : Int) (X : Nat → mR) : mR := match bs with
  | [] => X d
  | b :: r => if x = lo then X b else swf r d (lo + 1) x X
def t_sw (lo : Int) (bs : List Nat) (d : Nat) : mT := fun X _ l s h => match s with
  | .inl x :: r => swf bs d lo x fun b => X b l r h
  | _ => none
def swl (ps : List (Int × Nat)) (d : Nat) (x : Int) (X : Nat → mR) : mR := match ps with
  | [] => X d
  | q :: r => if x = q.1 then X q.2 else swl r d x X
def t_lsw (ps : List (Int × Nat)) (d : Nat) : mT := fun X _ l s h => match s with
  | .inl x :: r => swl ps d x fun b => X b l r h
  | _ => none
def t_rv : mT := fun _ _ _ s h => match s with
  | [] => some (none, h)
  | _ => none
def t_ri : mT := fun _ _ _ s h => match s with
  | [.inl x] => some (some (.inl x), h)
  | _ => none
/-- a boolean method answers 0 or 1 -/
def t_rz : mT := fun _ _ _ s h => match s with
  | [.inl x] => gd (x = 0 ∨ x = 1) (some (some (.inl x), h))
  | _ => none
def t_rl : mT := fun _ _ _ s h => match s with
  | [.inr (.inl x)] => some (some (.inr (.inl x)), h)
  | _ => none
def t_ra (tt : Nat) : mT := fun _ _ _ s h => match s with
  | [.inr (.inr (.inl (t, a)))] => if t = tt then some (some (.inr (.inr (.inl (t, a)))), h) else none
  | [.inr (.inr (.inr (.inl (t, a))))] => if t = tt then some (some (.inr (.inr (.inl (t, a)))), h) else none
  | _ => none
/-- the arguments, the last one on top: taken off one by one -/
def margs : Nat → List mV → List mV → (List mV → List mV → mR) → mR
  | 0, as, s, k => k as s
  | n + 1, as, s, k => match s with
    | v :: r => margs n (weak v :: as) r k
    | [] => none
/-- what a call gives back: 0 nothing, 1 an int, 2 a long, 3 + t a reference of kind t -/
def mback (kd : Nat) (x : mR) (s : List mV) (k : List mV → mH → mR) : mR := match kd with
  | 0 => bV x fun h => k s h
  | 1 => bI x fun z h => k (.inl z :: s) h
  | 2 => bL x fun z h => k (.inr (.inl z) :: s) h
  | t + 3 => bR t x fun a h => k (.inr (.inr (.inl (t, a))) :: s) h
/-- how wide a stack is; a call wants eight at most below its arguments -/
def wsum : List mV → Nat
  | [] => 0
  | v :: r => match v with
    | .inr (.inl _) => wsum r + 2
    | _ => wsum r + 1
def mfit (w : Nat) (r : List mV) (x : mR) : mR := match Nat.ble (wsum r) w with
  | true => x
  | false => none
def t_cs (f n kd b : Nat) : mT := fun X C l s h => margs n [] s fun as r => mfit 8 r (mback kd (C f as h) r fun s' h' => X b l s' h')
/-- a call on an object of a class: the object isn't null -/
def cvk (w ci f kd b : Nat) (l : List mV) (h : mH) (as r : List mV) (X : Nat → List mV → List mV → mH → mR) (C : Nat → List mV → mH → mR) : mR := match r with
  | .inr (.inr (.inl (t, a))) :: r' => if t = ci then gd (a ≠ 0) (mfit w r' (mback kd (C f (vO t a :: as) h) r' fun s' h' => X b l s' h')) else none
  | .inr (.inr (.inr (.inl (t, a)))) :: r' => if t = ci then mfit w r' (mback kd (C f (vO t a :: as) h) r' fun s' h' => X b l s' h') else none
  | _ => none
def t_cv (ci f n kd b : Nat) : mT := fun X C l s h => margs n [] s fun as r => cvk 8 ci f kd b l h as r X C
/-- the same, over a wider stack -/
def t_cw (ci f n kd b : Nat) : mT := fun X C l s h => margs n [] s fun as r => cvk 10 ci f kd b l h as r X C
/-- a call by an interface: which method, the object's kind says -/
def cik (f : Nat → Nat) (kd b : Nat) (l : List mV) (h : mH) (as r : List mV) (X : Nat → List mV → List mV → mH → mR) (C : Nat → List mV → mH → mR) : mR := match r with
  | .inr (.inr (.inl (t, a))) :: r' => gd (a ≠ 0) (mfit 8 r' (mback kd (C (f t) (vO t a :: as) h) r' fun s' h' => X b l s' h'))
  | _ => none
def t_ci (f : Nat → Nat) (n kd b : Nat) : mT := fun X C l s h => margs n [] s fun as r => cik f kd b l h as r X C
abbrev mB : Type := List mI × mT
def runL : List mI → (List mV → List mV → mH → mR) → List mV → List mV → mH → mR
  | [], k, l, s, h => k l s h
  | i :: r, k, l, s, h => i l s h fun l' s' h' => runL r k l' s' h'
def runB (B : mB) (X : Nat → List mV → List mV → mH → mR) (C : Nat → List mV → mH → mR) (l s : List mV) (h : mH) : mR := runL B.1 (fun l' s' h' => B.2 X C l' s' h') l s h
/-- the arguments as locals, a long in two places -/
def mlay : List mV → List mV
  | [] => []
  | .inr (.inl z) :: r => .inr (.inl z) :: vU :: mlay r
  | v :: r => v :: mlay r
def mpad : Nat → List mV
  | 0 => []
  | n + 1 => vU :: mpad n
def mlen : List mV → Nat
  | [] => 0
  | _ :: r => mlen r + 1
def mloc (nL : Nat) (as : List mV) : List mV := mlay as ++ mpad (nL - mlen (mlay as))
/-- the program: for each method its blocks, and how many locals -/
abbrev mP : Type := List (List mB × Nat)
def mblk (P : mP) (k b : Nat) : Option mB := match P[k]? with
  | some q => q.1[b]?
  | none => none
def mnl (P : mP) (k : Nat) : Nat := match P[k]? with
  | some q => q.2
  | none => 0
/-- a call: the arguments must fit the locals -/
def mcl (P : mP) (Y : Nat → Nat → List mV → List mV → mH → mR) (f : Nat) (as : List mV) (h : mH) : mR := match Nat.ble (mlen (mlay as)) (mnl P f) with
  | true => Y f 0 (mloc (mnl P f) as) [] h
  | false => none
theorem mcl_inv {P : mP} {Y : Nat → Nat → List mV → List mV → mH → mR} {f : Nat} {as : List mV} {h : mH} {r : Option mV × mH} (e : mcl P Y f as h = some r) : mlen (mlay as) ≤ mnl P f ∧ Y f 0 (mloc (mnl P f) as) [] h = some r := by
  unfold mcl at e
  split at e
  · rename_i q; exact ⟨Nat.le_of_ble_eq_true q, e⟩
  · cases e
theorem mcl_of {P : mP} {Y : Nat → Nat → List mV → List mV → mH → mR} {f : Nat} {as : List mV} {h : mH} {r : Option mV × mH} (q : mlen (mlay as) ≤ mnl P f) (e : Y f 0 (mloc (mnl P f) as) [] h = some r) : mcl P Y f as h = some r := by
  unfold mcl
  rw [Nat.ble_eq_true_of_le q]
  exact e
/-- n steps of blocks and calls at most -/
def mex (P : mP) : Nat → Nat → Nat → List mV → List mV → mH → mR
  | 0, _, _, _, _, _ => none
  | n + 1, k, b, l, s, h => match mblk P k b with
    | some B => runB B (fun b' => mex P n k b') (fun f as => mcl P (mex P n) f as) l s h
    | none => none
/-- memory only grows: what was made keeps its kind -/
def mExt (h h' : mH) : Prop := h.cnt ≤ h'.cnt ∧ h.sl ≤ h'.sl ∧ h'.X = h.X ∧ ∀ a : Int, a ≤ h.cnt → h'.T a = h.T a
theorem mExt.rf (h : mH) : mExt h h := ⟨Nat.le_refl _, Nat.le_refl _, rfl, fun _ _ => rfl⟩
theorem mExt.st (h : mH) (a k v : Int) : mExt h (h.set a k v) := ⟨Nat.le_refl _, Nat.le_refl _, rfl, fun _ _ => rfl⟩
theorem mExt.nw (h : mH) (t : Nat) (n : Int) : mExt h (h.new t n) := ⟨Nat.le_succ _, Nat.le_add_right _ _, rfl, fun a ha => by
  show (if a = h.top then t else h.T a) = h.T a
  rw [if_neg]
  unfold mH.top
  omega⟩
theorem mExt.tr {a b c : mH} (h1 : mExt a b) (h2 : mExt b c) : mExt a c := ⟨Nat.le_trans h1.1 h2.1, Nat.le_trans h1.2.1 h2.2.1, h2.2.2.1.trans h1.2.2.1, fun x hx => (h2.2.2.2 x (by have := h1.1; omega)).trans (h1.2.2.2 x hx)⟩
/-- an instruction goes on in one way, or not at all -/
def iok (i : mI) : Prop := ∀ l s h, (∀ k, i l s h k = none) ∨ ∃ l' s' h', mExt h h' ∧ ∀ k, i l s h k = k l' s' h'
def tokA (h0 : mH) (f : ∀ (_ : Nat → List mV → List mV → mH → mR) (_ : Nat → List mV → mH → mR), mR) : Prop :=
  (∀ X C, f X C = none) ∨ (∃ b l s h, mExt h0 h ∧ ∀ X C, f X C = X b l s h) ∨ (∃ r : Option mV × mH, mExt h0 r.2 ∧ ∀ X C, f X C = some r) ∨ ∃ g as h kd s b l, mExt h0 h ∧ ∀ X C, f X C = mback kd (C g as h) s fun s' h' => X b l s' h'
def tok (t : mT) : Prop := ∀ l s h, tokA h fun X C => t X C l s h
def lok : List mI → Prop
  | [] => True
  | i :: r => iok i ∧ lok r
def bok (B : mB) : Prop := lok B.1 ∧ tok B.2
def pok (P : mP) : Prop := ∀ k b B, mblk P k b = some B → bok B
theorem tokA.up {h0 h1 : mH} {f : ∀ (_ : Nat → List mV → List mV → mH → mR) (_ : Nat → List mV → mH → mR), mR} (e : mExt h0 h1) (h : tokA h1 f) : tokA h0 f := by
  rcases h with q | ⟨b, l, s, h, x, q⟩ | ⟨r, x, q⟩ | ⟨g, as, h, kd, s, b, l, x, q⟩
  · exact Or.inl q
  · exact Or.inr (Or.inl ⟨b, l, s, h, e.tr x, q⟩)
  · exact Or.inr (Or.inr (Or.inl ⟨r, e.tr x, q⟩))
  · exact Or.inr (Or.inr (Or.inr ⟨g, as, h, kd, s, b, l, e.tr x, q⟩))
theorem runL_ok {t : mT} (ht : tok t) : ∀ (L : List mI), lok L → ∀ l s h, tokA h fun X C => runL L (fun l' s' h' => t X C l' s' h') l s h := by
  intro L
  induction L with
  | nil => intro _ l s h; exact ht l s h
  | cons i r ih =>
    intro hL l s h
    rcases hL.1 l s h with hn | ⟨l', s', h', x, hk⟩
    · exact Or.inl fun X C => hn _
    · have q := ih hL.2 l' s' h'
      have e : (fun X C => runL (i :: r) (fun l' s' h' => t X C l' s' h') l s h) = fun X C => runL r (fun l' s' h' => t X C l' s' h') l' s' h' := by
        funext X C
        exact hk _
      rw [e]
      exact q.up x
theorem runB_ok {B : mB} (hB : bok B) (l s : List mV) (h : mH) : tokA h fun X C => runB B X C l s h := runL_ok hB.2 B.1 hB.1 l s h
theorem mback_some {kd : Nat} {x : mR} {s : List mV} {k : List mV → mH → mR} {r : Option mV × mH} (h : mback kd x s k = some r) : ∃ q, x = some q := by
  match x with
  | some q => exact ⟨q, rfl⟩
  | none =>
    unfold mback at h
    split at h
    · exact absurd h (by simp [bV])
    · exact absurd h (by simp [bI])
    · exact absurd h (by simp [bL])
    · exact absurd h (by simp [bR])
/-- with a result in hand a call goes on in one way, or not at all -/
theorem mback_ok (kd : Nat) (q : Option mV × mH) (s : List mV) : (∀ k, mback kd (some q) s k = none) ∨ ∃ s' h', ∀ k, mback kd (some q) s k = k s' h' := by
  obtain ⟨v, h⟩ := q
  match kd with
  | 0 =>
    match v with
    | none => exact Or.inr ⟨s, h, fun k => rfl⟩
    | some v => exact Or.inl fun k => rfl
  | 1 =>
    match v with
    | some (.inl z) => exact Or.inr ⟨.inl z :: s, h, fun k => rfl⟩
    | none => exact Or.inl fun k => rfl
    | some (.inr z) => exact Or.inl fun k => rfl
  | 2 =>
    match v with
    | some (.inr (.inl z)) => exact Or.inr ⟨.inr (.inl z) :: s, h, fun k => rfl⟩
    | none => exact Or.inl fun k => rfl
    | some (.inl z) => exact Or.inl fun k => rfl
    | some (.inr (.inr z)) => exact Or.inl fun k => rfl
  | t + 3 =>
    match v with
    | some (.inr (.inr (.inl (t', a)))) =>
      by_cases ht : t' = t
      · exact Or.inr ⟨.inr (.inr (.inl (t, a))) :: s, h, fun k => if_pos ht⟩
      · exact Or.inl fun k => if_neg ht
    | none => exact Or.inl fun k => rfl
    | some (.inl z) => exact Or.inl fun k => rfl
    | some (.inr (.inl z)) => exact Or.inl fun k => rfl
    | some (.inr (.inr (.inr z))) => exact Or.inl fun k => rfl
theorem mex_step (P : mP) (n k b : Nat) (l s : List mV) (h : mH) (B : mB) (hB : mblk P k b = some B) : mex P (n + 1) k b l s h = runB B (fun b' => mex P n k b') (fun f as => mcl P (mex P n) f as) l s h := by
  simp only [mex, hB]
theorem mex_none (P : mP) (n k b : Nat) (l s : List mV) (h : mH) (hB : mblk P k b = none) : mex P n k b l s h = none := by
  cases n with
  | zero => rfl
  | succ n => simp only [mex, hB]
theorem mex_up {P : mP} (hP : pok P) : ∀ (n k b : Nat) (l s : List mV) (h : mH) (r : Option mV × mH), mex P n k b l s h = some r → mex P (n + 1) k b l s h = some r := by
  intro n
  induction n with
  | zero => intro k b l s h r e; cases e
  | succ n ih =>
    intro k b l s h r e
    cases hB : mblk P k b with
    | none => rw [mex_none P _ k b l s h hB] at e; cases e
    | some B =>
      rw [mex_step P _ k b l s h B hB] at e ⊢
      rcases runB_ok (hP k b B hB) l s h with q | ⟨b', l', s', h', -, q⟩ | ⟨r', -, q⟩ | ⟨g, as, h', kd, s', b', l', -, q⟩ <;> dsimp only at q
      · rw [q] at e; cases e
      · rw [q] at e ⊢; exact ih _ _ _ _ _ _ e
      · rw [q] at e ⊢; exact e
      · rw [q] at e ⊢
        obtain ⟨x, hx⟩ := mback_some e
        rw [hx] at e
        obtain ⟨hl, hx⟩ := mcl_inv hx
        rw [mcl_of hl (ih _ _ _ _ _ _ hx)]
        rcases mback_ok kd x s' with w | ⟨s2, h2, w⟩
        · rw [w] at e; cases e
        · rw [w] at e ⊢; exact ih _ _ _ _ _ _ e
theorem mex_le {P : mP} (hP : pok P) {n m k b : Nat} {l s : List mV} {h : mH} {r : Option mV × mH} (hm : n ≤ m) (e : mex P n k b l s h = some r) : mex P m k b l s h = some r := by
  induction m with
  | zero => rw [Nat.le_zero.mp hm] at e; exact e
  | succ m ih =>
    rcases Nat.lt_or_ge n (m + 1) with q | q
    · exact mex_up hP _ _ _ _ _ _ _ (ih (by omega))
    · rw [Nat.le_antisymm hm q] at e; exact e
/-- what a block comes to, however many steps it takes -/
noncomputable def rn (P : mP) (k b : Nat) (l s : List mV) (h : mH) : mR := @dite _ (∃ n r, mex P n k b l s h = some r) (Classical.propDecidable _) (fun e => mex P (Classical.choose e) k b l s h) (fun _ => none)
theorem rn_iff {P : mP} (hP : pok P) (k b : Nat) (l s : List mV) (h : mH) (r : Option mV × mH) : rn P k b l s h = some r ↔ ∃ n, mex P n k b l s h = some r := by
  constructor
  · intro e
    unfold rn at e
    by_cases hx : ∃ n r, mex P n k b l s h = some r
    · rw [dif_pos hx] at e; exact ⟨_, e⟩
    · rw [dif_neg hx] at e; cases e
  · intro ⟨n, e⟩
    have hx : ∃ n r, mex P n k b l s h = some r := ⟨n, r, e⟩
    unfold rn
    rw [dif_pos hx]
    obtain ⟨r', hr'⟩ := Classical.choose_spec hx
    rw [hr']
    have a := mex_le hP (Nat.le_max_left n (Classical.choose hx)) e
    have c := mex_le hP (Nat.le_max_right n (Classical.choose hx)) hr'
    exact c.symm.trans a
theorem rn_eq {P : mP} (hP : pok P) {k b : Nat} {B : mB} (hB : mblk P k b = some B) (l s : List mV) (h : mH) : rn P k b l s h = runB B (fun b' => rn P k b') (fun f as => mcl P (rn P) f as) l s h := by
  have key : ∀ r, rn P k b l s h = some r ↔ runB B (fun b' => rn P k b') (fun f as => mcl P (rn P) f as) l s h = some r := by
    intro r
    rw [rn_iff hP]
    have up : (∃ n, mex P n k b l s h = some r) ↔ ∃ n, mex P (n + 1) k b l s h = some r := ⟨fun ⟨n, e⟩ => ⟨n, mex_up hP _ _ _ _ _ _ _ e⟩, fun ⟨n, e⟩ => ⟨n + 1, e⟩⟩
    rw [up]
    simp only [mex_step P _ k b l s h B hB]
    rcases runB_ok (hP k b B hB) l s h with q | ⟨b', l', s', h', -, q⟩ | ⟨r', -, q⟩ | ⟨g, as, h', kd, s', b', l', -, q⟩ <;> dsimp only at q
    · simp [q]
    · simp only [q]; rw [rn_iff hP]
    · simp [q]
    · simp only [q]
      constructor
      · rintro ⟨n, e⟩
        obtain ⟨x, hx⟩ := mback_some e
        rw [hx] at e
        obtain ⟨hl, hx⟩ := mcl_inv hx
        rw [mcl_of hl ((rn_iff hP _ _ _ _ _ _).mpr ⟨n, hx⟩)]
        rcases mback_ok kd x s' with w | ⟨s2, h2, w⟩
        · rw [w] at e; cases e
        · rw [w] at e ⊢; exact (rn_iff hP _ _ _ _ _ _).mpr ⟨n, e⟩
      · intro e
        obtain ⟨x, hx⟩ := mback_some e
        rw [hx] at e
        obtain ⟨hl, hx⟩ := mcl_inv hx
        obtain ⟨n1, e1⟩ := (rn_iff hP _ _ _ _ _ _).mp hx
        rcases mback_ok kd x s' with w | ⟨s2, h2, w⟩
        · rw [w] at e; cases e
        · rw [w] at e
          obtain ⟨n2, e2⟩ := (rn_iff hP _ _ _ _ _ _).mp e
          refine ⟨max n1 n2, ?_⟩
          rw [mcl_of hl (mex_le hP (Nat.le_max_left n1 n2) e1), w]
          exact mex_le hP (Nat.le_max_right n1 n2) e2
  cases e1 : rn P k b l s h with
  | some r => exact ((key r).mp e1).symm
  | none =>
    cases e2 : runB B (fun b' => rn P k b') (fun f as => mcl P (rn P) f as) l s h with
    | some r => rw [(key r).mpr e2] at e1; cases e1
    | none => rfl
theorem mback_heap {kd : Nat} {v : Option mV} {h : mH} {s : List mV} {k : List mV → mH → mR} {r : Option mV × mH} (e : mback kd (some (v, h)) s k = some r) : ∃ s', k s' h = some r := by
  unfold mback at e
  split at e
  · unfold bV at e; split at e
    · rename_i q; cases q; exact ⟨_, e⟩
    · cases e
  · unfold bI at e; split at e
    · rename_i q; cases q; exact ⟨_, e⟩
    · cases e
  · unfold bL at e; split at e
    · rename_i q; cases q; exact ⟨_, e⟩
    · cases e
  · unfold bR at e; split at e
    · rename_i q; cases q
      split at e
      · exact ⟨_, e⟩
      · cases e
    · cases e
theorem mex_ext {P : mP} (hP : pok P) : ∀ (n k b : Nat) (l s : List mV) (h : mH) (r : Option mV × mH), mex P n k b l s h = some r → mExt h r.2 := by
  intro n
  induction n with
  | zero => intro k b l s h r e; cases e
  | succ n ih =>
    intro k b l s h r e
    cases hB : mblk P k b with
    | none => rw [mex_none P _ k b l s h hB] at e; cases e
    | some B =>
      rw [mex_step P _ k b l s h B hB] at e
      rcases runB_ok (hP k b B hB) l s h with q | ⟨b', l', s', h', x, q⟩ | ⟨r', x, q⟩ | ⟨g, as, h', kd, s', b', l', x, q⟩ <;> dsimp only at q
      · rw [q] at e; cases e
      · rw [q] at e; exact x.tr (ih _ _ _ _ _ _ e)
      · rw [q] at e; cases e; exact x
      · rw [q] at e
        obtain ⟨⟨v, hv⟩, hx⟩ := mback_some e
        rw [hx] at e
        obtain ⟨s2, e2⟩ := mback_heap e
        exact (x.tr (ih _ _ _ _ _ _ (mcl_inv hx).2)).tr (ih _ _ _ _ _ _ e2)
