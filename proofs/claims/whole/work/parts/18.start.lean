/-! ===== where the law's loop begins ===== -/
def zc0 (e : zE_) (a : Nat) (M : zMem) : Option zMem := match zex 20000 50 zsc0 zhp0 (zcd e) 0 (zent [.ref a] e.2.2.1) [] M with
  | some (none, M') => some M'
  | _ => none
def zMemX : zMem := (zc0 zM_X11_init 0 (znew zM00 11 0 15)).getD zM00
def zMemM : zMem := (zc0 zM_X12_init 526 (znew zMemX 12 0 48)).getD zM00
def zMemA : zMem := znew zMemM 17 1 1
theorem zcX_ok : (zc0 zM_X11_init 0 (znew zM00 11 0 15)).isSome = true := by decide +kernel
theorem zcM_ok : (zc0 zM_X12_init 526 (znew zMemX 12 0 48)).isSome = true := by decide +kernel
/-- the numbers at the start -/
def gI0 (a j : Nat) : Int32 := if a = 0 then (if j = 12 then -1 else if j = 13 then 5 else 0) else if a = 526 then (if j = 30 then -1 else if j = 31 then 5 else 0) else 0
def g0 : zSg := ((554, 24438), gI0, (fun _ _ => 0), none)
def zchk (M : zMem) : Bool := (List.range 554).all fun a => decide (zK M a = zK0 a) && (if (zK0 a).1 < 13 then (List.range (zNf (zK0 a).1)).all (fun j => decide (zfv M (zK0 a).1 a j = zfv (gm g0) (zK0 a).1 a j)) else if (zK0 a).1 = 15 ∨ (zK0 a).1 = 16 then (List.range 40).all (fun j => decide (zR M a j = zR0 none a j)) else true)
theorem zchk_ok : (decide (zMemA.1 = (554, 24438)) && zchk zMemA) = true := by decide +kernel
