/-! ===== the two maps of numbers alone: the references are as the constructors leave them (Geo) ===== -/
abbrev M2 : Type := (Nat → Nat → Int32) × (Nat → Nat → Int64)
abbrev RM : Type := Nat → Nat → Option Nat
abbrev mk (m : M2) (R : RM) : Mem := (m.1, m.2, R)
def hI (m : M2) (k j : Nat) : Int32 := m.1 k j
def hJ (m : M2) (k j : Nat) : Int64 := m.2 k j
def tI (m : M2) (k j : Nat) (v : Int32) : M2 := (u2 m.1 k j v, m.2)
def tJ (m : M2) (k j : Nat) (v : Int64) : M2 := (m.1, u2 m.2 k j v)
def qI (m : M2) (k j : Nat) (v : Int32) : Option M2 := some (tI m k j v)
def qJ (m : M2) (k j : Nat) (v : Int64) : Option M2 := some (tJ m k j v)
def aI (m : M2) (r n : Nat) (i : Int32) : Option Int32 := if ixb i n = true then some (hI m r i.toNatClampNeg) else none
def aJ (m : M2) (r n : Nat) (i : Int32) : Option Int64 := if ixb i n = true then some (hJ m r i.toNatClampNeg) else none
def bI (m : M2) (r n : Nat) (i : Int32) (v : Int32) : Option M2 := if ixb i n = true then some (tI m r i.toNatClampNeg v) else none
def bB (m : M2) (r n : Nat) (i : Int32) (v : Int32) : Option M2 := if ixb i n = true then some (tI m r i.toNatClampNeg v.toInt8.toInt32) else none
def bJ (m : M2) (r n : Nat) (i : Int32) (v : Int64) : Option M2 := if ixb i n = true then some (tJ m r i.toNatClampNeg v) else none
def tC (m : M2) (r0 r1 sp dp n : Nat) : M2 := (fun a b => if a = r1 then va_cpy (hI m r0) (hI m r1) sp dp n b else hI m a b, m.2)
def kC (m : M2) (r0 m0 r1 m1 : Nat) (sp dp n : Int32) : Option M2 := if (¬ sp < 0 ∧ ¬ dp < 0 ∧ ¬ n < 0) ∧ sp.toNatClampNeg + n.toNatClampNeg ≤ m0 ∧ dp.toNatClampNeg + n.toNatClampNeg ≤ m1 then some (tC m r0 r1 sp.toNatClampNeg dp.toNatClampNeg n.toNatClampNeg) else none
/-- a place of a row of n -/
def ixC (i : Int32) (n : Nat) : Option Nat := if ixb i n = true then some i.toNatClampNeg else none
