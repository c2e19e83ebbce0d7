def andZ (x y : Int) : Int := (Int32.ofInt x &&& Int32.ofInt y).toInt
def orZ (x y : Int) : Int := (Int32.ofInt x ||| Int32.ofInt y).toInt
def shlZ (x y : Int) : Int := (Int32.ofInt x <<< (Int32.ofInt y &&& 31)).toInt
def shrZ (x y : Int) : Int := (Int32.ofInt x >>> (Int32.ofInt y &&& 31)).toInt
def ushrZ (x y : Int) : Int := ((Int32.ofInt x).toUInt32 >>> ((Int32.ofInt y).toUInt32 &&& Int32.toUInt32 31)).toInt32.toInt
def i2bZ (x : Int) : Int := (Int32.ofInt x).toInt8.toInt
theorem andZ_ok (x y : Int) : Int32.ofInt x &&& Int32.ofInt y = Int32.ofInt (andZ x y) := (Int32.ofInt_toInt _).symm
theorem orZ_ok (x y : Int) : Int32.ofInt x ||| Int32.ofInt y = Int32.ofInt (orZ x y) := (Int32.ofInt_toInt _).symm
theorem shlZ_ok (x y : Int) : Int32.ofInt x <<< (Int32.ofInt y &&& 31) = Int32.ofInt (shlZ x y) := (Int32.ofInt_toInt _).symm
theorem shrZ_ok (x y : Int) : Int32.ofInt x >>> (Int32.ofInt y &&& 31) = Int32.ofInt (shrZ x y) := (Int32.ofInt_toInt _).symm
theorem ushrZ_ok (x y : Int) : ((Int32.ofInt x).toUInt32 >>> ((Int32.ofInt y).toUInt32 &&& Int32.toUInt32 31)).toInt32 = Int32.ofInt (ushrZ x y) := (Int32.ofInt_toInt _).symm
theorem i2bZ_ok (x : Int) : (Int32.ofInt x).toInt8.toInt32 = Int32.ofInt (i2bZ x) := rfl
theorem i2bZ_in (x : Int) : -128 ≤ i2bZ x ∧ i2bZ x ≤ 127 := by
  have h1 := Int8.le_toInt (Int32.ofInt x).toInt8
  have h2 := Int8.toInt_lt (Int32.ofInt x).toInt8
  unfold i2bZ
  constructor <;> omega
theorem i32_in32 (x : Int32) : inR x.toInt := by
  have h1 := Int32.le_toInt x
  have h2 := Int32.toInt_lt x
  constructor <;> omega
