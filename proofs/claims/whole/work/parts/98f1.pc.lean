/-! ===== how many bits a set has ===== -/
section PC
def pj1 (x : Int32) : Int32 := x - (((x).toUInt32 >>> (((1 : Int32)).toUInt32 &&& Int32.toUInt32 31)).toInt32 &&& (1431655765 : Int32))
def pj2 (x : Int32) : Int32 := (x &&& (858993459 : Int32)) + ((x.toUInt32 >>> (((2 : Int32)).toUInt32 &&& Int32.toUInt32 31)).toInt32 &&& (858993459 : Int32))
def pj3 (x : Int32) : Int32 := (x + (x.toUInt32 >>> (((4 : Int32)).toUInt32 &&& Int32.toUInt32 31)).toInt32) &&& (252645135 : Int32)
def pj4 (x : Int32) : Int32 := x + (x.toUInt32 >>> (((8 : Int32)).toUInt32 &&& Int32.toUInt32 31)).toInt32
def pj5 (x : Int32) : Int32 := (x + (x.toUInt32 >>> (((16 : Int32)).toUInt32 &&& Int32.toUInt32 31)).toInt32) &&& (63 : Int32)
def pn1 (x : Nat) : Nat := x - ((x >>> 1) &&& 1431655765)
def pn2 (x : Nat) : Nat := (x &&& 858993459) + ((x >>> 2) &&& 858993459)
def pn3 (x : Nat) : Nat := (x + (x >>> 4)) &&& 252645135
def pn4 (x : Nat) : Nat := x + (x >>> 8)
def pn5 (x : Nat) : Nat := (x + (x >>> 16)) &&& 63
def pcn (x : Nat) : Nat := (x / 1) % 2 + (x / 2) % 2 + (x / 4) % 2 + (x / 8) % 2 + (x / 16) % 2 + (x / 32) % 2 + (x / 64) % 2 + (x / 128) % 2 + (x / 256) % 2 + (x / 512) % 2 + (x / 1024) % 2 + (x / 2048) % 2 + (x / 4096) % 2 + (x / 8192) % 2 + (x / 16384) % 2 + (x / 32768) % 2
set_option maxRecDepth 100000 in
theorem pcn_ck : (List.range 256).all (fun a => (List.range 256).all (fun b => Nat.beq (pn5 (pn4 (pn3 (pn2 (pn1 (256 * a + b)))))) (pcn (256 * a + b)))) = true := by decide +kernel
end PC
