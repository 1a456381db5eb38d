/-! the cells that the two constructors make, in their order (wip/gen/tabs.py): kinds 0 .. 8 the classes, 9 int[], 10 boolean[], 11 Setting[], 12 int[][] -/
def ewKb : Nat := 0xa9999999a999999999999999999999999989995999599999999999699999999c99999999c99999399909990b9995999599959995999599959995999599959995999599959995999599959995b29995999599999999c9999999c99999999999999199999999c9999999c999999999999991947
def ewLb : Nat := 0x21964010070a8540e080381c10080401c0e070402006030381c10087806430180180c0607038cc0e08040140e08040140c06040201008150381c08038401008040201008040201008040201008040201008038201008038300e070381c0e070381c0407040200a07040200a07040200a07040200a07040200a07040200a07040200a07040200a07040200a07040200a07040200a07040200a07040200a07040200a07040200a07040200a100181c10080281c1008028200e070381c0e070381c0e070381c0e070381c30180380c2a070382006030381c10080a0200e070381c0e070381c0e070381c0e070381c30180380c2a070382006030381c10080a3c00e11
def kK (k : Nat) : Nat := (ewKb >>> (4 * k)) % 16
def kL (k : Nat) : Nat := (ewLb >>> (9 * k)) % 512
/-- how far from its object the cell lies that a final field names, 256 more -/
def ewOf : Nat → Nat → Nat := fun c j => match c with
  | 0 => (0xb581c0a0200 >>> (9 * j)) % 512
  | 1 => (0x8fc5e1f0e86c32170a84c220f0682c120702808000000 >>> (9 * j)) % 512
  | 2 => (0x4040000 >>> (9 * j)) % 512
  | 3 => (0x3e5f10f834160903814040000 >>> (9 * j)) % 512
  | 4 => (0x808000000 >>> (9 * j)) % 512
  | 5 => (0x103814040000 >>> (9 * j)) % 512
  | 6 => (0x385c00085c2a130883c1a0b0481c0a0200 >>> (9 * j)) % 512
  | 7 => (0xd765b258e006369747a18000101 >>> (9 * j)) % 512
  | 8 => (0x48a4320000023f1e8ec72371a0046631178b45400008a44e25118843e1c0086c30010b85000000000000000084c220f0682c120600814040000 >>> (9 * j)) % 512
  | _ => 0
def ewR0 (k j : Nat) : Nat := if kK k = 11 then (if k = 76 then 77 + 4 * j else 186 + 4 * j) else if kK k = 12 then k + 1 + j else k + ewOf (kK k) j - 256
/-- the references once all is made: the five that may change are named -/
def ewR (cu sp n1 n2 n3 n4 : Nat) : Nat → Nat → Nat := fun k j => if k = 0 then (if j = 1 then cu else if j = 2 then sp else ewR0 0 j) else if k = 142 then (if j = 5 then n1 else ewR0 142 j) else if k = 146 then (if j = 5 then n2 else ewR0 146 j) else if k = 150 then (if j = 11 then n3 else ewR0 150 j) else if k = 174 then (if j = 15 then n4 else ewR0 174 j) else ewR0 k j
def ewSv : Nat → Nat → Int32 := fun s j => match s with
  | 0 => ([0, 1, 2, 3, 4, 3, 2, 1] : List Int32).getD j 0
  | 1 => ([1, 1, 0, -1, -1, -1, 0, 1] : List Int32).getD j 0
  | 2 => ([0, 1, 1, 1, 0, -1, -1, -1] : List Int32).getD j 0
  | 3 => ([0, 1, 2, 0, 2, 1, 1, 0, 2, 1, 2, 0, 2, 0, 1, 2, 1, 0] : List Int32).getD j 0
  | 4 => ([7, 3, 6, 4, 1, 0] : List Int32).getD j 0
  | _ => ([0, 1, 1, 2, 1, 2, 2, 3] : List Int32).getD j 0
def ewSl : Nat → Nat := fun s => match s with
  | 0 => 8
  | 1 => 8
  | 2 => 8
  | 3 => 18
  | 4 => 6
  | _ => 8
