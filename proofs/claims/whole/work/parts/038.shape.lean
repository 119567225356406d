/-- numbers as ints, as longs -/
def rI (z : Int) : Int32 := Int32.ofInt z
def rJ (z : Int) : Int64 := Int64.ofInt z
abbrev rp_C : Type := (Nat × List (Option Nat)) ⊕ (Nat × Nat)
/-- the cells: class and fields (a cell, or a number), or an array: its kind, its length -/
def rp_sh : List rp_C := [
  .inl (6, [some 1, some 4, some 12, some 13, some 15, some 18, some 22, some 25, none, none]),
  .inl (1, [some 2, some 3, none, none, none, none]),
  .inr (0, 24),
  .inr (0, 8),
  .inl (3, [some 5, some 8, some 9, some 10, some 11]),
  .inl (1, [some 6, some 7, none, none, none, none]),
  .inr (0, 24),
  .inr (0, 8),
  .inr (0, 6),
  .inr (0, 6),
  .inr (0, 6),
  .inr (0, 6),
  .inl (0, [none, none]),
  .inl (5, [some 14, none, none, none, none, none, none, none, none]),
  .inr (1, 160),
  .inl (4, [some 16, some 17, none]),
  .inr (0, 6),
  .inr (0, 6),
  .inl (2, [some 19, some 20, some 21, none]),
  .inr (0, 160),
  .inr (0, 4),
  .inr (0, 4),
  .inl (1, [some 23, some 24, none, none, none, none]),
  .inr (0, 24),
  .inr (0, 8),
  .inl (1, [some 26, some 27, none, none, none, none]),
  .inr (0, 24),
  .inr (0, 8),
  .inl (7, [some 29, some 30, none, some 31, none, none, none, none, none, none, none, none, some 32, some 33, none, some 34, none, none, none, some 35, none, some 36, some 37, some 38, some 39, some 40, none]),
  .inr (0, 180),
  .inr (0, 36),
  .inr (0, 160),
  .inr (0, 8),
  .inr (0, 36),
  .inr (0, 24),
  .inr (0, 12),
  .inr (0, 54),
  .inr (2, 2),
  .inr (0, 4),
  .inr (0, 4),
  .inr (0, 160)]
/-- the class's own tables, and its texts -/
def rp_tn : Nat → String
  | 0 => "WORK_LEAST"
  | 1 => "WORK_MOST"
  | _ => "READER_MOST"
def rp_tab : Nat → List Int32
  | 0 => [0, 0, 0, 1]
  | 1 => [3, 11, 59, 9]
  | _ => [11, 9]
def rp_sl : List Nat := [4, 5, 8, 5, 6, 4, 4]
def rp_sb : List (List Int32) := [[115, 116, 97, 114], [119, 104, 101, 101, 108], [102, 111, 117, 110, 116, 97, 105, 110], [115, 113, 117, 105, 98], [114, 101, 97, 100, 101, 114], [119, 105, 110, 100], [100, 97, 109, 112]]
def rp_si : Nat → Nat
  | 0 => 121
  | 1 => 127
  | 2 => 129
  | 3 => 131
  | 4 => 133
  | 5 => 135
  | _ => 136
def rp_sx : Nat → String
  | 0 => "star"
  | 1 => "wheel"
  | 2 => "fountain"
  | 3 => "squib"
  | 4 => "reader"
  | 5 => "wind"
  | _ => "damp"
