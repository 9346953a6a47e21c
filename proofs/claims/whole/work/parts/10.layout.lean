/-! The cells of the system behind the constructors: 0 PegBoards; 1 Board (2 numbers, 3 rows, 4 columns); 5 Jumps (6 froms, 7 overs, 8 tos, 9 pegs, 10 touched); 11 Symmetries (12 taken: 13 .. 24; 25 imageRows, 26 imageColumns); 27 Reaching (28 found: 29 positions, 30 slots; 31 leasts: 32, 33; 34 cameFrom, 35 cameBy, 36 fewest, 37 lastHoles); 38 Weights (39 kept, 40 tried); 41 the model (42 drawn, 43 numbers, 44 rows, 45 columns, 46 from, 47 over, 48 to, 49 image, 50 newRows, 51 newColumns, 52 weight, 53 trial, 54 position, 55 parent, 56 via, 57 open, 58 fewest, 59 kind); 60 out. Arrays that nobody writes: 1000 .. 1003 the class's steps, 1004 the script. -/
section PG
def pg_c : List mx_K := [
  .inr (.inl (6, [some 1, some 5, some 11, some 27, some 38, none, none])),
  .inr (.inl (0, [some 2, some 3, some 4, none, none, none])), .inl 64, .inl 20, .inl 20,
  .inr (.inl (2, [some 6, some 7, some 8, some 9, some 10, none])), .inl 120, .inl 120, .inl 120, .inl 120, .inl 120,
  .inr (.inl (4, [some 12, some 25, some 26, none, none])), .inr (.inr (.inl [13, 14, 15, 16, 17, 18, 19, 20, 21, 22, 23, 24])),
  .inl 20, .inl 20, .inl 20, .inl 20, .inl 20, .inl 20, .inl 20, .inl 20, .inl 20, .inl 20, .inl 20, .inl 20, .inl 20, .inl 20,
  .inr (.inl (3, [some 28, some 31, some 34, some 35, some 36, some 37, none])),
  .inr (.inl (1, [some 29, some 30, none])), .inl 500, .inl 1024, .inr (.inl (1, [some 32, some 33, none])), .inl 500, .inl 1024, .inl 500, .inl 500, .inl 500, .inl 500,
  .inr (.inl (5, [some 39, some 40])), .inl 20, .inl 8,
  .inr (.inl (7, [none, none, none, none, some 42, some 43, some 44, some 45, none, some 46, some 47, some 48, none, some 49, some 50, some 51, none, none, some 52, some 53, none, some 54, some 55, some 56, some 57, some 58, none, some 59])),
  .inr (.inr (.inr (.inr 64))), .inl 64, .inl 20, .inl 20, .inl 120, .inl 120, .inl 120, .inl 240, .inl 20, .inl 20, .inl 20, .inl 8, .inl 500, .inl 500, .inl 500, .inl 1024, .inl 10500, .inl 500,
  .inr (.inr (.inr (.inl 1)))]
def pg_s1 : Nat → Int32 := fun j => ([0, 1, 0, -1] : List Int32).getD j 0
def pg_s2 : Nat → Int32 := fun j => ([1, 0, -1, 0] : List Int32).getD j 0
def pg_s3 : Nat → Int32 := fun j => ([0, 1, 1, 0, -1, -1] : List Int32).getD j 0
def pg_s4 : Nat → Int32 := fun j => ([1, 0, -1, -1, 0, 1] : List Int32).getD j 0
def pg_L (sc : Nat × (Nat → Int32)) : mx_L := (pg_c, [(4, pg_s1), (4, pg_s2), (6, pg_s3), (6, pg_s4), sc])
end PG
