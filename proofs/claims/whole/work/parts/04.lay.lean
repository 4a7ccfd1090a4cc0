/-! the layout of the cells that the two constructors make, by virtual addresses: kind (0..6 an object of that number in vcl; 7 ints, 8 longs, 9, 10 rows of references), places, where its references point -/
abbrev vcl : List vw_C := [(RX0, TX0, 14), (RX1, TX1, 10), (RX2, TX2, 3), (RX3, TX3, 3), (RX4, TX4, 4), (RX5, TX5, 14), (RX6, TX6, 20)]
def lay0 : List (Nat × Nat × List Nat) := [(5, 14, [1, 7, 12, 0, 54, 60, 65, 107, 113, 118, 119, 120, 121, 123]), (0, 14, [0, 0, 0, 0, 0, 0, 0, 0, 2, 3, 4, 5, 6, 0]), (7, 7, []), (7, 7, []), (7, 7, []), (7, 7, []), (7, 7, []), (1, 10, [0, 0, 0, 0, 0, 0, 8, 9, 10, 11]), (7, 7, []), (7, 7, []), (7, 7, []), (7, 7, []), (2, 3, [13, 0, 0]), (9, 8, [14, 19, 24, 29, 34, 39, 44, 49]), (1, 10, [0, 0, 0, 0, 0, 0, 15, 16, 17, 18]), (7, 7, []), (7, 7, []), (7, 7, []), (7, 7, []), (1, 10, [0, 0, 0, 0, 0, 0, 20, 21, 22, 23]), (7, 7, []), (7, 7, []), (7, 7, []), (7, 7, []), (1, 10, [0, 0, 0, 0, 0, 0, 25, 26, 27, 28]), (7, 7, []), (7, 7, []), (7, 7, []), (7, 7, []), (1, 10, [0, 0, 0, 0, 0, 0, 30, 31, 32, 33])]
def lay1 : List (Nat × Nat × List Nat) := [(7, 7, []), (7, 7, []), (7, 7, []), (7, 7, []), (1, 10, [0, 0, 0, 0, 0, 0, 35, 36, 37, 38]), (7, 7, []), (7, 7, []), (7, 7, []), (7, 7, []), (1, 10, [0, 0, 0, 0, 0, 0, 40, 41, 42, 43]), (7, 7, []), (7, 7, []), (7, 7, []), (7, 7, []), (1, 10, [0, 0, 0, 0, 0, 0, 45, 46, 47, 48]), (7, 7, []), (7, 7, []), (7, 7, []), (7, 7, []), (1, 10, [0, 0, 0, 0, 0, 0, 50, 51, 52, 53]), (7, 7, []), (7, 7, []), (7, 7, []), (7, 7, []), (0, 14, [0, 0, 0, 0, 0, 0, 0, 0, 55, 56, 57, 58, 59, 0]), (7, 7, []), (7, 7, []), (7, 7, []), (7, 7, []), (7, 7, [])]
def lay2 : List (Nat × Nat × List Nat) := [(1, 10, [0, 0, 0, 0, 0, 0, 61, 62, 63, 64]), (7, 7, []), (7, 7, []), (7, 7, []), (7, 7, []), (2, 3, [66, 0, 0]), (9, 8, [67, 72, 77, 82, 87, 92, 97, 102]), (1, 10, [0, 0, 0, 0, 0, 0, 68, 69, 70, 71]), (7, 7, []), (7, 7, []), (7, 7, []), (7, 7, []), (1, 10, [0, 0, 0, 0, 0, 0, 73, 74, 75, 76]), (7, 7, []), (7, 7, []), (7, 7, []), (7, 7, []), (1, 10, [0, 0, 0, 0, 0, 0, 78, 79, 80, 81]), (7, 7, []), (7, 7, []), (7, 7, []), (7, 7, []), (1, 10, [0, 0, 0, 0, 0, 0, 83, 84, 85, 86]), (7, 7, []), (7, 7, []), (7, 7, []), (7, 7, []), (1, 10, [0, 0, 0, 0, 0, 0, 88, 89, 90, 91]), (7, 7, []), (7, 7, [])]
def lay3 : List (Nat × Nat × List Nat) := [(7, 7, []), (7, 7, []), (1, 10, [0, 0, 0, 0, 0, 0, 93, 94, 95, 96]), (7, 7, []), (7, 7, []), (7, 7, []), (7, 7, []), (1, 10, [0, 0, 0, 0, 0, 0, 98, 99, 100, 101]), (7, 7, []), (7, 7, []), (7, 7, []), (7, 7, []), (1, 10, [0, 0, 0, 0, 0, 0, 103, 104, 105, 106]), (7, 7, []), (7, 7, []), (7, 7, []), (7, 7, []), (0, 14, [0, 0, 0, 0, 0, 0, 0, 0, 108, 109, 110, 111, 112, 0]), (7, 7, []), (7, 7, []), (7, 7, []), (7, 7, []), (7, 7, []), (1, 10, [0, 0, 0, 0, 0, 0, 114, 115, 116, 117]), (7, 7, []), (7, 7, []), (7, 7, []), (7, 7, []), (7, 7, []), (7, 8, [])]
def lay4 : List (Nat × Nat × List Nat) := [(7, 8, []), (4, 4, [122, 0, 0, 0]), (7, 60, []), (10, 4, [124, 126, 128, 130]), (3, 3, [0, 0, 125]), (8, 24, []), (3, 3, [0, 0, 127]), (8, 24, []), (3, 3, [0, 0, 129]), (8, 24, []), (3, 3, [0, 0, 131]), (8, 24, []), (6, 20, [133, 134, 0, 0, 135, 0, 136, 137, 138, 0, 0, 0, 139, 140, 0, 0, 141, 142, 143, 144]), (7, 63, []), (7, 7, []), (7, 504, []), (7, 63, []), (7, 7, []), (7, 60, []), (7, 21, []), (7, 567, []), (7, 4, []), (7, 4, []), (8, 96, []), (8, 24, [])]
def lay : List (Nat × Nat × List Nat) := lay0 ++ lay1 ++ lay2 ++ lay3 ++ lay4
def la (k : Nat) : Nat × Nat × List Nat := lay.getD k (99, 0, [])
def ky (k : Nat) : Nat := (la k).1
def ln (k : Nat) : Nat := (la k).2.1
def rf (k j : Nat) : Nat := (la k).2.2.getD j 0
def frL : List (List Nat) := [[8, 9, 10, 11, 12], [6, 7, 8, 9], [0], [2], [0], [0, 1, 2, 4, 5, 6, 7, 8, 9, 10, 11, 12, 13], [0, 1, 4, 6, 7, 8, 12, 13, 16, 17, 18, 19]]
/-- which fields are references -/
def fr (ci j : Nat) : Bool := (frL.getD ci []).contains j
def nf (ci : Nat) : Nat := ([14, 10, 3, 3, 4, 14, 20] : List Nat).getD ci 0
theorem lay_len : lay.length = 145 := by decide +kernel
theorem ky_big {k : Nat} (h : 145 ≤ k) : ky k = 99 := by unfold ky la; rw [List.getD_eq_getElem?_getD, List.getElem?_eq_none (by rw [lay_len]; exact h)]; rfl
theorem ky_lt {k : Nat} (h : ky k < 99) : k < 145 := by rcases Nat.lt_or_ge k 145 with g | g; exact g; rw [ky_big g] at h; omega
theorem kY0 : ky 0 = 5 := by decide +kernel
theorem rF0_0 : rf 0 0 = 1 := by decide +kernel
theorem rF0_1 : rf 0 1 = 7 := by decide +kernel
theorem rF0_2 : rf 0 2 = 12 := by decide +kernel
theorem rF0_4 : rf 0 4 = 54 := by decide +kernel
theorem rF0_5 : rf 0 5 = 60 := by decide +kernel
theorem rF0_6 : rf 0 6 = 65 := by decide +kernel
theorem rF0_7 : rf 0 7 = 107 := by decide +kernel
theorem rF0_8 : rf 0 8 = 113 := by decide +kernel
theorem rF0_9 : rf 0 9 = 118 := by decide +kernel
theorem rF0_10 : rf 0 10 = 119 := by decide +kernel
theorem rF0_11 : rf 0 11 = 120 := by decide +kernel
theorem rF0_12 : rf 0 12 = 121 := by decide +kernel
theorem rF0_13 : rf 0 13 = 123 := by decide +kernel
theorem kY1 : ky 1 = 0 := by decide +kernel
theorem rF1_8 : rf 1 8 = 2 := by decide +kernel
theorem rF1_9 : rf 1 9 = 3 := by decide +kernel
theorem rF1_10 : rf 1 10 = 4 := by decide +kernel
theorem rF1_11 : rf 1 11 = 5 := by decide +kernel
theorem rF1_12 : rf 1 12 = 6 := by decide +kernel
theorem kY2 : ky 2 = 7 := by decide +kernel
theorem lN2 : ln 2 = 7 := by decide +kernel
theorem kY3 : ky 3 = 7 := by decide +kernel
theorem lN3 : ln 3 = 7 := by decide +kernel
theorem kY4 : ky 4 = 7 := by decide +kernel
theorem lN4 : ln 4 = 7 := by decide +kernel
theorem kY5 : ky 5 = 7 := by decide +kernel
theorem lN5 : ln 5 = 7 := by decide +kernel
theorem kY6 : ky 6 = 7 := by decide +kernel
theorem lN6 : ln 6 = 7 := by decide +kernel
theorem kY7 : ky 7 = 1 := by decide +kernel
theorem rF7_6 : rf 7 6 = 8 := by decide +kernel
theorem rF7_7 : rf 7 7 = 9 := by decide +kernel
theorem rF7_8 : rf 7 8 = 10 := by decide +kernel
theorem rF7_9 : rf 7 9 = 11 := by decide +kernel
theorem kY8 : ky 8 = 7 := by decide +kernel
theorem lN8 : ln 8 = 7 := by decide +kernel
theorem kY9 : ky 9 = 7 := by decide +kernel
theorem lN9 : ln 9 = 7 := by decide +kernel
theorem kY10 : ky 10 = 7 := by decide +kernel
theorem lN10 : ln 10 = 7 := by decide +kernel
theorem kY11 : ky 11 = 7 := by decide +kernel
theorem lN11 : ln 11 = 7 := by decide +kernel
theorem kY12 : ky 12 = 2 := by decide +kernel
theorem rF12_0 : rf 12 0 = 13 := by decide +kernel
theorem kY13 : ky 13 = 9 := by decide +kernel
theorem lN13 : ln 13 = 8 := by decide +kernel
theorem kY14 : ky 14 = 1 := by decide +kernel
theorem rF14_6 : rf 14 6 = 15 := by decide +kernel
theorem rF14_7 : rf 14 7 = 16 := by decide +kernel
theorem rF14_8 : rf 14 8 = 17 := by decide +kernel
theorem rF14_9 : rf 14 9 = 18 := by decide +kernel
theorem kY15 : ky 15 = 7 := by decide +kernel
theorem lN15 : ln 15 = 7 := by decide +kernel
theorem kY16 : ky 16 = 7 := by decide +kernel
theorem lN16 : ln 16 = 7 := by decide +kernel
theorem kY17 : ky 17 = 7 := by decide +kernel
theorem lN17 : ln 17 = 7 := by decide +kernel
theorem kY18 : ky 18 = 7 := by decide +kernel
theorem lN18 : ln 18 = 7 := by decide +kernel
theorem kY19 : ky 19 = 1 := by decide +kernel
theorem rF19_6 : rf 19 6 = 20 := by decide +kernel
theorem rF19_7 : rf 19 7 = 21 := by decide +kernel
theorem rF19_8 : rf 19 8 = 22 := by decide +kernel
theorem rF19_9 : rf 19 9 = 23 := by decide +kernel
theorem kY20 : ky 20 = 7 := by decide +kernel
theorem lN20 : ln 20 = 7 := by decide +kernel
theorem kY21 : ky 21 = 7 := by decide +kernel
theorem lN21 : ln 21 = 7 := by decide +kernel
theorem kY22 : ky 22 = 7 := by decide +kernel
theorem lN22 : ln 22 = 7 := by decide +kernel
theorem kY23 : ky 23 = 7 := by decide +kernel
theorem lN23 : ln 23 = 7 := by decide +kernel
theorem kY24 : ky 24 = 1 := by decide +kernel
theorem rF24_6 : rf 24 6 = 25 := by decide +kernel
theorem rF24_7 : rf 24 7 = 26 := by decide +kernel
theorem rF24_8 : rf 24 8 = 27 := by decide +kernel
theorem rF24_9 : rf 24 9 = 28 := by decide +kernel
theorem kY25 : ky 25 = 7 := by decide +kernel
theorem lN25 : ln 25 = 7 := by decide +kernel
theorem kY26 : ky 26 = 7 := by decide +kernel
theorem lN26 : ln 26 = 7 := by decide +kernel
theorem kY27 : ky 27 = 7 := by decide +kernel
theorem lN27 : ln 27 = 7 := by decide +kernel
theorem kY28 : ky 28 = 7 := by decide +kernel
theorem lN28 : ln 28 = 7 := by decide +kernel
theorem kY29 : ky 29 = 1 := by decide +kernel
theorem rF29_6 : rf 29 6 = 30 := by decide +kernel
theorem rF29_7 : rf 29 7 = 31 := by decide +kernel
theorem rF29_8 : rf 29 8 = 32 := by decide +kernel
theorem rF29_9 : rf 29 9 = 33 := by decide +kernel
theorem kY30 : ky 30 = 7 := by decide +kernel
theorem lN30 : ln 30 = 7 := by decide +kernel
theorem kY31 : ky 31 = 7 := by decide +kernel
theorem lN31 : ln 31 = 7 := by decide +kernel
theorem kY32 : ky 32 = 7 := by decide +kernel
theorem lN32 : ln 32 = 7 := by decide +kernel
theorem kY33 : ky 33 = 7 := by decide +kernel
theorem lN33 : ln 33 = 7 := by decide +kernel
theorem kY34 : ky 34 = 1 := by decide +kernel
theorem rF34_6 : rf 34 6 = 35 := by decide +kernel
theorem rF34_7 : rf 34 7 = 36 := by decide +kernel
theorem rF34_8 : rf 34 8 = 37 := by decide +kernel
theorem rF34_9 : rf 34 9 = 38 := by decide +kernel
theorem kY35 : ky 35 = 7 := by decide +kernel
theorem lN35 : ln 35 = 7 := by decide +kernel
theorem kY36 : ky 36 = 7 := by decide +kernel
theorem lN36 : ln 36 = 7 := by decide +kernel
theorem kY37 : ky 37 = 7 := by decide +kernel
theorem lN37 : ln 37 = 7 := by decide +kernel
theorem kY38 : ky 38 = 7 := by decide +kernel
theorem lN38 : ln 38 = 7 := by decide +kernel
theorem kY39 : ky 39 = 1 := by decide +kernel
theorem rF39_6 : rf 39 6 = 40 := by decide +kernel
theorem rF39_7 : rf 39 7 = 41 := by decide +kernel
theorem rF39_8 : rf 39 8 = 42 := by decide +kernel
theorem rF39_9 : rf 39 9 = 43 := by decide +kernel
theorem kY40 : ky 40 = 7 := by decide +kernel
theorem lN40 : ln 40 = 7 := by decide +kernel
theorem kY41 : ky 41 = 7 := by decide +kernel
theorem lN41 : ln 41 = 7 := by decide +kernel
theorem kY42 : ky 42 = 7 := by decide +kernel
theorem lN42 : ln 42 = 7 := by decide +kernel
theorem kY43 : ky 43 = 7 := by decide +kernel
theorem lN43 : ln 43 = 7 := by decide +kernel
theorem kY44 : ky 44 = 1 := by decide +kernel
theorem rF44_6 : rf 44 6 = 45 := by decide +kernel
theorem rF44_7 : rf 44 7 = 46 := by decide +kernel
theorem rF44_8 : rf 44 8 = 47 := by decide +kernel
theorem rF44_9 : rf 44 9 = 48 := by decide +kernel
theorem kY45 : ky 45 = 7 := by decide +kernel
theorem lN45 : ln 45 = 7 := by decide +kernel
theorem kY46 : ky 46 = 7 := by decide +kernel
theorem lN46 : ln 46 = 7 := by decide +kernel
theorem kY47 : ky 47 = 7 := by decide +kernel
theorem lN47 : ln 47 = 7 := by decide +kernel
theorem kY48 : ky 48 = 7 := by decide +kernel
theorem lN48 : ln 48 = 7 := by decide +kernel
theorem kY49 : ky 49 = 1 := by decide +kernel
theorem rF49_6 : rf 49 6 = 50 := by decide +kernel
theorem rF49_7 : rf 49 7 = 51 := by decide +kernel
theorem rF49_8 : rf 49 8 = 52 := by decide +kernel
theorem rF49_9 : rf 49 9 = 53 := by decide +kernel
theorem kY50 : ky 50 = 7 := by decide +kernel
theorem lN50 : ln 50 = 7 := by decide +kernel
theorem kY51 : ky 51 = 7 := by decide +kernel
theorem lN51 : ln 51 = 7 := by decide +kernel
theorem kY52 : ky 52 = 7 := by decide +kernel
theorem lN52 : ln 52 = 7 := by decide +kernel
theorem kY53 : ky 53 = 7 := by decide +kernel
theorem lN53 : ln 53 = 7 := by decide +kernel
theorem kY54 : ky 54 = 0 := by decide +kernel
theorem rF54_8 : rf 54 8 = 55 := by decide +kernel
theorem rF54_9 : rf 54 9 = 56 := by decide +kernel
theorem rF54_10 : rf 54 10 = 57 := by decide +kernel
theorem rF54_11 : rf 54 11 = 58 := by decide +kernel
theorem rF54_12 : rf 54 12 = 59 := by decide +kernel
theorem kY55 : ky 55 = 7 := by decide +kernel
theorem lN55 : ln 55 = 7 := by decide +kernel
theorem kY56 : ky 56 = 7 := by decide +kernel
theorem lN56 : ln 56 = 7 := by decide +kernel
theorem kY57 : ky 57 = 7 := by decide +kernel
theorem lN57 : ln 57 = 7 := by decide +kernel
theorem kY58 : ky 58 = 7 := by decide +kernel
theorem lN58 : ln 58 = 7 := by decide +kernel
theorem kY59 : ky 59 = 7 := by decide +kernel
theorem lN59 : ln 59 = 7 := by decide +kernel
theorem kY60 : ky 60 = 1 := by decide +kernel
theorem rF60_6 : rf 60 6 = 61 := by decide +kernel
theorem rF60_7 : rf 60 7 = 62 := by decide +kernel
theorem rF60_8 : rf 60 8 = 63 := by decide +kernel
theorem rF60_9 : rf 60 9 = 64 := by decide +kernel
theorem kY61 : ky 61 = 7 := by decide +kernel
theorem lN61 : ln 61 = 7 := by decide +kernel
theorem kY62 : ky 62 = 7 := by decide +kernel
theorem lN62 : ln 62 = 7 := by decide +kernel
theorem kY63 : ky 63 = 7 := by decide +kernel
theorem lN63 : ln 63 = 7 := by decide +kernel
theorem kY64 : ky 64 = 7 := by decide +kernel
theorem lN64 : ln 64 = 7 := by decide +kernel
theorem kY65 : ky 65 = 2 := by decide +kernel
theorem rF65_0 : rf 65 0 = 66 := by decide +kernel
theorem kY66 : ky 66 = 9 := by decide +kernel
theorem lN66 : ln 66 = 8 := by decide +kernel
theorem kY67 : ky 67 = 1 := by decide +kernel
theorem rF67_6 : rf 67 6 = 68 := by decide +kernel
theorem rF67_7 : rf 67 7 = 69 := by decide +kernel
theorem rF67_8 : rf 67 8 = 70 := by decide +kernel
theorem rF67_9 : rf 67 9 = 71 := by decide +kernel
theorem kY68 : ky 68 = 7 := by decide +kernel
theorem lN68 : ln 68 = 7 := by decide +kernel
theorem kY69 : ky 69 = 7 := by decide +kernel
theorem lN69 : ln 69 = 7 := by decide +kernel
theorem kY70 : ky 70 = 7 := by decide +kernel
theorem lN70 : ln 70 = 7 := by decide +kernel
theorem kY71 : ky 71 = 7 := by decide +kernel
theorem lN71 : ln 71 = 7 := by decide +kernel
theorem kY72 : ky 72 = 1 := by decide +kernel
theorem rF72_6 : rf 72 6 = 73 := by decide +kernel
theorem rF72_7 : rf 72 7 = 74 := by decide +kernel
theorem rF72_8 : rf 72 8 = 75 := by decide +kernel
theorem rF72_9 : rf 72 9 = 76 := by decide +kernel
theorem kY73 : ky 73 = 7 := by decide +kernel
theorem lN73 : ln 73 = 7 := by decide +kernel
theorem kY74 : ky 74 = 7 := by decide +kernel
theorem lN74 : ln 74 = 7 := by decide +kernel
theorem kY75 : ky 75 = 7 := by decide +kernel
theorem lN75 : ln 75 = 7 := by decide +kernel
theorem kY76 : ky 76 = 7 := by decide +kernel
theorem lN76 : ln 76 = 7 := by decide +kernel
theorem kY77 : ky 77 = 1 := by decide +kernel
theorem rF77_6 : rf 77 6 = 78 := by decide +kernel
theorem rF77_7 : rf 77 7 = 79 := by decide +kernel
theorem rF77_8 : rf 77 8 = 80 := by decide +kernel
theorem rF77_9 : rf 77 9 = 81 := by decide +kernel
theorem kY78 : ky 78 = 7 := by decide +kernel
theorem lN78 : ln 78 = 7 := by decide +kernel
theorem kY79 : ky 79 = 7 := by decide +kernel
theorem lN79 : ln 79 = 7 := by decide +kernel
theorem kY80 : ky 80 = 7 := by decide +kernel
theorem lN80 : ln 80 = 7 := by decide +kernel
theorem kY81 : ky 81 = 7 := by decide +kernel
theorem lN81 : ln 81 = 7 := by decide +kernel
theorem kY82 : ky 82 = 1 := by decide +kernel
theorem rF82_6 : rf 82 6 = 83 := by decide +kernel
theorem rF82_7 : rf 82 7 = 84 := by decide +kernel
theorem rF82_8 : rf 82 8 = 85 := by decide +kernel
theorem rF82_9 : rf 82 9 = 86 := by decide +kernel
theorem kY83 : ky 83 = 7 := by decide +kernel
theorem lN83 : ln 83 = 7 := by decide +kernel
theorem kY84 : ky 84 = 7 := by decide +kernel
theorem lN84 : ln 84 = 7 := by decide +kernel
theorem kY85 : ky 85 = 7 := by decide +kernel
theorem lN85 : ln 85 = 7 := by decide +kernel
theorem kY86 : ky 86 = 7 := by decide +kernel
theorem lN86 : ln 86 = 7 := by decide +kernel
theorem kY87 : ky 87 = 1 := by decide +kernel
theorem rF87_6 : rf 87 6 = 88 := by decide +kernel
theorem rF87_7 : rf 87 7 = 89 := by decide +kernel
theorem rF87_8 : rf 87 8 = 90 := by decide +kernel
theorem rF87_9 : rf 87 9 = 91 := by decide +kernel
theorem kY88 : ky 88 = 7 := by decide +kernel
theorem lN88 : ln 88 = 7 := by decide +kernel
theorem kY89 : ky 89 = 7 := by decide +kernel
theorem lN89 : ln 89 = 7 := by decide +kernel
theorem kY90 : ky 90 = 7 := by decide +kernel
theorem lN90 : ln 90 = 7 := by decide +kernel
theorem kY91 : ky 91 = 7 := by decide +kernel
theorem lN91 : ln 91 = 7 := by decide +kernel
theorem kY92 : ky 92 = 1 := by decide +kernel
theorem rF92_6 : rf 92 6 = 93 := by decide +kernel
theorem rF92_7 : rf 92 7 = 94 := by decide +kernel
theorem rF92_8 : rf 92 8 = 95 := by decide +kernel
theorem rF92_9 : rf 92 9 = 96 := by decide +kernel
theorem kY93 : ky 93 = 7 := by decide +kernel
theorem lN93 : ln 93 = 7 := by decide +kernel
theorem kY94 : ky 94 = 7 := by decide +kernel
theorem lN94 : ln 94 = 7 := by decide +kernel
theorem kY95 : ky 95 = 7 := by decide +kernel
theorem lN95 : ln 95 = 7 := by decide +kernel
theorem kY96 : ky 96 = 7 := by decide +kernel
theorem lN96 : ln 96 = 7 := by decide +kernel
theorem kY97 : ky 97 = 1 := by decide +kernel
theorem rF97_6 : rf 97 6 = 98 := by decide +kernel
theorem rF97_7 : rf 97 7 = 99 := by decide +kernel
theorem rF97_8 : rf 97 8 = 100 := by decide +kernel
theorem rF97_9 : rf 97 9 = 101 := by decide +kernel
theorem kY98 : ky 98 = 7 := by decide +kernel
theorem lN98 : ln 98 = 7 := by decide +kernel
theorem kY99 : ky 99 = 7 := by decide +kernel
theorem lN99 : ln 99 = 7 := by decide +kernel
theorem kY100 : ky 100 = 7 := by decide +kernel
theorem lN100 : ln 100 = 7 := by decide +kernel
theorem kY101 : ky 101 = 7 := by decide +kernel
theorem lN101 : ln 101 = 7 := by decide +kernel
theorem kY102 : ky 102 = 1 := by decide +kernel
theorem rF102_6 : rf 102 6 = 103 := by decide +kernel
theorem rF102_7 : rf 102 7 = 104 := by decide +kernel
theorem rF102_8 : rf 102 8 = 105 := by decide +kernel
theorem rF102_9 : rf 102 9 = 106 := by decide +kernel
theorem kY103 : ky 103 = 7 := by decide +kernel
theorem lN103 : ln 103 = 7 := by decide +kernel
theorem kY104 : ky 104 = 7 := by decide +kernel
theorem lN104 : ln 104 = 7 := by decide +kernel
theorem kY105 : ky 105 = 7 := by decide +kernel
theorem lN105 : ln 105 = 7 := by decide +kernel
theorem kY106 : ky 106 = 7 := by decide +kernel
theorem lN106 : ln 106 = 7 := by decide +kernel
theorem kY107 : ky 107 = 0 := by decide +kernel
theorem rF107_8 : rf 107 8 = 108 := by decide +kernel
theorem rF107_9 : rf 107 9 = 109 := by decide +kernel
theorem rF107_10 : rf 107 10 = 110 := by decide +kernel
theorem rF107_11 : rf 107 11 = 111 := by decide +kernel
theorem rF107_12 : rf 107 12 = 112 := by decide +kernel
theorem kY108 : ky 108 = 7 := by decide +kernel
theorem lN108 : ln 108 = 7 := by decide +kernel
theorem kY109 : ky 109 = 7 := by decide +kernel
theorem lN109 : ln 109 = 7 := by decide +kernel
theorem kY110 : ky 110 = 7 := by decide +kernel
theorem lN110 : ln 110 = 7 := by decide +kernel
theorem kY111 : ky 111 = 7 := by decide +kernel
theorem lN111 : ln 111 = 7 := by decide +kernel
theorem kY112 : ky 112 = 7 := by decide +kernel
theorem lN112 : ln 112 = 7 := by decide +kernel
theorem kY113 : ky 113 = 1 := by decide +kernel
theorem rF113_6 : rf 113 6 = 114 := by decide +kernel
theorem rF113_7 : rf 113 7 = 115 := by decide +kernel
theorem rF113_8 : rf 113 8 = 116 := by decide +kernel
theorem rF113_9 : rf 113 9 = 117 := by decide +kernel
theorem kY114 : ky 114 = 7 := by decide +kernel
theorem lN114 : ln 114 = 7 := by decide +kernel
theorem kY115 : ky 115 = 7 := by decide +kernel
theorem lN115 : ln 115 = 7 := by decide +kernel
theorem kY116 : ky 116 = 7 := by decide +kernel
theorem lN116 : ln 116 = 7 := by decide +kernel
theorem kY117 : ky 117 = 7 := by decide +kernel
theorem lN117 : ln 117 = 7 := by decide +kernel
theorem kY118 : ky 118 = 7 := by decide +kernel
theorem lN118 : ln 118 = 7 := by decide +kernel
theorem kY119 : ky 119 = 7 := by decide +kernel
theorem lN119 : ln 119 = 8 := by decide +kernel
theorem kY120 : ky 120 = 7 := by decide +kernel
theorem lN120 : ln 120 = 8 := by decide +kernel
theorem kY121 : ky 121 = 4 := by decide +kernel
theorem rF121_0 : rf 121 0 = 122 := by decide +kernel
theorem kY122 : ky 122 = 7 := by decide +kernel
theorem lN122 : ln 122 = 60 := by decide +kernel
theorem kY123 : ky 123 = 10 := by decide +kernel
theorem lN123 : ln 123 = 4 := by decide +kernel
theorem kY124 : ky 124 = 3 := by decide +kernel
theorem rF124_2 : rf 124 2 = 125 := by decide +kernel
theorem kY125 : ky 125 = 8 := by decide +kernel
theorem lN125 : ln 125 = 24 := by decide +kernel
theorem kY126 : ky 126 = 3 := by decide +kernel
theorem rF126_2 : rf 126 2 = 127 := by decide +kernel
theorem kY127 : ky 127 = 8 := by decide +kernel
theorem lN127 : ln 127 = 24 := by decide +kernel
theorem kY128 : ky 128 = 3 := by decide +kernel
theorem rF128_2 : rf 128 2 = 129 := by decide +kernel
theorem kY129 : ky 129 = 8 := by decide +kernel
theorem lN129 : ln 129 = 24 := by decide +kernel
theorem kY130 : ky 130 = 3 := by decide +kernel
theorem rF130_2 : rf 130 2 = 131 := by decide +kernel
theorem kY131 : ky 131 = 8 := by decide +kernel
theorem lN131 : ln 131 = 24 := by decide +kernel
theorem kY132 : ky 132 = 6 := by decide +kernel
theorem rF132_0 : rf 132 0 = 133 := by decide +kernel
theorem rF132_1 : rf 132 1 = 134 := by decide +kernel
theorem rF132_4 : rf 132 4 = 135 := by decide +kernel
theorem rF132_6 : rf 132 6 = 136 := by decide +kernel
theorem rF132_7 : rf 132 7 = 137 := by decide +kernel
theorem rF132_8 : rf 132 8 = 138 := by decide +kernel
theorem rF132_12 : rf 132 12 = 139 := by decide +kernel
theorem rF132_13 : rf 132 13 = 140 := by decide +kernel
theorem rF132_16 : rf 132 16 = 141 := by decide +kernel
theorem rF132_17 : rf 132 17 = 142 := by decide +kernel
theorem rF132_18 : rf 132 18 = 143 := by decide +kernel
theorem rF132_19 : rf 132 19 = 144 := by decide +kernel
theorem kY133 : ky 133 = 7 := by decide +kernel
theorem lN133 : ln 133 = 63 := by decide +kernel
theorem kY134 : ky 134 = 7 := by decide +kernel
theorem lN134 : ln 134 = 7 := by decide +kernel
theorem kY135 : ky 135 = 7 := by decide +kernel
theorem lN135 : ln 135 = 504 := by decide +kernel
theorem kY136 : ky 136 = 7 := by decide +kernel
theorem lN136 : ln 136 = 63 := by decide +kernel
theorem kY137 : ky 137 = 7 := by decide +kernel
theorem lN137 : ln 137 = 7 := by decide +kernel
theorem kY138 : ky 138 = 7 := by decide +kernel
theorem lN138 : ln 138 = 60 := by decide +kernel
theorem kY139 : ky 139 = 7 := by decide +kernel
theorem lN139 : ln 139 = 21 := by decide +kernel
theorem kY140 : ky 140 = 7 := by decide +kernel
theorem lN140 : ln 140 = 567 := by decide +kernel
theorem kY141 : ky 141 = 7 := by decide +kernel
theorem lN141 : ln 141 = 4 := by decide +kernel
theorem kY142 : ky 142 = 7 := by decide +kernel
theorem lN142 : ln 142 = 4 := by decide +kernel
theorem kY143 : ky 143 = 8 := by decide +kernel
theorem lN143 : ln 143 = 96 := by decide +kernel
theorem kY144 : ky 144 = 8 := by decide +kernel
theorem lN144 : ln 144 = 24 := by decide +kernel
def IsCamp (a : Nat) : Prop := a ∈ ([1, 54, 107] : List Nat)
theorem IsCamp.k {a : Nat} (h : IsCamp a) : ky a = 0 := (by decide +kernel : ∀ a ∈ ([1, 54, 107] : List Nat), ky a = 0) a h
theorem IsCamp.r8 {a : Nat} (h : IsCamp a) : rf a 8 = a + 1 := (by decide +kernel : ∀ a ∈ ([1, 54, 107] : List Nat), rf a 8 = a + 1) a h
theorem IsCamp.k1 {a : Nat} (h : IsCamp a) : ky (a + 1) = 7 := (by decide +kernel : ∀ a ∈ ([1, 54, 107] : List Nat), ky (a + 1) = 7) a h
theorem IsCamp.l1 {a : Nat} (h : IsCamp a) : ln (a + 1) = 7 := (by decide +kernel : ∀ a ∈ ([1, 54, 107] : List Nat), ln (a + 1) = 7) a h
theorem IsCamp.r9 {a : Nat} (h : IsCamp a) : rf a 9 = a + 2 := (by decide +kernel : ∀ a ∈ ([1, 54, 107] : List Nat), rf a 9 = a + 2) a h
theorem IsCamp.k2 {a : Nat} (h : IsCamp a) : ky (a + 2) = 7 := (by decide +kernel : ∀ a ∈ ([1, 54, 107] : List Nat), ky (a + 2) = 7) a h
theorem IsCamp.l2 {a : Nat} (h : IsCamp a) : ln (a + 2) = 7 := (by decide +kernel : ∀ a ∈ ([1, 54, 107] : List Nat), ln (a + 2) = 7) a h
theorem IsCamp.r10 {a : Nat} (h : IsCamp a) : rf a 10 = a + 3 := (by decide +kernel : ∀ a ∈ ([1, 54, 107] : List Nat), rf a 10 = a + 3) a h
theorem IsCamp.k3 {a : Nat} (h : IsCamp a) : ky (a + 3) = 7 := (by decide +kernel : ∀ a ∈ ([1, 54, 107] : List Nat), ky (a + 3) = 7) a h
theorem IsCamp.l3 {a : Nat} (h : IsCamp a) : ln (a + 3) = 7 := (by decide +kernel : ∀ a ∈ ([1, 54, 107] : List Nat), ln (a + 3) = 7) a h
theorem IsCamp.r11 {a : Nat} (h : IsCamp a) : rf a 11 = a + 4 := (by decide +kernel : ∀ a ∈ ([1, 54, 107] : List Nat), rf a 11 = a + 4) a h
theorem IsCamp.k4 {a : Nat} (h : IsCamp a) : ky (a + 4) = 7 := (by decide +kernel : ∀ a ∈ ([1, 54, 107] : List Nat), ky (a + 4) = 7) a h
theorem IsCamp.l4 {a : Nat} (h : IsCamp a) : ln (a + 4) = 7 := (by decide +kernel : ∀ a ∈ ([1, 54, 107] : List Nat), ln (a + 4) = 7) a h
theorem IsCamp.r12 {a : Nat} (h : IsCamp a) : rf a 12 = a + 5 := (by decide +kernel : ∀ a ∈ ([1, 54, 107] : List Nat), rf a 12 = a + 5) a h
theorem IsCamp.k5 {a : Nat} (h : IsCamp a) : ky (a + 5) = 7 := (by decide +kernel : ∀ a ∈ ([1, 54, 107] : List Nat), ky (a + 5) = 7) a h
theorem IsCamp.l5 {a : Nat} (h : IsCamp a) : ln (a + 5) = 7 := (by decide +kernel : ∀ a ∈ ([1, 54, 107] : List Nat), ln (a + 5) = 7) a h
def IsMom (a : Nat) : Prop := a ∈ ([7, 14, 19, 24, 29, 34, 39, 44, 49, 60, 67, 72, 77, 82, 87, 92, 97, 102, 113] : List Nat)
theorem IsMom.k {a : Nat} (h : IsMom a) : ky a = 1 := (by decide +kernel : ∀ a ∈ ([7, 14, 19, 24, 29, 34, 39, 44, 49, 60, 67, 72, 77, 82, 87, 92, 97, 102, 113] : List Nat), ky a = 1) a h
theorem IsMom.r6 {a : Nat} (h : IsMom a) : rf a 6 = a + 1 := (by decide +kernel : ∀ a ∈ ([7, 14, 19, 24, 29, 34, 39, 44, 49, 60, 67, 72, 77, 82, 87, 92, 97, 102, 113] : List Nat), rf a 6 = a + 1) a h
theorem IsMom.k1 {a : Nat} (h : IsMom a) : ky (a + 1) = 7 := (by decide +kernel : ∀ a ∈ ([7, 14, 19, 24, 29, 34, 39, 44, 49, 60, 67, 72, 77, 82, 87, 92, 97, 102, 113] : List Nat), ky (a + 1) = 7) a h
theorem IsMom.l1 {a : Nat} (h : IsMom a) : ln (a + 1) = 7 := (by decide +kernel : ∀ a ∈ ([7, 14, 19, 24, 29, 34, 39, 44, 49, 60, 67, 72, 77, 82, 87, 92, 97, 102, 113] : List Nat), ln (a + 1) = 7) a h
theorem IsMom.r7 {a : Nat} (h : IsMom a) : rf a 7 = a + 2 := (by decide +kernel : ∀ a ∈ ([7, 14, 19, 24, 29, 34, 39, 44, 49, 60, 67, 72, 77, 82, 87, 92, 97, 102, 113] : List Nat), rf a 7 = a + 2) a h
theorem IsMom.k2 {a : Nat} (h : IsMom a) : ky (a + 2) = 7 := (by decide +kernel : ∀ a ∈ ([7, 14, 19, 24, 29, 34, 39, 44, 49, 60, 67, 72, 77, 82, 87, 92, 97, 102, 113] : List Nat), ky (a + 2) = 7) a h
theorem IsMom.l2 {a : Nat} (h : IsMom a) : ln (a + 2) = 7 := (by decide +kernel : ∀ a ∈ ([7, 14, 19, 24, 29, 34, 39, 44, 49, 60, 67, 72, 77, 82, 87, 92, 97, 102, 113] : List Nat), ln (a + 2) = 7) a h
theorem IsMom.r8 {a : Nat} (h : IsMom a) : rf a 8 = a + 3 := (by decide +kernel : ∀ a ∈ ([7, 14, 19, 24, 29, 34, 39, 44, 49, 60, 67, 72, 77, 82, 87, 92, 97, 102, 113] : List Nat), rf a 8 = a + 3) a h
theorem IsMom.k3 {a : Nat} (h : IsMom a) : ky (a + 3) = 7 := (by decide +kernel : ∀ a ∈ ([7, 14, 19, 24, 29, 34, 39, 44, 49, 60, 67, 72, 77, 82, 87, 92, 97, 102, 113] : List Nat), ky (a + 3) = 7) a h
theorem IsMom.l3 {a : Nat} (h : IsMom a) : ln (a + 3) = 7 := (by decide +kernel : ∀ a ∈ ([7, 14, 19, 24, 29, 34, 39, 44, 49, 60, 67, 72, 77, 82, 87, 92, 97, 102, 113] : List Nat), ln (a + 3) = 7) a h
theorem IsMom.r9 {a : Nat} (h : IsMom a) : rf a 9 = a + 4 := (by decide +kernel : ∀ a ∈ ([7, 14, 19, 24, 29, 34, 39, 44, 49, 60, 67, 72, 77, 82, 87, 92, 97, 102, 113] : List Nat), rf a 9 = a + 4) a h
theorem IsMom.k4 {a : Nat} (h : IsMom a) : ky (a + 4) = 7 := (by decide +kernel : ∀ a ∈ ([7, 14, 19, 24, 29, 34, 39, 44, 49, 60, 67, 72, 77, 82, 87, 92, 97, 102, 113] : List Nat), ky (a + 4) = 7) a h
theorem IsMom.l4 {a : Nat} (h : IsMom a) : ln (a + 4) = 7 := (by decide +kernel : ∀ a ∈ ([7, 14, 19, 24, 29, 34, 39, 44, 49, 60, 67, 72, 77, 82, 87, 92, 97, 102, 113] : List Nat), ln (a + 4) = 7) a h
def IsPast (a : Nat) : Prop := a ∈ ([12, 65] : List Nat)
theorem IsPast.k {a : Nat} (h : IsPast a) : ky a = 2 := (by decide +kernel : ∀ a ∈ ([12, 65] : List Nat), ky a = 2) a h
theorem IsPast.r0 {a : Nat} (h : IsPast a) : rf a 0 = a + 1 := (by decide +kernel : ∀ a ∈ ([12, 65] : List Nat), rf a 0 = a + 1) a h
theorem IsPast.k1 {a : Nat} (h : IsPast a) : ky (a + 1) = 9 := (by decide +kernel : ∀ a ∈ ([12, 65] : List Nat), ky (a + 1) = 9) a h
theorem IsPast.l1 {a : Nat} (h : IsPast a) : ln (a + 1) = 8 := (by decide +kernel : ∀ a ∈ ([12, 65] : List Nat), ln (a + 1) = 8) a h
def IsSheet (a : Nat) : Prop := a ∈ ([124, 126, 128, 130] : List Nat)
theorem IsSheet.k {a : Nat} (h : IsSheet a) : ky a = 3 := (by decide +kernel : ∀ a ∈ ([124, 126, 128, 130] : List Nat), ky a = 3) a h
theorem IsSheet.r2 {a : Nat} (h : IsSheet a) : rf a 2 = a + 1 := (by decide +kernel : ∀ a ∈ ([124, 126, 128, 130] : List Nat), rf a 2 = a + 1) a h
theorem IsSheet.k1 {a : Nat} (h : IsSheet a) : ky (a + 1) = 8 := (by decide +kernel : ∀ a ∈ ([124, 126, 128, 130] : List Nat), ky (a + 1) = 8) a h
theorem IsSheet.l1 {a : Nat} (h : IsSheet a) : ln (a + 1) = 24 := (by decide +kernel : ∀ a ∈ ([124, 126, 128, 130] : List Nat), ln (a + 1) = 24) a h
theorem IsPast.ring {a : Nat} (h : IsPast a) {j : Nat} (hj : j < 8) : rf (a + 1) j = a + 2 + 5 * j ∧ IsMom (a + 2 + 5 * j) := (by decide +kernel : ∀ a ∈ ([12, 65] : List Nat), ∀ j, j < 8 → rf (a + 1) j = a + 2 + 5 * j ∧ (a + 2 + 5 * j) ∈ ([7, 14, 19, 24, 29, 34, 39, 44, 49, 60, 67, 72, 77, 82, 87, 92, 97, 102, 113] : List Nat)) a h j hj
theorem sheet_at {j : Nat} (hj : j < 4) : rf 123 j = 124 + 2 * j ∧ IsSheet (124 + 2 * j) := (by decide +kernel : ∀ j, j < 4 → rf 123 j = 124 + 2 * j ∧ (124 + 2 * j) ∈ ([124, 126, 128, 130] : List Nat)) j hj
