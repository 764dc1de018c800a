/-! the class's constructor, and the heap at the law's first round -/
def ob0 (b : Nat) : sC := .inr (7, [.null, .null, .null, .null, .null, .null, .null, .null, .int 0])
def lx1 (b : Nat) : List sC := [ob0 b]
def ob1 (b : Nat) : sC := .inr (2, [.int 0, .null, .null, .null, .null, .null, .null, .null])
def lx2 (b : Nat) : List sC := [ob0 b, ob1 b]
def ob2 (b : Nat) : sC := .inr (2, [.int 0, .ref (b + 2), .ref (b + 3), .ref (b + 4), .ref (b + 5), .ref (b + 6), .ref (b + 7), .ref (b + 8)])
def lx3 (b : Nat) : List sC := [ob0 b, ob2 b, cT 0 128, cT 0 128, cT 0 128, cT 0 128, cT 0 128, cT 0 384, cA 128 (fiF (fun _ => 0) (-1) 128)]
def ob3 (b : Nat) : sC := .inr (7, [.ref (b + 1), .null, .null, .null, .null, .null, .null, .null, .int 0])
def lx4 (b : Nat) : List sC := [ob3 b, ob2 b, cT 0 128, cT 0 128, cT 0 128, cT 0 128, cT 0 128, cT 0 384, cA 128 (fiF (fun _ => 0) (-1) 128)]
def ob4 (b : Nat) : sC := .inr (1, [.int 0, .int 0, .int 0, .null, .null, .null, .int 0, .null, .null, .int 0, .int 0, .null, .null, .null, .null])
def lx5 (b : Nat) : List sC := [ob3 b, ob2 b, cT 0 128, cT 0 128, cT 0 128, cT 0 128, cT 0 128, cT 0 384, cA 128 (fiF (fun _ => 0) (-1) 128), ob4 b]
def ob5 (b : Nat) : sC := .inr (1, [.int 2, .int 0, .int 0, .ref (b + 10), .ref (b + 11), .ref (b + 12), .int 0, .ref (b + 13), .ref (b + 14), .int 0, .int 0, .ref (b + 15), .ref (b + 16), .ref (b + 17), .ref (b + 18)])
def lx6 (b : Nat) : List sC := [ob3 b, ob2 b, cT 0 128, cT 0 128, cT 0 128, cT 0 128, cT 0 128, cT 0 384, cA 128 (fiF (fun _ => 0) (-1) 128), ob5 b, cT 1 480, cA 3 (ruF 3), cT 0 4, cT 1 40, cT 1 40, cT 0 30, cA 51 (prF 51), cT 0 240, cT 0 120]
def ob6 (b : Nat) : sC := .inr (7, [.ref (b + 1), .ref (b + 9), .null, .null, .null, .null, .null, .null, .int 0])
def lx7 (b : Nat) : List sC := [ob6 b, ob2 b, cT 0 128, cT 0 128, cT 0 128, cT 0 128, cT 0 128, cT 0 384, cA 128 (fiF (fun _ => 0) (-1) 128), ob5 b, cT 1 480, cA 3 (ruF 3), cT 0 4, cT 1 40, cT 1 40, cT 0 30, cA 51 (prF 51), cT 0 240, cT 0 120]
def ob7 (b : Nat) : sC := .inr (1, [.int 0, .int 0, .int 0, .null, .null, .null, .int 0, .null, .null, .int 0, .int 0, .null, .null, .null, .null])
def lx8 (b : Nat) : List sC := [ob6 b, ob2 b, cT 0 128, cT 0 128, cT 0 128, cT 0 128, cT 0 128, cT 0 384, cA 128 (fiF (fun _ => 0) (-1) 128), ob5 b, cT 1 480, cA 3 (ruF 3), cT 0 4, cT 1 40, cT 1 40, cT 0 30, cA 51 (prF 51), cT 0 240, cT 0 120, ob7 b]
def ob8 (b : Nat) : sC := .inr (1, [.int 2, .int 0, .int 0, .ref (b + 20), .ref (b + 21), .ref (b + 22), .int 0, .ref (b + 23), .ref (b + 24), .int 0, .int 0, .ref (b + 25), .ref (b + 26), .ref (b + 27), .ref (b + 28)])
def lx9 (b : Nat) : List sC := [ob6 b, ob2 b, cT 0 128, cT 0 128, cT 0 128, cT 0 128, cT 0 128, cT 0 384, cA 128 (fiF (fun _ => 0) (-1) 128), ob5 b, cT 1 480, cA 3 (ruF 3), cT 0 4, cT 1 40, cT 1 40, cT 0 30, cA 51 (prF 51), cT 0 240, cT 0 120, ob8 b, cT 1 480, cA 3 (ruF 3), cT 0 4, cT 1 40, cT 1 40, cT 0 30, cA 51 (prF 51), cT 0 240, cT 0 120]
def ob9 (b : Nat) : sC := .inr (7, [.ref (b + 1), .ref (b + 9), .ref (b + 19), .null, .null, .null, .null, .null, .int 0])
def lx10 (b : Nat) : List sC := [ob9 b, ob2 b, cT 0 128, cT 0 128, cT 0 128, cT 0 128, cT 0 128, cT 0 384, cA 128 (fiF (fun _ => 0) (-1) 128), ob5 b, cT 1 480, cA 3 (ruF 3), cT 0 4, cT 1 40, cT 1 40, cT 0 30, cA 51 (prF 51), cT 0 240, cT 0 120, ob8 b, cT 1 480, cA 3 (ruF 3), cT 0 4, cT 1 40, cT 1 40, cT 0 30, cA 51 (prF 51), cT 0 240, cT 0 120]
def ob10 (b : Nat) : sC := .inr (5, [.int 0, .int 0, .null, .null, .int 0, .int 0, .int 0])
def lx11 (b : Nat) : List sC := [ob9 b, ob2 b, cT 0 128, cT 0 128, cT 0 128, cT 0 128, cT 0 128, cT 0 384, cA 128 (fiF (fun _ => 0) (-1) 128), ob5 b, cT 1 480, cA 3 (ruF 3), cT 0 4, cT 1 40, cT 1 40, cT 0 30, cA 51 (prF 51), cT 0 240, cT 0 120, ob8 b, cT 1 480, cA 3 (ruF 3), cT 0 4, cT 1 40, cT 1 40, cT 0 30, cA 51 (prF 51), cT 0 240, cT 0 120, ob10 b]
def ob11 (b : Nat) : sC := .inr (5, [.int 0, .int (-1), .ref (b + 1), .ref (b + 30), .int 0, .int 0, .int 0])
def lx12 (b : Nat) : List sC := [ob9 b, ob2 b, cT 0 128, cT 0 128, cT 0 128, cT 0 128, cT 0 128, cT 0 384, cA 128 (fiF (fun _ => 0) (-1) 128), ob5 b, cT 1 480, cA 3 (ruF 3), cT 0 4, cT 1 40, cT 1 40, cT 0 30, cA 51 (prF 51), cT 0 240, cT 0 120, ob8 b, cT 1 480, cA 3 (ruF 3), cT 0 4, cT 1 40, cT 1 40, cT 0 30, cA 51 (prF 51), cT 0 240, cT 0 120, ob11 b, cT 2 400]
def ob12 (b : Nat) : sC := .inr (7, [.ref (b + 1), .ref (b + 9), .ref (b + 19), .ref (b + 29), .null, .null, .null, .null, .int 0])
def lx13 (b : Nat) : List sC := [ob12 b, ob2 b, cT 0 128, cT 0 128, cT 0 128, cT 0 128, cT 0 128, cT 0 384, cA 128 (fiF (fun _ => 0) (-1) 128), ob5 b, cT 1 480, cA 3 (ruF 3), cT 0 4, cT 1 40, cT 1 40, cT 0 30, cA 51 (prF 51), cT 0 240, cT 0 120, ob8 b, cT 1 480, cA 3 (ruF 3), cT 0 4, cT 1 40, cT 1 40, cT 0 30, cA 51 (prF 51), cT 0 240, cT 0 120, ob11 b, cT 2 400]
def ob13 (b : Nat) : sC := .inr (3, [.null, .null, .null, .null, .null, .null])
def lx14 (b : Nat) : List sC := [ob12 b, ob2 b, cT 0 128, cT 0 128, cT 0 128, cT 0 128, cT 0 128, cT 0 384, cA 128 (fiF (fun _ => 0) (-1) 128), ob5 b, cT 1 480, cA 3 (ruF 3), cT 0 4, cT 1 40, cT 1 40, cT 0 30, cA 51 (prF 51), cT 0 240, cT 0 120, ob8 b, cT 1 480, cA 3 (ruF 3), cT 0 4, cT 1 40, cT 1 40, cT 0 30, cA 51 (prF 51), cT 0 240, cT 0 120, ob11 b, cT 2 400, ob13 b]
def ob14 (b : Nat) : sC := .inr (3, [.ref (b + 9), .ref (b + 32), .ref (b + 33), .ref (b + 34), .ref (b + 35), .ref (b + 36)])
def lx15 (b : Nat) : List sC := [ob12 b, ob2 b, cT 0 128, cT 0 128, cT 0 128, cT 0 128, cT 0 128, cT 0 384, cA 128 (fiF (fun _ => 0) (-1) 128), ob5 b, cT 1 480, cA 3 (ruF 3), cT 0 4, cT 1 40, cT 1 40, cT 0 30, cA 51 (prF 51), cT 0 240, cT 0 120, ob8 b, cT 1 480, cA 3 (ruF 3), cT 0 4, cT 1 40, cT 1 40, cT 0 30, cA 51 (prF 51), cT 0 240, cT 0 120, ob11 b, cT 2 400, ob14 b, cT 1 16, cT 1 16, cT 1 16, cT 0 14, cT 1 256]
def ob15 (b : Nat) : sC := .inr (7, [.ref (b + 1), .ref (b + 9), .ref (b + 19), .ref (b + 29), .ref (b + 31), .null, .null, .null, .int 0])
def lx16 (b : Nat) : List sC := [ob15 b, ob2 b, cT 0 128, cT 0 128, cT 0 128, cT 0 128, cT 0 128, cT 0 384, cA 128 (fiF (fun _ => 0) (-1) 128), ob5 b, cT 1 480, cA 3 (ruF 3), cT 0 4, cT 1 40, cT 1 40, cT 0 30, cA 51 (prF 51), cT 0 240, cT 0 120, ob8 b, cT 1 480, cA 3 (ruF 3), cT 0 4, cT 1 40, cT 1 40, cT 0 30, cA 51 (prF 51), cT 0 240, cT 0 120, ob11 b, cT 2 400, ob14 b, cT 1 16, cT 1 16, cT 1 16, cT 0 14, cT 1 256]
def ob16 (b : Nat) : sC := .inr (0, [.long 0, .long 0, .long 0, .long 0, .null, .null])
def lx17 (b : Nat) : List sC := [ob15 b, ob2 b, cT 0 128, cT 0 128, cT 0 128, cT 0 128, cT 0 128, cT 0 384, cA 128 (fiF (fun _ => 0) (-1) 128), ob5 b, cT 1 480, cA 3 (ruF 3), cT 0 4, cT 1 40, cT 1 40, cT 0 30, cA 51 (prF 51), cT 0 240, cT 0 120, ob8 b, cT 1 480, cA 3 (ruF 3), cT 0 4, cT 1 40, cT 1 40, cT 0 30, cA 51 (prF 51), cT 0 240, cT 0 120, ob11 b, cT 2 400, ob14 b, cT 1 16, cT 1 16, cT 1 16, cT 0 14, cT 1 256, ob16 b]
def ob17 (b : Nat) : sC := .inr (0, [.long 0, .long 0, .long 0, .long 0, .ref (b + 1), .ref (b + 9)])
def lx18 (b : Nat) : List sC := [ob15 b, ob2 b, cT 0 128, cT 0 128, cT 0 128, cT 0 128, cT 0 128, cT 0 384, cA 128 (fiF (fun _ => 0) (-1) 128), ob5 b, cT 1 480, cA 3 (ruF 3), cT 0 4, cT 1 40, cT 1 40, cT 0 30, cA 51 (prF 51), cT 0 240, cT 0 120, ob8 b, cT 1 480, cA 3 (ruF 3), cT 0 4, cT 1 40, cT 1 40, cT 0 30, cA 51 (prF 51), cT 0 240, cT 0 120, ob11 b, cT 2 400, ob14 b, cT 1 16, cT 1 16, cT 1 16, cT 0 14, cT 1 256, ob17 b]
def ob18 (b : Nat) : sC := .inr (7, [.ref (b + 1), .ref (b + 9), .ref (b + 19), .ref (b + 29), .ref (b + 31), .ref (b + 37), .null, .null, .int 0])
def lx19 (b : Nat) : List sC := [ob18 b, ob2 b, cT 0 128, cT 0 128, cT 0 128, cT 0 128, cT 0 128, cT 0 384, cA 128 (fiF (fun _ => 0) (-1) 128), ob5 b, cT 1 480, cA 3 (ruF 3), cT 0 4, cT 1 40, cT 1 40, cT 0 30, cA 51 (prF 51), cT 0 240, cT 0 120, ob8 b, cT 1 480, cA 3 (ruF 3), cT 0 4, cT 1 40, cT 1 40, cT 0 30, cA 51 (prF 51), cT 0 240, cT 0 120, ob11 b, cT 2 400, ob14 b, cT 1 16, cT 1 16, cT 1 16, cT 0 14, cT 1 256, ob17 b]
def ob19 (b : Nat) : sC := .inr (4, [.null, .null, .null, .null, .null, .null, .null, .null, .int 0, .int 0, .int 0, .int 0, .int 0])
def lx20 (b : Nat) : List sC := [ob18 b, ob2 b, cT 0 128, cT 0 128, cT 0 128, cT 0 128, cT 0 128, cT 0 384, cA 128 (fiF (fun _ => 0) (-1) 128), ob5 b, cT 1 480, cA 3 (ruF 3), cT 0 4, cT 1 40, cT 1 40, cT 0 30, cA 51 (prF 51), cT 0 240, cT 0 120, ob8 b, cT 1 480, cA 3 (ruF 3), cT 0 4, cT 1 40, cT 1 40, cT 0 30, cA 51 (prF 51), cT 0 240, cT 0 120, ob11 b, cT 2 400, ob14 b, cT 1 16, cT 1 16, cT 1 16, cT 0 14, cT 1 256, ob17 b, ob19 b]
def ob20 (b : Nat) : sC := .inr (4, [.ref (b + 1), .ref (b + 9), .ref (b + 39), .ref (b + 40), .ref (b + 41), .ref (b + 42), .ref (b + 43), .ref (b + 44), .int 0, .int 0, .int 0, .int 0, .int 0])
def lx21 (b : Nat) : List sC := [ob18 b, ob2 b, cT 0 128, cT 0 128, cT 0 128, cT 0 128, cT 0 128, cT 0 384, cA 128 (fiF (fun _ => 0) (-1) 128), ob5 b, cT 1 480, cA 3 (ruF 3), cT 0 4, cT 1 40, cT 1 40, cT 0 30, cA 51 (prF 51), cT 0 240, cT 0 120, ob8 b, cT 1 480, cA 3 (ruF 3), cT 0 4, cT 1 40, cT 1 40, cT 0 30, cA 51 (prF 51), cT 0 240, cT 0 120, ob11 b, cT 2 400, ob14 b, cT 1 16, cT 1 16, cT 1 16, cT 0 14, cT 1 256, ob17 b, ob20 b, cT 0 40, cT 0 40, cT 0 16, cT 0 3, cT 0 2800, cT 0 320]
def ob21 (b : Nat) : sC := .inr (7, [.ref (b + 1), .ref (b + 9), .ref (b + 19), .ref (b + 29), .ref (b + 31), .ref (b + 37), .ref (b + 38), .null, .int 0])
def lx22 (b : Nat) : List sC := [ob21 b, ob2 b, cT 0 128, cT 0 128, cT 0 128, cT 0 128, cT 0 128, cT 0 384, cA 128 (fiF (fun _ => 0) (-1) 128), ob5 b, cT 1 480, cA 3 (ruF 3), cT 0 4, cT 1 40, cT 1 40, cT 0 30, cA 51 (prF 51), cT 0 240, cT 0 120, ob8 b, cT 1 480, cA 3 (ruF 3), cT 0 4, cT 1 40, cT 1 40, cT 0 30, cA 51 (prF 51), cT 0 240, cT 0 120, ob11 b, cT 2 400, ob14 b, cT 1 16, cT 1 16, cT 1 16, cT 0 14, cT 1 256, ob17 b, ob20 b, cT 0 40, cT 0 40, cT 0 16, cT 0 3, cT 0 2800, cT 0 320]
def ob22 (b : Nat) : sC := .inr (6, [.null, .null])
def lx23 (b : Nat) : List sC := [ob21 b, ob2 b, cT 0 128, cT 0 128, cT 0 128, cT 0 128, cT 0 128, cT 0 384, cA 128 (fiF (fun _ => 0) (-1) 128), ob5 b, cT 1 480, cA 3 (ruF 3), cT 0 4, cT 1 40, cT 1 40, cT 0 30, cA 51 (prF 51), cT 0 240, cT 0 120, ob8 b, cT 1 480, cA 3 (ruF 3), cT 0 4, cT 1 40, cT 1 40, cT 0 30, cA 51 (prF 51), cT 0 240, cT 0 120, ob11 b, cT 2 400, ob14 b, cT 1 16, cT 1 16, cT 1 16, cT 0 14, cT 1 256, ob17 b, ob20 b, cT 0 40, cT 0 40, cT 0 16, cT 0 3, cT 0 2800, cT 0 320, ob22 b]
def ob23 (b : Nat) : sC := .inr (6, [.ref (b + 9), .ref (b + 37)])
def lx24 (b : Nat) : List sC := [ob21 b, ob2 b, cT 0 128, cT 0 128, cT 0 128, cT 0 128, cT 0 128, cT 0 384, cA 128 (fiF (fun _ => 0) (-1) 128), ob5 b, cT 1 480, cA 3 (ruF 3), cT 0 4, cT 1 40, cT 1 40, cT 0 30, cA 51 (prF 51), cT 0 240, cT 0 120, ob8 b, cT 1 480, cA 3 (ruF 3), cT 0 4, cT 1 40, cT 1 40, cT 0 30, cA 51 (prF 51), cT 0 240, cT 0 120, ob11 b, cT 2 400, ob14 b, cT 1 16, cT 1 16, cT 1 16, cT 0 14, cT 1 256, ob17 b, ob20 b, cT 0 40, cT 0 40, cT 0 16, cT 0 3, cT 0 2800, cT 0 320, ob23 b]
def ob24 (b : Nat) : sC := .inr (7, [.ref (b + 1), .ref (b + 9), .ref (b + 19), .ref (b + 29), .ref (b + 31), .ref (b + 37), .ref (b + 38), .ref (b + 45), .int 0])
def lx25 (b : Nat) : List sC := [ob24 b, ob2 b, cT 0 128, cT 0 128, cT 0 128, cT 0 128, cT 0 128, cT 0 384, cA 128 (fiF (fun _ => 0) (-1) 128), ob5 b, cT 1 480, cA 3 (ruF 3), cT 0 4, cT 1 40, cT 1 40, cT 0 30, cA 51 (prF 51), cT 0 240, cT 0 120, ob8 b, cT 1 480, cA 3 (ruF 3), cT 0 4, cT 1 40, cT 1 40, cT 0 30, cA 51 (prF 51), cT 0 240, cT 0 120, ob11 b, cT 2 400, ob14 b, cT 1 16, cT 1 16, cT 1 16, cT 0 14, cT 1 256, ob17 b, ob20 b, cT 0 40, cT 0 40, cT 0 16, cT 0 3, cT 0 2800, cT 0 320, ob23 b]
def ob25 (b : Nat) : sC := .inr (8, [.int 0, .null, .null, .int 0, .null, .null, .null, .int 0, .int 0, .int 0, .int 0, .int 0, .int 0, .int 0, .int 0, .null, .null, .null, .null, .null, .null, .null, .null, .null, .null, .null, .null, .null, .null, .null, .null, .null, .null, .int 0, .int 0, .int 0, .null, .null, .int 0])
def lx26 (b : Nat) : List sC := [ob24 b, ob2 b, cT 0 128, cT 0 128, cT 0 128, cT 0 128, cT 0 128, cT 0 384, cA 128 (fiF (fun _ => 0) (-1) 128), ob5 b, cT 1 480, cA 3 (ruF 3), cT 0 4, cT 1 40, cT 1 40, cT 0 30, cA 51 (prF 51), cT 0 240, cT 0 120, ob8 b, cT 1 480, cA 3 (ruF 3), cT 0 4, cT 1 40, cT 1 40, cT 0 30, cA 51 (prF 51), cT 0 240, cT 0 120, ob11 b, cT 2 400, ob14 b, cT 1 16, cT 1 16, cT 1 16, cT 0 14, cT 1 256, ob17 b, ob20 b, cT 0 40, cT 0 40, cT 0 16, cT 0 3, cT 0 2800, cT 0 320, ob23 b, ob25 b]
def ob26 (b : Nat) : sC := .inr (8, [.int 0, .ref (b + 47), .ref (b + 48), .int 0, .ref (b + 49), .ref (b + 50), .ref (b + 51), .int 0, .int 0, .int 0, .int 0, .int 0, .int 0, .int (-1), .int 0, .ref (b + 52), .ref (b + 53), .ref (b + 54), .ref (b + 55), .ref (b + 56), .ref (b + 57), .ref (b + 58), .ref (b + 59), .ref (b + 60), .ref (b + 61), .ref (b + 62), .ref (b + 63), .ref (b + 64), .ref (b + 65), .ref (b + 66), .ref (b + 67), .ref (b + 68), .ref (b + 69), .int 0, .int 0, .int 0, .ref (b + 70), .ref (b + 71), .int 0])
def lx27 (b : Nat) : List sC := [ob24 b, ob2 b, cT 0 128, cT 0 128, cT 0 128, cT 0 128, cT 0 128, cT 0 384, cA 128 (fiF (fun _ => 0) (-1) 128), ob5 b, cT 1 480, cA 3 (ruF 3), cT 0 4, cT 1 40, cT 1 40, cT 0 30, cA 51 (prF 51), cT 0 240, cT 0 120, ob8 b, cT 1 480, cA 3 (ruF 3), cT 0 4, cT 1 40, cT 1 40, cT 0 30, cA 51 (prF 51), cT 0 240, cT 0 120, ob11 b, cT 2 400, ob14 b, cT 1 16, cT 1 16, cT 1 16, cT 0 14, cT 1 256, ob17 b, ob20 b, cT 0 40, cT 0 40, cT 0 16, cT 0 3, cT 0 2800, cT 0 320, ob23 b, ob26 b, cA 1682 (moF 58), cT 0 1682, cT 0 72, cT 0 2880, cT 2 400, cT 0 5, cT 0 40, cT 3 40, cT 1 40, cT 1 40, cT 0 1024, cT 0 1088, cT 0 4, cT 0 40, cT 0 40, cT 0 40, cT 0 120, cT 3 40, cT 3 1600, cT 3 1600, cT 0 1600, cT 0 1600, cT 0 3, cT 0 320, cT 0 608]
def lx28 (b : Nat) : List sC := [ob24 b, ob2 b, cT 0 128, cT 0 128, cT 0 128, cT 0 128, cT 0 128, cT 0 384, cA 128 (fiF (fun _ => 0) (-1) 128), ob5 b, cT 1 480, cA 3 (ruF 3), cT 0 4, cT 1 40, cT 1 40, cT 0 30, cA 51 (prF 51), cT 0 240, cT 0 120, ob8 b, cT 1 480, cA 3 (ruF 3), cT 0 4, cT 1 40, cT 1 40, cT 0 30, cA 51 (prF 51), cT 0 240, cT 0 120, ob11 b, cT 2 400, ob14 b, cT 1 16, cT 1 16, cT 1 16, cT 0 14, cT 1 256, ob17 b, ob20 b, cT 0 40, cT 0 40, cT 0 16, cT 0 3, cT 0 2800, cT 0 320, ob23 b, ob26 b, cA 1682 (moF 58), cT 0 1682, cT 0 72, cT 0 2880, cT 2 400, cT 0 5, cT 0 40, cT 3 40, cT 1 40, cT 1 40, cT 0 1024, cT 0 1088, cT 0 4, cT 0 40, cT 0 40, cT 0 40, cT 0 120, cT 3 40, cT 3 1600, cT 3 1600, cT 0 1600, cT 0 1600, cT 0 3, cT 0 320, cT 0 608, cT 1 1]
section CTR
variable {P : sP} {ex : Nat → Option sC} {sl : Nat}
theorem c_X7i : F_X7_init P.2.1 (ls P ex (lx1 P.2.1) (sl)) = some ((), ls P ex (lx25 P.2.1) (sl + 8 + 128 + 128 + 128 + 128 + 128 + 384 + 128 + 15 + 480 + 3 + 4 + 40 + 40 + 30 + 51 + 240 + 120 + 15 + 480 + 3 + 4 + 40 + 40 + 30 + 51 + 240 + 120 + 7 + 400 + 6 + 16 + 16 + 16 + 14 + 256 + 6 + 13 + 40 + 40 + 16 + 3 + 2800 + 320 + 2)) := by
  rw [E_X7_init, E_X7_init_0]
  have n1 : s_nw (ls P ex (lx1 P.2.1) (sl)) 2 8 [.int 0, .null, .null, .null, .null, .null, .null, .null] = ls P ex (lx2 P.2.1) (sl + 8) := ls_nw
  rw [n1, ob]
  have n2 : F_X2_init (ls P ex (lx1 P.2.1) (sl)).2.1 (ls P ex (lx2 P.2.1) (sl + 8)) = some ((), ls P ex (lx3 P.2.1) (sl + 8 + 128 + 128 + 128 + 128 + 128 + 384 + 128)) := c_X2i (l := lx1 P.2.1) (k := 1) rfl
  rw [n2, ob]
  dsimp only
  have n3 : s_pf (ls P ex (lx3 P.2.1) (sl + 8 + 128 + 128 + 128 + 128 + 128 + 384 + 128)) P.2.1 7 0 (.ref (ls P ex (lx1 P.2.1) (sl)).2.1) = some (ls P ex (lx4 P.2.1) (sl + 8 + 128 + 128 + 128 + 128 + 128 + 384 + 128)) := ls_pf (k := 0) (fs := [.null, .null, .null, .null, .null, .null, .null, .null, .int 0]) rfl (Nat.le_of_ble_eq_true rfl)
  rw [n3, ob]
  have n4 : s_nw (ls P ex (lx4 P.2.1) (sl + 8 + 128 + 128 + 128 + 128 + 128 + 384 + 128)) 1 15 [.int 0, .int 0, .int 0, .null, .null, .null, .int 0, .null, .null, .int 0, .int 0, .null, .null, .null, .null] = ls P ex (lx5 P.2.1) (sl + 8 + 128 + 128 + 128 + 128 + 128 + 384 + 128 + 15) := ls_nw
  rw [n4, ob]
  have n5 : F_X1_init (ls P ex (lx4 P.2.1) (sl + 8 + 128 + 128 + 128 + 128 + 128 + 384 + 128)).2.1 (ls P ex (lx5 P.2.1) (sl + 8 + 128 + 128 + 128 + 128 + 128 + 384 + 128 + 15)) = some ((), ls P ex (lx6 P.2.1) (sl + 8 + 128 + 128 + 128 + 128 + 128 + 384 + 128 + 15 + 480 + 3 + 4 + 40 + 40 + 30 + 51 + 240 + 120)) := c_X1i (l := lx4 P.2.1) (k := 9) rfl
  rw [n5, ob]
  dsimp only
  have n6 : s_pf (ls P ex (lx6 P.2.1) (sl + 8 + 128 + 128 + 128 + 128 + 128 + 384 + 128 + 15 + 480 + 3 + 4 + 40 + 40 + 30 + 51 + 240 + 120)) P.2.1 7 1 (.ref (ls P ex (lx4 P.2.1) (sl + 8 + 128 + 128 + 128 + 128 + 128 + 384 + 128)).2.1) = some (ls P ex (lx7 P.2.1) (sl + 8 + 128 + 128 + 128 + 128 + 128 + 384 + 128 + 15 + 480 + 3 + 4 + 40 + 40 + 30 + 51 + 240 + 120)) := ls_pf (k := 0) (fs := [.ref (P.2.1 + 1), .null, .null, .null, .null, .null, .null, .null, .int 0]) rfl (Nat.le_of_ble_eq_true rfl)
  rw [n6, ob]
  have n7 : s_nw (ls P ex (lx7 P.2.1) (sl + 8 + 128 + 128 + 128 + 128 + 128 + 384 + 128 + 15 + 480 + 3 + 4 + 40 + 40 + 30 + 51 + 240 + 120)) 1 15 [.int 0, .int 0, .int 0, .null, .null, .null, .int 0, .null, .null, .int 0, .int 0, .null, .null, .null, .null] = ls P ex (lx8 P.2.1) (sl + 8 + 128 + 128 + 128 + 128 + 128 + 384 + 128 + 15 + 480 + 3 + 4 + 40 + 40 + 30 + 51 + 240 + 120 + 15) := ls_nw
  rw [n7, ob]
  have n8 : F_X1_init (ls P ex (lx7 P.2.1) (sl + 8 + 128 + 128 + 128 + 128 + 128 + 384 + 128 + 15 + 480 + 3 + 4 + 40 + 40 + 30 + 51 + 240 + 120)).2.1 (ls P ex (lx8 P.2.1) (sl + 8 + 128 + 128 + 128 + 128 + 128 + 384 + 128 + 15 + 480 + 3 + 4 + 40 + 40 + 30 + 51 + 240 + 120 + 15)) = some ((), ls P ex (lx9 P.2.1) (sl + 8 + 128 + 128 + 128 + 128 + 128 + 384 + 128 + 15 + 480 + 3 + 4 + 40 + 40 + 30 + 51 + 240 + 120 + 15 + 480 + 3 + 4 + 40 + 40 + 30 + 51 + 240 + 120)) := c_X1i (l := lx7 P.2.1) (k := 19) rfl
  rw [n8, ob]
  dsimp only
  have n9 : s_pf (ls P ex (lx9 P.2.1) (sl + 8 + 128 + 128 + 128 + 128 + 128 + 384 + 128 + 15 + 480 + 3 + 4 + 40 + 40 + 30 + 51 + 240 + 120 + 15 + 480 + 3 + 4 + 40 + 40 + 30 + 51 + 240 + 120)) P.2.1 7 2 (.ref (ls P ex (lx7 P.2.1) (sl + 8 + 128 + 128 + 128 + 128 + 128 + 384 + 128 + 15 + 480 + 3 + 4 + 40 + 40 + 30 + 51 + 240 + 120)).2.1) = some (ls P ex (lx10 P.2.1) (sl + 8 + 128 + 128 + 128 + 128 + 128 + 384 + 128 + 15 + 480 + 3 + 4 + 40 + 40 + 30 + 51 + 240 + 120 + 15 + 480 + 3 + 4 + 40 + 40 + 30 + 51 + 240 + 120)) := ls_pf (k := 0) (fs := [.ref (P.2.1 + 1), .ref (P.2.1 + 9), .null, .null, .null, .null, .null, .null, .int 0]) rfl (Nat.le_of_ble_eq_true rfl)
  rw [n9, ob]
  have n10 : s_nw (ls P ex (lx10 P.2.1) (sl + 8 + 128 + 128 + 128 + 128 + 128 + 384 + 128 + 15 + 480 + 3 + 4 + 40 + 40 + 30 + 51 + 240 + 120 + 15 + 480 + 3 + 4 + 40 + 40 + 30 + 51 + 240 + 120)) 5 7 [.int 0, .int 0, .null, .null, .int 0, .int 0, .int 0] = ls P ex (lx11 P.2.1) (sl + 8 + 128 + 128 + 128 + 128 + 128 + 384 + 128 + 15 + 480 + 3 + 4 + 40 + 40 + 30 + 51 + 240 + 120 + 15 + 480 + 3 + 4 + 40 + 40 + 30 + 51 + 240 + 120 + 7) := ls_nw
  rw [n10, ob]
  have n11 : s_fr (ls P ex (lx11 P.2.1) (sl + 8 + 128 + 128 + 128 + 128 + 128 + 384 + 128 + 15 + 480 + 3 + 4 + 40 + 40 + 30 + 51 + 240 + 120 + 15 + 480 + 3 + 4 + 40 + 40 + 30 + 51 + 240 + 120 + 7)) P.2.1 7 0 = some (P.2.1 + 1) := ls_fr (k := 0) (fs := [.ref (P.2.1 + 1), .ref (P.2.1 + 9), .ref (P.2.1 + 19), .null, .null, .null, .null, .null, .int 0]) rfl rfl
  rw [n11, ob]
  have n12 : F_X5_init (ls P ex (lx10 P.2.1) (sl + 8 + 128 + 128 + 128 + 128 + 128 + 384 + 128 + 15 + 480 + 3 + 4 + 40 + 40 + 30 + 51 + 240 + 120 + 15 + 480 + 3 + 4 + 40 + 40 + 30 + 51 + 240 + 120)).2.1 (P.2.1 + 1) (ls P ex (lx11 P.2.1) (sl + 8 + 128 + 128 + 128 + 128 + 128 + 384 + 128 + 15 + 480 + 3 + 4 + 40 + 40 + 30 + 51 + 240 + 120 + 15 + 480 + 3 + 4 + 40 + 40 + 30 + 51 + 240 + 120 + 7)) = some ((), ls P ex (lx12 P.2.1) (sl + 8 + 128 + 128 + 128 + 128 + 128 + 384 + 128 + 15 + 480 + 3 + 4 + 40 + 40 + 30 + 51 + 240 + 120 + 15 + 480 + 3 + 4 + 40 + 40 + 30 + 51 + 240 + 120 + 7 + 400)) := c_X5i (l := lx10 P.2.1) (k := 29) rfl
  rw [n12, ob]
  dsimp only
  have n13 : s_pf (ls P ex (lx12 P.2.1) (sl + 8 + 128 + 128 + 128 + 128 + 128 + 384 + 128 + 15 + 480 + 3 + 4 + 40 + 40 + 30 + 51 + 240 + 120 + 15 + 480 + 3 + 4 + 40 + 40 + 30 + 51 + 240 + 120 + 7 + 400)) P.2.1 7 3 (.ref (ls P ex (lx10 P.2.1) (sl + 8 + 128 + 128 + 128 + 128 + 128 + 384 + 128 + 15 + 480 + 3 + 4 + 40 + 40 + 30 + 51 + 240 + 120 + 15 + 480 + 3 + 4 + 40 + 40 + 30 + 51 + 240 + 120)).2.1) = some (ls P ex (lx13 P.2.1) (sl + 8 + 128 + 128 + 128 + 128 + 128 + 384 + 128 + 15 + 480 + 3 + 4 + 40 + 40 + 30 + 51 + 240 + 120 + 15 + 480 + 3 + 4 + 40 + 40 + 30 + 51 + 240 + 120 + 7 + 400)) := ls_pf (k := 0) (fs := [.ref (P.2.1 + 1), .ref (P.2.1 + 9), .ref (P.2.1 + 19), .null, .null, .null, .null, .null, .int 0]) rfl (Nat.le_of_ble_eq_true rfl)
  rw [n13, ob]
  have n14 : s_nw (ls P ex (lx13 P.2.1) (sl + 8 + 128 + 128 + 128 + 128 + 128 + 384 + 128 + 15 + 480 + 3 + 4 + 40 + 40 + 30 + 51 + 240 + 120 + 15 + 480 + 3 + 4 + 40 + 40 + 30 + 51 + 240 + 120 + 7 + 400)) 3 6 [.null, .null, .null, .null, .null, .null] = ls P ex (lx14 P.2.1) (sl + 8 + 128 + 128 + 128 + 128 + 128 + 384 + 128 + 15 + 480 + 3 + 4 + 40 + 40 + 30 + 51 + 240 + 120 + 15 + 480 + 3 + 4 + 40 + 40 + 30 + 51 + 240 + 120 + 7 + 400 + 6) := ls_nw
  rw [n14, ob]
  have n15 : s_fr (ls P ex (lx14 P.2.1) (sl + 8 + 128 + 128 + 128 + 128 + 128 + 384 + 128 + 15 + 480 + 3 + 4 + 40 + 40 + 30 + 51 + 240 + 120 + 15 + 480 + 3 + 4 + 40 + 40 + 30 + 51 + 240 + 120 + 7 + 400 + 6)) P.2.1 7 1 = some (P.2.1 + 9) := ls_fr (k := 0) (fs := [.ref (P.2.1 + 1), .ref (P.2.1 + 9), .ref (P.2.1 + 19), .ref (P.2.1 + 29), .null, .null, .null, .null, .int 0]) rfl rfl
  rw [n15, ob]
  have n16 : F_X3_init (ls P ex (lx13 P.2.1) (sl + 8 + 128 + 128 + 128 + 128 + 128 + 384 + 128 + 15 + 480 + 3 + 4 + 40 + 40 + 30 + 51 + 240 + 120 + 15 + 480 + 3 + 4 + 40 + 40 + 30 + 51 + 240 + 120 + 7 + 400)).2.1 (P.2.1 + 9) (ls P ex (lx14 P.2.1) (sl + 8 + 128 + 128 + 128 + 128 + 128 + 384 + 128 + 15 + 480 + 3 + 4 + 40 + 40 + 30 + 51 + 240 + 120 + 15 + 480 + 3 + 4 + 40 + 40 + 30 + 51 + 240 + 120 + 7 + 400 + 6)) = some ((), ls P ex (lx15 P.2.1) (sl + 8 + 128 + 128 + 128 + 128 + 128 + 384 + 128 + 15 + 480 + 3 + 4 + 40 + 40 + 30 + 51 + 240 + 120 + 15 + 480 + 3 + 4 + 40 + 40 + 30 + 51 + 240 + 120 + 7 + 400 + 6 + 16 + 16 + 16 + 14 + 256)) := c_X3i (l := lx13 P.2.1) (k := 31) rfl
  rw [n16, ob]
  dsimp only
  have n17 : s_pf (ls P ex (lx15 P.2.1) (sl + 8 + 128 + 128 + 128 + 128 + 128 + 384 + 128 + 15 + 480 + 3 + 4 + 40 + 40 + 30 + 51 + 240 + 120 + 15 + 480 + 3 + 4 + 40 + 40 + 30 + 51 + 240 + 120 + 7 + 400 + 6 + 16 + 16 + 16 + 14 + 256)) P.2.1 7 4 (.ref (ls P ex (lx13 P.2.1) (sl + 8 + 128 + 128 + 128 + 128 + 128 + 384 + 128 + 15 + 480 + 3 + 4 + 40 + 40 + 30 + 51 + 240 + 120 + 15 + 480 + 3 + 4 + 40 + 40 + 30 + 51 + 240 + 120 + 7 + 400)).2.1) = some (ls P ex (lx16 P.2.1) (sl + 8 + 128 + 128 + 128 + 128 + 128 + 384 + 128 + 15 + 480 + 3 + 4 + 40 + 40 + 30 + 51 + 240 + 120 + 15 + 480 + 3 + 4 + 40 + 40 + 30 + 51 + 240 + 120 + 7 + 400 + 6 + 16 + 16 + 16 + 14 + 256)) := ls_pf (k := 0) (fs := [.ref (P.2.1 + 1), .ref (P.2.1 + 9), .ref (P.2.1 + 19), .ref (P.2.1 + 29), .null, .null, .null, .null, .int 0]) rfl (Nat.le_of_ble_eq_true rfl)
  rw [n17, ob]
  have n18 : s_nw (ls P ex (lx16 P.2.1) (sl + 8 + 128 + 128 + 128 + 128 + 128 + 384 + 128 + 15 + 480 + 3 + 4 + 40 + 40 + 30 + 51 + 240 + 120 + 15 + 480 + 3 + 4 + 40 + 40 + 30 + 51 + 240 + 120 + 7 + 400 + 6 + 16 + 16 + 16 + 14 + 256)) 0 6 [.long 0, .long 0, .long 0, .long 0, .null, .null] = ls P ex (lx17 P.2.1) (sl + 8 + 128 + 128 + 128 + 128 + 128 + 384 + 128 + 15 + 480 + 3 + 4 + 40 + 40 + 30 + 51 + 240 + 120 + 15 + 480 + 3 + 4 + 40 + 40 + 30 + 51 + 240 + 120 + 7 + 400 + 6 + 16 + 16 + 16 + 14 + 256 + 6) := ls_nw
  rw [n18, ob]
  have n19 : s_fr (ls P ex (lx17 P.2.1) (sl + 8 + 128 + 128 + 128 + 128 + 128 + 384 + 128 + 15 + 480 + 3 + 4 + 40 + 40 + 30 + 51 + 240 + 120 + 15 + 480 + 3 + 4 + 40 + 40 + 30 + 51 + 240 + 120 + 7 + 400 + 6 + 16 + 16 + 16 + 14 + 256 + 6)) P.2.1 7 0 = some (P.2.1 + 1) := ls_fr (k := 0) (fs := [.ref (P.2.1 + 1), .ref (P.2.1 + 9), .ref (P.2.1 + 19), .ref (P.2.1 + 29), .ref (P.2.1 + 31), .null, .null, .null, .int 0]) rfl rfl
  rw [n19, ob]
  have n20 : s_fr (ls P ex (lx17 P.2.1) (sl + 8 + 128 + 128 + 128 + 128 + 128 + 384 + 128 + 15 + 480 + 3 + 4 + 40 + 40 + 30 + 51 + 240 + 120 + 15 + 480 + 3 + 4 + 40 + 40 + 30 + 51 + 240 + 120 + 7 + 400 + 6 + 16 + 16 + 16 + 14 + 256 + 6)) P.2.1 7 1 = some (P.2.1 + 9) := ls_fr (k := 0) (fs := [.ref (P.2.1 + 1), .ref (P.2.1 + 9), .ref (P.2.1 + 19), .ref (P.2.1 + 29), .ref (P.2.1 + 31), .null, .null, .null, .int 0]) rfl rfl
  rw [n20, ob]
  have n21 : F_X0_init (ls P ex (lx16 P.2.1) (sl + 8 + 128 + 128 + 128 + 128 + 128 + 384 + 128 + 15 + 480 + 3 + 4 + 40 + 40 + 30 + 51 + 240 + 120 + 15 + 480 + 3 + 4 + 40 + 40 + 30 + 51 + 240 + 120 + 7 + 400 + 6 + 16 + 16 + 16 + 14 + 256)).2.1 (P.2.1 + 1) (P.2.1 + 9) (ls P ex (lx17 P.2.1) (sl + 8 + 128 + 128 + 128 + 128 + 128 + 384 + 128 + 15 + 480 + 3 + 4 + 40 + 40 + 30 + 51 + 240 + 120 + 15 + 480 + 3 + 4 + 40 + 40 + 30 + 51 + 240 + 120 + 7 + 400 + 6 + 16 + 16 + 16 + 14 + 256 + 6)) = some ((), ls P ex (lx18 P.2.1) (sl + 8 + 128 + 128 + 128 + 128 + 128 + 384 + 128 + 15 + 480 + 3 + 4 + 40 + 40 + 30 + 51 + 240 + 120 + 15 + 480 + 3 + 4 + 40 + 40 + 30 + 51 + 240 + 120 + 7 + 400 + 6 + 16 + 16 + 16 + 14 + 256 + 6)) := c_X0i (l := lx16 P.2.1) (k := 37) rfl
  rw [n21, ob]
  dsimp only
  have n22 : s_pf (ls P ex (lx18 P.2.1) (sl + 8 + 128 + 128 + 128 + 128 + 128 + 384 + 128 + 15 + 480 + 3 + 4 + 40 + 40 + 30 + 51 + 240 + 120 + 15 + 480 + 3 + 4 + 40 + 40 + 30 + 51 + 240 + 120 + 7 + 400 + 6 + 16 + 16 + 16 + 14 + 256 + 6)) P.2.1 7 5 (.ref (ls P ex (lx16 P.2.1) (sl + 8 + 128 + 128 + 128 + 128 + 128 + 384 + 128 + 15 + 480 + 3 + 4 + 40 + 40 + 30 + 51 + 240 + 120 + 15 + 480 + 3 + 4 + 40 + 40 + 30 + 51 + 240 + 120 + 7 + 400 + 6 + 16 + 16 + 16 + 14 + 256)).2.1) = some (ls P ex (lx19 P.2.1) (sl + 8 + 128 + 128 + 128 + 128 + 128 + 384 + 128 + 15 + 480 + 3 + 4 + 40 + 40 + 30 + 51 + 240 + 120 + 15 + 480 + 3 + 4 + 40 + 40 + 30 + 51 + 240 + 120 + 7 + 400 + 6 + 16 + 16 + 16 + 14 + 256 + 6)) := ls_pf (k := 0) (fs := [.ref (P.2.1 + 1), .ref (P.2.1 + 9), .ref (P.2.1 + 19), .ref (P.2.1 + 29), .ref (P.2.1 + 31), .null, .null, .null, .int 0]) rfl (Nat.le_of_ble_eq_true rfl)
  rw [n22, ob]
  have n23 : s_nw (ls P ex (lx19 P.2.1) (sl + 8 + 128 + 128 + 128 + 128 + 128 + 384 + 128 + 15 + 480 + 3 + 4 + 40 + 40 + 30 + 51 + 240 + 120 + 15 + 480 + 3 + 4 + 40 + 40 + 30 + 51 + 240 + 120 + 7 + 400 + 6 + 16 + 16 + 16 + 14 + 256 + 6)) 4 13 [.null, .null, .null, .null, .null, .null, .null, .null, .int 0, .int 0, .int 0, .int 0, .int 0] = ls P ex (lx20 P.2.1) (sl + 8 + 128 + 128 + 128 + 128 + 128 + 384 + 128 + 15 + 480 + 3 + 4 + 40 + 40 + 30 + 51 + 240 + 120 + 15 + 480 + 3 + 4 + 40 + 40 + 30 + 51 + 240 + 120 + 7 + 400 + 6 + 16 + 16 + 16 + 14 + 256 + 6 + 13) := ls_nw
  rw [n23, ob]
  have n24 : s_fr (ls P ex (lx20 P.2.1) (sl + 8 + 128 + 128 + 128 + 128 + 128 + 384 + 128 + 15 + 480 + 3 + 4 + 40 + 40 + 30 + 51 + 240 + 120 + 15 + 480 + 3 + 4 + 40 + 40 + 30 + 51 + 240 + 120 + 7 + 400 + 6 + 16 + 16 + 16 + 14 + 256 + 6 + 13)) P.2.1 7 0 = some (P.2.1 + 1) := ls_fr (k := 0) (fs := [.ref (P.2.1 + 1), .ref (P.2.1 + 9), .ref (P.2.1 + 19), .ref (P.2.1 + 29), .ref (P.2.1 + 31), .ref (P.2.1 + 37), .null, .null, .int 0]) rfl rfl
  rw [n24, ob]
  have n25 : s_fr (ls P ex (lx20 P.2.1) (sl + 8 + 128 + 128 + 128 + 128 + 128 + 384 + 128 + 15 + 480 + 3 + 4 + 40 + 40 + 30 + 51 + 240 + 120 + 15 + 480 + 3 + 4 + 40 + 40 + 30 + 51 + 240 + 120 + 7 + 400 + 6 + 16 + 16 + 16 + 14 + 256 + 6 + 13)) P.2.1 7 1 = some (P.2.1 + 9) := ls_fr (k := 0) (fs := [.ref (P.2.1 + 1), .ref (P.2.1 + 9), .ref (P.2.1 + 19), .ref (P.2.1 + 29), .ref (P.2.1 + 31), .ref (P.2.1 + 37), .null, .null, .int 0]) rfl rfl
  rw [n25, ob]
  have n26 : F_X4_init (ls P ex (lx19 P.2.1) (sl + 8 + 128 + 128 + 128 + 128 + 128 + 384 + 128 + 15 + 480 + 3 + 4 + 40 + 40 + 30 + 51 + 240 + 120 + 15 + 480 + 3 + 4 + 40 + 40 + 30 + 51 + 240 + 120 + 7 + 400 + 6 + 16 + 16 + 16 + 14 + 256 + 6)).2.1 (P.2.1 + 1) (P.2.1 + 9) (ls P ex (lx20 P.2.1) (sl + 8 + 128 + 128 + 128 + 128 + 128 + 384 + 128 + 15 + 480 + 3 + 4 + 40 + 40 + 30 + 51 + 240 + 120 + 15 + 480 + 3 + 4 + 40 + 40 + 30 + 51 + 240 + 120 + 7 + 400 + 6 + 16 + 16 + 16 + 14 + 256 + 6 + 13)) = some ((), ls P ex (lx21 P.2.1) (sl + 8 + 128 + 128 + 128 + 128 + 128 + 384 + 128 + 15 + 480 + 3 + 4 + 40 + 40 + 30 + 51 + 240 + 120 + 15 + 480 + 3 + 4 + 40 + 40 + 30 + 51 + 240 + 120 + 7 + 400 + 6 + 16 + 16 + 16 + 14 + 256 + 6 + 13 + 40 + 40 + 16 + 3 + 2800 + 320)) := c_X4i (l := lx19 P.2.1) (k := 38) rfl
  rw [n26, ob]
  dsimp only
  have n27 : s_pf (ls P ex (lx21 P.2.1) (sl + 8 + 128 + 128 + 128 + 128 + 128 + 384 + 128 + 15 + 480 + 3 + 4 + 40 + 40 + 30 + 51 + 240 + 120 + 15 + 480 + 3 + 4 + 40 + 40 + 30 + 51 + 240 + 120 + 7 + 400 + 6 + 16 + 16 + 16 + 14 + 256 + 6 + 13 + 40 + 40 + 16 + 3 + 2800 + 320)) P.2.1 7 6 (.ref (ls P ex (lx19 P.2.1) (sl + 8 + 128 + 128 + 128 + 128 + 128 + 384 + 128 + 15 + 480 + 3 + 4 + 40 + 40 + 30 + 51 + 240 + 120 + 15 + 480 + 3 + 4 + 40 + 40 + 30 + 51 + 240 + 120 + 7 + 400 + 6 + 16 + 16 + 16 + 14 + 256 + 6)).2.1) = some (ls P ex (lx22 P.2.1) (sl + 8 + 128 + 128 + 128 + 128 + 128 + 384 + 128 + 15 + 480 + 3 + 4 + 40 + 40 + 30 + 51 + 240 + 120 + 15 + 480 + 3 + 4 + 40 + 40 + 30 + 51 + 240 + 120 + 7 + 400 + 6 + 16 + 16 + 16 + 14 + 256 + 6 + 13 + 40 + 40 + 16 + 3 + 2800 + 320)) := ls_pf (k := 0) (fs := [.ref (P.2.1 + 1), .ref (P.2.1 + 9), .ref (P.2.1 + 19), .ref (P.2.1 + 29), .ref (P.2.1 + 31), .ref (P.2.1 + 37), .null, .null, .int 0]) rfl (Nat.le_of_ble_eq_true rfl)
  rw [n27, ob]
  have n28 : s_nw (ls P ex (lx22 P.2.1) (sl + 8 + 128 + 128 + 128 + 128 + 128 + 384 + 128 + 15 + 480 + 3 + 4 + 40 + 40 + 30 + 51 + 240 + 120 + 15 + 480 + 3 + 4 + 40 + 40 + 30 + 51 + 240 + 120 + 7 + 400 + 6 + 16 + 16 + 16 + 14 + 256 + 6 + 13 + 40 + 40 + 16 + 3 + 2800 + 320)) 6 2 [.null, .null] = ls P ex (lx23 P.2.1) (sl + 8 + 128 + 128 + 128 + 128 + 128 + 384 + 128 + 15 + 480 + 3 + 4 + 40 + 40 + 30 + 51 + 240 + 120 + 15 + 480 + 3 + 4 + 40 + 40 + 30 + 51 + 240 + 120 + 7 + 400 + 6 + 16 + 16 + 16 + 14 + 256 + 6 + 13 + 40 + 40 + 16 + 3 + 2800 + 320 + 2) := ls_nw
  rw [n28, ob]
  have n29 : s_fr (ls P ex (lx23 P.2.1) (sl + 8 + 128 + 128 + 128 + 128 + 128 + 384 + 128 + 15 + 480 + 3 + 4 + 40 + 40 + 30 + 51 + 240 + 120 + 15 + 480 + 3 + 4 + 40 + 40 + 30 + 51 + 240 + 120 + 7 + 400 + 6 + 16 + 16 + 16 + 14 + 256 + 6 + 13 + 40 + 40 + 16 + 3 + 2800 + 320 + 2)) P.2.1 7 1 = some (P.2.1 + 9) := ls_fr (k := 0) (fs := [.ref (P.2.1 + 1), .ref (P.2.1 + 9), .ref (P.2.1 + 19), .ref (P.2.1 + 29), .ref (P.2.1 + 31), .ref (P.2.1 + 37), .ref (P.2.1 + 38), .null, .int 0]) rfl rfl
  rw [n29, ob]
  have n30 : s_fr (ls P ex (lx23 P.2.1) (sl + 8 + 128 + 128 + 128 + 128 + 128 + 384 + 128 + 15 + 480 + 3 + 4 + 40 + 40 + 30 + 51 + 240 + 120 + 15 + 480 + 3 + 4 + 40 + 40 + 30 + 51 + 240 + 120 + 7 + 400 + 6 + 16 + 16 + 16 + 14 + 256 + 6 + 13 + 40 + 40 + 16 + 3 + 2800 + 320 + 2)) P.2.1 7 5 = some (P.2.1 + 37) := ls_fr (k := 0) (fs := [.ref (P.2.1 + 1), .ref (P.2.1 + 9), .ref (P.2.1 + 19), .ref (P.2.1 + 29), .ref (P.2.1 + 31), .ref (P.2.1 + 37), .ref (P.2.1 + 38), .null, .int 0]) rfl rfl
  rw [n30, ob]
  have n31 : F_X6_init (ls P ex (lx22 P.2.1) (sl + 8 + 128 + 128 + 128 + 128 + 128 + 384 + 128 + 15 + 480 + 3 + 4 + 40 + 40 + 30 + 51 + 240 + 120 + 15 + 480 + 3 + 4 + 40 + 40 + 30 + 51 + 240 + 120 + 7 + 400 + 6 + 16 + 16 + 16 + 14 + 256 + 6 + 13 + 40 + 40 + 16 + 3 + 2800 + 320)).2.1 (P.2.1 + 9) (P.2.1 + 37) (ls P ex (lx23 P.2.1) (sl + 8 + 128 + 128 + 128 + 128 + 128 + 384 + 128 + 15 + 480 + 3 + 4 + 40 + 40 + 30 + 51 + 240 + 120 + 15 + 480 + 3 + 4 + 40 + 40 + 30 + 51 + 240 + 120 + 7 + 400 + 6 + 16 + 16 + 16 + 14 + 256 + 6 + 13 + 40 + 40 + 16 + 3 + 2800 + 320 + 2)) = some ((), ls P ex (lx24 P.2.1) (sl + 8 + 128 + 128 + 128 + 128 + 128 + 384 + 128 + 15 + 480 + 3 + 4 + 40 + 40 + 30 + 51 + 240 + 120 + 15 + 480 + 3 + 4 + 40 + 40 + 30 + 51 + 240 + 120 + 7 + 400 + 6 + 16 + 16 + 16 + 14 + 256 + 6 + 13 + 40 + 40 + 16 + 3 + 2800 + 320 + 2)) := c_X6i (l := lx22 P.2.1) (k := 45) rfl
  rw [n31, ob]
  dsimp only
  have n32 : s_pf (ls P ex (lx24 P.2.1) (sl + 8 + 128 + 128 + 128 + 128 + 128 + 384 + 128 + 15 + 480 + 3 + 4 + 40 + 40 + 30 + 51 + 240 + 120 + 15 + 480 + 3 + 4 + 40 + 40 + 30 + 51 + 240 + 120 + 7 + 400 + 6 + 16 + 16 + 16 + 14 + 256 + 6 + 13 + 40 + 40 + 16 + 3 + 2800 + 320 + 2)) P.2.1 7 7 (.ref (ls P ex (lx22 P.2.1) (sl + 8 + 128 + 128 + 128 + 128 + 128 + 384 + 128 + 15 + 480 + 3 + 4 + 40 + 40 + 30 + 51 + 240 + 120 + 15 + 480 + 3 + 4 + 40 + 40 + 30 + 51 + 240 + 120 + 7 + 400 + 6 + 16 + 16 + 16 + 14 + 256 + 6 + 13 + 40 + 40 + 16 + 3 + 2800 + 320)).2.1) = some (ls P ex (lx25 P.2.1) (sl + 8 + 128 + 128 + 128 + 128 + 128 + 384 + 128 + 15 + 480 + 3 + 4 + 40 + 40 + 30 + 51 + 240 + 120 + 15 + 480 + 3 + 4 + 40 + 40 + 30 + 51 + 240 + 120 + 7 + 400 + 6 + 16 + 16 + 16 + 14 + 256 + 6 + 13 + 40 + 40 + 16 + 3 + 2800 + 320 + 2)) := ls_pf (k := 0) (fs := [.ref (P.2.1 + 1), .ref (P.2.1 + 9), .ref (P.2.1 + 19), .ref (P.2.1 + 29), .ref (P.2.1 + 31), .ref (P.2.1 + 37), .ref (P.2.1 + 38), .null, .int 0]) rfl (Nat.le_of_ble_eq_true rfl)
  rw [n32, ob]
theorem c_law0 {v0 v1 : Nat} : R_L_law_0 v0 v1 (ls P ex [] sl) = R_L_law_23 v0 P.2.1 (P.2.1 + 46) (P.2.1 + 72) 0 (ls P ex (lx28 P.2.1) (sl + 9 + 8 + 128 + 128 + 128 + 128 + 128 + 384 + 128 + 15 + 480 + 3 + 4 + 40 + 40 + 30 + 51 + 240 + 120 + 15 + 480 + 3 + 4 + 40 + 40 + 30 + 51 + 240 + 120 + 7 + 400 + 6 + 16 + 16 + 16 + 14 + 256 + 6 + 13 + 40 + 40 + 16 + 3 + 2800 + 320 + 2 + 39 + 1682 + 1682 + 72 + 2880 + 400 + 5 + 40 + 40 + 40 + 40 + 1024 + 1088 + 4 + 40 + 40 + 40 + 120 + 40 + 1600 + 1600 + 1600 + 1600 + 3 + 320 + 608 + 1)) := by
  have a1 : s_nw (ls P ex [] sl) 7 9 [.null, .null, .null, .null, .null, .null, .null, .null, .int 0] = ls P ex (lx1 P.2.1) (sl + 9) := ls_nw
  have a2 : F_X7_init (ls P ex [] sl).2.1 (ls P ex (lx1 P.2.1) (sl + 9)) = some ((), ls P ex (lx25 P.2.1) (sl + 9 + 8 + 128 + 128 + 128 + 128 + 128 + 384 + 128 + 15 + 480 + 3 + 4 + 40 + 40 + 30 + 51 + 240 + 120 + 15 + 480 + 3 + 4 + 40 + 40 + 30 + 51 + 240 + 120 + 7 + 400 + 6 + 16 + 16 + 16 + 14 + 256 + 6 + 13 + 40 + 40 + 16 + 3 + 2800 + 320 + 2)) := c_X7i
  rw [E_L_law_0, a1, ob, a2, ob]
  dsimp only
  have n1 : s_nw (ls P ex (lx25 P.2.1) (sl + 9 + 8 + 128 + 128 + 128 + 128 + 128 + 384 + 128 + 15 + 480 + 3 + 4 + 40 + 40 + 30 + 51 + 240 + 120 + 15 + 480 + 3 + 4 + 40 + 40 + 30 + 51 + 240 + 120 + 7 + 400 + 6 + 16 + 16 + 16 + 14 + 256 + 6 + 13 + 40 + 40 + 16 + 3 + 2800 + 320 + 2)) 8 39 [.int 0, .null, .null, .int 0, .null, .null, .null, .int 0, .int 0, .int 0, .int 0, .int 0, .int 0, .int 0, .int 0, .null, .null, .null, .null, .null, .null, .null, .null, .null, .null, .null, .null, .null, .null, .null, .null, .null, .null, .int 0, .int 0, .int 0, .null, .null, .int 0] = ls P ex (lx26 P.2.1) (sl + 9 + 8 + 128 + 128 + 128 + 128 + 128 + 384 + 128 + 15 + 480 + 3 + 4 + 40 + 40 + 30 + 51 + 240 + 120 + 15 + 480 + 3 + 4 + 40 + 40 + 30 + 51 + 240 + 120 + 7 + 400 + 6 + 16 + 16 + 16 + 14 + 256 + 6 + 13 + 40 + 40 + 16 + 3 + 2800 + 320 + 2 + 39) := ls_nw
  rw [n1, ob]
  have n2 : F_X8_init (ls P ex (lx25 P.2.1) (sl + 9 + 8 + 128 + 128 + 128 + 128 + 128 + 384 + 128 + 15 + 480 + 3 + 4 + 40 + 40 + 30 + 51 + 240 + 120 + 15 + 480 + 3 + 4 + 40 + 40 + 30 + 51 + 240 + 120 + 7 + 400 + 6 + 16 + 16 + 16 + 14 + 256 + 6 + 13 + 40 + 40 + 16 + 3 + 2800 + 320 + 2)).2.1 (ls P ex (lx26 P.2.1) (sl + 9 + 8 + 128 + 128 + 128 + 128 + 128 + 384 + 128 + 15 + 480 + 3 + 4 + 40 + 40 + 30 + 51 + 240 + 120 + 15 + 480 + 3 + 4 + 40 + 40 + 30 + 51 + 240 + 120 + 7 + 400 + 6 + 16 + 16 + 16 + 14 + 256 + 6 + 13 + 40 + 40 + 16 + 3 + 2800 + 320 + 2 + 39)) = some ((), ls P ex (lx27 P.2.1) (sl + 9 + 8 + 128 + 128 + 128 + 128 + 128 + 384 + 128 + 15 + 480 + 3 + 4 + 40 + 40 + 30 + 51 + 240 + 120 + 15 + 480 + 3 + 4 + 40 + 40 + 30 + 51 + 240 + 120 + 7 + 400 + 6 + 16 + 16 + 16 + 14 + 256 + 6 + 13 + 40 + 40 + 16 + 3 + 2800 + 320 + 2 + 39 + 1682 + 1682 + 72 + 2880 + 400 + 5 + 40 + 40 + 40 + 40 + 1024 + 1088 + 4 + 40 + 40 + 40 + 120 + 40 + 1600 + 1600 + 1600 + 1600 + 3 + 320 + 608)) := c_X8i (l := lx25 P.2.1) (k := 46) rfl
  rw [n2, ob]
  dsimp only
  have n9 : s_na (ls P ex (lx27 P.2.1) (sl + 9 + 8 + 128 + 128 + 128 + 128 + 128 + 384 + 128 + 15 + 480 + 3 + 4 + 40 + 40 + 30 + 51 + 240 + 120 + 15 + 480 + 3 + 4 + 40 + 40 + 30 + 51 + 240 + 120 + 7 + 400 + 6 + 16 + 16 + 16 + 14 + 256 + 6 + 13 + 40 + 40 + 16 + 3 + 2800 + 320 + 2 + 39 + 1682 + 1682 + 72 + 2880 + 400 + 5 + 40 + 40 + 40 + 40 + 1024 + 1088 + 4 + 40 + 40 + 40 + 120 + 40 + 1600 + 1600 + 1600 + 1600 + 3 + 320 + 608)) 1 1 = some (ls P ex (lx28 P.2.1) (sl + 9 + 8 + 128 + 128 + 128 + 128 + 128 + 384 + 128 + 15 + 480 + 3 + 4 + 40 + 40 + 30 + 51 + 240 + 120 + 15 + 480 + 3 + 4 + 40 + 40 + 30 + 51 + 240 + 120 + 7 + 400 + 6 + 16 + 16 + 16 + 14 + 256 + 6 + 13 + 40 + 40 + 16 + 3 + 2800 + 320 + 2 + 39 + 1682 + 1682 + 72 + 2880 + 400 + 5 + 40 + 40 + 40 + 40 + 1024 + 1088 + 4 + 40 + 40 + 40 + 120 + 40 + 1600 + 1600 + 1600 + 1600 + 3 + 320 + 608 + 1)) := ls_na rfl (by decide)
  rw [n9, ob]
  rfl
def w0I : Nat → Nat → Int32 := fun k j => if k = 9 ∧ j = 0 then 2 else if k = 19 ∧ j = 0 then 2 else if k = 29 ∧ j = 1 then -1 else if k = 46 ∧ j = 13 then -1 else 0
def w0A : Nat → Nat → Int32 := fun k => if k = 8 then fiF (fun _ => 0) (-1) 128 else if k = 11 then ruF 3 else if k = 16 then prF 51 else if k = 21 then ruF 3 else if k = 26 then prF 51 else if k = 47 then moF 58 else fun _ => 0
def w0 : sW := (w0I, fun _ _ => 0, w0A, fun _ _ => 0, 128, 0)
theorem hp_w0c : ∀ k, k < 73 → (lx28 P.2.1)[k]? = if 2 ≤ k ∧ k < 8 then some (w_fc w0 (k - 2)) else w_cl P w0 k := by
  intro k hk
  match k, hk with
  | 0, _ => rfl
  | 1, _ => rfl
  | 2, _ => rfl
  | 3, _ => rfl
  | 4, _ => rfl
  | 5, _ => rfl
  | 6, _ => rfl
  | 7, _ => rfl
  | 8, _ => rfl
  | 9, _ => rfl
  | 10, _ => rfl
  | 11, _ => rfl
  | 12, _ => rfl
  | 13, _ => rfl
  | 14, _ => rfl
  | 15, _ => rfl
  | 16, _ => rfl
  | 17, _ => rfl
  | 18, _ => rfl
  | 19, _ => rfl
  | 20, _ => rfl
  | 21, _ => rfl
  | 22, _ => rfl
  | 23, _ => rfl
  | 24, _ => rfl
  | 25, _ => rfl
  | 26, _ => rfl
  | 27, _ => rfl
  | 28, _ => rfl
  | 29, _ => rfl
  | 30, _ => rfl
  | 31, _ => rfl
  | 32, _ => rfl
  | 33, _ => rfl
  | 34, _ => rfl
  | 35, _ => rfl
  | 36, _ => rfl
  | 37, _ => rfl
  | 38, _ => rfl
  | 39, _ => rfl
  | 40, _ => rfl
  | 41, _ => rfl
  | 42, _ => rfl
  | 43, _ => rfl
  | 44, _ => rfl
  | 45, _ => rfl
  | 46, _ => rfl
  | 47, _ => rfl
  | 48, _ => rfl
  | 49, _ => rfl
  | 50, _ => rfl
  | 51, _ => rfl
  | 52, _ => rfl
  | 53, _ => rfl
  | 54, _ => rfl
  | 55, _ => rfl
  | 56, _ => rfl
  | 57, _ => rfl
  | 58, _ => rfl
  | 59, _ => rfl
  | 60, _ => rfl
  | 61, _ => rfl
  | 62, _ => rfl
  | 63, _ => rfl
  | 64, _ => rfl
  | 65, _ => rfl
  | 66, _ => rfl
  | 67, _ => rfl
  | 68, _ => rfl
  | 69, _ => rfl
  | 70, _ => rfl
  | 71, _ => rfl
  | 72, _ => rfl
  | k + 73, h => exact absurd h (by omega)
theorem hp_w0 : ls P ex (lx28 P.2.1) sl = hp P w0 ex (P.2.1 + 73) sl := by
  have hl : (lx28 P.2.1).length = 73 := rfl
  unfold ls hp
  rw [hl]
  refine Prod.ext (funext fun a => ?_) rfl
  dsimp only
  have hf : w_fa P w0 = P.2.1 + 2 := rfl
  rw [hf]
  by_cases g1 : a < P.2.1
  · rw [if_pos g1, if_pos g1]
  rw [if_neg g1, if_neg g1]
  by_cases g2 : a < P.2.1 + 73
  · rw [if_pos g2, hp_w0c _ (by omega)]
    by_cases g3 : P.2.1 + 2 ≤ a ∧ a < P.2.1 + 2 + 6
    · rw [if_pos g3, if_pos (by omega), show a - P.2.1 - 2 = a - (P.2.1 + 2) by omega]
    · rw [if_neg g3, if_neg (by omega), if_neg (by omega)]
  · rw [if_neg g2, if_neg (by omega), if_pos (by omega)]

theorem sl_sum : sl + 9 + 8 + 128 + 128 + 128 + 128 + 128 + 384 + 128 + 15 + 480 + 3 + 4 + 40 + 40 + 30 + 51 + 240 + 120 + 15 + 480 + 3 + 4 + 40 + 40 + 30 + 51 + 240 + 120 + 7 + 400 + 6 + 16 + 16 + 16 + 14 + 256 + 6 + 13 + 40 + 40 + 16 + 3 + 2800 + 320 + 2 + 39 + 1682 + 1682 + 72 + 2880 + 400 + 5 + 40 + 40 + 40 + 40 + 1024 + 1088 + 4 + 40 + 40 + 40 + 120 + 40 + 1600 + 1600 + 1600 + 1600 + 3 + 320 + 608 + 1 = sl + 23834 := by simp only [Nat.add_assoc, Nat.reduceAdd]
set_option maxRecDepth 100000 in
theorem c_law1 {v0 v1 : Nat} : R_L_law_0 v0 v1 (ls P ex [] sl) = R_L_law_23 v0 P.2.1 (P.2.1 + 46) (P.2.1 + 72) (mI 0) (hp P w0 ex (P.2.1 + 73) (sl + 23834)) := by
  have e2 : (0 : Int32) = mI 0 := rfl
  rw [c_law0, sl_sum, hp_w0]
  exact congrArg (fun z => R_L_law_23 v0 P.2.1 (P.2.1 + 46) (P.2.1 + 72) z (hp P w0 ex (P.2.1 + 73) (sl + 23834))) e2
/-- the start: class and model show one state -/
theorem iv_0 {S0 : Nat} : IV P S0 0 w0 (P.2.1 + 73) S0 := by
  have hz : ∀ {q : Nat} {p : Prop}, q < 0 → p := fun {q} {p} h => absurd h (Nat.not_lt_zero q)
  have h1 : ∀ h, h < 3 → ruF 3 h = moF 58 (4 + 18 * h) := by decide +kernel
  have h2 : ∀ h, h < 3 → ∀ r, r < 17 → prF 51 (h * 17 + r) = mI (if r = 16 then 1 else 10) ∧ moF 58 (4 + 18 * h + 1 + r) = mI (if r = 16 then 1 else 10) := by decide +kernel
  have h3 : ∀ u, u < 4 → (0 : Int32) = moF 58 (58 + u) := by decide +kernel
  have h4 : ∀ i, i < 32 → bt (0 : Int32) i = false := by decide +kernel
  refine ⟨2, 0, 0, 0, 0, (fun _ => 0, fun _ => 0, fun _ => 0, fun _ _ => none), fun _ => [], fun _ => 0, (fun _ => 0, fun _ => 0, fun _ => 0, fun _ => 0, fun _ => False), fun _ => [], ⟨⟨⟨by decide, by decide, by decide, by decide, by decide, by decide⟩, ⟨rfl, rfl, rfl, rfl, rfl⟩, rfl, rfl, rfl, rfl⟩, ⟨fun l hl => hz hl, fun l hl => hz hl, fun l hl => hz hl, fun l hl => hz hl, fun l hl => hz hl⟩, ⟨fun l hl => hz hl, fun l hl => hz hl, fun l hl => hz hl⟩, ⟨⟨by decide, fun l hl => hz hl⟩, fun l hl => hz hl, fun i hi => ⟨fun z => ?_, fun z => hz z.1⟩, fun l hl => hz hl⟩, h1, fun h hh r hr => ⟨if r = 16 then 1 else 10, ?_, ?_, (h2 h hh r hr).1, (h2 h hh r hr).2⟩, h3⟩, ⟨⟨rfl, Nat.zero_le _, by decide, fun i hi => hz hi, fun i j hi => hz hi⟩, ⟨fun b hb => ?_, fun i hi => hz hi⟩, 0, rfl, rfl, ?_, ?_⟩, fun f hf => hz hf, fun f hf => hz hf, ⟨0, fun _ => 0, by decide, rfl, rfl, fun i hi => hz hi⟩, rfl, Or.inl ⟨rfl, rfl⟩⟩
  · have := h4 i hi
    exact absurd (this.symm.trans z) (by decide)
  · split <;> decide
  · intro hr16
    rw [if_pos hr16]
    decide
  · show fiF (fun _ => 0) (-1) 128 b = -1
    exact if_pos hb
  · rfl
  · show P.2.1 + 2 + 6 ≤ P.2.1 + 73
    omega
end CTR
