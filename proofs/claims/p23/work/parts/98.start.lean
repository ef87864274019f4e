-- ===== the start: the cells that the constructors made are the picture =====
def zst4 (u : zYf) : Nat → zYs
  | 0 => u.1
  | 1 => u.2.1
  | n + 2 => u.2.2.1.2.2 n
def zbl4 (u : zYf) (n : Nat) : zYb := match n % 2 with
  | 0 => (zst4 u (n / 2)).2.2.1
  | _ => (zst4 u (n / 2)).2.2.2
def zad0 (qf : Nat) (u : zYf) (d : Nat → Nat) (t b : Nat) (c n : Nat) : Nat := match c with
  | 0 => (zbl4 u n).1
  | 1 => (zbl4 u (n / 4)).2 (n % 4)
  | 2 => u.2.2.1.1
  | 3 => u.2.2.2.2.1
  | 4 => (zst4 u n).1
  | 5 => u.2.2.2.1.1
  | 6 => (zst4 u n).2.1.1
  | 7 => qf
  | 20 => (zst4 u n).2.1.2 0
  | 21 => (zst4 u n).2.1.2 1
  | 22 => (zst4 u n).2.1.2 2
  | 23 => (zst4 u n).2.1.2 3
  | 24 => (zst4 u n).2.1.2 4
  | 25 => (zbl4 u n).2 4
  | 26 => u.2.2.2.1.2
  | 27 => u.2.2.2.2.2
  | 28 => u.2.2.1.2.1
  | 29 => d 0
  | 30 => d 1
  | 31 => d 2
  | 32 => d 3
  | 33 => d 4
  | 34 => d 5
  | 35 => d 6
  | 40 => t
  | 41 => b
  | _ => 0
def zr0 : Nat → Option Nat := fun i => if i < 5 then some (i + 2) else none
def zw24 : Nat → Int32
  | 0 => 24
  | _ => 16
def zM0 (L : Nat) (xs : Nat → Int32) : zM := (fun c n i => match c with
  | 0 => (match i with
    | 0 => zw24 (n % 2)
    | _ => 0)
  | 4 => (match i with
    | 3 => 2
    | 4 => 20
    | _ => 0)
  | 40 => zlet i
  | 41 => xs i
  | 42 => Int32.ofNat L
  | _ => 0, fun _ _ _ => 0, zr0)
def zG0 (D : va_G) (k : zQu) (qf : Nat) (u : zYf) (d : Nat → Nat) (t b L : Nat) (xs : Nat → Int32) : zG := (D, zad0 qf u d t b, k, L, xs, false, 0)
theorem zhf_eq (a : Nat → Nat) : zhf (fun j => a (j + 2)) = fun i => (zr0 i).map (fun q => a q) := by
  funext i
  have e0 : Int32.toNatClampNeg 0 = 0 := by decide
  have e1 : Int32.toNatClampNeg 1 = 1 := by decide
  have e2 : Int32.toNatClampNeg 2 = 2 := by decide
  have e3 : Int32.toNatClampNeg 3 = 3 := by decide
  have e4 : Int32.toNatClampNeg 4 = 4 := by decide
  simp only [zhf, va_up, zr0, e0, e1, e2, e3, e4]
  by_cases h : i < 5
  · rcases (show i = 0 ∨ i = 1 ∨ i = 2 ∨ i = 3 ∨ i = 4 by omega) with rfl | rfl | rfl | rfl | rfl <;> rfl
  · rw [if_neg (by omega), if_neg (by omega), if_neg (by omega), if_neg (by omega), if_neg (by omega), if_neg h]
    rfl
def zpos (c n : Nat) : Nat := match c with
  | 0 => ([8, 14, 27, 33, 48, 54, 67, 73, 86, 92, 105, 111, 124, 130] : List Nat).getD n 0
  | 1 => ([9, 10, 11, 12, 15, 16, 17, 18, 28, 29, 30, 31, 34, 35, 36, 37, 49, 50, 51, 52, 55, 56, 57, 58, 68, 69, 70, 71, 74, 75, 76, 77, 87, 88, 89, 90, 93, 94, 95, 96, 106, 107, 108, 109, 112, 113, 114, 115, 125, 126, 127, 128, 131, 132, 133, 134] : List Nat).getD n 0
  | 2 => ([39] : List Nat).getD n 0
  | 3 => ([138] : List Nat).getD n 0
  | 4 => ([1, 20, 41, 60, 79, 98, 117] : List Nat).getD n 0
  | 5 => ([136] : List Nat).getD n 0
  | 6 => ([2, 21, 42, 61, 80, 99, 118] : List Nat).getD n 0
  | 7 => ([0] : List Nat).getD n 0
  | 20 => ([3, 22, 43, 62, 81, 100, 119] : List Nat).getD n 0
  | 21 => ([4, 23, 44, 63, 82, 101, 120] : List Nat).getD n 0
  | 22 => ([5, 24, 45, 64, 83, 102, 121] : List Nat).getD n 0
  | 23 => ([6, 25, 46, 65, 84, 103, 122] : List Nat).getD n 0
  | 24 => ([7, 26, 47, 66, 85, 104, 123] : List Nat).getD n 0
  | 25 => ([13, 19, 32, 38, 53, 59, 72, 78, 91, 97, 110, 116, 129, 135] : List Nat).getD n 0
  | 26 => ([137] : List Nat).getD n 0
  | 27 => ([139] : List Nat).getD n 0
  | 28 => ([40] : List Nat).getD n 0
  | 29 => ([140] : List Nat).getD n 0
  | 30 => ([141] : List Nat).getD n 0
  | 31 => ([142] : List Nat).getD n 0
  | 32 => ([143] : List Nat).getD n 0
  | 33 => ([144] : List Nat).getD n 0
  | 34 => ([145] : List Nat).getD n 0
  | 35 => ([146] : List Nat).getD n 0
  | _ => 0
def zAm {α : Type} (P : α → Prop) : List α → Prop
  | [] => True
  | a :: t => P a ∧ zAm P t
theorem zAm_mem {α : Type} {P : α → Prop} : ∀ {l : List α}, zAm P l → ∀ q ∈ l, P q
  | [], _, q, h => by cases h
  | a :: t, h, q, hq => (List.mem_cons.mp hq).elim (fun e => e ▸ h.1) (fun hq => zAm_mem h.2 q hq)
theorem zobjs_lit : zobjs false = [(0, 0), (0, 1), (0, 2), (0, 3), (0, 4), (0, 5), (0, 6), (0, 7), (0, 8), (0, 9), (0, 10), (0, 11), (0, 12), (0, 13), (1, 0), (1, 1), (1, 2), (1, 3), (1, 4), (1, 5), (1, 6), (1, 7), (1, 8), (1, 9), (1, 10), (1, 11), (1, 12), (1, 13), (1, 14), (1, 15), (1, 16), (1, 17), (1, 18), (1, 19), (1, 20), (1, 21), (1, 22), (1, 23), (1, 24), (1, 25), (1, 26), (1, 27), (1, 28), (1, 29), (1, 30), (1, 31), (1, 32), (1, 33), (1, 34), (1, 35), (1, 36), (1, 37), (1, 38), (1, 39), (1, 40), (1, 41), (1, 42), (1, 43), (1, 44), (1, 45), (1, 46), (1, 47), (1, 48), (1, 49), (1, 50), (1, 51), (1, 52), (1, 53), (1, 54), (1, 55), (2, 0), (3, 0), (4, 0), (4, 1), (4, 2), (4, 3), (4, 4), (4, 5), (4, 6), (5, 0), (6, 0), (6, 1), (6, 2), (6, 3), (6, 4), (6, 5), (6, 6), (7, 0), (20, 0), (20, 1), (20, 2), (20, 3), (20, 4), (20, 5), (20, 6), (21, 0), (21, 1), (21, 2), (21, 3), (21, 4), (21, 5), (21, 6), (22, 0), (22, 1), (22, 2), (22, 3), (22, 4), (22, 5), (22, 6), (23, 0), (23, 1), (23, 2), (23, 3), (23, 4), (23, 5), (23, 6), (24, 0), (24, 1), (24, 2), (24, 3), (24, 4), (24, 5), (24, 6), (25, 0), (25, 1), (25, 2), (25, 3), (25, 4), (25, 5), (25, 6), (25, 7), (25, 8), (25, 9), (25, 10), (25, 11), (25, 12), (25, 13), (26, 0), (27, 0), (28, 0), (29, 0), (30, 0), (31, 0), (32, 0), (33, 0), (34, 0), (35, 0)] := by decide +kernel
def zLit (k : zQu) (qf : Nat) (u : zYf) (d : Nat → Nat) : va_W := [(qf, .inr (7, [.ref u.1.1, .ref u.2.1.1, .ref u.2.2.1.1, .ref u.2.2.2.1.1, .ref u.2.2.2.2.1, .int 0, .int 0, .int 0])),
  (u.1.1, .inr (4, [.ref u.1.2.1.1, .ref u.1.2.2.1.1, .ref u.1.2.2.2.1, .int 2, .int 20, .int 0, .int 0, .int 0])),
  (u.1.2.1.1, .inr (6, [.int 0, .ref (u.1.2.1.2 0), .ref (u.1.2.1.2 1), .ref (u.1.2.1.2 2), .ref (u.1.2.1.2 3), .ref (u.1.2.1.2 4)])),
  (u.1.2.1.2 0, .inl (k.1, 10, .inl (fun _ => 0))),
  (u.1.2.1.2 1, .inl (k.1, 10, .inl (fun _ => 0))),
  (u.1.2.1.2 2, .inl (k.1, 10, .inl (fun _ => 0))),
  (u.1.2.1.2 3, .inl (k.2.1, 220, .inr (.inl (fun _ => 0)))),
  (u.1.2.1.2 4, .inl (k.2.1, 220, .inr (.inl (fun _ => 0)))),
  (u.1.2.2.1.1, .inr (0, [.int 24, .ref (u.1.2.2.1.2 0), .ref (u.1.2.2.1.2 1), .ref (u.1.2.2.1.2 2), .ref (u.1.2.2.1.2 3), .ref (u.1.2.2.1.2 4), .int 0])),
  (u.1.2.2.1.2 0, .inr (1, [.long 0, .long 0])),
  (u.1.2.2.1.2 1, .inr (1, [.long 0, .long 0])),
  (u.1.2.2.1.2 2, .inr (1, [.long 0, .long 0])),
  (u.1.2.2.1.2 3, .inr (1, [.long 0, .long 0])),
  (u.1.2.2.1.2 4, .inl (k.1, 120, .inl (fun _ => 0))),
  (u.1.2.2.2.1, .inr (0, [.int 16, .ref (u.1.2.2.2.2 0), .ref (u.1.2.2.2.2 1), .ref (u.1.2.2.2.2 2), .ref (u.1.2.2.2.2 3), .ref (u.1.2.2.2.2 4), .int 0])),
  (u.1.2.2.2.2 0, .inr (1, [.long 0, .long 0])),
  (u.1.2.2.2.2 1, .inr (1, [.long 0, .long 0])),
  (u.1.2.2.2.2 2, .inr (1, [.long 0, .long 0])),
  (u.1.2.2.2.2 3, .inr (1, [.long 0, .long 0])),
  (u.1.2.2.2.2 4, .inl (k.1, 120, .inl (fun _ => 0))),
  (u.2.1.1, .inr (4, [.ref u.2.1.2.1.1, .ref u.2.1.2.2.1.1, .ref u.2.1.2.2.2.1, .int 2, .int 20, .int 0, .int 0, .int 0])),
  (u.2.1.2.1.1, .inr (6, [.int 0, .ref (u.2.1.2.1.2 0), .ref (u.2.1.2.1.2 1), .ref (u.2.1.2.1.2 2), .ref (u.2.1.2.1.2 3), .ref (u.2.1.2.1.2 4)])),
  (u.2.1.2.1.2 0, .inl (k.1, 10, .inl (fun _ => 0))),
  (u.2.1.2.1.2 1, .inl (k.1, 10, .inl (fun _ => 0))),
  (u.2.1.2.1.2 2, .inl (k.1, 10, .inl (fun _ => 0))),
  (u.2.1.2.1.2 3, .inl (k.2.1, 220, .inr (.inl (fun _ => 0)))),
  (u.2.1.2.1.2 4, .inl (k.2.1, 220, .inr (.inl (fun _ => 0)))),
  (u.2.1.2.2.1.1, .inr (0, [.int 24, .ref (u.2.1.2.2.1.2 0), .ref (u.2.1.2.2.1.2 1), .ref (u.2.1.2.2.1.2 2), .ref (u.2.1.2.2.1.2 3), .ref (u.2.1.2.2.1.2 4), .int 0])),
  (u.2.1.2.2.1.2 0, .inr (1, [.long 0, .long 0])),
  (u.2.1.2.2.1.2 1, .inr (1, [.long 0, .long 0])),
  (u.2.1.2.2.1.2 2, .inr (1, [.long 0, .long 0])),
  (u.2.1.2.2.1.2 3, .inr (1, [.long 0, .long 0])),
  (u.2.1.2.2.1.2 4, .inl (k.1, 120, .inl (fun _ => 0))),
  (u.2.1.2.2.2.1, .inr (0, [.int 16, .ref (u.2.1.2.2.2.2 0), .ref (u.2.1.2.2.2.2 1), .ref (u.2.1.2.2.2.2 2), .ref (u.2.1.2.2.2.2 3), .ref (u.2.1.2.2.2.2 4), .int 0])),
  (u.2.1.2.2.2.2 0, .inr (1, [.long 0, .long 0])),
  (u.2.1.2.2.2.2 1, .inr (1, [.long 0, .long 0])),
  (u.2.1.2.2.2.2 2, .inr (1, [.long 0, .long 0])),
  (u.2.1.2.2.2.2 3, .inr (1, [.long 0, .long 0])),
  (u.2.1.2.2.2.2 4, .inl (k.1, 120, .inl (fun _ => 0))),
  (u.2.2.1.1, .inr (2, [.ref u.2.2.1.2.1, .int 0])),
  (u.2.2.1.2.1, .inl (k.2.2.2, 5, .inr (.inr (.inr (.inr (zhf (fun j => (u.2.2.1.2.2 j).1))))))),
  ((u.2.2.1.2.2 0).1, .inr (4, [.ref (u.2.2.1.2.2 0).2.1.1, .ref (u.2.2.1.2.2 0).2.2.1.1, .ref (u.2.2.1.2.2 0).2.2.2.1, .int 2, .int 20, .int 0, .int 0, .int 0])),
  ((u.2.2.1.2.2 0).2.1.1, .inr (6, [.int 0, .ref ((u.2.2.1.2.2 0).2.1.2 0), .ref ((u.2.2.1.2.2 0).2.1.2 1), .ref ((u.2.2.1.2.2 0).2.1.2 2), .ref ((u.2.2.1.2.2 0).2.1.2 3), .ref ((u.2.2.1.2.2 0).2.1.2 4)])),
  ((u.2.2.1.2.2 0).2.1.2 0, .inl (k.1, 10, .inl (fun _ => 0))),
  ((u.2.2.1.2.2 0).2.1.2 1, .inl (k.1, 10, .inl (fun _ => 0))),
  ((u.2.2.1.2.2 0).2.1.2 2, .inl (k.1, 10, .inl (fun _ => 0))),
  ((u.2.2.1.2.2 0).2.1.2 3, .inl (k.2.1, 220, .inr (.inl (fun _ => 0)))),
  ((u.2.2.1.2.2 0).2.1.2 4, .inl (k.2.1, 220, .inr (.inl (fun _ => 0)))),
  ((u.2.2.1.2.2 0).2.2.1.1, .inr (0, [.int 24, .ref ((u.2.2.1.2.2 0).2.2.1.2 0), .ref ((u.2.2.1.2.2 0).2.2.1.2 1), .ref ((u.2.2.1.2.2 0).2.2.1.2 2), .ref ((u.2.2.1.2.2 0).2.2.1.2 3), .ref ((u.2.2.1.2.2 0).2.2.1.2 4), .int 0])),
  ((u.2.2.1.2.2 0).2.2.1.2 0, .inr (1, [.long 0, .long 0])),
  ((u.2.2.1.2.2 0).2.2.1.2 1, .inr (1, [.long 0, .long 0])),
  ((u.2.2.1.2.2 0).2.2.1.2 2, .inr (1, [.long 0, .long 0])),
  ((u.2.2.1.2.2 0).2.2.1.2 3, .inr (1, [.long 0, .long 0])),
  ((u.2.2.1.2.2 0).2.2.1.2 4, .inl (k.1, 120, .inl (fun _ => 0))),
  ((u.2.2.1.2.2 0).2.2.2.1, .inr (0, [.int 16, .ref ((u.2.2.1.2.2 0).2.2.2.2 0), .ref ((u.2.2.1.2.2 0).2.2.2.2 1), .ref ((u.2.2.1.2.2 0).2.2.2.2 2), .ref ((u.2.2.1.2.2 0).2.2.2.2 3), .ref ((u.2.2.1.2.2 0).2.2.2.2 4), .int 0])),
  ((u.2.2.1.2.2 0).2.2.2.2 0, .inr (1, [.long 0, .long 0])),
  ((u.2.2.1.2.2 0).2.2.2.2 1, .inr (1, [.long 0, .long 0])),
  ((u.2.2.1.2.2 0).2.2.2.2 2, .inr (1, [.long 0, .long 0])),
  ((u.2.2.1.2.2 0).2.2.2.2 3, .inr (1, [.long 0, .long 0])),
  ((u.2.2.1.2.2 0).2.2.2.2 4, .inl (k.1, 120, .inl (fun _ => 0))),
  ((u.2.2.1.2.2 1).1, .inr (4, [.ref (u.2.2.1.2.2 1).2.1.1, .ref (u.2.2.1.2.2 1).2.2.1.1, .ref (u.2.2.1.2.2 1).2.2.2.1, .int 2, .int 20, .int 0, .int 0, .int 0])),
  ((u.2.2.1.2.2 1).2.1.1, .inr (6, [.int 0, .ref ((u.2.2.1.2.2 1).2.1.2 0), .ref ((u.2.2.1.2.2 1).2.1.2 1), .ref ((u.2.2.1.2.2 1).2.1.2 2), .ref ((u.2.2.1.2.2 1).2.1.2 3), .ref ((u.2.2.1.2.2 1).2.1.2 4)])),
  ((u.2.2.1.2.2 1).2.1.2 0, .inl (k.1, 10, .inl (fun _ => 0))),
  ((u.2.2.1.2.2 1).2.1.2 1, .inl (k.1, 10, .inl (fun _ => 0))),
  ((u.2.2.1.2.2 1).2.1.2 2, .inl (k.1, 10, .inl (fun _ => 0))),
  ((u.2.2.1.2.2 1).2.1.2 3, .inl (k.2.1, 220, .inr (.inl (fun _ => 0)))),
  ((u.2.2.1.2.2 1).2.1.2 4, .inl (k.2.1, 220, .inr (.inl (fun _ => 0)))),
  ((u.2.2.1.2.2 1).2.2.1.1, .inr (0, [.int 24, .ref ((u.2.2.1.2.2 1).2.2.1.2 0), .ref ((u.2.2.1.2.2 1).2.2.1.2 1), .ref ((u.2.2.1.2.2 1).2.2.1.2 2), .ref ((u.2.2.1.2.2 1).2.2.1.2 3), .ref ((u.2.2.1.2.2 1).2.2.1.2 4), .int 0])),
  ((u.2.2.1.2.2 1).2.2.1.2 0, .inr (1, [.long 0, .long 0])),
  ((u.2.2.1.2.2 1).2.2.1.2 1, .inr (1, [.long 0, .long 0])),
  ((u.2.2.1.2.2 1).2.2.1.2 2, .inr (1, [.long 0, .long 0])),
  ((u.2.2.1.2.2 1).2.2.1.2 3, .inr (1, [.long 0, .long 0])),
  ((u.2.2.1.2.2 1).2.2.1.2 4, .inl (k.1, 120, .inl (fun _ => 0))),
  ((u.2.2.1.2.2 1).2.2.2.1, .inr (0, [.int 16, .ref ((u.2.2.1.2.2 1).2.2.2.2 0), .ref ((u.2.2.1.2.2 1).2.2.2.2 1), .ref ((u.2.2.1.2.2 1).2.2.2.2 2), .ref ((u.2.2.1.2.2 1).2.2.2.2 3), .ref ((u.2.2.1.2.2 1).2.2.2.2 4), .int 0])),
  ((u.2.2.1.2.2 1).2.2.2.2 0, .inr (1, [.long 0, .long 0])),
  ((u.2.2.1.2.2 1).2.2.2.2 1, .inr (1, [.long 0, .long 0])),
  ((u.2.2.1.2.2 1).2.2.2.2 2, .inr (1, [.long 0, .long 0])),
  ((u.2.2.1.2.2 1).2.2.2.2 3, .inr (1, [.long 0, .long 0])),
  ((u.2.2.1.2.2 1).2.2.2.2 4, .inl (k.1, 120, .inl (fun _ => 0))),
  ((u.2.2.1.2.2 2).1, .inr (4, [.ref (u.2.2.1.2.2 2).2.1.1, .ref (u.2.2.1.2.2 2).2.2.1.1, .ref (u.2.2.1.2.2 2).2.2.2.1, .int 2, .int 20, .int 0, .int 0, .int 0])),
  ((u.2.2.1.2.2 2).2.1.1, .inr (6, [.int 0, .ref ((u.2.2.1.2.2 2).2.1.2 0), .ref ((u.2.2.1.2.2 2).2.1.2 1), .ref ((u.2.2.1.2.2 2).2.1.2 2), .ref ((u.2.2.1.2.2 2).2.1.2 3), .ref ((u.2.2.1.2.2 2).2.1.2 4)])),
  ((u.2.2.1.2.2 2).2.1.2 0, .inl (k.1, 10, .inl (fun _ => 0))),
  ((u.2.2.1.2.2 2).2.1.2 1, .inl (k.1, 10, .inl (fun _ => 0))),
  ((u.2.2.1.2.2 2).2.1.2 2, .inl (k.1, 10, .inl (fun _ => 0))),
  ((u.2.2.1.2.2 2).2.1.2 3, .inl (k.2.1, 220, .inr (.inl (fun _ => 0)))),
  ((u.2.2.1.2.2 2).2.1.2 4, .inl (k.2.1, 220, .inr (.inl (fun _ => 0)))),
  ((u.2.2.1.2.2 2).2.2.1.1, .inr (0, [.int 24, .ref ((u.2.2.1.2.2 2).2.2.1.2 0), .ref ((u.2.2.1.2.2 2).2.2.1.2 1), .ref ((u.2.2.1.2.2 2).2.2.1.2 2), .ref ((u.2.2.1.2.2 2).2.2.1.2 3), .ref ((u.2.2.1.2.2 2).2.2.1.2 4), .int 0])),
  ((u.2.2.1.2.2 2).2.2.1.2 0, .inr (1, [.long 0, .long 0])),
  ((u.2.2.1.2.2 2).2.2.1.2 1, .inr (1, [.long 0, .long 0])),
  ((u.2.2.1.2.2 2).2.2.1.2 2, .inr (1, [.long 0, .long 0])),
  ((u.2.2.1.2.2 2).2.2.1.2 3, .inr (1, [.long 0, .long 0])),
  ((u.2.2.1.2.2 2).2.2.1.2 4, .inl (k.1, 120, .inl (fun _ => 0))),
  ((u.2.2.1.2.2 2).2.2.2.1, .inr (0, [.int 16, .ref ((u.2.2.1.2.2 2).2.2.2.2 0), .ref ((u.2.2.1.2.2 2).2.2.2.2 1), .ref ((u.2.2.1.2.2 2).2.2.2.2 2), .ref ((u.2.2.1.2.2 2).2.2.2.2 3), .ref ((u.2.2.1.2.2 2).2.2.2.2 4), .int 0])),
  ((u.2.2.1.2.2 2).2.2.2.2 0, .inr (1, [.long 0, .long 0])),
  ((u.2.2.1.2.2 2).2.2.2.2 1, .inr (1, [.long 0, .long 0])),
  ((u.2.2.1.2.2 2).2.2.2.2 2, .inr (1, [.long 0, .long 0])),
  ((u.2.2.1.2.2 2).2.2.2.2 3, .inr (1, [.long 0, .long 0])),
  ((u.2.2.1.2.2 2).2.2.2.2 4, .inl (k.1, 120, .inl (fun _ => 0))),
  ((u.2.2.1.2.2 3).1, .inr (4, [.ref (u.2.2.1.2.2 3).2.1.1, .ref (u.2.2.1.2.2 3).2.2.1.1, .ref (u.2.2.1.2.2 3).2.2.2.1, .int 2, .int 20, .int 0, .int 0, .int 0])),
  ((u.2.2.1.2.2 3).2.1.1, .inr (6, [.int 0, .ref ((u.2.2.1.2.2 3).2.1.2 0), .ref ((u.2.2.1.2.2 3).2.1.2 1), .ref ((u.2.2.1.2.2 3).2.1.2 2), .ref ((u.2.2.1.2.2 3).2.1.2 3), .ref ((u.2.2.1.2.2 3).2.1.2 4)])),
  ((u.2.2.1.2.2 3).2.1.2 0, .inl (k.1, 10, .inl (fun _ => 0))),
  ((u.2.2.1.2.2 3).2.1.2 1, .inl (k.1, 10, .inl (fun _ => 0))),
  ((u.2.2.1.2.2 3).2.1.2 2, .inl (k.1, 10, .inl (fun _ => 0))),
  ((u.2.2.1.2.2 3).2.1.2 3, .inl (k.2.1, 220, .inr (.inl (fun _ => 0)))),
  ((u.2.2.1.2.2 3).2.1.2 4, .inl (k.2.1, 220, .inr (.inl (fun _ => 0)))),
  ((u.2.2.1.2.2 3).2.2.1.1, .inr (0, [.int 24, .ref ((u.2.2.1.2.2 3).2.2.1.2 0), .ref ((u.2.2.1.2.2 3).2.2.1.2 1), .ref ((u.2.2.1.2.2 3).2.2.1.2 2), .ref ((u.2.2.1.2.2 3).2.2.1.2 3), .ref ((u.2.2.1.2.2 3).2.2.1.2 4), .int 0])),
  ((u.2.2.1.2.2 3).2.2.1.2 0, .inr (1, [.long 0, .long 0])),
  ((u.2.2.1.2.2 3).2.2.1.2 1, .inr (1, [.long 0, .long 0])),
  ((u.2.2.1.2.2 3).2.2.1.2 2, .inr (1, [.long 0, .long 0])),
  ((u.2.2.1.2.2 3).2.2.1.2 3, .inr (1, [.long 0, .long 0])),
  ((u.2.2.1.2.2 3).2.2.1.2 4, .inl (k.1, 120, .inl (fun _ => 0))),
  ((u.2.2.1.2.2 3).2.2.2.1, .inr (0, [.int 16, .ref ((u.2.2.1.2.2 3).2.2.2.2 0), .ref ((u.2.2.1.2.2 3).2.2.2.2 1), .ref ((u.2.2.1.2.2 3).2.2.2.2 2), .ref ((u.2.2.1.2.2 3).2.2.2.2 3), .ref ((u.2.2.1.2.2 3).2.2.2.2 4), .int 0])),
  ((u.2.2.1.2.2 3).2.2.2.2 0, .inr (1, [.long 0, .long 0])),
  ((u.2.2.1.2.2 3).2.2.2.2 1, .inr (1, [.long 0, .long 0])),
  ((u.2.2.1.2.2 3).2.2.2.2 2, .inr (1, [.long 0, .long 0])),
  ((u.2.2.1.2.2 3).2.2.2.2 3, .inr (1, [.long 0, .long 0])),
  ((u.2.2.1.2.2 3).2.2.2.2 4, .inl (k.1, 120, .inl (fun _ => 0))),
  ((u.2.2.1.2.2 4).1, .inr (4, [.ref (u.2.2.1.2.2 4).2.1.1, .ref (u.2.2.1.2.2 4).2.2.1.1, .ref (u.2.2.1.2.2 4).2.2.2.1, .int 2, .int 20, .int 0, .int 0, .int 0])),
  ((u.2.2.1.2.2 4).2.1.1, .inr (6, [.int 0, .ref ((u.2.2.1.2.2 4).2.1.2 0), .ref ((u.2.2.1.2.2 4).2.1.2 1), .ref ((u.2.2.1.2.2 4).2.1.2 2), .ref ((u.2.2.1.2.2 4).2.1.2 3), .ref ((u.2.2.1.2.2 4).2.1.2 4)])),
  ((u.2.2.1.2.2 4).2.1.2 0, .inl (k.1, 10, .inl (fun _ => 0))),
  ((u.2.2.1.2.2 4).2.1.2 1, .inl (k.1, 10, .inl (fun _ => 0))),
  ((u.2.2.1.2.2 4).2.1.2 2, .inl (k.1, 10, .inl (fun _ => 0))),
  ((u.2.2.1.2.2 4).2.1.2 3, .inl (k.2.1, 220, .inr (.inl (fun _ => 0)))),
  ((u.2.2.1.2.2 4).2.1.2 4, .inl (k.2.1, 220, .inr (.inl (fun _ => 0)))),
  ((u.2.2.1.2.2 4).2.2.1.1, .inr (0, [.int 24, .ref ((u.2.2.1.2.2 4).2.2.1.2 0), .ref ((u.2.2.1.2.2 4).2.2.1.2 1), .ref ((u.2.2.1.2.2 4).2.2.1.2 2), .ref ((u.2.2.1.2.2 4).2.2.1.2 3), .ref ((u.2.2.1.2.2 4).2.2.1.2 4), .int 0])),
  ((u.2.2.1.2.2 4).2.2.1.2 0, .inr (1, [.long 0, .long 0])),
  ((u.2.2.1.2.2 4).2.2.1.2 1, .inr (1, [.long 0, .long 0])),
  ((u.2.2.1.2.2 4).2.2.1.2 2, .inr (1, [.long 0, .long 0])),
  ((u.2.2.1.2.2 4).2.2.1.2 3, .inr (1, [.long 0, .long 0])),
  ((u.2.2.1.2.2 4).2.2.1.2 4, .inl (k.1, 120, .inl (fun _ => 0))),
  ((u.2.2.1.2.2 4).2.2.2.1, .inr (0, [.int 16, .ref ((u.2.2.1.2.2 4).2.2.2.2 0), .ref ((u.2.2.1.2.2 4).2.2.2.2 1), .ref ((u.2.2.1.2.2 4).2.2.2.2 2), .ref ((u.2.2.1.2.2 4).2.2.2.2 3), .ref ((u.2.2.1.2.2 4).2.2.2.2 4), .int 0])),
  ((u.2.2.1.2.2 4).2.2.2.2 0, .inr (1, [.long 0, .long 0])),
  ((u.2.2.1.2.2 4).2.2.2.2 1, .inr (1, [.long 0, .long 0])),
  ((u.2.2.1.2.2 4).2.2.2.2 2, .inr (1, [.long 0, .long 0])),
  ((u.2.2.1.2.2 4).2.2.2.2 3, .inr (1, [.long 0, .long 0])),
  ((u.2.2.1.2.2 4).2.2.2.2 4, .inl (k.1, 120, .inl (fun _ => 0))),
  (u.2.2.2.1.1, .inr (5, [.ref u.2.2.2.1.2, .int 0])),
  (u.2.2.2.1.2, .inl (k.2.2.1, 60, .inl (fun _ => 0))),
  (u.2.2.2.2.1, .inr (3, [.int 0, .int 0, .ref u.2.2.2.2.2, .int 0, .int 0])),
  (u.2.2.2.2.2, .inl (k.1, 4, .inl (fun _ => 0))),
  (d 0, .inl (k.1, 8, .inl (fun _ => 0))),
  (d 1, .inl (k.1, 10, .inl (fun _ => 0))),
  (d 2, .inl (k.1, 10, .inl (fun _ => 0))),
  (d 3, .inl (k.1, 10, .inl (fun _ => 0))),
  (d 4, .inl (k.1, 10, .inl (fun _ => 0))),
  (d 5, .inl (k.1, 10, .inl (fun _ => 0))),
  (d 6, .inl (k.2.1, 20, .inr (.inl (fun _ => 0))))]
set_option maxRecDepth 100000 in
theorem zLit_eq (k : zQu) (qf : Nat) (u : zYf) (d : Nat → Nat) : ((((((([] ++ zqFB k qf u) ++ [(d 0, .inl (k.1, 8, .inl (fun _ => 0)))]) ++ [(d 1, .inl (k.1, 10, .inl (fun _ => 0)))]) ++ [(d 2, .inl (k.1, 10, .inl (fun _ => 0)))]) ++ [(d 3, .inl (k.1, 10, .inl (fun _ => 0)))]) ++ [(d 4, .inl (k.1, 10, .inl (fun _ => 0)))]) ++ [(d 5, .inl (k.1, 10, .inl (fun _ => 0)))]) ++ [(d 6, .inl (k.2.1, 20, .inr (.inl (fun _ => 0))))] = zLit k qf u d := by
  simp only [zqFB, zqSt, zqWo, zqBl, zqDo, zqHi, zqTe, zqOr, List.nil_append, List.cons_append, List.append_assoc, zLit]

set_option maxRecDepth 100000 in
set_option maxHeartbeats 4000000 in
theorem z0_at (D : va_G) (k : zQu) (qf : Nat) (u : zYf) (d : Nat → Nat) (t b L : Nat) (xs : Nat → Int32) : ∀ q ∈ zobjs false, (zLit k qf u d)[zpos q.1 q.2]? = some (zad (zG0 D k qf u d t b L xs) q.1 q.2, zcell (zG0 D k qf u d t b L xs) (zM0 L xs) q.1 q.2) := by
  refine zAm_mem ?_
  rw [zobjs_lit]
  refine ⟨?_, ?_, ?_, ?_, ?_, ?_, ?_, ?_, ?_, ?_, ?_, ?_, ?_, ?_, ?_, ?_, ?_, ?_, ?_, ?_, ?_, ?_, ?_, ?_, ?_, ?_, ?_, ?_, ?_, ?_, ?_, ?_, ?_, ?_, ?_, ?_, ?_, ?_, ?_, ?_, ?_, ?_, ?_, ?_, ?_, ?_, ?_, ?_, ?_, ?_, ?_, ?_, ?_, ?_, ?_, ?_, ?_, ?_, ?_, ?_, ?_, ?_, ?_, ?_, ?_, ?_, ?_, ?_, ?_, ?_, ?_, ?_, ?_, ?_, ?_, ?_, ?_, ?_, ?_, ?_, ?_, ?_, ?_, ?_, ?_, ?_, ?_, ?_, ?_, ?_, ?_, ?_, ?_, ?_, ?_, ?_, ?_, ?_, ?_, ?_, ?_, ?_, ?_, ?_, ?_, ?_, ?_, ?_, ?_, ?_, ?_, ?_, ?_, ?_, ?_, ?_, ?_, ?_, ?_, ?_, ?_, ?_, ?_, ?_, ?_, ?_, ?_, ?_, ?_, ?_, ?_, ?_, ?_, ?_, ?_, ?_, ?_, ?_, ?_, ?_, ?_, ?_, ?_, ?_, ?_, ?_, ?_, trivial⟩
  · exact rfl
  · exact rfl
  · exact rfl
  · exact rfl
  · exact rfl
  · exact rfl
  · exact rfl
  · exact rfl
  · exact rfl
  · exact rfl
  · exact rfl
  · exact rfl
  · exact rfl
  · exact rfl
  · exact rfl
  · exact rfl
  · exact rfl
  · exact rfl
  · exact rfl
  · exact rfl
  · exact rfl
  · exact rfl
  · exact rfl
  · exact rfl
  · exact rfl
  · exact rfl
  · exact rfl
  · exact rfl
  · exact rfl
  · exact rfl
  · exact rfl
  · exact rfl
  · exact rfl
  · exact rfl
  · exact rfl
  · exact rfl
  · exact rfl
  · exact rfl
  · exact rfl
  · exact rfl
  · exact rfl
  · exact rfl
  · exact rfl
  · exact rfl
  · exact rfl
  · exact rfl
  · exact rfl
  · exact rfl
  · exact rfl
  · exact rfl
  · exact rfl
  · exact rfl
  · exact rfl
  · exact rfl
  · exact rfl
  · exact rfl
  · exact rfl
  · exact rfl
  · exact rfl
  · exact rfl
  · exact rfl
  · exact rfl
  · exact rfl
  · exact rfl
  · exact rfl
  · exact rfl
  · exact rfl
  · exact rfl
  · exact rfl
  · exact rfl
  · exact rfl
  · exact rfl
  · exact rfl
  · exact rfl
  · exact rfl
  · exact rfl
  · exact rfl
  · exact rfl
  · exact rfl
  · exact rfl
  · exact rfl
  · exact rfl
  · exact rfl
  · exact rfl
  · exact rfl
  · exact rfl
  · exact rfl
  · exact rfl
  · exact rfl
  · exact rfl
  · exact rfl
  · exact rfl
  · exact rfl
  · exact rfl
  · exact rfl
  · exact rfl
  · exact rfl
  · exact rfl
  · exact rfl
  · exact rfl
  · exact rfl
  · exact rfl
  · exact rfl
  · exact rfl
  · exact rfl
  · exact rfl
  · exact rfl
  · exact rfl
  · exact rfl
  · exact rfl
  · exact rfl
  · exact rfl
  · exact rfl
  · exact rfl
  · exact rfl
  · exact rfl
  · exact rfl
  · exact rfl
  · exact rfl
  · exact rfl
  · exact rfl
  · exact rfl
  · exact rfl
  · exact rfl
  · exact rfl
  · exact rfl
  · exact rfl
  · exact rfl
  · exact rfl
  · exact rfl
  · exact rfl
  · exact rfl
  · exact rfl
  · exact rfl
  · exact rfl
  · exact rfl
  · exact rfl
  · exact rfl
  · exact rfl
  · show (zLit k qf u d)[40]? = some (_, .inl (k.2.2.2, 5, .inr (.inr (.inr (.inr (fun i => (zr0 i).map (fun q => zad0 qf u d t b 4 q)))))))
    rw [← zhf_eq (fun q => zad0 qf u d t b 4 q)]
    rfl
  · exact rfl
  · exact rfl
  · exact rfl
  · exact rfl
  · exact rfl
  · exact rfl
  · exact rfl
theorem zpos_nd : va_nd ((zobjs false).map (fun q => zpos q.1 q.2)) = true := by decide +kernel
theorem z0_map (D : va_G) (k : zQu) (qf : Nat) (u : zYf) (d : Nat → Nat) (t b L : Nat) (xs : Nat → Int32) : ((zobjs false).map (fun q => zpos q.1 q.2)).map (fun i => (zLit k qf u d)[i]?) = (zws (zG0 D k qf u d t b L xs) (zM0 L xs)).map some := by
  rw [List.map_map, zws, List.map_map]
  exact List.map_congr_left (fun q hq => z0_at D k qf u d t b L xs q hq)
theorem z0_D {A : Nat → Prop} {D : va_G} {k : zQu} {qf : Nat} {u : zYf} {d : Nat → Nat} (t b L : Nat) (xs : Nat → Int32) (h : va_D A (zLit k qf u d)) : va_D A (zws (zG0 D k qf u d t b L xs) (zM0 L xs)) := h.sub _ zpos_nd (z0_map D k qf u d t b L xs)
theorem z0_P {D : va_G} {k : zQu} {qf : Nat} {u : zYf} {d : Nat → Nat} {H : Heap} (t b L : Nat) (xs : Nat → Int32) (h : va_P D vwCl (zLit k qf u d) H) : va_P D vwCl (zws (zG0 D k qf u d t b L xs) (zM0 L xs)) H := by
  intro j q hq
  rw [zws, List.getElem?_map] at hq
  have hq : Option.map _ ((zobjs false)[j]?) = some q := hq
  cases hz : (zobjs false)[j]? with
  | none => rw [hz] at hq; cases hq
  | some z =>
    rw [hz] at hq
    have hq := Option.some.inj hq
    subst hq
    exact h _ _ (z0_at D k qf u d t b L xs z (List.mem_of_getElem? hz))
theorem zs0_at (i : Nat) : zs0 i = if i = 7 then 20 else if i = 6 then 2 else 0 := by
  have e6 : Int32.toNatClampNeg 6 = 6 := by decide
  have e7 : Int32.toNatClampNeg 7 = 7 := by decide
  unfold zs0 upd
  rw [e6, e7]
theorem zs0_0 {i : Nat} (h6 : i ≠ 6) (h7 : i ≠ 7) : zs0 i = 0 := by rw [zs0_at, if_neg h7, if_neg h6]
theorem z0_gs (L : Nat) (xs : Nat → Int32) : zGS (zM0 L xs) 0 zs0 := by
  refine ⟨0, by omega, zs0_0 (by decide) (by decide), ⟨rfl, fun w hw => by omega⟩, fun b hb => ?_, ?_, ?_, ?_, ?_, ?_⟩
  · have hz : ∀ r c, zs0 (zat b r c) = 0 := fun r c => zs0_0 (by unfold zat; omega) (by unfold zat; omega)
    have hp : ∀ w : Int32, zPr 0 0 (zfD zs0 b w) := fun w => by
      have e0 : (uj 0) = 0 := by decide
      have e1 : ∀ c r, zfD zs0 b w c r = false := fun c r => by
        unfold zfD
        rw [hz]
        simp
      refine ⟨fun i => ?_, fun i => ?_⟩ <;> rw [e0, e1] <;> simp
    refine ⟨?_, ?_, hp 1, hp 2, hp 4, fun c r _ _ => ?_⟩
    · show zw24 ((2 * 0 + b) % 2) = _
      rcases (show b = 0 ∨ b = 1 by omega) with rfl | rfl <;> rfl
    · rw [zs0_0 (by omega) (by omega)]; rfl
    · rw [hz]; rfl
  · rw [zs0_at]; rfl
  · rw [zs0_at]; rfl
  · rw [zs0_at]; rfl
  · rw [zs0_at]; rfl
  · rw [zs0_at]; rfl
theorem z0_W : zW 0 zs0 := by
  refine ⟨⟨0, by omega, zs0_0 (by decide) (by decide), fun w hw => by omega⟩, ⟨2, by omega, by omega, by rw [zs0_at]; rfl⟩, ⟨20, by omega, by omega, by rw [zs0_at]; rfl⟩, fun b r c _ _ _ => ⟨0, false, false, false, by omega, ?_⟩⟩
  rw [zs0_0 (by unfold zat; omega) (by unfold zat; omega)]
  rfl
theorem zdc_0 (b r : Nat) (w : Int32) : ∀ n, zdcl zs0 b r w n = 0 := by
  intro n
  induction n with
  | zero => rfl
  | succ n ih =>
    have e0 : (0 : Int32) &&& w = 0 := by simp
    rw [zdcl, ih, zs0_0 (by unfold zat; omega) (by unfold zat; omega), if_pos e0]
    rfl
theorem zpk_0 (j : Nat) : ∀ n, zpk (fun _ => 0) j n = 0 := by
  intro n
  induction n with
  | zero => rfl
  | succ n ih => simp [zpk, ih]
/-- the memory behind the law's first lines -/
def zM1 (L : Nat) (xs : Nat → Int32) : zM := (zst (zst (zM0 L xs).1 29 0 (upd ((zM0 L xs).1 29 0) 6 2)) 29 0 (upd (zst (zM0 L xs).1 29 0 (upd ((zM0 L xs).1 29 0) 6 2) 29 0) 7 20), (zM0 L xs).2)
theorem zM1_ne (L : Nat) (xs : Nat → Int32) {c n : Nat} (h : c ≠ 29) : (zM1 L xs).1 c n = (zM0 L xs).1 c n := (zst_ne _ _ (fun z => h z.1)).trans (zst_ne _ _ (fun z => h z.1))
theorem zM1_29 (L : Nat) (xs : Nat → Int32) : (zM1 L xs).1 29 0 = zs0 := by
  have e : (zM1 L xs).1 = zst (zst (zM0 L xs).1 29 0 (upd ((zM0 L xs).1 29 0) 6 2)) 29 0 (upd (zst (zM0 L xs).1 29 0 (upd ((zM0 L xs).1 29 0) 6 2) 29 0) 7 20) := rfl
  rw [e, zst_self, zst_self]
  unfold zs0
  rw [show Int32.toNatClampNeg 6 = 6 by decide, show Int32.toNatClampNeg 7 = 7 by decide]
  rfl
theorem z0_inv (L : Nat) (xs : Nat → Int32) : zLI 0 (zM1 L xs) := by
  have hG : zGS (zM1 L xs) 0 zs0 := (z0_gs L xs).fr (fun c m z => zM1_ne L xs (by unfold zOw at z; omega)) (fun c m _ => rfl)
  refine ⟨zs0, fun _ => 0, 0, fun _ _ => 0, z0_W, fun i _ => by rw [zM1_ne L xs (by decide)]; rfl, ⟨fun i _ => by rw [zM1_29], ⟨0, by omega, zs0_0 (by decide) (by decide), fun w hw => by omega⟩, fun d r hd hr => ?_, ⟨fun _ => Nat.zero_lt_succ 63, fun j hj => ?_⟩, fun d r c hd hr hc => ?_⟩, ⟨by omega, hG, fun k hk b hb => ?_, fun i => i + 2, ⟨?_, fun i hi => ?_, fun i hi => ⟨Nat.le_add_left 2 i, by show i + 2 < 7; omega⟩, fun i j _ _ h => Nat.add_right_cancel h⟩, fun i hi => by omega⟩, by rw [zM1_ne L xs (by decide)]; rfl⟩
  · rw [zM1_ne L xs (by decide), zM1_ne L xs (by decide), zM1_ne L xs (by decide)]
    exact ⟨(zdc_0 d r 1 _).symm, (zdc_0 d r 2 _).symm, (zdc_0 d r 4 _).symm⟩
  · rw [zpk_0]; rfl
  · rw [zs0_0 (by unfold zat; omega) (by unfold zat; omega)]; rfl
  · rw [zM1_ne L xs (by decide)]
    show zw24 ((2 * k + b) % 2) = _
    rw [show (2 * k + b) % 2 = b by omega]
    rcases (show b = 0 ∨ b = 1 by omega) with rfl | rfl <;> rfl
  · rw [zM1_ne L xs (by decide)]; rfl
  · show zr0 i = _
    unfold zr0
    rw [if_pos hi]
theorem z0_mo {D : va_G} {k : zQu} {qf : Nat} {u : zYf} {d : Nat → Nat} {t b L : Nat} {xs : Nat → Int32} (hL : L < 2 ^ 31) : zmo (zG0 D k qf u d t b L xs) (zM0 L xs) := by
  refine ⟨fun i _ => rfl, fun i _ => rfl, rfl, hL, fun i q h => ?_, rfl⟩
  have h : zr0 i = some q := h
  unfold zr0 at h
  split at h
  · cases h; omega
  · cases h
