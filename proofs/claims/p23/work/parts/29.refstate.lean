-- ===== the reference: what changes =====
-- one disc
def zv1 (v : Int32) (w : Bool) : Int32 := (v &&& (-5)) ||| (if w = true then 4 else 0)
/-- is the disc flipped -/
def zfl (v : Int32) (w : Bool) : Bool := decide ((zv1 v w &&& 2) = 0) && !decide ((zv1 v w &&& 1) = (if w = true then 1 else 0))
def zv2 (v : Int32) (w : Bool) : Int32 := (zv1 v w ^^^ 1) + 8
/-- is it stuck by that -/
def zwn (v : Int32) (w : Bool) (life : Int32) : Bool := zfl v w && !decide (zv2 v w / 8 < life)
/-- the disc then -/
def zvn (v : Int32) (w : Bool) (life : Int32) : Int32 := if zfl v w = true then (if zwn v w life = true then zv2 v w ||| 2 else zv2 v w) else zv1 v w
def zbI (b : Bool) : Int32 := if b = true then 1 else 0
theorem zbI_nI (b : Bool) : zbI b = nI b.toNat := by cases b <;> rfl
