-- written by wip/gen (blockruler.py)
abbrev SB : Type := (Int32) × (Nat → Int32) × (Nat → Int32) × (Int32) × (Int32) × (Nat → Int32) × (Nat → Int32) × (Nat → Int32) × (Nat → Int32) × (Nat → Int64) × (Nat → Int32) × (Int32) × (Int64) × (Nat → Int64) × (Nat → Int64) × (Int32) × (Int32) × (Int32)
def sB_stale (σ : SB) : Int32 := σ.1
def sB_deg (σ : SB) : Nat → Int32 := σ.2.1
def sB_ends (σ : SB) : Nat → Int32 := σ.2.2.1
def sB_blocks (σ : SB) : Int32 := σ.2.2.2.1
def sB_ways (σ : SB) : Int32 := σ.2.2.2.2.1
def sB_orders (σ : SB) : Nat → Int32 := σ.2.2.2.2.2.1
def sB_left (σ : SB) : Nat → Int32 := σ.2.2.2.2.2.2.1
def sB_open (σ : SB) : Nat → Int32 := σ.2.2.2.2.2.2.2.1
def sB_taken (σ : SB) : Nat → Int32 := σ.2.2.2.2.2.2.2.2.1
def sB_comers (σ : SB) : Nat → Int64 := σ.2.2.2.2.2.2.2.2.2.1
def sB_comings (σ : SB) : Nat → Int32 := σ.2.2.2.2.2.2.2.2.2.2.1
def sB_reached (σ : SB) : Int32 := σ.2.2.2.2.2.2.2.2.2.2.2.1
def sB_rset (σ : SB) : Int64 := σ.2.2.2.2.2.2.2.2.2.2.2.2.1
def sB_rof (σ : SB) : Nat → Int64 := σ.2.2.2.2.2.2.2.2.2.2.2.2.2.1
def sB_lof (σ : SB) : Nat → Int64 := σ.2.2.2.2.2.2.2.2.2.2.2.2.2.2.1
def sB_heads (σ : SB) : Int32 := σ.2.2.2.2.2.2.2.2.2.2.2.2.2.2.2.1
def sB_backs (σ : SB) : Int32 := σ.2.2.2.2.2.2.2.2.2.2.2.2.2.2.2.2.1
def sB_knots (σ : SB) : Int32 := σ.2.2.2.2.2.2.2.2.2.2.2.2.2.2.2.2.2
def uB_stale (σ : SB) (x : Int32) : SB := (x, σ.2.1, σ.2.2.1, σ.2.2.2.1, σ.2.2.2.2.1, σ.2.2.2.2.2.1, σ.2.2.2.2.2.2.1, σ.2.2.2.2.2.2.2.1, σ.2.2.2.2.2.2.2.2.1, σ.2.2.2.2.2.2.2.2.2.1, σ.2.2.2.2.2.2.2.2.2.2.1, σ.2.2.2.2.2.2.2.2.2.2.2.1, σ.2.2.2.2.2.2.2.2.2.2.2.2.1, σ.2.2.2.2.2.2.2.2.2.2.2.2.2.1, σ.2.2.2.2.2.2.2.2.2.2.2.2.2.2.1, σ.2.2.2.2.2.2.2.2.2.2.2.2.2.2.2.1, σ.2.2.2.2.2.2.2.2.2.2.2.2.2.2.2.2.1, σ.2.2.2.2.2.2.2.2.2.2.2.2.2.2.2.2.2)
def uB_deg (σ : SB) (x : Nat → Int32) : SB := (σ.1, x, σ.2.2.1, σ.2.2.2.1, σ.2.2.2.2.1, σ.2.2.2.2.2.1, σ.2.2.2.2.2.2.1, σ.2.2.2.2.2.2.2.1, σ.2.2.2.2.2.2.2.2.1, σ.2.2.2.2.2.2.2.2.2.1, σ.2.2.2.2.2.2.2.2.2.2.1, σ.2.2.2.2.2.2.2.2.2.2.2.1, σ.2.2.2.2.2.2.2.2.2.2.2.2.1, σ.2.2.2.2.2.2.2.2.2.2.2.2.2.1, σ.2.2.2.2.2.2.2.2.2.2.2.2.2.2.1, σ.2.2.2.2.2.2.2.2.2.2.2.2.2.2.2.1, σ.2.2.2.2.2.2.2.2.2.2.2.2.2.2.2.2.1, σ.2.2.2.2.2.2.2.2.2.2.2.2.2.2.2.2.2)
def uB_ends (σ : SB) (x : Nat → Int32) : SB := (σ.1, σ.2.1, x, σ.2.2.2.1, σ.2.2.2.2.1, σ.2.2.2.2.2.1, σ.2.2.2.2.2.2.1, σ.2.2.2.2.2.2.2.1, σ.2.2.2.2.2.2.2.2.1, σ.2.2.2.2.2.2.2.2.2.1, σ.2.2.2.2.2.2.2.2.2.2.1, σ.2.2.2.2.2.2.2.2.2.2.2.1, σ.2.2.2.2.2.2.2.2.2.2.2.2.1, σ.2.2.2.2.2.2.2.2.2.2.2.2.2.1, σ.2.2.2.2.2.2.2.2.2.2.2.2.2.2.1, σ.2.2.2.2.2.2.2.2.2.2.2.2.2.2.2.1, σ.2.2.2.2.2.2.2.2.2.2.2.2.2.2.2.2.1, σ.2.2.2.2.2.2.2.2.2.2.2.2.2.2.2.2.2)
def uB_blocks (σ : SB) (x : Int32) : SB := (σ.1, σ.2.1, σ.2.2.1, x, σ.2.2.2.2.1, σ.2.2.2.2.2.1, σ.2.2.2.2.2.2.1, σ.2.2.2.2.2.2.2.1, σ.2.2.2.2.2.2.2.2.1, σ.2.2.2.2.2.2.2.2.2.1, σ.2.2.2.2.2.2.2.2.2.2.1, σ.2.2.2.2.2.2.2.2.2.2.2.1, σ.2.2.2.2.2.2.2.2.2.2.2.2.1, σ.2.2.2.2.2.2.2.2.2.2.2.2.2.1, σ.2.2.2.2.2.2.2.2.2.2.2.2.2.2.1, σ.2.2.2.2.2.2.2.2.2.2.2.2.2.2.2.1, σ.2.2.2.2.2.2.2.2.2.2.2.2.2.2.2.2.1, σ.2.2.2.2.2.2.2.2.2.2.2.2.2.2.2.2.2)
def uB_ways (σ : SB) (x : Int32) : SB := (σ.1, σ.2.1, σ.2.2.1, σ.2.2.2.1, x, σ.2.2.2.2.2.1, σ.2.2.2.2.2.2.1, σ.2.2.2.2.2.2.2.1, σ.2.2.2.2.2.2.2.2.1, σ.2.2.2.2.2.2.2.2.2.1, σ.2.2.2.2.2.2.2.2.2.2.1, σ.2.2.2.2.2.2.2.2.2.2.2.1, σ.2.2.2.2.2.2.2.2.2.2.2.2.1, σ.2.2.2.2.2.2.2.2.2.2.2.2.2.1, σ.2.2.2.2.2.2.2.2.2.2.2.2.2.2.1, σ.2.2.2.2.2.2.2.2.2.2.2.2.2.2.2.1, σ.2.2.2.2.2.2.2.2.2.2.2.2.2.2.2.2.1, σ.2.2.2.2.2.2.2.2.2.2.2.2.2.2.2.2.2)
def uB_orders (σ : SB) (x : Nat → Int32) : SB := (σ.1, σ.2.1, σ.2.2.1, σ.2.2.2.1, σ.2.2.2.2.1, x, σ.2.2.2.2.2.2.1, σ.2.2.2.2.2.2.2.1, σ.2.2.2.2.2.2.2.2.1, σ.2.2.2.2.2.2.2.2.2.1, σ.2.2.2.2.2.2.2.2.2.2.1, σ.2.2.2.2.2.2.2.2.2.2.2.1, σ.2.2.2.2.2.2.2.2.2.2.2.2.1, σ.2.2.2.2.2.2.2.2.2.2.2.2.2.1, σ.2.2.2.2.2.2.2.2.2.2.2.2.2.2.1, σ.2.2.2.2.2.2.2.2.2.2.2.2.2.2.2.1, σ.2.2.2.2.2.2.2.2.2.2.2.2.2.2.2.2.1, σ.2.2.2.2.2.2.2.2.2.2.2.2.2.2.2.2.2)
def uB_left (σ : SB) (x : Nat → Int32) : SB := (σ.1, σ.2.1, σ.2.2.1, σ.2.2.2.1, σ.2.2.2.2.1, σ.2.2.2.2.2.1, x, σ.2.2.2.2.2.2.2.1, σ.2.2.2.2.2.2.2.2.1, σ.2.2.2.2.2.2.2.2.2.1, σ.2.2.2.2.2.2.2.2.2.2.1, σ.2.2.2.2.2.2.2.2.2.2.2.1, σ.2.2.2.2.2.2.2.2.2.2.2.2.1, σ.2.2.2.2.2.2.2.2.2.2.2.2.2.1, σ.2.2.2.2.2.2.2.2.2.2.2.2.2.2.1, σ.2.2.2.2.2.2.2.2.2.2.2.2.2.2.2.1, σ.2.2.2.2.2.2.2.2.2.2.2.2.2.2.2.2.1, σ.2.2.2.2.2.2.2.2.2.2.2.2.2.2.2.2.2)
def uB_open (σ : SB) (x : Nat → Int32) : SB := (σ.1, σ.2.1, σ.2.2.1, σ.2.2.2.1, σ.2.2.2.2.1, σ.2.2.2.2.2.1, σ.2.2.2.2.2.2.1, x, σ.2.2.2.2.2.2.2.2.1, σ.2.2.2.2.2.2.2.2.2.1, σ.2.2.2.2.2.2.2.2.2.2.1, σ.2.2.2.2.2.2.2.2.2.2.2.1, σ.2.2.2.2.2.2.2.2.2.2.2.2.1, σ.2.2.2.2.2.2.2.2.2.2.2.2.2.1, σ.2.2.2.2.2.2.2.2.2.2.2.2.2.2.1, σ.2.2.2.2.2.2.2.2.2.2.2.2.2.2.2.1, σ.2.2.2.2.2.2.2.2.2.2.2.2.2.2.2.2.1, σ.2.2.2.2.2.2.2.2.2.2.2.2.2.2.2.2.2)
def uB_taken (σ : SB) (x : Nat → Int32) : SB := (σ.1, σ.2.1, σ.2.2.1, σ.2.2.2.1, σ.2.2.2.2.1, σ.2.2.2.2.2.1, σ.2.2.2.2.2.2.1, σ.2.2.2.2.2.2.2.1, x, σ.2.2.2.2.2.2.2.2.2.1, σ.2.2.2.2.2.2.2.2.2.2.1, σ.2.2.2.2.2.2.2.2.2.2.2.1, σ.2.2.2.2.2.2.2.2.2.2.2.2.1, σ.2.2.2.2.2.2.2.2.2.2.2.2.2.1, σ.2.2.2.2.2.2.2.2.2.2.2.2.2.2.1, σ.2.2.2.2.2.2.2.2.2.2.2.2.2.2.2.1, σ.2.2.2.2.2.2.2.2.2.2.2.2.2.2.2.2.1, σ.2.2.2.2.2.2.2.2.2.2.2.2.2.2.2.2.2)
def uB_comers (σ : SB) (x : Nat → Int64) : SB := (σ.1, σ.2.1, σ.2.2.1, σ.2.2.2.1, σ.2.2.2.2.1, σ.2.2.2.2.2.1, σ.2.2.2.2.2.2.1, σ.2.2.2.2.2.2.2.1, σ.2.2.2.2.2.2.2.2.1, x, σ.2.2.2.2.2.2.2.2.2.2.1, σ.2.2.2.2.2.2.2.2.2.2.2.1, σ.2.2.2.2.2.2.2.2.2.2.2.2.1, σ.2.2.2.2.2.2.2.2.2.2.2.2.2.1, σ.2.2.2.2.2.2.2.2.2.2.2.2.2.2.1, σ.2.2.2.2.2.2.2.2.2.2.2.2.2.2.2.1, σ.2.2.2.2.2.2.2.2.2.2.2.2.2.2.2.2.1, σ.2.2.2.2.2.2.2.2.2.2.2.2.2.2.2.2.2)
def uB_comings (σ : SB) (x : Nat → Int32) : SB := (σ.1, σ.2.1, σ.2.2.1, σ.2.2.2.1, σ.2.2.2.2.1, σ.2.2.2.2.2.1, σ.2.2.2.2.2.2.1, σ.2.2.2.2.2.2.2.1, σ.2.2.2.2.2.2.2.2.1, σ.2.2.2.2.2.2.2.2.2.1, x, σ.2.2.2.2.2.2.2.2.2.2.2.1, σ.2.2.2.2.2.2.2.2.2.2.2.2.1, σ.2.2.2.2.2.2.2.2.2.2.2.2.2.1, σ.2.2.2.2.2.2.2.2.2.2.2.2.2.2.1, σ.2.2.2.2.2.2.2.2.2.2.2.2.2.2.2.1, σ.2.2.2.2.2.2.2.2.2.2.2.2.2.2.2.2.1, σ.2.2.2.2.2.2.2.2.2.2.2.2.2.2.2.2.2)
def uB_reached (σ : SB) (x : Int32) : SB := (σ.1, σ.2.1, σ.2.2.1, σ.2.2.2.1, σ.2.2.2.2.1, σ.2.2.2.2.2.1, σ.2.2.2.2.2.2.1, σ.2.2.2.2.2.2.2.1, σ.2.2.2.2.2.2.2.2.1, σ.2.2.2.2.2.2.2.2.2.1, σ.2.2.2.2.2.2.2.2.2.2.1, x, σ.2.2.2.2.2.2.2.2.2.2.2.2.1, σ.2.2.2.2.2.2.2.2.2.2.2.2.2.1, σ.2.2.2.2.2.2.2.2.2.2.2.2.2.2.1, σ.2.2.2.2.2.2.2.2.2.2.2.2.2.2.2.1, σ.2.2.2.2.2.2.2.2.2.2.2.2.2.2.2.2.1, σ.2.2.2.2.2.2.2.2.2.2.2.2.2.2.2.2.2)
def uB_rset (σ : SB) (x : Int64) : SB := (σ.1, σ.2.1, σ.2.2.1, σ.2.2.2.1, σ.2.2.2.2.1, σ.2.2.2.2.2.1, σ.2.2.2.2.2.2.1, σ.2.2.2.2.2.2.2.1, σ.2.2.2.2.2.2.2.2.1, σ.2.2.2.2.2.2.2.2.2.1, σ.2.2.2.2.2.2.2.2.2.2.1, σ.2.2.2.2.2.2.2.2.2.2.2.1, x, σ.2.2.2.2.2.2.2.2.2.2.2.2.2.1, σ.2.2.2.2.2.2.2.2.2.2.2.2.2.2.1, σ.2.2.2.2.2.2.2.2.2.2.2.2.2.2.2.1, σ.2.2.2.2.2.2.2.2.2.2.2.2.2.2.2.2.1, σ.2.2.2.2.2.2.2.2.2.2.2.2.2.2.2.2.2)
def uB_rof (σ : SB) (x : Nat → Int64) : SB := (σ.1, σ.2.1, σ.2.2.1, σ.2.2.2.1, σ.2.2.2.2.1, σ.2.2.2.2.2.1, σ.2.2.2.2.2.2.1, σ.2.2.2.2.2.2.2.1, σ.2.2.2.2.2.2.2.2.1, σ.2.2.2.2.2.2.2.2.2.1, σ.2.2.2.2.2.2.2.2.2.2.1, σ.2.2.2.2.2.2.2.2.2.2.2.1, σ.2.2.2.2.2.2.2.2.2.2.2.2.1, x, σ.2.2.2.2.2.2.2.2.2.2.2.2.2.2.1, σ.2.2.2.2.2.2.2.2.2.2.2.2.2.2.2.1, σ.2.2.2.2.2.2.2.2.2.2.2.2.2.2.2.2.1, σ.2.2.2.2.2.2.2.2.2.2.2.2.2.2.2.2.2)
def uB_lof (σ : SB) (x : Nat → Int64) : SB := (σ.1, σ.2.1, σ.2.2.1, σ.2.2.2.1, σ.2.2.2.2.1, σ.2.2.2.2.2.1, σ.2.2.2.2.2.2.1, σ.2.2.2.2.2.2.2.1, σ.2.2.2.2.2.2.2.2.1, σ.2.2.2.2.2.2.2.2.2.1, σ.2.2.2.2.2.2.2.2.2.2.1, σ.2.2.2.2.2.2.2.2.2.2.2.1, σ.2.2.2.2.2.2.2.2.2.2.2.2.1, σ.2.2.2.2.2.2.2.2.2.2.2.2.2.1, x, σ.2.2.2.2.2.2.2.2.2.2.2.2.2.2.2.1, σ.2.2.2.2.2.2.2.2.2.2.2.2.2.2.2.2.1, σ.2.2.2.2.2.2.2.2.2.2.2.2.2.2.2.2.2)
def uB_heads (σ : SB) (x : Int32) : SB := (σ.1, σ.2.1, σ.2.2.1, σ.2.2.2.1, σ.2.2.2.2.1, σ.2.2.2.2.2.1, σ.2.2.2.2.2.2.1, σ.2.2.2.2.2.2.2.1, σ.2.2.2.2.2.2.2.2.1, σ.2.2.2.2.2.2.2.2.2.1, σ.2.2.2.2.2.2.2.2.2.2.1, σ.2.2.2.2.2.2.2.2.2.2.2.1, σ.2.2.2.2.2.2.2.2.2.2.2.2.1, σ.2.2.2.2.2.2.2.2.2.2.2.2.2.1, σ.2.2.2.2.2.2.2.2.2.2.2.2.2.2.1, x, σ.2.2.2.2.2.2.2.2.2.2.2.2.2.2.2.2.1, σ.2.2.2.2.2.2.2.2.2.2.2.2.2.2.2.2.2)
def uB_backs (σ : SB) (x : Int32) : SB := (σ.1, σ.2.1, σ.2.2.1, σ.2.2.2.1, σ.2.2.2.2.1, σ.2.2.2.2.2.1, σ.2.2.2.2.2.2.1, σ.2.2.2.2.2.2.2.1, σ.2.2.2.2.2.2.2.2.1, σ.2.2.2.2.2.2.2.2.2.1, σ.2.2.2.2.2.2.2.2.2.2.1, σ.2.2.2.2.2.2.2.2.2.2.2.1, σ.2.2.2.2.2.2.2.2.2.2.2.2.1, σ.2.2.2.2.2.2.2.2.2.2.2.2.2.1, σ.2.2.2.2.2.2.2.2.2.2.2.2.2.2.1, σ.2.2.2.2.2.2.2.2.2.2.2.2.2.2.2.1, x, σ.2.2.2.2.2.2.2.2.2.2.2.2.2.2.2.2.2)
def uB_knots (σ : SB) (x : Int32) : SB := (σ.1, σ.2.1, σ.2.2.1, σ.2.2.2.1, σ.2.2.2.2.1, σ.2.2.2.2.2.1, σ.2.2.2.2.2.2.1, σ.2.2.2.2.2.2.2.1, σ.2.2.2.2.2.2.2.2.1, σ.2.2.2.2.2.2.2.2.2.1, σ.2.2.2.2.2.2.2.2.2.2.1, σ.2.2.2.2.2.2.2.2.2.2.2.1, σ.2.2.2.2.2.2.2.2.2.2.2.2.1, σ.2.2.2.2.2.2.2.2.2.2.2.2.2.1, σ.2.2.2.2.2.2.2.2.2.2.2.2.2.2.1, σ.2.2.2.2.2.2.2.2.2.2.2.2.2.2.2.1, σ.2.2.2.2.2.2.2.2.2.2.2.2.2.2.2.2.1, x)
def wsB (a : Nat → Nat) (cs : Nat → ClassId) (σ : SB) : va_W := [(a 0, .inr (0, [.ref (a 1), .ref (a 2), .ref (a 3), .ref (a 4), .int (sB_stale σ)])), (a 1, .inr (1, [.ref (a 5), .ref (a 6), .int (sB_blocks σ), .int (sB_ways σ)])), (a 2, .inr (2, [.ref (a 1), .ref (a 7), .ref (a 8), .ref (a 9), .ref (a 10), .ref (a 11), .ref (a 12), .int (sB_reached σ), .long (sB_rset σ)])), (a 3, .inr (3, [.ref (a 2), .ref (a 13)])), (a 4, .inr (4, [.ref (a 1), .ref (a 2), .ref (a 3), .ref (a 14), .int (sB_heads σ), .int (sB_backs σ), .int (sB_knots σ)])), (a 5, .inl (cs 0, 64, .inl (sB_deg σ))), (a 6, .inl (cs 1, 512, .inl (sB_ends σ))), (a 7, .inl (cs 2, 64, .inl (sB_orders σ))), (a 8, .inl (cs 3, 64, .inl (sB_left σ))), (a 9, .inl (cs 4, 64, .inl (sB_open σ))), (a 10, .inl (cs 5, 64, .inl (sB_taken σ))), (a 11, .inl (cs 6, 64, .inr (.inl (sB_comers σ)))), (a 12, .inl (cs 7, 64, .inl (sB_comings σ))), (a 13, .inl (cs 8, 64, .inr (.inl (sB_rof σ)))), (a 14, .inl (cs 9, 64, .inr (.inl (sB_lof σ))))]
theorem gB_stale_stale (σ : SB) (z : Int32) : sB_stale (uB_stale σ z) = z := rfl
theorem gB_stale_deg (σ : SB) (z : Nat → Int32) : sB_stale (uB_deg σ z) = sB_stale σ := rfl
theorem gB_stale_ends (σ : SB) (z : Nat → Int32) : sB_stale (uB_ends σ z) = sB_stale σ := rfl
theorem gB_stale_blocks (σ : SB) (z : Int32) : sB_stale (uB_blocks σ z) = sB_stale σ := rfl
theorem gB_stale_ways (σ : SB) (z : Int32) : sB_stale (uB_ways σ z) = sB_stale σ := rfl
theorem gB_stale_orders (σ : SB) (z : Nat → Int32) : sB_stale (uB_orders σ z) = sB_stale σ := rfl
theorem gB_stale_left (σ : SB) (z : Nat → Int32) : sB_stale (uB_left σ z) = sB_stale σ := rfl
theorem gB_stale_open (σ : SB) (z : Nat → Int32) : sB_stale (uB_open σ z) = sB_stale σ := rfl
theorem gB_stale_taken (σ : SB) (z : Nat → Int32) : sB_stale (uB_taken σ z) = sB_stale σ := rfl
theorem gB_stale_comers (σ : SB) (z : Nat → Int64) : sB_stale (uB_comers σ z) = sB_stale σ := rfl
theorem gB_stale_comings (σ : SB) (z : Nat → Int32) : sB_stale (uB_comings σ z) = sB_stale σ := rfl
theorem gB_stale_reached (σ : SB) (z : Int32) : sB_stale (uB_reached σ z) = sB_stale σ := rfl
theorem gB_stale_rset (σ : SB) (z : Int64) : sB_stale (uB_rset σ z) = sB_stale σ := rfl
theorem gB_stale_rof (σ : SB) (z : Nat → Int64) : sB_stale (uB_rof σ z) = sB_stale σ := rfl
theorem gB_stale_lof (σ : SB) (z : Nat → Int64) : sB_stale (uB_lof σ z) = sB_stale σ := rfl
theorem gB_stale_heads (σ : SB) (z : Int32) : sB_stale (uB_heads σ z) = sB_stale σ := rfl
theorem gB_stale_backs (σ : SB) (z : Int32) : sB_stale (uB_backs σ z) = sB_stale σ := rfl
theorem gB_stale_knots (σ : SB) (z : Int32) : sB_stale (uB_knots σ z) = sB_stale σ := rfl
theorem gB_deg_stale (σ : SB) (z : Int32) : sB_deg (uB_stale σ z) = sB_deg σ := rfl
theorem gB_deg_deg (σ : SB) (z : Nat → Int32) : sB_deg (uB_deg σ z) = z := rfl
theorem gB_deg_ends (σ : SB) (z : Nat → Int32) : sB_deg (uB_ends σ z) = sB_deg σ := rfl
theorem gB_deg_blocks (σ : SB) (z : Int32) : sB_deg (uB_blocks σ z) = sB_deg σ := rfl
theorem gB_deg_ways (σ : SB) (z : Int32) : sB_deg (uB_ways σ z) = sB_deg σ := rfl
theorem gB_deg_orders (σ : SB) (z : Nat → Int32) : sB_deg (uB_orders σ z) = sB_deg σ := rfl
theorem gB_deg_left (σ : SB) (z : Nat → Int32) : sB_deg (uB_left σ z) = sB_deg σ := rfl
theorem gB_deg_open (σ : SB) (z : Nat → Int32) : sB_deg (uB_open σ z) = sB_deg σ := rfl
theorem gB_deg_taken (σ : SB) (z : Nat → Int32) : sB_deg (uB_taken σ z) = sB_deg σ := rfl
theorem gB_deg_comers (σ : SB) (z : Nat → Int64) : sB_deg (uB_comers σ z) = sB_deg σ := rfl
theorem gB_deg_comings (σ : SB) (z : Nat → Int32) : sB_deg (uB_comings σ z) = sB_deg σ := rfl
theorem gB_deg_reached (σ : SB) (z : Int32) : sB_deg (uB_reached σ z) = sB_deg σ := rfl
theorem gB_deg_rset (σ : SB) (z : Int64) : sB_deg (uB_rset σ z) = sB_deg σ := rfl
theorem gB_deg_rof (σ : SB) (z : Nat → Int64) : sB_deg (uB_rof σ z) = sB_deg σ := rfl
theorem gB_deg_lof (σ : SB) (z : Nat → Int64) : sB_deg (uB_lof σ z) = sB_deg σ := rfl
theorem gB_deg_heads (σ : SB) (z : Int32) : sB_deg (uB_heads σ z) = sB_deg σ := rfl
theorem gB_deg_backs (σ : SB) (z : Int32) : sB_deg (uB_backs σ z) = sB_deg σ := rfl
theorem gB_deg_knots (σ : SB) (z : Int32) : sB_deg (uB_knots σ z) = sB_deg σ := rfl
theorem gB_ends_stale (σ : SB) (z : Int32) : sB_ends (uB_stale σ z) = sB_ends σ := rfl
theorem gB_ends_deg (σ : SB) (z : Nat → Int32) : sB_ends (uB_deg σ z) = sB_ends σ := rfl
theorem gB_ends_ends (σ : SB) (z : Nat → Int32) : sB_ends (uB_ends σ z) = z := rfl
theorem gB_ends_blocks (σ : SB) (z : Int32) : sB_ends (uB_blocks σ z) = sB_ends σ := rfl
theorem gB_ends_ways (σ : SB) (z : Int32) : sB_ends (uB_ways σ z) = sB_ends σ := rfl
theorem gB_ends_orders (σ : SB) (z : Nat → Int32) : sB_ends (uB_orders σ z) = sB_ends σ := rfl
theorem gB_ends_left (σ : SB) (z : Nat → Int32) : sB_ends (uB_left σ z) = sB_ends σ := rfl
theorem gB_ends_open (σ : SB) (z : Nat → Int32) : sB_ends (uB_open σ z) = sB_ends σ := rfl
theorem gB_ends_taken (σ : SB) (z : Nat → Int32) : sB_ends (uB_taken σ z) = sB_ends σ := rfl
theorem gB_ends_comers (σ : SB) (z : Nat → Int64) : sB_ends (uB_comers σ z) = sB_ends σ := rfl
theorem gB_ends_comings (σ : SB) (z : Nat → Int32) : sB_ends (uB_comings σ z) = sB_ends σ := rfl
theorem gB_ends_reached (σ : SB) (z : Int32) : sB_ends (uB_reached σ z) = sB_ends σ := rfl
theorem gB_ends_rset (σ : SB) (z : Int64) : sB_ends (uB_rset σ z) = sB_ends σ := rfl
theorem gB_ends_rof (σ : SB) (z : Nat → Int64) : sB_ends (uB_rof σ z) = sB_ends σ := rfl
theorem gB_ends_lof (σ : SB) (z : Nat → Int64) : sB_ends (uB_lof σ z) = sB_ends σ := rfl
theorem gB_ends_heads (σ : SB) (z : Int32) : sB_ends (uB_heads σ z) = sB_ends σ := rfl
theorem gB_ends_backs (σ : SB) (z : Int32) : sB_ends (uB_backs σ z) = sB_ends σ := rfl
theorem gB_ends_knots (σ : SB) (z : Int32) : sB_ends (uB_knots σ z) = sB_ends σ := rfl
theorem gB_blocks_stale (σ : SB) (z : Int32) : sB_blocks (uB_stale σ z) = sB_blocks σ := rfl
theorem gB_blocks_deg (σ : SB) (z : Nat → Int32) : sB_blocks (uB_deg σ z) = sB_blocks σ := rfl
theorem gB_blocks_ends (σ : SB) (z : Nat → Int32) : sB_blocks (uB_ends σ z) = sB_blocks σ := rfl
theorem gB_blocks_blocks (σ : SB) (z : Int32) : sB_blocks (uB_blocks σ z) = z := rfl
theorem gB_blocks_ways (σ : SB) (z : Int32) : sB_blocks (uB_ways σ z) = sB_blocks σ := rfl
theorem gB_blocks_orders (σ : SB) (z : Nat → Int32) : sB_blocks (uB_orders σ z) = sB_blocks σ := rfl
theorem gB_blocks_left (σ : SB) (z : Nat → Int32) : sB_blocks (uB_left σ z) = sB_blocks σ := rfl
theorem gB_blocks_open (σ : SB) (z : Nat → Int32) : sB_blocks (uB_open σ z) = sB_blocks σ := rfl
theorem gB_blocks_taken (σ : SB) (z : Nat → Int32) : sB_blocks (uB_taken σ z) = sB_blocks σ := rfl
theorem gB_blocks_comers (σ : SB) (z : Nat → Int64) : sB_blocks (uB_comers σ z) = sB_blocks σ := rfl
theorem gB_blocks_comings (σ : SB) (z : Nat → Int32) : sB_blocks (uB_comings σ z) = sB_blocks σ := rfl
theorem gB_blocks_reached (σ : SB) (z : Int32) : sB_blocks (uB_reached σ z) = sB_blocks σ := rfl
theorem gB_blocks_rset (σ : SB) (z : Int64) : sB_blocks (uB_rset σ z) = sB_blocks σ := rfl
theorem gB_blocks_rof (σ : SB) (z : Nat → Int64) : sB_blocks (uB_rof σ z) = sB_blocks σ := rfl
theorem gB_blocks_lof (σ : SB) (z : Nat → Int64) : sB_blocks (uB_lof σ z) = sB_blocks σ := rfl
theorem gB_blocks_heads (σ : SB) (z : Int32) : sB_blocks (uB_heads σ z) = sB_blocks σ := rfl
theorem gB_blocks_backs (σ : SB) (z : Int32) : sB_blocks (uB_backs σ z) = sB_blocks σ := rfl
theorem gB_blocks_knots (σ : SB) (z : Int32) : sB_blocks (uB_knots σ z) = sB_blocks σ := rfl
theorem gB_ways_stale (σ : SB) (z : Int32) : sB_ways (uB_stale σ z) = sB_ways σ := rfl
theorem gB_ways_deg (σ : SB) (z : Nat → Int32) : sB_ways (uB_deg σ z) = sB_ways σ := rfl
theorem gB_ways_ends (σ : SB) (z : Nat → Int32) : sB_ways (uB_ends σ z) = sB_ways σ := rfl
theorem gB_ways_blocks (σ : SB) (z : Int32) : sB_ways (uB_blocks σ z) = sB_ways σ := rfl
theorem gB_ways_ways (σ : SB) (z : Int32) : sB_ways (uB_ways σ z) = z := rfl
theorem gB_ways_orders (σ : SB) (z : Nat → Int32) : sB_ways (uB_orders σ z) = sB_ways σ := rfl
theorem gB_ways_left (σ : SB) (z : Nat → Int32) : sB_ways (uB_left σ z) = sB_ways σ := rfl
theorem gB_ways_open (σ : SB) (z : Nat → Int32) : sB_ways (uB_open σ z) = sB_ways σ := rfl
theorem gB_ways_taken (σ : SB) (z : Nat → Int32) : sB_ways (uB_taken σ z) = sB_ways σ := rfl
theorem gB_ways_comers (σ : SB) (z : Nat → Int64) : sB_ways (uB_comers σ z) = sB_ways σ := rfl
theorem gB_ways_comings (σ : SB) (z : Nat → Int32) : sB_ways (uB_comings σ z) = sB_ways σ := rfl
theorem gB_ways_reached (σ : SB) (z : Int32) : sB_ways (uB_reached σ z) = sB_ways σ := rfl
theorem gB_ways_rset (σ : SB) (z : Int64) : sB_ways (uB_rset σ z) = sB_ways σ := rfl
theorem gB_ways_rof (σ : SB) (z : Nat → Int64) : sB_ways (uB_rof σ z) = sB_ways σ := rfl
theorem gB_ways_lof (σ : SB) (z : Nat → Int64) : sB_ways (uB_lof σ z) = sB_ways σ := rfl
theorem gB_ways_heads (σ : SB) (z : Int32) : sB_ways (uB_heads σ z) = sB_ways σ := rfl
theorem gB_ways_backs (σ : SB) (z : Int32) : sB_ways (uB_backs σ z) = sB_ways σ := rfl
theorem gB_ways_knots (σ : SB) (z : Int32) : sB_ways (uB_knots σ z) = sB_ways σ := rfl
theorem gB_orders_stale (σ : SB) (z : Int32) : sB_orders (uB_stale σ z) = sB_orders σ := rfl
theorem gB_orders_deg (σ : SB) (z : Nat → Int32) : sB_orders (uB_deg σ z) = sB_orders σ := rfl
theorem gB_orders_ends (σ : SB) (z : Nat → Int32) : sB_orders (uB_ends σ z) = sB_orders σ := rfl
theorem gB_orders_blocks (σ : SB) (z : Int32) : sB_orders (uB_blocks σ z) = sB_orders σ := rfl
theorem gB_orders_ways (σ : SB) (z : Int32) : sB_orders (uB_ways σ z) = sB_orders σ := rfl
theorem gB_orders_orders (σ : SB) (z : Nat → Int32) : sB_orders (uB_orders σ z) = z := rfl
theorem gB_orders_left (σ : SB) (z : Nat → Int32) : sB_orders (uB_left σ z) = sB_orders σ := rfl
theorem gB_orders_open (σ : SB) (z : Nat → Int32) : sB_orders (uB_open σ z) = sB_orders σ := rfl
theorem gB_orders_taken (σ : SB) (z : Nat → Int32) : sB_orders (uB_taken σ z) = sB_orders σ := rfl
theorem gB_orders_comers (σ : SB) (z : Nat → Int64) : sB_orders (uB_comers σ z) = sB_orders σ := rfl
theorem gB_orders_comings (σ : SB) (z : Nat → Int32) : sB_orders (uB_comings σ z) = sB_orders σ := rfl
theorem gB_orders_reached (σ : SB) (z : Int32) : sB_orders (uB_reached σ z) = sB_orders σ := rfl
theorem gB_orders_rset (σ : SB) (z : Int64) : sB_orders (uB_rset σ z) = sB_orders σ := rfl
theorem gB_orders_rof (σ : SB) (z : Nat → Int64) : sB_orders (uB_rof σ z) = sB_orders σ := rfl
theorem gB_orders_lof (σ : SB) (z : Nat → Int64) : sB_orders (uB_lof σ z) = sB_orders σ := rfl
theorem gB_orders_heads (σ : SB) (z : Int32) : sB_orders (uB_heads σ z) = sB_orders σ := rfl
theorem gB_orders_backs (σ : SB) (z : Int32) : sB_orders (uB_backs σ z) = sB_orders σ := rfl
theorem gB_orders_knots (σ : SB) (z : Int32) : sB_orders (uB_knots σ z) = sB_orders σ := rfl
theorem gB_left_stale (σ : SB) (z : Int32) : sB_left (uB_stale σ z) = sB_left σ := rfl
theorem gB_left_deg (σ : SB) (z : Nat → Int32) : sB_left (uB_deg σ z) = sB_left σ := rfl
theorem gB_left_ends (σ : SB) (z : Nat → Int32) : sB_left (uB_ends σ z) = sB_left σ := rfl
theorem gB_left_blocks (σ : SB) (z : Int32) : sB_left (uB_blocks σ z) = sB_left σ := rfl
theorem gB_left_ways (σ : SB) (z : Int32) : sB_left (uB_ways σ z) = sB_left σ := rfl
theorem gB_left_orders (σ : SB) (z : Nat → Int32) : sB_left (uB_orders σ z) = sB_left σ := rfl
theorem gB_left_left (σ : SB) (z : Nat → Int32) : sB_left (uB_left σ z) = z := rfl
theorem gB_left_open (σ : SB) (z : Nat → Int32) : sB_left (uB_open σ z) = sB_left σ := rfl
theorem gB_left_taken (σ : SB) (z : Nat → Int32) : sB_left (uB_taken σ z) = sB_left σ := rfl
theorem gB_left_comers (σ : SB) (z : Nat → Int64) : sB_left (uB_comers σ z) = sB_left σ := rfl
theorem gB_left_comings (σ : SB) (z : Nat → Int32) : sB_left (uB_comings σ z) = sB_left σ := rfl
theorem gB_left_reached (σ : SB) (z : Int32) : sB_left (uB_reached σ z) = sB_left σ := rfl
theorem gB_left_rset (σ : SB) (z : Int64) : sB_left (uB_rset σ z) = sB_left σ := rfl
theorem gB_left_rof (σ : SB) (z : Nat → Int64) : sB_left (uB_rof σ z) = sB_left σ := rfl
theorem gB_left_lof (σ : SB) (z : Nat → Int64) : sB_left (uB_lof σ z) = sB_left σ := rfl
theorem gB_left_heads (σ : SB) (z : Int32) : sB_left (uB_heads σ z) = sB_left σ := rfl
theorem gB_left_backs (σ : SB) (z : Int32) : sB_left (uB_backs σ z) = sB_left σ := rfl
theorem gB_left_knots (σ : SB) (z : Int32) : sB_left (uB_knots σ z) = sB_left σ := rfl
theorem gB_open_stale (σ : SB) (z : Int32) : sB_open (uB_stale σ z) = sB_open σ := rfl
theorem gB_open_deg (σ : SB) (z : Nat → Int32) : sB_open (uB_deg σ z) = sB_open σ := rfl
theorem gB_open_ends (σ : SB) (z : Nat → Int32) : sB_open (uB_ends σ z) = sB_open σ := rfl
theorem gB_open_blocks (σ : SB) (z : Int32) : sB_open (uB_blocks σ z) = sB_open σ := rfl
theorem gB_open_ways (σ : SB) (z : Int32) : sB_open (uB_ways σ z) = sB_open σ := rfl
theorem gB_open_orders (σ : SB) (z : Nat → Int32) : sB_open (uB_orders σ z) = sB_open σ := rfl
theorem gB_open_left (σ : SB) (z : Nat → Int32) : sB_open (uB_left σ z) = sB_open σ := rfl
theorem gB_open_open (σ : SB) (z : Nat → Int32) : sB_open (uB_open σ z) = z := rfl
theorem gB_open_taken (σ : SB) (z : Nat → Int32) : sB_open (uB_taken σ z) = sB_open σ := rfl
theorem gB_open_comers (σ : SB) (z : Nat → Int64) : sB_open (uB_comers σ z) = sB_open σ := rfl
theorem gB_open_comings (σ : SB) (z : Nat → Int32) : sB_open (uB_comings σ z) = sB_open σ := rfl
theorem gB_open_reached (σ : SB) (z : Int32) : sB_open (uB_reached σ z) = sB_open σ := rfl
theorem gB_open_rset (σ : SB) (z : Int64) : sB_open (uB_rset σ z) = sB_open σ := rfl
theorem gB_open_rof (σ : SB) (z : Nat → Int64) : sB_open (uB_rof σ z) = sB_open σ := rfl
theorem gB_open_lof (σ : SB) (z : Nat → Int64) : sB_open (uB_lof σ z) = sB_open σ := rfl
theorem gB_open_heads (σ : SB) (z : Int32) : sB_open (uB_heads σ z) = sB_open σ := rfl
theorem gB_open_backs (σ : SB) (z : Int32) : sB_open (uB_backs σ z) = sB_open σ := rfl
theorem gB_open_knots (σ : SB) (z : Int32) : sB_open (uB_knots σ z) = sB_open σ := rfl
theorem gB_taken_stale (σ : SB) (z : Int32) : sB_taken (uB_stale σ z) = sB_taken σ := rfl
theorem gB_taken_deg (σ : SB) (z : Nat → Int32) : sB_taken (uB_deg σ z) = sB_taken σ := rfl
theorem gB_taken_ends (σ : SB) (z : Nat → Int32) : sB_taken (uB_ends σ z) = sB_taken σ := rfl
theorem gB_taken_blocks (σ : SB) (z : Int32) : sB_taken (uB_blocks σ z) = sB_taken σ := rfl
theorem gB_taken_ways (σ : SB) (z : Int32) : sB_taken (uB_ways σ z) = sB_taken σ := rfl
theorem gB_taken_orders (σ : SB) (z : Nat → Int32) : sB_taken (uB_orders σ z) = sB_taken σ := rfl
theorem gB_taken_left (σ : SB) (z : Nat → Int32) : sB_taken (uB_left σ z) = sB_taken σ := rfl
theorem gB_taken_open (σ : SB) (z : Nat → Int32) : sB_taken (uB_open σ z) = sB_taken σ := rfl
theorem gB_taken_taken (σ : SB) (z : Nat → Int32) : sB_taken (uB_taken σ z) = z := rfl
theorem gB_taken_comers (σ : SB) (z : Nat → Int64) : sB_taken (uB_comers σ z) = sB_taken σ := rfl
theorem gB_taken_comings (σ : SB) (z : Nat → Int32) : sB_taken (uB_comings σ z) = sB_taken σ := rfl
theorem gB_taken_reached (σ : SB) (z : Int32) : sB_taken (uB_reached σ z) = sB_taken σ := rfl
theorem gB_taken_rset (σ : SB) (z : Int64) : sB_taken (uB_rset σ z) = sB_taken σ := rfl
theorem gB_taken_rof (σ : SB) (z : Nat → Int64) : sB_taken (uB_rof σ z) = sB_taken σ := rfl
theorem gB_taken_lof (σ : SB) (z : Nat → Int64) : sB_taken (uB_lof σ z) = sB_taken σ := rfl
theorem gB_taken_heads (σ : SB) (z : Int32) : sB_taken (uB_heads σ z) = sB_taken σ := rfl
theorem gB_taken_backs (σ : SB) (z : Int32) : sB_taken (uB_backs σ z) = sB_taken σ := rfl
theorem gB_taken_knots (σ : SB) (z : Int32) : sB_taken (uB_knots σ z) = sB_taken σ := rfl
theorem gB_comers_stale (σ : SB) (z : Int32) : sB_comers (uB_stale σ z) = sB_comers σ := rfl
theorem gB_comers_deg (σ : SB) (z : Nat → Int32) : sB_comers (uB_deg σ z) = sB_comers σ := rfl
theorem gB_comers_ends (σ : SB) (z : Nat → Int32) : sB_comers (uB_ends σ z) = sB_comers σ := rfl
theorem gB_comers_blocks (σ : SB) (z : Int32) : sB_comers (uB_blocks σ z) = sB_comers σ := rfl
theorem gB_comers_ways (σ : SB) (z : Int32) : sB_comers (uB_ways σ z) = sB_comers σ := rfl
theorem gB_comers_orders (σ : SB) (z : Nat → Int32) : sB_comers (uB_orders σ z) = sB_comers σ := rfl
theorem gB_comers_left (σ : SB) (z : Nat → Int32) : sB_comers (uB_left σ z) = sB_comers σ := rfl
theorem gB_comers_open (σ : SB) (z : Nat → Int32) : sB_comers (uB_open σ z) = sB_comers σ := rfl
theorem gB_comers_taken (σ : SB) (z : Nat → Int32) : sB_comers (uB_taken σ z) = sB_comers σ := rfl
theorem gB_comers_comers (σ : SB) (z : Nat → Int64) : sB_comers (uB_comers σ z) = z := rfl
theorem gB_comers_comings (σ : SB) (z : Nat → Int32) : sB_comers (uB_comings σ z) = sB_comers σ := rfl
theorem gB_comers_reached (σ : SB) (z : Int32) : sB_comers (uB_reached σ z) = sB_comers σ := rfl
theorem gB_comers_rset (σ : SB) (z : Int64) : sB_comers (uB_rset σ z) = sB_comers σ := rfl
theorem gB_comers_rof (σ : SB) (z : Nat → Int64) : sB_comers (uB_rof σ z) = sB_comers σ := rfl
theorem gB_comers_lof (σ : SB) (z : Nat → Int64) : sB_comers (uB_lof σ z) = sB_comers σ := rfl
theorem gB_comers_heads (σ : SB) (z : Int32) : sB_comers (uB_heads σ z) = sB_comers σ := rfl
theorem gB_comers_backs (σ : SB) (z : Int32) : sB_comers (uB_backs σ z) = sB_comers σ := rfl
theorem gB_comers_knots (σ : SB) (z : Int32) : sB_comers (uB_knots σ z) = sB_comers σ := rfl
theorem gB_comings_stale (σ : SB) (z : Int32) : sB_comings (uB_stale σ z) = sB_comings σ := rfl
theorem gB_comings_deg (σ : SB) (z : Nat → Int32) : sB_comings (uB_deg σ z) = sB_comings σ := rfl
theorem gB_comings_ends (σ : SB) (z : Nat → Int32) : sB_comings (uB_ends σ z) = sB_comings σ := rfl
theorem gB_comings_blocks (σ : SB) (z : Int32) : sB_comings (uB_blocks σ z) = sB_comings σ := rfl
theorem gB_comings_ways (σ : SB) (z : Int32) : sB_comings (uB_ways σ z) = sB_comings σ := rfl
theorem gB_comings_orders (σ : SB) (z : Nat → Int32) : sB_comings (uB_orders σ z) = sB_comings σ := rfl
theorem gB_comings_left (σ : SB) (z : Nat → Int32) : sB_comings (uB_left σ z) = sB_comings σ := rfl
theorem gB_comings_open (σ : SB) (z : Nat → Int32) : sB_comings (uB_open σ z) = sB_comings σ := rfl
theorem gB_comings_taken (σ : SB) (z : Nat → Int32) : sB_comings (uB_taken σ z) = sB_comings σ := rfl
theorem gB_comings_comers (σ : SB) (z : Nat → Int64) : sB_comings (uB_comers σ z) = sB_comings σ := rfl
theorem gB_comings_comings (σ : SB) (z : Nat → Int32) : sB_comings (uB_comings σ z) = z := rfl
theorem gB_comings_reached (σ : SB) (z : Int32) : sB_comings (uB_reached σ z) = sB_comings σ := rfl
theorem gB_comings_rset (σ : SB) (z : Int64) : sB_comings (uB_rset σ z) = sB_comings σ := rfl
theorem gB_comings_rof (σ : SB) (z : Nat → Int64) : sB_comings (uB_rof σ z) = sB_comings σ := rfl
theorem gB_comings_lof (σ : SB) (z : Nat → Int64) : sB_comings (uB_lof σ z) = sB_comings σ := rfl
theorem gB_comings_heads (σ : SB) (z : Int32) : sB_comings (uB_heads σ z) = sB_comings σ := rfl
theorem gB_comings_backs (σ : SB) (z : Int32) : sB_comings (uB_backs σ z) = sB_comings σ := rfl
theorem gB_comings_knots (σ : SB) (z : Int32) : sB_comings (uB_knots σ z) = sB_comings σ := rfl
theorem gB_reached_stale (σ : SB) (z : Int32) : sB_reached (uB_stale σ z) = sB_reached σ := rfl
theorem gB_reached_deg (σ : SB) (z : Nat → Int32) : sB_reached (uB_deg σ z) = sB_reached σ := rfl
theorem gB_reached_ends (σ : SB) (z : Nat → Int32) : sB_reached (uB_ends σ z) = sB_reached σ := rfl
theorem gB_reached_blocks (σ : SB) (z : Int32) : sB_reached (uB_blocks σ z) = sB_reached σ := rfl
theorem gB_reached_ways (σ : SB) (z : Int32) : sB_reached (uB_ways σ z) = sB_reached σ := rfl
theorem gB_reached_orders (σ : SB) (z : Nat → Int32) : sB_reached (uB_orders σ z) = sB_reached σ := rfl
theorem gB_reached_left (σ : SB) (z : Nat → Int32) : sB_reached (uB_left σ z) = sB_reached σ := rfl
theorem gB_reached_open (σ : SB) (z : Nat → Int32) : sB_reached (uB_open σ z) = sB_reached σ := rfl
theorem gB_reached_taken (σ : SB) (z : Nat → Int32) : sB_reached (uB_taken σ z) = sB_reached σ := rfl
theorem gB_reached_comers (σ : SB) (z : Nat → Int64) : sB_reached (uB_comers σ z) = sB_reached σ := rfl
theorem gB_reached_comings (σ : SB) (z : Nat → Int32) : sB_reached (uB_comings σ z) = sB_reached σ := rfl
theorem gB_reached_reached (σ : SB) (z : Int32) : sB_reached (uB_reached σ z) = z := rfl
theorem gB_reached_rset (σ : SB) (z : Int64) : sB_reached (uB_rset σ z) = sB_reached σ := rfl
theorem gB_reached_rof (σ : SB) (z : Nat → Int64) : sB_reached (uB_rof σ z) = sB_reached σ := rfl
theorem gB_reached_lof (σ : SB) (z : Nat → Int64) : sB_reached (uB_lof σ z) = sB_reached σ := rfl
theorem gB_reached_heads (σ : SB) (z : Int32) : sB_reached (uB_heads σ z) = sB_reached σ := rfl
theorem gB_reached_backs (σ : SB) (z : Int32) : sB_reached (uB_backs σ z) = sB_reached σ := rfl
theorem gB_reached_knots (σ : SB) (z : Int32) : sB_reached (uB_knots σ z) = sB_reached σ := rfl
theorem gB_rset_stale (σ : SB) (z : Int32) : sB_rset (uB_stale σ z) = sB_rset σ := rfl
theorem gB_rset_deg (σ : SB) (z : Nat → Int32) : sB_rset (uB_deg σ z) = sB_rset σ := rfl
theorem gB_rset_ends (σ : SB) (z : Nat → Int32) : sB_rset (uB_ends σ z) = sB_rset σ := rfl
theorem gB_rset_blocks (σ : SB) (z : Int32) : sB_rset (uB_blocks σ z) = sB_rset σ := rfl
theorem gB_rset_ways (σ : SB) (z : Int32) : sB_rset (uB_ways σ z) = sB_rset σ := rfl
theorem gB_rset_orders (σ : SB) (z : Nat → Int32) : sB_rset (uB_orders σ z) = sB_rset σ := rfl
theorem gB_rset_left (σ : SB) (z : Nat → Int32) : sB_rset (uB_left σ z) = sB_rset σ := rfl
theorem gB_rset_open (σ : SB) (z : Nat → Int32) : sB_rset (uB_open σ z) = sB_rset σ := rfl
theorem gB_rset_taken (σ : SB) (z : Nat → Int32) : sB_rset (uB_taken σ z) = sB_rset σ := rfl
theorem gB_rset_comers (σ : SB) (z : Nat → Int64) : sB_rset (uB_comers σ z) = sB_rset σ := rfl
theorem gB_rset_comings (σ : SB) (z : Nat → Int32) : sB_rset (uB_comings σ z) = sB_rset σ := rfl
theorem gB_rset_reached (σ : SB) (z : Int32) : sB_rset (uB_reached σ z) = sB_rset σ := rfl
theorem gB_rset_rset (σ : SB) (z : Int64) : sB_rset (uB_rset σ z) = z := rfl
theorem gB_rset_rof (σ : SB) (z : Nat → Int64) : sB_rset (uB_rof σ z) = sB_rset σ := rfl
theorem gB_rset_lof (σ : SB) (z : Nat → Int64) : sB_rset (uB_lof σ z) = sB_rset σ := rfl
theorem gB_rset_heads (σ : SB) (z : Int32) : sB_rset (uB_heads σ z) = sB_rset σ := rfl
theorem gB_rset_backs (σ : SB) (z : Int32) : sB_rset (uB_backs σ z) = sB_rset σ := rfl
theorem gB_rset_knots (σ : SB) (z : Int32) : sB_rset (uB_knots σ z) = sB_rset σ := rfl
theorem gB_rof_stale (σ : SB) (z : Int32) : sB_rof (uB_stale σ z) = sB_rof σ := rfl
theorem gB_rof_deg (σ : SB) (z : Nat → Int32) : sB_rof (uB_deg σ z) = sB_rof σ := rfl
theorem gB_rof_ends (σ : SB) (z : Nat → Int32) : sB_rof (uB_ends σ z) = sB_rof σ := rfl
theorem gB_rof_blocks (σ : SB) (z : Int32) : sB_rof (uB_blocks σ z) = sB_rof σ := rfl
theorem gB_rof_ways (σ : SB) (z : Int32) : sB_rof (uB_ways σ z) = sB_rof σ := rfl
theorem gB_rof_orders (σ : SB) (z : Nat → Int32) : sB_rof (uB_orders σ z) = sB_rof σ := rfl
theorem gB_rof_left (σ : SB) (z : Nat → Int32) : sB_rof (uB_left σ z) = sB_rof σ := rfl
theorem gB_rof_open (σ : SB) (z : Nat → Int32) : sB_rof (uB_open σ z) = sB_rof σ := rfl
theorem gB_rof_taken (σ : SB) (z : Nat → Int32) : sB_rof (uB_taken σ z) = sB_rof σ := rfl
theorem gB_rof_comers (σ : SB) (z : Nat → Int64) : sB_rof (uB_comers σ z) = sB_rof σ := rfl
theorem gB_rof_comings (σ : SB) (z : Nat → Int32) : sB_rof (uB_comings σ z) = sB_rof σ := rfl
theorem gB_rof_reached (σ : SB) (z : Int32) : sB_rof (uB_reached σ z) = sB_rof σ := rfl
theorem gB_rof_rset (σ : SB) (z : Int64) : sB_rof (uB_rset σ z) = sB_rof σ := rfl
theorem gB_rof_rof (σ : SB) (z : Nat → Int64) : sB_rof (uB_rof σ z) = z := rfl
theorem gB_rof_lof (σ : SB) (z : Nat → Int64) : sB_rof (uB_lof σ z) = sB_rof σ := rfl
theorem gB_rof_heads (σ : SB) (z : Int32) : sB_rof (uB_heads σ z) = sB_rof σ := rfl
theorem gB_rof_backs (σ : SB) (z : Int32) : sB_rof (uB_backs σ z) = sB_rof σ := rfl
theorem gB_rof_knots (σ : SB) (z : Int32) : sB_rof (uB_knots σ z) = sB_rof σ := rfl
theorem gB_lof_stale (σ : SB) (z : Int32) : sB_lof (uB_stale σ z) = sB_lof σ := rfl
theorem gB_lof_deg (σ : SB) (z : Nat → Int32) : sB_lof (uB_deg σ z) = sB_lof σ := rfl
theorem gB_lof_ends (σ : SB) (z : Nat → Int32) : sB_lof (uB_ends σ z) = sB_lof σ := rfl
theorem gB_lof_blocks (σ : SB) (z : Int32) : sB_lof (uB_blocks σ z) = sB_lof σ := rfl
theorem gB_lof_ways (σ : SB) (z : Int32) : sB_lof (uB_ways σ z) = sB_lof σ := rfl
theorem gB_lof_orders (σ : SB) (z : Nat → Int32) : sB_lof (uB_orders σ z) = sB_lof σ := rfl
theorem gB_lof_left (σ : SB) (z : Nat → Int32) : sB_lof (uB_left σ z) = sB_lof σ := rfl
theorem gB_lof_open (σ : SB) (z : Nat → Int32) : sB_lof (uB_open σ z) = sB_lof σ := rfl
theorem gB_lof_taken (σ : SB) (z : Nat → Int32) : sB_lof (uB_taken σ z) = sB_lof σ := rfl
theorem gB_lof_comers (σ : SB) (z : Nat → Int64) : sB_lof (uB_comers σ z) = sB_lof σ := rfl
theorem gB_lof_comings (σ : SB) (z : Nat → Int32) : sB_lof (uB_comings σ z) = sB_lof σ := rfl
theorem gB_lof_reached (σ : SB) (z : Int32) : sB_lof (uB_reached σ z) = sB_lof σ := rfl
theorem gB_lof_rset (σ : SB) (z : Int64) : sB_lof (uB_rset σ z) = sB_lof σ := rfl
theorem gB_lof_rof (σ : SB) (z : Nat → Int64) : sB_lof (uB_rof σ z) = sB_lof σ := rfl
theorem gB_lof_lof (σ : SB) (z : Nat → Int64) : sB_lof (uB_lof σ z) = z := rfl
theorem gB_lof_heads (σ : SB) (z : Int32) : sB_lof (uB_heads σ z) = sB_lof σ := rfl
theorem gB_lof_backs (σ : SB) (z : Int32) : sB_lof (uB_backs σ z) = sB_lof σ := rfl
theorem gB_lof_knots (σ : SB) (z : Int32) : sB_lof (uB_knots σ z) = sB_lof σ := rfl
theorem gB_heads_stale (σ : SB) (z : Int32) : sB_heads (uB_stale σ z) = sB_heads σ := rfl
theorem gB_heads_deg (σ : SB) (z : Nat → Int32) : sB_heads (uB_deg σ z) = sB_heads σ := rfl
theorem gB_heads_ends (σ : SB) (z : Nat → Int32) : sB_heads (uB_ends σ z) = sB_heads σ := rfl
theorem gB_heads_blocks (σ : SB) (z : Int32) : sB_heads (uB_blocks σ z) = sB_heads σ := rfl
theorem gB_heads_ways (σ : SB) (z : Int32) : sB_heads (uB_ways σ z) = sB_heads σ := rfl
theorem gB_heads_orders (σ : SB) (z : Nat → Int32) : sB_heads (uB_orders σ z) = sB_heads σ := rfl
theorem gB_heads_left (σ : SB) (z : Nat → Int32) : sB_heads (uB_left σ z) = sB_heads σ := rfl
theorem gB_heads_open (σ : SB) (z : Nat → Int32) : sB_heads (uB_open σ z) = sB_heads σ := rfl
theorem gB_heads_taken (σ : SB) (z : Nat → Int32) : sB_heads (uB_taken σ z) = sB_heads σ := rfl
theorem gB_heads_comers (σ : SB) (z : Nat → Int64) : sB_heads (uB_comers σ z) = sB_heads σ := rfl
theorem gB_heads_comings (σ : SB) (z : Nat → Int32) : sB_heads (uB_comings σ z) = sB_heads σ := rfl
theorem gB_heads_reached (σ : SB) (z : Int32) : sB_heads (uB_reached σ z) = sB_heads σ := rfl
theorem gB_heads_rset (σ : SB) (z : Int64) : sB_heads (uB_rset σ z) = sB_heads σ := rfl
theorem gB_heads_rof (σ : SB) (z : Nat → Int64) : sB_heads (uB_rof σ z) = sB_heads σ := rfl
theorem gB_heads_lof (σ : SB) (z : Nat → Int64) : sB_heads (uB_lof σ z) = sB_heads σ := rfl
theorem gB_heads_heads (σ : SB) (z : Int32) : sB_heads (uB_heads σ z) = z := rfl
theorem gB_heads_backs (σ : SB) (z : Int32) : sB_heads (uB_backs σ z) = sB_heads σ := rfl
theorem gB_heads_knots (σ : SB) (z : Int32) : sB_heads (uB_knots σ z) = sB_heads σ := rfl
theorem gB_backs_stale (σ : SB) (z : Int32) : sB_backs (uB_stale σ z) = sB_backs σ := rfl
theorem gB_backs_deg (σ : SB) (z : Nat → Int32) : sB_backs (uB_deg σ z) = sB_backs σ := rfl
theorem gB_backs_ends (σ : SB) (z : Nat → Int32) : sB_backs (uB_ends σ z) = sB_backs σ := rfl
theorem gB_backs_blocks (σ : SB) (z : Int32) : sB_backs (uB_blocks σ z) = sB_backs σ := rfl
theorem gB_backs_ways (σ : SB) (z : Int32) : sB_backs (uB_ways σ z) = sB_backs σ := rfl
theorem gB_backs_orders (σ : SB) (z : Nat → Int32) : sB_backs (uB_orders σ z) = sB_backs σ := rfl
theorem gB_backs_left (σ : SB) (z : Nat → Int32) : sB_backs (uB_left σ z) = sB_backs σ := rfl
theorem gB_backs_open (σ : SB) (z : Nat → Int32) : sB_backs (uB_open σ z) = sB_backs σ := rfl
theorem gB_backs_taken (σ : SB) (z : Nat → Int32) : sB_backs (uB_taken σ z) = sB_backs σ := rfl
theorem gB_backs_comers (σ : SB) (z : Nat → Int64) : sB_backs (uB_comers σ z) = sB_backs σ := rfl
theorem gB_backs_comings (σ : SB) (z : Nat → Int32) : sB_backs (uB_comings σ z) = sB_backs σ := rfl
theorem gB_backs_reached (σ : SB) (z : Int32) : sB_backs (uB_reached σ z) = sB_backs σ := rfl
theorem gB_backs_rset (σ : SB) (z : Int64) : sB_backs (uB_rset σ z) = sB_backs σ := rfl
theorem gB_backs_rof (σ : SB) (z : Nat → Int64) : sB_backs (uB_rof σ z) = sB_backs σ := rfl
theorem gB_backs_lof (σ : SB) (z : Nat → Int64) : sB_backs (uB_lof σ z) = sB_backs σ := rfl
theorem gB_backs_heads (σ : SB) (z : Int32) : sB_backs (uB_heads σ z) = sB_backs σ := rfl
theorem gB_backs_backs (σ : SB) (z : Int32) : sB_backs (uB_backs σ z) = z := rfl
theorem gB_backs_knots (σ : SB) (z : Int32) : sB_backs (uB_knots σ z) = sB_backs σ := rfl
theorem gB_knots_stale (σ : SB) (z : Int32) : sB_knots (uB_stale σ z) = sB_knots σ := rfl
theorem gB_knots_deg (σ : SB) (z : Nat → Int32) : sB_knots (uB_deg σ z) = sB_knots σ := rfl
theorem gB_knots_ends (σ : SB) (z : Nat → Int32) : sB_knots (uB_ends σ z) = sB_knots σ := rfl
theorem gB_knots_blocks (σ : SB) (z : Int32) : sB_knots (uB_blocks σ z) = sB_knots σ := rfl
theorem gB_knots_ways (σ : SB) (z : Int32) : sB_knots (uB_ways σ z) = sB_knots σ := rfl
theorem gB_knots_orders (σ : SB) (z : Nat → Int32) : sB_knots (uB_orders σ z) = sB_knots σ := rfl
theorem gB_knots_left (σ : SB) (z : Nat → Int32) : sB_knots (uB_left σ z) = sB_knots σ := rfl
theorem gB_knots_open (σ : SB) (z : Nat → Int32) : sB_knots (uB_open σ z) = sB_knots σ := rfl
theorem gB_knots_taken (σ : SB) (z : Nat → Int32) : sB_knots (uB_taken σ z) = sB_knots σ := rfl
theorem gB_knots_comers (σ : SB) (z : Nat → Int64) : sB_knots (uB_comers σ z) = sB_knots σ := rfl
theorem gB_knots_comings (σ : SB) (z : Nat → Int32) : sB_knots (uB_comings σ z) = sB_knots σ := rfl
theorem gB_knots_reached (σ : SB) (z : Int32) : sB_knots (uB_reached σ z) = sB_knots σ := rfl
theorem gB_knots_rset (σ : SB) (z : Int64) : sB_knots (uB_rset σ z) = sB_knots σ := rfl
theorem gB_knots_rof (σ : SB) (z : Nat → Int64) : sB_knots (uB_rof σ z) = sB_knots σ := rfl
theorem gB_knots_lof (σ : SB) (z : Nat → Int64) : sB_knots (uB_lof σ z) = sB_knots σ := rfl
theorem gB_knots_heads (σ : SB) (z : Int32) : sB_knots (uB_heads σ z) = sB_knots σ := rfl
theorem gB_knots_backs (σ : SB) (z : Int32) : sB_knots (uB_backs σ z) = sB_knots σ := rfl
theorem gB_knots_knots (σ : SB) (z : Int32) : sB_knots (uB_knots σ z) = z := rfl
theorem rfB_stale (a : Nat → Nat) (cs : Nat → ClassId) (σ : SB) {z : Int32} (e : sB_stale σ = z) : ([.ref (a 1), .ref (a 2), .ref (a 3), .ref (a 4), .int (sB_stale σ)] : List Value)[4]? = some (.int z) := by
  subst e
  rfl
theorem setB_stale (a : Nat → Nat) (cs : Nat → ClassId) (σ : SB) (z : Int32) : (wsB a cs σ).set 0 (a 0, .inr (0, ([.ref (a 1), .ref (a 2), .ref (a 3), .ref (a 4), .int (sB_stale σ)] : List Value).set 4 (.int z))) = wsB a cs (uB_stale σ z) := rfl
theorem rfB_blocks (a : Nat → Nat) (cs : Nat → ClassId) (σ : SB) {z : Int32} (e : sB_blocks σ = z) : ([.ref (a 5), .ref (a 6), .int (sB_blocks σ), .int (sB_ways σ)] : List Value)[2]? = some (.int z) := by
  subst e
  rfl
theorem setB_blocks (a : Nat → Nat) (cs : Nat → ClassId) (σ : SB) (z : Int32) : (wsB a cs σ).set 1 (a 1, .inr (1, ([.ref (a 5), .ref (a 6), .int (sB_blocks σ), .int (sB_ways σ)] : List Value).set 2 (.int z))) = wsB a cs (uB_blocks σ z) := rfl
theorem rfB_ways (a : Nat → Nat) (cs : Nat → ClassId) (σ : SB) {z : Int32} (e : sB_ways σ = z) : ([.ref (a 5), .ref (a 6), .int (sB_blocks σ), .int (sB_ways σ)] : List Value)[3]? = some (.int z) := by
  subst e
  rfl
theorem setB_ways (a : Nat → Nat) (cs : Nat → ClassId) (σ : SB) (z : Int32) : (wsB a cs σ).set 1 (a 1, .inr (1, ([.ref (a 5), .ref (a 6), .int (sB_blocks σ), .int (sB_ways σ)] : List Value).set 3 (.int z))) = wsB a cs (uB_ways σ z) := rfl
theorem rfB_reached (a : Nat → Nat) (cs : Nat → ClassId) (σ : SB) {z : Int32} (e : sB_reached σ = z) : ([.ref (a 1), .ref (a 7), .ref (a 8), .ref (a 9), .ref (a 10), .ref (a 11), .ref (a 12), .int (sB_reached σ), .long (sB_rset σ)] : List Value)[7]? = some (.int z) := by
  subst e
  rfl
theorem setB_reached (a : Nat → Nat) (cs : Nat → ClassId) (σ : SB) (z : Int32) : (wsB a cs σ).set 2 (a 2, .inr (2, ([.ref (a 1), .ref (a 7), .ref (a 8), .ref (a 9), .ref (a 10), .ref (a 11), .ref (a 12), .int (sB_reached σ), .long (sB_rset σ)] : List Value).set 7 (.int z))) = wsB a cs (uB_reached σ z) := rfl
theorem rfB_rset (a : Nat → Nat) (cs : Nat → ClassId) (σ : SB) {z : Int64} (e : sB_rset σ = z) : ([.ref (a 1), .ref (a 7), .ref (a 8), .ref (a 9), .ref (a 10), .ref (a 11), .ref (a 12), .int (sB_reached σ), .long (sB_rset σ)] : List Value)[8]? = some (.long z) := by
  subst e
  rfl
theorem setB_rset (a : Nat → Nat) (cs : Nat → ClassId) (σ : SB) (z : Int64) : (wsB a cs σ).set 2 (a 2, .inr (2, ([.ref (a 1), .ref (a 7), .ref (a 8), .ref (a 9), .ref (a 10), .ref (a 11), .ref (a 12), .int (sB_reached σ), .long (sB_rset σ)] : List Value).set 8 (.long z))) = wsB a cs (uB_rset σ z) := rfl
theorem rfB_heads (a : Nat → Nat) (cs : Nat → ClassId) (σ : SB) {z : Int32} (e : sB_heads σ = z) : ([.ref (a 1), .ref (a 2), .ref (a 3), .ref (a 14), .int (sB_heads σ), .int (sB_backs σ), .int (sB_knots σ)] : List Value)[4]? = some (.int z) := by
  subst e
  rfl
theorem setB_heads (a : Nat → Nat) (cs : Nat → ClassId) (σ : SB) (z : Int32) : (wsB a cs σ).set 4 (a 4, .inr (4, ([.ref (a 1), .ref (a 2), .ref (a 3), .ref (a 14), .int (sB_heads σ), .int (sB_backs σ), .int (sB_knots σ)] : List Value).set 4 (.int z))) = wsB a cs (uB_heads σ z) := rfl
theorem rfB_backs (a : Nat → Nat) (cs : Nat → ClassId) (σ : SB) {z : Int32} (e : sB_backs σ = z) : ([.ref (a 1), .ref (a 2), .ref (a 3), .ref (a 14), .int (sB_heads σ), .int (sB_backs σ), .int (sB_knots σ)] : List Value)[5]? = some (.int z) := by
  subst e
  rfl
theorem setB_backs (a : Nat → Nat) (cs : Nat → ClassId) (σ : SB) (z : Int32) : (wsB a cs σ).set 4 (a 4, .inr (4, ([.ref (a 1), .ref (a 2), .ref (a 3), .ref (a 14), .int (sB_heads σ), .int (sB_backs σ), .int (sB_knots σ)] : List Value).set 5 (.int z))) = wsB a cs (uB_backs σ z) := rfl
theorem rfB_knots (a : Nat → Nat) (cs : Nat → ClassId) (σ : SB) {z : Int32} (e : sB_knots σ = z) : ([.ref (a 1), .ref (a 2), .ref (a 3), .ref (a 14), .int (sB_heads σ), .int (sB_backs σ), .int (sB_knots σ)] : List Value)[6]? = some (.int z) := by
  subst e
  rfl
theorem setB_knots (a : Nat → Nat) (cs : Nat → ClassId) (σ : SB) (z : Int32) : (wsB a cs σ).set 4 (a 4, .inr (4, ([.ref (a 1), .ref (a 2), .ref (a 3), .ref (a 14), .int (sB_heads σ), .int (sB_backs σ), .int (sB_knots σ)] : List Value).set 6 (.int z))) = wsB a cs (uB_knots σ z) := rfl
theorem rdB_deg (a : Nat → Nat) (cs : Nat → ClassId) (σ : SB) {f : Nat → Int32} (e : sB_deg σ = f) : (wsB a cs σ)[5]? = some (a 5, .inl (cs 0, 64, .inl f)) := by
  subst e
  rfl
theorem setB_deg (a : Nat → Nat) (cs : Nat → ClassId) (σ : SB) (f : Nat → Int32) : (wsB a cs σ).set 5 (a 5, .inl (cs 0, 64, .inl f)) = wsB a cs (uB_deg σ f) := rfl
theorem rdB_ends (a : Nat → Nat) (cs : Nat → ClassId) (σ : SB) {f : Nat → Int32} (e : sB_ends σ = f) : (wsB a cs σ)[6]? = some (a 6, .inl (cs 1, 512, .inl f)) := by
  subst e
  rfl
theorem setB_ends (a : Nat → Nat) (cs : Nat → ClassId) (σ : SB) (f : Nat → Int32) : (wsB a cs σ).set 6 (a 6, .inl (cs 1, 512, .inl f)) = wsB a cs (uB_ends σ f) := rfl
theorem rdB_orders (a : Nat → Nat) (cs : Nat → ClassId) (σ : SB) {f : Nat → Int32} (e : sB_orders σ = f) : (wsB a cs σ)[7]? = some (a 7, .inl (cs 2, 64, .inl f)) := by
  subst e
  rfl
theorem setB_orders (a : Nat → Nat) (cs : Nat → ClassId) (σ : SB) (f : Nat → Int32) : (wsB a cs σ).set 7 (a 7, .inl (cs 2, 64, .inl f)) = wsB a cs (uB_orders σ f) := rfl
theorem rdB_left (a : Nat → Nat) (cs : Nat → ClassId) (σ : SB) {f : Nat → Int32} (e : sB_left σ = f) : (wsB a cs σ)[8]? = some (a 8, .inl (cs 3, 64, .inl f)) := by
  subst e
  rfl
theorem setB_left (a : Nat → Nat) (cs : Nat → ClassId) (σ : SB) (f : Nat → Int32) : (wsB a cs σ).set 8 (a 8, .inl (cs 3, 64, .inl f)) = wsB a cs (uB_left σ f) := rfl
theorem rdB_open (a : Nat → Nat) (cs : Nat → ClassId) (σ : SB) {f : Nat → Int32} (e : sB_open σ = f) : (wsB a cs σ)[9]? = some (a 9, .inl (cs 4, 64, .inl f)) := by
  subst e
  rfl
theorem setB_open (a : Nat → Nat) (cs : Nat → ClassId) (σ : SB) (f : Nat → Int32) : (wsB a cs σ).set 9 (a 9, .inl (cs 4, 64, .inl f)) = wsB a cs (uB_open σ f) := rfl
theorem rdB_taken (a : Nat → Nat) (cs : Nat → ClassId) (σ : SB) {f : Nat → Int32} (e : sB_taken σ = f) : (wsB a cs σ)[10]? = some (a 10, .inl (cs 5, 64, .inl f)) := by
  subst e
  rfl
theorem setB_taken (a : Nat → Nat) (cs : Nat → ClassId) (σ : SB) (f : Nat → Int32) : (wsB a cs σ).set 10 (a 10, .inl (cs 5, 64, .inl f)) = wsB a cs (uB_taken σ f) := rfl
theorem rdB_comers (a : Nat → Nat) (cs : Nat → ClassId) (σ : SB) {f : Nat → Int64} (e : sB_comers σ = f) : (wsB a cs σ)[11]? = some (a 11, .inl (cs 6, 64, .inr (.inl f))) := by
  subst e
  rfl
theorem setB_comers (a : Nat → Nat) (cs : Nat → ClassId) (σ : SB) (f : Nat → Int64) : (wsB a cs σ).set 11 (a 11, .inl (cs 6, 64, .inr (.inl f))) = wsB a cs (uB_comers σ f) := rfl
theorem rdB_comings (a : Nat → Nat) (cs : Nat → ClassId) (σ : SB) {f : Nat → Int32} (e : sB_comings σ = f) : (wsB a cs σ)[12]? = some (a 12, .inl (cs 7, 64, .inl f)) := by
  subst e
  rfl
theorem setB_comings (a : Nat → Nat) (cs : Nat → ClassId) (σ : SB) (f : Nat → Int32) : (wsB a cs σ).set 12 (a 12, .inl (cs 7, 64, .inl f)) = wsB a cs (uB_comings σ f) := rfl
theorem rdB_rof (a : Nat → Nat) (cs : Nat → ClassId) (σ : SB) {f : Nat → Int64} (e : sB_rof σ = f) : (wsB a cs σ)[13]? = some (a 13, .inl (cs 8, 64, .inr (.inl f))) := by
  subst e
  rfl
theorem setB_rof (a : Nat → Nat) (cs : Nat → ClassId) (σ : SB) (f : Nat → Int64) : (wsB a cs σ).set 13 (a 13, .inl (cs 8, 64, .inr (.inl f))) = wsB a cs (uB_rof σ f) := rfl
theorem rdB_lof (a : Nat → Nat) (cs : Nat → ClassId) (σ : SB) {f : Nat → Int64} (e : sB_lof σ = f) : (wsB a cs σ)[14]? = some (a 14, .inl (cs 9, 64, .inr (.inl f))) := by
  subst e
  rfl
theorem setB_lof (a : Nat → Nat) (cs : Nat → ClassId) (σ : SB) (f : Nat → Int64) : (wsB a cs σ).set 14 (a 14, .inl (cs 9, 64, .inr (.inl f))) = wsB a cs (uB_lof σ f) := rfl
theorem allB (a : Nat → Nat) (cs : Nat → ClassId) (σ : SB) : [0, 1, 2, 3, 4, 5, 6, 7, 8, 9, 10, 11, 12, 13, 14].map (fun i => (wsB a cs σ)[i]?) = (wsB a cs σ).map some := rfl
def tyB (cs : Nat → ClassId) : List (ClassId × FieldType) := [(cs 0, .int), (cs 1, .int), (cs 2, .int), (cs 3, .int), (cs 4, .int), (cs 5, .int), (cs 6, .long), (cs 7, .int), (cs 8, .long), (cs 9, .long)]
abbrev SM : Type := (Int32) × (Int32) × (Nat → Int32) × (Nat → Int32) × (Int32) × (Int32) × (Nat → Int32) × (Nat → Int32) × (Nat → Int32) × (Nat → Int32) × (Nat → Int32) × (Nat → Int32) × (Nat → Int32) × (Nat → Int32) × (Nat → Int32) × (Nat → Int32)
def sM_thrown (σ : SM) : Int32 := σ.1
def sM_blocks (σ : SM) : Int32 := σ.2.1
def sM_many (σ : SM) : Nat → Int32 := σ.2.2.1
def sM_ends (σ : SM) : Nat → Int32 := σ.2.2.2.1
def sM_isDone (σ : SM) : Int32 := σ.2.2.2.2.1
def sM_reached (σ : SM) : Int32 := σ.2.2.2.2.2.1
def sM_order (σ : SM) : Nat → Int32 := σ.2.2.2.2.2.2.1
def sM_at (σ : SM) : Nat → Int32 := σ.2.2.2.2.2.2.2.1
def sM_rules (σ : SM) : Nat → Int32 := σ.2.2.2.2.2.2.2.2.1
def sM_parent (σ : SM) : Nat → Int32 := σ.2.2.2.2.2.2.2.2.2.1
def sM_isHead (σ : SM) : Nat → Int32 := σ.2.2.2.2.2.2.2.2.2.2.1
def sM_loop (σ : SM) : Nat → Int32 := σ.2.2.2.2.2.2.2.2.2.2.2.1
def sM_loopSize (σ : SM) : Nat → Int32 := σ.2.2.2.2.2.2.2.2.2.2.2.2.1
def sM_seen (σ : SM) : Nat → Int32 := σ.2.2.2.2.2.2.2.2.2.2.2.2.2.1
def sM_pile (σ : SM) : Nat → Int32 := σ.2.2.2.2.2.2.2.2.2.2.2.2.2.2.1
def sM_next (σ : SM) : Nat → Int32 := σ.2.2.2.2.2.2.2.2.2.2.2.2.2.2.2
def uM_thrown (σ : SM) (x : Int32) : SM := (x, σ.2.1, σ.2.2.1, σ.2.2.2.1, σ.2.2.2.2.1, σ.2.2.2.2.2.1, σ.2.2.2.2.2.2.1, σ.2.2.2.2.2.2.2.1, σ.2.2.2.2.2.2.2.2.1, σ.2.2.2.2.2.2.2.2.2.1, σ.2.2.2.2.2.2.2.2.2.2.1, σ.2.2.2.2.2.2.2.2.2.2.2.1, σ.2.2.2.2.2.2.2.2.2.2.2.2.1, σ.2.2.2.2.2.2.2.2.2.2.2.2.2.1, σ.2.2.2.2.2.2.2.2.2.2.2.2.2.2.1, σ.2.2.2.2.2.2.2.2.2.2.2.2.2.2.2)
def uM_blocks (σ : SM) (x : Int32) : SM := (σ.1, x, σ.2.2.1, σ.2.2.2.1, σ.2.2.2.2.1, σ.2.2.2.2.2.1, σ.2.2.2.2.2.2.1, σ.2.2.2.2.2.2.2.1, σ.2.2.2.2.2.2.2.2.1, σ.2.2.2.2.2.2.2.2.2.1, σ.2.2.2.2.2.2.2.2.2.2.1, σ.2.2.2.2.2.2.2.2.2.2.2.1, σ.2.2.2.2.2.2.2.2.2.2.2.2.1, σ.2.2.2.2.2.2.2.2.2.2.2.2.2.1, σ.2.2.2.2.2.2.2.2.2.2.2.2.2.2.1, σ.2.2.2.2.2.2.2.2.2.2.2.2.2.2.2)
def uM_many (σ : SM) (x : Nat → Int32) : SM := (σ.1, σ.2.1, x, σ.2.2.2.1, σ.2.2.2.2.1, σ.2.2.2.2.2.1, σ.2.2.2.2.2.2.1, σ.2.2.2.2.2.2.2.1, σ.2.2.2.2.2.2.2.2.1, σ.2.2.2.2.2.2.2.2.2.1, σ.2.2.2.2.2.2.2.2.2.2.1, σ.2.2.2.2.2.2.2.2.2.2.2.1, σ.2.2.2.2.2.2.2.2.2.2.2.2.1, σ.2.2.2.2.2.2.2.2.2.2.2.2.2.1, σ.2.2.2.2.2.2.2.2.2.2.2.2.2.2.1, σ.2.2.2.2.2.2.2.2.2.2.2.2.2.2.2)
def uM_ends (σ : SM) (x : Nat → Int32) : SM := (σ.1, σ.2.1, σ.2.2.1, x, σ.2.2.2.2.1, σ.2.2.2.2.2.1, σ.2.2.2.2.2.2.1, σ.2.2.2.2.2.2.2.1, σ.2.2.2.2.2.2.2.2.1, σ.2.2.2.2.2.2.2.2.2.1, σ.2.2.2.2.2.2.2.2.2.2.1, σ.2.2.2.2.2.2.2.2.2.2.2.1, σ.2.2.2.2.2.2.2.2.2.2.2.2.1, σ.2.2.2.2.2.2.2.2.2.2.2.2.2.1, σ.2.2.2.2.2.2.2.2.2.2.2.2.2.2.1, σ.2.2.2.2.2.2.2.2.2.2.2.2.2.2.2)
def uM_isDone (σ : SM) (x : Int32) : SM := (σ.1, σ.2.1, σ.2.2.1, σ.2.2.2.1, x, σ.2.2.2.2.2.1, σ.2.2.2.2.2.2.1, σ.2.2.2.2.2.2.2.1, σ.2.2.2.2.2.2.2.2.1, σ.2.2.2.2.2.2.2.2.2.1, σ.2.2.2.2.2.2.2.2.2.2.1, σ.2.2.2.2.2.2.2.2.2.2.2.1, σ.2.2.2.2.2.2.2.2.2.2.2.2.1, σ.2.2.2.2.2.2.2.2.2.2.2.2.2.1, σ.2.2.2.2.2.2.2.2.2.2.2.2.2.2.1, σ.2.2.2.2.2.2.2.2.2.2.2.2.2.2.2)
def uM_reached (σ : SM) (x : Int32) : SM := (σ.1, σ.2.1, σ.2.2.1, σ.2.2.2.1, σ.2.2.2.2.1, x, σ.2.2.2.2.2.2.1, σ.2.2.2.2.2.2.2.1, σ.2.2.2.2.2.2.2.2.1, σ.2.2.2.2.2.2.2.2.2.1, σ.2.2.2.2.2.2.2.2.2.2.1, σ.2.2.2.2.2.2.2.2.2.2.2.1, σ.2.2.2.2.2.2.2.2.2.2.2.2.1, σ.2.2.2.2.2.2.2.2.2.2.2.2.2.1, σ.2.2.2.2.2.2.2.2.2.2.2.2.2.2.1, σ.2.2.2.2.2.2.2.2.2.2.2.2.2.2.2)
def uM_order (σ : SM) (x : Nat → Int32) : SM := (σ.1, σ.2.1, σ.2.2.1, σ.2.2.2.1, σ.2.2.2.2.1, σ.2.2.2.2.2.1, x, σ.2.2.2.2.2.2.2.1, σ.2.2.2.2.2.2.2.2.1, σ.2.2.2.2.2.2.2.2.2.1, σ.2.2.2.2.2.2.2.2.2.2.1, σ.2.2.2.2.2.2.2.2.2.2.2.1, σ.2.2.2.2.2.2.2.2.2.2.2.2.1, σ.2.2.2.2.2.2.2.2.2.2.2.2.2.1, σ.2.2.2.2.2.2.2.2.2.2.2.2.2.2.1, σ.2.2.2.2.2.2.2.2.2.2.2.2.2.2.2)
def uM_at (σ : SM) (x : Nat → Int32) : SM := (σ.1, σ.2.1, σ.2.2.1, σ.2.2.2.1, σ.2.2.2.2.1, σ.2.2.2.2.2.1, σ.2.2.2.2.2.2.1, x, σ.2.2.2.2.2.2.2.2.1, σ.2.2.2.2.2.2.2.2.2.1, σ.2.2.2.2.2.2.2.2.2.2.1, σ.2.2.2.2.2.2.2.2.2.2.2.1, σ.2.2.2.2.2.2.2.2.2.2.2.2.1, σ.2.2.2.2.2.2.2.2.2.2.2.2.2.1, σ.2.2.2.2.2.2.2.2.2.2.2.2.2.2.1, σ.2.2.2.2.2.2.2.2.2.2.2.2.2.2.2)
def uM_rules (σ : SM) (x : Nat → Int32) : SM := (σ.1, σ.2.1, σ.2.2.1, σ.2.2.2.1, σ.2.2.2.2.1, σ.2.2.2.2.2.1, σ.2.2.2.2.2.2.1, σ.2.2.2.2.2.2.2.1, x, σ.2.2.2.2.2.2.2.2.2.1, σ.2.2.2.2.2.2.2.2.2.2.1, σ.2.2.2.2.2.2.2.2.2.2.2.1, σ.2.2.2.2.2.2.2.2.2.2.2.2.1, σ.2.2.2.2.2.2.2.2.2.2.2.2.2.1, σ.2.2.2.2.2.2.2.2.2.2.2.2.2.2.1, σ.2.2.2.2.2.2.2.2.2.2.2.2.2.2.2)
def uM_parent (σ : SM) (x : Nat → Int32) : SM := (σ.1, σ.2.1, σ.2.2.1, σ.2.2.2.1, σ.2.2.2.2.1, σ.2.2.2.2.2.1, σ.2.2.2.2.2.2.1, σ.2.2.2.2.2.2.2.1, σ.2.2.2.2.2.2.2.2.1, x, σ.2.2.2.2.2.2.2.2.2.2.1, σ.2.2.2.2.2.2.2.2.2.2.2.1, σ.2.2.2.2.2.2.2.2.2.2.2.2.1, σ.2.2.2.2.2.2.2.2.2.2.2.2.2.1, σ.2.2.2.2.2.2.2.2.2.2.2.2.2.2.1, σ.2.2.2.2.2.2.2.2.2.2.2.2.2.2.2)
def uM_isHead (σ : SM) (x : Nat → Int32) : SM := (σ.1, σ.2.1, σ.2.2.1, σ.2.2.2.1, σ.2.2.2.2.1, σ.2.2.2.2.2.1, σ.2.2.2.2.2.2.1, σ.2.2.2.2.2.2.2.1, σ.2.2.2.2.2.2.2.2.1, σ.2.2.2.2.2.2.2.2.2.1, x, σ.2.2.2.2.2.2.2.2.2.2.2.1, σ.2.2.2.2.2.2.2.2.2.2.2.2.1, σ.2.2.2.2.2.2.2.2.2.2.2.2.2.1, σ.2.2.2.2.2.2.2.2.2.2.2.2.2.2.1, σ.2.2.2.2.2.2.2.2.2.2.2.2.2.2.2)
def uM_loop (σ : SM) (x : Nat → Int32) : SM := (σ.1, σ.2.1, σ.2.2.1, σ.2.2.2.1, σ.2.2.2.2.1, σ.2.2.2.2.2.1, σ.2.2.2.2.2.2.1, σ.2.2.2.2.2.2.2.1, σ.2.2.2.2.2.2.2.2.1, σ.2.2.2.2.2.2.2.2.2.1, σ.2.2.2.2.2.2.2.2.2.2.1, x, σ.2.2.2.2.2.2.2.2.2.2.2.2.1, σ.2.2.2.2.2.2.2.2.2.2.2.2.2.1, σ.2.2.2.2.2.2.2.2.2.2.2.2.2.2.1, σ.2.2.2.2.2.2.2.2.2.2.2.2.2.2.2)
def uM_loopSize (σ : SM) (x : Nat → Int32) : SM := (σ.1, σ.2.1, σ.2.2.1, σ.2.2.2.1, σ.2.2.2.2.1, σ.2.2.2.2.2.1, σ.2.2.2.2.2.2.1, σ.2.2.2.2.2.2.2.1, σ.2.2.2.2.2.2.2.2.1, σ.2.2.2.2.2.2.2.2.2.1, σ.2.2.2.2.2.2.2.2.2.2.1, σ.2.2.2.2.2.2.2.2.2.2.2.1, x, σ.2.2.2.2.2.2.2.2.2.2.2.2.2.1, σ.2.2.2.2.2.2.2.2.2.2.2.2.2.2.1, σ.2.2.2.2.2.2.2.2.2.2.2.2.2.2.2)
def uM_seen (σ : SM) (x : Nat → Int32) : SM := (σ.1, σ.2.1, σ.2.2.1, σ.2.2.2.1, σ.2.2.2.2.1, σ.2.2.2.2.2.1, σ.2.2.2.2.2.2.1, σ.2.2.2.2.2.2.2.1, σ.2.2.2.2.2.2.2.2.1, σ.2.2.2.2.2.2.2.2.2.1, σ.2.2.2.2.2.2.2.2.2.2.1, σ.2.2.2.2.2.2.2.2.2.2.2.1, σ.2.2.2.2.2.2.2.2.2.2.2.2.1, x, σ.2.2.2.2.2.2.2.2.2.2.2.2.2.2.1, σ.2.2.2.2.2.2.2.2.2.2.2.2.2.2.2)
def uM_pile (σ : SM) (x : Nat → Int32) : SM := (σ.1, σ.2.1, σ.2.2.1, σ.2.2.2.1, σ.2.2.2.2.1, σ.2.2.2.2.2.1, σ.2.2.2.2.2.2.1, σ.2.2.2.2.2.2.2.1, σ.2.2.2.2.2.2.2.2.1, σ.2.2.2.2.2.2.2.2.2.1, σ.2.2.2.2.2.2.2.2.2.2.1, σ.2.2.2.2.2.2.2.2.2.2.2.1, σ.2.2.2.2.2.2.2.2.2.2.2.2.1, σ.2.2.2.2.2.2.2.2.2.2.2.2.2.1, x, σ.2.2.2.2.2.2.2.2.2.2.2.2.2.2.2)
def uM_next (σ : SM) (x : Nat → Int32) : SM := (σ.1, σ.2.1, σ.2.2.1, σ.2.2.2.1, σ.2.2.2.2.1, σ.2.2.2.2.2.1, σ.2.2.2.2.2.2.1, σ.2.2.2.2.2.2.2.1, σ.2.2.2.2.2.2.2.2.1, σ.2.2.2.2.2.2.2.2.2.1, σ.2.2.2.2.2.2.2.2.2.2.1, σ.2.2.2.2.2.2.2.2.2.2.2.1, σ.2.2.2.2.2.2.2.2.2.2.2.2.1, σ.2.2.2.2.2.2.2.2.2.2.2.2.2.1, σ.2.2.2.2.2.2.2.2.2.2.2.2.2.2.1, x)
def wsM (a : Nat → Nat) (cs : Nat → ClassId) (σ : SM) : va_W := [(a 0, .inr (5, [.int (sM_thrown σ), .int (sM_blocks σ), .ref (a 1), .ref (a 2), .int (sM_isDone σ), .int (sM_reached σ), .ref (a 3), .ref (a 4), .ref (a 5), .ref (a 6), .ref (a 7), .ref (a 8), .ref (a 9), .ref (a 10), .ref (a 11), .ref (a 12)])), (a 1, .inl (cs 0, 64, .inl (sM_many σ))), (a 2, .inl (cs 1, 512, .inl (sM_ends σ))), (a 3, .inl (cs 2, 64, .inl (sM_order σ))), (a 4, .inl (cs 3, 64, .inl (sM_at σ))), (a 5, .inl (cs 4, 4096, .inl (sM_rules σ))), (a 6, .inl (cs 5, 64, .inl (sM_parent σ))), (a 7, .inl (cs 6, 64, .inl (sM_isHead σ))), (a 8, .inl (cs 7, 4096, .inl (sM_loop σ))), (a 9, .inl (cs 8, 64, .inl (sM_loopSize σ))), (a 10, .inl (cs 9, 64, .inl (sM_seen σ))), (a 11, .inl (cs 10, 64, .inl (sM_pile σ))), (a 12, .inl (cs 11, 64, .inl (sM_next σ)))]
theorem gM_thrown_thrown (σ : SM) (z : Int32) : sM_thrown (uM_thrown σ z) = z := rfl
theorem gM_thrown_blocks (σ : SM) (z : Int32) : sM_thrown (uM_blocks σ z) = sM_thrown σ := rfl
theorem gM_thrown_many (σ : SM) (z : Nat → Int32) : sM_thrown (uM_many σ z) = sM_thrown σ := rfl
theorem gM_thrown_ends (σ : SM) (z : Nat → Int32) : sM_thrown (uM_ends σ z) = sM_thrown σ := rfl
theorem gM_thrown_isDone (σ : SM) (z : Int32) : sM_thrown (uM_isDone σ z) = sM_thrown σ := rfl
theorem gM_thrown_reached (σ : SM) (z : Int32) : sM_thrown (uM_reached σ z) = sM_thrown σ := rfl
theorem gM_thrown_order (σ : SM) (z : Nat → Int32) : sM_thrown (uM_order σ z) = sM_thrown σ := rfl
theorem gM_thrown_at (σ : SM) (z : Nat → Int32) : sM_thrown (uM_at σ z) = sM_thrown σ := rfl
theorem gM_thrown_rules (σ : SM) (z : Nat → Int32) : sM_thrown (uM_rules σ z) = sM_thrown σ := rfl
theorem gM_thrown_parent (σ : SM) (z : Nat → Int32) : sM_thrown (uM_parent σ z) = sM_thrown σ := rfl
theorem gM_thrown_isHead (σ : SM) (z : Nat → Int32) : sM_thrown (uM_isHead σ z) = sM_thrown σ := rfl
theorem gM_thrown_loop (σ : SM) (z : Nat → Int32) : sM_thrown (uM_loop σ z) = sM_thrown σ := rfl
theorem gM_thrown_loopSize (σ : SM) (z : Nat → Int32) : sM_thrown (uM_loopSize σ z) = sM_thrown σ := rfl
theorem gM_thrown_seen (σ : SM) (z : Nat → Int32) : sM_thrown (uM_seen σ z) = sM_thrown σ := rfl
theorem gM_thrown_pile (σ : SM) (z : Nat → Int32) : sM_thrown (uM_pile σ z) = sM_thrown σ := rfl
theorem gM_thrown_next (σ : SM) (z : Nat → Int32) : sM_thrown (uM_next σ z) = sM_thrown σ := rfl
theorem gM_blocks_thrown (σ : SM) (z : Int32) : sM_blocks (uM_thrown σ z) = sM_blocks σ := rfl
theorem gM_blocks_blocks (σ : SM) (z : Int32) : sM_blocks (uM_blocks σ z) = z := rfl
theorem gM_blocks_many (σ : SM) (z : Nat → Int32) : sM_blocks (uM_many σ z) = sM_blocks σ := rfl
theorem gM_blocks_ends (σ : SM) (z : Nat → Int32) : sM_blocks (uM_ends σ z) = sM_blocks σ := rfl
theorem gM_blocks_isDone (σ : SM) (z : Int32) : sM_blocks (uM_isDone σ z) = sM_blocks σ := rfl
theorem gM_blocks_reached (σ : SM) (z : Int32) : sM_blocks (uM_reached σ z) = sM_blocks σ := rfl
theorem gM_blocks_order (σ : SM) (z : Nat → Int32) : sM_blocks (uM_order σ z) = sM_blocks σ := rfl
theorem gM_blocks_at (σ : SM) (z : Nat → Int32) : sM_blocks (uM_at σ z) = sM_blocks σ := rfl
theorem gM_blocks_rules (σ : SM) (z : Nat → Int32) : sM_blocks (uM_rules σ z) = sM_blocks σ := rfl
theorem gM_blocks_parent (σ : SM) (z : Nat → Int32) : sM_blocks (uM_parent σ z) = sM_blocks σ := rfl
theorem gM_blocks_isHead (σ : SM) (z : Nat → Int32) : sM_blocks (uM_isHead σ z) = sM_blocks σ := rfl
theorem gM_blocks_loop (σ : SM) (z : Nat → Int32) : sM_blocks (uM_loop σ z) = sM_blocks σ := rfl
theorem gM_blocks_loopSize (σ : SM) (z : Nat → Int32) : sM_blocks (uM_loopSize σ z) = sM_blocks σ := rfl
theorem gM_blocks_seen (σ : SM) (z : Nat → Int32) : sM_blocks (uM_seen σ z) = sM_blocks σ := rfl
theorem gM_blocks_pile (σ : SM) (z : Nat → Int32) : sM_blocks (uM_pile σ z) = sM_blocks σ := rfl
theorem gM_blocks_next (σ : SM) (z : Nat → Int32) : sM_blocks (uM_next σ z) = sM_blocks σ := rfl
theorem gM_many_thrown (σ : SM) (z : Int32) : sM_many (uM_thrown σ z) = sM_many σ := rfl
theorem gM_many_blocks (σ : SM) (z : Int32) : sM_many (uM_blocks σ z) = sM_many σ := rfl
theorem gM_many_many (σ : SM) (z : Nat → Int32) : sM_many (uM_many σ z) = z := rfl
theorem gM_many_ends (σ : SM) (z : Nat → Int32) : sM_many (uM_ends σ z) = sM_many σ := rfl
theorem gM_many_isDone (σ : SM) (z : Int32) : sM_many (uM_isDone σ z) = sM_many σ := rfl
theorem gM_many_reached (σ : SM) (z : Int32) : sM_many (uM_reached σ z) = sM_many σ := rfl
theorem gM_many_order (σ : SM) (z : Nat → Int32) : sM_many (uM_order σ z) = sM_many σ := rfl
theorem gM_many_at (σ : SM) (z : Nat → Int32) : sM_many (uM_at σ z) = sM_many σ := rfl
theorem gM_many_rules (σ : SM) (z : Nat → Int32) : sM_many (uM_rules σ z) = sM_many σ := rfl
theorem gM_many_parent (σ : SM) (z : Nat → Int32) : sM_many (uM_parent σ z) = sM_many σ := rfl
theorem gM_many_isHead (σ : SM) (z : Nat → Int32) : sM_many (uM_isHead σ z) = sM_many σ := rfl
theorem gM_many_loop (σ : SM) (z : Nat → Int32) : sM_many (uM_loop σ z) = sM_many σ := rfl
theorem gM_many_loopSize (σ : SM) (z : Nat → Int32) : sM_many (uM_loopSize σ z) = sM_many σ := rfl
theorem gM_many_seen (σ : SM) (z : Nat → Int32) : sM_many (uM_seen σ z) = sM_many σ := rfl
theorem gM_many_pile (σ : SM) (z : Nat → Int32) : sM_many (uM_pile σ z) = sM_many σ := rfl
theorem gM_many_next (σ : SM) (z : Nat → Int32) : sM_many (uM_next σ z) = sM_many σ := rfl
theorem gM_ends_thrown (σ : SM) (z : Int32) : sM_ends (uM_thrown σ z) = sM_ends σ := rfl
theorem gM_ends_blocks (σ : SM) (z : Int32) : sM_ends (uM_blocks σ z) = sM_ends σ := rfl
theorem gM_ends_many (σ : SM) (z : Nat → Int32) : sM_ends (uM_many σ z) = sM_ends σ := rfl
theorem gM_ends_ends (σ : SM) (z : Nat → Int32) : sM_ends (uM_ends σ z) = z := rfl
theorem gM_ends_isDone (σ : SM) (z : Int32) : sM_ends (uM_isDone σ z) = sM_ends σ := rfl
theorem gM_ends_reached (σ : SM) (z : Int32) : sM_ends (uM_reached σ z) = sM_ends σ := rfl
theorem gM_ends_order (σ : SM) (z : Nat → Int32) : sM_ends (uM_order σ z) = sM_ends σ := rfl
theorem gM_ends_at (σ : SM) (z : Nat → Int32) : sM_ends (uM_at σ z) = sM_ends σ := rfl
theorem gM_ends_rules (σ : SM) (z : Nat → Int32) : sM_ends (uM_rules σ z) = sM_ends σ := rfl
theorem gM_ends_parent (σ : SM) (z : Nat → Int32) : sM_ends (uM_parent σ z) = sM_ends σ := rfl
theorem gM_ends_isHead (σ : SM) (z : Nat → Int32) : sM_ends (uM_isHead σ z) = sM_ends σ := rfl
theorem gM_ends_loop (σ : SM) (z : Nat → Int32) : sM_ends (uM_loop σ z) = sM_ends σ := rfl
theorem gM_ends_loopSize (σ : SM) (z : Nat → Int32) : sM_ends (uM_loopSize σ z) = sM_ends σ := rfl
theorem gM_ends_seen (σ : SM) (z : Nat → Int32) : sM_ends (uM_seen σ z) = sM_ends σ := rfl
theorem gM_ends_pile (σ : SM) (z : Nat → Int32) : sM_ends (uM_pile σ z) = sM_ends σ := rfl
theorem gM_ends_next (σ : SM) (z : Nat → Int32) : sM_ends (uM_next σ z) = sM_ends σ := rfl
theorem gM_isDone_thrown (σ : SM) (z : Int32) : sM_isDone (uM_thrown σ z) = sM_isDone σ := rfl
theorem gM_isDone_blocks (σ : SM) (z : Int32) : sM_isDone (uM_blocks σ z) = sM_isDone σ := rfl
theorem gM_isDone_many (σ : SM) (z : Nat → Int32) : sM_isDone (uM_many σ z) = sM_isDone σ := rfl
theorem gM_isDone_ends (σ : SM) (z : Nat → Int32) : sM_isDone (uM_ends σ z) = sM_isDone σ := rfl
theorem gM_isDone_isDone (σ : SM) (z : Int32) : sM_isDone (uM_isDone σ z) = z := rfl
theorem gM_isDone_reached (σ : SM) (z : Int32) : sM_isDone (uM_reached σ z) = sM_isDone σ := rfl
theorem gM_isDone_order (σ : SM) (z : Nat → Int32) : sM_isDone (uM_order σ z) = sM_isDone σ := rfl
theorem gM_isDone_at (σ : SM) (z : Nat → Int32) : sM_isDone (uM_at σ z) = sM_isDone σ := rfl
theorem gM_isDone_rules (σ : SM) (z : Nat → Int32) : sM_isDone (uM_rules σ z) = sM_isDone σ := rfl
theorem gM_isDone_parent (σ : SM) (z : Nat → Int32) : sM_isDone (uM_parent σ z) = sM_isDone σ := rfl
theorem gM_isDone_isHead (σ : SM) (z : Nat → Int32) : sM_isDone (uM_isHead σ z) = sM_isDone σ := rfl
theorem gM_isDone_loop (σ : SM) (z : Nat → Int32) : sM_isDone (uM_loop σ z) = sM_isDone σ := rfl
theorem gM_isDone_loopSize (σ : SM) (z : Nat → Int32) : sM_isDone (uM_loopSize σ z) = sM_isDone σ := rfl
theorem gM_isDone_seen (σ : SM) (z : Nat → Int32) : sM_isDone (uM_seen σ z) = sM_isDone σ := rfl
theorem gM_isDone_pile (σ : SM) (z : Nat → Int32) : sM_isDone (uM_pile σ z) = sM_isDone σ := rfl
theorem gM_isDone_next (σ : SM) (z : Nat → Int32) : sM_isDone (uM_next σ z) = sM_isDone σ := rfl
theorem gM_reached_thrown (σ : SM) (z : Int32) : sM_reached (uM_thrown σ z) = sM_reached σ := rfl
theorem gM_reached_blocks (σ : SM) (z : Int32) : sM_reached (uM_blocks σ z) = sM_reached σ := rfl
theorem gM_reached_many (σ : SM) (z : Nat → Int32) : sM_reached (uM_many σ z) = sM_reached σ := rfl
theorem gM_reached_ends (σ : SM) (z : Nat → Int32) : sM_reached (uM_ends σ z) = sM_reached σ := rfl
theorem gM_reached_isDone (σ : SM) (z : Int32) : sM_reached (uM_isDone σ z) = sM_reached σ := rfl
theorem gM_reached_reached (σ : SM) (z : Int32) : sM_reached (uM_reached σ z) = z := rfl
theorem gM_reached_order (σ : SM) (z : Nat → Int32) : sM_reached (uM_order σ z) = sM_reached σ := rfl
theorem gM_reached_at (σ : SM) (z : Nat → Int32) : sM_reached (uM_at σ z) = sM_reached σ := rfl
theorem gM_reached_rules (σ : SM) (z : Nat → Int32) : sM_reached (uM_rules σ z) = sM_reached σ := rfl
theorem gM_reached_parent (σ : SM) (z : Nat → Int32) : sM_reached (uM_parent σ z) = sM_reached σ := rfl
theorem gM_reached_isHead (σ : SM) (z : Nat → Int32) : sM_reached (uM_isHead σ z) = sM_reached σ := rfl
theorem gM_reached_loop (σ : SM) (z : Nat → Int32) : sM_reached (uM_loop σ z) = sM_reached σ := rfl
theorem gM_reached_loopSize (σ : SM) (z : Nat → Int32) : sM_reached (uM_loopSize σ z) = sM_reached σ := rfl
theorem gM_reached_seen (σ : SM) (z : Nat → Int32) : sM_reached (uM_seen σ z) = sM_reached σ := rfl
theorem gM_reached_pile (σ : SM) (z : Nat → Int32) : sM_reached (uM_pile σ z) = sM_reached σ := rfl
theorem gM_reached_next (σ : SM) (z : Nat → Int32) : sM_reached (uM_next σ z) = sM_reached σ := rfl
theorem gM_order_thrown (σ : SM) (z : Int32) : sM_order (uM_thrown σ z) = sM_order σ := rfl
theorem gM_order_blocks (σ : SM) (z : Int32) : sM_order (uM_blocks σ z) = sM_order σ := rfl
theorem gM_order_many (σ : SM) (z : Nat → Int32) : sM_order (uM_many σ z) = sM_order σ := rfl
theorem gM_order_ends (σ : SM) (z : Nat → Int32) : sM_order (uM_ends σ z) = sM_order σ := rfl
theorem gM_order_isDone (σ : SM) (z : Int32) : sM_order (uM_isDone σ z) = sM_order σ := rfl
theorem gM_order_reached (σ : SM) (z : Int32) : sM_order (uM_reached σ z) = sM_order σ := rfl
theorem gM_order_order (σ : SM) (z : Nat → Int32) : sM_order (uM_order σ z) = z := rfl
theorem gM_order_at (σ : SM) (z : Nat → Int32) : sM_order (uM_at σ z) = sM_order σ := rfl
theorem gM_order_rules (σ : SM) (z : Nat → Int32) : sM_order (uM_rules σ z) = sM_order σ := rfl
theorem gM_order_parent (σ : SM) (z : Nat → Int32) : sM_order (uM_parent σ z) = sM_order σ := rfl
theorem gM_order_isHead (σ : SM) (z : Nat → Int32) : sM_order (uM_isHead σ z) = sM_order σ := rfl
theorem gM_order_loop (σ : SM) (z : Nat → Int32) : sM_order (uM_loop σ z) = sM_order σ := rfl
theorem gM_order_loopSize (σ : SM) (z : Nat → Int32) : sM_order (uM_loopSize σ z) = sM_order σ := rfl
theorem gM_order_seen (σ : SM) (z : Nat → Int32) : sM_order (uM_seen σ z) = sM_order σ := rfl
theorem gM_order_pile (σ : SM) (z : Nat → Int32) : sM_order (uM_pile σ z) = sM_order σ := rfl
theorem gM_order_next (σ : SM) (z : Nat → Int32) : sM_order (uM_next σ z) = sM_order σ := rfl
theorem gM_at_thrown (σ : SM) (z : Int32) : sM_at (uM_thrown σ z) = sM_at σ := rfl
theorem gM_at_blocks (σ : SM) (z : Int32) : sM_at (uM_blocks σ z) = sM_at σ := rfl
theorem gM_at_many (σ : SM) (z : Nat → Int32) : sM_at (uM_many σ z) = sM_at σ := rfl
theorem gM_at_ends (σ : SM) (z : Nat → Int32) : sM_at (uM_ends σ z) = sM_at σ := rfl
theorem gM_at_isDone (σ : SM) (z : Int32) : sM_at (uM_isDone σ z) = sM_at σ := rfl
theorem gM_at_reached (σ : SM) (z : Int32) : sM_at (uM_reached σ z) = sM_at σ := rfl
theorem gM_at_order (σ : SM) (z : Nat → Int32) : sM_at (uM_order σ z) = sM_at σ := rfl
theorem gM_at_at (σ : SM) (z : Nat → Int32) : sM_at (uM_at σ z) = z := rfl
theorem gM_at_rules (σ : SM) (z : Nat → Int32) : sM_at (uM_rules σ z) = sM_at σ := rfl
theorem gM_at_parent (σ : SM) (z : Nat → Int32) : sM_at (uM_parent σ z) = sM_at σ := rfl
theorem gM_at_isHead (σ : SM) (z : Nat → Int32) : sM_at (uM_isHead σ z) = sM_at σ := rfl
theorem gM_at_loop (σ : SM) (z : Nat → Int32) : sM_at (uM_loop σ z) = sM_at σ := rfl
theorem gM_at_loopSize (σ : SM) (z : Nat → Int32) : sM_at (uM_loopSize σ z) = sM_at σ := rfl
theorem gM_at_seen (σ : SM) (z : Nat → Int32) : sM_at (uM_seen σ z) = sM_at σ := rfl
theorem gM_at_pile (σ : SM) (z : Nat → Int32) : sM_at (uM_pile σ z) = sM_at σ := rfl
theorem gM_at_next (σ : SM) (z : Nat → Int32) : sM_at (uM_next σ z) = sM_at σ := rfl
theorem gM_rules_thrown (σ : SM) (z : Int32) : sM_rules (uM_thrown σ z) = sM_rules σ := rfl
theorem gM_rules_blocks (σ : SM) (z : Int32) : sM_rules (uM_blocks σ z) = sM_rules σ := rfl
theorem gM_rules_many (σ : SM) (z : Nat → Int32) : sM_rules (uM_many σ z) = sM_rules σ := rfl
theorem gM_rules_ends (σ : SM) (z : Nat → Int32) : sM_rules (uM_ends σ z) = sM_rules σ := rfl
theorem gM_rules_isDone (σ : SM) (z : Int32) : sM_rules (uM_isDone σ z) = sM_rules σ := rfl
theorem gM_rules_reached (σ : SM) (z : Int32) : sM_rules (uM_reached σ z) = sM_rules σ := rfl
theorem gM_rules_order (σ : SM) (z : Nat → Int32) : sM_rules (uM_order σ z) = sM_rules σ := rfl
theorem gM_rules_at (σ : SM) (z : Nat → Int32) : sM_rules (uM_at σ z) = sM_rules σ := rfl
theorem gM_rules_rules (σ : SM) (z : Nat → Int32) : sM_rules (uM_rules σ z) = z := rfl
theorem gM_rules_parent (σ : SM) (z : Nat → Int32) : sM_rules (uM_parent σ z) = sM_rules σ := rfl
theorem gM_rules_isHead (σ : SM) (z : Nat → Int32) : sM_rules (uM_isHead σ z) = sM_rules σ := rfl
theorem gM_rules_loop (σ : SM) (z : Nat → Int32) : sM_rules (uM_loop σ z) = sM_rules σ := rfl
theorem gM_rules_loopSize (σ : SM) (z : Nat → Int32) : sM_rules (uM_loopSize σ z) = sM_rules σ := rfl
theorem gM_rules_seen (σ : SM) (z : Nat → Int32) : sM_rules (uM_seen σ z) = sM_rules σ := rfl
theorem gM_rules_pile (σ : SM) (z : Nat → Int32) : sM_rules (uM_pile σ z) = sM_rules σ := rfl
theorem gM_rules_next (σ : SM) (z : Nat → Int32) : sM_rules (uM_next σ z) = sM_rules σ := rfl
theorem gM_parent_thrown (σ : SM) (z : Int32) : sM_parent (uM_thrown σ z) = sM_parent σ := rfl
theorem gM_parent_blocks (σ : SM) (z : Int32) : sM_parent (uM_blocks σ z) = sM_parent σ := rfl
theorem gM_parent_many (σ : SM) (z : Nat → Int32) : sM_parent (uM_many σ z) = sM_parent σ := rfl
theorem gM_parent_ends (σ : SM) (z : Nat → Int32) : sM_parent (uM_ends σ z) = sM_parent σ := rfl
theorem gM_parent_isDone (σ : SM) (z : Int32) : sM_parent (uM_isDone σ z) = sM_parent σ := rfl
theorem gM_parent_reached (σ : SM) (z : Int32) : sM_parent (uM_reached σ z) = sM_parent σ := rfl
theorem gM_parent_order (σ : SM) (z : Nat → Int32) : sM_parent (uM_order σ z) = sM_parent σ := rfl
theorem gM_parent_at (σ : SM) (z : Nat → Int32) : sM_parent (uM_at σ z) = sM_parent σ := rfl
theorem gM_parent_rules (σ : SM) (z : Nat → Int32) : sM_parent (uM_rules σ z) = sM_parent σ := rfl
theorem gM_parent_parent (σ : SM) (z : Nat → Int32) : sM_parent (uM_parent σ z) = z := rfl
theorem gM_parent_isHead (σ : SM) (z : Nat → Int32) : sM_parent (uM_isHead σ z) = sM_parent σ := rfl
theorem gM_parent_loop (σ : SM) (z : Nat → Int32) : sM_parent (uM_loop σ z) = sM_parent σ := rfl
theorem gM_parent_loopSize (σ : SM) (z : Nat → Int32) : sM_parent (uM_loopSize σ z) = sM_parent σ := rfl
theorem gM_parent_seen (σ : SM) (z : Nat → Int32) : sM_parent (uM_seen σ z) = sM_parent σ := rfl
theorem gM_parent_pile (σ : SM) (z : Nat → Int32) : sM_parent (uM_pile σ z) = sM_parent σ := rfl
theorem gM_parent_next (σ : SM) (z : Nat → Int32) : sM_parent (uM_next σ z) = sM_parent σ := rfl
theorem gM_isHead_thrown (σ : SM) (z : Int32) : sM_isHead (uM_thrown σ z) = sM_isHead σ := rfl
theorem gM_isHead_blocks (σ : SM) (z : Int32) : sM_isHead (uM_blocks σ z) = sM_isHead σ := rfl
theorem gM_isHead_many (σ : SM) (z : Nat → Int32) : sM_isHead (uM_many σ z) = sM_isHead σ := rfl
theorem gM_isHead_ends (σ : SM) (z : Nat → Int32) : sM_isHead (uM_ends σ z) = sM_isHead σ := rfl
theorem gM_isHead_isDone (σ : SM) (z : Int32) : sM_isHead (uM_isDone σ z) = sM_isHead σ := rfl
theorem gM_isHead_reached (σ : SM) (z : Int32) : sM_isHead (uM_reached σ z) = sM_isHead σ := rfl
theorem gM_isHead_order (σ : SM) (z : Nat → Int32) : sM_isHead (uM_order σ z) = sM_isHead σ := rfl
theorem gM_isHead_at (σ : SM) (z : Nat → Int32) : sM_isHead (uM_at σ z) = sM_isHead σ := rfl
theorem gM_isHead_rules (σ : SM) (z : Nat → Int32) : sM_isHead (uM_rules σ z) = sM_isHead σ := rfl
theorem gM_isHead_parent (σ : SM) (z : Nat → Int32) : sM_isHead (uM_parent σ z) = sM_isHead σ := rfl
theorem gM_isHead_isHead (σ : SM) (z : Nat → Int32) : sM_isHead (uM_isHead σ z) = z := rfl
theorem gM_isHead_loop (σ : SM) (z : Nat → Int32) : sM_isHead (uM_loop σ z) = sM_isHead σ := rfl
theorem gM_isHead_loopSize (σ : SM) (z : Nat → Int32) : sM_isHead (uM_loopSize σ z) = sM_isHead σ := rfl
theorem gM_isHead_seen (σ : SM) (z : Nat → Int32) : sM_isHead (uM_seen σ z) = sM_isHead σ := rfl
theorem gM_isHead_pile (σ : SM) (z : Nat → Int32) : sM_isHead (uM_pile σ z) = sM_isHead σ := rfl
theorem gM_isHead_next (σ : SM) (z : Nat → Int32) : sM_isHead (uM_next σ z) = sM_isHead σ := rfl
theorem gM_loop_thrown (σ : SM) (z : Int32) : sM_loop (uM_thrown σ z) = sM_loop σ := rfl
theorem gM_loop_blocks (σ : SM) (z : Int32) : sM_loop (uM_blocks σ z) = sM_loop σ := rfl
theorem gM_loop_many (σ : SM) (z : Nat → Int32) : sM_loop (uM_many σ z) = sM_loop σ := rfl
theorem gM_loop_ends (σ : SM) (z : Nat → Int32) : sM_loop (uM_ends σ z) = sM_loop σ := rfl
theorem gM_loop_isDone (σ : SM) (z : Int32) : sM_loop (uM_isDone σ z) = sM_loop σ := rfl
theorem gM_loop_reached (σ : SM) (z : Int32) : sM_loop (uM_reached σ z) = sM_loop σ := rfl
theorem gM_loop_order (σ : SM) (z : Nat → Int32) : sM_loop (uM_order σ z) = sM_loop σ := rfl
theorem gM_loop_at (σ : SM) (z : Nat → Int32) : sM_loop (uM_at σ z) = sM_loop σ := rfl
theorem gM_loop_rules (σ : SM) (z : Nat → Int32) : sM_loop (uM_rules σ z) = sM_loop σ := rfl
theorem gM_loop_parent (σ : SM) (z : Nat → Int32) : sM_loop (uM_parent σ z) = sM_loop σ := rfl
theorem gM_loop_isHead (σ : SM) (z : Nat → Int32) : sM_loop (uM_isHead σ z) = sM_loop σ := rfl
theorem gM_loop_loop (σ : SM) (z : Nat → Int32) : sM_loop (uM_loop σ z) = z := rfl
theorem gM_loop_loopSize (σ : SM) (z : Nat → Int32) : sM_loop (uM_loopSize σ z) = sM_loop σ := rfl
theorem gM_loop_seen (σ : SM) (z : Nat → Int32) : sM_loop (uM_seen σ z) = sM_loop σ := rfl
theorem gM_loop_pile (σ : SM) (z : Nat → Int32) : sM_loop (uM_pile σ z) = sM_loop σ := rfl
theorem gM_loop_next (σ : SM) (z : Nat → Int32) : sM_loop (uM_next σ z) = sM_loop σ := rfl
theorem gM_loopSize_thrown (σ : SM) (z : Int32) : sM_loopSize (uM_thrown σ z) = sM_loopSize σ := rfl
theorem gM_loopSize_blocks (σ : SM) (z : Int32) : sM_loopSize (uM_blocks σ z) = sM_loopSize σ := rfl
theorem gM_loopSize_many (σ : SM) (z : Nat → Int32) : sM_loopSize (uM_many σ z) = sM_loopSize σ := rfl
theorem gM_loopSize_ends (σ : SM) (z : Nat → Int32) : sM_loopSize (uM_ends σ z) = sM_loopSize σ := rfl
theorem gM_loopSize_isDone (σ : SM) (z : Int32) : sM_loopSize (uM_isDone σ z) = sM_loopSize σ := rfl
theorem gM_loopSize_reached (σ : SM) (z : Int32) : sM_loopSize (uM_reached σ z) = sM_loopSize σ := rfl
theorem gM_loopSize_order (σ : SM) (z : Nat → Int32) : sM_loopSize (uM_order σ z) = sM_loopSize σ := rfl
theorem gM_loopSize_at (σ : SM) (z : Nat → Int32) : sM_loopSize (uM_at σ z) = sM_loopSize σ := rfl
theorem gM_loopSize_rules (σ : SM) (z : Nat → Int32) : sM_loopSize (uM_rules σ z) = sM_loopSize σ := rfl
theorem gM_loopSize_parent (σ : SM) (z : Nat → Int32) : sM_loopSize (uM_parent σ z) = sM_loopSize σ := rfl
theorem gM_loopSize_isHead (σ : SM) (z : Nat → Int32) : sM_loopSize (uM_isHead σ z) = sM_loopSize σ := rfl
theorem gM_loopSize_loop (σ : SM) (z : Nat → Int32) : sM_loopSize (uM_loop σ z) = sM_loopSize σ := rfl
theorem gM_loopSize_loopSize (σ : SM) (z : Nat → Int32) : sM_loopSize (uM_loopSize σ z) = z := rfl
theorem gM_loopSize_seen (σ : SM) (z : Nat → Int32) : sM_loopSize (uM_seen σ z) = sM_loopSize σ := rfl
theorem gM_loopSize_pile (σ : SM) (z : Nat → Int32) : sM_loopSize (uM_pile σ z) = sM_loopSize σ := rfl
theorem gM_loopSize_next (σ : SM) (z : Nat → Int32) : sM_loopSize (uM_next σ z) = sM_loopSize σ := rfl
theorem gM_seen_thrown (σ : SM) (z : Int32) : sM_seen (uM_thrown σ z) = sM_seen σ := rfl
theorem gM_seen_blocks (σ : SM) (z : Int32) : sM_seen (uM_blocks σ z) = sM_seen σ := rfl
theorem gM_seen_many (σ : SM) (z : Nat → Int32) : sM_seen (uM_many σ z) = sM_seen σ := rfl
theorem gM_seen_ends (σ : SM) (z : Nat → Int32) : sM_seen (uM_ends σ z) = sM_seen σ := rfl
theorem gM_seen_isDone (σ : SM) (z : Int32) : sM_seen (uM_isDone σ z) = sM_seen σ := rfl
theorem gM_seen_reached (σ : SM) (z : Int32) : sM_seen (uM_reached σ z) = sM_seen σ := rfl
theorem gM_seen_order (σ : SM) (z : Nat → Int32) : sM_seen (uM_order σ z) = sM_seen σ := rfl
theorem gM_seen_at (σ : SM) (z : Nat → Int32) : sM_seen (uM_at σ z) = sM_seen σ := rfl
theorem gM_seen_rules (σ : SM) (z : Nat → Int32) : sM_seen (uM_rules σ z) = sM_seen σ := rfl
theorem gM_seen_parent (σ : SM) (z : Nat → Int32) : sM_seen (uM_parent σ z) = sM_seen σ := rfl
theorem gM_seen_isHead (σ : SM) (z : Nat → Int32) : sM_seen (uM_isHead σ z) = sM_seen σ := rfl
theorem gM_seen_loop (σ : SM) (z : Nat → Int32) : sM_seen (uM_loop σ z) = sM_seen σ := rfl
theorem gM_seen_loopSize (σ : SM) (z : Nat → Int32) : sM_seen (uM_loopSize σ z) = sM_seen σ := rfl
theorem gM_seen_seen (σ : SM) (z : Nat → Int32) : sM_seen (uM_seen σ z) = z := rfl
theorem gM_seen_pile (σ : SM) (z : Nat → Int32) : sM_seen (uM_pile σ z) = sM_seen σ := rfl
theorem gM_seen_next (σ : SM) (z : Nat → Int32) : sM_seen (uM_next σ z) = sM_seen σ := rfl
theorem gM_pile_thrown (σ : SM) (z : Int32) : sM_pile (uM_thrown σ z) = sM_pile σ := rfl
theorem gM_pile_blocks (σ : SM) (z : Int32) : sM_pile (uM_blocks σ z) = sM_pile σ := rfl
theorem gM_pile_many (σ : SM) (z : Nat → Int32) : sM_pile (uM_many σ z) = sM_pile σ := rfl
theorem gM_pile_ends (σ : SM) (z : Nat → Int32) : sM_pile (uM_ends σ z) = sM_pile σ := rfl
theorem gM_pile_isDone (σ : SM) (z : Int32) : sM_pile (uM_isDone σ z) = sM_pile σ := rfl
theorem gM_pile_reached (σ : SM) (z : Int32) : sM_pile (uM_reached σ z) = sM_pile σ := rfl
theorem gM_pile_order (σ : SM) (z : Nat → Int32) : sM_pile (uM_order σ z) = sM_pile σ := rfl
theorem gM_pile_at (σ : SM) (z : Nat → Int32) : sM_pile (uM_at σ z) = sM_pile σ := rfl
theorem gM_pile_rules (σ : SM) (z : Nat → Int32) : sM_pile (uM_rules σ z) = sM_pile σ := rfl
theorem gM_pile_parent (σ : SM) (z : Nat → Int32) : sM_pile (uM_parent σ z) = sM_pile σ := rfl
theorem gM_pile_isHead (σ : SM) (z : Nat → Int32) : sM_pile (uM_isHead σ z) = sM_pile σ := rfl
theorem gM_pile_loop (σ : SM) (z : Nat → Int32) : sM_pile (uM_loop σ z) = sM_pile σ := rfl
theorem gM_pile_loopSize (σ : SM) (z : Nat → Int32) : sM_pile (uM_loopSize σ z) = sM_pile σ := rfl
theorem gM_pile_seen (σ : SM) (z : Nat → Int32) : sM_pile (uM_seen σ z) = sM_pile σ := rfl
theorem gM_pile_pile (σ : SM) (z : Nat → Int32) : sM_pile (uM_pile σ z) = z := rfl
theorem gM_pile_next (σ : SM) (z : Nat → Int32) : sM_pile (uM_next σ z) = sM_pile σ := rfl
theorem gM_next_thrown (σ : SM) (z : Int32) : sM_next (uM_thrown σ z) = sM_next σ := rfl
theorem gM_next_blocks (σ : SM) (z : Int32) : sM_next (uM_blocks σ z) = sM_next σ := rfl
theorem gM_next_many (σ : SM) (z : Nat → Int32) : sM_next (uM_many σ z) = sM_next σ := rfl
theorem gM_next_ends (σ : SM) (z : Nat → Int32) : sM_next (uM_ends σ z) = sM_next σ := rfl
theorem gM_next_isDone (σ : SM) (z : Int32) : sM_next (uM_isDone σ z) = sM_next σ := rfl
theorem gM_next_reached (σ : SM) (z : Int32) : sM_next (uM_reached σ z) = sM_next σ := rfl
theorem gM_next_order (σ : SM) (z : Nat → Int32) : sM_next (uM_order σ z) = sM_next σ := rfl
theorem gM_next_at (σ : SM) (z : Nat → Int32) : sM_next (uM_at σ z) = sM_next σ := rfl
theorem gM_next_rules (σ : SM) (z : Nat → Int32) : sM_next (uM_rules σ z) = sM_next σ := rfl
theorem gM_next_parent (σ : SM) (z : Nat → Int32) : sM_next (uM_parent σ z) = sM_next σ := rfl
theorem gM_next_isHead (σ : SM) (z : Nat → Int32) : sM_next (uM_isHead σ z) = sM_next σ := rfl
theorem gM_next_loop (σ : SM) (z : Nat → Int32) : sM_next (uM_loop σ z) = sM_next σ := rfl
theorem gM_next_loopSize (σ : SM) (z : Nat → Int32) : sM_next (uM_loopSize σ z) = sM_next σ := rfl
theorem gM_next_seen (σ : SM) (z : Nat → Int32) : sM_next (uM_seen σ z) = sM_next σ := rfl
theorem gM_next_pile (σ : SM) (z : Nat → Int32) : sM_next (uM_pile σ z) = sM_next σ := rfl
theorem gM_next_next (σ : SM) (z : Nat → Int32) : sM_next (uM_next σ z) = z := rfl
theorem rfM_thrown (a : Nat → Nat) (cs : Nat → ClassId) (σ : SM) {z : Int32} (e : sM_thrown σ = z) : ([.int (sM_thrown σ), .int (sM_blocks σ), .ref (a 1), .ref (a 2), .int (sM_isDone σ), .int (sM_reached σ), .ref (a 3), .ref (a 4), .ref (a 5), .ref (a 6), .ref (a 7), .ref (a 8), .ref (a 9), .ref (a 10), .ref (a 11), .ref (a 12)] : List Value)[0]? = some (.int z) := by
  subst e
  rfl
theorem setM_thrown (a : Nat → Nat) (cs : Nat → ClassId) (σ : SM) (z : Int32) : (wsM a cs σ).set 0 (a 0, .inr (5, ([.int (sM_thrown σ), .int (sM_blocks σ), .ref (a 1), .ref (a 2), .int (sM_isDone σ), .int (sM_reached σ), .ref (a 3), .ref (a 4), .ref (a 5), .ref (a 6), .ref (a 7), .ref (a 8), .ref (a 9), .ref (a 10), .ref (a 11), .ref (a 12)] : List Value).set 0 (.int z))) = wsM a cs (uM_thrown σ z) := rfl
theorem rfM_blocks (a : Nat → Nat) (cs : Nat → ClassId) (σ : SM) {z : Int32} (e : sM_blocks σ = z) : ([.int (sM_thrown σ), .int (sM_blocks σ), .ref (a 1), .ref (a 2), .int (sM_isDone σ), .int (sM_reached σ), .ref (a 3), .ref (a 4), .ref (a 5), .ref (a 6), .ref (a 7), .ref (a 8), .ref (a 9), .ref (a 10), .ref (a 11), .ref (a 12)] : List Value)[1]? = some (.int z) := by
  subst e
  rfl
theorem setM_blocks (a : Nat → Nat) (cs : Nat → ClassId) (σ : SM) (z : Int32) : (wsM a cs σ).set 0 (a 0, .inr (5, ([.int (sM_thrown σ), .int (sM_blocks σ), .ref (a 1), .ref (a 2), .int (sM_isDone σ), .int (sM_reached σ), .ref (a 3), .ref (a 4), .ref (a 5), .ref (a 6), .ref (a 7), .ref (a 8), .ref (a 9), .ref (a 10), .ref (a 11), .ref (a 12)] : List Value).set 1 (.int z))) = wsM a cs (uM_blocks σ z) := rfl
theorem rfM_isDone (a : Nat → Nat) (cs : Nat → ClassId) (σ : SM) {z : Int32} (e : sM_isDone σ = z) : ([.int (sM_thrown σ), .int (sM_blocks σ), .ref (a 1), .ref (a 2), .int (sM_isDone σ), .int (sM_reached σ), .ref (a 3), .ref (a 4), .ref (a 5), .ref (a 6), .ref (a 7), .ref (a 8), .ref (a 9), .ref (a 10), .ref (a 11), .ref (a 12)] : List Value)[4]? = some (.int z) := by
  subst e
  rfl
theorem setM_isDone (a : Nat → Nat) (cs : Nat → ClassId) (σ : SM) (z : Int32) : (wsM a cs σ).set 0 (a 0, .inr (5, ([.int (sM_thrown σ), .int (sM_blocks σ), .ref (a 1), .ref (a 2), .int (sM_isDone σ), .int (sM_reached σ), .ref (a 3), .ref (a 4), .ref (a 5), .ref (a 6), .ref (a 7), .ref (a 8), .ref (a 9), .ref (a 10), .ref (a 11), .ref (a 12)] : List Value).set 4 (.int z))) = wsM a cs (uM_isDone σ z) := rfl
theorem rfM_reached (a : Nat → Nat) (cs : Nat → ClassId) (σ : SM) {z : Int32} (e : sM_reached σ = z) : ([.int (sM_thrown σ), .int (sM_blocks σ), .ref (a 1), .ref (a 2), .int (sM_isDone σ), .int (sM_reached σ), .ref (a 3), .ref (a 4), .ref (a 5), .ref (a 6), .ref (a 7), .ref (a 8), .ref (a 9), .ref (a 10), .ref (a 11), .ref (a 12)] : List Value)[5]? = some (.int z) := by
  subst e
  rfl
theorem setM_reached (a : Nat → Nat) (cs : Nat → ClassId) (σ : SM) (z : Int32) : (wsM a cs σ).set 0 (a 0, .inr (5, ([.int (sM_thrown σ), .int (sM_blocks σ), .ref (a 1), .ref (a 2), .int (sM_isDone σ), .int (sM_reached σ), .ref (a 3), .ref (a 4), .ref (a 5), .ref (a 6), .ref (a 7), .ref (a 8), .ref (a 9), .ref (a 10), .ref (a 11), .ref (a 12)] : List Value).set 5 (.int z))) = wsM a cs (uM_reached σ z) := rfl
theorem rdM_many (a : Nat → Nat) (cs : Nat → ClassId) (σ : SM) {f : Nat → Int32} (e : sM_many σ = f) : (wsM a cs σ)[1]? = some (a 1, .inl (cs 0, 64, .inl f)) := by
  subst e
  rfl
theorem setM_many (a : Nat → Nat) (cs : Nat → ClassId) (σ : SM) (f : Nat → Int32) : (wsM a cs σ).set 1 (a 1, .inl (cs 0, 64, .inl f)) = wsM a cs (uM_many σ f) := rfl
theorem rdM_ends (a : Nat → Nat) (cs : Nat → ClassId) (σ : SM) {f : Nat → Int32} (e : sM_ends σ = f) : (wsM a cs σ)[2]? = some (a 2, .inl (cs 1, 512, .inl f)) := by
  subst e
  rfl
theorem setM_ends (a : Nat → Nat) (cs : Nat → ClassId) (σ : SM) (f : Nat → Int32) : (wsM a cs σ).set 2 (a 2, .inl (cs 1, 512, .inl f)) = wsM a cs (uM_ends σ f) := rfl
theorem rdM_order (a : Nat → Nat) (cs : Nat → ClassId) (σ : SM) {f : Nat → Int32} (e : sM_order σ = f) : (wsM a cs σ)[3]? = some (a 3, .inl (cs 2, 64, .inl f)) := by
  subst e
  rfl
theorem setM_order (a : Nat → Nat) (cs : Nat → ClassId) (σ : SM) (f : Nat → Int32) : (wsM a cs σ).set 3 (a 3, .inl (cs 2, 64, .inl f)) = wsM a cs (uM_order σ f) := rfl
theorem rdM_at (a : Nat → Nat) (cs : Nat → ClassId) (σ : SM) {f : Nat → Int32} (e : sM_at σ = f) : (wsM a cs σ)[4]? = some (a 4, .inl (cs 3, 64, .inl f)) := by
  subst e
  rfl
theorem setM_at (a : Nat → Nat) (cs : Nat → ClassId) (σ : SM) (f : Nat → Int32) : (wsM a cs σ).set 4 (a 4, .inl (cs 3, 64, .inl f)) = wsM a cs (uM_at σ f) := rfl
theorem rdM_rules (a : Nat → Nat) (cs : Nat → ClassId) (σ : SM) {f : Nat → Int32} (e : sM_rules σ = f) : (wsM a cs σ)[5]? = some (a 5, .inl (cs 4, 4096, .inl f)) := by
  subst e
  rfl
theorem setM_rules (a : Nat → Nat) (cs : Nat → ClassId) (σ : SM) (f : Nat → Int32) : (wsM a cs σ).set 5 (a 5, .inl (cs 4, 4096, .inl f)) = wsM a cs (uM_rules σ f) := rfl
theorem rdM_parent (a : Nat → Nat) (cs : Nat → ClassId) (σ : SM) {f : Nat → Int32} (e : sM_parent σ = f) : (wsM a cs σ)[6]? = some (a 6, .inl (cs 5, 64, .inl f)) := by
  subst e
  rfl
theorem setM_parent (a : Nat → Nat) (cs : Nat → ClassId) (σ : SM) (f : Nat → Int32) : (wsM a cs σ).set 6 (a 6, .inl (cs 5, 64, .inl f)) = wsM a cs (uM_parent σ f) := rfl
theorem rdM_isHead (a : Nat → Nat) (cs : Nat → ClassId) (σ : SM) {f : Nat → Int32} (e : sM_isHead σ = f) : (wsM a cs σ)[7]? = some (a 7, .inl (cs 6, 64, .inl f)) := by
  subst e
  rfl
theorem setM_isHead (a : Nat → Nat) (cs : Nat → ClassId) (σ : SM) (f : Nat → Int32) : (wsM a cs σ).set 7 (a 7, .inl (cs 6, 64, .inl f)) = wsM a cs (uM_isHead σ f) := rfl
theorem rdM_loop (a : Nat → Nat) (cs : Nat → ClassId) (σ : SM) {f : Nat → Int32} (e : sM_loop σ = f) : (wsM a cs σ)[8]? = some (a 8, .inl (cs 7, 4096, .inl f)) := by
  subst e
  rfl
theorem setM_loop (a : Nat → Nat) (cs : Nat → ClassId) (σ : SM) (f : Nat → Int32) : (wsM a cs σ).set 8 (a 8, .inl (cs 7, 4096, .inl f)) = wsM a cs (uM_loop σ f) := rfl
theorem rdM_loopSize (a : Nat → Nat) (cs : Nat → ClassId) (σ : SM) {f : Nat → Int32} (e : sM_loopSize σ = f) : (wsM a cs σ)[9]? = some (a 9, .inl (cs 8, 64, .inl f)) := by
  subst e
  rfl
theorem setM_loopSize (a : Nat → Nat) (cs : Nat → ClassId) (σ : SM) (f : Nat → Int32) : (wsM a cs σ).set 9 (a 9, .inl (cs 8, 64, .inl f)) = wsM a cs (uM_loopSize σ f) := rfl
theorem rdM_seen (a : Nat → Nat) (cs : Nat → ClassId) (σ : SM) {f : Nat → Int32} (e : sM_seen σ = f) : (wsM a cs σ)[10]? = some (a 10, .inl (cs 9, 64, .inl f)) := by
  subst e
  rfl
theorem setM_seen (a : Nat → Nat) (cs : Nat → ClassId) (σ : SM) (f : Nat → Int32) : (wsM a cs σ).set 10 (a 10, .inl (cs 9, 64, .inl f)) = wsM a cs (uM_seen σ f) := rfl
theorem rdM_pile (a : Nat → Nat) (cs : Nat → ClassId) (σ : SM) {f : Nat → Int32} (e : sM_pile σ = f) : (wsM a cs σ)[11]? = some (a 11, .inl (cs 10, 64, .inl f)) := by
  subst e
  rfl
theorem setM_pile (a : Nat → Nat) (cs : Nat → ClassId) (σ : SM) (f : Nat → Int32) : (wsM a cs σ).set 11 (a 11, .inl (cs 10, 64, .inl f)) = wsM a cs (uM_pile σ f) := rfl
theorem rdM_next (a : Nat → Nat) (cs : Nat → ClassId) (σ : SM) {f : Nat → Int32} (e : sM_next σ = f) : (wsM a cs σ)[12]? = some (a 12, .inl (cs 11, 64, .inl f)) := by
  subst e
  rfl
theorem setM_next (a : Nat → Nat) (cs : Nat → ClassId) (σ : SM) (f : Nat → Int32) : (wsM a cs σ).set 12 (a 12, .inl (cs 11, 64, .inl f)) = wsM a cs (uM_next σ f) := rfl
theorem allM (a : Nat → Nat) (cs : Nat → ClassId) (σ : SM) : [0, 1, 2, 3, 4, 5, 6, 7, 8, 9, 10, 11, 12].map (fun i => (wsM a cs σ)[i]?) = (wsM a cs σ).map some := rfl
def tyM (cs : Nat → ClassId) : List (ClassId × FieldType) := [(cs 0, .int), (cs 1, .int), (cs 2, .int), (cs 3, .int), (cs 4, .boolean), (cs 5, .int), (cs 6, .boolean), (cs 7, .boolean), (cs 8, .int), (cs 9, .boolean), (cs 10, .int), (cs 11, .int)]
def nestWs : List Cond := [Cond.methodLinkNest "BlockRuler$Walk" 57 y_BlockRuler_holds "BlockRuler", Cond.methodLinkNest "BlockRuler$Walk" 61 y_BlockRuler_only "BlockRuler", Cond.methodLinkNest "BlockRuler$Rulers" 25 y_BlockRuler_holds "BlockRuler", Cond.methodLinkNest "BlockRuler$Rulers" 29 y_BlockRuler_only "BlockRuler", Cond.methodLinkNest "BlockRuler$Rulers" 67 y_BlockRuler_least "BlockRuler", Cond.methodLinkNest "BlockRuler$Rulers" 70 y_BlockRuler_withoutLeast "BlockRuler", Cond.methodLinkNest "BlockRuler$Loops" 73 y_BlockRuler_holds "BlockRuler", Cond.methodLinkNest "BlockRuler$Loops" 97 y_BlockRuler_only "BlockRuler", Cond.methodLinkNest "BlockRuler$Loops" 106 y_BlockRuler_least "BlockRuler", Cond.methodLinkNest "BlockRuler$Loops" 109 y_BlockRuler_withoutLeast "BlockRuler"]
theorem nw0 : Cond.methodLinkNest "BlockRuler$Walk" 57 y_BlockRuler_holds "BlockRuler" ∈ nestWs := by decide +kernel
theorem nw1 : Cond.methodLinkNest "BlockRuler$Walk" 61 y_BlockRuler_only "BlockRuler" ∈ nestWs := by decide +kernel
theorem nw2 : Cond.methodLinkNest "BlockRuler$Rulers" 25 y_BlockRuler_holds "BlockRuler" ∈ nestWs := by decide +kernel
theorem nw3 : Cond.methodLinkNest "BlockRuler$Rulers" 29 y_BlockRuler_only "BlockRuler" ∈ nestWs := by decide +kernel
theorem nw4 : Cond.methodLinkNest "BlockRuler$Rulers" 67 y_BlockRuler_least "BlockRuler" ∈ nestWs := by decide +kernel
theorem nw5 : Cond.methodLinkNest "BlockRuler$Rulers" 70 y_BlockRuler_withoutLeast "BlockRuler" ∈ nestWs := by decide +kernel
theorem nw6 : Cond.methodLinkNest "BlockRuler$Loops" 73 y_BlockRuler_holds "BlockRuler" ∈ nestWs := by decide +kernel
theorem nw7 : Cond.methodLinkNest "BlockRuler$Loops" 97 y_BlockRuler_only "BlockRuler" ∈ nestWs := by decide +kernel
theorem nw8 : Cond.methodLinkNest "BlockRuler$Loops" 106 y_BlockRuler_least "BlockRuler" ∈ nestWs := by decide +kernel
theorem nw9 : Cond.methodLinkNest "BlockRuler$Loops" 109 y_BlockRuler_withoutLeast "BlockRuler" ∈ nestWs := by decide +kernel
/-- the links to private members of nest mates, which no walk loses -/
def NW (U : State) : Prop := ∀ w ∈ nestWs, va_Nw w U
theorem NW.warm {s U : State} (hW : s.WarmedH U.vm) (h : NW s) : NW U := fun w hw => by
  have q := h w hw
  simp only [nestWs, List.mem_cons, List.not_mem_nil, or_false] at hw
  rcases hw with rfl | rfl | rfl | rfl | rfl | rfl | rfl | rfl | rfl | rfl <;> exact va_Nw.warmM hW q
theorem NW.call {U : State} {g : JFrame} {mk : MethodId} {a : Array Value} (h : NW U) : NW (U.calling g mk a) := NW.warm (U := U.calling g mk a) (State.WarmedH.refl U) h
-- the class's world, and the reference's
abbrev WBB (dC : Nat → ClassId) (dI : Nat → Nat → Nat) (a : Nat → Nat) (cs : Nat → ClassId) (σ : SB) (U : State) : Prop := va_P (dC, dI) classes (wsB a cs σ) U.heap ∧ va_K (dC, dI) classes (tyB cs) U ∧ NW U
abbrev WDB (dC : Nat → ClassId) (dI : Nat → Nat → Nat) (a : Nat → Nat) (cs : Nat → ClassId) (σ : SB) (U : State) : Prop := va_P (dC, dI) classes (wsB a cs σ) U.heap ∧ va_K (dC, dI) classes (tyB cs) U ∧ NW U ∧ va_D (fun _ => True) (wsB a cs σ)
abbrev atB (dC : Nat → ClassId) (dI : Nat → Nat → Nat) (a : Nat → Nat) (cs : Nat → ClassId) (A : Nat → Prop) (u : SB) (t : State) : Prop := va_P (dC, dI) classes (wsB a cs u) t.heap ∧ va_D A (wsB a cs u)
abbrev WBM (dC : Nat → ClassId) (dI : Nat → Nat → Nat) (a : Nat → Nat) (cs : Nat → ClassId) (σ : SM) (U : State) : Prop := va_P (dC, dI) classes (wsM a cs σ) U.heap ∧ va_K (dC, dI) classes (tyM cs) U ∧ NW U
abbrev WDM (dC : Nat → ClassId) (dI : Nat → Nat → Nat) (a : Nat → Nat) (cs : Nat → ClassId) (σ : SM) (U : State) : Prop := va_P (dC, dI) classes (wsM a cs σ) U.heap ∧ va_K (dC, dI) classes (tyM cs) U ∧ NW U ∧ va_D (fun _ => True) (wsM a cs σ)
abbrev atM (dC : Nat → ClassId) (dI : Nat → Nat → Nat) (a : Nat → Nat) (cs : Nat → ClassId) (A : Nat → Prop) (u : SM) (t : State) : Prop := va_P (dC, dI) classes (wsM a cs u) t.heap ∧ va_D A (wsM a cs u)
theorem wb_blind {av : List Value} {D : va_G} {cl : List vw_C} {ws : va_W} {tys : List (ClassId × FieldType)} : FrameBlind (va_Pc av (fun U => va_P D cl ws U.heap ∧ va_K D cl tys U ∧ NW U)) := fun a U g mk h =>
  ⟨h.1, h.2.1, va_K.moved (u := U) (U := U.calling g mk a) (Vm.Alike.refl U.vm) h.2.2.1, h.2.2.2.call⟩
theorem wbz_blind {av : List Value} {D : va_G} {cl : List vw_C} {ws : va_W} {tys : List (ClassId × FieldType)} {sz : Nat} : FrameBlind (va_Pc av (fun U => U.heap.size = sz ∧ va_P D cl ws U.heap ∧ va_K D cl tys U ∧ NW U ∧ va_D (fun _ => True) ws)) := fun a U g mk h =>
  ⟨h.1, h.2.1, h.2.2.1, va_K.moved (u := U) (U := U.calling g mk a) (Vm.Alike.refl U.vm) h.2.2.2.1, h.2.2.2.2.1.call, h.2.2.2.2.2⟩
theorem wb_pre {s U : State} {H : Heap} {D : va_G} {cl : List vw_C} {ws : va_W} {tys : List (ClassId × FieldType)} (hU : U.heap = H) (hW : s.WarmedH U.vm) (hP : va_P D cl ws H) (hK : va_K D cl tys s) (hN : NW s) : va_P D cl ws U.heap ∧ va_K D cl tys U ∧ NW U :=
  ⟨by rw [hU]; exact hP, va_K.moved hW.alike hK, hN.warm hW⟩
theorem wb_preD {s U : State} {H : Heap} {D : va_G} {cl : List vw_C} {ws : va_W} {tys : List (ClassId × FieldType)} {A : Nat → Prop} (hU : U.heap = H) (hW : s.WarmedH U.vm) (hP : va_P D cl ws H) (hK : va_K D cl tys s) (hN : NW s) (hD : va_D A ws) : va_P D cl ws U.heap ∧ va_K D cl tys U ∧ NW U ∧ va_D (fun _ => True) ws :=
  ⟨by rw [hU]; exact hP, va_K.moved hW.alike hK, hN.warm hW, hD.weaken (fun _ _ _ _ => trivial)⟩
