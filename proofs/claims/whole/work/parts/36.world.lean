-- THE WORLD as the constructors leave it
abbrev SBk : Type := (Nat × (Nat × Nat × Nat × Nat × Nat × Nat)) × (Nat × (Nat × Nat × Nat × Nat × Nat)) × (Nat × Nat)
abbrev SX9 : Type := Nat × (Nat × SBk) × (Nat × SBk) × (Nat × (Nat × Nat × Nat × Nat × Nat)) × (Nat × (Nat × SBk)) × (Nat × (Nat × Nat)) × (Nat × (Nat × Nat × Nat))
abbrev SX10 : Type := Nat × Nat × Nat × Nat × Nat × Nat × Nat × Nat × Nat × Nat × Nat
def bA (a : Nat) (u : SBk) : Nat → Nat
  | 0 => a
  | 1 => u.1.1
  | 2 => u.1.2.1
  | 3 => u.1.2.2.1
  | 4 => u.1.2.2.2.1
  | 5 => u.1.2.2.2.2.1
  | 6 => u.1.2.2.2.2.2.1
  | 7 => u.1.2.2.2.2.2.2
  | 8 => u.2.1.1
  | 9 => u.2.1.2.1
  | 10 => u.2.1.2.2.1
  | 11 => u.2.1.2.2.2.1
  | 12 => u.2.1.2.2.2.2.1
  | 13 => u.2.1.2.2.2.2.2
  | 14 => u.2.2.1
  | _ => u.2.2.2
def mA (x y : Nat) (u : SX9) (v : SX10) : Nat → Nat
  | 16 => x
  | 17 => u.1
  | 18 => u.2.2.2.1.1
  | 19 => u.2.2.2.1.2.1
  | 20 => u.2.2.2.1.2.2.1
  | 21 => u.2.2.2.1.2.2.2.1
  | 22 => u.2.2.2.1.2.2.2.2.1
  | 23 => u.2.2.2.1.2.2.2.2.2
  | 24 => u.2.2.2.2.1.1
  | 25 => u.2.2.2.2.2.1.1
  | 26 => u.2.2.2.2.2.1.2.1
  | 27 => u.2.2.2.2.2.1.2.2
  | 28 => u.2.2.2.2.2.2.1
  | 29 => u.2.2.2.2.2.2.2.1
  | 30 => u.2.2.2.2.2.2.2.2.1
  | 31 => u.2.2.2.2.2.2.2.2.2
  | 32 => y
  | 33 => v.1
  | 34 => v.2.1
  | 35 => v.2.2.1
  | 36 => v.2.2.2.1
  | 37 => v.2.2.2.2.1
  | 38 => v.2.2.2.2.2.1
  | 39 => v.2.2.2.2.2.2.1
  | 40 => v.2.2.2.2.2.2.2.1
  | 41 => v.2.2.2.2.2.2.2.2.1
  | 42 => v.2.2.2.2.2.2.2.2.2.1
  | _ => v.2.2.2.2.2.2.2.2.2.2
def adW (b x y : Nat) (u : SX9) (v : SX10) (tS aK aV : Nat → Nat) : Nat → Nat → Nat
  | 0 => bA u.2.1.1 u.2.1.2
  | 1 => bA u.2.2.1.1 u.2.2.1.2
  | 2 => bA u.2.2.2.2.1.2.1 u.2.2.2.2.1.2.2
  | 9 => tS
  | 10 => aK
  | 11 => aV
  | 12 => fun _ => b
  | _ => mA x y u v
def h00 : HI := fun _ k => match k with
  | 0 => fun j => if j = 3 then 60 else 0
  | 33 => upd (fun _ => 0) 2 60
  | _ => fun _ => 0
def L00 : HL := fun _ _ _ => 0
def plW : List Nat := ((List.range 16).map fun k => 2 + k) ++ ((List.range 16).map fun k => 18 + k) ++ ((List.range 16).map fun k => 41 + k) ++ [0, 1, 34, 35, 36, 37, 38, 39, 40, 57, 58, 59, 60, 61, 62, 63, 64, 65, 66, 67, 68, 69, 70, 71, 72, 73, 74, 75]
def acW (cI cL : ClassId) : Nat → Nat → ClassId := fun _ k => if isL k = true then cL else cI
set_option maxRecDepth 100000 in
set_option maxHeartbeats 4000000 in
theorem wE (D : va_G) (cI cL : ClassId) (b x y : Nat) (u : SX9) (v : SX10) (tS aK aV : Nat → Nat) : plW.map (fun i => (cX9 cI cL x u ++ cX10 cI cL y v)[i]?) = (wsW (D, adW b x y u v tS aK aV, acW cI cL) h00 L00).map some := by
  rfl
theorem fm_of {α β : Type} {f : α → Option β} : ∀ {is : List α} {ws : List β}, is.map f = ws.map some → is.filterMap f = ws
  | [], [], _ => rfl
  | [], _ :: _, h => by cases h
  | _ :: _, [], h => by cases h
  | i :: is, w :: ws, h => by
    simp only [List.map_cons, List.cons.injEq] at h
    rw [List.filterMap_cons_some h.1, fm_of h.2]
