/-! THE CLASS'S CHANGES, 3: the graph -/
def setN (f : Nat → Nat) (k x : Nat) : Nat → Nat := fun j => if j = k then x else f j
def gW (g : gD) (e w : Nat) : gD := (g.1, g.2.1, g.2.2.1, setN (gWt g) e w, g.2.2.2.2.1, g.2.2.2.2.2.1, g.2.2.2.2.2.2)
def gAdd (g : gD) (u v w : Nat) : gD := ((gN g, gM g + 1, gT g), setN (gLo g) (gM g) (Nat.min u v), setN (gHi g) (gM g) (Nat.max u v), setN (gWt g) (gM g) w, g.2.2.2.2.1, g.2.2.2.2.2.1, g.2.2.2.2.2.2)
def gOn (g : gD) (v : Nat) : gD := ((gN g, gM g, gT g ||| 2 ^ v), g.2.1, g.2.2.1, g.2.2.2.1, g.2.2.2.2.1, (fun w => if w = v then nI v else gLab g w), g.2.2.2.2.2.2)
