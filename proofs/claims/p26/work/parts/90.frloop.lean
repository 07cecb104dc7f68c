/-! found on the reference's side: to a loop -/
section RLOOP
variable {s0 s : Zr} {l : Rw}
def gdR (l : Rw) (r : Nat) : Prop := ∃ w, CN (xA1 l) (xS0 l) r w ∧ xGo l w
end RLOOP
