theorem j_all {l : Launch} {D : va_G} {dA : Nat → ClassId} {AA : Nat → Prop} : ∀ (d a : Nat), ∀ ct ∈ j_P.2.1 a, j_Go l D dA AA d ct := sorry
