theorem k_all {l : Launch} {D : va_G} {dA : Nat → ClassId} {AA : Nat → Prop} : ∀ (d a : Nat), ∀ ct ∈ k_P.2.1 a, k_Go l D dA AA d ct := sorry
