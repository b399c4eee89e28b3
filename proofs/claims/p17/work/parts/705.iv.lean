section EZ01
def ezivop (k : Nat) (p q : Int × Int) : Int × Int := xivop k p q
theorem ezivop_s {k : Nat} {p q : Int × Int} {x y : Int} (h1 : p.1 ≤ x ∧ x ≤ p.2) (h2 : q.1 ≤ y ∧ y ≤ q.2) : (ezivop k p q).1 ≤ xop k x y ∧ xop k x y ≤ (ezivop k p q).2 := xivop_s h1 h2
end EZ01
