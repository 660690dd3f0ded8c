theorem jck_all (k : Nat) : jPP (jM k) := sorry
