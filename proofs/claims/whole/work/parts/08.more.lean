theorem zle_n : zle [] [] := trivial
theorem zle_s {v : Value} {L M : List (Option Value)} (h : zle L M) : zle (some v :: L) (some v :: M) := ⟨rfl, h⟩
theorem zle_o {a : Option Value} {L M : List (Option Value)} (h : zle L M) : zle (a :: L) (none :: M) := h
