/-! the tables' words that any method may take along -/
def tbl : List Cond := lw_tbl.filter goodWord
theorem tbl_good : GoodIn tbl tbl := fun w h => ⟨h, good_of_word (List.mem_filter.mp h).2⟩
theorem tbl_in {w : Cond} (i : Nat) (h : tables_1[i]? = some w) (g : goodWord w = true) : w ∈ tbl := List.mem_filter.mpr ⟨List.mem_append_right _ (List.mem_of_getElem? h), g⟩
theorem tbl_sel {w : Cond} (i : Nat) (h : (k2_sels lw_privs)[i]? = some w) (g : goodWord w = true) : w ∈ tbl := List.mem_filter.mpr ⟨List.mem_append_left _ (List.mem_of_getElem? h), g⟩
