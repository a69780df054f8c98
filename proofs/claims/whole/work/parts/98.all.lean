/-! every call's answer, and the two constructors -/
theorem p_all : st_all Rel := ⟨p_row, p_set, p_copy, p_drop, p_feed, p_street, p_fault, p_undo, p_tell, p_year, p_swap, p_close, p_dummy, p_line, p_pads, p_was, p_liars, p_blame, p_right, p_most, p_swaps, p_lent, p_parted, p_addedUp, p_felt, p_twins, p_image, p_restore, p_kind, p_as, p_ask, p_trace, p_count, p_status⟩
