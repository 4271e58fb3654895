/-! ===== the words that stay ===== -/
def WT : List Cond := lw_tbl.filter goodWord
