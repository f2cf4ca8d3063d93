/-- the one link of a nest mate -/
def nestW : Cond := .fieldLinkNest "StrawMen$Reader" 265 "StrawMen" "SIGN_LEVELS" "[I" "StrawMen"
