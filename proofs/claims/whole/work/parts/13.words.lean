/-! ===== more words and constants ===== -/

